/-- states behind i timers -/
def tC (ks ct : Nat → Int32) : Nat → (Nat → Int32)
  | 0 => ct
  | i + 1 => upd (tC ks ct i) (kn (ks i)) (nI 0)
def tS (ks : Nat → Int32) (su : Nat → Int64) : Nat → (Nat → Int64)
  | 0 => su
  | i + 1 => vp_updL (tS ks su i) (kn (ks i)) 0
/-- a ring of 32 behind i more, from x on -/
def lgI (x : Nat) (v f : Nat → Int32) : Nat → (Nat → Int32)
  | 0 => f
  | i + 1 => upd (lgI x v f i) ((x + i) % 32) (v i)
def lgJ (x : Nat) (v f : Nat → Int64) : Nat → (Nat → Int64)
  | 0 => f
  | i + 1 => vp_updL (lgJ x v f i) ((x + i) % 32) (v i)
theorem lx_s {a : Nat} : (a % 32 + 1) % 32 = (a + 1) % 32 := by omega
theorem lz_s {a : Nat} : min (min a 32 + 1) 32 = min (a + 1) 32 := by omega
theorem tn_nI {tn : Int32} {mo : Nat} (hmo : mo ≤ 12) (h1 : nI 1 ≤ tn) (h2 : tn ≤ nI mo) : ∃ m1, 0 < m1 ∧ m1 ≤ mo ∧ tn = nI m1 ∧ kn tn = m1 := by
  have h0 : ¬ tn < 0 := fun z => absurd (Int32.lt_of_le_of_lt h1 z) (by decide)
  obtain ⟨j, hj, e⟩ := nI_of h0
  have hm : j ≤ mo := (nI_leI hj (by omega)).mp (by rw [← e]; exact h2)
  have hp : 1 ≤ j := (nI_leI (by decide) hj).mp (by rw [← e]; exact h1)
  exact ⟨j, hp, hm, e, by rw [e]; exact nI_clamp hj⟩
theorem nI_nm1 {k : Nat} (h : k < 1000000) : ¬ nI k = -1 := by
  intro e
  have h2 : (nI k).toInt = (k : Int) := nI_toInt (by omega)
  rw [e] at h2
  have : (-1 : Int32).toInt = -1 := by decide
  omega
