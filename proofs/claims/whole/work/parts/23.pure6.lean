abbrev inL (v lo hi : Int64) : Prop := lo ≤ v ∧ v ≤ hi
theorem l_le (a b : Int32) : a.toInt64 ≤ b.toInt64 ↔ a ≤ b := by
  rw [Int64.le_iff_toInt_le, Int32.le_iff_toInt_le, Int32.toInt_toInt64, Int32.toInt_toInt64]
theorem inL_i {x : Int32} {lo hi : Int64} (a b : Int32) (ha : lo = a.toInt64) (hb : hi = b.toInt64) : inL x.toInt64 lo hi ↔ ¬ x < a ∧ x ≤ b := by
  subst ha
  subst hb
  unfold inL
  rw [l_le, l_le, Int32.not_lt]
theorem inV {x : Int32} : inL x.toInt64 (-1000) 1000 ↔ isV x := by
  rw [inL_i (-1000) (nI 1000) (by decide) (by decide)]
  unfold isV
  rw [Int32.not_lt (a := nI 1000)]
theorem nI_le_pred {x : Int32} {N : Nat} (h0 : 0 < N) (hN : N < 2 ^ 31) : x ≤ nI (N - 1) ↔ ¬ nI N ≤ x := by
  rw [Int32.not_le, Int32.le_iff_toInt_le, Int32.lt_iff_toInt_lt, nI_toInt (by omega), nI_toInt (by omega)]
  omega
theorem inT {x : Int32} {N : Nat} (h0 : 0 < N) (hN : N < 2 ^ 31) : inL x.toInt64 0 (nI (N - 1)).toInt64 ↔ isT x N := by
  rw [inL_i 0 (nI (N - 1)) (by decide) rfl, nI_le_pred h0 hN]
/-- rows that wait for task t, in the reference -/
abbrev wtP (G : Nat) (ow rk wa : Nat → Int32) (t : Int32) : Nat → Bool := fun q => (!(wa q == 0)) && (ow (gof G (rk q)) == t)
def enc (v : Nat) : Int64 := if v < 1000000 then lN v else -1
theorem enc_t {v : Nat} (h : v < 1000000) : enc v = lN v := if_pos h
theorem enc_f {v : Nat} (h : ¬ v < 1000000) : enc v = -1 := if_neg h
theorem enc_neg {v : Nat} : enc v < 0 ↔ ¬ v < 1000000 := by
  by_cases h : v < 1000000
  · rw [enc_t h]
    constructor
    · intro z
      have h2 : (lN v).toInt = (v : Int) := lN_toInt (by omega)
      have h3 := Int64.lt_iff_toInt_lt.mp z
      rw [h2] at h3
      have : (0 : Int64).toInt = 0 := by decide
      omega
    · intro z; exact absurd h z
  · rw [enc_f h]
    constructor
    · intro _; exact h
    · intro _; decide
theorem enc_eq {v u : Nat} (h : v < 1000000) : enc v = enc u ↔ v = u := by
  by_cases h2 : u < 1000000
  · rw [enc_t h, enc_t h2]; exact lN_eq (by omega) (by omega)
  · constructor
    · intro e
      have h3 : enc u < 0 := enc_neg.mpr h2
      rw [← e] at h3
      exact absurd h (enc_neg.mp h3)
    · intro e; omega
theorem enc_lt {v u : Nat} (h : v < 1000000) (h2 : u < 1000000) : enc v < enc u ↔ v < u := by
  rw [enc_t h, enc_t h2]; exact lN_lt (by omega) (by omega)
/-- what the reference's tryRange answers -/
def trv (w cs B : Nat → Nat) (lim a k : Nat) : Int64 := if B (a + k) < 1000000 ∧ sN (fun j => w (a + j)) k ≤ lim then enc (sN (fun j => cs (a + j)) k + B (a + k)) else -1
