abbrev isK (k : Int32) : Prop := ¬ k < 0 ∧ ¬ nI 100 ≤ k
abbrev isV (v : Int32) : Prop := ¬ v < -1000 ∧ ¬ nI 1000 < v
abbrev isT (t : Int32) (N : Nat) : Prop := ¬ t < 0 ∧ ¬ nI N ≤ t
abbrev kn (x : Int32) : Nat := x.toNatClampNeg
theorem isT_nI {t : Int32} {N : Nat} (hN : N < 2 ^ 31) (h : isT t N) : ∃ k, k < N ∧ t = nI k ∧ kn t = k := by
  rcases pk_ix t hN with h1 | h1 | ⟨j, h1, h2⟩
  · exact absurd h1 h.1
  · exact absurd h1 h.2
  · exact ⟨j, h1, h2, by rw [h2]; exact nI_clamp (by omega)⟩
theorem isK_nI {t : Int32} (h : isK t) : ∃ k, k < 100 ∧ t = nI k ∧ kn t = k := isT_nI (N := 100) (by decide) h
abbrev lnP (G : Nat) (ow rk : Nat → Int32) (t : Int32) : Nat → Bool := fun q => ow (gof G (rk q)) == t
abbrev wgP (G : Nat) (rk : Nat → Int32) (g : Int32) : Nat → Bool := fun q => nI (gof G (rk q)) == g
def fN (P : Nat → Bool) (f : Nat → Int32) (k : Nat) : Int32 := if fst P k < k then f (fst P k) else -106
def selI (w : Int32) (l : List Int32) : Int32 := if w.toInt < 0 ∨ (l.length : Int) ≤ w.toInt then -102 else l.getD w.toInt.toNat 0
theorem selI_out {w : Int32} {l : List Int32} {n : Int} (h : w.toInt < 0 ∨ n < w.toInt) (hn : (l.length : Int) = n + 1) : selI w l = -102 := by
  unfold selI
  rw [if_pos (by rcases h with h | h; exact Or.inl h; right; omega)]
theorem selI_at {w : Int32} {l : List Int32} (k : Nat) {v : Int32} (h : w.toInt = (k : Int)) (hv : l[k]? = some v) : selI w l = v := by
  have hl : k < l.length := (List.getElem?_eq_some_iff.mp hv).1
  unfold selI
  rw [h, if_neg (by omega)]
  simp [List.getD_eq_getElem?_getD, hv]
def dgs (ow ep : Nat → Int32) : Nat → Int32
  | 0 => nI 17
  | k + 1 => nI 31 * dgs ow ep k + nI 100 * ow k + ep k
abbrev ahP (we : Nat → Int32) (g : Nat) : Nat → Bool := fun o => decide (we g < we o) || (we o == we g && decide (o < g))
abbrev hotP (G : Nat) (we : Nat → Int32) (k : Int32) : Nat → Bool := fun g => decide (¬ we g * nI G ≤ nI 2 * sm we G) && (nI (cnt (ahP we g) G) == k)
theorem fI_ne {P : Nat → Bool} {k : Nat} (hk : k < 1000) (h : ¬ fI P k = -106) : fst P k < k ∧ fI P k = nI (fst P k) := by
  unfold fI at h ⊢
  by_cases q : fst P k < k
  · exact ⟨q, if_pos q⟩
  · exact absurd (if_neg q) h
theorem fI_eq {P : Nat → Bool} {k : Nat} (hk : k < 1000) (h : fI P k = -106) : ¬ fst P k < k := by
  intro q
  unfold fI at h
  rw [if_pos q] at h
  have h2 : (nI (fst P k)).toInt = (fst P k : Int) := nI_toInt (by omega)
  rw [h] at h2
  have : (-106 : Int32).toInt = -106 := by decide
  omega
