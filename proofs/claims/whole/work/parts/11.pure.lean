/-- floorMod by 32, as the code has it -/
def fm32 (x : Int32) : Int32 := if 0 ≤ x ^^^ nI 32 then x - x / nI 32 * nI 32 else if x - x / nI 32 * nI 32 = 0 then x - x / nI 32 * nI 32 else x - x / nI 32 * nI 32 + nI 32
set_option maxRecDepth 100000 in
theorem fm32_all : ∀ a, a < 32 → ∀ i, i < 32 → fm32 (nI a - nI 1 - nI i) = nI ((a + 63 - i) % 32) := by decide +kernel
theorem fm32_at {a i : Nat} (ha : a < 32) (hi : i < 32) : fm32 (nI a - nI 1 - nI i) = nI ((a + 63 - i) % 32) := fm32_all a ha i hi
/-- a new timer (k, t) comes ahead of (k2, t2) -/
abbrev tah (k t k2 t2 : Int32) : Prop := t < t2 ∨ (t = t2 ∧ k < k2)
/-- its place among the first i: behind the last that it does not come ahead of -/
def tpl (k t : Int32) (tk tt : Nat → Int32) : Nat → Nat
  | 0 => 0
  | i + 1 => if tah k t (tk i) (tt i) then tpl k t tk tt i else i + 1
theorem tpl_le (k t : Int32) (tk tt : Nat → Int32) : ∀ i, tpl k t tk tt i ≤ i
  | 0 => Nat.le_refl _
  | i + 1 => by
    have := tpl_le k t tk tt i
    unfold tpl
    split <;> omega
theorem tpl_s {k t : Int32} {tk tt : Nat → Int32} {i : Nat} (hi : 0 < i) (h : tah k t (tk (i - 1)) (tt (i - 1))) : tpl k t tk tt (i - 1) = tpl k t tk tt i := by
  obtain ⟨j, rfl⟩ : ∃ j, i = j + 1 := ⟨i - 1, by omega⟩
  conv => rhs; unfold tpl
  exact (if_pos h).symm
theorem tpl_e {k t : Int32} {tk tt : Nat → Int32} {i : Nat} (hi : 0 < i) (h : ¬ tah k t (tk (i - 1)) (tt (i - 1))) : tpl k t tk tt i = i := by
  obtain ⟨j, rfl⟩ : ∃ j, i = j + 1 := ⟨i - 1, by omega⟩
  unfold tpl
  exact if_neg h
theorem cpy00 {α : Type} {f g : Nat → α} {n j : Nat} (h : j < n) : va_cpy f g 0 0 n j = f j := by
  unfold va_cpy
  rw [if_pos ⟨Nat.zero_le _, by omega⟩]
  simp
theorem nI_min {x y : Nat} (hx : x < 1000) (hy : y < 1000) : (if nI y < nI x then nI y else nI x) = nI (min x y) := by
  by_cases h : y < x
  · rw [if_pos (nI_lt h (by omega)), Nat.min_eq_right (by omega)]
  · rw [if_neg (nI_nlt (by omega) (by omega)), Nat.min_eq_left (by omega)]
