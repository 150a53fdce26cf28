def rwt (e0 : Nat → Int32) (f : Nat → Nat) : Nat → (Nat → Int32)
  | 0 => e0
  | i + 1 => eup (rwt e0 f i) i (f i)
theorem rwt_out {e0 : Nat → Int32} {f : Nat → Nat} : ∀ {i a : Nat}, i ≤ a → rwt e0 f i a = e0 a
  | 0, _, _ => rfl
  | i + 1, a, h => by
    show eup (rwt e0 f i) i (f i) a = _
    unfold eup
    split
    · exact rwt_out (by omega)
    · unfold upd
      rw [if_neg (by omega)]
      exact rwt_out (by omega)
theorem rwt_at {e0 : Nat → Int32} {f : Nat → Nat} : ∀ {i a : Nat}, a < i → f a ≠ 0 → rwt e0 f i a = nI (f a)
  | 0, a, h, _ => absurd h (Nat.not_lt_zero a)
  | i + 1, a, h, h0 => by
    show eup (rwt e0 f i) i (f i) a = _
    by_cases q : a = i
    · subst q
      unfold eup
      rw [if_neg h0]
      exact if_pos rfl
    · have h2 := rwt_at (e0 := e0) (f := f) (i := i) (a := a) (by omega) h0
      unfold eup
      split
      · exact h2
      · unfold upd
        rw [if_neg q]
        exact h2
theorem nI_ne100 {k : Nat} (h0 : 0 < k) (hk : k < 1000) : ¬ nI 100 * nI k = 0 := by
  rw [pk_mul]
  exact nI_ne0 (by omega) (by omega)
theorem nI_dn {a : Nat} {r : Nat} (h : r < a) : nI (a - r) - nI 1 + Int32.ofInt (-1) = nI (a - (r + 1)) - nI 1 := by
  rw [show a - r = (a - (r + 1)) + 1 by omega, ← nI_add]
  rw [show Int32.ofInt (-1) = -nI 1 by decide]
  rw [Int32.add_sub_cancel]
  rw [Int32.sub_eq_add_neg]
