theorem cnt_mono (P : Nat → Bool) {i n : Nat} (h : i ≤ n) : cnt P i ≤ cnt P n := by
  induction n with
  | zero => have : i = 0 := by omega
            subst this; exact Nat.le_refl _
  | succ n ih =>
    rcases Nat.lt_or_ge i (n + 1) with q | q
    · have h1 := ih (by omega)
      have h2 : cnt P n ≤ cnt P (n + 1) := by show cnt P n ≤ cnt P n + (if P n then 1 else 0); omega
      omega
    · have : i = n + 1 := by omega
      subst this; exact Nat.le_refl _
theorem cnt_lt {P : Nat → Bool} {q n : Nat} (h : P q = true) (hq : q < n) : cnt P q < cnt P n := by
  have h1 := cnt_t h
  have h2 := cnt_mono P (show q + 1 ≤ n by omega)
  omega
theorem cnt_congr {P Q : Nat → Bool} : ∀ {n : Nat}, (∀ j, j < n → P j = Q j) → cnt P n = cnt Q n
  | 0, _ => rfl
  | n + 1, h => by
    show cnt P n + (if P n then 1 else 0) = cnt Q n + (if Q n then 1 else 0)
    rw [cnt_congr (fun j hj => h j (by omega)), h n (by omega)]
theorem cnt_inv {P : Nat → Bool} : ∀ {n j : Nat}, j < cnt P n → ∃ q, q < n ∧ P q = true ∧ cnt P q = j
  | 0, j, h => absurd h (Nat.not_lt_zero j)
  | n + 1, j, h => by
    cases hp : P n with
    | true =>
      rw [cnt_t hp] at h
      rcases Nat.lt_or_ge j (cnt P n) with z | z
      · obtain ⟨q, h1, h2, h3⟩ := cnt_inv z
        exact ⟨q, by omega, h2, h3⟩
      · exact ⟨n, by omega, hp, by omega⟩
    | false =>
      rw [cnt_f hp] at h
      obtain ⟨q, h1, h2, h3⟩ := cnt_inv h
      exact ⟨q, by omega, h2, h3⟩
theorem fst_no {P : Nat → Bool} : ∀ {n : Nat}, ¬ fst P n < n → ∀ j, j < n → P j = false
  | 0, _, j, hj => absurd hj (Nat.not_lt_zero j)
  | n + 1, h, j, hj => by
    by_cases q : fst P n < n
    · have e : fst P (n + 1) = fst P n := if_pos q
      omega
    · have hall := fst_no q
      cases hp : P n with
      | true =>
        have e : fst P (n + 1) = n := fst_at hall hp (by omega)
        omega
      | false => rcases Nat.lt_succ_iff_lt_or_eq.mp hj with z | z; exact hall j z; rw [z]; exact hp
theorem fst_spec {P : Nat → Bool} : ∀ {n : Nat}, fst P n < n → P (fst P n) = true ∧ ∀ j, j < fst P n → P j = false
  | 0, h => absurd h (Nat.not_lt_zero _)
  | n + 1, h => by
    by_cases q : fst P n < n
    · obtain ⟨h1, h2⟩ := fst_spec q
      have e : fst P (n + 1) = fst P n := if_pos q
      rw [e]; exact ⟨h1, h2⟩
    · have hle := fst_le P n
      have he : fst P n = n := by omega
      have hall : ∀ j, j < n → P j = false := fst_no (by omega)
      cases hp : P n with
      | true =>
        have e : fst P (n + 1) = n := fst_at hall hp (by omega)
        rw [e]; exact ⟨hp, hall⟩
      | false =>
        have e : fst P (n + 1) = n + 1 := fst_none (fun j hj => by rcases Nat.lt_succ_iff_lt_or_eq.mp hj with z | z; exact hall j z; rw [z]; exact hp)
        omega
/-- rows that wait: packed beside marked -/
def RR (rs ca : Nat) (rn rk rv mrk mrv mwa : Nat → Int32) : Prop :=
  ca ≤ 400 ∧ rs = cnt (mvz mwa) ca ∧ (∀ q, q < ca → mvz mwa q = true → rn (cnt (mvz mwa) q) = nI q ∧ rk (cnt (mvz mwa) q) = mrk q ∧ rv (cnt (mvz mwa) q) = mrv q) ∧ (∀ q, q < ca → mwa q = 0 ∨ mwa q = 1) ∧ (∀ q, q < ca → ∃ k, k < 100 ∧ mrk q = nI k)
theorem RR_le {rs ca : Nat} {rn rk rv mrk mrv mwa : Nat → Int32} (h : RR rs ca rn rk rv mrk mrv mwa) : rs ≤ ca := by rw [h.2.1]; exact cnt_le _ _
theorem RR_keys {rs ca : Nat} {rn rk rv mrk mrv mwa : Nat → Int32} (h : RR rs ca rn rk rv mrk mrv mwa) : ∀ j, j < rs → ∃ k, k < 100 ∧ rk j = nI k := by
  intro j hj
  rw [h.2.1] at hj
  obtain ⟨q, h1, h2, h3⟩ := cnt_inv hj
  obtain ⟨k, hk, e⟩ := h.2.2.2.2 q h1
  exact ⟨k, hk, by rw [← h3, (h.2.2.1 q h1 h2).2.1]; exact e⟩
theorem RR_cnt {rs ca : Nat} {rn rk rv mrk mrv mwa : Nat → Int32} (h : RR rs ca rn rk rv mrk mrv mwa) (P : Int32 → Bool) : cnt (fun q => mvz mwa q && P (mrk q)) ca = cnt (fun j => P (rk j)) rs := by
  have key : ∀ n, n ≤ ca → cnt (fun q => mvz mwa q && P (mrk q)) n = cnt (fun j => P (rk j)) (cnt (mvz mwa) n) := by
    intro n
    induction n with
    | zero => intro _; rfl
    | succ n ih =>
      intro hn
      have ih := ih (by omega)
      cases hz : mvz mwa n with
      | true =>
        have e := (h.2.2.1 n (by omega) hz).2.1
        rw [cnt_t hz]
        cases hp : P (mrk n) with
        | true => rw [cnt_t (by simp [hz, hp]), cnt_t (by rw [e]; exact hp), ih]
        | false => rw [cnt_f (by simp [hz, hp]), cnt_f (by rw [e]; exact hp), ih]
      | false =>
        rw [cnt_f hz, cnt_f (by simp [hz]), ih]
  rw [h.2.1]
  exact key ca (Nat.le_refl _)
theorem RR_fst {rs ca : Nat} {rn rk rv mrk mrv mwa : Nat → Int32} (h : RR rs ca rn rk rv mrk mrv mwa) (P : Int32 → Bool) : (fst (fun q => mvz mwa q && P (mrk q)) ca < ca ∧ fst (fun j => P (rk j)) rs < rs ∧ fst (fun j => P (rk j)) rs = cnt (mvz mwa) (fst (fun q => mvz mwa q && P (mrk q)) ca) ∧ mvz mwa (fst (fun q => mvz mwa q && P (mrk q)) ca) = true) ∨ (¬ fst (fun q => mvz mwa q && P (mrk q)) ca < ca ∧ ¬ fst (fun j => P (rk j)) rs < rs) := by
  by_cases hq : fst (fun q => mvz mwa q && P (mrk q)) ca < ca
  · left
    obtain ⟨h1, h2⟩ := fst_spec hq
    generalize fst (fun q => mvz mwa q && P (mrk q)) ca = q0 at *
    have hz : mvz mwa q0 = true := by simp only [Bool.and_eq_true] at h1; exact h1.1
    have hp : P (mrk q0) = true := by simp only [Bool.and_eq_true] at h1; exact h1.2
    have hlt : cnt (mvz mwa) q0 < rs := by rw [h.2.1]; exact cnt_lt hz hq
    have e := fst_at (P := fun j => P (rk j)) (i := cnt (mvz mwa) q0) (fun j hj => by
      obtain ⟨q, g1, g2, g3⟩ := cnt_inv hj
      have := h2 q g1
      simp only [g2, Bool.true_and] at this
      show P (rk j) = false
      rw [← g3, (h.2.2.1 q (by omega) g2).2.1]
      exact this) (by show P (rk _) = true; rw [(h.2.2.1 q0 hq hz).2.1]; exact hp) hlt
    exact ⟨hq, by rw [e]; exact hlt, e, hz⟩
  · right
    refine ⟨hq, ?_⟩
    have hall := fst_no hq
    have e := fst_none (P := fun j => P (rk j)) (k := rs) (fun j hj => by
      rw [h.2.1] at hj
      obtain ⟨q, g1, g2, g3⟩ := cnt_inv hj
      have := hall q g1
      simp only [g2, Bool.true_and] at this
      show P (rk j) = false
      rw [← g3, (h.2.2.1 q g1 g2).2.1]
      exact this)
    omega
theorem upd_lt {f : Nat → Int32} {k j : Nat} {x : Int32} (h : j < k) : upd f k x j = f j := if_neg (by omega)
theorem upd_at {f : Nat → Int32} {k : Nat} {x : Int32} : upd f k x k = x := if_pos rfl
theorem upd_ne {f : Nat → Int32} {k j : Nat} {x : Int32} (h : j ≠ k) : upd f k x j = f j := if_neg h
theorem RR_new {rs ca : Nat} {rn rk rv mrk mrv mwa : Nat → Int32} (h : RR rs ca rn rk rv mrk mrv mwa) (hc : ca < 400) {key v : Int32} (hk : ∃ k, k < 100 ∧ key = nI k) : RR (rs + 1) (ca + 1) (upd rn rs (nI ca)) (upd rk rs key) (upd rv rs v) (upd mrk ca key) (upd mrv ca v) (upd mwa ca (nI 1)) := by
  have hw : ∀ n, n ≤ ca → cnt (mvz (upd mwa ca (nI 1))) n = cnt (mvz mwa) n := fun n hn => cnt_congr (fun j hj => by show (!(upd mwa ca (nI 1) j == 0)) = _; rw [upd_lt (by omega)])
  have hca : mvz (upd mwa ca (nI 1)) ca = true := by show (!(upd mwa ca (nI 1) ca == 0)) = true; rw [upd_at]; decide
  refine ⟨by omega, ?_, ?_, ?_, ?_⟩
  · rw [cnt_t hca, hw ca (Nat.le_refl _), ← h.2.1]
  · intro q hq hz
    rcases Nat.lt_succ_iff_lt_or_eq.mp hq with z | z
    · have hz' : mvz mwa q = true := by
        have : mvz (upd mwa ca (nI 1)) q = mvz mwa q := by show (!(upd mwa ca (nI 1) q == 0)) = _; rw [upd_lt z]
        rw [← this]; exact hz
      rw [hw q (by omega)]
      have hlt : cnt (mvz mwa) q < rs := by rw [h.2.1]; exact cnt_lt hz' z
      rw [upd_lt hlt, upd_lt hlt, upd_lt hlt, upd_lt z, upd_lt z]
      exact h.2.2.1 q z hz'
    · subst z
      rw [hw q (Nat.le_refl _), ← h.2.1, upd_at, upd_at, upd_at, upd_at, upd_at]
      exact ⟨rfl, rfl, rfl⟩
  · intro q hq
    rcases Nat.lt_succ_iff_lt_or_eq.mp hq with z | z
    · rw [upd_lt z]; exact h.2.2.2.1 q z
    · subst z; rw [upd_at]; exact Or.inr rfl
  · intro q hq
    rcases Nat.lt_succ_iff_lt_or_eq.mp hq with z | z
    · rw [upd_lt z]; exact h.2.2.2.2 q z
    · subst z; rw [upd_at]; exact hk
theorem RR_take {rs ca q0 : Nat} {rn rk rv mrk mrv mwa : Nat → Int32} (h : RR rs ca rn rk rv mrk mrv mwa) (hq : q0 < ca) (hz0 : mvz mwa q0 = true) {j0 : Nat} (hj : j0 = cnt (mvz mwa) q0) : RR (rs - 1) ca (va_cpy rn rn (j0 + 1) j0 (rs - j0 - 1)) (va_cpy rk rk (j0 + 1) j0 (rs - j0 - 1)) (va_cpy rv rv (j0 + 1) j0 (rs - j0 - 1)) mrk mrv (upd mwa q0 (nI 0)) := by
  have hlt : j0 < rs := by rw [hj, h.2.1]; exact cnt_lt hz0 hq
  have hoff : mvz (upd mwa q0 (nI 0)) q0 = false := by show (!(upd mwa q0 (nI 0) q0 == 0)) = false; rw [upd_at]; decide
  have hother : ∀ q, q ≠ q0 → mvz (upd mwa q0 (nI 0)) q = mvz mwa q := fun q hne => by show (!(upd mwa q0 (nI 0) q == 0)) = _; rw [upd_ne hne]
  have hlo : ∀ n, n ≤ q0 → cnt (mvz (upd mwa q0 (nI 0))) n = cnt (mvz mwa) n := fun n hn => cnt_congr (fun j hj => hother j (by omega))
  have hhi : ∀ n, q0 < n → cnt (mvz (upd mwa q0 (nI 0))) n + 1 = cnt (mvz mwa) n := by
    intro n
    induction n with
    | zero => intro z; omega
    | succ n ih =>
      intro z
      by_cases e : n = q0
      · subst e; rw [cnt_f hoff, cnt_t hz0, hlo n (Nat.le_refl _)]
      · have ih := ih (by omega)
        cases hp : mvz mwa n with
        | true => rw [cnt_t (P := mvz mwa) hp, cnt_t (by rw [hother n e]; exact hp)]; omega
        | false => rw [cnt_f (P := mvz mwa) hp, cnt_f (by rw [hother n e]; exact hp)]; omega
  refine ⟨h.1, ?_, ?_, ?_, h.2.2.2.2⟩
  · have := hhi ca hq
    rw [← h.2.1] at this
    omega
  · intro q hqc hz
    have hne : q ≠ q0 := fun e => by subst e; rw [hoff] at hz; cases hz
    have hz' : mvz mwa q = true := by rw [← hother q hne]; exact hz
    have hrow := h.2.2.1 q hqc hz'
    have hqlt : cnt (mvz mwa) q < rs := by rw [h.2.1]; exact cnt_lt hz' hqc
    rcases Nat.lt_or_ge q q0 with z | z
    · have hc : cnt (mvz mwa) q < j0 := by rw [hj]; exact cnt_lt hz' z
      rw [hlo q (by omega), pk_cpy_out (Or.inl hc), pk_cpy_out (Or.inl hc), pk_cpy_out (Or.inl hc)]
      exact hrow
    · have hc : j0 < cnt (mvz mwa) q := by rw [hj]; exact cnt_lt hz0 (by omega)
      have hh := hhi q (by omega)
      have e : ∀ f : Nat → Int32, va_cpy f f (j0 + 1) j0 (rs - j0 - 1) (cnt (mvz (upd mwa q0 (nI 0))) q) = f (cnt (mvz mwa) q) := fun f => by
        rw [pk_cpy_in (by omega) (by omega)]
        congr 1
        omega
      rw [e, e, e]
      exact hrow
  · intro q hqc
    by_cases e : q = q0
    · subst e; rw [upd_at]; exact Or.inl rfl
    · rw [upd_ne e]; exact h.2.2.2.1 q hqc
