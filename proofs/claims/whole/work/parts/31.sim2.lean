/-- moved groups: a list beside marks -/
def RMv (mv : Nat) (mg mmv : Nat → Int32) : Prop := mv = cnt (mvz mmv) 32 ∧ ∀ x, x < 32 → mvz mmv x = true → mg (cnt (mvz mmv) x) = nI x
theorem RMv_le {mv : Nat} {mg mmv : Nat → Int32} (h : RMv mv mg mmv) : mv ≤ 32 := by rw [h.1]; exact cnt_le _ _
theorem RMv_ans {mv : Nat} {mg mmv : Nat → Int32} (h : RMv mv mg mmv) (k : Int32) : (if isT k mv then mg (kn k) else -106) = fI (fun x => mvz mmv x && (nI (cnt (mvz mmv) x) == k)) 32 := by
  have hl := RMv_le h
  by_cases ht : isT k mv
  · obtain ⟨j, hj, ej, ejn⟩ := isT_nI (by omega) ht
    rw [if_pos ht, ejn]
    have hj2 := hj
    rw [h.1] at hj
    obtain ⟨q, g1, g2, g3⟩ := cnt_inv hj
    rw [fI_at (i := q) (fun x hx => by
      by_cases hz : mvz mmv x = true
      · have h1 := cnt_lt hz hx
        have h2 := cnt_le (mvz mmv) x
        have h4 := cnt_le (mvz mmv) q
        have h3 : ¬ nI (cnt (mvz mmv) x) = nI j := fun e => by have := (nI_eq (by omega) (by omega)).mp e; omega
        simp [hz, ej, h3]
      · simp [hz]) (by simp [g2, g3, ej]) g1, ← g3]
    exact h.2 q g1 g2
  · rw [if_neg ht, fI_none]
    intro x hx
    by_cases hz : mvz mmv x = true
    · have h1 := cnt_lt hz hx
      rw [← h.1] at h1
      have h3 : ¬ nI (cnt (mvz mmv) x) = k := fun e => ht (by rw [← e]; exact ⟨nI_pos (by omega), fun z => by have := (nI_leI (by omega) (by omega)).mp z; omega⟩)
      simp [hz, h3]
    · simp [hz]
theorem col_get {P : Nat → Bool} {f : Nat → Int32} : ∀ {G x : Nat}, x < G → P x = true → col P f G (cnt P x) = nI x
  | 0, x, h, _ => absurd h (Nat.not_lt_zero x)
  | G + 1, x, h, hp => by
    rcases Nat.lt_succ_iff_lt_or_eq.mp h with z | z
    · have ih := col_get (f := f) z hp
      cases hg : P G with
      | true =>
        have e : col P f (G + 1) = upd (col P f G) (cnt P G) (nI G) := if_pos hg
        rw [e, upd_lt (cnt_lt hp z)]
        exact ih
      | false =>
        have e : col P f (G + 1) = col P f G := if_neg (by rw [hg]; decide)
        rw [e]; exact ih
    · subst z
      have e : col P f (x + 1) = upd (col P f x) (cnt P x) (nI x) := if_pos hp
      rw [e, upd_at]
theorem cnt_ext {P Q : Nat → Bool} {G : Nat} : ∀ {N : Nat}, G ≤ N → (∀ j, j < G → P j = Q j) → (∀ j, G ≤ j → j < N → P j = false) → cnt P N = cnt Q G
  | 0, h, h1, _ => by have : G = 0 := by omega
                      subst this; rfl
  | N + 1, h, h1, h2 => by
    rcases Nat.lt_or_ge G (N + 1) with z | z
    · rw [cnt_f (h2 N (by omega) (by omega))]
      exact cnt_ext (by omega) h1 (fun j g1 g2 => h2 j g1 (by omega))
    · have e : G = N + 1 := by omega
      subst e
      exact cnt_congr h1
/-- behind a scale -/
theorem RMv_scale {G : Nat} (hG : G ≤ 32) {ow po mow pp mg mmv : Nat → Int32} (ho : ∀ g, g < G → ow g = mow g) (hp : ∀ g, g < G → po g = pp g) :
    cnt (fun g => !(ow g == po g)) G = cnt (fun g => decide (g < G) && !(pp g == mow g)) 32 ∧ RMv (cnt (fun g => !(ow g == po g)) G) (col (fun g => !(ow g == po g)) mg G) (pfx (fun g => if g < G ∧ ¬ pp g = mow g then nI 1 else nI 0) mmv 32) := by
  have hc : ∀ g, g < G → (!(ow g == po g)) = (decide (g < G) && !(pp g == mow g)) := fun g hg => by
    rw [ho g hg, hp g hg]
    by_cases e : mow g = pp g
    · simp [e]
    · have e2 : ¬ pp g = mow g := fun z => e z.symm
      rw [beq_false_of_ne e, beq_false_of_ne e2]
      simp [hg]
  have hz : ∀ x, x < 32 → mvz (pfx (fun g => if g < G ∧ ¬ pp g = mow g then nI 1 else nI 0) mmv 32) x = (decide (x < G) && !(pp x == mow x)) := fun x hx => by
    show (!(pfx _ mmv 32 x == 0)) = _
    rw [pfx_in hx]
    by_cases e : x < G ∧ ¬ pp x = mow x
    · rw [if_pos e]
      have : (nI 1 == (0 : Int32)) = false := by decide
      simp [this, e]
    · rw [if_neg e]
      have : (nI 0 == (0 : Int32)) = true := by decide
      rw [this]
      by_cases e1 : x < G
      · have e2 : pp x = mow x := Classical.byContradiction (fun z => e ⟨e1, z⟩)
        simp [e2]
      · simp [e1]
  have e1 : cnt (fun g => decide (g < G) && !(pp g == mow g)) 32 = cnt (fun g => !(ow g == po g)) G := cnt_ext hG (fun j hj => (hc j hj).symm) (fun j g1 g2 => by simp [show ¬ j < G by omega])
  refine ⟨e1.symm, ?_, ?_⟩
  · rw [← e1]; exact (cnt_congr hz).symm
  · intro x hx hzx
    rw [hz x hx] at hzx
    have hxG : x < G := by simp only [Bool.and_eq_true, decide_eq_true_eq] at hzx; exact hzx.1
    have e2 : cnt (mvz (pfx (fun g => if g < G ∧ ¬ pp g = mow g then nI 1 else nI 0) mmv 32)) x = cnt (fun g => !(ow g == po g)) x := cnt_congr (fun j hj => (hz j (by omega)).trans (hc j (by omega)).symm)
    rw [e2]
    exact col_get hxG ((hc x hxG).trans hzx)
/-- sums over groups, from either end -/
theorem sm_congr {f g : Nat → Int32} : ∀ {n : Nat}, (∀ j, j < n → f j = g j) → sm f n = sm g n
  | 0, _ => rfl
  | n + 1, h => by rw [sm_s, sm_s, sm_congr (fun j hj => h j (by omega)), h n (by omega)]
theorem dgs_congr {a b c d : Nat → Int32} : ∀ {n : Nat}, (∀ j, j < n → a j = c j ∧ b j = d j) → dgs a b n = dgs c d n
  | 0, _ => rfl
  | n + 1, h => by
    show nI 31 * dgs a b n + nI 100 * a n + b n = nI 31 * dgs c d n + nI 100 * c n + d n
    rw [dgs_congr (fun j hj => h j (by omega)), (h n (by omega)).1, (h n (by omega)).2]
theorem fst_congr {P Q : Nat → Bool} : ∀ {n : Nat}, (∀ j, j < n → P j = Q j) → fst P n = fst Q n
  | 0, _ => rfl
  | n + 1, h => by
    unfold fst
    rw [fst_congr (fun j hj => h j (by omega)), h n (by omega)]
theorem fI_congr {P Q : Nat → Bool} {n : Nat} (h : ∀ j, j < n → P j = Q j) : fI P n = fI Q n := by unfold fI; rw [fst_congr h]
theorem sm_split (f : Nat → Int32) (a : Nat) : ∀ k, sm f (a + k) = sm f a + sm (fun j => f (a + j)) k
  | 0 => by show sm f a = sm f a + 0; simp
  | k + 1 => by
    show sm f (a + k) + f (a + k) = _
    rw [sm_split f a k, sm_s, Int32.add_assoc]
theorem dsS_eq {P : Nat → Bool} {f : Nat → Int32} {G : Nat} : ∀ {r : Nat}, r ≤ G → dsS P f G r = sm (fun j => if P (G - r + j) then f (G - r + j) else 0) r
  | 0, _ => rfl
  | r + 1, h => by
    have e : sm (fun j => if P (G - (r + 1) + j) then f (G - (r + 1) + j) else 0) (r + 1) = (if P (G - 1 - r) then f (G - 1 - r) else 0) + sm (fun j => if P (G - r + j) then f (G - r + j) else 0) r := by
      have h1 := sm_split (fun j => if P (G - (r + 1) + j) then f (G - (r + 1) + j) else 0) 1 r
      rw [show 1 + r = r + 1 by omega] at h1
      rw [h1]
      congr 1
      · show (0 : Int32) + _ = _
        rw [Int32.zero_add]
        show (if P (G - (r + 1) + 0) then f (G - (r + 1) + 0) else 0) = _
        rw [show G - (r + 1) + 0 = G - 1 - r by omega]
      · exact sm_congr (fun j hj => by show _ = _; rw [show G - (r + 1) + (1 + j) = G - r + j by omega])
    rw [e]
    show (if P (G - 1 - r) then dsS P f G r + f (G - 1 - r) else dsS P f G r) = _
    rw [dsS_eq (by omega)]
    split
    · rw [Int32.add_comm]
    · rw [Int32.zero_add]
theorem dsS_all {P : Nat → Bool} {f : Nat → Int32} {G : Nat} : dsS P f G G = sm (fun j => if P j then f j else 0) G := by
  rw [dsS_eq (Nat.le_refl _)]
  exact sm_congr (fun j _ => by show _ = _; rw [show G - G + j = j by omega])
theorem dsC_eq {P : Nat → Bool} {G : Nat} : ∀ {r : Nat}, r ≤ G → dsC P G r + cnt P (G - r) = cnt P G
  | 0, _ => by show 0 + cnt P (G - 0) = _; simp
  | r + 1, h => by
    have ih := dsC_eq (P := P) (G := G) (r := r) (by omega)
    have e : G - r = (G - (r + 1)) + 1 := by omega
    rw [e] at ih
    show (if P (G - 1 - r) then dsC P G r + 1 else dsC P G r) + _ = _
    have e2 : G - 1 - r = G - (r + 1) := by omega
    rw [e2]
    cases hp : P (G - (r + 1)) with
    | true => rw [cnt_t hp] at ih; simp; omega
    | false => rw [cnt_f hp] at ih; simp; omega
theorem dsC_all {P : Nat → Bool} {G : Nat} : dsC P G G = cnt P G := by
  have := dsC_eq (P := P) (G := G) (Nat.le_refl G)
  rw [Nat.sub_self] at this
  exact this
theorem dsF_eq {P : Nat → Bool} {G : Nat} : ∀ {r : Nat}, r ≤ G → (∀ g, G - r ≤ g → g < G → P g = false) ∧ dsF P G r = -106 ∨ ∃ g, G - r ≤ g ∧ g < G ∧ P g = true ∧ (∀ x, G - r ≤ x → x < g → P x = false) ∧ dsF P G r = nI g
  | 0, _ => Or.inl ⟨fun g h1 h2 => by omega, rfl⟩
  | r + 1, h => by
    have e2 : G - 1 - r = G - (r + 1) := by omega
    cases hp : P (G - (r + 1)) with
    | true =>
      right
      refine ⟨G - (r + 1), Nat.le_refl _, by omega, hp, fun x h1 h2 => by omega, ?_⟩
      show (if P (G - 1 - r) then nI (G - 1 - r) else dsF P G r) = _
      rw [e2, if_pos hp]
    | false =>
      have e : dsF P G (r + 1) = dsF P G r := by
        show (if P (G - 1 - r) then nI (G - 1 - r) else dsF P G r) = _
        rw [e2, if_neg (by rw [hp]; decide)]
      rw [e]
      rcases dsF_eq (P := P) (G := G) (r := r) (by omega) with ⟨h1, h2⟩ | ⟨g, g1, g2, g3, g4, g5⟩
      · left
        refine ⟨fun g k1 k2 => ?_, h2⟩
        rcases Nat.lt_or_ge g (G - r) with z | z
        · rw [show g = G - (r + 1) by omega]; exact hp
        · exact h1 g z k2
      · right
        refine ⟨g, by omega, g2, g3, fun x k1 k2 => ?_, g5⟩
        rcases Nat.lt_or_ge x (G - r) with z | z
        · rw [show x = G - (r + 1) by omega]; exact hp
        · exact g4 x z k2
theorem dsF_all {P : Nat → Bool} {G : Nat} : dsF P G G = fI P G := by
  rcases dsF_eq (P := P) (G := G) (Nat.le_refl G) with ⟨h1, h2⟩ | ⟨g, g1, g2, g3, g4, g5⟩
  · rw [h2, fI_none (fun j hj => h1 j (by omega) hj)]
  · rw [g5, fI_at (fun j hj => g4 j (by omega) hj) g3 g2]
theorem lst_eq {P : Nat → Bool} : ∀ {n : Nat}, (∀ x y, x < n → y < n → P x = true → P y = true → x = y) → lst P n = fI P n
  | 0, _ => rfl
  | n + 1, h => by
    show (if P n then nI n else lst P n) = _
    cases hp : P n with
    | true =>
      simp only [if_true]
      rw [fI_at (i := n) (fun j hj => by
        cases hq : P j with
        | true => have := h j n (by omega) (by omega) hq hp; omega
        | false => rfl) hp (by omega)]
    | false =>
      simp only [Bool.false_eq_true, if_false]
      rw [lst_eq (fun x y hx hy => h x y (by omega) (by omega))]
      unfold fI
      have e : fst P (n + 1) = if fst P n < n then fst P n else n + 1 := by
        show (if fst P n < n then fst P n else if P n then n else n + 1) = _
        rw [hp]; rfl
      rw [e]
      by_cases q : fst P n < n
      · rw [if_pos q, if_pos q, if_pos (by omega)]
      · rw [if_neg q, if_neg q, if_neg (by omega)]
/-- rows of a task's line, by its groups -/
theorem line_sum {G ca : Nat} {ow rk : Nat → Int32} {wa : Nat → Bool} {t : Int32} (hG0 : 0 < G) (hG : G ≤ 32) : ∀ {n : Nat}, n ≤ ca → sm (fun g => if (ow g == t) then nI (cnt (fun q => wa q && (nI (gof G (rk q)) == nI g)) n) else 0) G = nI (cnt (fun q => wa q && (ow (gof G (rk q)) == t)) n)
  | 0, _ => by
    have h : ∀ m, sm (fun g => if (ow g == t) then nI 0 else 0) m = nI 0 := by
      intro m
      induction m with
      | zero => rfl
      | succ m ih =>
        rw [sm_s, ih]
        split <;> rfl
    exact h G
  | n + 1, h => by
    have ih := line_sum (ow := ow) (rk := rk) (wa := wa) (t := t) hG0 hG (ca := ca) (n := n) (by omega)
    cases hw : wa n with
    | false =>
      rw [cnt_f (P := fun q => wa q && (ow (gof G (rk q)) == t)) (by simp [hw]), ← ih]
      exact sm_congr (fun g hg => by rw [cnt_f (by simp [hw])])
    | true =>
      have hgl := gof_lt hG0 (rk n)
      have hone : ∀ g, g < G → nI (cnt (fun q => wa q && (nI (gof G (rk q)) == nI g)) (n + 1)) = nI (cnt (fun q => wa q && (nI (gof G (rk q)) == nI g)) n) + (if g = gof G (rk n) then 1 else 0) := fun g hg => by
        by_cases e : g = gof G (rk n)
        · subst e
          rw [cnt_t (by simp [hw]), if_pos rfl]
          exact (nI_1 _).symm
        · have e2 : ¬ nI (gof G (rk n)) = nI g := fun z => e ((nI_eq (by omega) (by omega)).mp z).symm
          rw [cnt_f (by simp [hw, e2]), if_neg e]
          simp
      have hs : ∀ m, m ≤ G → sm (fun g => if (ow g == t) then nI (cnt (fun q => wa q && (nI (gof G (rk q)) == nI g)) (n + 1)) else 0) m = sm (fun g => if (ow g == t) then nI (cnt (fun q => wa q && (nI (gof G (rk q)) == nI g)) n) else 0) m + (if gof G (rk n) < m ∧ (ow (gof G (rk n)) == t) = true then 1 else 0) := by
        intro m
        induction m with
        | zero => intro _; show (0 : Int32) = 0 + _; rw [if_neg (fun z => by omega)]; rfl
        | succ m ihm =>
          intro hm
          rw [sm_s, sm_s, ihm (by omega)]
          by_cases e : m = gof G (rk n)
          · subst e
            rw [if_neg (fun z => by omega)]
            cases ho : (ow (gof G (rk n)) == t) with
            | true =>
              simp only [if_true]
              rw [hone _ hgl, if_pos rfl, if_pos ⟨by omega, trivial⟩]
              simp [Int32.add_assoc]
            | false =>
              simp
          · cases ho : (ow m == t) with
            | true =>
              simp only [if_true]
              rw [hone m (by omega), if_neg e]
              by_cases c : gof G (rk n) < m ∧ (ow (gof G (rk n)) == t) = true
              · rw [if_pos c, if_pos ⟨by omega, c.2⟩]
                simp only [Int32.add_zero]
                rw [Int32.add_assoc, Int32.add_comm 1, ← Int32.add_assoc]
              · rw [if_neg c, if_neg (fun z => c ⟨by omega, z.2⟩)]
                simp
            | false =>
              simp only [Bool.false_eq_true, if_false]
              by_cases c : gof G (rk n) < m ∧ (ow (gof G (rk n)) == t) = true
              · rw [if_pos c, if_pos ⟨by omega, c.2⟩]
                simp
              · rw [if_neg c, if_neg (fun z => c ⟨by omega, z.2⟩)]
      rw [hs G (Nat.le_refl _), ih]
      cases ho : (ow (gof G (rk n)) == t) with
      | true => rw [if_pos ⟨hgl, rfl⟩, cnt_t (P := fun q => wa q && (ow (gof G (rk q)) == t)) (by simp [hw, ho])]; exact nI_1 _
      | false => rw [if_neg (fun z => by cases z.2), cnt_f (P := fun q => wa q && (ow (gof G (rk q)) == t)) (by simp [hw, ho])]; simp
