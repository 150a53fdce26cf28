/-- the order of timers: time, key, place -/
def LT3 (k t : Nat → Int32) (a b : Nat) : Prop := t a < t b ∨ (t a = t b ∧ (k a < k b ∨ (k a = k b ∧ a < b)))
theorem LT3_asym {k t : Nat → Int32} {a b : Nat} (h : LT3 k t a b) (h2 : LT3 k t b a) : False := by
  unfold LT3 at h h2
  simp only [Int32.lt_iff_toInt_lt, ← Int32.toInt_inj] at h h2
  omega
theorem LT3_trans {k t : Nat → Int32} {a b c : Nat} (h : LT3 k t a b) (h2 : LT3 k t b c) : LT3 k t a c := by
  unfold LT3 at h h2 ⊢
  simp only [Int32.lt_iff_toInt_lt, ← Int32.toInt_inj] at h h2 ⊢
  omega
theorem tah_iff {k t k2 t2 : Int32} : tah k t k2 t2 ↔ t.toInt < t2.toInt ∨ (t.toInt = t2.toInt ∧ k.toInt < k2.toInt) := by
  unfold tah
  simp only [Int32.lt_iff_toInt_lt, ← Int32.toInt_inj]
theorem LT3_iff {k t : Nat → Int32} {a b : Nat} : LT3 k t a b ↔ (t a).toInt < (t b).toInt ∨ ((t a).toInt = (t b).toInt ∧ ((k a).toInt < (k b).toInt ∨ ((k a).toInt = (k b).toInt ∧ a < b))) := by
  unfold LT3
  simp only [Int32.lt_iff_toInt_lt, ← Int32.toInt_inj]
theorem dN_spec {u : Int32} {k t : Nat → Int32} : ∀ {n : Nat}, (dN u k t n = none → ∀ i, i < n → ¬ t i ≤ u) ∧ (∀ b, dN u k t n = some b → b < n ∧ t b ≤ u ∧ ∀ i, i < n → t i ≤ u → i ≠ b → LT3 k t b i)
  | 0 => ⟨fun _ i hi => absurd hi (Nat.not_lt_zero i), fun b h => by cases h⟩
  | n + 1 => by
    obtain ⟨h1, h2⟩ := dN_spec (u := u) (k := k) (t := t) (n := n)
    cases hd : dN u k t n with
    | none =>
      have hn := h1 hd
      rw [dN_n hd]
      by_cases q : t n ≤ u
      · rw [if_pos q]
        refine ⟨fun z => (by cases z), fun b z => ?_⟩
        cases z
        refine ⟨by omega, q, fun i hi hu hne => ?_⟩
        exact absurd hu (hn i (by omega))
      · rw [if_neg q]
        refine ⟨fun _ i hi => ?_, fun b z => by cases z⟩
        rcases Nat.lt_succ_iff_lt_or_eq.mp hi with z | z
        · exact hn i z
        · rw [z]; exact q
    | some c =>
      obtain ⟨g1, g2, g3⟩ := h2 c hd
      rw [dN_s hd]
      by_cases q : t n ≤ u ∧ tah (k n) (t n) (k c) (t c)
      · rw [if_pos q]
        refine ⟨fun z => (by cases z), fun b z => ?_⟩
        cases z
        refine ⟨by omega, q.1, fun i hi hu hne => ?_⟩
        have hnc : LT3 k t n c := by
          have := tah_iff.mp q.2
          rw [LT3_iff]; omega
        by_cases e : i = c
        · rw [e]; exact hnc
        · exact LT3_trans hnc (g3 i (by omega) hu e)
      · rw [if_neg q]
        refine ⟨fun z => (by cases z), fun b z => ?_⟩
        cases z
        refine ⟨by omega, g2, fun i hi hu hne => ?_⟩
        rcases Nat.lt_succ_iff_lt_or_eq.mp hi with z | z
        · exact g3 i z hu hne
        · subst z
          have hnt : ¬ tah (k i) (t i) (k c) (t c) := fun z => q ⟨hu, z⟩
          rw [tah_iff] at hnt
          rw [LT3_iff]; omega
/-- sorted timers beside timers as they were set -/
def RT (ts : Nat) (tk tt mtk mtt : Nat → Int32) : Prop :=
  ts ≤ 40 ∧ (∀ q, q < ts → ∃ k, k < 100 ∧ mtk q = nI k) ∧ ∃ σ τ : Nat → Nat, (∀ j, j < ts → σ j < ts ∧ tk j = mtk (σ j) ∧ tt j = mtt (σ j)) ∧ (∀ i, i < ts → τ i < ts ∧ σ (τ i) = i) ∧ (∀ j j2, j < j2 → j2 < ts → LT3 mtk mtt (σ j) (σ j2))
theorem RT_keys {ts : Nat} {tk tt mtk mtt : Nat → Int32} (h : RT ts tk tt mtk mtt) : ∀ q, q < ts → ∃ k, k < 100 ∧ tk q = nI k := by
  obtain ⟨-, hk, σ, τ, h1, -⟩ := h
  intro q hq
  obtain ⟨k, hk1, hk2⟩ := hk _ (h1 q hq).1
  exact ⟨k, hk1, by rw [(h1 q hq).2.1]; exact hk2⟩
theorem RT_congr {ts : Nat} {tk tt tk2 tt2 mtk mtt mtk2 mtt2 : Nat → Int32} (h : RT ts tk tt mtk mtt) (h1 : ∀ j, j < ts → tk2 j = tk j ∧ tt2 j = tt j) (h2 : ∀ j, j < ts → mtk2 j = mtk j ∧ mtt2 j = mtt j) : RT ts tk2 tt2 mtk2 mtt2 := by
  obtain ⟨h0, hk, σ, τ, g1, g2, g3⟩ := h
  refine ⟨h0, fun q hq => by rw [(h2 q hq).1]; exact hk q hq, σ, τ, fun j hj => ?_, g2, fun j j2 hj hj2 => ?_⟩
  · obtain ⟨a, b, c⟩ := g1 j hj
    exact ⟨a, by rw [(h1 j hj).1, (h2 _ a).1]; exact b, by rw [(h1 j hj).2, (h2 _ a).2]; exact c⟩
  · have a := (g1 j (by omega)).1
    have b := (g1 j2 hj2).1
    have := g3 j j2 hj hj2
    unfold LT3 at this ⊢
    rw [(h2 _ a).1, (h2 _ a).2, (h2 _ b).1, (h2 _ b).2]
    exact this
theorem RT_zero {tk tt mtk mtt : Nat → Int32} : RT 0 tk tt mtk mtt := ⟨by omega, fun q hq => absurd hq (Nat.not_lt_zero q), id, id, fun j hj => absurd hj (Nat.not_lt_zero j), fun j hj => absurd hj (Nat.not_lt_zero j), fun j j2 _ hj => absurd hj (Nat.not_lt_zero j2)⟩
theorem tpl_hi {k t : Int32} {tk tt : Nat → Int32} : ∀ {i j : Nat}, tpl k t tk tt i ≤ j → j < i → tah k t (tk j) (tt j)
  | 0, j, _, h => absurd h (Nat.not_lt_zero j)
  | i + 1, j, h1, h2 => by
    by_cases q : tah k t (tk i) (tt i)
    · have e : tpl k t tk tt (i + 1) = tpl k t tk tt i := if_pos q
      rw [e] at h1
      rcases Nat.lt_succ_iff_lt_or_eq.mp h2 with z | z
      · exact tpl_hi h1 z
      · rw [z]; exact q
    · have e : tpl k t tk tt (i + 1) = i + 1 := if_neg q
      omega
theorem tpl_lo {k t : Int32} {tk tt : Nat → Int32} : ∀ {i : Nat}, 0 < tpl k t tk tt i → ¬ tah k t (tk (tpl k t tk tt i - 1)) (tt (tpl k t tk tt i - 1))
  | 0, h => absurd h (Nat.lt_irrefl 0)
  | i + 1, h => by
    by_cases q : tah k t (tk i) (tt i)
    · have e : tpl k t tk tt (i + 1) = tpl k t tk tt i := if_pos q
      rw [e] at h ⊢
      exact tpl_lo h
    · have e : tpl k t tk tt (i + 1) = i + 1 := if_neg q
      rw [e]; exact q
theorem RT_new {ts : Nat} {tk tt mtk mtt : Nat → Int32} {key t : Int32} (h : RT ts tk tt mtk mtt) (hts : ts < 40) (hk : ∃ k, k < 100 ∧ key = nI k) {p : Nat} (hp : p = tpl key t tk tt ts) : RT (ts + 1) (upd (va_cpy tk tk p (p + 1) (ts - p)) p key) (upd (va_cpy tt tt p (p + 1) (ts - p)) p t) (upd mtk ts key) (upd mtt ts t) := by
  obtain ⟨h0, hkk, σ, τ, g1, g2, g3⟩ := h
  have hpl : p ≤ ts := by rw [hp]; exact tpl_le ..
  have hhi : ∀ j, p ≤ j → j < ts → tah key t (tk j) (tt j) := fun j h1 h2 => tpl_hi (by rw [← hp]; exact h1) h2
  have hlo : ∀ j, j < p → ¬ tah key t (tk j) (tt j) := by
    intro j hj
    have hz := tpl_lo (k := key) (t := t) (tk := tk) (tt := tt) (i := ts) (by rw [← hp]; omega)
    rw [← hp] at hz
    by_cases e : j = p - 1
    · rw [e]; exact hz
    · have := g3 j (p - 1) (by omega) (by omega)
      obtain ⟨-, a2, a3⟩ := g1 j (by omega)
      obtain ⟨-, b2, b3⟩ := g1 (p - 1) (by omega)
      rw [tah_iff, b2, b3] at hz
      rw [tah_iff, a2, a3]
      rw [LT3_iff] at this
      omega
  have hcp : ∀ (f : Nat → Int32) (x : Int32) (j : Nat), j < ts + 1 → upd (va_cpy f f p (p + 1) (ts - p)) p x j = if j < p then f j else if j = p then x else f (j - 1) := by
    intro f x j hj
    by_cases e : j = p
    · subst e; rw [upd_at, if_neg (by omega), if_pos rfl]
    · rw [upd_ne e]
      by_cases e2 : j < p
      · rw [if_pos e2, pk_cpy_out (Or.inl (by omega))]
      · rw [if_neg e2, if_neg e, pk_cpy_in (by omega) (by omega)]
        congr 1; omega
  refine ⟨by omega, ?_, fun j => if j < p then σ j else if j = p then ts else σ (j - 1), fun i => if i = ts then p else if τ i < p then τ i else τ i + 1, ?_, ?_, ?_⟩
  · intro q hq
    rcases Nat.lt_succ_iff_lt_or_eq.mp hq with z | z
    · rw [upd_lt z]; exact hkk q z
    · subst z; rw [upd_at]; exact hk
  · intro j hj
    rw [hcp tk key j hj, hcp tt t j hj]
    by_cases e2 : j < p
    · simp only [if_pos e2]
      obtain ⟨a1, a2, a3⟩ := g1 j (by omega)
      exact ⟨by omega, by rw [upd_lt a1]; exact a2, by rw [upd_lt a1]; exact a3⟩
    · by_cases e : j = p
      · simp only [if_neg e2, if_pos e]
        exact ⟨by omega, by rw [upd_at], by rw [upd_at]⟩
      · simp only [if_neg e2, if_neg e]
        obtain ⟨a1, a2, a3⟩ := g1 (j - 1) (by omega)
        exact ⟨by omega, by rw [upd_lt a1]; exact a2, by rw [upd_lt a1]; exact a3⟩
  · intro i hi
    by_cases e : i = ts
    · simp only [if_pos e]
      exact ⟨by omega, by simp [e]⟩
    · obtain ⟨a1, a2⟩ := g2 i (by omega)
      simp only [if_neg e]
      by_cases e2 : τ i < p
      · simp only [if_pos e2]
        exact ⟨by omega, a2⟩
      · simp only [if_neg e2]
        refine ⟨by omega, ?_⟩
        rw [if_neg (by omega), if_neg (by omega)]
        exact a2
  · intro j j2 hj hj2
    have up : ∀ a b, a < ts → b < ts → LT3 mtk mtt a b → LT3 (upd mtk ts key) (upd mtt ts t) a b := fun a b ha hb hl => by
      unfold LT3 at hl ⊢
      rw [upd_lt ha, upd_lt hb, upd_lt ha, upd_lt hb]
      exact hl
    have toNew : ∀ i, i < p → LT3 (upd mtk ts key) (upd mtt ts t) (σ i) ts := fun i hi => by
      obtain ⟨a1, a2, a3⟩ := g1 i (by omega)
      have := hlo i hi
      rw [tah_iff, a2, a3] at this
      rw [LT3_iff, upd_lt a1, upd_lt a1, upd_at, upd_at]
      omega
    have fromNew : ∀ i, p ≤ i → i < ts → LT3 (upd mtk ts key) (upd mtt ts t) ts (σ i) := fun i hi hi2 => by
      obtain ⟨a1, a2, a3⟩ := g1 i (by omega)
      have := hhi i hi hi2
      rw [tah_iff, a2, a3] at this
      rw [LT3_iff, upd_lt a1, upd_lt a1, upd_at, upd_at]
      omega
    by_cases c1 : j < p
    · simp only [if_pos c1]
      by_cases c2 : j2 < p
      · simp only [if_pos c2]
        exact up _ _ (g1 j (by omega)).1 (g1 j2 (by omega)).1 (g3 j j2 hj (by omega))
      · by_cases c3 : j2 = p
        · simp only [if_neg c2, if_pos c3]
          exact toNew j c1
        · simp only [if_neg c2, if_neg c3]
          exact up _ _ (g1 j (by omega)).1 (g1 (j2 - 1) (by omega)).1 (g3 j (j2 - 1) (by omega) (by omega))
    · by_cases c3 : j = p
      · have n1 : ¬ j2 < p := by omega
        have n2 : ¬ j2 = p := by omega
        simp only [if_neg c1, if_pos c3, if_neg n1, if_neg n2]
        exact fromNew (j2 - 1) (by omega) (by omega)
      · have n1 : ¬ j2 < p := by omega
        have n2 : ¬ j2 = p := by omega
        simp only [if_neg c1, if_neg c3, if_neg n1, if_neg n2]
        exact up _ _ (g1 (j - 1) (by omega)).1 (g1 (j2 - 1) (by omega)).1 (g3 (j - 1) (j2 - 1) (by omega) (by omega))
theorem RT_none {ts : Nat} {tk tt mtk mtt : Nat → Int32} {u : Int32} (h : RT ts tk tt mtk mtt) (hd : 0 < ts → u < tt 0) : dN u mtk mtt ts = none := by
  obtain ⟨h0, hkk, σ, τ, g1, g2, g3⟩ := h
  cases hh : dN u mtk mtt ts with
  | none => rfl
  | some b =>
    obtain ⟨b1, b2, -⟩ := (dN_spec (n := ts)).2 b hh
    have hd := hd (by omega)
    obtain ⟨a1, a2, a3⟩ := g1 0 (by omega)
    obtain ⟨c1, c2⟩ := g2 b b1
    exfalso
    rw [a3] at hd
    by_cases e : τ b = 0
    · rw [e] at c2
      rw [c2] at hd
      exact absurd b2 (Int32.not_le.mpr hd)
    · have := g3 0 (τ b) (by omega) c1
      rw [c2, LT3_iff] at this
      rw [Int32.lt_iff_toInt_lt] at hd
      rw [Int32.le_iff_toInt_le] at b2
      omega
theorem RT_pop {ts : Nat} {tk tt mtk mtt : Nat → Int32} {u : Int32} (h : RT ts tk tt mtk mtt) (hts : 0 < ts) (hd : tt 0 ≤ u) : ∃ i0, dN u mtk mtt ts = some i0 ∧ tk 0 = mtk i0 ∧ tt 0 = mtt i0 ∧ RT (ts - 1) (fun j => tk (j + 1)) (fun j => tt (j + 1)) (shl mtk i0 (ts - 1)) (shl mtt i0 (ts - 1)) := by
  obtain ⟨h0, hkk, σ, τ, g1, g2, g3⟩ := h
  obtain ⟨a1, a2, a3⟩ := g1 0 hts
  have hleast : ∀ i, i < ts → i ≠ σ 0 → LT3 mtk mtt (σ 0) i := fun i hi hne => by
    obtain ⟨c1, c2⟩ := g2 i hi
    by_cases e : τ i = 0
    · rw [e] at c2; exact absurd c2.symm hne
    · have := g3 0 (τ i) (by omega) c1
      rw [c2] at this; exact this
  have hdn : dN u mtk mtt ts = some (σ 0) := by
    cases hh : dN u mtk mtt ts with
    | none => exact absurd (by rw [← a3]; exact hd) ((dN_spec (n := ts)).1 hh (σ 0) a1)
    | some b =>
      obtain ⟨b1, b2, b3⟩ := (dN_spec (n := ts)).2 b hh
      by_cases e : b = σ 0
      · rw [e]
      · exact absurd (b3 (σ 0) a1 (by rw [← a3]; exact hd) (fun z => e z.symm)) (fun z => LT3_asym z (hleast b b1 e))
  have hinj : ∀ j, 0 < j → j < ts → σ j ≠ σ 0 := fun j h1 h2 e => by
    have := g3 0 j h1 h2
    rw [e] at this
    exact LT3_asym this this
  refine ⟨σ 0, hdn, a2, a3, by omega, ?_, fun j => if σ (j + 1) < σ 0 then σ (j + 1) else σ (j + 1) - 1, fun i => τ (if i < σ 0 then i else i + 1) - 1, ?_, ?_, ?_⟩
  · intro q hq
    exact shl_k hkk a1 q hq
  · intro j hj
    obtain ⟨b1, b2, b3⟩ := g1 (j + 1) (by omega)
    have hne := hinj (j + 1) (by omega) (by omega)
    by_cases c : σ (j + 1) < σ 0
    · simp only [if_pos c]
      refine ⟨by omega, ?_, ?_⟩
      · show tk (j + 1) = shl mtk (σ 0) (ts - 1) (σ (j + 1)); unfold shl; rw [if_neg (by omega)]; exact b2
      · show tt (j + 1) = shl mtt (σ 0) (ts - 1) (σ (j + 1)); unfold shl; rw [if_neg (by omega)]; exact b3
    · simp only [if_neg c]
      refine ⟨by omega, ?_, ?_⟩
      · show tk (j + 1) = shl mtk (σ 0) (ts - 1) (σ (j + 1) - 1); unfold shl; rw [if_pos (by omega), show σ (j + 1) - 1 + 1 = σ (j + 1) by omega]; exact b2
      · show tt (j + 1) = shl mtt (σ 0) (ts - 1) (σ (j + 1) - 1); unfold shl; rw [if_pos (by omega), show σ (j + 1) - 1 + 1 = σ (j + 1) by omega]; exact b3
  · intro i hi
    by_cases c : i < σ 0
    · simp only [if_pos c]
      obtain ⟨c1, c2⟩ := g2 i (by omega)
      have hz : τ i ≠ 0 := fun e => by rw [e] at c2; omega
      refine ⟨by omega, ?_⟩
      rw [show τ i - 1 + 1 = τ i by omega, c2, if_pos c]
    · simp only [if_neg c]
      obtain ⟨c1, c2⟩ := g2 (i + 1) (by omega)
      have hz : τ (i + 1) ≠ 0 := fun e => by rw [e] at c2; omega
      refine ⟨by omega, ?_⟩
      rw [show τ (i + 1) - 1 + 1 = τ (i + 1) by omega, c2, if_neg (by omega)]
      omega
  · intro j j2 hj hj2
    have hl := g3 (j + 1) (j2 + 1) (by omega) (by omega)
    have n1 := hinj (j + 1) (by omega) (by omega)
    have n2 := hinj (j2 + 1) (by omega) (by omega)
    have r1 := (g1 (j + 1) (by omega)).1
    have r2 := (g1 (j2 + 1) (by omega)).1
    have val : ∀ (f : Nat → Int32) (s : Nat), s < ts → s ≠ σ 0 → shl f (σ 0) (ts - 1) (if s < σ 0 then s else s - 1) = f s := fun f s hs hne => by
      by_cases c : s < σ 0
      · rw [if_pos c]; unfold shl; rw [if_neg (by omega)]
      · rw [if_neg c]; unfold shl; rw [if_pos (by omega)]; congr 1; omega
    have ord : (if σ (j + 1) < σ 0 then σ (j + 1) else σ (j + 1) - 1) < (if σ (j2 + 1) < σ 0 then σ (j2 + 1) else σ (j2 + 1) - 1) ↔ σ (j + 1) < σ (j2 + 1) := by
      split <;> split <;> omega
    unfold LT3 at hl ⊢
    rw [val mtt _ r1 n1, val mtt _ r2 n2, val mtk _ r1 n1, val mtk _ r2 n2, ord]
    exact hl
/-- all that are due, one by one -/
theorem RT_run {ts : Nat} {tk tt mtk mtt : Nat → Int32} {u : Int32} (h : RT ts tk tt mtk mtt) : ∀ m, m ≤ fst (fun j => decide (u < tt j)) ts → (∀ j, j < m → (∃ q, rgD u mtk mtt ts j = some q) ∧ rgK u mtk mtt ts j = tk j ∧ rgT u mtk mtt ts j = tt j) ∧ (rgN u mtk mtt ts m).2.2 = ts - m ∧ RT (ts - m) (fun j => tk (j + m)) (fun j => tt (j + m)) (rgN u mtk mtt ts m).1 (rgN u mtk mtt ts m).2.1
  | 0, _ => ⟨fun j hj => absurd hj (Nat.not_lt_zero j), rfl, h⟩
  | m + 1, hm => by
    obtain ⟨h1, h2, h3⟩ := RT_run (u := u) h m (by omega)
    have hle := fst_le (fun j => decide (u < tt j)) ts
    have hdue : tt m ≤ u := by
      have hne : ∀ j, j < fst (fun j => decide (u < tt j)) ts → decide (u < tt j) = false := by
        by_cases q : fst (fun j => decide (u < tt j)) ts < ts
        · exact (fst_spec q).2
        · intro j hj; exact fst_no q j (by omega)
      have := hne m (by omega)
      simp only [decide_eq_false_iff_not] at this
      exact Int32.not_lt.mp this
    obtain ⟨i0, e1, e2, e3, e4⟩ := RT_pop (u := u) h3 (by omega) (by show tt (0 + m) ≤ u; rw [Nat.zero_add]; exact hdue)
    have e1' : rgD u mtk mtt ts m = some i0 := by show dN u _ _ _ = _; rw [h2]; exact e1
    have e5 := rgN_s e1'
    refine ⟨fun j hj => ?_, ?_, ?_⟩
    · rcases Nat.lt_succ_iff_lt_or_eq.mp hj with z | z
      · exact h1 j z
      · subst z
        refine ⟨⟨_, e1'⟩, ?_, ?_⟩
        · unfold rgK; rw [e1']; show (rgN u mtk mtt ts j).1 i0 = tk j; rw [← e2]; show tk (0 + j) = tk j; rw [Nat.zero_add]
        · unfold rgT; rw [e1']; show (rgN u mtk mtt ts j).2.1 i0 = tt j; rw [← e3]; show tt (0 + j) = tt j; rw [Nat.zero_add]
    · rw [e5]; show (rgN u mtk mtt ts m).2.2 - 1 = _; omega
    · rw [e5]
      show RT (ts - (m + 1)) _ _ (shl _ i0 ((rgN u mtk mtt ts m).2.2 - 1)) (shl _ i0 ((rgN u mtk mtt ts m).2.2 - 1))
      rw [h2]
      rw [show ts - (m + 1) = ts - m - 1 by omega]
      refine RT_congr e4 (fun j _ => ?_) (fun j _ => ⟨rfl, rfl⟩)
      show tk (j + (m + 1)) = tk (j + 1 + m) ∧ tt (j + (m + 1)) = tt (j + 1 + m)
      rw [show j + (m + 1) = j + 1 + m by omega]
      exact ⟨rfl, rfl⟩
theorem RT_tick {ts : Nat} {tk tt mtk mtt : Nat → Int32} {u : Int32} (h : RT ts tk tt mtk mtt) {m : Nat} (hall : ∀ j, j < m → ∃ q, rgD u mtk mtt ts j = some q) (hno : rgD u mtk mtt ts m = none) {d : Nat} (hd : d = fst (fun j => decide (u < tt j)) ts) : m = d ∧ (∀ j, j < d → rgK u mtk mtt ts j = tk j ∧ rgT u mtk mtt ts j = tt j) ∧ (rgN u mtk mtt ts m).2.2 = ts - d ∧ RT (ts - d) (va_cpy tk tk d 0 (ts - d)) (va_cpy tt tt d 0 (ts - d)) (rgN u mtk mtt ts m).1 (rgN u mtk mtt ts m).2.1 := by
  obtain ⟨h1, h2, h3⟩ := RT_run (u := u) h d (by rw [hd]; exact Nat.le_refl _)
  have hle := fst_le (fun j => decide (u < tt j)) ts
  rw [← hd] at hle
  have hend : rgD u mtk mtt ts d = none := by
    show dN u _ _ _ = none
    rw [h2]
    refine RT_none h3 (fun hp => ?_)
    show u < tt (0 + d)
    rw [Nat.zero_add, hd]
    have := (fst_spec (P := fun j => decide (u < tt j)) (n := ts) (by omega)).1
    simpa using this
  have hm : m = d := by
    rcases Nat.lt_trichotomy m d with z | z | z
    · obtain ⟨q, hq⟩ := (h1 m z).1
      rw [hno] at hq; cases hq
    · exact z
    · obtain ⟨q, hq⟩ := hall d z
      rw [hend] at hq; cases hq
  subst hm
  refine ⟨rfl, fun j hj => (h1 j hj).2, h2, ?_⟩
  refine RT_congr h3 (fun j hj => ?_) (fun j _ => ⟨rfl, rfl⟩)
  rw [pk_cpy_in (by omega) (by omega), pk_cpy_in (by omega) (by omega)]
  show tk (m + (j - 0)) = tk (j + m) ∧ tt (m + (j - 0)) = tt (j + m)
  rw [show m + (j - 0) = j + m by omega]
  exact ⟨rfl, rfl⟩
