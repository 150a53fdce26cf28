/-- the two rings -/
def RLg (lx lz lg : Nat) (lk lt lc : Nat → Int32) (ly : Nat → Int64) (mlk mlt mlc : Nat → Int32) (mly : Nat → Int64) : Prop :=
  lx < 32 ∧ lz = min lg 32 ∧ ∀ i, i < lz → lk ((lx + 63 - i) % 32) = mlk ((lg - 1 - i) % 32) ∧ lt ((lx + 63 - i) % 32) = mlt ((lg - 1 - i) % 32) ∧ lc ((lx + 63 - i) % 32) = mlc ((lg - 1 - i) % 32) ∧ ly ((lx + 63 - i) % 32) = mly ((lg - 1 - i) % 32)
theorem updL_at {f : Nat → Int64} {k : Nat} {x : Int64} : vp_updL f k x k = x := if_pos rfl
theorem updL_ne {f : Nat → Int64} {k j : Nat} {x : Int64} (h : j ≠ k) : vp_updL f k x j = f j := if_neg h
theorem RLg_one {lx lz lg : Nat} {lk lt lc mlk mlt mlc : Nat → Int32} {ly mly : Nat → Int64} (h : RLg lx lz lg lk lt lc ly mlk mlt mlc mly) (k t c : Int32) (z : Int64) : RLg ((lx + 1) % 32) (min (lz + 1) 32) (lg + 1) (upd lk lx k) (upd lt lx t) (upd lc lx c) (vp_updL ly lx z) (upd mlk (lg % 32) k) (upd mlt (lg % 32) t) (upd mlc (lg % 32) c) (vp_updL mly (lg % 32) z) := by
  obtain ⟨h1, h2, h3⟩ := h
  refine ⟨Nat.mod_lt _ (by decide), by omega, fun i hi => ?_⟩
  by_cases e : i = 0
  · subst e
    have e1 : ((lx + 1) % 32 + 63 - 0) % 32 = lx := by omega
    have e2 : (lg + 1 - 1 - 0) % 32 = lg % 32 := by omega
    rw [e1, e2, upd_at, upd_at, upd_at, upd_at, upd_at, upd_at, updL_at, updL_at]
    exact ⟨rfl, rfl, rfl, rfl⟩
  · have hi2 : i - 1 < lz := by omega
    obtain ⟨g1, g2, g3, g4⟩ := h3 (i - 1) hi2
    have e1 : ((lx + 1) % 32 + 63 - i) % 32 = (lx + 63 - (i - 1)) % 32 := by omega
    have e2 : (lg + 1 - 1 - i) % 32 = (lg - 1 - (i - 1)) % 32 := by omega
    have n1 : (lx + 63 - (i - 1)) % 32 ≠ lx := by omega
    have n2 : (lg - 1 - (i - 1)) % 32 ≠ lg % 32 := by omega
    rw [e1, e2, upd_ne n1, upd_ne n1, upd_ne n1, updL_ne n1, upd_ne n2, upd_ne n2, upd_ne n2, updL_ne n2]
    exact ⟨g1, g2, g3, g4⟩
theorem RLg_run {lx lz lg : Nat} {lk lt lc mlk mlt mlc : Nat → Int32} {ly mly : Nat → Int64} (h : RLg lx lz lg lk lt lc ly mlk mlt mlc mly) {a1 a2 a3 b1 b2 b3 : Nat → Int32} {a4 b4 : Nat → Int64} : ∀ {d : Nat}, (∀ i, i < d → a1 i = b1 i ∧ a2 i = b2 i ∧ a3 i = b3 i ∧ a4 i = b4 i) → RLg ((lx + d) % 32) (min (lz + d) 32) (lg + d) (lgI lx a1 lk d) (lgI lx a2 lt d) (lgI lx a3 lc d) (lgJ lx a4 ly d) (lgI lg b1 mlk d) (lgI lg b2 mlt d) (lgI lg b3 mlc d) (lgJ lg b4 mly d)
  | 0, _ => by
    have h1 := h.1
    have h2 := h.2.1
    rw [show (lx + 0) % 32 = lx from Nat.mod_eq_of_lt h1, show min (lz + 0) 32 = lz by omega]
    exact h
  | d + 1, hv => by
    have ih := RLg_run h (d := d) (fun i hi => hv i (by omega))
    obtain ⟨v1, v2, v3, v4⟩ := hv d (by omega)
    have := RLg_one ih (a1 d) (a2 d) (a3 d) (a4 d)
    have e1 : ((lx + d) % 32 + 1) % 32 = (lx + (d + 1)) % 32 := by omega
    have e2 : min (min (lz + d) 32 + 1) 32 = min (lz + (d + 1)) 32 := by omega
    rw [e1, e2] at this
    show RLg _ _ _ (upd _ _ (a1 d)) (upd _ _ (a2 d)) (upd _ _ (a3 d)) (vp_updL _ _ (a4 d)) (upd _ _ (b1 d)) (upd _ _ (b2 d)) (upd _ _ (b3 d)) (vp_updL _ _ (b4 d))
    rw [← v1, ← v2, ← v3, ← v4]
    exact this
theorem RLg_empty {lx : Nat} {lk lt lc mlk mlt mlc : Nat → Int32} {ly mly : Nat → Int64} (h : lx < 32) : RLg lx 0 0 lk lt lc ly mlk mlt mlc mly := ⟨h, by omega, fun i hi => absurd hi (Nat.not_lt_zero i)⟩
/-- states -/
def RS (ct mct : Nat → Int32) (su msu : Nat → Int64) : Prop := ∀ k, k < 100 → ct k = mct k ∧ su k = msu k
theorem RS_run {ct mct ks mks : Nat → Int32} {su msu : Nat → Int64} (h : RS ct mct su msu) : ∀ {d : Nat}, (∀ j, j < d → ks j = mks j) → RS (tC ks ct d) (tC mks mct d) (tS ks su d) (tS mks msu d)
  | 0, _ => h
  | d + 1, hv => fun k hk => by
    have ih := RS_run h (d := d) (fun j hj => hv j (by omega)) k hk
    show upd _ _ _ k = upd _ _ _ k ∧ vp_updL _ _ _ k = vp_updL _ _ _ k
    rw [hv d (by omega)]
    unfold upd vp_updL
    by_cases e : k = kn (mks d)
    · rw [if_pos e, if_pos e, if_pos e, if_pos e]; exact ⟨rfl, rfl⟩
    · rw [if_neg e, if_neg e, if_neg e, if_neg e]; exact ih
theorem RS_upd {ct mct : Nat → Int32} {su msu : Nat → Int64} (h : RS ct mct su msu) {k : Nat} (a : Int32) (z : Int64) : RS (upd ct k a) (upd mct k a) (vp_updL su k z) (vp_updL msu k z) := fun j hj => by
  unfold upd vp_updL
  by_cases e : j = k
  · rw [if_pos e, if_pos e, if_pos e, if_pos e]; exact ⟨rfl, rfl⟩
  · rw [if_neg e, if_neg e, if_neg e, if_neg e]; exact h j hj
theorem RS_updL {ct mct : Nat → Int32} {su msu : Nat → Int64} (h : RS ct mct su msu) {k : Nat} (z : Int64) : RS ct mct (vp_updL su k z) (vp_updL msu k z) := fun j hj => by
  unfold vp_updL
  by_cases e : j = k
  · rw [if_pos e, if_pos e]; exact ⟨(h j hj).1, rfl⟩
  · rw [if_neg e, if_neg e]; exact h j hj
/-- weights -/
theorem sN_inc (w : Nat → Nat) (x : Nat) : ∀ n, sN (fun g => if g = x then w g + 1 else w g) n ≤ sN w n + 1 ∧ (n ≤ x → sN (fun g => if g = x then w g + 1 else w g) n = sN w n)
  | 0 => ⟨by show 0 ≤ _; omega, fun _ => rfl⟩
  | n + 1 => by
    obtain ⟨h1, h2⟩ := sN_inc w x n
    refine ⟨?_, fun hn => ?_⟩
    · rw [sN_s, sN_s]
      by_cases e : n = x
      · have := h2 (by omega)
        simp only [if_pos e]
        omega
      · simp only [if_neg e]
        omega
    · have := h2 (by omega)
      rw [sN_s, sN_s, this, if_neg (by omega)]
theorem sN_half (w : Nat → Nat) (n : Nat) : sN (fun g => w g / 2) n ≤ sN w n := sN_le (fun j => Nat.div_le_self _ _) n
theorem sN_zero : ∀ n, sN (fun _ => 0) n = 0
  | 0 => rfl
  | n + 1 => by rw [sN_s, sN_zero n]
theorem sN_at (w : Nat → Nat) {g n : Nat} (h : g < n) : w g ≤ sN w n := by
  have h1 := sN_mono w (show g + 1 ≤ n by omega)
  rw [sN_s] at h1
  omega
/-- hot groups -/
theorem cnt_sub {P Q : Nat → Bool} : ∀ {n : Nat}, (∀ j, j < n → P j = true → Q j = true) → cnt P n ≤ cnt Q n
  | 0, _ => Nat.le_refl _
  | n + 1, h => by
    have ih := cnt_sub (n := n) (fun j hj => h j (by omega))
    cases hp : P n with
    | true => rw [cnt_t hp, cnt_t (h n (by omega) hp)]; omega
    | false =>
      rw [cnt_f hp]
      have := cnt_mono Q (show n ≤ n + 1 by omega)
      omega
theorem cnt_sub_lt {P Q : Nat → Bool} {x : Nat} : ∀ {n : Nat}, (∀ j, j < n → P j = true → Q j = true) → x < n → P x = false → Q x = true → cnt P n < cnt Q n
  | 0, _, hx, _, _ => absurd hx (Nat.not_lt_zero x)
  | n + 1, h, hx, h1, h2 => by
    rcases Nat.lt_succ_iff_lt_or_eq.mp hx with z | z
    · have ih := cnt_sub_lt (n := n) (fun j hj => h j (by omega)) z h1 h2
      cases hp : P n with
      | true => rw [cnt_t hp, cnt_t (h n (by omega) hp)]; omega
      | false =>
        rw [cnt_f hp]
        have := cnt_mono Q (show n ≤ n + 1 by omega)
        omega
    · subst z
      rw [cnt_f h1, cnt_t h2]
      have := cnt_sub (n := x) (fun j hj => h j (by omega))
      omega
theorem hot_eq {G : Nat} {we mwe : Nat → Int32} {w : Nat → Nat} (hG : G ≤ 32) (h1 : ∀ g, g < G → we g = mwe g) (h2 : ∀ g, g < G → we g = nI (w g)) (hs : sN w G ≤ 1000) (k : Int32) : fI (hotP G we k) G = lst (htQ G mwe k) G := by
  have hsm : sm mwe G = sm we G := (sm_congr h1).symm
  have hT : sm we G = nI (sN w G) := sm_sN h2
  have hwl : ∀ g, g < G → w g ≤ 1000 := fun g hg => Nat.le_trans (sN_at w hg) hs
  have hwg : ∀ g, g < G → w g * G ≤ 1000 * 32 := fun g hg => Nat.mul_le_mul (hwl g hg) hG
  have cold : ∀ g, g < G → (we g * nI G ≤ nI 2 * sm we G ↔ w g * G ≤ 2 * sN w G) := fun g hg => by
    rw [h2 g hg, hT, pk_mul, pk_mul]
    exact nI_leI (by have := hwg g hg; omega) (by omega)
  have lts : ∀ a b, a < G → b < G → (we a < we b ↔ w a < w b) := fun a b ha hb => by
    rw [h2 a ha, h2 b hb]
    exact nI_ltI (by have := hwl a ha; omega) (by have := hwl b hb; omega)
  have eqs : ∀ a b, a < G → b < G → (we a = we b ↔ w a = w b) := fun a b ha hb => by
    rw [h2 a ha, h2 b hb]
    exact nI_eq (by have := hwl a ha; omega) (by have := hwl b hb; omega)
  have ahd : ∀ g o, g < G → o < G → (ahP we g o = true ↔ w g < w o ∨ (w o = w g ∧ o < g)) := fun g o hg ho => by
    show (decide (we g < we o) || (we o == we g && decide (o < g))) = true ↔ _
    simp only [Bool.or_eq_true, Bool.and_eq_true, decide_eq_true_eq, beq_iff_eq]
    rw [lts g o hg ho, eqs o g ho hg]
  have same : ∀ g, g < G → ¬ we g * nI G ≤ nI 2 * sm we G → cnt (bfP G mwe g (sm mwe G)) G = cnt (ahP we g) G := fun g hg hhot => by
    refine cnt_congr (fun o ho => ?_)
    show ((decide (mwe g < mwe o) || (mwe o == mwe g && decide (o < g))) && decide (¬ mwe o * nI G ≤ nI 2 * sm mwe G)) = ahP we g o
    rw [hsm, ← h1 g hg, ← h1 o ho]
    cases hp : ahP we g o with
    | true =>
      have ha := (ahd g o hg ho).mp hp
      have : ¬ we o * nI G ≤ nI 2 * sm we G := by
        rw [cold o ho]
        rw [cold g hg] at hhot
        have hle : w g ≤ w o := by omega
        have := Nat.mul_le_mul_right G hle
        omega
      have hp' : (decide (we g < we o) || (we o == we g && decide (o < g))) = true := hp
      rw [hp']
      simp [this]
    | false =>
      have hp' : (decide (we g < we o) || (we o == we g && decide (o < g))) = false := hp
      rw [hp']
      rfl
  have hP : ∀ g, g < G → hotP G we k g = htQ G mwe k g := fun g hg => by
    show (decide (¬ we g * nI G ≤ nI 2 * sm we G) && (nI (cnt (ahP we g) G) == k)) = (decide (¬ mwe g * nI G ≤ nI 2 * sm mwe G) && (nI (cnt (bfP G mwe g (sm mwe G)) G) == k))
    rw [← h1 g hg]
    by_cases c : we g * nI G ≤ nI 2 * sm we G
    · rw [hsm]; simp [c]
    · rw [same g hg c, hsm]
  rw [fI_congr hP]
  refine (lst_eq (fun x y hx hy px py => ?_)).symm
  rw [← hP x hx] at px
  rw [← hP y hy] at py
  have px' : (decide (¬ we x * nI G ≤ nI 2 * sm we G) && (nI (cnt (ahP we x) G) == k)) = true := px
  have py' : (decide (¬ we y * nI G ≤ nI 2 * sm we G) && (nI (cnt (ahP we y) G) == k)) = true := py
  simp only [Bool.and_eq_true, beq_iff_eq] at px' py'
  have hc : cnt (ahP we x) G = cnt (ahP we y) G := by
    have := px'.2.trans py'.2.symm
    have a1 := cnt_le (ahP we x) G
    have a2 := cnt_le (ahP we y) G
    exact (nI_eq (by omega) (by omega)).mp this
  have strict : ∀ a b, a < G → b < G → (w b < w a ∨ (w a = w b ∧ a < b)) → cnt (ahP we a) G < cnt (ahP we b) G := fun a b ha hb hl => by
    refine cnt_sub_lt (x := a) (fun j hj hja => ?_) ha ?_ ?_
    · rw [ahd a j ha hj] at hja
      rw [ahd b j hb hj]
      omega
    · cases hq : ahP we a a with
      | true => have := (ahd a a ha ha).mp hq; omega
      | false => rfl
    · rw [ahd b a hb ha]; omega
  rcases Nat.lt_trichotomy (w x) (w y) with z | z | z
  · have := strict y x hy hx (Or.inl z); omega
  · rcases Nat.lt_trichotomy x y with z2 | z2 | z2
    · have := strict x y hx hy (Or.inr ⟨z, z2⟩); omega
    · exact z2
    · have := strict y x hy hx (Or.inr ⟨z.symm, z2⟩); omega
  · have := strict x y hx hy (Or.inl z); omega
/-- least: the same number -/
theorem dpv_congr {w : Nat → Nat} {o o2 : Nat → Int32} {lim G n : Nat} (h : ∀ g, g < G → o g = o2 g) : ∀ r a, a ≤ G → dpv w o lim G n r a = dpv w o2 lim G n r a ∧ (0 < r → chs w (cg w o (n - r)) (dpv w o lim G n (r - 1)) lim a (G - a) = chs w (cg w o2 (n - r)) (dpv w o2 lim G n (r - 1)) lim a (G - a))
  | 0, a, ha => ⟨rfl, fun z => absurd z (Nat.lt_irrefl 0)⟩
  | r + 1, a, ha => by
    have key : ∀ k, a + k ≤ G → ∀ t, chs w (cg w o t) (dpv w o lim G n r) lim a k = chs w (cg w o2 t) (dpv w o2 lim G n r) lim a k := by
      intro k
      induction k with
      | zero => intro _ _; rfl
      | succ k ih =>
        intro hk t
        have e1 : sN (fun j => cg w o t (a + j)) (k + 1) = sN (fun j => cg w o2 t (a + j)) (k + 1) := by
          have : ∀ m, a + m ≤ G → sN (fun j => cg w o t (a + j)) m = sN (fun j => cg w o2 t (a + j)) m := by
            intro m
            induction m with
            | zero => intro _; rfl
            | succ m ihm =>
              intro hm
              rw [sN_s, sN_s, ihm (by omega)]
              congr 1
              unfold cg
              rw [h (a + m) (by omega)]
          exact this (k + 1) (by omega)
        have e2 := (dpv_congr (w := w) (lim := lim) (n := n) h r (a + k + 1) (by omega)).1
        show (if _ ∧ _ < _ then _ else _) = (if _ ∧ _ < _ then _ else _)
        rw [ih (by omega) t, e1, e2]
    have hh := key (G - a) (by omega)
    refine ⟨?_, fun _ => hh _⟩
    show (chs w (cg w o (n - 1 - r)) (dpv w o lim G n r) lim a (G - a)).1 = (chs w (cg w o2 (n - 1 - r)) (dpv w o2 lim G n r) lim a (G - a)).1
    rw [hh]
theorem dpf_congr {w : Nat → Nat} {o o2 : Nat → Int32} {lim G n : Nat} (h : ∀ g, g < G → o g = o2 g) (hlt : dpv w o lim G n n 0 < 1000000) : ∀ t, t ≤ n → dpf w o lim G n t = dpf w o2 lim G n t
  | 0, _ => rfl
  | t + 1, ht => by
    have ih := dpf_congr h hlt t (by omega)
    have hok := (dpf_ok hlt t (by omega)).2
    have := (dpv_congr (w := w) (lim := lim) (n := n) h (n - t) (dpf w o lim G n t) hok).2 (by omega)
    rw [show n - (n - t) = t by omega, show n - t - 1 = n - 1 - t by omega] at this
    show dpe w o lim G n t (dpf w o lim G n t) = dpe w o2 lim G n t (dpf w o2 lim G n t)
    unfold dpe
    rw [← ih, this]
theorem lay_congr {po po2 : Nat → Int32} {F F2 : Nat → Nat} {n : Nat} (h0 : F 0 = 0) (hm : ∀ t, t < n → F t ≤ F (t + 1)) : ∀ t, t ≤ n → (∀ j, j ≤ t → F j = F2 j) → ∀ g, g < F t → lay po F t g = lay po2 F2 t g
  | 0, _, _, g, hg => by rw [h0] at hg; omega
  | t + 1, ht, he, g, hg => by
    unfold lay rng
    rw [← he t (by omega), ← he (t + 1) (Nat.le_refl _)]
    by_cases q : F t ≤ g ∧ g < F (t + 1)
    · rw [if_pos q, if_pos q]
    · rw [if_neg q, if_neg q]
      exact lay_congr h0 hm t (by omega) (fun j hj => he j (by omega)) g (by omega)
theorem lay_even {G n : Nat} (hn : 0 < n) (po po2 : Nat → Int32) : ∀ g, g < G → lay po (evF G n) n g = lay po2 (evF G n) n g := fun g hg =>
  lay_congr (F := evF G n) (F2 := evF G n) (n := n) (by show 0 * G / n = 0; simp) (fun t _ => evF_mono G n t) n (Nat.le_refl _) (fun _ _ => rfl) g (by show g < n * G / n; rw [Nat.mul_div_cancel_left _ hn]; exact hg)
theorem lay_least {w : Nat → Nat} {o o2 : Nat → Int32} {lim G n : Nat} (h : ∀ g, g < G → o g = o2 g) (hlt : dpv w o lim G n n 0 < 1000000) (po po2 : Nat → Int32) : ∀ g, g < G → lay po (dpf w o lim G n) n g = lay po2 (dpf w o2 lim G n) n g := fun g hg =>
  lay_congr (F := dpf w o lim G n) (F2 := dpf w o2 lim G n) (n := n) rfl (fun t ht => Nat.le_of_lt (dpf_mono hlt ht)) n (Nat.le_refl _) (fun j hj => dpf_congr h hlt j hj) g (by rw [dpf_end hlt]; exact hg)
