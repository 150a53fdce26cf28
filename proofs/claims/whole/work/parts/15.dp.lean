def sN (f : Nat → Nat) : Nat → Nat
  | 0 => 0
  | k + 1 => sN f k + f k
theorem sN_s (f : Nat → Nat) (k : Nat) : sN f (k + 1) = sN f k + f k := rfl
theorem sN_mono (f : Nat → Nat) {i k : Nat} (h : i ≤ k) : sN f i ≤ sN f k := by
  induction k with
  | zero => have : i = 0 := by omega
            subst this; exact Nat.le_refl _
  | succ k ih =>
    rcases Nat.lt_or_ge i (k + 1) with q | q
    · have := ih (by omega)
      rw [sN_s]; omega
    · have : i = k + 1 := by omega
      subst this; exact Nat.le_refl _
theorem sN_split (f : Nat → Nat) (a : Nat) : ∀ k, sN f (a + k) = sN f a + sN (fun j => f (a + j)) k
  | 0 => rfl
  | k + 1 => by
    show sN f (a + k) + f (a + k) = _
    rw [sN_split f a k, sN_s]; omega
theorem sN_le {f g : Nat → Nat} (h : ∀ j, f j ≤ g j) : ∀ k, sN f k ≤ sN g k
  | 0 => Nat.le_refl _
  | k + 1 => by
    have h1 := sN_le h k
    have h2 := h k
    rw [sN_s, sN_s]; omega
theorem sm_sN {we : Nat → Int32} {w : Nat → Nat} : ∀ {k : Nat}, (∀ g, g < k → we g = nI (w g)) → sm we k = nI (sN w k)
  | 0, _ => rfl
  | k + 1, h => by
    rw [sm_s, sm_sN (fun g hg => h g (by omega)), h k (by omega), nI_add, sN_s]
/-- what group g costs task t -/
def cg (w : Nat → Nat) (o : Nat → Int32) (t g : Nat) : Nat := if o g = nI t then 0 else w g + 1
theorem cg_le (w : Nat → Nat) (o : Nat → Int32) (t g : Nat) : cg w o t g ≤ w g + 1 := by
  unfold cg; split <;> omega
/-- the least, and the end that has it first, among the first k ends of a range that begins at a -/
def chs (w cs B : Nat → Nat) (lim a : Nat) : Nat → Nat × Nat
  | 0 => (1000000, 0)
  | k + 1 => if sN (fun j => w (a + j)) (k + 1) ≤ lim ∧ sN (fun j => cs (a + j)) (k + 1) + B (a + k + 1) < (chs w cs B lim a k).1 then (sN (fun j => cs (a + j)) (k + 1) + B (a + k + 1), a + k + 1) else chs w cs B lim a k
theorem chs_le (w cs B : Nat → Nat) (lim a : Nat) : ∀ k, (chs w cs B lim a k).1 ≤ 1000000
  | 0 => Nat.le_refl _
  | k + 1 => by
    have := chs_le w cs B lim a k
    unfold chs
    split
    · rename_i h; show _ + _ ≤ _; omega
    · exact this
/-- behind the limit nothing more comes -/
theorem chs_stop {w cs B : Nat → Nat} {lim a k : Nat} (h : lim < sN (fun j => w (a + j)) (k + 1)) : ∀ m, chs w cs B lim a (k + m) = chs w cs B lim a k
  | 0 => rfl
  | m + 1 => by
    have h1 := sN_mono (fun j => w (a + j)) (show k + 1 ≤ k + m + 1 by omega)
    have e : chs w cs B lim a (k + m + 1) = chs w cs B lim a (k + m) := if_neg (by omega)
    exact e.trans (chs_stop h m)
theorem chs_ext {w cs B B' : Nat → Nat} {lim a : Nat} : ∀ {k : Nat}, (∀ j, a < j → j ≤ a + k → B j = B' j) → chs w cs B lim a k = chs w cs B' lim a k
  | 0, _ => rfl
  | k + 1, h => by
    unfold chs
    rw [chs_ext (fun j h1 h2 => h j h1 (by omega)), h (a + k + 1) (by omega) (by omega)]
/-- what is known of a chosen end -/
theorem chs_at {w cs B : Nat → Nat} {lim a : Nat} : ∀ {k : Nat}, (chs w cs B lim a k).1 < 1000000 → ∃ j, j < k ∧ (chs w cs B lim a k).2 = a + j + 1 ∧ sN (fun j => w (a + j)) (j + 1) ≤ lim ∧ (chs w cs B lim a k).1 = sN (fun j => cs (a + j)) (j + 1) + B (a + j + 1) ∧ ∀ i, i < j → sN (fun j => w (a + j)) (i + 1) ≤ lim → (chs w cs B lim a k).1 < sN (fun j => cs (a + j)) (i + 1) + B (a + i + 1)
  | 0, h => absurd h (by show ¬ 1000000 < 1000000; omega)
  | k + 1, h => by
    by_cases c : sN (fun j => w (a + j)) (k + 1) ≤ lim ∧ sN (fun j => cs (a + j)) (k + 1) + B (a + k + 1) < (chs w cs B lim a k).1
    · have e : chs w cs B lim a (k + 1) = (sN (fun j => cs (a + j)) (k + 1) + B (a + k + 1), a + k + 1) := if_pos c
      rw [e]
      refine ⟨k, by omega, rfl, c.1, rfl, fun i hi hl => ?_⟩
      have hm := chs_min (w := w) (cs := cs) (B := B) (lim := lim) (a := a) (k := k) i hi hl
      show _ + _ < _
      omega
    · have e : chs w cs B lim a (k + 1) = chs w cs B lim a k := if_neg c
      rw [e] at h ⊢
      obtain ⟨j, h1, h2⟩ := chs_at h
      exact ⟨j, by omega, h2⟩
where
  chs_min {w cs B : Nat → Nat} {lim a : Nat} : ∀ {k : Nat} (i : Nat), i < k → sN (fun j => w (a + j)) (i + 1) ≤ lim → (chs w cs B lim a k).1 ≤ sN (fun j => cs (a + j)) (i + 1) + B (a + i + 1)
    | 0, i, hi, _ => absurd hi (Nat.not_lt_zero i)
    | k + 1, i, hi, hl => by
      by_cases c : sN (fun j => w (a + j)) (k + 1) ≤ lim ∧ sN (fun j => cs (a + j)) (k + 1) + B (a + k + 1) < (chs w cs B lim a k).1
      · have e : chs w cs B lim a (k + 1) = (sN (fun j => cs (a + j)) (k + 1) + B (a + k + 1), a + k + 1) := if_pos c
        rw [e]
        show _ + _ ≤ _
        rcases Nat.lt_or_ge i k with q | q
        · have := chs_min (B := B) (cs := cs) i q hl
          omega
        · have : i = k := by omega
          subst this; exact Nat.le_refl _
      · have e : chs w cs B lim a (k + 1) = chs w cs B lim a k := if_neg c
        rw [e]
        rcases Nat.lt_or_ge i k with q | q
        · exact chs_min i q hl
        · have : i = k := by omega
          subst this
          omega
/-- the least from a on for the last r tasks of n -/
def dpv (w : Nat → Nat) (o : Nat → Int32) (lim G n : Nat) : Nat → Nat → Nat
  | 0 => fun g => if g = G then 0 else 1000000
  | r + 1 => fun a => (chs w (cg w o (n - 1 - r)) (dpv w o lim G n r) lim a (G - a)).1
def dpe (w : Nat → Nat) (o : Nat → Int32) (lim G n t a : Nat) : Nat := (chs w (cg w o t) (dpv w o lim G n (n - 1 - t)) lim a (G - a)).2
/-- where task t begins -/
def dpf (w : Nat → Nat) (o : Nat → Int32) (lim G n : Nat) : Nat → Nat
  | 0 => 0
  | t + 1 => dpe w o lim G n t (dpf w o lim G n t)
theorem dpv_le (w : Nat → Nat) (o : Nat → Int32) (lim G n : Nat) : ∀ r a, dpv w o lim G n r a ≤ 1000000
  | 0, a => by unfold dpv; split <;> omega
  | r + 1, a => chs_le ..
theorem dpf_ok {w : Nat → Nat} {o : Nat → Int32} {lim G n : Nat} (h : dpv w o lim G n n 0 < 1000000) : ∀ t, t ≤ n → dpv w o lim G n (n - t) (dpf w o lim G n t) < 1000000 ∧ dpf w o lim G n t ≤ G
  | 0, _ => ⟨h, Nat.zero_le _⟩
  | t + 1, ht => by
    obtain ⟨h1, h2⟩ := dpf_ok h t (by omega)
    rw [show n - t = (n - 1 - t) + 1 by omega] at h1
    have e : n - 1 - (n - 1 - t) = t := by omega
    have h1' : (chs w (cg w o t) (dpv w o lim G n (n - 1 - t)) lim (dpf w o lim G n t) (G - dpf w o lim G n t)).1 < 1000000 := by
      have := h1
      unfold dpv at this
      rw [e] at this
      exact this
    obtain ⟨j, g1, g2, -, g4, -⟩ := chs_at h1'
    have e2 : dpf w o lim G n (t + 1) = dpf w o lim G n t + j + 1 := g2
    rw [e2, show n - (t + 1) = n - 1 - t by omega]
    refine ⟨?_, by omega⟩
    rw [g4] at h1'
    omega
theorem dpf_mono {w : Nat → Nat} {o : Nat → Int32} {lim G n : Nat} (h : dpv w o lim G n n 0 < 1000000) {t : Nat} (ht : t < n) : dpf w o lim G n t < dpf w o lim G n (t + 1) := by
  obtain ⟨h1, h2⟩ := dpf_ok h t (by omega)
  rw [show n - t = (n - 1 - t) + 1 by omega] at h1
  have e : n - 1 - (n - 1 - t) = t := by omega
  have h1' : (chs w (cg w o t) (dpv w o lim G n (n - 1 - t)) lim (dpf w o lim G n t) (G - dpf w o lim G n t)).1 < 1000000 := by
    have := h1
    unfold dpv at this
    rw [e] at this
    exact this
  obtain ⟨j, g1, g2, -⟩ := chs_at h1'
  have e2 : dpf w o lim G n (t + 1) = dpf w o lim G n t + j + 1 := g2
  omega
theorem dpf_end {w : Nat → Nat} {o : Nat → Int32} {lim G n : Nat} (h : dpv w o lim G n n 0 < 1000000) : dpf w o lim G n n = G := by
  obtain ⟨h1, -⟩ := dpf_ok h n (Nat.le_refl _)
  rw [Nat.sub_self] at h1
  unfold dpv at h1
  by_cases q : dpf w o lim G n n = G
  · exact q
  · rw [if_neg q] at h1; omega
/-- a range of groups is given to t -/
def rng (po : Nat → Int32) (t : Int32) (a e : Nat) : Nat → Int32 := fun g => if a ≤ g ∧ g < e then t else po g
theorem rng_0 (po : Nat → Int32) (t : Int32) (a : Nat) : rng po t a a = po := funext fun g => if_neg (by omega)
theorem rng_s {po : Nat → Int32} {t : Int32} {a i : Nat} (h : a ≤ i) : upd (rng po t a i) i t = rng po t a (i + 1) := funext fun g => by
  unfold upd rng
  by_cases q : g = i
  · subst q; simp [h]
  · by_cases q2 : a ≤ g ∧ g < i
    · simp [q, q2, show g < i + 1 by omega]
    · rw [if_neg q, if_neg q2, if_neg (by omega)]
/-- ranges laid one behind the other by their firsts -/
def lay (po : Nat → Int32) (F : Nat → Nat) : Nat → (Nat → Int32)
  | 0 => po
  | t + 1 => rng (lay po F t) (nI t) (F t) (F (t + 1))
/-- EVEN RANGES -/
abbrev evF (G n : Nat) : Nat → Nat := fun i => i * G / n
theorem evF_mono (G n : Nat) (i : Nat) : evF G n i ≤ evF G n (i + 1) := Nat.div_le_div_right (Nat.mul_le_mul_right _ (by omega))
theorem evF_le {G n i : Nat} (hn : 0 < n) (hi : i ≤ n) : evF G n i ≤ G := by
  have h : i * G ≤ n * G := Nat.mul_le_mul_right _ hi
  calc i * G / n ≤ n * G / n := Nat.div_le_div_right h
    _ = G := Nat.mul_div_cancel_left _ hn
theorem lay_same {po po' : Nat → Int32} {F : Nat → Nat} (h0 : F 0 = 0) (hm : ∀ t, F t ≤ F (t + 1)) : ∀ t g, g < F t → lay po F t g = lay po' F t g
  | 0, g, hg => by rw [h0] at hg; omega
  | t + 1, g, hg => by
    unfold lay rng
    by_cases q : F t ≤ g ∧ g < F (t + 1)
    · rw [if_pos q, if_pos q]
    · rw [if_neg q, if_neg q]
      exact lay_same h0 hm t g (by omega)
def pfx {α : Type} (f h : Nat → α) (i : Nat) : Nat → α := fun g => if g < i then f g else h g
theorem pfx_at {α : Type} {f h : Nat → α} {i : Nat} : pfx f h i i = h i := if_neg (Nat.lt_irrefl _)
theorem pfx_0 {α : Type} {f h : Nat → α} : pfx f h 0 = h := funext fun g => if_neg (Nat.not_lt_zero g)
theorem pfx_s {f h : Nat → Int32} {i : Nat} {v : Int32} (hv : v = f i) : upd (pfx f h i) i v = pfx f h (i + 1) := funext fun g => by
  unfold upd pfx
  by_cases q : g = i
  · subst q; simp [hv]
  · by_cases q2 : g < i
    · simp [q, q2, Nat.lt_succ_of_lt q2]
    · simp [q, q2, show ¬ g < i + 1 by omega]
theorem pfx_k {α : Type} {f h : Nat → α} {i : Nat} (hv : h i = f i) : pfx f h i = pfx f h (i + 1) := funext fun g => by
  unfold pfx
  by_cases q : g = i
  · subst q; simp [hv]
  · by_cases q2 : g < i
    · simp [q2, Nat.lt_succ_of_lt q2]
    · simp [q2, show ¬ g < i + 1 by omega]
theorem pfx_in {α : Type} {f h : Nat → α} {i g : Nat} (hg : g < i) : pfx f h i g = f g := if_pos hg
theorem pfx_out {α : Type} {f h : Nat → α} {i g : Nat} (hg : i ≤ g) : pfx f h i g = h g := if_neg (by omega)
/-- an end is noted -/
def eup (f : Nat → Int32) (a e : Nat) : Nat → Int32 := if e = 0 then f else upd f a (nI e)
theorem eup_s {f : Nat → Int32} {a e e' : Nat} (h : 0 < e') : upd (eup f a e) a (nI e') = eup f a e' := by
  unfold eup
  rw [if_neg (show ¬ e' = 0 by omega)]
  by_cases q : e = 0
  · rw [if_pos q]
  · rw [if_neg q]
    funext g
    unfold upd
    by_cases q2 : g = a <;> simp [q2]
/-- which groups have P, one behind the other -/
def col (P : Nat → Bool) (f : Nat → Int32) : Nat → (Nat → Int32)
  | 0 => f
  | k + 1 => if P k then upd (col P f k) (cnt P k) (nI k) else col P f k
theorem col_t {P : Nat → Bool} {f : Nat → Int32} {k : Nat} (h : P k = true) : upd (col P f k) (cnt P k) (nI k) = col P f (k + 1) := by
  show _ = if P k then _ else _
  rw [if_pos h]
theorem col_f {P : Nat → Bool} {f : Nat → Int32} {k : Nat} (h : P k = false) : col P f k = col P f (k + 1) := by
  show _ = if P k then _ else _
  rw [if_neg (by rw [h]; decide)]
/-- the limit, as both reckon it -/
def lmt (tot sl n : Int32) : Int32 := (tot * (nI 100 + sl) + nI 100 * n - nI 1) / (nI 100 * n)
def lmN (tot sl n : Nat) : Nat := (tot * (100 + sl) + 100 * n - 1) / (100 * n)
theorem lmt_nI {tot sl n : Nat} (ht : tot ≤ 1000) (hs : sl ≤ 100) (h0 : 0 < n) (hn : n ≤ 12) : lmt (nI tot) (nI sl) (nI n) = nI (lmN tot sl n) := by
  unfold lmt lmN
  have h1 : tot * (100 + sl) ≤ 1000 * 200 := Nat.mul_le_mul ht (by omega)
  rw [nI_add, pk_mul, pk_mul, nI_add, pk_sub (by omega), pk_div (by omega) (by omega) (by omega)]
theorem lmN_le {tot sl n : Nat} (ht : tot ≤ 1000) (hs : sl ≤ 100) (hn : n ≤ 12) : lmN tot sl n ≤ 300000 := by
  unfold lmN
  have h1 : tot * (100 + sl) ≤ 1000 * 200 := Nat.mul_le_mul ht (by omega)
  exact Nat.le_trans (Nat.div_le_self _ _) (by omega)
theorem sN_p1 (f : Nat → Nat) : ∀ k, sN (fun j => f j + 1) k = sN f k + k
  | 0 => rfl
  | k + 1 => by rw [sN_s, sN_s, sN_p1 f k]; omega
theorem cg_nI {w : Nat → Nat} {ow : Nat → Int32} {t a k : Nat} : nI (sN (fun j => cg w ow t (a + j)) k) + (if ow (a + k) = nI t then 0 else nI (w (a + k)) + nI 1) = nI (sN (fun j => cg w ow t (a + j)) (k + 1)) := by
  rw [sN_s, ← nI_add]
  congr 1
  unfold cg
  split
  · rfl
  · rw [nI_add]
