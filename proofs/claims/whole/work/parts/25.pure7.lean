theorem dpv_bd {w : Nat → Nat} {o : Nat → Int32} {lim G n : Nat} : ∀ r a, a ≤ G → dpv w o lim G n r a < 1000000 → dpv w o lim G n r a + (sN w a + a) ≤ sN w G + G
  | 0, a, ha, h => by
    unfold dpv at h ⊢
    by_cases q : a = G
    · subst q; simp
    · rw [if_neg q] at h; omega
  | r + 1, a, ha, h => by
    have h' : (chs w (cg w o (n - 1 - r)) (dpv w o lim G n r) lim a (G - a)).1 < 1000000 := h
    obtain ⟨j, g1, g2, -, g4, -⟩ := chs_at h'
    have e : dpv w o lim G n (r + 1) a = sN (fun j => cg w o (n - 1 - r) (a + j)) (j + 1) + dpv w o lim G n r (a + j + 1) := g4
    have hlt : dpv w o lim G n r (a + j + 1) < 1000000 := by
      rw [g4] at h'; omega
    have ih := dpv_bd (w := w) (o := o) (lim := lim) (G := G) (n := n) r (a + j + 1) (by omega) hlt
    have c1 := sN_le (f := fun j => cg w o (n - 1 - r) (a + j)) (g := fun j => w (a + j) + 1) (fun j => cg_le w o (n - 1 - r) (a + j)) (j + 1)
    have c2 := sN_p1 (fun j => w (a + j)) (j + 1)
    have c3 := sN_split w a (j + 1)
    rw [e]
    have c4 : a + (j + 1) = a + j + 1 := by omega
    rw [c4] at c3
    omega
theorem trv_t {w cs B : Nat → Nat} {lim a k : Nat} (h1 : B (a + k) < 1000000) (h2 : sN (fun j => w (a + j)) k ≤ lim) : trv w cs B lim a k = enc (sN (fun j => cs (a + j)) k + B (a + k)) := if_pos ⟨h1, h2⟩
theorem trv_f {w cs B : Nat → Nat} {lim a k : Nat} (h : ¬ (B (a + k) < 1000000 ∧ sN (fun j => w (a + j)) k ≤ lim)) : trv w cs B lim a k = -1 := if_neg h
/-- the reference's best behind one more end -/
theorem trv_step {w cs B : Nat → Nat} {lim a k : Nat} (hb : B (a + k + 1) < 1000000 → sN (fun j => cs (a + j)) (k + 1) + B (a + k + 1) < 1000000) :
    enc (chs w cs B lim a (k + 1)).1 = if ¬ trv w cs B lim a (k + 1) < 0 ∧ (enc (chs w cs B lim a k).1 < 0 ∨ trv w cs B lim a (k + 1) < enc (chs w cs B lim a k).1) then trv w cs B lim a (k + 1) else enc (chs w cs B lim a k).1 := by
  have e3 : a + (k + 1) = a + k + 1 := rfl
  by_cases h1 : B (a + k + 1) < 1000000
  · have h9 := hb h1
    by_cases h2 : sN (fun j => w (a + j)) (k + 1) ≤ lim
    · rw [trv_t (k := k + 1) h1 h2, e3]
      have hn : ¬ enc (sN (fun j => cs (a + j)) (k + 1) + B (a + k + 1)) < 0 := fun z => enc_neg.mp z h9
      by_cases h3 : sN (fun j => cs (a + j)) (k + 1) + B (a + k + 1) < (chs w cs B lim a k).1
      · have e : chs w cs B lim a (k + 1) = (sN (fun j => cs (a + j)) (k + 1) + B (a + k + 1), a + k + 1) := if_pos ⟨h2, h3⟩
        rw [e, if_pos]
        refine ⟨hn, ?_⟩
        by_cases h4 : (chs w cs B lim a k).1 < 1000000
        · exact Or.inr ((enc_lt h9 h4).mpr h3)
        · exact Or.inl (enc_neg.mpr h4)
      · have e : chs w cs B lim a (k + 1) = chs w cs B lim a k := if_neg (fun z => h3 z.2)
        have h4 : (chs w cs B lim a k).1 < 1000000 := by omega
        rw [e, if_neg]
        rintro ⟨-, z | z⟩
        · exact enc_neg.mp z h4
        · exact h3 ((enc_lt h9 h4).mp z)
    · have e : chs w cs B lim a (k + 1) = chs w cs B lim a k := if_neg (fun z => h2 z.1)
      rw [trv_f (k := k + 1) (fun z => h2 z.2), e, if_neg (fun z => z.1 (by decide))]
  · have h5 := chs_le w cs B lim a k
    have e : chs w cs B lim a (k + 1) = chs w cs B lim a k := if_neg (fun z => by have := z.2; omega)
    rw [trv_f (k := k + 1) (fun z => h1 z.1), e, if_neg (fun z => z.1 (by decide))]
theorem trv_first {w cs B : Nat → Nat} {lim a K : Nat} (hb : ∀ k, k < K → B (a + k + 1) < 1000000 → sN (fun j => cs (a + j)) (k + 1) + B (a + k + 1) < 1000000) (h : (chs w cs B lim a K).1 < 1000000) : ∃ j, j < K ∧ (chs w cs B lim a K).2 = a + j + 1 ∧ trv w cs B lim a (j + 1) = enc (chs w cs B lim a K).1 ∧ ∀ i, i < j → ¬ trv w cs B lim a (i + 1) = enc (chs w cs B lim a K).1 := by
  obtain ⟨j, g1, g2, g3, g4, g5⟩ := chs_at h
  refine ⟨j, g1, g2, ?_, fun i hi e => ?_⟩
  · have h1 : B (a + j + 1) < 1000000 := by rw [g4] at h; omega
    rw [trv_t (k := j + 1) h1 g3, g4]
    rfl
  · by_cases c : B (a + i + 1) < 1000000 ∧ sN (fun j => w (a + j)) (i + 1) ≤ lim
    · rw [trv_t (k := i + 1) c.1 c.2] at e
      have h2 := g5 i hi c.2
      have h3 := hb i (by omega) c.1
      have h4 := (enc_eq h3).mp e
      omega
    · rw [trv_f (k := i + 1) c] at e
      have := enc_neg (v := (chs w cs B lim a K).1)
      rw [← e] at this
      exact this.mp (by decide) h
theorem cpyD {f g : Nat → Int32} {d i : Nat} : upd (va_cpy f g 0 d i) (d + i) (f i) = va_cpy f g 0 d (i + 1) := funext fun j => by
  unfold upd va_cpy
  by_cases q : j = d + i
  · subst q; rw [if_pos rfl, if_pos (by omega)]; congr 1; omega
  · by_cases q2 : d ≤ j ∧ j < d + i
    · rw [if_neg q, if_pos q2, if_pos (by omega)]
    · rw [if_neg q, if_neg q2, if_neg (by omega)]
theorem cpyDL {f g : Nat → Int64} {d i : Nat} : vp_updL (va_cpy f g 0 d i) (d + i) (f i) = va_cpy f g 0 d (i + 1) := funext fun j => by
  unfold vp_updL va_cpy
  by_cases q : j = d + i
  · subst q; rw [if_pos rfl, if_pos (by omega)]; congr 1; omega
  · by_cases q2 : d ≤ j ∧ j < d + i
    · rw [if_neg q, if_pos q2, if_pos (by omega)]
    · rw [if_neg q, if_neg q2, if_neg (by omega)]
theorem cpyS {f g : Nat → Int32} {s i : Nat} : upd (va_cpy f g s 0 i) i (f (s + i)) = va_cpy f g s 0 (i + 1) := funext fun j => by
  unfold upd va_cpy
  by_cases q : j = i
  · subst q; rw [if_pos rfl, if_pos (by omega)]; rfl
  · by_cases q2 : 0 ≤ j ∧ j < 0 + i
    · rw [if_neg q, if_pos q2, if_pos (by omega)]
    · rw [if_neg q, if_neg q2, if_neg (by omega)]
theorem cpySL {f g : Nat → Int64} {s i : Nat} : vp_updL (va_cpy f g s 0 i) i (f (s + i)) = va_cpy f g s 0 (i + 1) := funext fun j => by
  unfold vp_updL va_cpy
  by_cases q : j = i
  · subst q; rw [if_pos rfl, if_pos (by omega)]; rfl
  · by_cases q2 : 0 ≤ j ∧ j < 0 + i
    · rw [if_neg q, if_pos q2, if_pos (by omega)]
    · rw [if_neg q, if_neg q2, if_neg (by omega)]
theorem cpy0 {α : Type} {f g : Nat → α} {s d : Nat} : va_cpy f g s d 0 = g := funext fun j => if_neg (by omega)
theorem inT' {x : Int32} {N : Nat} (hN : N < 2 ^ 31) : inL x.toInt64 0 (nI N - nI 1).toInt64 ↔ isT x N := by
  rcases Nat.eq_zero_or_pos N with h | h
  · subst h
    rw [inL_i 0 (nI 0 - nI 1) (by decide) rfl]
    have e : nI 0 - nI 1 = -1 := by decide
    rw [e]
    constructor
    · rintro ⟨h1, h2⟩
      exact absurd (Int32.lt_of_le_of_lt h2 (by decide)) h1
    · rintro ⟨h1, h2⟩
      exact absurd (Int32.not_lt.mp h1) h2
  · rw [pk_sub h]; exact inT h hN
/-- the place i is taken out of the first e + 1 -/
def shl (f : Nat → Int32) (i e : Nat) : Nat → Int32 := fun j => if i ≤ j ∧ j < e then f (j + 1) else f j
theorem shl_0 (f : Nat → Int32) (i : Nat) : shl f i i = f := funext fun j => if_neg (by omega)
theorem shl_r {f : Nat → Int32} {i k : Nat} : shl f i k (k + 1) = f (k + 1) := if_neg (by omega)
theorem shl_s {f : Nat → Int32} {i k : Nat} (h : i ≤ k) : upd (shl f i k) k (f (k + 1)) = shl f i (k + 1) := funext fun j => by
  unfold upd shl
  by_cases q : j = k
  · subst q; rw [if_pos rfl, if_pos (by omega)]
  · by_cases q2 : i ≤ j ∧ j < k
    · rw [if_neg q, if_pos q2, if_pos (by omega)]
    · rw [if_neg q, if_neg q2, if_neg (by omega)]
/-- the reference's due(): the first of the least among the first i that are due -/
def dN (u : Int32) (tk tt : Nat → Int32) : Nat → Option Nat
  | 0 => none
  | i + 1 => match dN u tk tt i with
    | none => if tt i ≤ u then some i else none
    | some b => if tt i ≤ u ∧ tah (tk i) (tt i) (tk b) (tt b) then some i else some b
def oI (o : Option Nat) : Int32 := match o with
  | none => -106
  | some a => nI a
theorem dN_lt {u : Int32} {tk tt : Nat → Int32} : ∀ {i b : Nat}, dN u tk tt i = some b → b < i ∧ tt b ≤ u
  | 0, b, h => by cases h
  | i + 1, b, h => by
    unfold dN at h
    cases hd : dN u tk tt i with
    | none =>
      rw [hd] at h
      by_cases q : tt i ≤ u
      · simp only [q, if_true] at h
        cases h
        exact ⟨by omega, q⟩
      · simp only [q, if_false] at h
        cases h
    | some c =>
      rw [hd] at h
      have ih := dN_lt hd
      by_cases q : tt i ≤ u ∧ tah (tk i) (tt i) (tk c) (tt c)
      · simp only [q, if_true, and_self] at h
        cases h
        exact ⟨by omega, q.1⟩
      · simp only [if_neg q] at h
        cases h
        exact ⟨by omega, ih.2⟩
theorem dN_n {u : Int32} {tk tt : Nat → Int32} {i : Nat} (h : dN u tk tt i = none) : dN u tk tt (i + 1) = if tt i ≤ u then some i else none := by
  conv => lhs; unfold dN
  rw [h]
theorem dN_s {u : Int32} {tk tt : Nat → Int32} {i b : Nat} (h : dN u tk tt i = some b) : dN u tk tt (i + 1) = if tt i ≤ u ∧ tah (tk i) (tt i) (tk b) (tt b) then some i else some b := by
  conv => lhs; unfold dN
  rw [h]
theorem oI_neg {o : Option Nat} (h : ∀ b, o = some b → b < 1000) : oI o < 0 ↔ o = none := by
  cases o with
  | none => exact ⟨fun _ => rfl, fun _ => by decide⟩
  | some b =>
    constructor
    · intro z; exact absurd z (nI_pos (by have := h b rfl; omega))
    · intro z; cases z
/-- the reference's timers behind m that came -/
def rgN (u : Int32) (tk tt : Nat → Int32) (ts : Nat) : Nat → (Nat → Int32) × (Nat → Int32) × Nat
  | 0 => (tk, tt, ts)
  | m + 1 => match dN u (rgN u tk tt ts m).1 (rgN u tk tt ts m).2.1 (rgN u tk tt ts m).2.2 with
    | none => rgN u tk tt ts m
    | some i => (shl (rgN u tk tt ts m).1 i ((rgN u tk tt ts m).2.2 - 1), shl (rgN u tk tt ts m).2.1 i ((rgN u tk tt ts m).2.2 - 1), (rgN u tk tt ts m).2.2 - 1)
abbrev rgD (u : Int32) (tk tt : Nat → Int32) (ts m : Nat) : Option Nat := dN u (rgN u tk tt ts m).1 (rgN u tk tt ts m).2.1 (rgN u tk tt ts m).2.2
def rgK (u : Int32) (tk tt : Nat → Int32) (ts m : Nat) : Int32 := (rgN u tk tt ts m).1 ((rgD u tk tt ts m).getD 0)
def rgT (u : Int32) (tk tt : Nat → Int32) (ts m : Nat) : Int32 := (rgN u tk tt ts m).2.1 ((rgD u tk tt ts m).getD 0)
theorem rgN_s {u : Int32} {tk tt : Nat → Int32} {ts m i : Nat} (h : rgD u tk tt ts m = some i) : rgN u tk tt ts (m + 1) = (shl (rgN u tk tt ts m).1 i ((rgN u tk tt ts m).2.2 - 1), shl (rgN u tk tt ts m).2.1 i ((rgN u tk tt ts m).2.2 - 1), (rgN u tk tt ts m).2.2 - 1) := by
  have h : dN u (rgN u tk tt ts m).1 (rgN u tk tt ts m).2.1 (rgN u tk tt ts m).2.2 = some i := h
  conv => lhs; unfold rgN
  rw [h]
/-- over groups from the last on -/
def dsF (P : Nat → Bool) (G : Nat) : Nat → Int32
  | 0 => -106
  | r + 1 => if P (G - 1 - r) then nI (G - 1 - r) else dsF P G r
def dsC (P : Nat → Bool) (G : Nat) : Nat → Nat
  | 0 => 0
  | r + 1 => if P (G - 1 - r) then dsC P G r + 1 else dsC P G r
def dsS (P : Nat → Bool) (f : Nat → Int32) (G : Nat) : Nat → Int32
  | 0 => 0
  | r + 1 => if P (G - 1 - r) then dsS P f G r + f (G - 1 - r) else dsS P f G r
/-- the last of those with P -/
def lst (P : Nat → Bool) : Nat → Int32
  | 0 => -106
  | k + 1 => if P k then nI k else lst P k
abbrev wgQ (G : Nat) (rk wa : Nat → Int32) (g : Int32) : Nat → Bool := fun q => (!(wa q == 0)) && (nI (gof G (rk q)) == g)
abbrev bfP (G : Nat) (we : Nat → Int32) (g : Nat) (al : Int32) : Nat → Bool := fun o => (decide (we g < we o) || (we o == we g && decide (o < g))) && decide (¬ we o * nI G ≤ nI 2 * al)
abbrev htQ (G : Nat) (we : Nat → Int32) (k : Int32) : Nat → Bool := fun g => decide (¬ we g * nI G ≤ nI 2 * sm we G) && (nI (cnt (bfP G we g (sm we G)) G) == k)
abbrev mvz (mv : Nat → Int32) : Nat → Bool := fun x => !(mv x == 0)
theorem dp_fit {w : Nat → Nat} {o : Nat → Int32} {lim G n r t a j : Nat} (h : a + j + 1 ≤ G) (hs : sN w G ≤ 1000) (hG : G ≤ 32) (y : dpv w o lim G n r (a + j + 1) < 1000000) : sN (fun i => cg w o t (a + i)) (j + 1) + dpv w o lim G n r (a + j + 1) < 1000000 := by
  have h1 := dpv_bd r (a + j + 1) h y
  have c1 := sN_le (f := fun i => cg w o t (a + i)) (g := fun i => w (a + i) + 1) (fun i => cg_le w o t (a + i)) (j + 1)
  have c2 := sN_p1 (fun i => w (a + i)) (j + 1)
  have c3 := sN_split w a (j + 1)
  have c4 : a + (j + 1) = a + j + 1 := rfl
  rw [c4] at c3
  omega
theorem shl_k {f : Nat → Int32} {n i : Nat} (h : ∀ q, q < n → ∃ k, k < 100 ∧ f q = nI k) (hi : i < n) (q : Nat) (hq : q < n - 1) : ∃ k, k < 100 ∧ shl f i (n - 1) q = nI k := by
  unfold shl
  split
  · exact h (q + 1) (by omega)
  · exact h q (by omega)
