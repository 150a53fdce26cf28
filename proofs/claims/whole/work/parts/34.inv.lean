theorem kF_on {w : List Nat} {M M2 : Nat → va_E} (h : kF w M M2) (l : List Nat) (hd : ∀ x ∈ l, x ∉ w) : ∀ q ∈ l, M2 q = M q := fun q hq => h q (hd q hq)
theorem kF_app {w1 w2 : List Nat} {M M1 M2 : Nat → va_E} (h1 : kF w1 M M1) (h2 : kF w2 M1 M2) : kF (w1 ++ w2) M M2 := fun i hi => (h2 i (fun q => hi (List.mem_append_right _ q))).trans (h1 i (fun q => hi (List.mem_append_left _ q)))
theorem kF_of {w : List Nat} {M M1 : Nat → va_E} (h : M1 = M) : kF w M M1 := by rw [h]; exact kF_rf
/-- the objects -/
def iOB (cR : ClassId) (b : Nat) (M : Nat → va_E) (mm s_ G mo ta : Nat) (sc : Int32) (mv rs ca ts : Nat) (tr : Int32) (os lx lz lg : Nat) : Prop := M 0 = .inr (8, [.ref (b + 1), .ref (b + 6), .ref (b + 22), .ref (b + 33), .ref (b + 37), .ref (b + 42), .int (nI mm), .int (nI s_)]) ∧ M 1 = .inr (3, [.int (nI G), .int (nI mo), .int (nI ta), .int sc, .int (nI mv), .ref (b + 2), .ref (b + 3), .ref (b + 4), .ref (b + 5)]) ∧ M 6 = .inr (4, [.ref (b + 7), .ref (b + 8), .ref (b + 9)]) ∧ M 9 = .inl (cR, 12, .inr (.inr (.inr (.inr (fun i => if i < 12 then some (b + 9 + 1 + i) else none))))) ∧ M 22 = .inr (0, [.ref (b + 23), .ref (b + 26), .ref (b + 30)]) ∧ M 23 = .inr (6, [.ref (b + 24), .ref (b + 25)]) ∧ M 26 = .inr (5, [.ref (b + 27), .ref (b + 28), .ref (b + 29), .int (nI rs), .int (nI ca)]) ∧ M 30 = .inr (7, [.ref (b + 31), .ref (b + 32), .int (nI ts), .int tr]) ∧ M 33 = .inr (2, [.ref (b + 34), .ref (b + 35), .ref (b + 36), .int (nI os)]) ∧ M 37 = .inr (1, [.ref (b + 38), .ref (b + 39), .ref (b + 40), .ref (b + 41), .int (nI lx), .int (nI lz)]) ∧ M 43 = .inr (9, [.int (nI G), .int (nI mo), .int (nI ta), .int (nI s_), .ref (b + 44), .ref (b + 45), .ref (b + 46), .ref (b + 47), .int (nI ca), .ref (b + 48), .ref (b + 49), .ref (b + 50), .ref (b + 51), .ref (b + 52), .int (nI os), .ref (b + 53), .ref (b + 54), .ref (b + 55), .int tr, .int (nI ts), .ref (b + 56), .ref (b + 57), .int (nI lg), .ref (b + 58), .ref (b + 59), .ref (b + 60), .ref (b + 61), .int (nI mm), .int sc, .ref (b + 62), .ref (b + 63), .ref (b + 64), .ref (b + 65), .ref (b + 66), .ref (b + 67), .ref (b + 68), .ref (b + 69), .ref (b + 70), .ref (b + 71), .ref (b + 72), .ref (b + 73)])
def iOw (cI cJ cZ : ClassId) (M : Nat → va_E) (G : Nat) (w : Nat → Nat) : Prop := ∃ (ow : Nat → Int32) (ep : Nat → Int32) (we : Nat → Int32) (mow : Nat → Int32) (mep : Nat → Int32) (mwe : Nat → Int32), M 2 = .inl (cI, 32, .inl ow) ∧ M 3 = .inl (cI, 32, .inl ep) ∧ M 4 = .inl (cI, 32, .inl we) ∧ M 44 = .inl (cI, 32, .inl mow) ∧ M 45 = .inl (cI, 32, .inl mep) ∧ M 46 = .inl (cI, 32, .inl mwe) ∧ (∀ g, g < G → ow g = mow g ∧ ep g = mep g ∧ we g = mwe g ∧ we g = nI (w g))
theorem iOw_fr {cI cJ cZ : ClassId} {M M2 : Nat → va_E} {G : Nat} {w : Nat → Nat} (h : iOw cI cJ cZ M G w) (e : ∀ q ∈ [2, 3, 4, 44, 45, 46], M2 q = M q) : iOw cI cJ cZ M2 G w := by
  obtain ⟨ow, ep, we, mow, mep, mwe, h2, h3, h4, h44, h45, h46, hr⟩ := h
  exact ⟨ow, ep, we, mow, mep, mwe, (e 2 (by decide)).trans h2, (e 3 (by decide)).trans h3, (e 4 (by decide)).trans h4, (e 44 (by decide)).trans h44, (e 45 (by decide)).trans h45, (e 46 (by decide)).trans h46, hr⟩
def iMv (cI cJ cZ : ClassId) (M : Nat → va_E) (mv : Nat) : Prop := ∃ (mg : Nat → Int32) (mmv : Nat → Int32), M 5 = .inl (cI, 32, .inl mg) ∧ M 47 = .inl (cZ, 32, .inl mmv) ∧ (RMv mv mg mmv)
theorem iMv_fr {cI cJ cZ : ClassId} {M M2 : Nat → va_E} {mv : Nat} (h : iMv cI cJ cZ M mv) (e : ∀ q ∈ [5, 47], M2 q = M q) : iMv cI cJ cZ M2 mv := by
  obtain ⟨mg, mmv, h5, h47, hr⟩ := h
  exact ⟨mg, mmv, (e 5 (by decide)).trans h5, (e 47 (by decide)).trans h47, hr⟩
def iSt (cI cJ cZ : ClassId) (M : Nat → va_E)  : Prop := ∃ (ct : Nat → Int32) (su : Nat → Int64) (mct : Nat → Int32) (msu : Nat → Int64), M 24 = .inl (cI, 100, .inl ct) ∧ M 25 = .inl (cJ, 100, .inr (.inl su)) ∧ M 51 = .inl (cI, 100, .inl mct) ∧ M 52 = .inl (cJ, 100, .inr (.inl msu)) ∧ (RS ct mct su msu)
theorem iSt_fr {cI cJ cZ : ClassId} {M M2 : Nat → va_E}  (h : iSt cI cJ cZ M ) (e : ∀ q ∈ [24, 25, 51, 52], M2 q = M q) : iSt cI cJ cZ M2  := by
  obtain ⟨ct, su, mct, msu, h24, h25, h51, h52, hr⟩ := h
  exact ⟨ct, su, mct, msu, (e 24 (by decide)).trans h24, (e 25 (by decide)).trans h25, (e 51 (by decide)).trans h51, (e 52 (by decide)).trans h52, hr⟩
def iRw (cI cJ cZ : ClassId) (M : Nat → va_E) (rs ca : Nat) : Prop := ∃ (rn : Nat → Int32) (rk : Nat → Int32) (rv : Nat → Int32) (mrk : Nat → Int32) (mrv : Nat → Int32) (mwa : Nat → Int32), M 27 = .inl (cI, 400, .inl rn) ∧ M 28 = .inl (cI, 400, .inl rk) ∧ M 29 = .inl (cI, 400, .inl rv) ∧ M 48 = .inl (cI, 400, .inl mrk) ∧ M 49 = .inl (cI, 400, .inl mrv) ∧ M 50 = .inl (cZ, 400, .inl mwa) ∧ (RR rs ca rn rk rv mrk mrv mwa)
theorem iRw_fr {cI cJ cZ : ClassId} {M M2 : Nat → va_E} {rs ca : Nat} (h : iRw cI cJ cZ M rs ca) (e : ∀ q ∈ [27, 28, 29, 48, 49, 50], M2 q = M q) : iRw cI cJ cZ M2 rs ca := by
  obtain ⟨rn, rk, rv, mrk, mrv, mwa, h27, h28, h29, h48, h49, h50, hr⟩ := h
  exact ⟨rn, rk, rv, mrk, mrv, mwa, (e 27 (by decide)).trans h27, (e 28 (by decide)).trans h28, (e 29 (by decide)).trans h29, (e 48 (by decide)).trans h48, (e 49 (by decide)).trans h49, (e 50 (by decide)).trans h50, hr⟩
def iOu (cI cJ cZ : ClassId) (M : Nat → va_E) (os : Nat) : Prop := ∃ (on_ : Nat → Int32) (ok_ : Nat → Int32) (oz : Nat → Int64) (mon : Nat → Int32) (mok : Nat → Int32) (moz : Nat → Int64), M 34 = .inl (cI, 400, .inl on_) ∧ M 35 = .inl (cI, 400, .inl ok_) ∧ M 36 = .inl (cJ, 400, .inr (.inl oz)) ∧ M 53 = .inl (cI, 400, .inl mon) ∧ M 54 = .inl (cI, 400, .inl mok) ∧ M 55 = .inl (cJ, 400, .inr (.inl moz)) ∧ (∀ j, j < os → on_ j = mon j ∧ ok_ j = mok j ∧ oz j = moz j)
theorem iOu_fr {cI cJ cZ : ClassId} {M M2 : Nat → va_E} {os : Nat} (h : iOu cI cJ cZ M os) (e : ∀ q ∈ [34, 35, 36, 53, 54, 55], M2 q = M q) : iOu cI cJ cZ M2 os := by
  obtain ⟨on_, ok_, oz, mon, mok, moz, h34, h35, h36, h53, h54, h55, hr⟩ := h
  exact ⟨on_, ok_, oz, mon, mok, moz, (e 34 (by decide)).trans h34, (e 35 (by decide)).trans h35, (e 36 (by decide)).trans h36, (e 53 (by decide)).trans h53, (e 54 (by decide)).trans h54, (e 55 (by decide)).trans h55, hr⟩
def iTm (cI cJ cZ : ClassId) (M : Nat → va_E) (ts : Nat) : Prop := ∃ (tk : Nat → Int32) (tt : Nat → Int32) (mtk : Nat → Int32) (mtt : Nat → Int32), M 31 = .inl (cI, 40, .inl tk) ∧ M 32 = .inl (cI, 40, .inl tt) ∧ M 56 = .inl (cI, 40, .inl mtk) ∧ M 57 = .inl (cI, 40, .inl mtt) ∧ (RT ts tk tt mtk mtt)
theorem iTm_fr {cI cJ cZ : ClassId} {M M2 : Nat → va_E} {ts : Nat} (h : iTm cI cJ cZ M ts) (e : ∀ q ∈ [31, 32, 56, 57], M2 q = M q) : iTm cI cJ cZ M2 ts := by
  obtain ⟨tk, tt, mtk, mtt, h31, h32, h56, h57, hr⟩ := h
  exact ⟨tk, tt, mtk, mtt, (e 31 (by decide)).trans h31, (e 32 (by decide)).trans h32, (e 56 (by decide)).trans h56, (e 57 (by decide)).trans h57, hr⟩
def iLg (cI cJ cZ : ClassId) (M : Nat → va_E) (lx lz lg : Nat) : Prop := ∃ (lk : Nat → Int32) (lt : Nat → Int32) (lc : Nat → Int32) (ly : Nat → Int64) (mlk : Nat → Int32) (mlt : Nat → Int32) (mlc : Nat → Int32) (mly : Nat → Int64), M 38 = .inl (cI, 32, .inl lk) ∧ M 39 = .inl (cI, 32, .inl lt) ∧ M 40 = .inl (cI, 32, .inl lc) ∧ M 41 = .inl (cJ, 32, .inr (.inl ly)) ∧ M 58 = .inl (cI, 32, .inl mlk) ∧ M 59 = .inl (cI, 32, .inl mlt) ∧ M 60 = .inl (cI, 32, .inl mlc) ∧ M 61 = .inl (cJ, 32, .inr (.inl mly)) ∧ (RLg lx lz lg lk lt lc ly mlk mlt mlc mly)
theorem iLg_fr {cI cJ cZ : ClassId} {M M2 : Nat → va_E} {lx lz lg : Nat} (h : iLg cI cJ cZ M lx lz lg) (e : ∀ q ∈ [38, 39, 40, 41, 58, 59, 60, 61], M2 q = M q) : iLg cI cJ cZ M2 lx lz lg := by
  obtain ⟨lk, lt, lc, ly, mlk, mlt, mlc, mly, h38, h39, h40, h41, h58, h59, h60, h61, hr⟩ := h
  exact ⟨lk, lt, lc, ly, mlk, mlt, mlc, mly, (e 38 (by decide)).trans h38, (e 39 (by decide)).trans h39, (e 40 (by decide)).trans h40, (e 41 (by decide)).trans h41, (e 58 (by decide)).trans h58, (e 59 (by decide)).trans h59, (e 60 (by decide)).trans h60, (e 61 (by decide)).trans h61, hr⟩
def iPl (cI cJ cZ : ClassId) (M : Nat → va_E) : Prop := ∃ (po be mpl : Nat → Int32) (mlf : Nat → Int64) (eo : Nat → Nat → Int32), M 7 = .inl (cI, 32, .inl po) ∧ M 8 = .inl (cI, 33, .inl be) ∧ M 72 = .inl (cI, 32, .inl mpl) ∧ M 73 = .inl (cJ, 429, .inr (.inl mlf)) ∧ ∀ i, i < 12 → M (10 + i) = .inl (cI, 33, .inl (eo i))
theorem iPl_fr {cI cJ cZ : ClassId} {M M2 : Nat → va_E} (h : iPl cI cJ cZ M) (e : ∀ q ∈ [7, 8, 10, 11, 12, 13, 14, 15, 16, 17, 18, 19, 20, 21, 72, 73], M2 q = M q) : iPl cI cJ cZ M2 := by
  obtain ⟨po, be, mpl, mlf, eo, h7, h8, h72, h73, hE⟩ := h
  exact ⟨po, be, mpl, mlf, eo, (e 7 (by decide)).trans h7, (e 8 (by decide)).trans h8, (e 72 (by decide)).trans h72, (e 73 (by decide)).trans h73, fun i hi => (e (10 + i) (by simp; omega)).trans (hE i hi)⟩
def iHd (cI cJ : ClassId) (b : Nat) (M : Nat → va_E) (h : Nat) (ct rn rk rv tk tt : Nat → Int32) (su : Nat → Int64) (rs ca ts : Nat) (tr : Int32) : Prop := M h = .inr (0, [.ref (b + (h + 1)), .ref (b + (h + 4)), .ref (b + (h + 8))]) ∧ M (h + 1) = .inr (6, [.ref (b + (h + 2)), .ref (b + (h + 3))]) ∧ M (h + 2) = .inl (cI, 100, .inl ct) ∧ M (h + 3) = .inl (cJ, 100, .inr (.inl su)) ∧ M (h + 4) = .inr (5, [.ref (b + (h + 5)), .ref (b + (h + 6)), .ref (b + (h + 7)), .int (nI rs), .int (nI ca)]) ∧ M (h + 5) = .inl (cI, 400, .inl rn) ∧ M (h + 6) = .inl (cI, 400, .inl rk) ∧ M (h + 7) = .inl (cI, 400, .inl rv) ∧ M (h + 8) = .inr (7, [.ref (b + (h + 9)), .ref (b + (h + 10)), .int (nI ts), .int tr]) ∧ M (h + 9) = .inl (cI, 40, .inl tk) ∧ M (h + 10) = .inl (cI, 40, .inl tt)
theorem iHd_fr {cI cJ : ClassId} {b : Nat} {M M2 : Nat → va_E} {h : Nat} {ct rn rk rv tk tt : Nat → Int32} {su : Nat → Int64} {rs ca ts : Nat} {tr : Int32} (H : iHd cI cJ b M h ct rn rk rv tk tt su rs ca ts tr) (e : ∀ q, h ≤ q → q < h + 11 → M2 q = M q) : iHd cI cJ b M2 h ct rn rk rv tk tt su rs ca ts tr := by
  obtain ⟨a0, a1, a2, a3, a4, a5, a6, a7, a8, a9, a10⟩ := H
  exact ⟨(e h (by omega) (by omega)).trans a0, (e (h + 1) (by omega) (by omega)).trans a1, (e (h + 2) (by omega) (by omega)).trans a2, (e (h + 3) (by omega) (by omega)).trans a3, (e (h + 4) (by omega) (by omega)).trans a4, (e (h + 5) (by omega) (by omega)).trans a5, (e (h + 6) (by omega) (by omega)).trans a6, (e (h + 7) (by omega) (by omega)).trans a7, (e (h + 8) (by omega) (by omega)).trans a8, (e (h + 9) (by omega) (by omega)).trans a9, (e (h + 10) (by omega) (by omega)).trans a10⟩
/-- a mark as both hold it -/
def iRk (i : Nat) (mxr mxk mxv mxw mxc mxt mxn mxa mxb : Nat → Int32) (mxs : Nat → Int64) (ct rn rk rv tk tt : Nat → Int32) (su : Nat → Int64) (rs ca ts : Nat) (tr : Int32) : Prop := RS ct (fun k => mxc (100 * i + k)) su (fun k => mxs (100 * i + k)) ∧ RR rs ca rn rk rv (fun q => mxk (400 * i + q)) (fun q => mxv (400 * i + q)) (fun q => mxw (400 * i + q)) ∧ RT ts tk tt (fun q => mxa (40 * i + q)) (fun q => mxb (40 * i + q)) ∧ mxr i = nI ca ∧ mxn i = nI ts ∧ mxt i = tr
def iM1 (cI cJ : ClassId) (b : Nat) (M : Nat → va_E) (mm i : Nat) (mxr mxk mxv mxw mxc mxt mxn mxa mxb : Nat → Int32) (mxs : Nat → Int64) : Prop := ∃ (ct rn rk rv tk tt : Nat → Int32) (su : Nat → Int64) (rs ca ts : Nat) (tr : Int32), iHd cI cJ b M (74 + 11 * i) ct rn rk rv tk tt su rs ca ts tr ∧ (i < mm → iRk i mxr mxk mxv mxw mxc mxt mxn mxa mxb mxs ct rn rk rv tk tt su rs ca ts tr)
def iMk (cI cJ cZ cH : ClassId) (b : Nat) (M : Nat → va_E) (mm hc : Nat) : Prop := ∃ (mk : Nat → Option Nat) (mxr mxk mxv mxw mxc mxt mxn mxa mxb : Nat → Int32) (mxs : Nat → Int64), M 42 = .inl (cH, 3, .inr (.inr (.inr (.inr mk)))) ∧ (∀ i, i < 3 → mk i = if i < hc then some (b + (74 + 11 * i)) else none) ∧ M 62 = .inl (cI, 3, .inl mxr) ∧ M 63 = .inl (cI, 1200, .inl mxk) ∧ M 64 = .inl (cI, 1200, .inl mxv) ∧ M 65 = .inl (cZ, 1200, .inl mxw) ∧ M 66 = .inl (cI, 300, .inl mxc) ∧ M 67 = .inl (cJ, 300, .inr (.inl mxs)) ∧ M 68 = .inl (cI, 3, .inl mxt) ∧ M 69 = .inl (cI, 3, .inl mxn) ∧ M 70 = .inl (cI, 120, .inl mxa) ∧ M 71 = .inl (cI, 120, .inl mxb) ∧ ∀ i, i < hc → iM1 cI cJ b M mm i mxr mxk mxv mxw mxc mxt mxn mxa mxb mxs
theorem iMk_fr {cI cJ cZ cH : ClassId} {b : Nat} {M M2 : Nat → va_E} {mm hc : Nat} {w : List Nat} (h : iMk cI cJ cZ cH b M mm hc) (hF : kF w M M2) (hw : ∀ x ∈ w, x ≠ 42 ∧ x < 74 ∧ (x < 62 ∨ 71 < x)) : iMk cI cJ cZ cH b M2 mm hc := by
  obtain ⟨mk, mxr, mxk, mxv, mxw, mxc, mxt, mxn, mxa, mxb, mxs, h42, hmk, h62, h63, h64, h65, h66, h67, h68, h69, h70, h71, hM⟩ := h
  have e : ∀ q, q = 42 ∨ (62 ≤ q ∧ q ≤ 71) ∨ 74 ≤ q → M2 q = M q := fun q hq => hF q (fun z => by have := hw q z; omega)
  refine ⟨mk, mxr, mxk, mxv, mxw, mxc, mxt, mxn, mxa, mxb, mxs, (e 42 (by omega)).trans h42, hmk, (e 62 (by omega)).trans h62, (e 63 (by omega)).trans h63, (e 64 (by omega)).trans h64, (e 65 (by omega)).trans h65, (e 66 (by omega)).trans h66, (e 67 (by omega)).trans h67, (e 68 (by omega)).trans h68, (e 69 (by omega)).trans h69, (e 70 (by omega)).trans h70, (e 71 (by omega)).trans h71, fun i hi => ?_⟩
  obtain ⟨ct, rn, rk, rv, tk, tt, su, rs, ca, ts, tr, hh, hr⟩ := hM i hi
  exact ⟨ct, rn, rk, rv, tk, tt, su, rs, ca, ts, tr, iHd_fr hh (fun q h1 h2 => e q (by omega)), hr⟩
theorem iMk_less {cI cJ cZ cH : ClassId} {b : Nat} {M : Nat → va_E} {mm m2 hc : Nat} (h : iMk cI cJ cZ cH b M mm hc) (hm : m2 ≤ mm) : iMk cI cJ cZ cH b M m2 hc := by
  obtain ⟨mk, mxr, mxk, mxv, mxw, mxc, mxt, mxn, mxa, mxb, mxs, h42, hmk, h62, h63, h64, h65, h66, h67, h68, h69, h70, h71, hM⟩ := h
  refine ⟨mk, mxr, mxk, mxv, mxw, mxc, mxt, mxn, mxa, mxb, mxs, h42, hmk, h62, h63, h64, h65, h66, h67, h68, h69, h70, h71, fun i hi => ?_⟩
  obtain ⟨ct, rn, rk, rv, tk, tt, su, rs, ca, ts, tr, hh, hr⟩ := hM i hi
  exact ⟨ct, rn, rk, rv, tk, tt, su, rs, ca, ts, tr, hh, fun q => hr (by omega)⟩
def iNu (n c mm s_ G mo ta rs ca os lg hc : Nat) (w : Nat → Nat) : Prop := 0 < G ∧ G ≤ 32 ∧ mo ≤ 12 ∧ 0 < ta ∧ ta ≤ 12 ∧ s_ ≤ 100 ∧ sN w G ≤ c ∧ os + rs ≤ ca ∧ lg ≤ 40 * c ∧ hc ≤ 3 ∧ mm ≤ hc ∧ n = 74 + 11 * hc
/-- class and reference hold the same -/
def iInv (cI cJ cZ cH cR : ClassId) (b n : Nat) (M : Nat → va_E) (c : Nat) : Prop := ∃ (mm s_ G mo ta : Nat) (sc : Int32) (mv rs ca ts : Nat) (tr : Int32) (os lx lz lg hc : Nat) (w : Nat → Nat), iOB cR b M mm s_ G mo ta sc mv rs ca ts tr os lx lz lg ∧ iOw cI cJ cZ M G w ∧ iMv cI cJ cZ M mv ∧ iPl cI cJ cZ M ∧ iSt cI cJ cZ M ∧ iRw cI cJ cZ M rs ca ∧ iOu cI cJ cZ M os ∧ iTm cI cJ cZ M ts ∧ iLg cI cJ cZ M lx lz lg ∧ iMk cI cJ cZ cH b M mm hc ∧ iNu n c mm s_ G mo ta rs ca os lg hc w
theorem mg2 {c1 c2 A1 A2 B1 B2 : Prop} (x : c1 → c2 → False) (h1 : (c1 ∧ A1) ∨ (c2 ∧ A2)) (h2 : (c1 ∧ B1) ∨ (c2 ∧ B2)) : (c1 ∧ A1 ∧ B1) ∨ (c2 ∧ A2 ∧ B2) := by
  rcases h1 with ⟨a, b⟩ | ⟨a, b⟩ <;> rcases h2 with ⟨d, e⟩ | ⟨d, e⟩
  · exact Or.inl ⟨a, b, e⟩
  · exact (x a d).elim
  · exact (x d a).elim
  · exact Or.inr ⟨a, b, e⟩
theorem mg3 {c1 c2 c3 A1 A2 A3 B1 B2 B3 : Prop} (x : c1 → c2 → False) (y : c1 → c3 → False) (z : c2 → c3 → False) (h1 : (c1 ∧ A1) ∨ (c2 ∧ A2) ∨ (c3 ∧ A3)) (h2 : (c1 ∧ B1) ∨ (c2 ∧ B2) ∨ (c3 ∧ B3)) : (c1 ∧ A1 ∧ B1) ∨ (c2 ∧ A2 ∧ B2) ∨ (c3 ∧ A3 ∧ B3) := by
  rcases h1 with ⟨a, b⟩ | ⟨a, b⟩ | ⟨a, b⟩ <;> rcases h2 with ⟨d, e⟩ | ⟨d, e⟩ | ⟨d, e⟩
  · exact Or.inl ⟨a, b, e⟩
  · exact (x a d).elim
  · exact (y a d).elim
  · exact (x d a).elim
  · exact Or.inr (Or.inl ⟨a, b, e⟩)
  · exact (z a d).elim
  · exact (y d a).elim
  · exact (z d a).elim
  · exact Or.inr (Or.inr ⟨a, b, e⟩)
theorem mg4 {c1 c2 c3 c4 A1 A2 A3 A4 B1 B2 B3 B4 : Prop} (x1 : c1 → (c2 ∨ c3 ∨ c4) → False) (x2 : c2 → (c3 ∨ c4) → False) (x3 : c3 → c4 → False) (h1 : (c1 ∧ A1) ∨ (c2 ∧ A2) ∨ (c3 ∧ A3) ∨ (c4 ∧ A4)) (h2 : (c1 ∧ B1) ∨ (c2 ∧ B2) ∨ (c3 ∧ B3) ∨ (c4 ∧ B4)) : (c1 ∧ A1 ∧ B1) ∨ (c2 ∧ A2 ∧ B2) ∨ (c3 ∧ A3 ∧ B3) ∨ (c4 ∧ A4 ∧ B4) := by
  rcases h1 with ⟨a, b⟩ | ⟨a, b⟩ | ⟨a, b⟩ | ⟨a, b⟩ <;> rcases h2 with ⟨d, e⟩ | ⟨d, e⟩ | ⟨d, e⟩ | ⟨d, e⟩
  · exact Or.inl ⟨a, b, e⟩
  · exact (x1 a (Or.inl d)).elim
  · exact (x1 a (Or.inr (Or.inl d))).elim
  · exact (x1 a (Or.inr (Or.inr d))).elim
  · exact (x1 d (Or.inl a)).elim
  · exact Or.inr (Or.inl ⟨a, b, e⟩)
  · exact (x2 a (Or.inl d)).elim
  · exact (x2 a (Or.inr d)).elim
  · exact (x1 d (Or.inr (Or.inl a))).elim
  · exact (x2 d (Or.inl a)).elim
  · exact Or.inr (Or.inr (Or.inl ⟨a, b, e⟩))
  · exact (x3 a d).elim
  · exact (x1 d (Or.inr (Or.inr a))).elim
  · exact (x2 d (Or.inr a)).elim
  · exact (x3 d a).elim
  · exact Or.inr (Or.inr (Or.inr ⟨a, b, e⟩))
section KLW
variable {p : Program} {l : Launch} {e : Env} {R : Room} {s : State} {m : MethodId} {args : Array Value} {below : List Frame} {meth : Method} {c : Code} {H : Heap} {locs : List Loc} {cells slots : Nat} {Q : State → Prop} {cc : ByteArray} {pc nL : Nat} {ls : Array Slot} {rest : List Value} {D : va_G} {own : String} {b n : Nat} {M : Nat → va_E} {ty : List (ClassId × FieldType)}
/-- the script's int at i + j -/
theorem lw_ld (C : kC p s m c args cc nL own D ty) {a L : Nat} {xs : Nat → Int32} (hX : va_X a L xs s s.heap) (hbl : a < s.heap.size) (hw : kW D s.heap.size M n s.heap H locs) {i : Nat} (j : Nat) (hi : i + j < L) (hL : L ≤ 2048) {k0 k3 : Fin 4} {jv : Int} (h0 : ls[(k0 : Nat)]? = some (.val (.ref a))) (h3 : ls[(k3 : Nat)]? = some (.val (.int (nI i)))) (d0 : decode cc pc = .ok (.aload_n k0, 1)) (d1 : decode cc (pc + 1) = .ok (.iload_n k3, 1)) (d2 : decode cc (pc + 2) = .ok (.iconst jv, 1)) (hj : Int32.ofInt jv = nI j) (d3 : decode cc (pc + 3) = .ok (.iadd, 1)) (d4 : decode cc (pc + 4) = .ok (.iaload, 1))
    (kk : W p l e R s m args below meth c H locs cells slots Q (F0 m (pc + 5) ls (.int (xs (i + j)) :: rest))) : W p l e R s m args below meth c H locs cells slots Q (F0 m pc ls rest) := by
  refine lv_aload_n C.1 C.2.1 d0 rfl h0 ?_
  refine lv_iload_n C.1 C.2.1 d1 rfl h3 ?_
  refine lv_iconst (v := nI j) C.1 C.2.1 d2 hj ?_
  refine lv_iadd C.1 C.2.1 d3 ?_
  refine k_topi (nI (i + j)) (nI_add i j) ?_
  refine va_sld C.1 C.2.1 hX hbl (Nat.not_le.mpr hbl) hw.2 (vp_in_nI hi (by omega)) d4 ?_
  refine k_topi (xs (i + j)) (by rw [nI_clamp (show i + j < 2 ^ 31 by omega)]) ?_
  exact kk
end KLW
