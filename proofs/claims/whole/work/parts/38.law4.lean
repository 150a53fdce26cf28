theorem kv_L_90 : kV RL RX8 90 yX8_mark cX8_mark 2 (some .int) 0 := ⟨q_595, q_596, q_597, q_2, q_598, by decide +kernel⟩
theorem kv_L_94 : kV RL RX9 94 yX9_mark cX9_mark 3 (some .int) 0 := ⟨q_617, q_618, q_619, q_5, q_620, by decide +kernel⟩
theorem cpy_in {α : Type} {f g : Nat → α} {sp n q : Nat} (h : q < n) : va_cpy f g sp 0 n q = f (sp + q) := by
  unfold va_cpy
  rw [if_pos (by omega)]; rfl
theorem cpy_to {α : Type} {f g : Nat → α} {dp n q : Nat} (h : q < n) : va_cpy f g 0 dp n (dp + q) = f q := by
  unfold va_cpy
  rw [if_pos (by omega), show 0 + (dp + q - dp) = q by omega]
theorem cpy_out {α : Type} {f g : Nat → α} {sp dp n q : Nat} (h : q < dp ∨ dp + n ≤ q) : va_cpy f g sp dp n q = g q := by
  unfold va_cpy
  rw [if_neg (by omega)]
theorem RR_congr {rs ca : Nat} {rn rk rv mrk mrv mwa rn2 rk2 rv2 mrk2 mrv2 mwa2 : Nat → Int32} (h : RR rs ca rn rk rv mrk mrv mwa) (h1 : ∀ j, j < rs → rn2 j = rn j ∧ rk2 j = rk j ∧ rv2 j = rv j) (h2 : ∀ q, q < ca → mrk2 q = mrk q ∧ mrv2 q = mrv q ∧ mwa2 q = mwa q) : RR rs ca rn2 rk2 rv2 mrk2 mrv2 mwa2 := by
  obtain ⟨a1, a2, a3, a4, a5⟩ := h
  have e : ∀ q, q ≤ ca → cnt (mvz mwa2) q = cnt (mvz mwa) q := fun q hq => cnt_congr (fun j hj => by show (!(mwa2 j == 0)) = (!(mwa j == 0)); rw [(h2 j (by omega)).2.2])
  refine ⟨a1, by rw [e ca (Nat.le_refl _)]; exact a2, fun q hq hz => ?_, fun q hq => by rw [(h2 q hq).2.2]; exact a4 q hq, fun q hq => by rw [(h2 q hq).1]; exact a5 q hq⟩
  have hz1 : mvz mwa q = true := by
    have hz : (!(mwa2 q == 0)) = true := hz
    rw [(h2 q hq).2.2] at hz; exact hz
  have hlt : cnt (mvz mwa) q < rs := by rw [a2]; exact cnt_lt hz1 hq
  rw [e q (by omega), (h1 _ hlt).1, (h1 _ hlt).2.1, (h1 _ hlt).2.2, (h2 q hq).1, (h2 q hq).2.1]
  exact a3 q hq hz1
set_option maxHeartbeats 4000000 in
/-- a mark is set -/
theorem mark_inv {cI cJ cZ cH cR : ClassId} {b n n2 cc : Nat} {M M1 M2 : Nat → va_E} {mm s_ G mo ta : Nat} {sc : Int32} {mv rs ca ts : Nat} {tr : Int32} {os lx lz lg hc hc2 : Nat} {w : Nat → Nat} {ct mct rn rk rv mrk mrv mwa tk tt mtk mtt RN RK RV TK TT mxr mxk mxv mxw mxc mxt mxn mxa mxb : Nat → Int32} {su msu mxs : Nat → Int64} {mk2 : Nat → Option Nat}
    (hk : mm < 3) (hOb : iOB cR b M mm s_ G mo ta sc mv rs ca ts tr os lx lz lg) (hOw : iOw cI cJ cZ M G w) (hMv : iMv cI cJ cZ M mv) (hPl : iPl cI cJ cZ M) (hSt : iSt cI cJ cZ M) (hRw : iRw cI cJ cZ M rs ca) (hOu : iOu cI cJ cZ M os) (hTm : iTm cI cJ cZ M ts) (hLg : iLg cI cJ cZ M lx lz lg) (hNu : iNu n cc mm s_ G mo ta rs ca os lg hc w)
    (hst_ : RS ct mct su msu) (hrr : RR rs ca rn rk rv mrk mrv mwa) (htm : RT ts tk tt mtk mtt) (hM : ∀ i, i < hc → iM1 cI cJ b M mm i mxr mxk mxv mxw mxc mxt mxn mxa mxb mxs)
    (f1 : ∀ q, q ≠ 0 → q ≠ 42 → (q < 74 + 11 * mm ∨ 74 + 11 * mm + 11 ≤ q) → M1 q = M q) (g0 : M1 0 = .inr (8, [.ref (b + 1), .ref (b + 6), .ref (b + 22), .ref (b + 33), .ref (b + 37), .ref (b + 42), .int (nI (mm + 1)), .int (nI s_)]))
    (hhc : hc2 = max hc (mm + 1)) (hn2 : n2 = 74 + 11 * hc2) (g42 : M1 42 = .inl (cH, 3, .inr (.inr (.inr (.inr mk2))))) (hmk2 : ∀ i, i < 3 → mk2 i = if i < hc2 then some (b + (74 + 11 * i)) else none)
    (hh : iHd cI cJ b M1 (74 + 11 * mm) ct RN RK RV TK TT su rs ca ts tr) (hR1 : ∀ j, j < rs → RN j = rn j ∧ RK j = rk j ∧ RV j = rv j) (hT1 : ∀ j, j < ts → TK j = tk j ∧ TT j = tt j)
    (f2 : kF [43, 66, 67, 63, 64, 65, 70, 71, 62, 69, 68] M1 M2) (g43 : M2 43 = .inr (9, [.int (nI G), .int (nI mo), .int (nI ta), .int (nI s_), .ref (b + 44), .ref (b + 45), .ref (b + 46), .ref (b + 47), .int (nI ca), .ref (b + 48), .ref (b + 49), .ref (b + 50), .ref (b + 51), .ref (b + 52), .int (nI os), .ref (b + 53), .ref (b + 54), .ref (b + 55), .int tr, .int (nI ts), .ref (b + 56), .ref (b + 57), .int (nI lg), .ref (b + 58), .ref (b + 59), .ref (b + 60), .ref (b + 61), .int (nI (mm + 1)), .int sc, .ref (b + 62), .ref (b + 63), .ref (b + 64), .ref (b + 65), .ref (b + 66), .ref (b + 67), .ref (b + 68), .ref (b + 69), .ref (b + 70), .ref (b + 71), .ref (b + 72), .ref (b + 73)])) (g66 : M2 66 = .inl (cI, 300, .inl (va_cpy mct mxc 0 (100 * mm) 100))) (g67 : M2 67 = .inl (cJ, 300, .inr (.inl (va_cpy msu mxs 0 (100 * mm) 100)))) (g63 : M2 63 = .inl (cI, 1200, .inl (va_cpy mrk mxk 0 (400 * mm) ca))) (g64 : M2 64 = .inl (cI, 1200, .inl (va_cpy mrv mxv 0 (400 * mm) ca))) (g65 : M2 65 = .inl (cZ, 1200, .inl (va_cpy mwa mxw 0 (400 * mm) ca))) (g70 : M2 70 = .inl (cI, 120, .inl (va_cpy mtk mxa 0 (40 * mm) ts))) (g71 : M2 71 = .inl (cI, 120, .inl (va_cpy mtt mxb 0 (40 * mm) ts))) (g62 : M2 62 = .inl (cI, 3, .inl (upd mxr mm (nI ca)))) (g69 : M2 69 = .inl (cI, 3, .inl (upd mxn mm (nI ts)))) (g68 : M2 68 = .inl (cI, 3, .inl (upd mxt mm tr))) : iInv cI cJ cZ cH cR b n2 M2 (cc + 1) := by
  obtain ⟨h0, h1, h6, h9, h22, h23, h26, h30, h33, h37, h43⟩ := hOb
  have fF : ∀ q, q ∉ [0, 42, 43, 62, 63, 64, 65, 66, 67, 68, 69, 70, 71] ∧ q < 74 → M2 q = M q := fun q hq => by
    have z := hq.1
    simp at z
    exact (f2 q (by simp; omega)).trans (f1 q (by omega) (by omega) (by omega))
  have fon : ∀ (lq : List Nat), (∀ x ∈ lq, x ∉ [0, 42, 43, 62, 63, 64, 65, 66, 67, 68, 69, 70, 71] ∧ x < 74) → ∀ q ∈ lq, M2 q = M q := fun lq hlq q hq => fF q (hlq q hq)
  have hmx : mm ≤ hc ∧ hc ≤ 3 := by unfold iNu at hNu; omega
  have hca : ca ≤ 400 := hrr.1
  have hts : ts ≤ 40 := htm.1
  refine ⟨mm + 1, s_, G, mo, ta, sc, mv, rs, ca, ts, tr, os, lx, lz, lg, hc2, w, ⟨(f2 0 (by decide)).trans g0, (fF 1 (by decide)).trans h1, (fF 6 (by decide)).trans h6, (fF 9 (by decide)).trans h9, (fF 22 (by decide)).trans h22, (fF 23 (by decide)).trans h23, (fF 26 (by decide)).trans h26, (fF 30 (by decide)).trans h30, (fF 33 (by decide)).trans h33, (fF 37 (by decide)).trans h37, g43⟩, iOw_fr hOw (fon _ (by decide)), iMv_fr hMv (fon _ (by decide)), iPl_fr hPl (fon _ (by decide)), iSt_fr hSt (fon _ (by decide)), iRw_fr hRw (fon _ (by decide)), iOu_fr hOu (fon _ (by decide)), iTm_fr hTm (fon _ (by decide)), iLg_fr hLg (fon _ (by decide)), ?_, ?_⟩
  · refine ⟨mk2, (upd mxr mm (nI ca)), (va_cpy mrk mxk 0 (400 * mm) ca), (va_cpy mrv mxv 0 (400 * mm) ca), (va_cpy mwa mxw 0 (400 * mm) ca), (va_cpy mct mxc 0 (100 * mm) 100), (upd mxt mm tr), (upd mxn mm (nI ts)), (va_cpy mtk mxa 0 (40 * mm) ts), (va_cpy mtt mxb 0 (40 * mm) ts), (va_cpy msu mxs 0 (100 * mm) 100), (f2 42 (by decide)).trans g42, hmk2, g62, g63, g64, g65, g66, g67, g68, g69, g70, g71, fun i hi => ?_⟩
    by_cases z : i = mm
    · subst z
      refine ⟨ct, RN, RK, RV, TK, TT, su, rs, ca, ts, tr, iHd_fr hh (fun q h1 h2 => f2 q (by simp; omega)), fun _ => ⟨fun k hk => ?_, RR_congr hrr hR1 (fun q hq => ?_), RT_congr htm hT1 (fun q hq => ?_), upd_at, upd_at, upd_at⟩⟩
      · show ct k = va_cpy mct mxc 0 (100 * i) 100 (100 * i + k) ∧ su k = va_cpy msu mxs 0 (100 * i) 100 (100 * i + k)
        rw [cpy_to hk, cpy_to hk]; exact hst_ k hk
      · show va_cpy mrk mxk 0 (400 * i) ca (400 * i + q) = mrk q ∧ va_cpy mrv mxv 0 (400 * i) ca (400 * i + q) = mrv q ∧ va_cpy mwa mxw 0 (400 * i) ca (400 * i + q) = mwa q
        exact ⟨cpy_to hq, cpy_to hq, cpy_to hq⟩
      · show va_cpy mtk mxa 0 (40 * i) ts (40 * i + q) = mtk q ∧ va_cpy mtt mxb 0 (40 * i) ts (40 * i + q) = mtt q
        exact ⟨cpy_to hq, cpy_to hq⟩
    · obtain ⟨ct0, rn0, rk0, rv0, tk0, tt0, su0, rs0, ca0, ts0, tr0, hh0, hr0⟩ := hM i (by omega)
      refine ⟨ct0, rn0, rk0, rv0, tk0, tt0, su0, rs0, ca0, ts0, tr0, iHd_fr hh0 (fun q h1 h2 => (f2 q (by simp; omega)).trans (f1 q (by omega) (by omega) (by omega))), fun hlt => ?_⟩
      obtain ⟨r1, r2, r3, r4, r5, r6⟩ := hr0 (by omega)
      have hc0 : ca0 ≤ 400 := r2.1
      have ht0 : ts0 ≤ 40 := r3.1
      refine ⟨fun k hk => ?_, RR_congr r2 (fun j hj => ⟨rfl, rfl, rfl⟩) (fun q hq => ?_), RT_congr r3 (fun j hj => ⟨rfl, rfl⟩) (fun q hq => ?_), (upd_ne z).trans r4, (upd_ne z).trans r5, (upd_ne z).trans r6⟩
      · show ct0 k = va_cpy mct mxc 0 (100 * mm) 100 (100 * i + k) ∧ su0 k = va_cpy msu mxs 0 (100 * mm) 100 (100 * i + k)
        rw [cpy_out (by omega), cpy_out (by omega)]; exact r1 k hk
      · show va_cpy mrk mxk 0 (400 * mm) ca (400 * i + q) = mxk (400 * i + q) ∧ va_cpy mrv mxv 0 (400 * mm) ca (400 * i + q) = mxv (400 * i + q) ∧ va_cpy mwa mxw 0 (400 * mm) ca (400 * i + q) = mxw (400 * i + q)
        exact ⟨cpy_out (by omega), cpy_out (by omega), cpy_out (by omega)⟩
      · show va_cpy mtk mxa 0 (40 * mm) ts (40 * i + q) = mxa (40 * i + q) ∧ va_cpy mtt mxb 0 (40 * mm) ts (40 * i + q) = mxb (40 * i + q)
        exact ⟨cpy_out (by omega), cpy_out (by omega)⟩
  · unfold iNu at hNu ⊢
    omega
section KLC
variable {p : Program} {l : Launch} {e : Env} {s : State} {m : MethodId} {below : List Frame} {meth : Method} {c : Code} {H : Heap} {locs : List Loc} {Q : State → Prop} {ls : Array Slot} {D : va_G} {n a L i cc : Nat} {M : Nat → va_E} {xs : Nat → Int32} {cI cJ cZ cH cR : ClassId}
set_option maxHeartbeats 4000000 in
set_option maxRecDepth 100000 in
theorem lw_mark (X : lwC p s m c D cI cJ cZ cH cR a L xs i cc ls) (hw : kW D s.heap.size M n s.heap H locs) (I : iInv cI cJ cZ cH cR s.heap.size n M cc) (K : lwK p l e s m below meth c Q ls D cI cJ cZ cH cR a cc) : W p l e room_1 s m #[Value.ref a] below meth c H locs n (slN n) Q (F0 m 658 ls []) := by
  have I0 := I
  obtain ⟨C, hX, hbl, hL, hi, hcc, hl⟩ := X
  obtain ⟨mm, s_, G, mo, ta, sc, mv, rs, ca, ts, tr, os, lx, lz, lg, hc, w, hOb, hOw, hMv, hPl, hSt, hRw, hOu, hTm, hLg, hMk, hNu⟩ := I
  obtain ⟨hG0, hG, hmo, hta0, hta, hs_, hsum, hos, hlg, hc3, hmh, hn⟩ := id hNu
  obtain ⟨h0, h1, h6, h9, h22, h23, h26, h30, h33, h37, h43⟩ := id hOb
  obtain ⟨ct, su, mct, msu, h24, h25, h51, h52, hst_⟩ := id hSt
  obtain ⟨rn, rk, rv, mrk, mrv, mwa, h27, h28, h29, h48, h49, h50, hrr⟩ := id hRw
  obtain ⟨tk, tt, mtk, mtt, h31, h32, h56, h57, htm⟩ := id hTm
  obtain ⟨mk, mxr, mxk, mxv, mxw, mxc, mxt, mxn, mxa, mxb, mxs, h42, hmk, h62, h63, h64, h65, h66, h67, h68, h69, h70, h71, hM⟩ := id hMk
  have hrs9 : rs ≤ 400 := Nat.le_trans (RR_le hrr) hrr.1
  rcases (show mm = 3 ∨ mm = 0 ∨ mm = 1 ∨ mm = 2 by omega) with hm9 | hm9 | hm9 | hm9
  · refine lv_aload_n C.1 C.2.1 dL_law_658 rfl (lv_at hl 2 rfl) ?_
    refine k_vi C hw 0 (by omega) h0 rfl (c_X8_mark_f (by omega) h0 (by omega) (by omega)) kv_L_90 rfl hl.1 ⟨Nat.le_of_ble_eq_true rfl, Nat.le_of_ble_eq_true rfl⟩ (Nat.le_of_ble_eq_true rfl) (slN_room (by omega) 0 0 (by omega) (by omega)) dL_law_659 (fun r1 M1 n1 H1 locs1 hp1 hw1 => ?_)
    clear hw
    dsimp only at hp1
    obtain ⟨er1, en1, eM1⟩ := hp1
    subst en1
    have hF1 : kF [] M M1 := kF_of eM1
    have q43 := (hF1 43 (by decide)).trans h43
    have q48 := (hF1 48 (by decide)).trans h48
    have q49 := (hF1 49 (by decide)).trans h49
    have q50 := (hF1 50 (by decide)).trans h50
    have q51 := (hF1 51 (by decide)).trans h51
    have q52 := (hF1 52 (by decide)).trans h52
    have q56 := (hF1 56 (by decide)).trans h56
    have q57 := (hF1 57 (by decide)).trans h57
    have q62 := (hF1 62 (by decide)).trans h62
    have q63 := (hF1 63 (by decide)).trans h63
    have q64 := (hF1 64 (by decide)).trans h64
    have q65 := (hF1 65 (by decide)).trans h65
    have q66 := (hF1 66 (by decide)).trans h66
    have q67 := (hF1 67 (by decide)).trans h67
    have q68 := (hF1 68 (by decide)).trans h68
    have q69 := (hF1 69 (by decide)).trans h69
    have q70 := (hF1 70 (by decide)).trans h70
    have q71 := (hF1 71 (by decide)).trans h71
    have hw := hw1
    refine lv_aload_n C.1 C.2.1 dL_law_662 rfl (lv_at hl 1 rfl) ?_
    refine k_vi C hw 43 (by omega) q43 rfl (c_X9_mark (by omega) q43 q48 q49 q50 q51 q52 q56 q57 q62 q63 q64 q65 q66 q67 q68 q69 q70 q71 (by omega) hrr.1 htm.1 hrr.2.2.2.1) kv_L_94 rfl hl.1 ⟨Nat.le_of_ble_eq_true rfl, Nat.le_of_ble_eq_true rfl⟩ (Nat.le_of_ble_eq_true rfl) (slN_room2 (by omega) 0 0 (by omega) (by omega)) dL_law_663 (fun r2 M2 n2 H2 locs2 hp2 hw2 => ?_)
    clear hw
    dsimp only at hp2
    suffices hfin : r1 = r2 ∧ n2 = n1 ∧ iInv cI cJ cZ cH cR s.heap.size n1 M2 (cc + 1) from ?_
    · obtain ⟨er, en, I2⟩ := hfin
      subst en
      refine lv_icmp_eq (tgt := 753) C.1 C.2.1 dL_law_666 (by decide) (fun _ => ?_) (fun z => absurd er z)
      exact K _ _ _ _ hw2 I2
    obtain ⟨en2, hp2⟩ := hp2
    rcases hp2 with ⟨-, e2, m2⟩ | ⟨cd, -⟩
    · exact ⟨er1.trans e2.symm, en2, by rw [m2, eM1]; exact iInv_next I0⟩
    · exact absurd cd (by omega)
  · subst hm9
    rcases (show hc = 0 ∨ 0 < hc by omega) with hz | hz
    · subst hz
      have hn : n = 74 := hn
      subst hn
      refine lv_aload_n C.1 C.2.1 dL_law_658 rfl (lv_at hl 2 rfl) ?_
      refine k_vi C hw 0 (by omega) h0 rfl (c_X8_mark_n0 h0 h22 h23 h24 h25 h26 h27 h28 h29 h30 h31 h32 h42 ((hmk 0 (by omega)).trans (if_neg (by omega))) hrs9 htm.1) kv_L_90 rfl hl.1 ⟨Nat.le_of_ble_eq_true rfl, Nat.le_of_ble_eq_true rfl⟩ (Nat.le_of_ble_eq_true rfl) (slN_room (by omega) 11 1494 (by omega) (by omega)) dL_law_659 (fun r1 M1 n1 H1 locs1 hp1 hw1 => ?_)
      clear hw
      dsimp only at hp1
      obtain ⟨e1, en1, f1, g0, g42, g74, g75, g76, g77, g78, g79, g80, g81, g82, g83, g84⟩ := hp1
      have en1 : n1 = 85 := en1
      subst en1
      have hF1 := f1
      have q43 := (hF1 43 (by decide)).trans h43
      have q48 := (hF1 48 (by decide)).trans h48
      have q49 := (hF1 49 (by decide)).trans h49
      have q50 := (hF1 50 (by decide)).trans h50
      have q51 := (hF1 51 (by decide)).trans h51
      have q52 := (hF1 52 (by decide)).trans h52
      have q56 := (hF1 56 (by decide)).trans h56
      have q57 := (hF1 57 (by decide)).trans h57
      have q62 := (hF1 62 (by decide)).trans h62
      have q63 := (hF1 63 (by decide)).trans h63
      have q64 := (hF1 64 (by decide)).trans h64
      have q65 := (hF1 65 (by decide)).trans h65
      have q66 := (hF1 66 (by decide)).trans h66
      have q67 := (hF1 67 (by decide)).trans h67
      have q68 := (hF1 68 (by decide)).trans h68
      have q69 := (hF1 69 (by decide)).trans h69
      have q70 := (hF1 70 (by decide)).trans h70
      have q71 := (hF1 71 (by decide)).trans h71
      have hw := hw1
      refine lv_aload_n C.1 C.2.1 dL_law_662 rfl (lv_at hl 1 rfl) ?_
      refine k_vi C hw 43 (by omega) q43 rfl (c_X9_mark (by omega) q43 q48 q49 q50 q51 q52 q56 q57 q62 q63 q64 q65 q66 q67 q68 q69 q70 q71 (by omega) hrr.1 htm.1 hrr.2.2.2.1) kv_L_94 rfl hl.1 ⟨Nat.le_of_ble_eq_true rfl, Nat.le_of_ble_eq_true rfl⟩ (Nat.le_of_ble_eq_true rfl) (slN_room2 (by omega) 11 1494 (by omega) (by omega)) dL_law_663 (fun r2 M2 n2 H2 locs2 hp2 hw2 => ?_)
      clear hw
      dsimp only at hp2
      suffices hfin : r1 = r2 ∧ n2 = 85 ∧ iInv cI cJ cZ cH cR s.heap.size 85 M2 (cc + 1) from ?_
      · obtain ⟨er, en, I2⟩ := hfin
        subst en
        refine lv_icmp_eq (tgt := 753) C.1 C.2.1 dL_law_666 (by decide) (fun _ => ?_) (fun z => absurd er z)
        refine W.widen (k := 85) (n := slN 85) (by decide) (by decide) ?_
        exact K _ _ _ _ hw2 I2
      obtain ⟨en2, hp2⟩ := hp2
      rcases hp2 with ⟨cd, -⟩ | ⟨-, e2, f2, g43, g66, g67, g63, g64, g65, g70, g71, g62, g69, g68⟩
      · exact absurd cd (by omega)
      · have f19 : ∀ q, q ≠ 0 → q ≠ 42 → (q < 74 + 11 * 0 ∨ 74 + 11 * 0 + 11 ≤ q) → M1 q = M q := fun q a1 a2 a3 => f1 q (by simp; omega)
        refine ⟨e1.trans e2.symm, en2, mark_inv (mm := 0) (hc2 := 1) (mk2 := (va_up mk 0 (some (s.heap.size + 74)))) (by omega) hOb hOw hMv hPl hSt hRw hOu hTm hLg hNu hst_ hrr htm hM f19 g0 (by omega) (by omega) g42 (fun i hi => ?_) ⟨g74, g75, g76, g77, g78, g79, g80, g81, g82, g83, g84⟩ (fun j hj => ⟨cpy_in hj |>.trans (by rw [Nat.zero_add]), cpy_in hj |>.trans (by rw [Nat.zero_add]), cpy_in hj |>.trans (by rw [Nat.zero_add])⟩) (fun j hj => ⟨cpy_in hj |>.trans (by rw [Nat.zero_add]), cpy_in hj |>.trans (by rw [Nat.zero_add])⟩) f2 g43 g66 g67 g63 g64 g65 g70 g71 g62 g69 g68⟩
        show (if i = 0 then some (s.heap.size + 74) else mk i) = _
        by_cases z : i = 0
        · rw [if_pos z, z, if_pos (by omega)]
        · rw [if_neg z, hmk i hi]
          by_cases y : i < 0
          · rw [if_pos (by omega), if_pos (by omega)]
          · rw [if_neg (by omega), if_neg (by omega)]
    · obtain ⟨ct9, rn9, rk9, rv9, tk9, tt9, su9, rs9, ca9, ts9, tr9, ⟨b0, b1, b2, b3, b4, b5, b6, b7, b8, b9, b10⟩, -⟩ := hM 0 hz
      refine lv_aload_n C.1 C.2.1 dL_law_658 rfl (lv_at hl 2 rfl) ?_
      refine k_vi C hw 0 (by omega) h0 rfl (c_X8_mark_o0 (by omega) h0 h22 h23 h24 h25 h26 h27 h28 h29 h30 h31 h32 h42 b0 b1 b2 b3 b4 b5 b6 b7 b8 b9 b10 ((hmk 0 (by omega)).trans (if_pos (by omega))) hrs9 htm.1) kv_L_90 rfl hl.1 ⟨Nat.le_of_ble_eq_true rfl, Nat.le_of_ble_eq_true rfl⟩ (Nat.le_of_ble_eq_true rfl) (slN_room (by omega) 0 0 (by omega) (by omega)) dL_law_659 (fun r1 M1 n1 H1 locs1 hp1 hw1 => ?_)
      clear hw
      dsimp only at hp1
      obtain ⟨e1, en1, f1, g0, g76, g77, g78, g79, g80, g81, g82, g83, g84⟩ := hp1
      subst en1
      have hF1 := f1
      have q43 := (hF1 43 (by decide)).trans h43
      have q48 := (hF1 48 (by decide)).trans h48
      have q49 := (hF1 49 (by decide)).trans h49
      have q50 := (hF1 50 (by decide)).trans h50
      have q51 := (hF1 51 (by decide)).trans h51
      have q52 := (hF1 52 (by decide)).trans h52
      have q56 := (hF1 56 (by decide)).trans h56
      have q57 := (hF1 57 (by decide)).trans h57
      have q62 := (hF1 62 (by decide)).trans h62
      have q63 := (hF1 63 (by decide)).trans h63
      have q64 := (hF1 64 (by decide)).trans h64
      have q65 := (hF1 65 (by decide)).trans h65
      have q66 := (hF1 66 (by decide)).trans h66
      have q67 := (hF1 67 (by decide)).trans h67
      have q68 := (hF1 68 (by decide)).trans h68
      have q69 := (hF1 69 (by decide)).trans h69
      have q70 := (hF1 70 (by decide)).trans h70
      have q71 := (hF1 71 (by decide)).trans h71
      have q42 := (hF1 42 (by decide)).trans h42
      have hw := hw1
      refine lv_aload_n C.1 C.2.1 dL_law_662 rfl (lv_at hl 1 rfl) ?_
      refine k_vi C hw 43 (by omega) q43 rfl (c_X9_mark (by omega) q43 q48 q49 q50 q51 q52 q56 q57 q62 q63 q64 q65 q66 q67 q68 q69 q70 q71 (by omega) hrr.1 htm.1 hrr.2.2.2.1) kv_L_94 rfl hl.1 ⟨Nat.le_of_ble_eq_true rfl, Nat.le_of_ble_eq_true rfl⟩ (Nat.le_of_ble_eq_true rfl) (slN_room2 (by omega) 0 0 (by omega) (by omega)) dL_law_663 (fun r2 M2 n2 H2 locs2 hp2 hw2 => ?_)
      clear hw
      dsimp only at hp2
      suffices hfin : r1 = r2 ∧ n2 = n1 ∧ iInv cI cJ cZ cH cR s.heap.size n1 M2 (cc + 1) from ?_
      · obtain ⟨er, en, I2⟩ := hfin
        subst en
        refine lv_icmp_eq (tgt := 753) C.1 C.2.1 dL_law_666 (by decide) (fun _ => ?_) (fun z => absurd er z)
        exact K _ _ _ _ hw2 I2
      obtain ⟨en2, hp2⟩ := hp2
      rcases hp2 with ⟨cd, -⟩ | ⟨-, e2, f2, g43, g66, g67, g63, g64, g65, g70, g71, g62, g69, g68⟩
      · exact absurd cd (by omega)
      · have f19 : ∀ q, q ≠ 0 → q ≠ 42 → (q < 74 + 11 * 0 ∨ 74 + 11 * 0 + 11 ≤ q) → M1 q = M q := fun q a1 a2 a3 => f1 q (by simp; omega)
        obtain ⟨ct0, rn0, rk0, rv0, tk0, tt0, su0, rs0, ca0, ts0, tr0, ⟨a0, a1, -⟩, -⟩ := hM 0 hz
        refine ⟨e1.trans e2.symm, en2, mark_inv (mm := 0) (hc2 := hc) (mk2 := mk) (by omega) hOb hOw hMv hPl hSt hRw hOu hTm hLg hNu hst_ hrr htm hM f19 g0 (by omega) (by omega) q42 (hmk) ⟨(hF1 74 (by decide)).trans a0, (hF1 75 (by decide)).trans a1, g76, g77, g78, g79, g80, g81, g82, g83, g84⟩ (fun j hj => ⟨cpy_in hj |>.trans (by rw [Nat.zero_add]), cpy_in hj |>.trans (by rw [Nat.zero_add]), cpy_in hj |>.trans (by rw [Nat.zero_add])⟩) (fun j hj => ⟨cpy_in hj |>.trans (by rw [Nat.zero_add]), cpy_in hj |>.trans (by rw [Nat.zero_add])⟩) f2 g43 g66 g67 g63 g64 g65 g70 g71 g62 g69 g68⟩
  · subst hm9
    rcases (show hc = 1 ∨ 1 < hc by omega) with hz | hz
    · subst hz
      have hn : n = 85 := hn
      subst hn
      refine lv_aload_n C.1 C.2.1 dL_law_658 rfl (lv_at hl 2 rfl) ?_
      refine k_vi C hw 0 (by omega) h0 rfl (c_X8_mark_n1 h0 h22 h23 h24 h25 h26 h27 h28 h29 h30 h31 h32 h42 ((hmk 1 (by omega)).trans (if_neg (by omega))) hrs9 htm.1) kv_L_90 rfl hl.1 ⟨Nat.le_of_ble_eq_true rfl, Nat.le_of_ble_eq_true rfl⟩ (Nat.le_of_ble_eq_true rfl) (slN_room (by omega) 11 1494 (by omega) (by omega)) dL_law_659 (fun r1 M1 n1 H1 locs1 hp1 hw1 => ?_)
      clear hw
      dsimp only at hp1
      obtain ⟨e1, en1, f1, g0, g42, g85, g86, g87, g88, g89, g90, g91, g92, g93, g94, g95⟩ := hp1
      have en1 : n1 = 96 := en1
      subst en1
      have hF1 := f1
      have q43 := (hF1 43 (by decide)).trans h43
      have q48 := (hF1 48 (by decide)).trans h48
      have q49 := (hF1 49 (by decide)).trans h49
      have q50 := (hF1 50 (by decide)).trans h50
      have q51 := (hF1 51 (by decide)).trans h51
      have q52 := (hF1 52 (by decide)).trans h52
      have q56 := (hF1 56 (by decide)).trans h56
      have q57 := (hF1 57 (by decide)).trans h57
      have q62 := (hF1 62 (by decide)).trans h62
      have q63 := (hF1 63 (by decide)).trans h63
      have q64 := (hF1 64 (by decide)).trans h64
      have q65 := (hF1 65 (by decide)).trans h65
      have q66 := (hF1 66 (by decide)).trans h66
      have q67 := (hF1 67 (by decide)).trans h67
      have q68 := (hF1 68 (by decide)).trans h68
      have q69 := (hF1 69 (by decide)).trans h69
      have q70 := (hF1 70 (by decide)).trans h70
      have q71 := (hF1 71 (by decide)).trans h71
      have hw := hw1
      refine lv_aload_n C.1 C.2.1 dL_law_662 rfl (lv_at hl 1 rfl) ?_
      refine k_vi C hw 43 (by omega) q43 rfl (c_X9_mark (by omega) q43 q48 q49 q50 q51 q52 q56 q57 q62 q63 q64 q65 q66 q67 q68 q69 q70 q71 (by omega) hrr.1 htm.1 hrr.2.2.2.1) kv_L_94 rfl hl.1 ⟨Nat.le_of_ble_eq_true rfl, Nat.le_of_ble_eq_true rfl⟩ (Nat.le_of_ble_eq_true rfl) (slN_room2 (by omega) 11 1494 (by omega) (by omega)) dL_law_663 (fun r2 M2 n2 H2 locs2 hp2 hw2 => ?_)
      clear hw
      dsimp only at hp2
      suffices hfin : r1 = r2 ∧ n2 = 96 ∧ iInv cI cJ cZ cH cR s.heap.size 96 M2 (cc + 1) from ?_
      · obtain ⟨er, en, I2⟩ := hfin
        subst en
        refine lv_icmp_eq (tgt := 753) C.1 C.2.1 dL_law_666 (by decide) (fun _ => ?_) (fun z => absurd er z)
        refine W.widen (k := 96) (n := slN 96) (by decide) (by decide) ?_
        exact K _ _ _ _ hw2 I2
      obtain ⟨en2, hp2⟩ := hp2
      rcases hp2 with ⟨cd, -⟩ | ⟨-, e2, f2, g43, g66, g67, g63, g64, g65, g70, g71, g62, g69, g68⟩
      · exact absurd cd (by omega)
      · have f19 : ∀ q, q ≠ 0 → q ≠ 42 → (q < 74 + 11 * 1 ∨ 74 + 11 * 1 + 11 ≤ q) → M1 q = M q := fun q a1 a2 a3 => f1 q (by simp; omega)
        refine ⟨e1.trans e2.symm, en2, mark_inv (mm := 1) (hc2 := 2) (mk2 := (va_up mk 1 (some (s.heap.size + 85)))) (by omega) hOb hOw hMv hPl hSt hRw hOu hTm hLg hNu hst_ hrr htm hM f19 g0 (by omega) (by omega) g42 (fun i hi => ?_) ⟨g85, g86, g87, g88, g89, g90, g91, g92, g93, g94, g95⟩ (fun j hj => ⟨cpy_in hj |>.trans (by rw [Nat.zero_add]), cpy_in hj |>.trans (by rw [Nat.zero_add]), cpy_in hj |>.trans (by rw [Nat.zero_add])⟩) (fun j hj => ⟨cpy_in hj |>.trans (by rw [Nat.zero_add]), cpy_in hj |>.trans (by rw [Nat.zero_add])⟩) f2 g43 g66 g67 g63 g64 g65 g70 g71 g62 g69 g68⟩
        show (if i = 1 then some (s.heap.size + 85) else mk i) = _
        by_cases z : i = 1
        · rw [if_pos z, z, if_pos (by omega)]
        · rw [if_neg z, hmk i hi]
          by_cases y : i < 1
          · rw [if_pos (by omega), if_pos (by omega)]
          · rw [if_neg (by omega), if_neg (by omega)]
    · obtain ⟨ct9, rn9, rk9, rv9, tk9, tt9, su9, rs9, ca9, ts9, tr9, ⟨b0, b1, b2, b3, b4, b5, b6, b7, b8, b9, b10⟩, -⟩ := hM 1 hz
      refine lv_aload_n C.1 C.2.1 dL_law_658 rfl (lv_at hl 2 rfl) ?_
      refine k_vi C hw 0 (by omega) h0 rfl (c_X8_mark_o1 (by omega) h0 h22 h23 h24 h25 h26 h27 h28 h29 h30 h31 h32 h42 b0 b1 b2 b3 b4 b5 b6 b7 b8 b9 b10 ((hmk 1 (by omega)).trans (if_pos (by omega))) hrs9 htm.1) kv_L_90 rfl hl.1 ⟨Nat.le_of_ble_eq_true rfl, Nat.le_of_ble_eq_true rfl⟩ (Nat.le_of_ble_eq_true rfl) (slN_room (by omega) 0 0 (by omega) (by omega)) dL_law_659 (fun r1 M1 n1 H1 locs1 hp1 hw1 => ?_)
      clear hw
      dsimp only at hp1
      obtain ⟨e1, en1, f1, g0, g87, g88, g89, g90, g91, g92, g93, g94, g95⟩ := hp1
      subst en1
      have hF1 := f1
      have q43 := (hF1 43 (by decide)).trans h43
      have q48 := (hF1 48 (by decide)).trans h48
      have q49 := (hF1 49 (by decide)).trans h49
      have q50 := (hF1 50 (by decide)).trans h50
      have q51 := (hF1 51 (by decide)).trans h51
      have q52 := (hF1 52 (by decide)).trans h52
      have q56 := (hF1 56 (by decide)).trans h56
      have q57 := (hF1 57 (by decide)).trans h57
      have q62 := (hF1 62 (by decide)).trans h62
      have q63 := (hF1 63 (by decide)).trans h63
      have q64 := (hF1 64 (by decide)).trans h64
      have q65 := (hF1 65 (by decide)).trans h65
      have q66 := (hF1 66 (by decide)).trans h66
      have q67 := (hF1 67 (by decide)).trans h67
      have q68 := (hF1 68 (by decide)).trans h68
      have q69 := (hF1 69 (by decide)).trans h69
      have q70 := (hF1 70 (by decide)).trans h70
      have q71 := (hF1 71 (by decide)).trans h71
      have q42 := (hF1 42 (by decide)).trans h42
      have hw := hw1
      refine lv_aload_n C.1 C.2.1 dL_law_662 rfl (lv_at hl 1 rfl) ?_
      refine k_vi C hw 43 (by omega) q43 rfl (c_X9_mark (by omega) q43 q48 q49 q50 q51 q52 q56 q57 q62 q63 q64 q65 q66 q67 q68 q69 q70 q71 (by omega) hrr.1 htm.1 hrr.2.2.2.1) kv_L_94 rfl hl.1 ⟨Nat.le_of_ble_eq_true rfl, Nat.le_of_ble_eq_true rfl⟩ (Nat.le_of_ble_eq_true rfl) (slN_room2 (by omega) 0 0 (by omega) (by omega)) dL_law_663 (fun r2 M2 n2 H2 locs2 hp2 hw2 => ?_)
      clear hw
      dsimp only at hp2
      suffices hfin : r1 = r2 ∧ n2 = n1 ∧ iInv cI cJ cZ cH cR s.heap.size n1 M2 (cc + 1) from ?_
      · obtain ⟨er, en, I2⟩ := hfin
        subst en
        refine lv_icmp_eq (tgt := 753) C.1 C.2.1 dL_law_666 (by decide) (fun _ => ?_) (fun z => absurd er z)
        exact K _ _ _ _ hw2 I2
      obtain ⟨en2, hp2⟩ := hp2
      rcases hp2 with ⟨cd, -⟩ | ⟨-, e2, f2, g43, g66, g67, g63, g64, g65, g70, g71, g62, g69, g68⟩
      · exact absurd cd (by omega)
      · have f19 : ∀ q, q ≠ 0 → q ≠ 42 → (q < 74 + 11 * 1 ∨ 74 + 11 * 1 + 11 ≤ q) → M1 q = M q := fun q a1 a2 a3 => f1 q (by simp; omega)
        obtain ⟨ct0, rn0, rk0, rv0, tk0, tt0, su0, rs0, ca0, ts0, tr0, ⟨a0, a1, -⟩, -⟩ := hM 1 hz
        refine ⟨e1.trans e2.symm, en2, mark_inv (mm := 1) (hc2 := hc) (mk2 := mk) (by omega) hOb hOw hMv hPl hSt hRw hOu hTm hLg hNu hst_ hrr htm hM f19 g0 (by omega) (by omega) q42 (hmk) ⟨(hF1 85 (by decide)).trans a0, (hF1 86 (by decide)).trans a1, g87, g88, g89, g90, g91, g92, g93, g94, g95⟩ (fun j hj => ⟨cpy_in hj |>.trans (by rw [Nat.zero_add]), cpy_in hj |>.trans (by rw [Nat.zero_add]), cpy_in hj |>.trans (by rw [Nat.zero_add])⟩) (fun j hj => ⟨cpy_in hj |>.trans (by rw [Nat.zero_add]), cpy_in hj |>.trans (by rw [Nat.zero_add])⟩) f2 g43 g66 g67 g63 g64 g65 g70 g71 g62 g69 g68⟩
  · subst hm9
    rcases (show hc = 2 ∨ 2 < hc by omega) with hz | hz
    · subst hz
      have hn : n = 96 := hn
      subst hn
      refine lv_aload_n C.1 C.2.1 dL_law_658 rfl (lv_at hl 2 rfl) ?_
      refine k_vi C hw 0 (by omega) h0 rfl (c_X8_mark_n2 h0 h22 h23 h24 h25 h26 h27 h28 h29 h30 h31 h32 h42 ((hmk 2 (by omega)).trans (if_neg (by omega))) hrs9 htm.1) kv_L_90 rfl hl.1 ⟨Nat.le_of_ble_eq_true rfl, Nat.le_of_ble_eq_true rfl⟩ (Nat.le_of_ble_eq_true rfl) (slN_room (by omega) 11 1494 (by omega) (by omega)) dL_law_659 (fun r1 M1 n1 H1 locs1 hp1 hw1 => ?_)
      clear hw
      dsimp only at hp1
      obtain ⟨e1, en1, f1, g0, g42, g96, g97, g98, g99, g100, g101, g102, g103, g104, g105, g106⟩ := hp1
      have en1 : n1 = 107 := en1
      subst en1
      have hF1 := f1
      have q43 := (hF1 43 (by decide)).trans h43
      have q48 := (hF1 48 (by decide)).trans h48
      have q49 := (hF1 49 (by decide)).trans h49
      have q50 := (hF1 50 (by decide)).trans h50
      have q51 := (hF1 51 (by decide)).trans h51
      have q52 := (hF1 52 (by decide)).trans h52
      have q56 := (hF1 56 (by decide)).trans h56
      have q57 := (hF1 57 (by decide)).trans h57
      have q62 := (hF1 62 (by decide)).trans h62
      have q63 := (hF1 63 (by decide)).trans h63
      have q64 := (hF1 64 (by decide)).trans h64
      have q65 := (hF1 65 (by decide)).trans h65
      have q66 := (hF1 66 (by decide)).trans h66
      have q67 := (hF1 67 (by decide)).trans h67
      have q68 := (hF1 68 (by decide)).trans h68
      have q69 := (hF1 69 (by decide)).trans h69
      have q70 := (hF1 70 (by decide)).trans h70
      have q71 := (hF1 71 (by decide)).trans h71
      have hw := hw1
      refine lv_aload_n C.1 C.2.1 dL_law_662 rfl (lv_at hl 1 rfl) ?_
      refine k_vi C hw 43 (by omega) q43 rfl (c_X9_mark (by omega) q43 q48 q49 q50 q51 q52 q56 q57 q62 q63 q64 q65 q66 q67 q68 q69 q70 q71 (by omega) hrr.1 htm.1 hrr.2.2.2.1) kv_L_94 rfl hl.1 ⟨Nat.le_of_ble_eq_true rfl, Nat.le_of_ble_eq_true rfl⟩ (Nat.le_of_ble_eq_true rfl) (slN_room2 (by omega) 11 1494 (by omega) (by omega)) dL_law_663 (fun r2 M2 n2 H2 locs2 hp2 hw2 => ?_)
      clear hw
      dsimp only at hp2
      suffices hfin : r1 = r2 ∧ n2 = 107 ∧ iInv cI cJ cZ cH cR s.heap.size 107 M2 (cc + 1) from ?_
      · obtain ⟨er, en, I2⟩ := hfin
        subst en
        refine lv_icmp_eq (tgt := 753) C.1 C.2.1 dL_law_666 (by decide) (fun _ => ?_) (fun z => absurd er z)
        refine W.widen (k := 107) (n := slN 107) (by decide) (by decide) ?_
        exact K _ _ _ _ hw2 I2
      obtain ⟨en2, hp2⟩ := hp2
      rcases hp2 with ⟨cd, -⟩ | ⟨-, e2, f2, g43, g66, g67, g63, g64, g65, g70, g71, g62, g69, g68⟩
      · exact absurd cd (by omega)
      · have f19 : ∀ q, q ≠ 0 → q ≠ 42 → (q < 74 + 11 * 2 ∨ 74 + 11 * 2 + 11 ≤ q) → M1 q = M q := fun q a1 a2 a3 => f1 q (by simp; omega)
        refine ⟨e1.trans e2.symm, en2, mark_inv (mm := 2) (hc2 := 3) (mk2 := (va_up mk 2 (some (s.heap.size + 96)))) (by omega) hOb hOw hMv hPl hSt hRw hOu hTm hLg hNu hst_ hrr htm hM f19 g0 (by omega) (by omega) g42 (fun i hi => ?_) ⟨g96, g97, g98, g99, g100, g101, g102, g103, g104, g105, g106⟩ (fun j hj => ⟨cpy_in hj |>.trans (by rw [Nat.zero_add]), cpy_in hj |>.trans (by rw [Nat.zero_add]), cpy_in hj |>.trans (by rw [Nat.zero_add])⟩) (fun j hj => ⟨cpy_in hj |>.trans (by rw [Nat.zero_add]), cpy_in hj |>.trans (by rw [Nat.zero_add])⟩) f2 g43 g66 g67 g63 g64 g65 g70 g71 g62 g69 g68⟩
        show (if i = 2 then some (s.heap.size + 96) else mk i) = _
        by_cases z : i = 2
        · rw [if_pos z, z, if_pos (by omega)]
        · rw [if_neg z, hmk i hi]
          by_cases y : i < 2
          · rw [if_pos (by omega), if_pos (by omega)]
          · rw [if_neg (by omega), if_neg (by omega)]
    · obtain ⟨ct9, rn9, rk9, rv9, tk9, tt9, su9, rs9, ca9, ts9, tr9, ⟨b0, b1, b2, b3, b4, b5, b6, b7, b8, b9, b10⟩, -⟩ := hM 2 hz
      refine lv_aload_n C.1 C.2.1 dL_law_658 rfl (lv_at hl 2 rfl) ?_
      refine k_vi C hw 0 (by omega) h0 rfl (c_X8_mark_o2 (by omega) h0 h22 h23 h24 h25 h26 h27 h28 h29 h30 h31 h32 h42 b0 b1 b2 b3 b4 b5 b6 b7 b8 b9 b10 ((hmk 2 (by omega)).trans (if_pos (by omega))) hrs9 htm.1) kv_L_90 rfl hl.1 ⟨Nat.le_of_ble_eq_true rfl, Nat.le_of_ble_eq_true rfl⟩ (Nat.le_of_ble_eq_true rfl) (slN_room (by omega) 0 0 (by omega) (by omega)) dL_law_659 (fun r1 M1 n1 H1 locs1 hp1 hw1 => ?_)
      clear hw
      dsimp only at hp1
      obtain ⟨e1, en1, f1, g0, g98, g99, g100, g101, g102, g103, g104, g105, g106⟩ := hp1
      subst en1
      have hF1 := f1
      have q43 := (hF1 43 (by decide)).trans h43
      have q48 := (hF1 48 (by decide)).trans h48
      have q49 := (hF1 49 (by decide)).trans h49
      have q50 := (hF1 50 (by decide)).trans h50
      have q51 := (hF1 51 (by decide)).trans h51
      have q52 := (hF1 52 (by decide)).trans h52
      have q56 := (hF1 56 (by decide)).trans h56
      have q57 := (hF1 57 (by decide)).trans h57
      have q62 := (hF1 62 (by decide)).trans h62
      have q63 := (hF1 63 (by decide)).trans h63
      have q64 := (hF1 64 (by decide)).trans h64
      have q65 := (hF1 65 (by decide)).trans h65
      have q66 := (hF1 66 (by decide)).trans h66
      have q67 := (hF1 67 (by decide)).trans h67
      have q68 := (hF1 68 (by decide)).trans h68
      have q69 := (hF1 69 (by decide)).trans h69
      have q70 := (hF1 70 (by decide)).trans h70
      have q71 := (hF1 71 (by decide)).trans h71
      have q42 := (hF1 42 (by decide)).trans h42
      have hw := hw1
      refine lv_aload_n C.1 C.2.1 dL_law_662 rfl (lv_at hl 1 rfl) ?_
      refine k_vi C hw 43 (by omega) q43 rfl (c_X9_mark (by omega) q43 q48 q49 q50 q51 q52 q56 q57 q62 q63 q64 q65 q66 q67 q68 q69 q70 q71 (by omega) hrr.1 htm.1 hrr.2.2.2.1) kv_L_94 rfl hl.1 ⟨Nat.le_of_ble_eq_true rfl, Nat.le_of_ble_eq_true rfl⟩ (Nat.le_of_ble_eq_true rfl) (slN_room2 (by omega) 0 0 (by omega) (by omega)) dL_law_663 (fun r2 M2 n2 H2 locs2 hp2 hw2 => ?_)
      clear hw
      dsimp only at hp2
      suffices hfin : r1 = r2 ∧ n2 = n1 ∧ iInv cI cJ cZ cH cR s.heap.size n1 M2 (cc + 1) from ?_
      · obtain ⟨er, en, I2⟩ := hfin
        subst en
        refine lv_icmp_eq (tgt := 753) C.1 C.2.1 dL_law_666 (by decide) (fun _ => ?_) (fun z => absurd er z)
        exact K _ _ _ _ hw2 I2
      obtain ⟨en2, hp2⟩ := hp2
      rcases hp2 with ⟨cd, -⟩ | ⟨-, e2, f2, g43, g66, g67, g63, g64, g65, g70, g71, g62, g69, g68⟩
      · exact absurd cd (by omega)
      · have f19 : ∀ q, q ≠ 0 → q ≠ 42 → (q < 74 + 11 * 2 ∨ 74 + 11 * 2 + 11 ≤ q) → M1 q = M q := fun q a1 a2 a3 => f1 q (by simp; omega)
        obtain ⟨ct0, rn0, rk0, rv0, tk0, tt0, su0, rs0, ca0, ts0, tr0, ⟨a0, a1, -⟩, -⟩ := hM 2 hz
        refine ⟨e1.trans e2.symm, en2, mark_inv (mm := 2) (hc2 := hc) (mk2 := mk) (by omega) hOb hOw hMv hPl hSt hRw hOu hTm hLg hNu hst_ hrr htm hM f19 g0 (by omega) (by omega) q42 (hmk) ⟨(hF1 96 (by decide)).trans a0, (hF1 97 (by decide)).trans a1, g98, g99, g100, g101, g102, g103, g104, g105, g106⟩ (fun j hj => ⟨cpy_in hj |>.trans (by rw [Nat.zero_add]), cpy_in hj |>.trans (by rw [Nat.zero_add]), cpy_in hj |>.trans (by rw [Nat.zero_add])⟩) (fun j hj => ⟨cpy_in hj |>.trans (by rw [Nat.zero_add]), cpy_in hj |>.trans (by rw [Nat.zero_add])⟩) f2 g43 g66 g67 g63 g64 g65 g70 g71 g62 g69 g68⟩
end KLC
