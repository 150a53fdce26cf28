theorem kv_L_40 : kV RL RX8 40 yX8_scale cX8_scale 3 (some .int) 2 := ⟨q_301, q_302, q_303, q_2, q_304, by decide +kernel⟩
theorem kv_L_43 : kV RL RX9 43 yX9_scale cX9_scale 5 (some .int) 2 := ⟨q_351, q_352, q_353, q_5, q_354, by decide +kernel⟩
theorem kv_L_48 : kV RL RX8 48 yX8_least cX8_least 3 (some .long) 1 := ⟨q_398, q_399, q_400, q_2, q_401, by decide +kernel⟩
theorem kv_L_52 : kV RL RX9 52 yX9_least cX9_least 2 (some .long) 1 := ⟨q_403, q_404, q_405, q_5, q_406, by decide +kernel⟩
theorem kv_L_107 : kV RL RX8 107 yX8_clear cX8_clear 2 (some .int) 0 := ⟨q_654, q_655, q_656, q_2, q_657, by decide +kernel⟩
theorem kv_L_110 : kV RL RX9 110 yX9_clear cX9_clear 2 (some .int) 0 := ⟨q_679, q_680, q_681, q_5, q_682, by decide +kernel⟩
theorem mg5 {A B C D X1 X2 X3 X4 X5 Y1 Y2 Y3 Y4 Y5 : Prop} (h1 : (¬ A ∧ X1) ∨ (A ∧ B ∧ X2) ∨ (A ∧ ¬ B ∧ C ∧ X3) ∨ (A ∧ ¬ B ∧ ¬ C ∧ ¬ D ∧ X4) ∨ (A ∧ ¬ B ∧ ¬ C ∧ D ∧ X5)) (h2 : (¬ A ∧ Y1) ∨ (A ∧ B ∧ Y2) ∨ (A ∧ ¬ B ∧ C ∧ Y3) ∨ (A ∧ ¬ B ∧ ¬ C ∧ ¬ D ∧ Y4) ∨ (A ∧ ¬ B ∧ ¬ C ∧ D ∧ Y5)) : (¬ A ∧ X1 ∧ Y1) ∨ (A ∧ B ∧ X2 ∧ Y2) ∨ (A ∧ ¬ B ∧ C ∧ X3 ∧ Y3) ∨ (A ∧ ¬ B ∧ ¬ C ∧ ¬ D ∧ X4 ∧ Y4) ∨ (A ∧ ¬ B ∧ ¬ C ∧ D ∧ X5 ∧ Y5) := by
  by_cases a : A <;> by_cases b : B <;> by_cases c : C <;> by_cases d : D <;> simp_all
theorem half_nI {a : Nat} (h : a ≤ 1000) : nI a / nI 2 = nI (a / 2) := pk_div (by omega) (by omega) (by omega)
/-- owners, epochs, weights behind a change of the count of tasks -/
theorem scale_ow {G : Nat} (hG : G ≤ 32) {ow ep we mow mep mwe P8 P9 : Nat → Int32} {w : Nat → Nat} (how : ∀ g, g < G → ow g = mow g ∧ ep g = mep g ∧ we g = mwe g ∧ we g = nI (w g)) (hs : sN w G ≤ 1000) (hp : ∀ g, g < G → P8 g = P9 g) : ∀ g, g < G → pfx P8 ow G g = pfx (fun g => if g < G then P9 g else nI 0) mow 32 g ∧ pfx (fun g => if ow g = P8 g then ep g else ep g + nI 1) ep G g = pfx (fun g => if g < G ∧ ¬ P9 g = mow g then mep g + nI 1 else mep g + nI 0) mep 32 g ∧ pfx (fun g => we g / nI 2) we G g = pfx (fun g => mwe g / nI 2) mwe 32 g ∧ pfx (fun g => we g / nI 2) we G g = nI ((fun g => w g / 2) g) := by
  intro g hg
  obtain ⟨a1, a2, a3, a4⟩ := how g hg
  have e1 : ∀ (α : Type) (f h : Nat → α), pfx f h G g = f g := fun α f h => if_pos hg
  have e2 : ∀ (α : Type) (f h : Nat → α), pfx f h 32 g = f g := fun α f h => if_pos (by omega)
  rw [e1, e1, e1, e2, e2, e2]
  refine ⟨?_, ?_, ?_, ?_⟩
  · show P8 g = if g < G then P9 g else nI 0
    rw [if_pos hg]; exact hp g hg
  · show (if ow g = P8 g then ep g else ep g + nI 1) = if g < G ∧ ¬ P9 g = mow g then mep g + nI 1 else mep g + nI 0
    rw [a1, hp g hg, a2]
    by_cases z : mow g = P9 g
    · rw [if_pos z, if_neg (fun q => q.2 z.symm)]
      show mep g = mep g + 0
      exact (Int32.add_zero _).symm
    · rw [if_neg z, if_pos ⟨hg, fun q => z q.symm⟩]
  · show we g / nI 2 = mwe g / nI 2
    rw [a3]
  · show we g / nI 2 = nI (w g / 2)
    rw [a4]
    exact half_nI (Nat.le_trans (sN_at w hg) hs)
theorem RR_zero {rn rk rv mrk mrv mwa : Nat → Int32} : RR 0 0 rn rk rv mrk mrv mwa := ⟨by omega, rfl, fun q hq => absurd hq (Nat.not_lt_zero q), fun q hq => absurd hq (Nat.not_lt_zero q), fun q hq => absurd hq (Nat.not_lt_zero q)⟩
theorem RMv_zero {mg : Nat → Int32} : RMv 0 mg (fun _ => 0) := ⟨by decide, fun x _ h => by simp at h⟩
section KLC
variable {p : Program} {l : Launch} {e : Env} {s : State} {m : MethodId} {below : List Frame} {meth : Method} {c : Code} {H : Heap} {locs : List Loc} {Q : State → Prop} {ls : Array Slot} {D : va_G} {n a L i cc : Nat} {M : Nat → va_E} {xs : Nat → Int32} {cI cJ cZ cH cR : ClassId}
set_option maxHeartbeats 4000000 in
set_option maxRecDepth 100000 in
theorem lw_scale (X : lwC p s m c D cI cJ cZ cH cR a L xs i cc ls) (hw : kW D s.heap.size M n s.heap H locs) (I : iInv cI cJ cZ cH cR s.heap.size n M cc) (K : lwK p l e s m below meth c Q ls D cI cJ cZ cH cR a cc)  : W p l e room_1 s m #[Value.ref a] below meth c H locs n (slN n) Q (F0 m 318 ls []) := by
  have I0 := I
  obtain ⟨C, hX, hbl, hL, hi, hcc, hl⟩ := X
  obtain ⟨mm, s_, G, mo, ta, sc, mv, rs, ca, ts, tr, os, lx, lz, lg, hc, w, hOb, hOw, hMv, hPl, hSt, hRw, hOu, hTm, hLg, hMk, hNu⟩ := I
  obtain ⟨hG0, hG, hmo, hta0, hta, hs_, hsum, hos, hlg, hc3, hmh, hn⟩ := id hNu
  obtain ⟨h0, h1, h6, h9, h22, h23, h26, h30, h33, h37, h43⟩ := id hOb
  obtain ⟨ow, ep, we, mow, mep, mwe, h2, h3, h4, h44, h45, h46, how⟩ := id hOw
  obtain ⟨mg, mmv, h5, h47, hmv⟩ := id hMv
  obtain ⟨po, be, mpl, mlf, eo, h7, h8, h72, h73, hE⟩ := id hPl
  refine lv_aload_n C.1 C.2.1 dL_law_318 rfl (lv_at hl 2 rfl) ?_
  refine lw_ld (k0 := 0) (k3 := 3) (i := i) C hX hbl hw 1 (by omega) hL (lv_at hl 3 rfl) (lv_at hl 0 rfl) dL_law_319 dL_law_320 dL_law_321 rfl dL_law_322 dL_law_323 ?_
  refine lw_ld (k0 := 0) (k3 := 3) (i := i) C hX hbl hw 2 (by omega) hL (lv_at hl 3 rfl) (lv_at hl 0 rfl) dL_law_324 dL_law_325 dL_law_326 rfl dL_law_327 dL_law_328 ?_
  refine k_vi C hw 0 (by omega) h0 rfl (c_X8_scale (s_ := s_) (w := w) (by omega) h0 h1 h2 h3 h4 h5 h6 h7 h8 h9 hE hG0 hG (by omega) hmo hs_ rfl (fun g hg => (how g hg).2.2.2) (by omega)) kv_L_40 rfl hl.1 ⟨Nat.le_of_ble_eq_true rfl, Nat.le_of_ble_eq_true rfl⟩ (Nat.le_of_ble_eq_true rfl) (slN_room (by omega) 0 0 (by omega) (by omega)) dL_law_329 (fun r1 M1 n1 H1 locs1 hp1 hw1 => ?_)
  clear hw
  dsimp only at hp1
  obtain ⟨en1, f1, ⟨px, g7⟩, ⟨bx, g8⟩, ⟨eo2, gE⟩, hp1⟩ := hp1
  subst en1
  have hF1 := f1
  have q43 := (hF1 43 (by decide)).trans h43
  have q44 := (hF1 44 (by decide)).trans h44
  have q45 := (hF1 45 (by decide)).trans h45
  have q46 := (hF1 46 (by decide)).trans h46
  have q47 := (hF1 47 (by decide)).trans h47
  have q72 := (hF1 72 (by decide)).trans h72
  have q73 := (hF1 73 (by decide)).trans h73
  have hw := hw1
  refine lv_aload_n C.1 C.2.1 dL_law_332 rfl (lv_at hl 1 rfl) ?_
  refine lw_ld (k0 := 0) (k3 := 3) (i := i) C hX hbl hw 1 (by omega) hL (lv_at hl 3 rfl) (lv_at hl 0 rfl) dL_law_333 dL_law_334 dL_law_335 rfl dL_law_336 dL_law_337 ?_
  refine lw_ld (k0 := 0) (k3 := 3) (i := i) C hX hbl hw 2 (by omega) hL (lv_at hl 3 rfl) (lv_at hl 0 rfl) dL_law_338 dL_law_339 dL_law_340 rfl dL_law_341 dL_law_342 ?_
  refine k_vi C hw 43 (by omega) q43 rfl (c_X9_scale (s_ := s_) (w := w) (by omega) q43 q44 q45 q46 q47 q72 q73 hG0 hG (fun g hg => (how g hg).2.2.1.symm.trans (how g hg).2.2.2) (by omega) hs_ rfl hmo) kv_L_43 rfl hl.1 ⟨Nat.le_of_ble_eq_true rfl, Nat.le_of_ble_eq_true rfl⟩ (Nat.le_of_ble_eq_true rfl) (slN_room2 (by omega) 0 0 (by omega) (by omega)) dL_law_343 (fun r2 M2 n2 H2 locs2 hp2 hw2 => ?_)
  clear hw
  dsimp only at hp2
  suffices hfin : r1 = r2 ∧ n2 = n1 ∧ iInv cI cJ cZ cH cR s.heap.size n1 M2 (cc + 1) from ?_
  · obtain ⟨er, en, I2⟩ := hfin
    subst en
    refine lv_icmp_eq (tgt := 753) C.1 C.2.1 dL_law_346 (by decide) (fun _ => ?_) (fun z => absurd er z)
    exact K _ _ _ _ hw2 I2
  obtain ⟨en2, f2, ⟨px2, g72⟩, ⟨lf, g73⟩, hp2⟩ := hp2
  have hPl2 : iPl cI cJ cZ M2 := ⟨px, bx, px2, lf, eo2, (f2 7 (by decide)).trans g7, (f2 8 (by decide)).trans g8, g72, g73, fun i hi => (f2 (10 + i) (by simp; omega)).trans (gE i hi)⟩
  have hD : dpv w ow (lmN (sN w G) s_ (kn (xs (i + 1)))) G (kn (xs (i + 1))) (kn (xs (i + 1))) 0 = dpv w mow (lmN (sN w G) s_ (kn (xs (i + 1)))) G (kn (xs (i + 1))) (kn (xs (i + 1))) 0 := (dpv_congr (fun g hg => (how g hg).1) _ 0 (Nat.zero_le _)).1
  rw [← hD] at hp2
  have hFF := kF_app f1 f2
  rcases mg5 hp1 hp2 with ⟨cA, ⟨e1, f1⟩, e2, f2⟩ | ⟨cA, cB, ⟨e1, f1⟩, e2, f2⟩ | ⟨cA, cB, cC, X, Y⟩ | ⟨cA, cB, cC, cD, ⟨e1, f1⟩, e2, f2⟩ | ⟨cA, cB, cC, cD, X, Y⟩
  · have hFF := kF_app f1 f2
    refine ⟨e1.trans e2.symm, en2, ⟨mm, s_, G, mo, ta, sc, mv, rs, ca, ts, tr, os, lx, lz, lg, hc, w, ⟨(hFF 0 (by decide)).trans h0, (hFF 1 (by decide)).trans h1, (hFF 6 (by decide)).trans h6, (hFF 9 (by decide)).trans h9, (hFF 22 (by decide)).trans h22, (hFF 23 (by decide)).trans h23, (hFF 26 (by decide)).trans h26, (hFF 30 (by decide)).trans h30, (hFF 33 (by decide)).trans h33, (hFF 37 (by decide)).trans h37, (hFF 43 (by decide)).trans h43⟩, iOw_fr hOw (kF_on hFF _ (by decide)), iMv_fr hMv (kF_on hFF _ (by decide)), iPl_fr hPl (kF_on hFF _ (by decide)), iSt_fr hSt (kF_on hFF _ (by decide)), iRw_fr hRw (kF_on hFF _ (by decide)), iOu_fr hOu (kF_on hFF _ (by decide)), iTm_fr hTm (kF_on hFF _ (by decide)), iLg_fr hLg (kF_on hFF _ (by decide)), iMk_fr hMk hFF (by decide), by unfold iNu; omega⟩⟩
  · have hFF := kF_app f1 f2
    refine ⟨e1.trans e2.symm, en2, ⟨mm, s_, G, mo, ta, sc, mv, rs, ca, ts, tr, os, lx, lz, lg, hc, w, ⟨(hFF 0 (by decide)).trans h0, (hFF 1 (by decide)).trans h1, (hFF 6 (by decide)).trans h6, (hFF 9 (by decide)).trans h9, (hFF 22 (by decide)).trans h22, (hFF 23 (by decide)).trans h23, (hFF 26 (by decide)).trans h26, (hFF 30 (by decide)).trans h30, (hFF 33 (by decide)).trans h33, (hFF 37 (by decide)).trans h37, (hFF 43 (by decide)).trans h43⟩, iOw_fr hOw (kF_on hFF _ (by decide)), iMv_fr hMv (kF_on hFF _ (by decide)), iPl_fr hPl (kF_on hFF _ (by decide)), iSt_fr hSt (kF_on hFF _ (by decide)), iRw_fr hRw (kF_on hFF _ (by decide)), iOu_fr hOu (kF_on hFF _ (by decide)), iTm_fr hTm (kF_on hFF _ (by decide)), iLg_fr hLg (kF_on hFF _ (by decide)), iMk_fr hMk hFF (by decide), by unfold iNu; omega⟩⟩
  · obtain ⟨k, hk1, hk2, ek, ek2⟩ := rngI (lo := 1) (hi := mo) (by omega) (by have z := cA.1; have z2 := cB; rw [Int32.lt_iff_toInt_lt] at z z2; have z3 : (nI mo).toInt = mo := nI_toInt (by omega); have z4 : (nI 1).toInt = 1 := rfl; omega) cA.1 cB
    · obtain ⟨e1, g1, g2, g3, g4, g5⟩ := X
      obtain ⟨e2, g43, g47, g45, g44, g46⟩ := Y
      have hpl : ∀ g, g < G → (lay po (evF G (kn (xs (i + 1)))) (kn (xs (i + 1)))) g = (lay mpl (evF G (kn (xs (i + 1)))) (kn (xs (i + 1)))) g := lay_even (by omega) po mpl
      have hRM := RMv_scale (mg := mg) (mmv := mmv) hG (fun g hg => (how g hg).1) hpl
      have hO := scale_ow hG how (by omega) hpl
      have hz := sN_half w G
      refine ⟨by rw [e1, e2, hRM.1], en2, ⟨mm, s_, G, mo, (kn (xs (i + 1))), (sc + nI 1), _, rs, ca, ts, tr, os, lx, lz, lg, hc, (fun g => w g / 2), ⟨(hFF 0 (by decide)).trans h0, (f2 1 (by decide)).trans g1, (hFF 6 (by decide)).trans h6, (hFF 9 (by decide)).trans h9, (hFF 22 (by decide)).trans h22, (hFF 23 (by decide)).trans h23, (hFF 26 (by decide)).trans h26, (hFF 30 (by decide)).trans h30, (hFF 33 (by decide)).trans h33, (hFF 37 (by decide)).trans h37, g43⟩, ⟨_, _, _, _, _, _, (f2 2 (by decide)).trans g2, (f2 3 (by decide)).trans g3, (f2 4 (by decide)).trans g4, g44, g45, g46, hO⟩, ⟨_, _, (f2 5 (by decide)).trans g5, g47, hRM.2⟩, hPl2, iSt_fr hSt (kF_on hFF _ (by decide)), iRw_fr hRw (kF_on hFF _ (by decide)), iOu_fr hOu (kF_on hFF _ (by decide)), iTm_fr hTm (kF_on hFF _ (by decide)), iLg_fr hLg (kF_on hFF _ (by decide)), iMk_fr hMk hFF (by decide), by unfold iNu; omega⟩⟩
  · have hFF := kF_app f1 f2
    refine ⟨e1.trans e2.symm, en2, ⟨mm, s_, G, mo, ta, sc, mv, rs, ca, ts, tr, os, lx, lz, lg, hc, w, ⟨(hFF 0 (by decide)).trans h0, (hFF 1 (by decide)).trans h1, (hFF 6 (by decide)).trans h6, (hFF 9 (by decide)).trans h9, (hFF 22 (by decide)).trans h22, (hFF 23 (by decide)).trans h23, (hFF 26 (by decide)).trans h26, (hFF 30 (by decide)).trans h30, (hFF 33 (by decide)).trans h33, (hFF 37 (by decide)).trans h37, (hFF 43 (by decide)).trans h43⟩, iOw_fr hOw (kF_on hFF _ (by decide)), iMv_fr hMv (kF_on hFF _ (by decide)), hPl2, iSt_fr hSt (kF_on hFF _ (by decide)), iRw_fr hRw (kF_on hFF _ (by decide)), iOu_fr hOu (kF_on hFF _ (by decide)), iTm_fr hTm (kF_on hFF _ (by decide)), iLg_fr hLg (kF_on hFF _ (by decide)), iMk_fr hMk hFF (by decide), by unfold iNu; omega⟩⟩
  · obtain ⟨k, hk1, hk2, ek, ek2⟩ := rngI (lo := 1) (hi := mo) (by omega) (by have z := cA.1; have z2 := cB; rw [Int32.lt_iff_toInt_lt] at z z2; have z3 : (nI mo).toInt = mo := nI_toInt (by omega); have z4 : (nI 1).toInt = 1 := rfl; omega) cA.1 cB
    · obtain ⟨e1, g1, g2, g3, g4, g5⟩ := X
      obtain ⟨e2, g43, g47, g45, g44, g46⟩ := Y
      have hpl : ∀ g, g < G → (lay po (dpf w ow (lmN (sN w G) s_ (kn (xs (i + 1)))) G (kn (xs (i + 1)))) (kn (xs (i + 1)))) g = (lay mpl (dpf w mow (lmN (sN w G) s_ (kn (xs (i + 1)))) G (kn (xs (i + 1)))) (kn (xs (i + 1)))) g := lay_least (fun g hg => (how g hg).1) cD po mpl
      have hRM := RMv_scale (mg := mg) (mmv := mmv) hG (fun g hg => (how g hg).1) hpl
      have hO := scale_ow hG how (by omega) hpl
      have hz := sN_half w G
      refine ⟨by rw [e1, e2, hRM.1], en2, ⟨mm, s_, G, mo, (kn (xs (i + 1))), (sc + nI 1), _, rs, ca, ts, tr, os, lx, lz, lg, hc, (fun g => w g / 2), ⟨(hFF 0 (by decide)).trans h0, (f2 1 (by decide)).trans g1, (hFF 6 (by decide)).trans h6, (hFF 9 (by decide)).trans h9, (hFF 22 (by decide)).trans h22, (hFF 23 (by decide)).trans h23, (hFF 26 (by decide)).trans h26, (hFF 30 (by decide)).trans h30, (hFF 33 (by decide)).trans h33, (hFF 37 (by decide)).trans h37, g43⟩, ⟨_, _, _, _, _, _, (f2 2 (by decide)).trans g2, (f2 3 (by decide)).trans g3, (f2 4 (by decide)).trans g4, g44, g45, g46, hO⟩, ⟨_, _, (f2 5 (by decide)).trans g5, g47, hRM.2⟩, hPl2, iSt_fr hSt (kF_on hFF _ (by decide)), iRw_fr hRw (kF_on hFF _ (by decide)), iOu_fr hOu (kF_on hFF _ (by decide)), iTm_fr hTm (kF_on hFF _ (by decide)), iLg_fr hLg (kF_on hFF _ (by decide)), iMk_fr hMk hFF (by decide), by unfold iNu; omega⟩⟩
set_option maxHeartbeats 4000000 in
set_option maxRecDepth 100000 in
theorem lw_least (X : lwC p s m c D cI cJ cZ cH cR a L xs i cc ls) (hw : kW D s.heap.size M n s.heap H locs) (I : iInv cI cJ cZ cH cR s.heap.size n M cc) (K : lwK p l e s m below meth c Q ls D cI cJ cZ cH cR a cc)  : W p l e room_1 s m #[Value.ref a] below meth c H locs n (slN n) Q (F0 m 374 ls []) := by
  have I0 := I
  obtain ⟨C, hX, hbl, hL, hi, hcc, hl⟩ := X
  obtain ⟨mm, s_, G, mo, ta, sc, mv, rs, ca, ts, tr, os, lx, lz, lg, hc, w, hOb, hOw, hMv, hPl, hSt, hRw, hOu, hTm, hLg, hMk, hNu⟩ := I
  obtain ⟨hG0, hG, hmo, hta0, hta, hs_, hsum, hos, hlg, hc3, hmh, hn⟩ := id hNu
  obtain ⟨h0, h1, h6, h9, h22, h23, h26, h30, h33, h37, h43⟩ := id hOb
  obtain ⟨ow, ep, we, mow, mep, mwe, h2, h3, h4, h44, h45, h46, how⟩ := id hOw
  obtain ⟨po, be, mpl, mlf, eo, h7, h8, h72, h73, hE⟩ := id hPl
  refine lv_aload_n C.1 C.2.1 dL_law_374 rfl (lv_at hl 2 rfl) ?_
  refine lw_ld (k0 := 0) (k3 := 3) (i := i) C hX hbl hw 1 (by omega) hL (lv_at hl 3 rfl) (lv_at hl 0 rfl) dL_law_375 dL_law_376 dL_law_377 rfl dL_law_378 dL_law_379 ?_
  refine k_vl C hw 0 (by omega) h0 rfl (c_X8_least (s_ := s_) (w := w) (by omega) h0 h1 h2 h4 h6 h7 h8 h9 hE hG0 hG (by omega) hmo hs_ rfl (fun g hg => (how g hg).2.2.2) (by omega)) kv_L_48 rfl hl.1 ⟨Nat.le_of_ble_eq_true rfl, Nat.le_of_ble_eq_true rfl⟩ (Nat.le_of_ble_eq_true rfl) (slN_room (by omega) 0 0 (by omega) (by omega)) dL_law_380 (fun r1 M1 n1 H1 locs1 hp1 hw1 => ?_)
  clear hw
  dsimp only at hp1
  obtain ⟨en1, f1, ⟨px, g7⟩, ⟨bx, g8⟩, ⟨eo2, gE⟩, hp1⟩ := hp1
  subst en1
  have hF1 := f1
  have q43 := (hF1 43 (by decide)).trans h43
  have q44 := (hF1 44 (by decide)).trans h44
  have q46 := (hF1 46 (by decide)).trans h46
  have q72 := (hF1 72 (by decide)).trans h72
  have q73 := (hF1 73 (by decide)).trans h73
  have hw := hw1
  refine lv_aload_n C.1 C.2.1 dL_law_383 rfl (lv_at hl 1 rfl) ?_
  refine lw_ld (k0 := 0) (k3 := 3) (i := i) C hX hbl hw 1 (by omega) hL (lv_at hl 3 rfl) (lv_at hl 0 rfl) dL_law_384 dL_law_385 dL_law_386 rfl dL_law_387 dL_law_388 ?_
  refine k_vl C hw 43 (by omega) q43 rfl (c_X9_least (s_ := s_) (w := w) (by omega) q43 q44 q46 q73 hG0 hG (fun g hg => (how g hg).2.2.1.symm.trans (how g hg).2.2.2) (by omega) hs_ rfl hmo) kv_L_52 rfl hl.1 ⟨Nat.le_of_ble_eq_true rfl, Nat.le_of_ble_eq_true rfl⟩ (Nat.le_of_ble_eq_true rfl) (slN_room2 (by omega) 0 0 (by omega) (by omega)) dL_law_389 (fun r2 M2 n2 H2 locs2 hp2 hw2 => ?_)
  clear hw
  dsimp only at hp2
  suffices hfin : r1 = r2 ∧ n2 = n1 ∧ iInv cI cJ cZ cH cR s.heap.size n1 M2 (cc + 1) from ?_
  · obtain ⟨er, en, I2⟩ := hfin
    subst en
    refine W.lcmp C.1 C.2.1 dL_law_392 ?_
    refine lv_if_eq (tgt := 753) C.1 C.2.1 dL_law_393 (by decide) (fun _ => ?_) (fun z => absurd (by rw [er]; exact lg_cmp_self _) z)
    exact K _ _ _ _ hw2 I2
  obtain ⟨en2, f2, ⟨lf, g73⟩, hp2⟩ := hp2
  have hPl2 : iPl cI cJ cZ M2 := ⟨px, bx, mpl, lf, eo2, (f2 7 (by decide)).trans g7, (f2 8 (by decide)).trans g8, (f2 72 (by decide)).trans q72, g73, fun i hi => (f2 (10 + i) (by simp; omega)).trans (gE i hi)⟩
  have hD : dpv w ow (lmN (sN w G) s_ (kn (xs (i + 1)))) G (kn (xs (i + 1))) (kn (xs (i + 1))) 0 = dpv w mow (lmN (sN w G) s_ (kn (xs (i + 1)))) G (kn (xs (i + 1))) (kn (xs (i + 1))) 0 := (dpv_congr (fun g hg => (how g hg).1) _ 0 (Nat.zero_le _)).1
  rw [← hD] at hp2
  have hFF := kF_app f1 f2
  refine ⟨?_, en2, ⟨mm, s_, G, mo, ta, sc, mv, rs, ca, ts, tr, os, lx, lz, lg, hc, w, ⟨(hFF 0 (by decide)).trans h0, (hFF 1 (by decide)).trans h1, (hFF 6 (by decide)).trans h6, (hFF 9 (by decide)).trans h9, (hFF 22 (by decide)).trans h22, (hFF 23 (by decide)).trans h23, (hFF 26 (by decide)).trans h26, (hFF 30 (by decide)).trans h30, (hFF 33 (by decide)).trans h33, (hFF 37 (by decide)).trans h37, (hFF 43 (by decide)).trans h43⟩, iOw_fr hOw (kF_on hFF _ (by decide)), iMv_fr hMv (kF_on hFF _ (by decide)), hPl2, iSt_fr hSt (kF_on hFF _ (by decide)), iRw_fr hRw (kF_on hFF _ (by decide)), iOu_fr hOu (kF_on hFF _ (by decide)), iTm_fr hTm (kF_on hFF _ (by decide)), iLg_fr hLg (kF_on hFF _ (by decide)), iMk_fr hMk hFF (by decide), by unfold iNu; omega⟩⟩
  rcases hp1 with ⟨a, e1⟩ | ⟨a, a2, e1⟩ | ⟨a, a2, e1⟩ <;> rcases hp2 with ⟨d, e2⟩ | ⟨d, e2⟩
  · exact e1.trans e2.symm
  · exact absurd d a
  · exact absurd a d
  · rw [e1, e2, enc_f a2]
  · exact absurd a d
  · rw [e1, e2, enc_t a2]
set_option maxHeartbeats 4000000 in
set_option maxRecDepth 100000 in
theorem lw_clear (X : lwC p s m c D cI cJ cZ cH cR a L xs i cc ls) (hw : kW D s.heap.size M n s.heap H locs) (I : iInv cI cJ cZ cH cR s.heap.size n M cc) (K : lwK p l e s m below meth c Q ls D cI cJ cZ cH cR a cc)  : W p l e room_1 s m #[Value.ref a] below meth c H locs n (slN n) Q (F0 m 740 ls []) := by
  have I0 := I
  obtain ⟨C, hX, hbl, hL, hi, hcc, hl⟩ := X
  obtain ⟨mm, s_, G, mo, ta, sc, mv, rs, ca, ts, tr, os, lx, lz, lg, hc, w, hOb, hOw, hMv, hPl, hSt, hRw, hOu, hTm, hLg, hMk, hNu⟩ := I
  obtain ⟨hG0, hG, hmo, hta0, hta, hs_, hsum, hos, hlg, hc3, hmh, hn⟩ := id hNu
  obtain ⟨h0, h1, h6, h9, h22, h23, h26, h30, h33, h37, h43⟩ := id hOb
  obtain ⟨ow, ep, we, mow, mep, mwe, h2, h3, h4, h44, h45, h46, how⟩ := id hOw
  obtain ⟨mg, mmv, h5, h47, hmv⟩ := id hMv
  obtain ⟨ct, su, mct, msu, h24, h25, h51, h52, hst_⟩ := id hSt
  obtain ⟨rn, rk, rv, mrk, mrv, mwa, h27, h28, h29, h48, h49, h50, hrr⟩ := id hRw
  obtain ⟨on_, ok_, oz, mon, mok, moz, h34, h35, h36, h53, h54, h55, hou⟩ := id hOu
  obtain ⟨tk, tt, mtk, mtt, h31, h32, h56, h57, htm⟩ := id hTm
  obtain ⟨lk, lt, lc, ly, mlk, mlt, mlc, mly, h38, h39, h40, h41, h58, h59, h60, h61, hlgr⟩ := id hLg
  refine lv_aload_n C.1 C.2.1 dL_law_740 rfl (lv_at hl 2 rfl) ?_
  refine k_vi C hw 0 (by omega) h0 rfl (c_X8_clear (by omega) h0 h1 h2 h3 h4 h22 h23 h24 h25 h26 h30 h33 h37) kv_L_107 rfl hl.1 ⟨Nat.le_of_ble_eq_true rfl, Nat.le_of_ble_eq_true rfl⟩ (Nat.le_of_ble_eq_true rfl) (slN_room (by omega) 0 0 (by omega) (by omega)) dL_law_741 (fun r1 M1 n1 H1 locs1 hp1 hw1 => ?_)
  clear hw
  dsimp only at hp1
  obtain ⟨e1, en1, f1, g0, g1, g2, g3, g4, g24, g25, g26, g30, g33, g37⟩ := hp1
  subst en1
  have hF1 := f1
  have q43 := (hF1 43 (by decide)).trans h43
  have q44 := (hF1 44 (by decide)).trans h44
  have q45 := (hF1 45 (by decide)).trans h45
  have q46 := (hF1 46 (by decide)).trans h46
  have q47 := (hF1 47 (by decide)).trans h47
  have q51 := (hF1 51 (by decide)).trans h51
  have q52 := (hF1 52 (by decide)).trans h52
  have hw := hw1
  refine lv_aload_n C.1 C.2.1 dL_law_744 rfl (lv_at hl 1 rfl) ?_
  refine k_vi C hw 43 (by omega) q43 rfl (c_X9_clear (by omega) q43 q44 q45 q46 q47 q51 q52) kv_L_110 rfl hl.1 ⟨Nat.le_of_ble_eq_true rfl, Nat.le_of_ble_eq_true rfl⟩ (Nat.le_of_ble_eq_true rfl) (slN_room2 (by omega) 0 0 (by omega) (by omega)) dL_law_745 (fun r2 M2 n2 H2 locs2 hp2 hw2 => ?_)
  clear hw
  dsimp only at hp2
  suffices hfin : r1 = r2 ∧ n2 = n1 ∧ iInv cI cJ cZ cH cR s.heap.size n1 M2 (cc + 1) from ?_
  · obtain ⟨er, en, I2⟩ := hfin
    subst en
    refine lv_icmp_eq (tgt := 753) C.1 C.2.1 dL_law_748 (by decide) (fun _ => ?_) (fun z => absurd er z)
    exact K _ _ _ _ hw2 I2
  obtain ⟨e2, en2, f2, g43, g44, g45, g46, g47, g51, g52⟩ := hp2
  have hFF := kF_app f1 f2
  have hz := sN_zero 8
  refine ⟨e1.trans e2.symm, en2, ⟨0, 20, 8, 4, 1, nI 0, 0, 0, 0, 0, nI 0, 0, lx, 0, 0, hc, (fun _ => 0), ⟨(f2 0 (by decide)).trans g0, (f2 1 (by decide)).trans g1, (hFF 6 (by decide)).trans h6, (hFF 9 (by decide)).trans h9, (hFF 22 (by decide)).trans h22, (hFF 23 (by decide)).trans h23, (f2 26 (by decide)).trans g26, (f2 30 (by decide)).trans g30, (f2 33 (by decide)).trans g33, (f2 37 (by decide)).trans g37, g43⟩, ⟨_, _, _, _, _, _, (f2 2 (by decide)).trans g2, (f2 3 (by decide)).trans g3, (f2 4 (by decide)).trans g4, g44, g45, g46, fun _ _ => ⟨rfl, rfl, rfl, rfl⟩⟩, ⟨_, _, (hFF 5 (by decide)).trans h5, g47, RMv_zero⟩, iPl_fr hPl (kF_on hFF _ (by decide)), ⟨_, _, _, _, (f2 24 (by decide)).trans g24, (f2 25 (by decide)).trans g25, g51, g52, fun _ _ => ⟨rfl, rfl⟩⟩, ⟨_, _, _, _, _, _, (hFF 27 (by decide)).trans h27, (hFF 28 (by decide)).trans h28, (hFF 29 (by decide)).trans h29, (hFF 48 (by decide)).trans h48, (hFF 49 (by decide)).trans h49, (hFF 50 (by decide)).trans h50, RR_zero⟩, ⟨_, _, _, _, _, _, (hFF 34 (by decide)).trans h34, (hFF 35 (by decide)).trans h35, (hFF 36 (by decide)).trans h36, (hFF 53 (by decide)).trans h53, (hFF 54 (by decide)).trans h54, (hFF 55 (by decide)).trans h55, fun j hj => absurd hj (Nat.not_lt_zero j)⟩, ⟨_, _, _, _, (hFF 31 (by decide)).trans h31, (hFF 32 (by decide)).trans h32, (hFF 56 (by decide)).trans h56, (hFF 57 (by decide)).trans h57, RT_zero⟩, ⟨_, _, _, _, _, _, _, _, (hFF 38 (by decide)).trans h38, (hFF 39 (by decide)).trans h39, (hFF 40 (by decide)).trans h40, (hFF 41 (by decide)).trans h41, (hFF 58 (by decide)).trans h58, (hFF 59 (by decide)).trans h59, (hFF 60 (by decide)).trans h60, (hFF 61 (by decide)).trans h61, RLg_empty hlgr.1⟩, iMk_less (iMk_fr hMk hFF (by decide)) (Nat.zero_le _), by unfold iNu; omega⟩⟩
end KLC
