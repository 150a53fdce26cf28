theorem kv_L_13 : kV RL RX8 13 yX8_shape cX8_shape 3 (some .int) 2 := ⟨q_173, q_174, q_175, q_2, q_176, by decide +kernel⟩
theorem kv_L_17 : kV RL RX9 17 yX9_shape cX9_shape 3 (some .int) 2 := ⟨q_183, q_184, q_185, q_5, q_186, by decide +kernel⟩
theorem kv_L_18 : kV RL RX8 18 yX8_slack cX8_slack 3 (some .int) 1 := ⟨q_193, q_194, q_195, q_2, q_196, by decide +kernel⟩
theorem kv_L_22 : kV RL RX9 22 yX9_slack cX9_slack 3 (some .int) 1 := ⟨q_197, q_198, q_199, q_5, q_200, by decide +kernel⟩
theorem kv_L_27 : kV RL RX8 27 yX8_row cX8_row 4 (some .int) 2 := ⟨q_226, q_227, q_228, q_2, q_229, by decide +kernel⟩
theorem kv_L_30 : kV RL RX9 30 yX9_row cX9_row 3 (some .int) 2 := ⟨q_241, q_242, q_243, q_5, q_244, by decide +kernel⟩
theorem kv_L_31 : kV RL RX8 31 yX8_step cX8_step 5 (some .int) 1 := ⟨q_247, q_248, q_249, q_2, q_250, by decide +kernel⟩
theorem kv_L_34 : kV RL RX9 34 yX9_step cX9_step 4 (some .int) 1 := ⟨q_284, q_285, q_286, q_5, q_287, by decide +kernel⟩
theorem kv_L_35 : kV RL RX8 35 yX8_add cX8_add 4 (some .int) 3 := ⟨q_292, q_293, q_294, q_2, q_295, by decide +kernel⟩
theorem kv_L_39 : kV RL RX9 39 yX9_add cX9_add 4 (some .int) 3 := ⟨q_297, q_298, q_299, q_5, q_300, by decide +kernel⟩
theorem kv_L_73 : kV RL RX8 73 yX8_timer cX8_timer 3 (some .int) 2 := ⟨q_488, q_489, q_490, q_2, q_491, by decide +kernel⟩
theorem kv_L_76 : kV RL RX9 76 yX9_timer cX9_timer 3 (some .int) 2 := ⟨q_508, q_509, q_510, q_5, q_511, by decide +kernel⟩
theorem kv_L_77 : kV RL RX8 77 yX8_tick cX8_tick 5 (some .int) 1 := ⟨q_513, q_514, q_515, q_2, q_516, by decide +kernel⟩
theorem kv_L_80 : kV RL RX9 80 yX9_tick cX9_tick 4 (some .int) 1 := ⟨q_541, q_542, q_543, q_5, q_544, by decide +kernel⟩
section KLC
variable {p : Program} {l : Launch} {e : Env} {s : State} {m : MethodId} {below : List Frame} {meth : Method} {c : Code} {H : Heap} {locs : List Loc} {Q : State → Prop} {ls : Array Slot} {D : va_G} {n a L i cc : Nat} {M : Nat → va_E} {xs : Nat → Int32} {cI cJ cZ cH cR : ClassId}
set_option maxHeartbeats 4000000 in
set_option maxRecDepth 100000 in
theorem lw_slack (X : lwC p s m c D cI cJ cZ cH cR a L xs i cc ls) (hw : kW D s.heap.size M n s.heap H locs) (I : iInv cI cJ cZ cH cR s.heap.size n M cc) (K : lwK p l e s m below meth c Q ls D cI cJ cZ cH cR a cc)  : W p l e room_1 s m #[Value.ref a] below meth c H locs n (slN n) Q (F0 m 173 ls []) := by
  have I0 := I
  obtain ⟨C, hX, hbl, hL, hi, hcc, hl⟩ := X
  obtain ⟨mm, s_, G, mo, ta, sc, mv, rs, ca, ts, tr, os, lx, lz, lg, hc, w, hOb, hOw, hMv, hPl, hSt, hRw, hOu, hTm, hLg, hMk, hNu⟩ := I
  obtain ⟨hG0, hG, hmo, hta0, hta, hs_, hsum, hos, hlg, hc3, hmh, hn⟩ := id hNu
  obtain ⟨h0, h1, h6, h9, h22, h23, h26, h30, h33, h37, h43⟩ := id hOb
  refine lv_aload_n C.1 C.2.1 dL_law_173 rfl (lv_at hl 2 rfl) ?_
  refine lw_ld (k0 := 0) (k3 := 3) (i := i) C hX hbl hw 1 (by omega) hL (lv_at hl 3 rfl) (lv_at hl 0 rfl) dL_law_174 dL_law_175 dL_law_176 rfl dL_law_177 dL_law_178 ?_
  refine k_vi C hw 0 (by omega) h0 rfl (c_X8_slack (by omega) h0) kv_L_18 rfl hl.1 ⟨Nat.le_of_ble_eq_true rfl, Nat.le_of_ble_eq_true rfl⟩ (Nat.le_of_ble_eq_true rfl) (slN_room (by omega) 0 0 (by omega) (by omega)) dL_law_179 (fun r1 M1 n1 H1 locs1 hp1 hw1 => ?_)
  clear hw
  dsimp only at hp1
  obtain ⟨en1, hp1⟩ := hp1
  subst en1
  have hF1 : kF [0] M M1 := by
    rcases hp1 with ⟨-, -, e9⟩ | ⟨-, -, hf9, -⟩
    · exact kF_of e9
    · exact hf9
  have q43 := (hF1 43 (by decide)).trans h43
  have hw := hw1
  refine lv_aload_n C.1 C.2.1 dL_law_182 rfl (lv_at hl 1 rfl) ?_
  refine lw_ld (k0 := 0) (k3 := 3) (i := i) C hX hbl hw 1 (by omega) hL (lv_at hl 3 rfl) (lv_at hl 0 rfl) dL_law_183 dL_law_184 dL_law_185 rfl dL_law_186 dL_law_187 ?_
  refine k_vi C hw 43 (by omega) q43 rfl (c_X9_slack (by omega) q43) kv_L_22 rfl hl.1 ⟨Nat.le_of_ble_eq_true rfl, Nat.le_of_ble_eq_true rfl⟩ (Nat.le_of_ble_eq_true rfl) (slN_room2 (by omega) 0 0 (by omega) (by omega)) dL_law_188 (fun r2 M2 n2 H2 locs2 hp2 hw2 => ?_)
  clear hw
  dsimp only at hp2
  suffices hfin : r1 = r2 ∧ n2 = n1 ∧ iInv cI cJ cZ cH cR s.heap.size n1 M2 (cc + 1) from ?_
  · obtain ⟨er, en, I2⟩ := hfin
    subst en
    refine lv_icmp_eq (tgt := 753) C.1 C.2.1 dL_law_191 (by decide) (fun _ => ?_) (fun z => absurd er z)
    exact K _ _ _ _ hw2 I2
  obtain ⟨en2, hp2⟩ := hp2
  rcases mg2 (fun x y => x y) hp1 hp2 with ⟨cd, ⟨e1, m1⟩, e2, m2⟩ | ⟨cd, ⟨e1, f1, g0⟩, e2, f2, g43⟩
  · exact ⟨e1.trans e2.symm, en2, by rw [m2, m1]; exact iInv_next I0⟩
  · obtain ⟨k, -, hk, ek, -⟩ := rngI (lo := 0) (hi := 100) (by decide) (by decide) cd.1 (i32nlt cd.2)
    have hFF := kF_app f1 f2
    rw [ek] at g0 g43
    refine ⟨e1.trans e2.symm, en2, ⟨mm, k, G, mo, ta, sc, mv, rs, ca, ts, tr, os, lx, lz, lg, hc, w, ⟨(f2 0 (by decide)).trans g0, (hFF 1 (by decide)).trans h1, (hFF 6 (by decide)).trans h6, (hFF 9 (by decide)).trans h9, (hFF 22 (by decide)).trans h22, (hFF 23 (by decide)).trans h23, (hFF 26 (by decide)).trans h26, (hFF 30 (by decide)).trans h30, (hFF 33 (by decide)).trans h33, (hFF 37 (by decide)).trans h37, g43⟩, iOw_fr hOw (kF_on hFF _ (by decide)), iMv_fr hMv (kF_on hFF _ (by decide)), iPl_fr hPl (kF_on hFF _ (by decide)), iSt_fr hSt (kF_on hFF _ (by decide)), iRw_fr hRw (kF_on hFF _ (by decide)), iOu_fr hOu (kF_on hFF _ (by decide)), iTm_fr hTm (kF_on hFF _ (by decide)), iLg_fr hLg (kF_on hFF _ (by decide)), iMk_fr hMk hFF (by decide), by unfold iNu; omega⟩⟩
set_option maxHeartbeats 4000000 in
set_option maxRecDepth 100000 in
theorem lw_shape (X : lwC p s m c D cI cJ cZ cH cR a L xs i cc ls) (hw : kW D s.heap.size M n s.heap H locs) (I : iInv cI cJ cZ cH cR s.heap.size n M cc) (K : lwK p l e s m below meth c Q ls D cI cJ cZ cH cR a cc)  : W p l e room_1 s m #[Value.ref a] below meth c H locs n (slN n) Q (F0 m 140 ls []) := by
  have I0 := I
  obtain ⟨C, hX, hbl, hL, hi, hcc, hl⟩ := X
  obtain ⟨mm, s_, G, mo, ta, sc, mv, rs, ca, ts, tr, os, lx, lz, lg, hc, w, hOb, hOw, hMv, hPl, hSt, hRw, hOu, hTm, hLg, hMk, hNu⟩ := I
  obtain ⟨hG0, hG, hmo, hta0, hta, hs_, hsum, hos, hlg, hc3, hmh, hn⟩ := id hNu
  obtain ⟨h0, h1, h6, h9, h22, h23, h26, h30, h33, h37, h43⟩ := id hOb
  obtain ⟨ow, ep, we, mow, mep, mwe, h2, h3, h4, h44, h45, h46, how⟩ := id hOw
  obtain ⟨rn, rk, rv, mrk, mrv, mwa, h27, h28, h29, h48, h49, h50, hrr⟩ := id hRw
  obtain ⟨tk, tt, mtk, mtt, h31, h32, h56, h57, htm⟩ := id hTm
  refine lv_aload_n C.1 C.2.1 dL_law_140 rfl (lv_at hl 2 rfl) ?_
  refine lw_ld (k0 := 0) (k3 := 3) (i := i) C hX hbl hw 1 (by omega) hL (lv_at hl 3 rfl) (lv_at hl 0 rfl) dL_law_141 dL_law_142 dL_law_143 rfl dL_law_144 dL_law_145 ?_
  refine lw_ld (k0 := 0) (k3 := 3) (i := i) C hX hbl hw 2 (by omega) hL (lv_at hl 3 rfl) (lv_at hl 0 rfl) dL_law_146 dL_law_147 dL_law_148 rfl dL_law_149 dL_law_150 ?_
  refine k_vi C hw 0 (by omega) h0 rfl (c_X8_shape (by omega) h0 h1 h2 h3 h4 h22 h26 h30 hrr.1 htm.1 (by omega)) kv_L_13 rfl hl.1 ⟨Nat.le_of_ble_eq_true rfl, Nat.le_of_ble_eq_true rfl⟩ (Nat.le_of_ble_eq_true rfl) (slN_room (by omega) 0 0 (by omega) (by omega)) dL_law_151 (fun r1 M1 n1 H1 locs1 hp1 hw1 => ?_)
  clear hw
  dsimp only at hp1
  obtain ⟨en1, hp1⟩ := hp1
  subst en1
  have hF1 : kF [1, 2, 3, 4] M M1 := by
    rcases hp1 with ⟨-, -, e9⟩ | ⟨-, -, e9⟩ | ⟨-, -, hf9, -⟩
    · exact kF_of e9
    · exact kF_of e9
    · exact hf9
  have q43 := (hF1 43 (by decide)).trans h43
  have q44 := (hF1 44 (by decide)).trans h44
  have q45 := (hF1 45 (by decide)).trans h45
  have q46 := (hF1 46 (by decide)).trans h46
  have hw := hw1
  refine lv_aload_n C.1 C.2.1 dL_law_154 rfl (lv_at hl 1 rfl) ?_
  refine lw_ld (k0 := 0) (k3 := 3) (i := i) C hX hbl hw 1 (by omega) hL (lv_at hl 3 rfl) (lv_at hl 0 rfl) dL_law_155 dL_law_156 dL_law_157 rfl dL_law_158 dL_law_159 ?_
  refine lw_ld (k0 := 0) (k3 := 3) (i := i) C hX hbl hw 2 (by omega) hL (lv_at hl 3 rfl) (lv_at hl 0 rfl) dL_law_160 dL_law_161 dL_law_162 rfl dL_law_163 dL_law_164 ?_
  refine k_vi C hw 43 (by omega) q43 rfl (c_X9_shape (by omega) q43 q44 q45 q46 hrr.1 htm.1 (by omega)) kv_L_17 rfl hl.1 ⟨Nat.le_of_ble_eq_true rfl, Nat.le_of_ble_eq_true rfl⟩ (Nat.le_of_ble_eq_true rfl) (slN_room2 (by omega) 0 0 (by omega) (by omega)) dL_law_165 (fun r2 M2 n2 H2 locs2 hp2 hw2 => ?_)
  clear hw
  dsimp only at hp2
  suffices hfin : r1 = r2 ∧ n2 = n1 ∧ iInv cI cJ cZ cH cR s.heap.size n1 M2 (cc + 1) from ?_
  · obtain ⟨er, en, I2⟩ := hfin
    subst en
    refine lv_icmp_eq (tgt := 753) C.1 C.2.1 dL_law_168 (by decide) (fun _ => ?_) (fun z => absurd er z)
    exact K _ _ _ _ hw2 I2
  obtain ⟨en2, hp2⟩ := hp2
  rcases mg3 (fun x y => x y.1) (fun x y => x y.1) (fun x y => x.2 y.2) hp1 hp2 with ⟨cd, ⟨e1, m1⟩, e2, m2⟩ | ⟨cd, ⟨e1, m1⟩, e2, m2⟩ | ⟨cd, ⟨e1, f1, g1, g2, g3, g4⟩, e2, f2, g43, g44, g45, g46⟩
  · exact ⟨e1.trans e2.symm, en2, by rw [m2, m1]; exact iInv_next I0⟩
  · exact ⟨e1.trans e2.symm, en2, by rw [m2, m1]; exact iInv_next I0⟩
  · obtain ⟨k, hk1, hk2, ek, -⟩ := rngI (lo := 2) (hi := 32) (by decide) (by decide) cd.1.1 (i32nlt cd.1.2.1)
    obtain ⟨k2, hk3, hk4, ek2, -⟩ := rngI (lo := 1) (hi := 12) (by decide) (by decide) cd.1.2.2.1 cd.1.2.2.2.1
    have hFF := kF_app f1 f2
    rw [ek, ek2] at g1 g43
    have hz := sN_zero k
    refine ⟨e1.trans e2.symm, en2, ⟨mm, s_, k, k2, 1, sc, mv, rs, ca, ts, tr, os, lx, lz, lg, hc, (fun _ => 0), ⟨(hFF 0 (by decide)).trans h0, (f2 1 (by decide)).trans g1, (hFF 6 (by decide)).trans h6, (hFF 9 (by decide)).trans h9, (hFF 22 (by decide)).trans h22, (hFF 23 (by decide)).trans h23, (hFF 26 (by decide)).trans h26, (hFF 30 (by decide)).trans h30, (hFF 33 (by decide)).trans h33, (hFF 37 (by decide)).trans h37, g43⟩, ⟨_, _, _, _, _, _, (f2 2 (by decide)).trans g2, (f2 3 (by decide)).trans g3, (f2 4 (by decide)).trans g4, g44, g45, g46, fun _ _ => ⟨rfl, rfl, rfl, rfl⟩⟩, iMv_fr hMv (kF_on hFF _ (by decide)), iPl_fr hPl (kF_on hFF _ (by decide)), iSt_fr hSt (kF_on hFF _ (by decide)), iRw_fr hRw (kF_on hFF _ (by decide)), iOu_fr hOu (kF_on hFF _ (by decide)), iTm_fr hTm (kF_on hFF _ (by decide)), iLg_fr hLg (kF_on hFF _ (by decide)), iMk_fr hMk hFF (by decide), by unfold iNu; omega⟩⟩
set_option maxHeartbeats 4000000 in
set_option maxRecDepth 100000 in
theorem lw_row (X : lwC p s m c D cI cJ cZ cH cR a L xs i cc ls) (hw : kW D s.heap.size M n s.heap H locs) (I : iInv cI cJ cZ cH cR s.heap.size n M cc) (K : lwK p l e s m below meth c Q ls D cI cJ cZ cH cR a cc)  : W p l e room_1 s m #[Value.ref a] below meth c H locs n (slN n) Q (F0 m 219 ls []) := by
  have I0 := I
  obtain ⟨C, hX, hbl, hL, hi, hcc, hl⟩ := X
  obtain ⟨mm, s_, G, mo, ta, sc, mv, rs, ca, ts, tr, os, lx, lz, lg, hc, w, hOb, hOw, hMv, hPl, hSt, hRw, hOu, hTm, hLg, hMk, hNu⟩ := I
  obtain ⟨hG0, hG, hmo, hta0, hta, hs_, hsum, hos, hlg, hc3, hmh, hn⟩ := id hNu
  obtain ⟨h0, h1, h6, h9, h22, h23, h26, h30, h33, h37, h43⟩ := id hOb
  obtain ⟨ow, ep, we, mow, mep, mwe, h2, h3, h4, h44, h45, h46, how⟩ := id hOw
  obtain ⟨rn, rk, rv, mrk, mrv, mwa, h27, h28, h29, h48, h49, h50, hrr⟩ := id hRw
  refine lv_aload_n C.1 C.2.1 dL_law_219 rfl (lv_at hl 2 rfl) ?_
  refine lw_ld (k0 := 0) (k3 := 3) (i := i) C hX hbl hw 1 (by omega) hL (lv_at hl 3 rfl) (lv_at hl 0 rfl) dL_law_220 dL_law_221 dL_law_222 rfl dL_law_223 dL_law_224 ?_
  refine lw_ld (k0 := 0) (k3 := 3) (i := i) C hX hbl hw 2 (by omega) hL (lv_at hl 3 rfl) (lv_at hl 0 rfl) dL_law_225 dL_law_226 dL_law_227 rfl dL_law_228 dL_law_229 ?_
  refine k_vi C hw 0 (by omega) h0 rfl (c_X8_row (by omega) h0 h1 h2 h4 h22 h26 h27 h28 h29 hG0 hG (RR_le hrr) hrr.1) kv_L_27 rfl hl.1 ⟨Nat.le_of_ble_eq_true rfl, Nat.le_of_ble_eq_true rfl⟩ (Nat.le_of_ble_eq_true rfl) (slN_room (by omega) 0 0 (by omega) (by omega)) dL_law_230 (fun r1 M1 n1 H1 locs1 hp1 hw1 => ?_)
  clear hw
  dsimp only at hp1
  obtain ⟨en1, hp1⟩ := hp1
  subst en1
  have hF1 : kF [4, 26, 27, 28, 29] M M1 := by
    rcases hp1 with ⟨-, -, e9⟩ | ⟨-, -, e9⟩ | ⟨-, -, e9⟩ | ⟨-, -, hf9, -⟩
    · exact kF_of e9
    · exact kF_of e9
    · exact kF_of e9
    · exact hf9
  have q43 := (hF1 43 (by decide)).trans h43
  have q44 := (hF1 44 (by decide)).trans h44
  have q46 := (hF1 46 (by decide)).trans h46
  have q48 := (hF1 48 (by decide)).trans h48
  have q49 := (hF1 49 (by decide)).trans h49
  have q50 := (hF1 50 (by decide)).trans h50
  have hw := hw1
  refine lv_aload_n C.1 C.2.1 dL_law_233 rfl (lv_at hl 1 rfl) ?_
  refine lw_ld (k0 := 0) (k3 := 3) (i := i) C hX hbl hw 1 (by omega) hL (lv_at hl 3 rfl) (lv_at hl 0 rfl) dL_law_234 dL_law_235 dL_law_236 rfl dL_law_237 dL_law_238 ?_
  refine lw_ld (k0 := 0) (k3 := 3) (i := i) C hX hbl hw 2 (by omega) hL (lv_at hl 3 rfl) (lv_at hl 0 rfl) dL_law_239 dL_law_240 dL_law_241 rfl dL_law_242 dL_law_243 ?_
  refine k_vi C hw 43 (by omega) q43 rfl (c_X9_row (by omega) q43 q44 q46 q48 q49 q50 hG0 hG hrr.1) kv_L_30 rfl hl.1 ⟨Nat.le_of_ble_eq_true rfl, Nat.le_of_ble_eq_true rfl⟩ (Nat.le_of_ble_eq_true rfl) (slN_room2 (by omega) 0 0 (by omega) (by omega)) dL_law_244 (fun r2 M2 n2 H2 locs2 hp2 hw2 => ?_)
  clear hw
  dsimp only at hp2
  suffices hfin : r1 = r2 ∧ n2 = n1 ∧ iInv cI cJ cZ cH cR s.heap.size n1 M2 (cc + 1) from ?_
  · obtain ⟨er, en, I2⟩ := hfin
    subst en
    refine lv_icmp_eq (tgt := 753) C.1 C.2.1 dL_law_247 (by decide) (fun _ => ?_) (fun z => absurd er z)
    exact K _ _ _ _ hw2 I2
  obtain ⟨en2, hp2⟩ := hp2
  rcases mg4 (fun x y => y.elim (fun z => x z.1) (fun y => y.elim (fun z => x z.1) (fun z => x z.1))) (fun x y => y.elim (fun z => x.2 z.2.1) (fun z => x.2 z.2.1)) (fun x y => x.2.2 y.2.2) hp1 hp2 with ⟨cd, ⟨e1, m1⟩, e2, m2⟩ | ⟨cd, ⟨e1, m1⟩, e2, m2⟩ | ⟨cd, ⟨e1, m1⟩, e2, m2⟩ | ⟨cd, ⟨e1, f1, g4, g26, g27, g28, g29⟩, e2, f2, g43, g46, g48, g49, g50⟩
  · exact ⟨e1.trans e2.symm, en2, by rw [m2, m1]; exact iInv_next I0⟩
  · exact ⟨e1.trans e2.symm, en2, by rw [m2, m1]; exact iInv_next I0⟩
  · exact ⟨e1.trans e2.symm, en2, by rw [m2, m1]; exact iInv_next I0⟩
  · obtain ⟨k, hk, ek, -⟩ := isK_nI cd.1
    have hFF := kF_app f1 f2
    have hgl := gof_lt hG0 (xs (i + 1))
    generalize gof G (xs (i + 1)) = γ at e1 g4 e2 g46 hgl
    have hO : ∀ x, x < G → ow x = mow x ∧ ep x = mep x ∧ upd we γ (we γ + nI 1) x = upd mwe γ (mwe γ + nI 1) x ∧ upd we γ (we γ + nI 1) x = nI ((fun x => if x = γ then w x + 1 else w x) x) := by
      intro x hx
      refine ⟨(how x hx).1, (how x hx).2.1, ?_⟩
      by_cases z : x = γ
      · rw [z, upd_at, upd_at, (how γ hgl).2.2.1.symm]
        refine ⟨rfl, ?_⟩
        show _ = nI (if γ = γ then w γ + 1 else w γ)
        rw [if_pos rfl, (how γ hgl).2.2.2, nI_add]
      · rw [upd_ne z, upd_ne z]
        refine ⟨(how x hx).2.2.1, ?_⟩
        show _ = nI (if x = γ then w x + 1 else w x)
        rw [if_neg z]
        exact (how x hx).2.2.2
    have hz := (sN_inc w γ G).1
    have hca9 := cd.2.2
    refine ⟨e1.trans ((how γ hgl).1.trans e2.symm), en2, ⟨mm, s_, G, mo, ta, sc, mv, rs + 1, ca + 1, ts, tr, os, lx, lz, lg, hc, (fun x => if x = γ then w x + 1 else w x), ⟨(hFF 0 (by decide)).trans h0, (hFF 1 (by decide)).trans h1, (hFF 6 (by decide)).trans h6, (hFF 9 (by decide)).trans h9, (hFF 22 (by decide)).trans h22, (hFF 23 (by decide)).trans h23, (f2 26 (by decide)).trans g26, (hFF 30 (by decide)).trans h30, (hFF 33 (by decide)).trans h33, (hFF 37 (by decide)).trans h37, g43⟩, ⟨_, _, _, _, _, _, (hFF 2 (by decide)).trans h2, (hFF 3 (by decide)).trans h3, (f2 4 (by decide)).trans g4, (hFF 44 (by decide)).trans h44, (hFF 45 (by decide)).trans h45, g46, hO⟩, iMv_fr hMv (kF_on hFF _ (by decide)), iPl_fr hPl (kF_on hFF _ (by decide)), iSt_fr hSt (kF_on hFF _ (by decide)), ⟨_, _, _, _, _, _, (f2 27 (by decide)).trans g27, (f2 28 (by decide)).trans g28, (f2 29 (by decide)).trans g29, g48, g49, g50, RR_new hrr cd.2.2 ⟨k, hk, ek⟩⟩, iOu_fr hOu (kF_on hFF _ (by decide)), iTm_fr hTm (kF_on hFF _ (by decide)), iLg_fr hLg (kF_on hFF _ (by decide)), iMk_fr hMk hFF (by decide), by unfold iNu; omega⟩⟩
set_option maxHeartbeats 4000000 in
set_option maxRecDepth 100000 in
theorem lw_add (X : lwC p s m c D cI cJ cZ cH cR a L xs i cc ls) (hw : kW D s.heap.size M n s.heap H locs) (I : iInv cI cJ cZ cH cR s.heap.size n M cc) (K : lwK p l e s m below meth c Q ls D cI cJ cZ cH cR a cc)  : W p l e room_1 s m #[Value.ref a] below meth c H locs n (slN n) Q (F0 m 275 ls []) := by
  have I0 := I
  obtain ⟨C, hX, hbl, hL, hi, hcc, hl⟩ := X
  obtain ⟨mm, s_, G, mo, ta, sc, mv, rs, ca, ts, tr, os, lx, lz, lg, hc, w, hOb, hOw, hMv, hPl, hSt, hRw, hOu, hTm, hLg, hMk, hNu⟩ := I
  obtain ⟨hG0, hG, hmo, hta0, hta, hs_, hsum, hos, hlg, hc3, hmh, hn⟩ := id hNu
  obtain ⟨h0, h1, h6, h9, h22, h23, h26, h30, h33, h37, h43⟩ := id hOb
  obtain ⟨ow, ep, we, mow, mep, mwe, h2, h3, h4, h44, h45, h46, how⟩ := id hOw
  obtain ⟨ct, su, mct, msu, h24, h25, h51, h52, hst_⟩ := id hSt
  refine lv_aload_n C.1 C.2.1 dL_law_275 rfl (lv_at hl 2 rfl) ?_
  refine lw_ld (k0 := 0) (k3 := 3) (i := i) C hX hbl hw 1 (by omega) hL (lv_at hl 3 rfl) (lv_at hl 0 rfl) dL_law_276 dL_law_277 dL_law_278 rfl dL_law_279 dL_law_280 ?_
  refine lw_ld (k0 := 0) (k3 := 3) (i := i) C hX hbl hw 2 (by omega) hL (lv_at hl 3 rfl) (lv_at hl 0 rfl) dL_law_281 dL_law_282 dL_law_283 rfl dL_law_284 dL_law_285 ?_
  refine lw_ld (k0 := 0) (k3 := 3) (i := i) C hX hbl hw 3 (by omega) hL (lv_at hl 3 rfl) (lv_at hl 0 rfl) dL_law_286 dL_law_287 dL_law_288 rfl dL_law_289 dL_law_290 ?_
  refine k_vi C hw 0 (by omega) h0 rfl (c_X8_add (by omega) h0 h1 h3 h22 h23 h25 hG0 hG) kv_L_35 rfl hl.1 ⟨Nat.le_of_ble_eq_true rfl, Nat.le_of_ble_eq_true rfl⟩ (Nat.le_of_ble_eq_true rfl) (slN_room (by omega) 0 0 (by omega) (by omega)) dL_law_291 (fun r1 M1 n1 H1 locs1 hp1 hw1 => ?_)
  clear hw
  dsimp only at hp1
  obtain ⟨en1, hp1⟩ := hp1
  subst en1
  have hF1 : kF [25] M M1 := by
    rcases hp1 with ⟨-, -, e9⟩ | ⟨-, -, e9⟩ | ⟨-, -, e9⟩ | ⟨-, -, hf9, -⟩
    · exact kF_of e9
    · exact kF_of e9
    · exact kF_of e9
    · exact hf9
  have q43 := (hF1 43 (by decide)).trans h43
  have q45 := (hF1 45 (by decide)).trans h45
  have q52 := (hF1 52 (by decide)).trans h52
  have hw := hw1
  refine lv_aload_n C.1 C.2.1 dL_law_294 rfl (lv_at hl 1 rfl) ?_
  refine lw_ld (k0 := 0) (k3 := 3) (i := i) C hX hbl hw 1 (by omega) hL (lv_at hl 3 rfl) (lv_at hl 0 rfl) dL_law_295 dL_law_296 dL_law_297 rfl dL_law_298 dL_law_299 ?_
  refine lw_ld (k0 := 0) (k3 := 3) (i := i) C hX hbl hw 2 (by omega) hL (lv_at hl 3 rfl) (lv_at hl 0 rfl) dL_law_300 dL_law_301 dL_law_302 rfl dL_law_303 dL_law_304 ?_
  refine lw_ld (k0 := 0) (k3 := 3) (i := i) C hX hbl hw 3 (by omega) hL (lv_at hl 3 rfl) (lv_at hl 0 rfl) dL_law_305 dL_law_306 dL_law_307 rfl dL_law_308 dL_law_309 ?_
  refine k_vi C hw 43 (by omega) q43 rfl (c_X9_add (by omega) q43 q45 q52 hG0 hG) kv_L_39 rfl hl.1 ⟨Nat.le_of_ble_eq_true rfl, Nat.le_of_ble_eq_true rfl⟩ (Nat.le_of_ble_eq_true rfl) (slN_room2 (by omega) 0 0 (by omega) (by omega)) dL_law_310 (fun r2 M2 n2 H2 locs2 hp2 hw2 => ?_)
  clear hw
  dsimp only at hp2
  suffices hfin : r1 = r2 ∧ n2 = n1 ∧ iInv cI cJ cZ cH cR s.heap.size n1 M2 (cc + 1) from ?_
  · obtain ⟨er, en, I2⟩ := hfin
    subst en
    refine lv_icmp_eq (tgt := 753) C.1 C.2.1 dL_law_313 (by decide) (fun _ => ?_) (fun z => absurd er z)
    exact K _ _ _ _ hw2 I2
  rw [← (how (gof G (xs (i + 1))) (gof_lt hG0 _)).2.1] at hp2
  obtain ⟨en2, hp2⟩ := hp2
  rcases mg4 (fun x y => y.elim (fun z => x z.1) (fun y => y.elim (fun z => x z.1) (fun z => x z.1))) (fun x y => y.elim (fun z => x.2 z.2.1) (fun z => x.2 z.2.1)) (fun x y => x.2.2 y.2.2) hp1 hp2 with ⟨cd, ⟨e1, m1⟩, e2, m2⟩ | ⟨cd, ⟨e1, m1⟩, e2, m2⟩ | ⟨cd, ⟨e1, m1⟩, e2, m2⟩ | ⟨cd, ⟨e1, f1, g25⟩, e2, f2, g52⟩
  · exact ⟨e1.trans e2.symm, en2, by rw [m2, m1]; exact iInv_next I0⟩
  · exact ⟨e1.trans e2.symm, en2, by rw [m2, m1]; exact iInv_next I0⟩
  · exact ⟨e1.trans e2.symm, en2, by rw [m2, m1]; exact iInv_next I0⟩
  · obtain ⟨k, hk, ek, ek2⟩ := isK_nI cd.1
    have hFF := kF_app f1 f2
    rw [ek2] at g25 g52
    rw [← (hst_ k hk).2] at g52
    refine ⟨e1.trans e2.symm, en2, ⟨mm, s_, G, mo, ta, sc, mv, rs, ca, ts, tr, os, lx, lz, lg, hc, w, ⟨(hFF 0 (by decide)).trans h0, (hFF 1 (by decide)).trans h1, (hFF 6 (by decide)).trans h6, (hFF 9 (by decide)).trans h9, (hFF 22 (by decide)).trans h22, (hFF 23 (by decide)).trans h23, (hFF 26 (by decide)).trans h26, (hFF 30 (by decide)).trans h30, (hFF 33 (by decide)).trans h33, (hFF 37 (by decide)).trans h37, (hFF 43 (by decide)).trans h43⟩, iOw_fr hOw (kF_on hFF _ (by decide)), iMv_fr hMv (kF_on hFF _ (by decide)), iPl_fr hPl (kF_on hFF _ (by decide)), ⟨_, _, _, _, (hFF 24 (by decide)).trans h24, (f2 25 (by decide)).trans g25, (hFF 51 (by decide)).trans h51, g52, RS_updL hst_ _⟩, iRw_fr hRw (kF_on hFF _ (by decide)), iOu_fr hOu (kF_on hFF _ (by decide)), iTm_fr hTm (kF_on hFF _ (by decide)), iLg_fr hLg (kF_on hFF _ (by decide)), iMk_fr hMk hFF (by decide), by unfold iNu; omega⟩⟩
set_option maxHeartbeats 4000000 in
set_option maxRecDepth 100000 in
theorem lw_timer (X : lwC p s m c D cI cJ cZ cH cR a L xs i cc ls) (hw : kW D s.heap.size M n s.heap H locs) (I : iInv cI cJ cZ cH cR s.heap.size n M cc) (K : lwK p l e s m below meth c Q ls D cI cJ cZ cH cR a cc)  : W p l e room_1 s m #[Value.ref a] below meth c H locs n (slN n) Q (F0 m 534 ls []) := by
  have I0 := I
  obtain ⟨C, hX, hbl, hL, hi, hcc, hl⟩ := X
  obtain ⟨mm, s_, G, mo, ta, sc, mv, rs, ca, ts, tr, os, lx, lz, lg, hc, w, hOb, hOw, hMv, hPl, hSt, hRw, hOu, hTm, hLg, hMk, hNu⟩ := I
  obtain ⟨hG0, hG, hmo, hta0, hta, hs_, hsum, hos, hlg, hc3, hmh, hn⟩ := id hNu
  obtain ⟨h0, h1, h6, h9, h22, h23, h26, h30, h33, h37, h43⟩ := id hOb
  obtain ⟨tk, tt, mtk, mtt, h31, h32, h56, h57, htm⟩ := id hTm
  refine lv_aload_n C.1 C.2.1 dL_law_534 rfl (lv_at hl 2 rfl) ?_
  refine lw_ld (k0 := 0) (k3 := 3) (i := i) C hX hbl hw 1 (by omega) hL (lv_at hl 3 rfl) (lv_at hl 0 rfl) dL_law_535 dL_law_536 dL_law_537 rfl dL_law_538 dL_law_539 ?_
  refine lw_ld (k0 := 0) (k3 := 3) (i := i) C hX hbl hw 2 (by omega) hL (lv_at hl 3 rfl) (lv_at hl 0 rfl) dL_law_540 dL_law_541 dL_law_542 rfl dL_law_543 dL_law_544 ?_
  refine k_vi C hw 0 (by omega) h0 rfl (c_X8_timer (by omega) h0 h22 h30 h31 h32 htm.1) kv_L_73 rfl hl.1 ⟨Nat.le_of_ble_eq_true rfl, Nat.le_of_ble_eq_true rfl⟩ (Nat.le_of_ble_eq_true rfl) (slN_room (by omega) 0 0 (by omega) (by omega)) dL_law_545 (fun r1 M1 n1 H1 locs1 hp1 hw1 => ?_)
  clear hw
  dsimp only at hp1
  obtain ⟨en1, hp1⟩ := hp1
  subst en1
  have hF1 : kF [30, 31, 32] M M1 := by
    rcases hp1 with ⟨-, -, e9⟩ | ⟨-, -, e9⟩ | ⟨-, -, e9⟩ | ⟨-, -, hf9, -⟩
    · exact kF_of e9
    · exact kF_of e9
    · exact kF_of e9
    · exact hf9
  have q43 := (hF1 43 (by decide)).trans h43
  have q56 := (hF1 56 (by decide)).trans h56
  have q57 := (hF1 57 (by decide)).trans h57
  have hw := hw1
  refine lv_aload_n C.1 C.2.1 dL_law_548 rfl (lv_at hl 1 rfl) ?_
  refine lw_ld (k0 := 0) (k3 := 3) (i := i) C hX hbl hw 1 (by omega) hL (lv_at hl 3 rfl) (lv_at hl 0 rfl) dL_law_549 dL_law_550 dL_law_551 rfl dL_law_552 dL_law_553 ?_
  refine lw_ld (k0 := 0) (k3 := 3) (i := i) C hX hbl hw 2 (by omega) hL (lv_at hl 3 rfl) (lv_at hl 0 rfl) dL_law_554 dL_law_555 dL_law_556 rfl dL_law_557 dL_law_558 ?_
  refine k_vi C hw 43 (by omega) q43 rfl (c_X9_timer (by omega) q43 q56 q57 htm.1) kv_L_76 rfl hl.1 ⟨Nat.le_of_ble_eq_true rfl, Nat.le_of_ble_eq_true rfl⟩ (Nat.le_of_ble_eq_true rfl) (slN_room2 (by omega) 0 0 (by omega) (by omega)) dL_law_559 (fun r2 M2 n2 H2 locs2 hp2 hw2 => ?_)
  clear hw
  dsimp only at hp2
  suffices hfin : r1 = r2 ∧ n2 = n1 ∧ iInv cI cJ cZ cH cR s.heap.size n1 M2 (cc + 1) from ?_
  · obtain ⟨er, en, I2⟩ := hfin
    subst en
    refine lv_icmp_eq (tgt := 753) C.1 C.2.1 dL_law_562 (by decide) (fun _ => ?_) (fun z => absurd er z)
    exact K _ _ _ _ hw2 I2
  obtain ⟨en2, hp2⟩ := hp2
  rcases mg4 (fun x y => y.elim (fun z => x z.1) (fun y => y.elim (fun z => x z.1) (fun z => x z.1))) (fun x y => y.elim (fun z => x.2 z.2.1) (fun z => x.2 z.2.1)) (fun x y => x.2.2 y.2.2) hp1 hp2 with ⟨cd, ⟨e1, m1⟩, e2, m2⟩ | ⟨cd, ⟨e1, m1⟩, e2, m2⟩ | ⟨cd, ⟨e1, m1⟩, e2, m2⟩ | ⟨cd, ⟨e1, f1, g30, g31, g32⟩, e2, f2, g43, g56, g57⟩
  · exact ⟨e1.trans e2.symm, en2, by rw [m2, m1]; exact iInv_next I0⟩
  · exact ⟨e1.trans e2.symm, en2, by rw [m2, m1]; exact iInv_next I0⟩
  · exact ⟨e1.trans e2.symm, en2, by rw [m2, m1]; exact iInv_next I0⟩
  · obtain ⟨k, hk, ek, -⟩ := isK_nI cd.1
    have hFF := kF_app f1 f2
    refine ⟨e1.trans e2.symm, en2, ⟨mm, s_, G, mo, ta, sc, mv, rs, ca, ts + 1, tr, os, lx, lz, lg, hc, w, ⟨(hFF 0 (by decide)).trans h0, (hFF 1 (by decide)).trans h1, (hFF 6 (by decide)).trans h6, (hFF 9 (by decide)).trans h9, (hFF 22 (by decide)).trans h22, (hFF 23 (by decide)).trans h23, (hFF 26 (by decide)).trans h26, (f2 30 (by decide)).trans g30, (hFF 33 (by decide)).trans h33, (hFF 37 (by decide)).trans h37, g43⟩, iOw_fr hOw (kF_on hFF _ (by decide)), iMv_fr hMv (kF_on hFF _ (by decide)), iPl_fr hPl (kF_on hFF _ (by decide)), iSt_fr hSt (kF_on hFF _ (by decide)), iRw_fr hRw (kF_on hFF _ (by decide)), iOu_fr hOu (kF_on hFF _ (by decide)), ⟨_, _, _, _, (f2 31 (by decide)).trans g31, (f2 32 (by decide)).trans g32, g56, g57, RT_new htm cd.2.2 ⟨k, hk, ek⟩ rfl⟩, iLg_fr hLg (kF_on hFF _ (by decide)), iMk_fr hMk hFF (by decide), by unfold iNu; omega⟩⟩
set_option maxHeartbeats 4000000 in
set_option maxRecDepth 100000 in
theorem lw_step (X : lwC p s m c D cI cJ cZ cH cR a L xs i cc ls) (hw : kW D s.heap.size M n s.heap H locs) (I : iInv cI cJ cZ cH cR s.heap.size n M cc) (K : lwK p l e s m below meth c Q ls D cI cJ cZ cH cR a cc)  : W p l e room_1 s m #[Value.ref a] below meth c H locs n (slN n) Q (F0 m 252 ls []) := by
  have I0 := I
  obtain ⟨C, hX, hbl, hL, hi, hcc, hl⟩ := X
  obtain ⟨mm, s_, G, mo, ta, sc, mv, rs, ca, ts, tr, os, lx, lz, lg, hc, w, hOb, hOw, hMv, hPl, hSt, hRw, hOu, hTm, hLg, hMk, hNu⟩ := I
  obtain ⟨hG0, hG, hmo, hta0, hta, hs_, hsum, hos, hlg, hc3, hmh, hn⟩ := id hNu
  obtain ⟨h0, h1, h6, h9, h22, h23, h26, h30, h33, h37, h43⟩ := id hOb
  obtain ⟨ow, ep, we, mow, mep, mwe, h2, h3, h4, h44, h45, h46, how⟩ := id hOw
  obtain ⟨ct, su, mct, msu, h24, h25, h51, h52, hst_⟩ := id hSt
  obtain ⟨rn, rk, rv, mrk, mrv, mwa, h27, h28, h29, h48, h49, h50, hrr⟩ := id hRw
  obtain ⟨on_, ok_, oz, mon, mok, moz, h34, h35, h36, h53, h54, h55, hou⟩ := id hOu
  have hca9 := hrr.1
  obtain ⟨P, hP⟩ : ∃ P : Int32 → Bool, P = fun y => ow (gof G y) == xs (i + 1) := ⟨_, rfl⟩
  have z0 : lnP G ow rk (xs (i + 1)) = fun j => P (rk j) := by rw [hP]
  have y0 : wtP G mow mrk mwa (xs (i + 1)) = fun q => mvz mwa q && P (mrk q) := by
    rw [hP]
    funext q
    show (mvz mwa q && (mow (gof G (mrk q)) == xs (i + 1))) = (mvz mwa q && (ow (gof G (mrk q)) == xs (i + 1)))
    rw [(how _ (gof_lt hG0 (mrk q))).1]
  have hRF := RR_fst hrr P
  have hos9 : fst (wtP G mow mrk mwa (xs (i + 1))) ca < ca → os < 400 := by
    rw [y0]; intro z
    rcases hRF with ⟨-, y2, -⟩ | ⟨y1, -⟩
    · omega
    · exact absurd z y1
  refine lv_aload_n C.1 C.2.1 dL_law_252 rfl (lv_at hl 2 rfl) ?_
  refine lw_ld (k0 := 0) (k3 := 3) (i := i) C hX hbl hw 1 (by omega) hL (lv_at hl 3 rfl) (lv_at hl 0 rfl) dL_law_253 dL_law_254 dL_law_255 rfl dL_law_256 dL_law_257 ?_
  refine k_vi C hw 0 (by omega) h0 rfl (c_X8_step (by omega) h0 h1 h2 h22 h23 h24 h25 h26 h27 h28 h29 h33 h34 h35 h36 hG0 hG (by have := RR_le hrr; omega) (by omega) (RR_keys hrr)) kv_L_31 rfl hl.1 ⟨Nat.le_of_ble_eq_true rfl, Nat.le_of_ble_eq_true rfl⟩ (Nat.le_of_ble_eq_true rfl) (slN_room (by omega) 0 0 (by omega) (by omega)) dL_law_258 (fun r1 M1 n1 H1 locs1 hp1 hw1 => ?_)
  clear hw
  dsimp only at hp1
  obtain ⟨en1, hp1⟩ := hp1
  subst en1
  have hF1 : kF [24, 25, 26, 27, 28, 29, 33, 34, 35, 36] M M1 := by
    rcases hp1 with ⟨-, -, e9⟩ | ⟨-, -, e9⟩ | ⟨-, -, hf9, -⟩
    · exact kF_of e9
    · exact kF_of e9
    · exact hf9
  have q43 := (hF1 43 (by decide)).trans h43
  have q44 := (hF1 44 (by decide)).trans h44
  have q48 := (hF1 48 (by decide)).trans h48
  have q49 := (hF1 49 (by decide)).trans h49
  have q50 := (hF1 50 (by decide)).trans h50
  have q51 := (hF1 51 (by decide)).trans h51
  have q52 := (hF1 52 (by decide)).trans h52
  have q53 := (hF1 53 (by decide)).trans h53
  have q54 := (hF1 54 (by decide)).trans h54
  have q55 := (hF1 55 (by decide)).trans h55
  have hw := hw1
  refine lv_aload_n C.1 C.2.1 dL_law_261 rfl (lv_at hl 1 rfl) ?_
  refine lw_ld (k0 := 0) (k3 := 3) (i := i) C hX hbl hw 1 (by omega) hL (lv_at hl 3 rfl) (lv_at hl 0 rfl) dL_law_262 dL_law_263 dL_law_264 rfl dL_law_265 dL_law_266 ?_
  refine k_vi C hw 43 (by omega) q43 rfl (c_X9_step (by omega) q43 q44 q48 q49 q50 q51 q52 q53 q54 q55 hG0 hG hca9 hta0 hta hos9 hrr.2.2.2.2) kv_L_34 rfl hl.1 ⟨Nat.le_of_ble_eq_true rfl, Nat.le_of_ble_eq_true rfl⟩ (Nat.le_of_ble_eq_true rfl) (slN_room2 (by omega) 0 0 (by omega) (by omega)) dL_law_267 (fun r2 M2 n2 H2 locs2 hp2 hw2 => ?_)
  clear hw
  dsimp only at hp2
  suffices hfin : r1 = r2 ∧ n2 = n1 ∧ iInv cI cJ cZ cH cR s.heap.size n1 M2 (cc + 1) from ?_
  · obtain ⟨er, en, I2⟩ := hfin
    subst en
    refine lv_icmp_eq (tgt := 753) C.1 C.2.1 dL_law_270 (by decide) (fun _ => ?_) (fun z => absurd er z)
    exact K _ _ _ _ hw2 I2
  obtain ⟨en2, hp2⟩ := hp2
  rw [z0] at hp1
  rw [y0] at hp2
  generalize fst (fun q => mvz mwa q && P (mrk q)) ca = q0 at hp2 hRF
  generalize fst (fun j => P (rk j)) rs = j0 at hp1 hRF
  by_cases z : isT (xs (i + 1)) ta
  · rcases hRF with ⟨y1, y2, y3, y4⟩ | ⟨y1, y2⟩
    · rcases hp1 with ⟨cd, -⟩ | ⟨cd, -⟩ | ⟨-, e1, f1, g24, g25, g26, g27, g28, g29, g33, g34, g35, g36⟩
      · exact absurd z cd
      · exact absurd y2 cd.2
      rcases hp2 with ⟨cd, -⟩ | ⟨cd, -⟩ | ⟨-, e2, f2, g43, g50, g51, g52, g53, g54, g55⟩
      · exact absurd z cd
      · exact absurd y1 cd.2
      have hFF := kF_app f1 f2
      have a9 := hrr.2.2.1 q0 y1 y4
      rw [← y3] at a9
      obtain ⟨a1, a2, a3⟩ := a9
      obtain ⟨k, hk, ek⟩ := hrr.2.2.2.2 q0 y1
      have ek2 : kn (mrk q0) = k := by rw [ek]; exact nI_clamp (by omega)
      rw [a2] at e1 g24 g25 g35 g36
      rw [a3] at g25 g36
      rw [a1] at g34
      rw [ek2] at g24 g25 g36 g51 g52 g55
      rw [← (hst_ k hk).1] at g51
      rw [← (hst_ k hk).2] at g52 g55
      have hO : ∀ j, j < os + 1 → upd on_ os (nI q0) j = upd mon os (nI q0) j ∧ upd ok_ os (mrk q0) j = upd mok os (mrk q0) j ∧ vp_updL oz os (su k + (mrv q0).toInt64) j = vp_updL moz os (su k + (mrv q0).toInt64) j := by
        intro j hj
        by_cases v : j = os
        · rw [v, upd_at, upd_at, upd_at, upd_at, updL_at, updL_at]; exact ⟨rfl, rfl, rfl⟩
        · rw [upd_ne v, upd_ne v, upd_ne v, upd_ne v, updL_ne v, updL_ne v]; exact hou j (by omega)
      refine ⟨e1.trans e2.symm, en2, ⟨mm, s_, G, mo, ta, sc, mv, rs - 1, ca, ts, tr, os + 1, lx, lz, lg, hc, w, ⟨(hFF 0 (by decide)).trans h0, (hFF 1 (by decide)).trans h1, (hFF 6 (by decide)).trans h6, (hFF 9 (by decide)).trans h9, (hFF 22 (by decide)).trans h22, (hFF 23 (by decide)).trans h23, (f2 26 (by decide)).trans g26, (hFF 30 (by decide)).trans h30, (f2 33 (by decide)).trans g33, (hFF 37 (by decide)).trans h37, g43⟩, iOw_fr hOw (kF_on hFF _ (by decide)), iMv_fr hMv (kF_on hFF _ (by decide)), iPl_fr hPl (kF_on hFF _ (by decide)), ⟨_, _, _, _, (f2 24 (by decide)).trans g24, (f2 25 (by decide)).trans g25, g51, g52, RS_upd hst_ _ _⟩, ⟨_, _, _, _, _, _, (f2 27 (by decide)).trans g27, (f2 28 (by decide)).trans g28, (f2 29 (by decide)).trans g29, (hFF 48 (by decide)).trans h48, (hFF 49 (by decide)).trans h49, g50, RR_take hrr y1 y4 y3⟩, ⟨_, _, _, _, _, _, (f2 34 (by decide)).trans g34, (f2 35 (by decide)).trans g35, (f2 36 (by decide)).trans g36, g53, g54, g55, hO⟩, iTm_fr hTm (kF_on hFF _ (by decide)), iLg_fr hLg (kF_on hFF _ (by decide)), iMk_fr hMk hFF (by decide), by unfold iNu; omega⟩⟩
    · rcases hp1 with ⟨cd, -⟩ | ⟨-, e1, m1⟩ | ⟨cd, -⟩
      · exact absurd z cd
      · rcases hp2 with ⟨cd, -⟩ | ⟨-, e2, m2⟩ | ⟨cd, -⟩
        · exact absurd z cd
        · exact ⟨e1.trans e2.symm, en2, by rw [m2, m1]; exact iInv_next I0⟩
        · exact absurd cd.2 y1
      · exact absurd cd.2 y2
  · rcases hp1 with ⟨-, e1, m1⟩ | ⟨cd, -⟩ | ⟨cd, -⟩
    · rcases hp2 with ⟨-, e2, m2⟩ | ⟨cd, -⟩ | ⟨cd, -⟩
      · exact ⟨e1.trans e2.symm, en2, by rw [m2, m1]; exact iInv_next I0⟩
      · exact absurd cd.1 z
      · exact absurd cd.1 z
    · exact absurd cd.1 z
    · exact absurd cd.1 z
set_option maxHeartbeats 4000000 in
set_option maxRecDepth 100000 in
theorem lw_tick (X : lwC p s m c D cI cJ cZ cH cR a L xs i cc ls) (hw : kW D s.heap.size M n s.heap H locs) (I : iInv cI cJ cZ cH cR s.heap.size n M cc) (K : lwK p l e s m below meth c Q ls D cI cJ cZ cH cR a cc)  : W p l e room_1 s m #[Value.ref a] below meth c H locs n (slN n) Q (F0 m 567 ls []) := by
  have I0 := I
  obtain ⟨C, hX, hbl, hL, hi, hcc, hl⟩ := X
  obtain ⟨mm, s_, G, mo, ta, sc, mv, rs, ca, ts, tr, os, lx, lz, lg, hc, w, hOb, hOw, hMv, hPl, hSt, hRw, hOu, hTm, hLg, hMk, hNu⟩ := I
  obtain ⟨hG0, hG, hmo, hta0, hta, hs_, hsum, hos, hlg, hc3, hmh, hn⟩ := id hNu
  obtain ⟨h0, h1, h6, h9, h22, h23, h26, h30, h33, h37, h43⟩ := id hOb
  obtain ⟨ct, su, mct, msu, h24, h25, h51, h52, hst_⟩ := id hSt
  obtain ⟨tk, tt, mtk, mtt, h31, h32, h56, h57, htm⟩ := id hTm
  obtain ⟨lk, lt, lc, ly, mlk, mlt, mlc, mly, h38, h39, h40, h41, h58, h59, h60, h61, hlgr⟩ := id hLg
  refine lv_aload_n C.1 C.2.1 dL_law_567 rfl (lv_at hl 2 rfl) ?_
  refine lw_ld (k0 := 0) (k3 := 3) (i := i) C hX hbl hw 1 (by omega) hL (lv_at hl 3 rfl) (lv_at hl 0 rfl) dL_law_568 dL_law_569 dL_law_570 rfl dL_law_571 dL_law_572 ?_
  refine k_vi C hw 0 (by omega) h0 rfl (c_X8_tick (by omega) h0 h22 h23 h24 h25 h30 h31 h32 h37 h38 h39 h40 h41 htm.1 hlgr.1 (by have := hlgr.2.1; omega) (RT_keys htm)) kv_L_77 rfl hl.1 ⟨Nat.le_of_ble_eq_true rfl, Nat.le_of_ble_eq_true rfl⟩ (Nat.le_of_ble_eq_true rfl) (slN_room (by omega) 0 0 (by omega) (by omega)) dL_law_573 (fun r1 M1 n1 H1 locs1 hp1 hw1 => ?_)
  clear hw
  dsimp only at hp1
  obtain ⟨en1, hp1⟩ := hp1
  subst en1
  have hF1 : kF [24, 25, 37, 38, 39, 40, 41, 30, 31, 32] M M1 := by
    rcases hp1 with ⟨-, -, e9⟩ | ⟨-, -, hf9, -⟩
    · exact kF_of e9
    · exact hf9
  have q43 := (hF1 43 (by decide)).trans h43
  have q56 := (hF1 56 (by decide)).trans h56
  have q57 := (hF1 57 (by decide)).trans h57
  have q51 := (hF1 51 (by decide)).trans h51
  have q52 := (hF1 52 (by decide)).trans h52
  have q58 := (hF1 58 (by decide)).trans h58
  have q59 := (hF1 59 (by decide)).trans h59
  have q60 := (hF1 60 (by decide)).trans h60
  have q61 := (hF1 61 (by decide)).trans h61
  have hw := hw1
  refine lv_aload_n C.1 C.2.1 dL_law_576 rfl (lv_at hl 1 rfl) ?_
  refine lw_ld (k0 := 0) (k3 := 3) (i := i) C hX hbl hw 1 (by omega) hL (lv_at hl 3 rfl) (lv_at hl 0 rfl) dL_law_577 dL_law_578 dL_law_579 rfl dL_law_580 dL_law_581 ?_
  refine k_vi C hw 43 (by omega) q43 rfl (c_X9_tick (by omega) q43 q56 q57 q51 q52 q58 q59 q60 q61 htm.1 (by omega) htm.2.1) kv_L_80 rfl hl.1 ⟨Nat.le_of_ble_eq_true rfl, Nat.le_of_ble_eq_true rfl⟩ (Nat.le_of_ble_eq_true rfl) (slN_room2 (by omega) 0 0 (by omega) (by omega)) dL_law_582 (fun r2 M2 n2 H2 locs2 hp2 hw2 => ?_)
  clear hw
  dsimp only at hp2
  suffices hfin : r1 = r2 ∧ n2 = n1 ∧ iInv cI cJ cZ cH cR s.heap.size n1 M2 (cc + 1) from ?_
  · obtain ⟨er, en, I2⟩ := hfin
    subst en
    refine lv_icmp_eq (tgt := 753) C.1 C.2.1 dL_law_585 (by decide) (fun _ => ?_) (fun z => absurd er z)
    exact K _ _ _ _ hw2 I2
  obtain ⟨en2, hp2⟩ := hp2
  rcases mg2 (fun x y => x y) hp1 hp2 with ⟨cd, ⟨e1, m1⟩, e2, m2⟩ | ⟨cd, ⟨e1, f1, g24, g25, g37, g38, g39, g40, g41, g30, g31, g32⟩, m9, hm, hall, hno, e2, f2, g43, g56, g57, g51, g52, g58, g59, g60, g61⟩
  · exact ⟨e1.trans e2.symm, en2, by rw [m2, m1]; exact iInv_next I0⟩
  · have hFF := kF_app f1 f2
    have hd9 := fst_le (fun j => decide (xs (i + 1) < tt j)) ts
    obtain ⟨d1, d2, d3, d4⟩ := RT_tick htm hall hno rfl
    generalize fst (fun j => decide (xs (i + 1) < tt j)) ts = d at hd9 d1 d2 d3 d4 e1 g24 g25 g37 g38 g39 g40 g41 g30 g31 g32
    rw [d3] at g43
    rw [d1] at e2 g43 g56 g57 g51 g52 g58 g59 g60 g61 d4
    have hts9 := htm.1
    have hlw : ∀ j, j < d → tk j = rgK (xs (i + 1)) mtk mtt ts j ∧ tt j = rgT (xs (i + 1)) mtk mtt ts j ∧ tC tk ct j (kn (tk j)) = tC (rgK (xs (i + 1)) mtk mtt ts) mct j (kn ((rgK (xs (i + 1)) mtk mtt ts) j)) ∧ tS tk su j (kn (tk j)) = tS (rgK (xs (i + 1)) mtk mtt ts) msu j (kn ((rgK (xs (i + 1)) mtk mtt ts) j)) := by
      intro j hj
      obtain ⟨k, hk, ek⟩ := RT_keys htm j (by omega)
      have ek2 : kn (tk j) = k := by rw [ek]; exact nI_clamp (by omega)
      have z := RS_run hst_ (d := j) (ks := tk) (mks := rgK (xs (i + 1)) mtk mtt ts) (fun j2 h2 => (d2 j2 (by omega)).1.symm) k hk
      rw [(d2 j hj).1, (d2 j hj).2, ek2]
      exact ⟨rfl, rfl, z.1, z.2⟩
    refine ⟨e1.trans e2.symm, en2, ⟨mm, s_, G, mo, ta, sc, mv, rs, ca, ts - d, xs (i + 1), os, (lx + d) % 32, min (lz + d) 32, lg + d, hc, w, ⟨(hFF 0 (by decide)).trans h0, (hFF 1 (by decide)).trans h1, (hFF 6 (by decide)).trans h6, (hFF 9 (by decide)).trans h9, (hFF 22 (by decide)).trans h22, (hFF 23 (by decide)).trans h23, (hFF 26 (by decide)).trans h26, (f2 30 (by decide)).trans g30, (hFF 33 (by decide)).trans h33, (f2 37 (by decide)).trans g37, g43⟩, iOw_fr hOw (kF_on hFF _ (by decide)), iMv_fr hMv (kF_on hFF _ (by decide)), iPl_fr hPl (kF_on hFF _ (by decide)), ⟨_, _, _, _, (f2 24 (by decide)).trans g24, (f2 25 (by decide)).trans g25, g51, g52, RS_run hst_ (fun j2 h2 => (d2 j2 h2).1.symm)⟩, iRw_fr hRw (kF_on hFF _ (by decide)), iOu_fr hOu (kF_on hFF _ (by decide)), ⟨_, _, _, _, (f2 31 (by decide)).trans g31, (f2 32 (by decide)).trans g32, g56, g57, d4⟩, ⟨_, _, _, _, _, _, _, _, (f2 38 (by decide)).trans g38, (f2 39 (by decide)).trans g39, (f2 40 (by decide)).trans g40, (f2 41 (by decide)).trans g41, g58, g59, g60, g61, RLg_run hlgr hlw⟩, iMk_fr hMk hFF (by decide), by unfold iNu; omega⟩⟩
end KLC
