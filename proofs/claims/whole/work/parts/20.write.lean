theorem kv_X8_73 : kV RX8 RX3 73 yX3_giveAllToOne cX3_giveAllToOne 3 none 2 := ⟨q_182, q_50, q_51, q_14, q_52, by decide +kernel⟩
theorem kv_X8_85 : kSt RX8 85 yX8_isValue cX8_isValue 1 (some .boolean) 1 := ⟨q_232, q_233, q_2, q_234, by decide +kernel⟩
theorem kv_X8_88 : kV RX8 RX5 88 yX5_enter cX5_enter 3 none 2 := ⟨q_235, q_236, q_237, q_78, q_238, by decide +kernel⟩
theorem kv_X8_126 : kV RX8 RX5 126 yX5_takeOut cX5_takeOut 3 none 1 := ⟨q_271, q_272, q_273, q_78, q_274, by decide +kernel⟩
theorem kv_X8_130 : kV RX8 RX2 130 yX2_put cX2_put 5 none 3 := ⟨q_279, q_280, q_281, q_26, q_282, by decide +kernel⟩
theorem kv_X8_185 : kV RX8 RX3 185 yX3_isHot cX3_isHot 3 (some .boolean) 2 := ⟨q_472, q_473, q_474, q_14, q_475, by decide +kernel⟩
theorem kv_X8_189 : kV RX8 RX3 189 yX3_aheadOf cX3_aheadOf 6 (some .int) 1 := ⟨q_476, q_477, q_478, q_14, q_479, by decide +kernel⟩
theorem kv_X8_196 : kV RX8 RX7 196 yX7_enter cX7_enter 4 none 2 := ⟨q_494, q_495, q_496, q_82, q_497, by decide +kernel⟩
theorem kv_X8_222 : kV RX8 RX1 222 yX1_placeOf cX1_placeOf 2 (some .int) 1 := ⟨q_578, q_579, q_580, q_30, q_581, by decide +kernel⟩
theorem kv_X8_244 : kV RX8 RX3 244 yX3_begin cX3_begin 1 none 0 := ⟨q_658, q_44, q_45, q_14, q_46, by decide +kernel⟩
theorem kv_X8_247 : kV RX8 RX0 247 yX0_begin cX0_begin 1 none 0 := ⟨q_659, q_660, q_661, q_22, q_662, by decide +kernel⟩
set_option maxHeartbeats 4000000 in
set_option maxRecDepth 100000 in
theorem c_X8_shape {l : Launch} {D : va_G} {cI cJ cZ cH cR : ClassId} {b : Nat} {n : Nat} {M : Nat → va_E}  {mm : Nat} {sl : Int32} {G : Nat} {mo : Nat} {ta : Nat} {sc : Int32} {mv : Nat} {ow : Nat → Int32} {ep : Nat → Int32} {we : Nat → Int32} {rs : Nat} {ca : Nat} {ts : Nat} {tr : Int32} {gr mt : Int32} (hn : 31 ≤ n) (h0 : M 0 = .inr (8, [.ref (b + 1), .ref (b + 6), .ref (b + 22), .ref (b + 33), .ref (b + 37), .ref (b + 42), .int (nI mm), .int sl])) (h1 : M 1 = .inr (3, [.int (nI G), .int (nI mo), .int (nI ta), .int sc, .int (nI mv), .ref (b + 2), .ref (b + 3), .ref (b + 4), .ref (b + 5)])) (h2 : M 2 = .inl (cI, 32, .inl ow)) (h3 : M 3 = .inl (cI, 32, .inl ep)) (h4 : M 4 = .inl (cI, 32, .inl we)) (h22 : M 22 = .inr (0, [.ref (b + 23), .ref (b + 26), .ref (b + 30)])) (h26 : M 26 = .inr (5, [.ref (b + 27), .ref (b + 28), .ref (b + 29), .int (nI rs), .int (nI ca)])) (h30 : M 30 = .inr (7, [.ref (b + 31), .ref (b + 32), .int (nI ts), .int tr]))  (hca : ca ≤ 400) (hts : ts ≤ 40) (hmm : mm ≤ 3) : Met l yX8_shape (kw yX8_shape cX8_shape 3 (some .int)) ({ frames := 2, cells := 0, slots := 0, locals := 45 }) (va_Pc [.ref (b + 0), .int gr, .int mt] (kPre D (kT cI cJ cZ cH cR) b M n)) (va_Qi (fun (r : Int32) (u : (Nat → va_E) × Nat) => u.2 = n ∧ (((¬ (¬ gr < nI 2 ∧ gr ≤ nI 32 ∧ ¬ mt < nI 1 ∧ ¬ nI 12 < mt ∧ mt ≤ gr)) ∧ r = -102 ∧ u.1 = M) ∨ (((¬ gr < nI 2 ∧ gr ≤ nI 32 ∧ ¬ mt < nI 1 ∧ ¬ nI 12 < mt ∧ mt ≤ gr) ∧ ¬ (¬ 0 < ca ∧ ¬ 0 < ts ∧ ¬ 0 < mm)) ∧ r = -103 ∧ u.1 = M) ∨ (((¬ gr < nI 2 ∧ gr ≤ nI 32 ∧ ¬ mt < nI 1 ∧ ¬ nI 12 < mt ∧ mt ≤ gr) ∧ (¬ 0 < ca ∧ ¬ 0 < ts ∧ ¬ 0 < mm)) ∧ r = 1 ∧ kF [1, 2, 3, 4] M u.1 ∧ u.1 1 = .inr (3, [.int (gr), .int (mt), .int (nI 1), .int (sc), .int (nI mv), .ref (b + 2), .ref (b + 3), .ref (b + 4), .ref (b + 5)]) ∧ u.1 2 = .inl (cI, 32, .inl (fun _ => 0)) ∧ u.1 3 = .inl (cI, 32, .inl (fun _ => 1)) ∧ u.1 4 = .inl (cI, 32, .inl (fun _ => 0))))) (kB D (kT cI cJ cZ cH cR) b) (kA b)) 0 0 (kA b) := by
  refine k_metI (by decide +kernel) (Nat.le_of_ble_eq_true rfl) ?_
  intro p e s m below meth c ls Q C hw hret hnm hl
  have hl : lv_has ls 3 [(0, .ref (b + 0)), (1, .int gr), (2, .int mt)] := hl
  have hFF : kF [1, 2, 3, 4] M M := kF_rf
  refine lv_iload_n C.1 C.2.1 dX8_shape_0 rfl (lv_at hl 1 rfl) ?_
  refine lv_iconst (v := nI 2) C.1 C.2.1 dX8_shape_1 (by decide) ?_
  refine lv_icmp_lt (tgt := 11) C.1 C.2.1 dX8_shape_2 (by decide) (fun c2 => ?_) (fun c2 => ?_)
  · refine lv_bipush (v := (-102)) C.1 C.2.1 dX8_shape_11 (by decide) ?_
    exact hret _ _ (Nat.le_of_ble_eq_true rfl) (Nat.le_of_ble_eq_true rfl) hw (⟨rfl, Or.inl ⟨fun z => z.1 c2, rfl, rfl⟩⟩) dX8_shape_13
  · refine lv_iload_n C.1 C.2.1 dX8_shape_5 rfl (lv_at hl 1 rfl) ?_
    refine lv_bipush (v := nI 32) C.1 C.2.1 dX8_shape_6 (by decide) ?_
    refine lv_icmp_le (tgt := 14) C.1 C.2.1 dX8_shape_8 (by decide) (fun c8 => ?_) (fun c8 => ?_)
    · refine lv_iload_n C.1 C.2.1 dX8_shape_14 rfl (lv_at hl 2 rfl) ?_
      refine lv_iconst (v := nI 1) C.1 C.2.1 dX8_shape_15 (by decide) ?_
      refine lv_icmp_lt (tgt := 30) C.1 C.2.1 dX8_shape_16 (by decide) (fun c16 => ?_) (fun c16 => ?_)
      · refine lv_bipush (v := (-102)) C.1 C.2.1 dX8_shape_30 (by decide) ?_
        exact hret _ _ (Nat.le_of_ble_eq_true rfl) (Nat.le_of_ble_eq_true rfl) hw (⟨rfl, Or.inl ⟨fun z => z.2.2.1 c16, rfl, rfl⟩⟩) dX8_shape_32
      · refine lv_iload_n C.1 C.2.1 dX8_shape_19 rfl (lv_at hl 2 rfl) ?_
        refine lv_bipush (v := nI 12) C.1 C.2.1 dX8_shape_20 (by decide) ?_
        refine lv_icmp_gt (tgt := 30) C.1 C.2.1 dX8_shape_22 (by decide) (fun c22 => ?_) (fun c22 => ?_)
        · refine lv_bipush (v := (-102)) C.1 C.2.1 dX8_shape_30 (by decide) ?_
          exact hret _ _ (Nat.le_of_ble_eq_true rfl) (Nat.le_of_ble_eq_true rfl) hw (⟨rfl, Or.inl ⟨fun z => z.2.2.2.1 c22, rfl, rfl⟩⟩) dX8_shape_32
        · refine lv_iload_n C.1 C.2.1 dX8_shape_25 rfl (lv_at hl 2 rfl) ?_
          refine lv_iload_n C.1 C.2.1 dX8_shape_26 rfl (lv_at hl 1 rfl) ?_
          refine lv_icmp_le (tgt := 33) C.1 C.2.1 dX8_shape_27 (by decide) (fun c27 => ?_) (fun c27 => ?_)
          · refine lv_aload_n C.1 C.2.1 dX8_shape_33 rfl (lv_at hl 0 rfl) ?_
            refine k_get C hw 0 (by omega) h0 rfl inlX8 2 (by decide) q_23 rfl dX8_shape_34 ?_
            refine k_get C hw 22 (by omega) h22 rfl inlX0 1 (by decide) q_177 rfl dX8_shape_37 ?_
            refine k_get C hw 26 (by omega) h26 rfl inlX5 4 (by decide) q_178 rfl dX8_shape_40 ?_
            refine lv_if_gt (tgt := 66) C.1 C.2.1 dX8_shape_43 (by decide) (fun c43 => ?_) (fun c43 => ?_)
            · have hc : 0 < ca := Nat.pos_of_ne_zero (fun z => by rw [z] at c43; exact absurd c43 (by decide))
              refine lv_bipush (v := (-103)) C.1 C.2.1 dX8_shape_66 (by decide) ?_
              exact hret _ _ (Nat.le_of_ble_eq_true rfl) (Nat.le_of_ble_eq_true rfl) hw (⟨rfl, Or.inr (Or.inl ⟨⟨⟨c2, c8, c16, c22, c27⟩, fun z => z.1 hc⟩, rfl, rfl⟩)⟩) dX8_shape_68
            · have hc : ¬ 0 < ca := fun z => c43 (nI_lt (a := 0) z (by omega))
              refine lv_aload_n C.1 C.2.1 dX8_shape_46 rfl (lv_at hl 0 rfl) ?_
              refine k_get C hw 0 (by omega) h0 rfl inlX8 2 (by decide) q_23 rfl dX8_shape_47 ?_
              refine k_get C hw 22 (by omega) h22 rfl inlX0 2 (by decide) q_179 rfl dX8_shape_50 ?_
              refine k_get C hw 30 (by omega) h30 rfl inlX7 2 (by decide) q_180 rfl dX8_shape_53 ?_
              refine lv_if_gt (tgt := 66) C.1 C.2.1 dX8_shape_56 (by decide) (fun c56 => ?_) (fun c56 => ?_)
              · have ht : 0 < ts := Nat.pos_of_ne_zero (fun z => by rw [z] at c56; exact absurd c56 (by decide))
                refine lv_bipush (v := (-103)) C.1 C.2.1 dX8_shape_66 (by decide) ?_
                exact hret _ _ (Nat.le_of_ble_eq_true rfl) (Nat.le_of_ble_eq_true rfl) hw (⟨rfl, Or.inr (Or.inl ⟨⟨⟨c2, c8, c16, c22, c27⟩, fun z => z.2.1 ht⟩, rfl, rfl⟩)⟩) dX8_shape_68
              · have ht : ¬ 0 < ts := fun z => c56 (nI_lt (a := 0) z (by omega))
                refine lv_aload_n C.1 C.2.1 dX8_shape_59 rfl (lv_at hl 0 rfl) ?_
                refine k_get C hw 0 (by omega) h0 rfl inlX8 6 (by decide) q_181 rfl dX8_shape_60 ?_
                refine lv_if_le (tgt := 69) C.1 C.2.1 dX8_shape_63 (by decide) (fun c63 => ?_) (fun c63 => ?_)
                · have hm : ¬ 0 < mm := fun z => absurd c63 (nI_nle z (by omega))
                  obtain ⟨g1, hg1, eg⟩ := nI_of2 (M := nI 32) (n := 32) (by decide) (fun z => c2 (Int32.lt_trans z (by decide))) c8
                  obtain ⟨m1, hm1, em⟩ := nI_of2 (M := nI 12) (n := 12) (by decide) (fun z => c16 (Int32.lt_trans z (by decide))) (Int32.not_lt.mp c22)
                  refine lv_aload_n C.1 C.2.1 dX8_shape_69 rfl (lv_at hl 0 rfl) ?_
                  refine k_get C hw 0 (by omega) h0 rfl inlX8 0 (by decide) q_15 rfl dX8_shape_70 ?_
                  refine lv_iload_n C.1 C.2.1 dX8_shape_73 rfl (lv_at hl 1 rfl) ?_
                  refine k_topi (y := nI g1) (eg) ?_
                  refine lv_iload_n C.1 C.2.1 dX8_shape_74 rfl (lv_at hl 2 rfl) ?_
                  refine k_topi (y := nI m1) (em) ?_
                  refine k_vv C hw 1 (by omega) h1 rfl (c_X3_giveAllToOne (by omega) h1 h2 h3 h4  ) kv_X8_73 rfl hl.1 ⟨Nat.le_of_ble_eq_true rfl, Nat.le_of_ble_eq_true rfl⟩ (Nat.le_of_ble_eq_true rfl) ⟨Nat.le_of_ble_eq_true rfl, Nat.le_of_ble_eq_true rfl⟩ dX8_shape_75 (fun M_1 n9 H locs hp hw => ?_)
                  obtain ⟨en9, hF, h1, h2, h3, h4⟩ := hp
                  have en9 : n9 = n := en9
                  rw [en9] at hw
                  have h0 := (hF 0 (by decide)).trans h0
                  have h22 := (hF 22 (by decide)).trans h22
                  have h26 := (hF 26 (by decide)).trans h26
                  have h30 := (hF 30 (by decide)).trans h30
                  have hFF := kF_st hFF hF (by first | decide | simp)
                  refine lv_iconst (v := nI 1) C.1 C.2.1 dX8_shape_78 (by decide) ?_
                  rw [← eg, ← em] at h1
                  exact hret _ _ (Nat.le_of_ble_eq_true rfl) (Nat.le_of_ble_eq_true rfl) hw (⟨rfl, Or.inr (Or.inr (⟨⟨⟨c2, c8, c16, c22, c27⟩, hc, ht, hm⟩, rfl, hFF, h1, h2, h3, h4⟩))⟩) dX8_shape_79
                · have hm : 0 < mm := Nat.pos_of_ne_zero (fun z => by rw [z] at c63; exact c63 (by decide))
                  refine lv_bipush (v := (-103)) C.1 C.2.1 dX8_shape_66 (by decide) ?_
                  exact hret _ _ (Nat.le_of_ble_eq_true rfl) (Nat.le_of_ble_eq_true rfl) hw (⟨rfl, Or.inr (Or.inl ⟨⟨⟨c2, c8, c16, c22, c27⟩, fun z => z.2.2 hm⟩, rfl, rfl⟩)⟩) dX8_shape_68
          · refine lv_bipush (v := (-102)) C.1 C.2.1 dX8_shape_30 (by decide) ?_
            exact hret _ _ (Nat.le_of_ble_eq_true rfl) (Nat.le_of_ble_eq_true rfl) hw (⟨rfl, Or.inl ⟨fun z => c27 z.2.2.2.2, rfl, rfl⟩⟩) dX8_shape_32
    · refine lv_bipush (v := (-102)) C.1 C.2.1 dX8_shape_11 (by decide) ?_
      exact hret _ _ (Nat.le_of_ble_eq_true rfl) (Nat.le_of_ble_eq_true rfl) hw (⟨rfl, Or.inl ⟨fun z => c8 z.2.1, rfl, rfl⟩⟩) dX8_shape_13

set_option maxHeartbeats 4000000 in
set_option maxRecDepth 100000 in
theorem c_X8_row {l : Launch} {D : va_G} {cI cJ cZ cH cR : ClassId} {b : Nat} {n : Nat} {M : Nat → va_E}  {mm : Nat} {sl : Int32} {G : Nat} {mo : Nat} {ta : Nat} {sc : Int32} {mv : Nat} {ow : Nat → Int32} {we : Nat → Int32} {rs : Nat} {ca : Nat} {rn : Nat → Int32} {rk : Nat → Int32} {rv : Nat → Int32} {key v : Int32} (hn : 30 ≤ n) (h0 : M 0 = .inr (8, [.ref (b + 1), .ref (b + 6), .ref (b + 22), .ref (b + 33), .ref (b + 37), .ref (b + 42), .int (nI mm), .int sl])) (h1 : M 1 = .inr (3, [.int (nI G), .int (nI mo), .int (nI ta), .int sc, .int (nI mv), .ref (b + 2), .ref (b + 3), .ref (b + 4), .ref (b + 5)])) (h2 : M 2 = .inl (cI, 32, .inl ow)) (h4 : M 4 = .inl (cI, 32, .inl we)) (h22 : M 22 = .inr (0, [.ref (b + 23), .ref (b + 26), .ref (b + 30)])) (h26 : M 26 = .inr (5, [.ref (b + 27), .ref (b + 28), .ref (b + 29), .int (nI rs), .int (nI ca)])) (h27 : M 27 = .inl (cI, 400, .inl rn)) (h28 : M 28 = .inl (cI, 400, .inl rk)) (h29 : M 29 = .inl (cI, 400, .inl rv))  (hG0 : 0 < G) (hG : G ≤ 32) (hrs : rs ≤ ca) (hca : ca ≤ 400) : Met l yX8_row (kw yX8_row cX8_row 4 (some .int)) ({ frames := 1, cells := 0, slots := 0, locals := 23 }) (va_Pc [.ref (b + 0), .int key, .int v] (kPre D (kT cI cJ cZ cH cR) b M n)) (va_Qi (fun (r : Int32) (u : (Nat → va_E) × Nat) => u.2 = n ∧ (((¬ isK key) ∧ r = -101 ∧ u.1 = M) ∨ ((isK key ∧ ¬ isV v) ∧ r = -102 ∧ u.1 = M) ∨ ((isK key ∧ isV v ∧ ¬ ca < 400) ∧ r = -107 ∧ u.1 = M) ∨ ((isK key ∧ isV v ∧ ca < 400) ∧ r = ow (gof G key) ∧ kF [4, 26, 27, 28, 29] M u.1 ∧ u.1 4 = .inl (cI, 32, .inl (upd we (gof G key) (we (gof G key) + nI 1))) ∧ u.1 26 = .inr (5, [.ref (b + 27), .ref (b + 28), .ref (b + 29), .int (nI (rs + 1)), .int (nI (ca + 1))]) ∧ u.1 27 = .inl (cI, 400, .inl (upd rn rs (nI ca))) ∧ u.1 28 = .inl (cI, 400, .inl (upd rk rs key)) ∧ u.1 29 = .inl (cI, 400, .inl (upd rv rs v))))) (kB D (kT cI cJ cZ cH cR) b) (kA b)) 0 0 (kA b) := by
  refine k_metI (by decide +kernel) (Nat.le_of_ble_eq_true rfl) ?_
  intro p e s m below meth c ls Q C hw hret hnm hl
  have hl : lv_has ls 4 [(0, .ref (b + 0)), (1, .int key), (2, .int v)] := hl
  have hFF : kF [4, 26, 27, 28, 29] M M := kF_rf
  refine lv_iload_n C.1 C.2.1 dX8_row_0 rfl (lv_at hl 1 rfl) ?_
  refine k_si C hw (c_X8_isKey   ) kv_X8_77 rfl hl.1 ⟨Nat.le_of_ble_eq_true rfl, Nat.le_of_ble_eq_true rfl⟩ (Nat.le_of_ble_eq_true rfl) ⟨Nat.le_of_ble_eq_true rfl, Nat.le_of_ble_eq_true rfl⟩ dX8_row_1 (fun r1 M_1 n9 H locs hp hw => ?_)
  obtain ⟨er1, en9, eM9⟩ := hp
  have en9 : n9 = n := en9
  rw [en9] at hw
  have eM9 : M_1 = M := eM9
  rw [eM9] at hw
  refine lv_if_ne (tgt := 10) C.1 C.2.1 dX8_row_4 (by decide) (fun c4 => ?_) (fun c4 => ?_)
  · have h4_ : isK key := Classical.byContradiction (fun z => c4 (by rw [er1, if_neg z]))
    refine lv_iload_n C.1 C.2.1 dX8_row_10 rfl (lv_at hl 2 rfl) ?_
    refine k_si C hw (c_X8_isValue   ) kv_X8_85 rfl hl.1 ⟨Nat.le_of_ble_eq_true rfl, Nat.le_of_ble_eq_true rfl⟩ (Nat.le_of_ble_eq_true rfl) ⟨Nat.le_of_ble_eq_true rfl, Nat.le_of_ble_eq_true rfl⟩ dX8_row_11 (fun r11 M_2 n9 H locs hp hw => ?_)
    obtain ⟨er11, en9, eM9⟩ := hp
    have en9 : n9 = n := en9
    rw [en9] at hw
    have eM9 : M_2 = M := eM9
    rw [eM9] at hw
    refine lv_if_ne (tgt := 20) C.1 C.2.1 dX8_row_14 (by decide) (fun c14 => ?_) (fun c14 => ?_)
    · have h14_ : isV v := Classical.byContradiction (fun z => c14 (by rw [er11, if_neg z]))
      refine lv_aload_n C.1 C.2.1 dX8_row_20 rfl (lv_at hl 0 rfl) ?_
      refine k_get C hw 0 (by omega) h0 rfl inlX8 2 (by decide) q_23 rfl dX8_row_21 ?_
      refine k_get C hw 22 (by omega) h22 rfl inlX0 1 (by decide) q_177 rfl dX8_row_24 ?_
      refine k_get C hw 26 (by omega) h26 rfl inlX5 4 (by decide) q_178 rfl dX8_row_27 ?_
      refine lv_sipush (v := nI 400) C.1 C.2.1 dX8_row_30 (by decide) ?_
      refine lv_icmp_lt (tgt := 39) C.1 C.2.1 dX8_row_33 (by decide) (fun c33 => ?_) (fun c33 => ?_)
      · have hc : ca < 400 := (nI_ltI (by omega) (by omega)).mp c33
        refine lv_aload_n C.1 C.2.1 dX8_row_39 rfl (lv_at hl 0 rfl) ?_
        refine k_get C hw 0 (by omega) h0 rfl inlX8 0 (by decide) q_15 rfl dX8_row_40 ?_
        refine lv_iload_n C.1 C.2.1 dX8_row_43 rfl (lv_at hl 1 rfl) ?_
        refine k_vi C hw 1 (by omega) h1 rfl (c_X3_groupOf (by omega) h1  (by omega) (by omega)) kv_X8_81 rfl hl.1 ⟨Nat.le_of_ble_eq_true rfl, Nat.le_of_ble_eq_true rfl⟩ (Nat.le_of_ble_eq_true rfl) ⟨Nat.le_of_ble_eq_true rfl, Nat.le_of_ble_eq_true rfl⟩ dX8_row_44 (fun r44 M_3 n9 H locs hp hw => ?_)
        obtain ⟨er44, en9, eM9⟩ := hp
        have en9 : n9 = n := en9
        rw [en9] at hw
        have eM9 : M_3 = M := eM9
        rw [eM9] at hw
        have hgl := gof_lt hG0 key
        subst er44
        refine lv_istore_n (lv' := [(3, .int (nI (gof G key))), (0, .ref (b + 0)), (1, .int key), (2, .int v)]) C.1 C.2.1 dX8_row_47 rfl hl (by decide) rfl (fun ls hl => ?_)
        refine lv_aload_n C.1 C.2.1 dX8_row_48 rfl (lv_at hl 1 rfl) ?_
        refine k_get C hw 0 (by omega) h0 rfl inlX8 2 (by decide) q_23 rfl dX8_row_49 ?_
        refine k_get C hw 22 (by omega) h22 rfl inlX0 1 (by decide) q_177 rfl dX8_row_52 ?_
        refine lv_iload_n C.1 C.2.1 dX8_row_55 rfl (lv_at hl 2 rfl) ?_
        refine lv_iload_n C.1 C.2.1 dX8_row_56 rfl (lv_at hl 3 rfl) ?_
        refine k_vv C hw 26 (by omega) h26 rfl (c_X5_enter (by omega) h26 h27 h28 h29  (by omega)) kv_X8_88 rfl hl.1 ⟨Nat.le_of_ble_eq_true rfl, Nat.le_of_ble_eq_true rfl⟩ (Nat.le_of_ble_eq_true rfl) ⟨Nat.le_of_ble_eq_true rfl, Nat.le_of_ble_eq_true rfl⟩ dX8_row_57 (fun M_4 n9 H locs hp hw => ?_)
        obtain ⟨en9, hF, h26, h27, h28, h29⟩ := hp
        have en9 : n9 = n := en9
        rw [en9] at hw
        have h0 := (hF 0 (by decide)).trans h0
        have h1 := (hF 1 (by decide)).trans h1
        have h2 := (hF 2 (by decide)).trans h2
        have h4 := (hF 4 (by decide)).trans h4
        have h22 := (hF 22 (by decide)).trans h22
        have hFF := kF_st hFF hF (by first | decide | simp)
        refine lv_aload_n C.1 C.2.1 dX8_row_60 rfl (lv_at hl 1 rfl) ?_
        refine k_get C hw 0 (by omega) h0 rfl inlX8 0 (by decide) q_15 rfl dX8_row_61 ?_
        refine k_get C hw 1 (by omega) h1 rfl inlX3 7 (by decide) q_230 rfl dX8_row_64 ?_
        refine lv_iload_n C.1 C.2.1 dX8_row_67 rfl (lv_at hl 0 rfl) ?_
        refine lv_dup2_11 C.1 C.2.1 dX8_row_68 rfl rfl ?_
        refine k_iald C hw 4 (by omega) h4 (by omega) (by first | decide | omega) dX8_row_69 ?_
        refine lv_iconst (v := nI 1) C.1 C.2.1 dX8_row_70 (by decide) ?_
        refine lv_iadd C.1 C.2.1 dX8_row_71 ?_
        refine k_iast C hw 4 (by omega) h4 (by omega) (by first | decide | omega) dX8_row_72 (fun M_5 H locs hw h4 hF => ?_)
        have h0 := (hF 0 (by decide)).trans h0
        have h1 := (hF 1 (by decide)).trans h1
        have h2 := (hF 2 (by decide)).trans h2
        have h22 := (hF 22 (by decide)).trans h22
        have h26 := (hF 26 (by decide)).trans h26
        have h27 := (hF 27 (by decide)).trans h27
        have h28 := (hF 28 (by decide)).trans h28
        have h29 := (hF 29 (by decide)).trans h29
        have hFF := kF_st hFF hF (by first | decide | simp)
        refine lv_aload_n C.1 C.2.1 dX8_row_73 rfl (lv_at hl 1 rfl) ?_
        refine k_get C hw 0 (by omega) h0 rfl inlX8 0 (by decide) q_15 rfl dX8_row_74 ?_
        refine k_get C hw 1 (by omega) h1 rfl inlX3 5 (by decide) q_231 rfl dX8_row_77 ?_
        refine lv_iload_n C.1 C.2.1 dX8_row_80 rfl (lv_at hl 0 rfl) ?_
        refine k_iald C hw 2 (by omega) h2 (by omega) (by first | decide | omega) dX8_row_81 ?_
        exact hret _ _ (Nat.le_of_ble_eq_true rfl) (Nat.le_of_ble_eq_true rfl) hw (⟨rfl, Or.inr (Or.inr (Or.inr (⟨⟨h4_, h14_, hc⟩, rfl, hFF, h4, h26, h27, h28, h29⟩)))⟩) dX8_row_82
      · have hc : ¬ ca < 400 := fun z => c33 (nI_lt z (by omega))
        refine lv_bipush (v := (-107)) C.1 C.2.1 dX8_row_36 (by decide) ?_
        exact hret _ _ (Nat.le_of_ble_eq_true rfl) (Nat.le_of_ble_eq_true rfl) hw (⟨rfl, Or.inr (Or.inr (Or.inl ⟨⟨h4_, h14_, hc⟩, rfl, rfl⟩))⟩) dX8_row_38
    · have h14_ : ¬ isV v := fun z => by rw [er11, if_pos z] at c14; exact absurd c14 (by decide)
      refine lv_bipush (v := (-102)) C.1 C.2.1 dX8_row_17 (by decide) ?_
      exact hret _ _ (Nat.le_of_ble_eq_true rfl) (Nat.le_of_ble_eq_true rfl) hw (⟨rfl, Or.inr (Or.inl ⟨⟨h4_, h14_⟩, rfl, rfl⟩)⟩) dX8_row_19
  · have h4_ : ¬ isK key := fun z => by rw [er1, if_pos z] at c4; exact absurd c4 (by decide)
    refine lv_bipush (v := (-101)) C.1 C.2.1 dX8_row_7 (by decide) ?_
    exact hret _ _ (Nat.le_of_ble_eq_true rfl) (Nat.le_of_ble_eq_true rfl) hw (⟨rfl, Or.inl ⟨h4_, rfl, rfl⟩⟩) dX8_row_9

set_option maxHeartbeats 4000000 in
set_option maxRecDepth 100000 in
theorem c_X8_step {l : Launch} {D : va_G} {cI cJ cZ cH cR : ClassId} {b : Nat} {n : Nat} {M : Nat → va_E}  {mm : Nat} {sl : Int32} {G : Nat} {mo : Nat} {ta : Nat} {sc : Int32} {mv : Nat} {ow : Nat → Int32} {ct : Nat → Int32} {su : Nat → Int64} {rs : Nat} {ca : Nat} {rn : Nat → Int32} {rk : Nat → Int32} {rv : Nat → Int32} {os : Nat} {on_ : Nat → Int32} {ok_ : Nat → Int32} {oz : Nat → Int64} {t : Int32} (hn : 37 ≤ n) (h0 : M 0 = .inr (8, [.ref (b + 1), .ref (b + 6), .ref (b + 22), .ref (b + 33), .ref (b + 37), .ref (b + 42), .int (nI mm), .int sl])) (h1 : M 1 = .inr (3, [.int (nI G), .int (nI mo), .int (nI ta), .int sc, .int (nI mv), .ref (b + 2), .ref (b + 3), .ref (b + 4), .ref (b + 5)])) (h2 : M 2 = .inl (cI, 32, .inl ow)) (h22 : M 22 = .inr (0, [.ref (b + 23), .ref (b + 26), .ref (b + 30)])) (h23 : M 23 = .inr (6, [.ref (b + 24), .ref (b + 25)])) (h24 : M 24 = .inl (cI, 100, .inl ct)) (h25 : M 25 = .inl (cJ, 100, .inr (.inl su))) (h26 : M 26 = .inr (5, [.ref (b + 27), .ref (b + 28), .ref (b + 29), .int (nI rs), .int (nI ca)])) (h27 : M 27 = .inl (cI, 400, .inl rn)) (h28 : M 28 = .inl (cI, 400, .inl rk)) (h29 : M 29 = .inl (cI, 400, .inl rv)) (h33 : M 33 = .inr (2, [.ref (b + 34), .ref (b + 35), .ref (b + 36), .int (nI os)])) (h34 : M 34 = .inl (cI, 400, .inl on_)) (h35 : M 35 = .inl (cI, 400, .inl ok_)) (h36 : M 36 = .inl (cJ, 400, .inr (.inl oz)))  (hG0 : 0 < G) (hG : G ≤ 32) (hs : rs ≤ 400) (hos : os + rs ≤ 400) (hkk : ∀ q, q < rs → ∃ k, k < 100 ∧ rk q = nI k) : Met l yX8_step (kw yX8_step cX8_step 5 (some .int)) ({ frames := 3, cells := 0, slots := 0, locals := 67 }) (va_Pc [.ref (b + 0), .int t] (kPre D (kT cI cJ cZ cH cR) b M n)) (va_Qi (fun (r : Int32) (u : (Nat → va_E) × Nat) => u.2 = n ∧ (((¬ isT t ta) ∧ r = -101 ∧ u.1 = M) ∨ ((isT t ta ∧ ¬ (fst (lnP G ow rk t) rs) < rs) ∧ r = -106 ∧ u.1 = M) ∨ ((isT t ta ∧ (fst (lnP G ow rk t) rs) < rs) ∧ r = rk (fst (lnP G ow rk t) rs) ∧ kF [24, 25, 26, 27, 28, 29, 33, 34, 35, 36] M u.1 ∧ u.1 24 = .inl (cI, 100, .inl (upd ct (kn (rk (fst (lnP G ow rk t) rs))) (ct (kn (rk (fst (lnP G ow rk t) rs))) + nI 1))) ∧ u.1 25 = .inl (cJ, 100, .inr (.inl (vp_updL su (kn (rk (fst (lnP G ow rk t) rs))) (su (kn (rk (fst (lnP G ow rk t) rs))) + (rv (fst (lnP G ow rk t) rs)).toInt64)))) ∧ u.1 26 = .inr (5, [.ref (b + 27), .ref (b + 28), .ref (b + 29), .int (nI (rs - 1)), .int (nI ca)]) ∧ u.1 27 = .inl (cI, 400, .inl (va_cpy rn rn ((fst (lnP G ow rk t) rs) + 1) (fst (lnP G ow rk t) rs) (rs - (fst (lnP G ow rk t) rs) - 1))) ∧ u.1 28 = .inl (cI, 400, .inl (va_cpy rk rk ((fst (lnP G ow rk t) rs) + 1) (fst (lnP G ow rk t) rs) (rs - (fst (lnP G ow rk t) rs) - 1))) ∧ u.1 29 = .inl (cI, 400, .inl (va_cpy rv rv ((fst (lnP G ow rk t) rs) + 1) (fst (lnP G ow rk t) rs) (rs - (fst (lnP G ow rk t) rs) - 1))) ∧ u.1 33 = .inr (2, [.ref (b + 34), .ref (b + 35), .ref (b + 36), .int (nI (os + 1))]) ∧ u.1 34 = .inl (cI, 400, .inl (upd on_ os (rn (fst (lnP G ow rk t) rs)))) ∧ u.1 35 = .inl (cI, 400, .inl (upd ok_ os (rk (fst (lnP G ow rk t) rs)))) ∧ u.1 36 = .inl (cJ, 400, .inr (.inl (vp_updL oz os (su (kn (rk (fst (lnP G ow rk t) rs))) + (rv (fst (lnP G ow rk t) rs)).toInt64))))))) (kB D (kT cI cJ cZ cH cR) b) (kA b)) 0 0 (kA b) := by
  refine k_metI (by decide +kernel) (Nat.le_of_ble_eq_true rfl) ?_
  intro p e s m below meth c ls Q C hw hret hnm hl
  have hl : lv_has ls 5 [(0, .ref (b + 0)), (1, .int t)] := hl
  have hFF : kF [24, 25, 26, 27, 28, 29, 33, 34, 35, 36] M M := kF_rf
  refine lv_aload_n C.1 C.2.1 dX8_step_0 rfl (lv_at hl 0 rfl) ?_
  refine lv_iload_n C.1 C.2.1 dX8_step_1 rfl (lv_at hl 1 rfl) ?_
  refine k_vi C hw 0 (by omega) h0 rfl (c_X8_isTask (by omega) h0 h1  ) kv_X8_98 rfl hl.1 ⟨Nat.le_of_ble_eq_true rfl, Nat.le_of_ble_eq_true rfl⟩ (Nat.le_of_ble_eq_true rfl) ⟨Nat.le_of_ble_eq_true rfl, Nat.le_of_ble_eq_true rfl⟩ dX8_step_2 (fun r2 M_1 n9 H locs hp hw => ?_)
  obtain ⟨er2, en9, eM9⟩ := hp
  have en9 : n9 = n := en9
  rw [en9] at hw
  have eM9 : M_1 = M := eM9
  rw [eM9] at hw
  refine lv_if_ne (tgt := 11) C.1 C.2.1 dX8_step_5 (by decide) (fun c5 => ?_) (fun c5 => ?_)
  · have h5_ : isT t ta := Classical.byContradiction (fun z => c5 (by rw [er2, if_neg z]))
    refine lv_aload_n C.1 C.2.1 dX8_step_11 rfl (lv_at hl 0 rfl) ?_
    refine lv_iload_n C.1 C.2.1 dX8_step_12 rfl (lv_at hl 1 rfl) ?_
    refine k_vi C hw 0 (by omega) h0 rfl (c_X8_firstInLine (by omega) h0 h1 h2 h22 h26 h28  (by omega) (by omega) (by omega)) kv_X8_101 rfl hl.1 ⟨Nat.le_of_ble_eq_true rfl, Nat.le_of_ble_eq_true rfl⟩ (Nat.le_of_ble_eq_true rfl) ⟨Nat.le_of_ble_eq_true rfl, Nat.le_of_ble_eq_true rfl⟩ dX8_step_13 (fun r13 M_2 n9 H locs hp hw => ?_)
    obtain ⟨er13, en9, eM9⟩ := hp
    have en9 : n9 = n := en9
    rw [en9] at hw
    have eM9 : M_2 = M := eM9
    rw [eM9] at hw
    refine lv_istore_n (lv' := [(2, .int r13), (0, .ref (b + 0)), (1, .int t)]) C.1 C.2.1 dX8_step_16 rfl hl (by decide) rfl (fun ls hl => ?_)
    refine lv_iload_n C.1 C.2.1 dX8_step_17 rfl (lv_at hl 0 rfl) ?_
    refine lv_bipush (v := (-106)) C.1 C.2.1 dX8_step_18 (by decide) ?_
    refine lv_icmp_ne (tgt := 26) C.1 C.2.1 dX8_step_20 (by decide) (fun c20 => ?_) (fun c20 => ?_)
    · rw [er13] at c20
      obtain ⟨hlt, hpe⟩ := fI_ne (by omega) c20
      obtain ⟨k, hk9, ek⟩ := hkk _ hlt
      have ekn : kn (rk (fst (lnP G ow rk t) rs)) = k := by rw [ek]; exact nI_clamp (by omega)
      have er13 : r13 = nI (fst (lnP G ow rk t) rs) := er13.trans hpe
      refine lv_aload_n C.1 C.2.1 dX8_step_26 rfl (lv_at hl 1 rfl) ?_
      refine k_get C hw 0 (by omega) h0 rfl inlX8 2 (by decide) q_23 rfl dX8_step_27 ?_
      refine k_get C hw 22 (by omega) h22 rfl inlX0 1 (by decide) q_177 rfl dX8_step_30 ?_
      refine k_get C hw 26 (by omega) h26 rfl inlX5 0 (by decide) q_251 rfl dX8_step_33 ?_
      refine lv_iload_n C.1 C.2.1 dX8_step_36 rfl (lv_at hl 0 rfl) ?_
      refine k_topi (y := nI (fst (lnP G ow rk t) rs)) (er13) ?_
      refine k_iald C hw 27 (by omega) h27 (by omega) (by first | decide | omega) dX8_step_37 ?_
      refine lv_topi (fun num enum => ?_)
      refine lv_istore_n (lv' := [(3, .int num), (2, .int r13), (0, .ref (b + 0)), (1, .int t)]) C.1 C.2.1 dX8_step_38 rfl hl (by decide) rfl (fun ls hl => ?_)
      refine lv_aload_n C.1 C.2.1 dX8_step_39 rfl (lv_at hl 2 rfl) ?_
      refine k_get C hw 0 (by omega) h0 rfl inlX8 2 (by decide) q_23 rfl dX8_step_40 ?_
      refine k_get C hw 22 (by omega) h22 rfl inlX0 1 (by decide) q_177 rfl dX8_step_43 ?_
      refine k_get C hw 26 (by omega) h26 rfl inlX5 1 (by decide) q_252 rfl dX8_step_46 ?_
      refine lv_iload_n C.1 C.2.1 dX8_step_49 rfl (lv_at hl 1 rfl) ?_
      refine k_topi (y := nI (fst (lnP G ow rk t) rs)) (er13) ?_
      refine k_iald C hw 28 (by omega) h28 (by omega) (by first | decide | omega) dX8_step_50 ?_
      refine lv_topi (fun ky eky => ?_)
      refine lv_istore (lv' := [(4, .int ky), (3, .int num), (2, .int r13), (0, .ref (b + 0)), (1, .int t)]) C.1 C.2.1 dX8_step_51 hl (by decide) rfl (fun ls hl => ?_)
      refine lv_aload_n C.1 C.2.1 dX8_step_53 rfl (lv_at hl 3 rfl) ?_
      refine k_get C hw 0 (by omega) h0 rfl inlX8 2 (by decide) q_23 rfl dX8_step_54 ?_
      refine k_get C hw 22 (by omega) h22 rfl inlX0 0 (by decide) q_253 rfl dX8_step_57 ?_
      refine k_get C hw 23 (by omega) h23 rfl inlX6 0 (by decide) q_254 rfl dX8_step_60 ?_
      refine lv_iload C.1 C.2.1 dX8_step_63 (lv_at hl 0 rfl) ?_
      refine k_topi (y := nI k) (eky.trans ek) ?_
      refine lv_dup2_11 C.1 C.2.1 dX8_step_65 rfl rfl ?_
      refine k_iald C hw 24 (by omega) h24 (by omega) (by first | decide | omega) dX8_step_66 ?_
      refine lv_iconst (v := nI 1) C.1 C.2.1 dX8_step_67 (by decide) ?_
      refine lv_iadd C.1 C.2.1 dX8_step_68 ?_
      refine k_iast C hw 24 (by omega) h24 (by omega) (by first | decide | omega) dX8_step_69 (fun M_3 H locs hw h24 hF => ?_)
      have h0 := (hF 0 (by decide)).trans h0
      have h1 := (hF 1 (by decide)).trans h1
      have h2 := (hF 2 (by decide)).trans h2
      have h22 := (hF 22 (by decide)).trans h22
      have h23 := (hF 23 (by decide)).trans h23
      have h25 := (hF 25 (by decide)).trans h25
      have h26 := (hF 26 (by decide)).trans h26
      have h27 := (hF 27 (by decide)).trans h27
      have h28 := (hF 28 (by decide)).trans h28
      have h29 := (hF 29 (by decide)).trans h29
      have h33 := (hF 33 (by decide)).trans h33
      have h34 := (hF 34 (by decide)).trans h34
      have h35 := (hF 35 (by decide)).trans h35
      have h36 := (hF 36 (by decide)).trans h36
      have hFF := kF_st hFF hF (by first | decide | simp)
      refine lv_aload_n C.1 C.2.1 dX8_step_70 rfl (lv_at hl 3 rfl) ?_
      refine k_get C hw 0 (by omega) h0 rfl inlX8 2 (by decide) q_23 rfl dX8_step_71 ?_
      refine k_get C hw 22 (by omega) h22 rfl inlX0 0 (by decide) q_253 rfl dX8_step_74 ?_
      refine k_get C hw 23 (by omega) h23 rfl inlX6 1 (by decide) q_255 rfl dX8_step_77 ?_
      refine lv_iload C.1 C.2.1 dX8_step_80 (lv_at hl 0 rfl) ?_
      refine k_topi (y := nI k) (eky.trans ek) ?_
      refine lv_dup2_11 C.1 C.2.1 dX8_step_82 rfl rfl ?_
      refine k_lald C hw 25 (by omega) h25 (by omega) (by first | decide | omega) dX8_step_83 ?_
      refine lv_aload_n C.1 C.2.1 dX8_step_84 rfl (lv_at hl 3 rfl) ?_
      refine k_get C hw 0 (by omega) h0 rfl inlX8 2 (by decide) q_23 rfl dX8_step_85 ?_
      refine k_get C hw 22 (by omega) h22 rfl inlX0 1 (by decide) q_177 rfl dX8_step_88 ?_
      refine k_get C hw 26 (by omega) h26 rfl inlX5 2 (by decide) q_256 rfl dX8_step_91 ?_
      refine lv_iload_n C.1 C.2.1 dX8_step_94 rfl (lv_at hl 2 rfl) ?_
      refine k_topi (y := nI (fst (lnP G ow rk t) rs)) (er13) ?_
      refine k_iald C hw 29 (by omega) h29 (by omega) (by first | decide | omega) dX8_step_95 ?_
      refine lv_i2l C.1 C.2.1 dX8_step_96 rfl ?_
      refine lv_ladd C.1 C.2.1 dX8_step_97 ?_
      refine k_last C hw 25 (by omega) h25 (by omega) (by first | decide | omega) dX8_step_98 (fun M_4 H locs hw h25 hF => ?_)
      have h0 := (hF 0 (by decide)).trans h0
      have h1 := (hF 1 (by decide)).trans h1
      have h2 := (hF 2 (by decide)).trans h2
      have h22 := (hF 22 (by decide)).trans h22
      have h23 := (hF 23 (by decide)).trans h23
      have h24 := (hF 24 (by decide)).trans h24
      have h26 := (hF 26 (by decide)).trans h26
      have h27 := (hF 27 (by decide)).trans h27
      have h28 := (hF 28 (by decide)).trans h28
      have h29 := (hF 29 (by decide)).trans h29
      have h33 := (hF 33 (by decide)).trans h33
      have h34 := (hF 34 (by decide)).trans h34
      have h35 := (hF 35 (by decide)).trans h35
      have h36 := (hF 36 (by decide)).trans h36
      have hFF := kF_st hFF hF (by first | decide | simp)
      refine lv_aload_n C.1 C.2.1 dX8_step_99 rfl (lv_at hl 3 rfl) ?_
      refine k_get C hw 0 (by omega) h0 rfl inlX8 2 (by decide) q_23 rfl dX8_step_100 ?_
      refine k_get C hw 22 (by omega) h22 rfl inlX0 1 (by decide) q_177 rfl dX8_step_103 ?_
      refine lv_iload_n C.1 C.2.1 dX8_step_106 rfl (lv_at hl 2 rfl) ?_
      refine k_topi (y := nI (fst (lnP G ow rk t) rs)) (er13) ?_
      refine k_vv C hw 26 (by omega) h26 rfl (c_X5_takeOut (by omega) h26 h27 h28 h29  (hlt) (hs)) kv_X8_126 rfl hl.1 ⟨Nat.le_of_ble_eq_true rfl, Nat.le_of_ble_eq_true rfl⟩ (Nat.le_of_ble_eq_true rfl) ⟨Nat.le_of_ble_eq_true rfl, Nat.le_of_ble_eq_true rfl⟩ dX8_step_107 (fun M_5 n9 H locs hp hw => ?_)
      obtain ⟨en9, hF, h26, h27, h28, h29⟩ := hp
      have en9 : n9 = n := en9
      rw [en9] at hw
      have h0 := (hF 0 (by decide)).trans h0
      have h1 := (hF 1 (by decide)).trans h1
      have h2 := (hF 2 (by decide)).trans h2
      have h22 := (hF 22 (by decide)).trans h22
      have h23 := (hF 23 (by decide)).trans h23
      have h24 := (hF 24 (by decide)).trans h24
      have h25 := (hF 25 (by decide)).trans h25
      have h33 := (hF 33 (by decide)).trans h33
      have h34 := (hF 34 (by decide)).trans h34
      have h35 := (hF 35 (by decide)).trans h35
      have h36 := (hF 36 (by decide)).trans h36
      have hFF := kF_st hFF hF (by first | decide | simp)
      refine lv_aload_n C.1 C.2.1 dX8_step_110 rfl (lv_at hl 3 rfl) ?_
      refine k_get C hw 0 (by omega) h0 rfl inlX8 3 (by decide) q_27 rfl dX8_step_111 ?_
      refine lv_iload_n C.1 C.2.1 dX8_step_114 rfl (lv_at hl 1 rfl) ?_
      refine lv_iload C.1 C.2.1 dX8_step_115 (lv_at hl 0 rfl) ?_
      refine lv_aload_n C.1 C.2.1 dX8_step_117 rfl (lv_at hl 3 rfl) ?_
      refine k_get C hw 0 (by omega) h0 rfl inlX8 2 (by decide) q_23 rfl dX8_step_118 ?_
      refine k_get C hw 22 (by omega) h22 rfl inlX0 0 (by decide) q_253 rfl dX8_step_121 ?_
      refine k_get C hw 23 (by omega) h23 rfl inlX6 1 (by decide) q_255 rfl dX8_step_124 ?_
      refine lv_iload C.1 C.2.1 dX8_step_127 (lv_at hl 0 rfl) ?_
      refine k_topi (y := nI k) (eky.trans ek) ?_
      refine k_lald C hw 25 (by omega) h25 (by omega) (by first | decide | omega) dX8_step_129 ?_
      refine k_topl (y := su k + (rv (fst (lnP G ow rk t) rs)).toInt64) (if_pos rfl) ?_
      refine k_vv C hw 33 (by omega) h33 rfl (c_X2_put (by omega) h33 h34 h35 h36  (by omega)) kv_X8_130 rfl hl.1 ⟨Nat.le_of_ble_eq_true rfl, Nat.le_of_ble_eq_true rfl⟩ (Nat.le_of_ble_eq_true rfl) ⟨Nat.le_of_ble_eq_true rfl, Nat.le_of_ble_eq_true rfl⟩ dX8_step_130 (fun M_6 n9 H locs hp hw => ?_)
      obtain ⟨en9, hF, h33, h34, h35, h36⟩ := hp
      have en9 : n9 = n := en9
      rw [en9] at hw
      have h0 := (hF 0 (by decide)).trans h0
      have h1 := (hF 1 (by decide)).trans h1
      have h2 := (hF 2 (by decide)).trans h2
      have h22 := (hF 22 (by decide)).trans h22
      have h23 := (hF 23 (by decide)).trans h23
      have h24 := (hF 24 (by decide)).trans h24
      have h25 := (hF 25 (by decide)).trans h25
      have h26 := (hF 26 (by decide)).trans h26
      have h27 := (hF 27 (by decide)).trans h27
      have h28 := (hF 28 (by decide)).trans h28
      have h29 := (hF 29 (by decide)).trans h29
      have hFF := kF_st hFF hF (by first | decide | simp)
      refine lv_iload C.1 C.2.1 dX8_step_133 (lv_at hl 0 rfl) ?_
      rw [enum] at h34
      rw [eky] at h35
      rw [← ekn] at h24 h25 h36
      exact hret _ _ (Nat.le_of_ble_eq_true rfl) (Nat.le_of_ble_eq_true rfl) hw (⟨rfl, Or.inr (Or.inr (⟨⟨h5_, hlt⟩, eky, hFF, h24, h25, h26, h27, h28, h29, h33, h34, h35, h36⟩))⟩) dX8_step_135
    · rw [er13] at c20
      have hno := fI_eq (by omega) c20
      refine lv_bipush (v := (-106)) C.1 C.2.1 dX8_step_23 (by decide) ?_
      exact hret _ _ (Nat.le_of_ble_eq_true rfl) (Nat.le_of_ble_eq_true rfl) hw (⟨rfl, Or.inr (Or.inl ⟨⟨h5_, hno⟩, rfl, rfl⟩)⟩) dX8_step_25
  · have h5_ : ¬ isT t ta := fun z => by rw [er2, if_pos z] at c5; exact absurd c5 (by decide)
    refine lv_bipush (v := (-101)) C.1 C.2.1 dX8_step_8 (by decide) ?_
    exact hret _ _ (Nat.le_of_ble_eq_true rfl) (Nat.le_of_ble_eq_true rfl) hw (⟨rfl, Or.inl ⟨h5_, rfl, rfl⟩⟩) dX8_step_10

set_option maxHeartbeats 4000000 in
set_option maxRecDepth 100000 in
theorem c_X8_add {l : Launch} {D : va_G} {cI cJ cZ cH cR : ClassId} {b : Nat} {n : Nat} {M : Nat → va_E}  {mm : Nat} {sl : Int32} {G : Nat} {mo : Nat} {ta : Nat} {sc : Int32} {mv : Nat} {ep : Nat → Int32} {su : Nat → Int64} {key eo v : Int32} (hn : 26 ≤ n) (h0 : M 0 = .inr (8, [.ref (b + 1), .ref (b + 6), .ref (b + 22), .ref (b + 33), .ref (b + 37), .ref (b + 42), .int (nI mm), .int sl])) (h1 : M 1 = .inr (3, [.int (nI G), .int (nI mo), .int (nI ta), .int sc, .int (nI mv), .ref (b + 2), .ref (b + 3), .ref (b + 4), .ref (b + 5)])) (h3 : M 3 = .inl (cI, 32, .inl ep)) (h22 : M 22 = .inr (0, [.ref (b + 23), .ref (b + 26), .ref (b + 30)])) (h23 : M 23 = .inr (6, [.ref (b + 24), .ref (b + 25)])) (h25 : M 25 = .inl (cJ, 100, .inr (.inl su)))  (hG0 : 0 < G) (hG : G ≤ 32) : Met l yX8_add (kw yX8_add cX8_add 4 (some .int)) ({ frames := 1, cells := 0, slots := 0, locals := 23 }) (va_Pc [.ref (b + 0), .int key, .int eo, .int v] (kPre D (kT cI cJ cZ cH cR) b M n)) (va_Qi (fun (r : Int32) (u : (Nat → va_E) × Nat) => u.2 = n ∧ (((¬ isK key) ∧ r = -101 ∧ u.1 = M) ∨ ((isK key ∧ ¬ isV v) ∧ r = -102 ∧ u.1 = M) ∨ ((isK key ∧ isV v ∧ ¬ ep (gof G key) = eo) ∧ r = -104 ∧ u.1 = M) ∨ ((isK key ∧ isV v ∧ ep (gof G key) = eo) ∧ r = 1 ∧ kF [25] M u.1 ∧ u.1 25 = .inl (cJ, 100, .inr (.inl (vp_updL su (kn key) (su (kn key) + v.toInt64))))))) (kB D (kT cI cJ cZ cH cR) b) (kA b)) 0 0 (kA b) := by
  refine k_metI (by decide +kernel) (Nat.le_of_ble_eq_true rfl) ?_
  intro p e s m below meth c ls Q C hw hret hnm hl
  have hl : lv_has ls 4 [(0, .ref (b + 0)), (1, .int key), (2, .int eo), (3, .int v)] := hl
  have hFF : kF [25] M M := kF_rf
  refine lv_iload_n C.1 C.2.1 dX8_add_0 rfl (lv_at hl 1 rfl) ?_
  refine k_si C hw (c_X8_isKey   ) kv_X8_77 rfl hl.1 ⟨Nat.le_of_ble_eq_true rfl, Nat.le_of_ble_eq_true rfl⟩ (Nat.le_of_ble_eq_true rfl) ⟨Nat.le_of_ble_eq_true rfl, Nat.le_of_ble_eq_true rfl⟩ dX8_add_1 (fun r1 M_1 n9 H locs hp hw => ?_)
  obtain ⟨er1, en9, eM9⟩ := hp
  have en9 : n9 = n := en9
  rw [en9] at hw
  have eM9 : M_1 = M := eM9
  rw [eM9] at hw
  refine lv_if_ne (tgt := 10) C.1 C.2.1 dX8_add_4 (by decide) (fun c4 => ?_) (fun c4 => ?_)
  · have h4_ : isK key := Classical.byContradiction (fun z => c4 (by rw [er1, if_neg z]))
    refine lv_iload_n C.1 C.2.1 dX8_add_10 rfl (lv_at hl 3 rfl) ?_
    refine k_si C hw (c_X8_isValue   ) kv_X8_85 rfl hl.1 ⟨Nat.le_of_ble_eq_true rfl, Nat.le_of_ble_eq_true rfl⟩ (Nat.le_of_ble_eq_true rfl) ⟨Nat.le_of_ble_eq_true rfl, Nat.le_of_ble_eq_true rfl⟩ dX8_add_11 (fun r11 M_2 n9 H locs hp hw => ?_)
    obtain ⟨er11, en9, eM9⟩ := hp
    have en9 : n9 = n := en9
    rw [en9] at hw
    have eM9 : M_2 = M := eM9
    rw [eM9] at hw
    refine lv_if_ne (tgt := 20) C.1 C.2.1 dX8_add_14 (by decide) (fun c14 => ?_) (fun c14 => ?_)
    · have h14_ : isV v := Classical.byContradiction (fun z => c14 (by rw [er11, if_neg z]))
      refine lv_aload_n C.1 C.2.1 dX8_add_20 rfl (lv_at hl 0 rfl) ?_
      refine k_get C hw 0 (by omega) h0 rfl inlX8 0 (by decide) q_15 rfl dX8_add_21 ?_
      refine k_get C hw 1 (by omega) h1 rfl inlX3 6 (by decide) q_296 rfl dX8_add_24 ?_
      refine lv_aload_n C.1 C.2.1 dX8_add_27 rfl (lv_at hl 0 rfl) ?_
      refine k_get C hw 0 (by omega) h0 rfl inlX8 0 (by decide) q_15 rfl dX8_add_28 ?_
      refine lv_iload_n C.1 C.2.1 dX8_add_31 rfl (lv_at hl 1 rfl) ?_
      refine k_vi C hw 1 (by omega) h1 rfl (c_X3_groupOf (by omega) h1  (by omega) (by omega)) kv_X8_81 rfl hl.1 ⟨Nat.le_of_ble_eq_true rfl, Nat.le_of_ble_eq_true rfl⟩ (Nat.le_of_ble_eq_true rfl) ⟨Nat.le_of_ble_eq_true rfl, Nat.le_of_ble_eq_true rfl⟩ dX8_add_32 (fun r32 M_3 n9 H locs hp hw => ?_)
      obtain ⟨er32, en9, eM9⟩ := hp
      have en9 : n9 = n := en9
      rw [en9] at hw
      have eM9 : M_3 = M := eM9
      rw [eM9] at hw
      have hgl := gof_lt hG0 key
      subst er32
      refine k_iald C hw 3 (by omega) h3 (by omega) (by first | decide | omega) dX8_add_35 ?_
      refine lv_iload_n C.1 C.2.1 dX8_add_36 rfl (lv_at hl 2 rfl) ?_
      refine lv_icmp_eq (tgt := 43) C.1 C.2.1 dX8_add_37 (by decide) (fun c37 => ?_) (fun c37 => ?_)
      · obtain ⟨k, hk9, ek, ekn⟩ := isK_nI h4_
        refine lv_aload_n C.1 C.2.1 dX8_add_43 rfl (lv_at hl 0 rfl) ?_
        refine k_get C hw 0 (by omega) h0 rfl inlX8 2 (by decide) q_23 rfl dX8_add_44 ?_
        refine k_get C hw 22 (by omega) h22 rfl inlX0 0 (by decide) q_253 rfl dX8_add_47 ?_
        refine k_get C hw 23 (by omega) h23 rfl inlX6 1 (by decide) q_255 rfl dX8_add_50 ?_
        refine lv_iload_n C.1 C.2.1 dX8_add_53 rfl (lv_at hl 1 rfl) ?_
        refine k_topi (y := nI k) (ek) ?_
        refine lv_dup2_11 C.1 C.2.1 dX8_add_54 rfl rfl ?_
        refine k_lald C hw 25 (by omega) h25 (by omega) (by first | decide | omega) dX8_add_55 ?_
        refine lv_iload_n C.1 C.2.1 dX8_add_56 rfl (lv_at hl 3 rfl) ?_
        refine lv_i2l C.1 C.2.1 dX8_add_57 rfl ?_
        refine lv_ladd C.1 C.2.1 dX8_add_58 ?_
        refine k_last C hw 25 (by omega) h25 (by omega) (by first | decide | omega) dX8_add_59 (fun M_4 H locs hw h25 hF => ?_)
        have h0 := (hF 0 (by decide)).trans h0
        have h1 := (hF 1 (by decide)).trans h1
        have h3 := (hF 3 (by decide)).trans h3
        have h22 := (hF 22 (by decide)).trans h22
        have h23 := (hF 23 (by decide)).trans h23
        have hFF := kF_st hFF hF (by first | decide | simp)
        refine lv_iconst (v := nI 1) C.1 C.2.1 dX8_add_60 (by decide) ?_
        rw [← ekn] at h25
        exact hret _ _ (Nat.le_of_ble_eq_true rfl) (Nat.le_of_ble_eq_true rfl) hw (⟨rfl, Or.inr (Or.inr (Or.inr (⟨⟨h4_, h14_, c37⟩, rfl, hFF, h25⟩)))⟩) dX8_add_61
      · refine lv_bipush (v := (-104)) C.1 C.2.1 dX8_add_40 (by decide) ?_
        exact hret _ _ (Nat.le_of_ble_eq_true rfl) (Nat.le_of_ble_eq_true rfl) hw (⟨rfl, Or.inr (Or.inr (Or.inl ⟨⟨h4_, h14_, c37⟩, rfl, rfl⟩))⟩) dX8_add_42
    · have h14_ : ¬ isV v := fun z => by rw [er11, if_pos z] at c14; exact absurd c14 (by decide)
      refine lv_bipush (v := (-102)) C.1 C.2.1 dX8_add_17 (by decide) ?_
      exact hret _ _ (Nat.le_of_ble_eq_true rfl) (Nat.le_of_ble_eq_true rfl) hw (⟨rfl, Or.inr (Or.inl ⟨⟨h4_, h14_⟩, rfl, rfl⟩)⟩) dX8_add_19
  · have h4_ : ¬ isK key := fun z => by rw [er1, if_pos z] at c4; exact absurd c4 (by decide)
    refine lv_bipush (v := (-101)) C.1 C.2.1 dX8_add_7 (by decide) ?_
    exact hret _ _ (Nat.le_of_ble_eq_true rfl) (Nat.le_of_ble_eq_true rfl) hw (⟨rfl, Or.inl ⟨h4_, rfl, rfl⟩⟩) dX8_add_9

set_option maxHeartbeats 4000000 in
set_option maxRecDepth 100000 in
theorem c_X8_hot {l : Launch} {D : va_G} {cI cJ cZ cH cR : ClassId} {b : Nat} {n : Nat} {M : Nat → va_E}  {mm : Nat} {sl : Int32} {G : Nat} {mo : Nat} {ta : Nat} {sc : Int32} {mv : Nat} {we : Nat → Int32} {k : Int32} (hn : 5 ≤ n) (h0 : M 0 = .inr (8, [.ref (b + 1), .ref (b + 6), .ref (b + 22), .ref (b + 33), .ref (b + 37), .ref (b + 42), .int (nI mm), .int sl])) (h1 : M 1 = .inr (3, [.int (nI G), .int (nI mo), .int (nI ta), .int sc, .int (nI mv), .ref (b + 2), .ref (b + 3), .ref (b + 4), .ref (b + 5)])) (h4 : M 4 = .inl (cI, 32, .inl we))  (hG0 : 0 < G) (hG : G ≤ 32) : Met l yX8_hot (kw yX8_hot cX8_hot 4 (some .int)) ({ frames := 1, cells := 0, slots := 0, locals := 25 }) (va_Pc [.ref (b + 0), .int k] (kPre D (kT cI cJ cZ cH cR) b M n)) (va_Qi (fun (r : Int32) (u : (Nat → va_E) × Nat) => r = (fI (hotP G we k) G) ∧ u.2 = n ∧ u.1 = M) (kB D (kT cI cJ cZ cH cR) b) (kA b)) 0 0 (kA b) := by
  refine k_metI (by decide +kernel) (Nat.le_of_ble_eq_true rfl) ?_
  intro p e s m below meth c ls Q C hw hret hnm hl
  have hl : lv_has ls 4 [(0, .ref (b + 0)), (1, .int k)] := hl
  refine lv_aload_n C.1 C.2.1 dX8_hot_0 rfl (lv_at hl 0 rfl) ?_
  refine k_get C hw 0 (by omega) h0 rfl inlX8 0 (by decide) q_15 rfl dX8_hot_1 ?_
  refine k_vi C hw 1 (by omega) h1 rfl (c_X3_totalWeight (by omega) h1 h4  (by omega) (by omega)) kv_X8_181 rfl hl.1 ⟨Nat.le_of_ble_eq_true rfl, Nat.le_of_ble_eq_true rfl⟩ (Nat.le_of_ble_eq_true rfl) ⟨Nat.le_of_ble_eq_true rfl, Nat.le_of_ble_eq_true rfl⟩ dX8_hot_4 (fun tot0 M_1 n9 H locs hp hw => ?_)
  obtain ⟨etot0, en9, eM9⟩ := hp
  have en9 : n9 = n := en9
  rw [en9] at hw
  have eM9 : M_1 = M := eM9
  rw [eM9] at hw
  refine lv_istore_n (lv' := [(2, .int tot0), (0, .ref (b + 0)), (1, .int k)]) C.1 C.2.1 dX8_hot_7 rfl hl (by decide) rfl (fun ls hl => ?_)
  refine lv_iconst (v := nI 0) C.1 C.2.1 dX8_hot_8 (by decide) ?_
  refine lv_istore_n (lv' := [(3, .int (nI 0)), (2, .int tot0), (0, .ref (b + 0)), (1, .int k)]) C.1 C.2.1 dX8_hot_9 rfl hl (by decide) rfl (fun ls hl => ?_)
  have L10 : ∀ (N10 : Nat) (i : Nat) , (G - i < N10) → (i ≤ G) → (∀ j, j < i → hotP G we k j = false) → ∀ (ls : Array Slot) (H : Heap) (locs : List Loc), lv_has ls 4 [(3, .int (nI i)), (2, .int tot0), (0, .ref (b + 0)), (1, .int k)] → kW D b M n s.heap H locs → W p l e ({ frames := 1, cells := 0, slots := 0, locals := 25 } : Room) s m ([.ref (b + 0), .int k] : List Value).toArray below meth c H locs 0 0 Q (F0 m 10 ls []) := by
    intro N10
    induction N10 with
    | zero => intro i hm10 hi ha ls H locs hl hw; omega
    | succ N10 ih10 =>
      intro i hm10 hi ha ls H locs hl hw
      refine lv_iload_n C.1 C.2.1 dX8_hot_10 rfl (lv_at hl 0 rfl) ?_
      refine lv_aload_n C.1 C.2.1 dX8_hot_11 rfl (lv_at hl 2 rfl) ?_
      refine k_get C hw 0 (by omega) h0 rfl inlX8 0 (by decide) q_15 rfl dX8_hot_12 ?_
      refine k_get C hw 1 (by omega) h1 rfl inlX3 0 (by decide) q_306 rfl dX8_hot_15 ?_
      refine lv_icmp_ge (tgt := 53) C.1 C.2.1 dX8_hot_18 (by decide) (fun c18 => ?_) (fun c18 => ?_)
      · have q18 := (nI_leI (by omega) (by omega)).mp c18
        have q18 : i = G := by omega
        refine lv_bipush (v := (-106)) C.1 C.2.1 dX8_hot_53 (by decide) ?_
        exact hret _ _ (Nat.le_of_ble_eq_true rfl) (Nat.le_of_ble_eq_true rfl) hw (⟨(fI_none (fun j hj => ha j (by omega))).symm, rfl, rfl⟩) dX8_hot_55
      · have q18 : ¬ G ≤ i := fun z => c18 ((nI_leI (by omega) (by omega)).mpr z)
        refine lv_aload_n C.1 C.2.1 dX8_hot_21 rfl (lv_at hl 2 rfl) ?_
        refine k_get C hw 0 (by omega) h0 rfl inlX8 0 (by decide) q_15 rfl dX8_hot_22 ?_
        refine lv_iload_n C.1 C.2.1 dX8_hot_25 rfl (lv_at hl 0 rfl) ?_
        refine lv_iload_n C.1 C.2.1 dX8_hot_26 rfl (lv_at hl 1 rfl) ?_
        refine k_vi C hw 1 (by omega) h1 rfl (c_X3_isHot (by omega) h1 h4  (by omega) (by omega) (by omega)) kv_X8_185 rfl hl.1 ⟨Nat.le_of_ble_eq_true rfl, Nat.le_of_ble_eq_true rfl⟩ (Nat.le_of_ble_eq_true rfl) ⟨Nat.le_of_ble_eq_true rfl, Nat.le_of_ble_eq_true rfl⟩ dX8_hot_27 (fun r27 M_2 n9 H locs hp hw => ?_)
        obtain ⟨er27, en9, eM9⟩ := hp
        have en9 : n9 = n := en9
        rw [en9] at hw
        have eM9 : M_2 = M := eM9
        rw [eM9] at hw
        refine lv_if_eq (tgt := 47) C.1 C.2.1 dX8_hot_30 (by decide) (fun c30 => ?_) (fun c30 => ?_)
        · have hcold : we i * nI G ≤ nI 2 * sm we G := Classical.byContradiction (fun z => by rw [er27, etot0, if_neg z] at c30; exact absurd c30 (by decide))
          refine lv_iinc (v := (nI (i + 1))) (lv' := [(3, .int (nI (i + 1))), (2, .int tot0), (0, .ref (b + 0)), (1, .int k)]) C.1 C.2.1 dX8_hot_47 hl (k := 0) rfl (k_inc _ 1) (by decide) rfl (fun ls hl => ?_)
          refine lv_goto (tgt := 10) C.1 C.2.1 dX8_hot_50 (by decide) ?_
          exact ih10  (i + 1) (by omega) (by omega) (fun j hj => by rcases Nat.lt_succ_iff_lt_or_eq.mp hj with h | h; exact ha j h; rw [h]; exact by simp [hcold]) ls _ _ (lv_sub hl [0, 1, 2, 3] rfl) hw
        · have hcold : ¬ we i * nI G ≤ nI 2 * sm we G := fun z => c30 (by rw [er27, etot0, if_pos z])
          refine lv_aload_n C.1 C.2.1 dX8_hot_33 rfl (lv_at hl 2 rfl) ?_
          refine k_get C hw 0 (by omega) h0 rfl inlX8 0 (by decide) q_15 rfl dX8_hot_34 ?_
          refine lv_iload_n C.1 C.2.1 dX8_hot_37 rfl (lv_at hl 0 rfl) ?_
          refine k_vi C hw 1 (by omega) h1 rfl (c_X3_aheadOf (by omega) h1 h4  (by omega) (by omega) (by omega)) kv_X8_189 rfl hl.1 ⟨Nat.le_of_ble_eq_true rfl, Nat.le_of_ble_eq_true rfl⟩ (Nat.le_of_ble_eq_true rfl) ⟨Nat.le_of_ble_eq_true rfl, Nat.le_of_ble_eq_true rfl⟩ dX8_hot_38 (fun r38 M_3 n9 H locs hp hw => ?_)
          obtain ⟨er38, en9, eM9⟩ := hp
          have en9 : n9 = n := en9
          rw [en9] at hw
          have eM9 : M_3 = M := eM9
          rw [eM9] at hw
          refine lv_iload_n C.1 C.2.1 dX8_hot_41 rfl (lv_at hl 3 rfl) ?_
          refine lv_icmp_ne (tgt := 47) C.1 C.2.1 dX8_hot_42 (by decide) (fun c42 => ?_) (fun c42 => ?_)
          · rw [er38] at c42
            refine lv_iinc (v := (nI (i + 1))) (lv' := [(3, .int (nI (i + 1))), (2, .int tot0), (0, .ref (b + 0)), (1, .int k)]) C.1 C.2.1 dX8_hot_47 hl (k := 0) rfl (k_inc _ 1) (by decide) rfl (fun ls hl => ?_)
            refine lv_goto (tgt := 10) C.1 C.2.1 dX8_hot_50 (by decide) ?_
            exact ih10  (i + 1) (by omega) (by omega) (fun j hj => by rcases Nat.lt_succ_iff_lt_or_eq.mp hj with h | h; exact ha j h; rw [h]; exact by simp [c42]) ls _ _ (lv_sub hl [0, 1, 2, 3] rfl) hw
          · rw [er38] at c42
            refine lv_iload_n C.1 C.2.1 dX8_hot_45 rfl (lv_at hl 0 rfl) ?_
            exact hret _ _ (Nat.le_of_ble_eq_true rfl) (Nat.le_of_ble_eq_true rfl) hw (⟨by rw [fI_at ha (by simp [hcold, c42]) (by omega)], rfl, rfl⟩) dX8_hot_46
  exact L10 (_ + 1) (0) (Nat.lt_succ_self _) (Nat.zero_le _) (fun j hj => absurd hj (Nat.not_lt_zero j)) ls _ _ (lv_sub hl [0, 1, 2, 3] rfl) hw

set_option maxHeartbeats 4000000 in
set_option maxRecDepth 100000 in
theorem c_X8_timer {l : Launch} {D : va_G} {cI cJ cZ cH cR : ClassId} {b : Nat} {n : Nat} {M : Nat → va_E}  {mm : Nat} {sl : Int32} {ts : Nat} {tr : Int32} {tk : Nat → Int32} {tt : Nat → Int32} {key t : Int32} (hn : 33 ≤ n) (h0 : M 0 = .inr (8, [.ref (b + 1), .ref (b + 6), .ref (b + 22), .ref (b + 33), .ref (b + 37), .ref (b + 42), .int (nI mm), .int sl])) (h22 : M 22 = .inr (0, [.ref (b + 23), .ref (b + 26), .ref (b + 30)])) (h30 : M 30 = .inr (7, [.ref (b + 31), .ref (b + 32), .int (nI ts), .int tr])) (h31 : M 31 = .inl (cI, 40, .inl tk)) (h32 : M 32 = .inl (cI, 40, .inl tt))  (hts : ts ≤ 40) : Met l yX8_timer (kw yX8_timer cX8_timer 3 (some .int)) ({ frames := 3, cells := 0, slots := 0, locals := 69 }) (va_Pc [.ref (b + 0), .int key, .int t] (kPre D (kT cI cJ cZ cH cR) b M n)) (va_Qi (fun (r : Int32) (u : (Nat → va_E) × Nat) => u.2 = n ∧ (((¬ isK key) ∧ r = -101 ∧ u.1 = M) ∨ ((isK key ∧ ¬ (¬ t ≤ tr ∧ t ≤ nI 1000000)) ∧ r = -102 ∧ u.1 = M) ∨ ((isK key ∧ (¬ t ≤ tr ∧ t ≤ nI 1000000) ∧ ¬ ts < 40) ∧ r = -107 ∧ u.1 = M) ∨ ((isK key ∧ (¬ t ≤ tr ∧ t ≤ nI 1000000) ∧ ts < 40) ∧ r = nI (ts + 1) ∧ kF [30, 31, 32] M u.1 ∧ u.1 30 = .inr (7, [.ref (b + 31), .ref (b + 32), .int (nI (ts + 1)), .int (tr)]) ∧ u.1 31 = .inl (cI, 40, .inl (upd (va_cpy tk tk (tpl key t tk tt ts) ((tpl key t tk tt ts) + 1) (ts - (tpl key t tk tt ts))) (tpl key t tk tt ts) key)) ∧ u.1 32 = .inl (cI, 40, .inl (upd (va_cpy tt tt (tpl key t tk tt ts) ((tpl key t tk tt ts) + 1) (ts - (tpl key t tk tt ts))) (tpl key t tk tt ts) t))))) (kB D (kT cI cJ cZ cH cR) b) (kA b)) 0 0 (kA b) := by
  refine k_metI (by decide +kernel) (Nat.le_of_ble_eq_true rfl) ?_
  intro p e s m below meth c ls Q C hw hret hnm hl
  have hl : lv_has ls 3 [(0, .ref (b + 0)), (1, .int key), (2, .int t)] := hl
  have hFF : kF [30, 31, 32] M M := kF_rf
  refine lv_iload_n C.1 C.2.1 dX8_timer_0 rfl (lv_at hl 1 rfl) ?_
  refine k_si C hw (c_X8_isKey   ) kv_X8_77 rfl hl.1 ⟨Nat.le_of_ble_eq_true rfl, Nat.le_of_ble_eq_true rfl⟩ (Nat.le_of_ble_eq_true rfl) ⟨Nat.le_of_ble_eq_true rfl, Nat.le_of_ble_eq_true rfl⟩ dX8_timer_1 (fun r1 M_1 n9 H locs hp hw => ?_)
  obtain ⟨er1, en9, eM9⟩ := hp
  have en9 : n9 = n := en9
  rw [en9] at hw
  have eM9 : M_1 = M := eM9
  rw [eM9] at hw
  refine lv_if_ne (tgt := 10) C.1 C.2.1 dX8_timer_4 (by decide) (fun c4 => ?_) (fun c4 => ?_)
  · have h4_ : isK key := Classical.byContradiction (fun z => c4 (by rw [er1, if_neg z]))
    refine lv_iload_n C.1 C.2.1 dX8_timer_10 rfl (lv_at hl 2 rfl) ?_
    refine lv_aload_n C.1 C.2.1 dX8_timer_11 rfl (lv_at hl 0 rfl) ?_
    refine k_get C hw 0 (by omega) h0 rfl inlX8 2 (by decide) q_23 rfl dX8_timer_12 ?_
    refine k_get C hw 22 (by omega) h22 rfl inlX0 2 (by decide) q_179 rfl dX8_timer_15 ?_
    refine k_get C hw 30 (by omega) h30 rfl inlX7 3 (by decide) q_492 rfl dX8_timer_18 ?_
    refine lv_icmp_le (tgt := 30) C.1 C.2.1 dX8_timer_21 (by decide) (fun c21 => ?_) (fun c21 => ?_)
    · refine lv_bipush (v := (-102)) C.1 C.2.1 dX8_timer_30 (by decide) ?_
      exact hret _ _ (Nat.le_of_ble_eq_true rfl) (Nat.le_of_ble_eq_true rfl) hw (⟨rfl, Or.inr (Or.inl ⟨⟨h4_, fun z => z.1 c21⟩, rfl, rfl⟩)⟩) dX8_timer_32
    · refine lv_iload_n C.1 C.2.1 dX8_timer_24 rfl (lv_at hl 2 rfl) ?_
      refine lv_ldc C.1 C.2.1 C.2.2.2.1 (C.2.2.2.2.1 _ q_493) dX8_timer_25 ?_
      refine k_topi (y := nI 1000000) (by decide) ?_
      refine lv_icmp_le (tgt := 33) C.1 C.2.1 dX8_timer_27 (by decide) (fun c27 => ?_) (fun c27 => ?_)
      · refine lv_aload_n C.1 C.2.1 dX8_timer_33 rfl (lv_at hl 0 rfl) ?_
        refine k_get C hw 0 (by omega) h0 rfl inlX8 2 (by decide) q_23 rfl dX8_timer_34 ?_
        refine k_get C hw 22 (by omega) h22 rfl inlX0 2 (by decide) q_179 rfl dX8_timer_37 ?_
        refine k_get C hw 30 (by omega) h30 rfl inlX7 2 (by decide) q_180 rfl dX8_timer_40 ?_
        refine lv_bipush (v := nI 40) C.1 C.2.1 dX8_timer_43 (by decide) ?_
        refine lv_icmp_lt (tgt := 51) C.1 C.2.1 dX8_timer_45 (by decide) (fun c45 => ?_) (fun c45 => ?_)
        · have hc : ts < 40 := (nI_ltI (by omega) (by omega)).mp c45
          refine lv_aload_n C.1 C.2.1 dX8_timer_51 rfl (lv_at hl 0 rfl) ?_
          refine k_get C hw 0 (by omega) h0 rfl inlX8 2 (by decide) q_23 rfl dX8_timer_52 ?_
          refine k_get C hw 22 (by omega) h22 rfl inlX0 2 (by decide) q_179 rfl dX8_timer_55 ?_
          refine lv_iload_n C.1 C.2.1 dX8_timer_58 rfl (lv_at hl 1 rfl) ?_
          refine lv_iload_n C.1 C.2.1 dX8_timer_59 rfl (lv_at hl 2 rfl) ?_
          refine k_vv C hw 30 (by omega) h30 rfl (c_X7_enter (by omega) h30 h31 h32  (by omega)) kv_X8_196 rfl hl.1 ⟨Nat.le_of_ble_eq_true rfl, Nat.le_of_ble_eq_true rfl⟩ (Nat.le_of_ble_eq_true rfl) ⟨Nat.le_of_ble_eq_true rfl, Nat.le_of_ble_eq_true rfl⟩ dX8_timer_60 (fun M_2 n9 H locs hp hw => ?_)
          obtain ⟨en9, hF, h30, h31, h32⟩ := hp
          have en9 : n9 = n := en9
          rw [en9] at hw
          have h0 := (hF 0 (by decide)).trans h0
          have h22 := (hF 22 (by decide)).trans h22
          have hFF := kF_st hFF hF (by first | decide | simp)
          refine lv_aload_n C.1 C.2.1 dX8_timer_63 rfl (lv_at hl 0 rfl) ?_
          refine k_get C hw 0 (by omega) h0 rfl inlX8 2 (by decide) q_23 rfl dX8_timer_64 ?_
          refine k_get C hw 22 (by omega) h22 rfl inlX0 2 (by decide) q_179 rfl dX8_timer_67 ?_
          refine k_get C hw 30 (by omega) h30 rfl inlX7 2 (by decide) q_180 rfl dX8_timer_70 ?_
          exact hret _ _ (Nat.le_of_ble_eq_true rfl) (Nat.le_of_ble_eq_true rfl) hw (⟨rfl, Or.inr (Or.inr (Or.inr (⟨⟨h4_, ⟨c21, c27⟩, hc⟩, rfl, hFF, h30, h31, h32⟩)))⟩) dX8_timer_73
        · have hc : ¬ ts < 40 := fun z => c45 (nI_lt z (by omega))
          refine lv_bipush (v := (-107)) C.1 C.2.1 dX8_timer_48 (by decide) ?_
          exact hret _ _ (Nat.le_of_ble_eq_true rfl) (Nat.le_of_ble_eq_true rfl) hw (⟨rfl, Or.inr (Or.inr (Or.inl ⟨⟨h4_, ⟨c21, c27⟩, hc⟩, rfl, rfl⟩))⟩) dX8_timer_50
      · refine lv_bipush (v := (-102)) C.1 C.2.1 dX8_timer_30 (by decide) ?_
        exact hret _ _ (Nat.le_of_ble_eq_true rfl) (Nat.le_of_ble_eq_true rfl) hw (⟨rfl, Or.inr (Or.inl ⟨⟨h4_, fun z => c27 z.2⟩, rfl, rfl⟩)⟩) dX8_timer_32
  · have h4_ : ¬ isK key := fun z => by rw [er1, if_pos z] at c4; exact absurd c4 (by decide)
    refine lv_bipush (v := (-101)) C.1 C.2.1 dX8_timer_7 (by decide) ?_
    exact hret _ _ (Nat.le_of_ble_eq_true rfl) (Nat.le_of_ble_eq_true rfl) hw (⟨rfl, Or.inl ⟨h4_, rfl, rfl⟩⟩) dX8_timer_9

set_option maxHeartbeats 4000000 in
set_option maxRecDepth 100000 in
theorem c_X8_out {l : Launch} {D : va_G} {cI cJ cZ cH cR : ClassId} {b : Nat} {n : Nat} {M : Nat → va_E}  {mm : Nat} {sl : Int32} {os : Nat} {on_ : Nat → Int32} {ok_ : Nat → Int32} {oz : Nat → Int64} {k w : Int32} (hn : 37 ≤ n) (h0 : M 0 = .inr (8, [.ref (b + 1), .ref (b + 6), .ref (b + 22), .ref (b + 33), .ref (b + 37), .ref (b + 42), .int (nI mm), .int sl])) (h33 : M 33 = .inr (2, [.ref (b + 34), .ref (b + 35), .ref (b + 36), .int (nI os)])) (h34 : M 34 = .inl (cI, 400, .inl on_)) (h35 : M 35 = .inl (cI, 400, .inl ok_)) (h36 : M 36 = .inl (cJ, 400, .inr (.inl oz)))  (ho : os ≤ 400) : Met l yX8_out (kw yX8_out cX8_out 3 (some .long)) ({ frames := 0, cells := 0, slots := 0, locals := 0 }) (va_Pc [.ref (b + 0), .int k, .int w] (kPre D (kT cI cJ cZ cH cR) b M n)) (va_Ql (fun (r : Int64) (u : (Nat → va_E) × Nat) => r = (if ¬ w < 0 ∧ w ≤ nI 2 then (if isT k os then selL w [(on_ (kn k)).toInt64, (ok_ (kn k)).toInt64, oz (kn k)] else -106) else -102) ∧ u.2 = n ∧ u.1 = M) (kB D (kT cI cJ cZ cH cR) b) (kA b)) 0 0 (kA b) := by
  refine k_metL (by decide +kernel) (Nat.le_of_ble_eq_true rfl) ?_
  intro p e s m below meth c ls Q C hw hret hnm hl
  have hl : lv_has ls 3 [(0, .ref (b + 0)), (1, .int k), (2, .int w)] := hl
  refine lv_iload_n C.1 C.2.1 dX8_out_0 rfl (lv_at hl 2 rfl) ?_
  refine lv_if_lt (tgt := 9) C.1 C.2.1 dX8_out_1 (by decide) (fun c1 => ?_) (fun c1 => ?_)
  · refine lv_ldc2 C.1 C.2.1 C.2.2.2.1 (C.2.2.2.2.1 _ q_557) dX8_out_9 ?_
    exact hret _ _ (Nat.le_of_ble_eq_true rfl) (Nat.le_of_ble_eq_true rfl) hw (⟨by rw [if_neg (fun z => z.1 c1)], rfl, rfl⟩) dX8_out_12
  · refine lv_iload_n C.1 C.2.1 dX8_out_4 rfl (lv_at hl 2 rfl) ?_
    refine lv_iconst (v := nI 2) C.1 C.2.1 dX8_out_5 (by decide) ?_
    refine lv_icmp_le (tgt := 13) C.1 C.2.1 dX8_out_6 (by decide) (fun c6 => ?_) (fun c6 => ?_)
    · refine lv_iload_n C.1 C.2.1 dX8_out_13 rfl (lv_at hl 1 rfl) ?_
      refine lv_if_lt (tgt := 28) C.1 C.2.1 dX8_out_14 (by decide) (fun c14 => ?_) (fun c14 => ?_)
      · refine lv_ldc2 C.1 C.2.1 C.2.2.2.1 (C.2.2.2.2.1 _ q_559) dX8_out_28 ?_
        exact hret _ _ (Nat.le_of_ble_eq_true rfl) (Nat.le_of_ble_eq_true rfl) hw (⟨by rw [if_pos ⟨c1, c6⟩, if_neg (fun z => z.1 c14)], rfl, rfl⟩) dX8_out_31
      · refine lv_iload_n C.1 C.2.1 dX8_out_17 rfl (lv_at hl 1 rfl) ?_
        refine lv_aload_n C.1 C.2.1 dX8_out_18 rfl (lv_at hl 0 rfl) ?_
        refine k_get C hw 0 (by omega) h0 rfl inlX8 3 (by decide) q_27 rfl dX8_out_19 ?_
        refine k_get C hw 33 (by omega) h33 rfl inlX2 3 (by decide) q_558 rfl dX8_out_22 ?_
        refine lv_icmp_lt (tgt := 32) C.1 C.2.1 dX8_out_25 (by decide) (fun c25 => ?_) (fun c25 => ?_)
        · have ht : isT k os := ⟨c14, Int32.not_le.mpr c25⟩
          obtain ⟨j, hj, ej, ejn⟩ := isT_nI (by omega) ht
          refine lv_iload_n C.1 C.2.1 dX8_out_32 rfl (lv_at hl 2 rfl) ?_
          rcases (show (w).toInt = 0 ∨ (w).toInt = 1 ∨ (w).toInt = 2 from by have h1 := Int32.not_lt.mp c1; have h2 := Int32.le_iff_toInt_le.mp h1; have h3 := Int32.le_iff_toInt_le.mp c6; have h4 : (nI 2).toInt = 2 := (by decide); have h5 : (0 : Int32).toInt = 0 := (by decide); omega) with hsw | hsw | hsw
          · refine lv_lookup (off := 27) (tgt := 60) C.1 C.2.1 dX8_out_33 (by decide) (by rw [hsw]; decide) (by decide) ?_
            refine lv_aload_n C.1 C.2.1 dX8_out_60 rfl (lv_at hl 0 rfl) ?_
            refine k_get C hw 0 (by omega) h0 rfl inlX8 3 (by decide) q_27 rfl dX8_out_61 ?_
            refine k_get C hw 33 (by omega) h33 rfl inlX2 0 (by decide) q_560 rfl dX8_out_64 ?_
            refine lv_iload_n C.1 C.2.1 dX8_out_67 rfl (lv_at hl 1 rfl) ?_
            refine k_topi (y := nI j) (ej) ?_
            refine k_iald C hw 34 (by omega) h34 (by omega) (by first | decide | omega) dX8_out_68 ?_
            refine lv_i2l C.1 C.2.1 dX8_out_69 rfl ?_
            exact hret _ _ (Nat.le_of_ble_eq_true rfl) (Nat.le_of_ble_eq_true rfl) hw (⟨by rw [if_pos ⟨c1, c6⟩, if_pos ht, ejn]; exact (selL_at 0 hsw rfl).symm, rfl, rfl⟩) dX8_out_70
          · refine lv_lookup (off := 38) (tgt := 71) C.1 C.2.1 dX8_out_33 (by decide) (by rw [hsw]; decide) (by decide) ?_
            refine lv_aload_n C.1 C.2.1 dX8_out_71 rfl (lv_at hl 0 rfl) ?_
            refine k_get C hw 0 (by omega) h0 rfl inlX8 3 (by decide) q_27 rfl dX8_out_72 ?_
            refine k_get C hw 33 (by omega) h33 rfl inlX2 1 (by decide) q_561 rfl dX8_out_75 ?_
            refine lv_iload_n C.1 C.2.1 dX8_out_78 rfl (lv_at hl 1 rfl) ?_
            refine k_topi (y := nI j) (ej) ?_
            refine k_iald C hw 35 (by omega) h35 (by omega) (by first | decide | omega) dX8_out_79 ?_
            refine lv_i2l C.1 C.2.1 dX8_out_80 rfl ?_
            exact hret _ _ (Nat.le_of_ble_eq_true rfl) (Nat.le_of_ble_eq_true rfl) hw (⟨by rw [if_pos ⟨c1, c6⟩, if_pos ht, ejn]; exact (selL_at 1 hsw rfl).symm, rfl, rfl⟩) dX8_out_81
          · refine lv_lookup (off := 49) (tgt := 82) C.1 C.2.1 dX8_out_33 (by decide) (by rw [hsw]; decide) (by decide) ?_
            refine lv_aload_n C.1 C.2.1 dX8_out_82 rfl (lv_at hl 0 rfl) ?_
            refine k_get C hw 0 (by omega) h0 rfl inlX8 3 (by decide) q_27 rfl dX8_out_83 ?_
            refine k_get C hw 33 (by omega) h33 rfl inlX2 2 (by decide) q_562 rfl dX8_out_86 ?_
            refine lv_iload_n C.1 C.2.1 dX8_out_89 rfl (lv_at hl 1 rfl) ?_
            refine k_topi (y := nI j) (ej) ?_
            refine k_lald C hw 36 (by omega) h36 (by omega) (by first | decide | omega) dX8_out_90 ?_
            exact hret _ _ (Nat.le_of_ble_eq_true rfl) (Nat.le_of_ble_eq_true rfl) hw (⟨by rw [if_pos ⟨c1, c6⟩, if_pos ht, ejn]; exact (selL_at 2 hsw rfl).symm, rfl, rfl⟩) dX8_out_91
        · refine lv_ldc2 C.1 C.2.1 C.2.2.2.1 (C.2.2.2.2.1 _ q_559) dX8_out_28 ?_
          exact hret _ _ (Nat.le_of_ble_eq_true rfl) (Nat.le_of_ble_eq_true rfl) hw (⟨by rw [if_pos ⟨c1, c6⟩, if_neg (fun z => z.2 (Int32.not_lt.mp c25))], rfl, rfl⟩) dX8_out_31
    · refine lv_ldc2 C.1 C.2.1 C.2.2.2.1 (C.2.2.2.2.1 _ q_557) dX8_out_9 ?_
      exact hret _ _ (Nat.le_of_ble_eq_true rfl) (Nat.le_of_ble_eq_true rfl) hw (⟨by rw [if_neg (fun z => c6 z.2)], rfl, rfl⟩) dX8_out_12

set_option maxHeartbeats 4000000 in
set_option maxRecDepth 100000 in
theorem c_X8_log {l : Launch} {D : va_G} {cI cJ cZ cH cR : ClassId} {b : Nat} {n : Nat} {M : Nat → va_E}  {mm : Nat} {sl : Int32} {lx : Nat} {lz : Nat} {lk : Nat → Int32} {lt : Nat → Int32} {lc : Nat → Int32} {ly : Nat → Int64} {k w : Int32} (hn : 42 ≤ n) (h0 : M 0 = .inr (8, [.ref (b + 1), .ref (b + 6), .ref (b + 22), .ref (b + 33), .ref (b + 37), .ref (b + 42), .int (nI mm), .int sl])) (h37 : M 37 = .inr (1, [.ref (b + 38), .ref (b + 39), .ref (b + 40), .ref (b + 41), .int (nI lx), .int (nI lz)])) (h38 : M 38 = .inl (cI, 32, .inl lk)) (h39 : M 39 = .inl (cI, 32, .inl lt)) (h40 : M 40 = .inl (cI, 32, .inl lc)) (h41 : M 41 = .inl (cJ, 32, .inr (.inl ly)))  (hx : lx < 32) (hz : lz ≤ 32) : Met l yX8_log (kw yX8_log cX8_log 4 (some .long)) ({ frames := 2, cells := 0, slots := 0, locals := 43 }) (va_Pc [.ref (b + 0), .int k, .int w] (kPre D (kT cI cJ cZ cH cR) b M n)) (va_Ql (fun (r : Int64) (u : (Nat → va_E) × Nat) => r = (if ¬ w < 0 ∧ w ≤ nI 3 then (if isT k lz then selL w [(lk ((lx + 63 - kn k) % 32)).toInt64, (lt ((lx + 63 - kn k) % 32)).toInt64, (lc ((lx + 63 - kn k) % 32)).toInt64, ly ((lx + 63 - kn k) % 32)] else -106) else -102) ∧ u.2 = n ∧ u.1 = M) (kB D (kT cI cJ cZ cH cR) b) (kA b)) 0 0 (kA b) := by
  refine k_metL (by decide +kernel) (Nat.le_of_ble_eq_true rfl) ?_
  intro p e s m below meth c ls Q C hw hret hnm hl
  have hl : lv_has ls 4 [(0, .ref (b + 0)), (1, .int k), (2, .int w)] := hl
  refine lv_iload_n C.1 C.2.1 dX8_log_0 rfl (lv_at hl 2 rfl) ?_
  refine lv_if_lt (tgt := 9) C.1 C.2.1 dX8_log_1 (by decide) (fun c1 => ?_) (fun c1 => ?_)
  · refine lv_ldc2 C.1 C.2.1 C.2.2.2.1 (C.2.2.2.2.1 _ q_557) dX8_log_9 ?_
    exact hret _ _ (Nat.le_of_ble_eq_true rfl) (Nat.le_of_ble_eq_true rfl) hw (⟨by rw [if_neg (fun z => z.1 c1)], rfl, rfl⟩) dX8_log_12
  · refine lv_iload_n C.1 C.2.1 dX8_log_4 rfl (lv_at hl 2 rfl) ?_
    refine lv_iconst (v := nI 3) C.1 C.2.1 dX8_log_5 (by decide) ?_
    refine lv_icmp_le (tgt := 13) C.1 C.2.1 dX8_log_6 (by decide) (fun c6 => ?_) (fun c6 => ?_)
    · refine lv_iload_n C.1 C.2.1 dX8_log_13 rfl (lv_at hl 1 rfl) ?_
      refine lv_if_lt (tgt := 28) C.1 C.2.1 dX8_log_14 (by decide) (fun c14 => ?_) (fun c14 => ?_)
      · refine lv_ldc2 C.1 C.2.1 C.2.2.2.1 (C.2.2.2.2.1 _ q_559) dX8_log_28 ?_
        exact hret _ _ (Nat.le_of_ble_eq_true rfl) (Nat.le_of_ble_eq_true rfl) hw (⟨by rw [if_pos ⟨c1, c6⟩, if_neg (fun z => z.1 c14)], rfl, rfl⟩) dX8_log_31
      · refine lv_iload_n C.1 C.2.1 dX8_log_17 rfl (lv_at hl 1 rfl) ?_
        refine lv_aload_n C.1 C.2.1 dX8_log_18 rfl (lv_at hl 0 rfl) ?_
        refine k_get C hw 0 (by omega) h0 rfl inlX8 4 (by decide) q_31 rfl dX8_log_19 ?_
        refine k_get C hw 37 (by omega) h37 rfl inlX1 5 (by decide) q_573 rfl dX8_log_22 ?_
        refine lv_icmp_lt (tgt := 32) C.1 C.2.1 dX8_log_25 (by decide) (fun c25 => ?_) (fun c25 => ?_)
        · have ht : isT k lz := ⟨c14, Int32.not_le.mpr c25⟩
          obtain ⟨j, hj, ej, ejn⟩ := isT_nI (by omega) ht
          refine lv_aload_n C.1 C.2.1 dX8_log_32 rfl (lv_at hl 0 rfl) ?_
          refine k_get C hw 0 (by omega) h0 rfl inlX8 4 (by decide) q_31 rfl dX8_log_33 ?_
          refine lv_iload_n C.1 C.2.1 dX8_log_36 rfl (lv_at hl 1 rfl) ?_
          refine k_topi (y := nI j) (ej) ?_
          refine k_vi C hw 37 (by omega) h37 rfl (c_X1_placeOf (by omega) h37  (hx) (by omega)) kv_X8_222 rfl hl.1 ⟨Nat.le_of_ble_eq_true rfl, Nat.le_of_ble_eq_true rfl⟩ (Nat.le_of_ble_eq_true rfl) ⟨Nat.le_of_ble_eq_true rfl, Nat.le_of_ble_eq_true rfl⟩ dX8_log_37 (fun r37 M_1 n9 H locs hp hw => ?_)
          obtain ⟨er37, en9, eM9⟩ := hp
          have en9 : n9 = n := en9
          rw [en9] at hw
          have eM9 : M_1 = M := eM9
          rw [eM9] at hw
          have hpl : (lx + 63 - j) % 32 < 32 := Nat.mod_lt _ (by decide)
          subst er37
          refine lv_istore_n (lv' := [(3, .int (nI ((lx + 63 - j) % 32))), (0, .ref (b + 0)), (1, .int k), (2, .int w)]) C.1 C.2.1 dX8_log_40 rfl hl (by decide) rfl (fun ls hl => ?_)
          refine lv_iload_n C.1 C.2.1 dX8_log_41 rfl (lv_at hl 3 rfl) ?_
          rcases k_sw (x := w) (lo := 0) (hi := 2) with hsw | ⟨k9, hk1, hk2, hsw⟩
          · refine lv_tableOut (tgt := 101) C.1 C.2.1 dX8_log_42 hsw (by decide) ?_
            have hsw : w.toInt = 3 := by have h1 := Int32.not_lt.mp c1; have h2 := Int32.le_iff_toInt_le.mp h1; have h3 := Int32.le_iff_toInt_le.mp c6; have h4 : (nI 3).toInt = 3 := (by decide); have h5 : (0 : Int32).toInt = 0 := (by decide); omega
            refine lv_aload_n C.1 C.2.1 dX8_log_101 rfl (lv_at hl 1 rfl) ?_
            refine k_get C hw 0 (by omega) h0 rfl inlX8 4 (by decide) q_31 rfl dX8_log_102 ?_
            refine k_get C hw 37 (by omega) h37 rfl inlX1 3 (by decide) q_577 rfl dX8_log_105 ?_
            refine lv_iload_n C.1 C.2.1 dX8_log_108 rfl (lv_at hl 0 rfl) ?_
            refine k_lald C hw 41 (by omega) h41 (by omega) (by first | decide | omega) dX8_log_109 ?_
            exact hret _ _ (Nat.le_of_ble_eq_true rfl) (Nat.le_of_ble_eq_true rfl) hw (⟨by rw [if_pos ⟨c1, c6⟩, if_pos ht, ejn]; exact (selL_at 3 hsw rfl).symm, rfl, rfl⟩) dX8_log_110
          · rcases (show k9 = 0 ∨ k9 = 1 ∨ k9 = 2 by omega) with rfl | rfl | rfl
            · refine lv_tableIn (off := 26) (tgt := 68) C.1 C.2.1 dX8_log_42 (by rw [hsw]; decide) (by rw [hsw]; decide) (by rw [hsw]; decide) (by decide) ?_
              refine lv_aload_n C.1 C.2.1 dX8_log_68 rfl (lv_at hl 1 rfl) ?_
              refine k_get C hw 0 (by omega) h0 rfl inlX8 4 (by decide) q_31 rfl dX8_log_69 ?_
              refine k_get C hw 37 (by omega) h37 rfl inlX1 0 (by decide) q_574 rfl dX8_log_72 ?_
              refine lv_iload_n C.1 C.2.1 dX8_log_75 rfl (lv_at hl 0 rfl) ?_
              refine k_iald C hw 38 (by omega) h38 (by omega) (by first | decide | omega) dX8_log_76 ?_
              refine lv_i2l C.1 C.2.1 dX8_log_77 rfl ?_
              exact hret _ _ (Nat.le_of_ble_eq_true rfl) (Nat.le_of_ble_eq_true rfl) hw (⟨by rw [if_pos ⟨c1, c6⟩, if_pos ht, ejn]; exact (selL_at 0 hsw rfl).symm, rfl, rfl⟩) dX8_log_78
            · refine lv_tableIn (off := 37) (tgt := 79) C.1 C.2.1 dX8_log_42 (by rw [hsw]; decide) (by rw [hsw]; decide) (by rw [hsw]; decide) (by decide) ?_
              refine lv_aload_n C.1 C.2.1 dX8_log_79 rfl (lv_at hl 1 rfl) ?_
              refine k_get C hw 0 (by omega) h0 rfl inlX8 4 (by decide) q_31 rfl dX8_log_80 ?_
              refine k_get C hw 37 (by omega) h37 rfl inlX1 1 (by decide) q_575 rfl dX8_log_83 ?_
              refine lv_iload_n C.1 C.2.1 dX8_log_86 rfl (lv_at hl 0 rfl) ?_
              refine k_iald C hw 39 (by omega) h39 (by omega) (by first | decide | omega) dX8_log_87 ?_
              refine lv_i2l C.1 C.2.1 dX8_log_88 rfl ?_
              exact hret _ _ (Nat.le_of_ble_eq_true rfl) (Nat.le_of_ble_eq_true rfl) hw (⟨by rw [if_pos ⟨c1, c6⟩, if_pos ht, ejn]; exact (selL_at 1 hsw rfl).symm, rfl, rfl⟩) dX8_log_89
            · refine lv_tableIn (off := 48) (tgt := 90) C.1 C.2.1 dX8_log_42 (by rw [hsw]; decide) (by rw [hsw]; decide) (by rw [hsw]; decide) (by decide) ?_
              refine lv_aload_n C.1 C.2.1 dX8_log_90 rfl (lv_at hl 1 rfl) ?_
              refine k_get C hw 0 (by omega) h0 rfl inlX8 4 (by decide) q_31 rfl dX8_log_91 ?_
              refine k_get C hw 37 (by omega) h37 rfl inlX1 2 (by decide) q_576 rfl dX8_log_94 ?_
              refine lv_iload_n C.1 C.2.1 dX8_log_97 rfl (lv_at hl 0 rfl) ?_
              refine k_iald C hw 40 (by omega) h40 (by omega) (by first | decide | omega) dX8_log_98 ?_
              refine lv_i2l C.1 C.2.1 dX8_log_99 rfl ?_
              exact hret _ _ (Nat.le_of_ble_eq_true rfl) (Nat.le_of_ble_eq_true rfl) hw (⟨by rw [if_pos ⟨c1, c6⟩, if_pos ht, ejn]; exact (selL_at 2 hsw rfl).symm, rfl, rfl⟩) dX8_log_100
        · refine lv_ldc2 C.1 C.2.1 C.2.2.2.1 (C.2.2.2.2.1 _ q_559) dX8_log_28 ?_
          exact hret _ _ (Nat.le_of_ble_eq_true rfl) (Nat.le_of_ble_eq_true rfl) hw (⟨by rw [if_pos ⟨c1, c6⟩, if_neg (fun z => z.2 (Int32.not_lt.mp c25))], rfl, rfl⟩) dX8_log_31
    · refine lv_ldc2 C.1 C.2.1 C.2.2.2.1 (C.2.2.2.2.1 _ q_557) dX8_log_9 ?_
      exact hret _ _ (Nat.le_of_ble_eq_true rfl) (Nat.le_of_ble_eq_true rfl) hw (⟨by rw [if_neg (fun z => c6 z.2)], rfl, rfl⟩) dX8_log_12

set_option maxHeartbeats 4000000 in
set_option maxRecDepth 100000 in
theorem c_X8_clear {l : Launch} {D : va_G} {cI cJ cZ cH cR : ClassId} {b : Nat} {n : Nat} {M : Nat → va_E}  {mm : Nat} {sl : Int32} {G : Nat} {mo : Nat} {ta : Nat} {sc : Int32} {mv : Nat} {ow : Nat → Int32} {ep : Nat → Int32} {we : Nat → Int32} {ct : Nat → Int32} {su : Nat → Int64} {rs : Nat} {ca : Nat} {ts : Nat} {tr : Int32} {os : Nat} {lx : Nat} {lz : Nat}  (hn : 38 ≤ n) (h0 : M 0 = .inr (8, [.ref (b + 1), .ref (b + 6), .ref (b + 22), .ref (b + 33), .ref (b + 37), .ref (b + 42), .int (nI mm), .int sl])) (h1 : M 1 = .inr (3, [.int (nI G), .int (nI mo), .int (nI ta), .int sc, .int (nI mv), .ref (b + 2), .ref (b + 3), .ref (b + 4), .ref (b + 5)])) (h2 : M 2 = .inl (cI, 32, .inl ow)) (h3 : M 3 = .inl (cI, 32, .inl ep)) (h4 : M 4 = .inl (cI, 32, .inl we)) (h22 : M 22 = .inr (0, [.ref (b + 23), .ref (b + 26), .ref (b + 30)])) (h23 : M 23 = .inr (6, [.ref (b + 24), .ref (b + 25)])) (h24 : M 24 = .inl (cI, 100, .inl ct)) (h25 : M 25 = .inl (cJ, 100, .inr (.inl su))) (h26 : M 26 = .inr (5, [.ref (b + 27), .ref (b + 28), .ref (b + 29), .int (nI rs), .int (nI ca)])) (h30 : M 30 = .inr (7, [.ref (b + 31), .ref (b + 32), .int (nI ts), .int tr])) (h33 : M 33 = .inr (2, [.ref (b + 34), .ref (b + 35), .ref (b + 36), .int (nI os)])) (h37 : M 37 = .inr (1, [.ref (b + 38), .ref (b + 39), .ref (b + 40), .ref (b + 41), .int (nI lx), .int (nI lz)]))   : Met l yX8_clear (kw yX8_clear cX8_clear 2 (some .int)) ({ frames := 3, cells := 0, slots := 0, locals := 65 }) (va_Pc [.ref (b + 0)] (kPre D (kT cI cJ cZ cH cR) b M n)) (va_Qi (fun (r : Int32) (u : (Nat → va_E) × Nat) => r = (nI ca) ∧ u.2 = n ∧ kF [0, 1, 2, 3, 4, 24, 25, 26, 30, 33, 37] M u.1 ∧ u.1 0 = .inr (8, [.ref (b + 1), .ref (b + 6), .ref (b + 22), .ref (b + 33), .ref (b + 37), .ref (b + 42), .int (nI 0), .int (nI 20)]) ∧ u.1 1 = .inr (3, [.int (nI 8), .int (nI 4), .int (nI 1), .int (nI 0), .int (nI 0), .ref (b + 2), .ref (b + 3), .ref (b + 4), .ref (b + 5)]) ∧ u.1 2 = .inl (cI, 32, .inl (fun _ => 0)) ∧ u.1 3 = .inl (cI, 32, .inl (fun _ => 1)) ∧ u.1 4 = .inl (cI, 32, .inl (fun _ => 0)) ∧ u.1 24 = .inl (cI, 100, .inl (fun _ => 0)) ∧ u.1 25 = .inl (cJ, 100, .inr (.inl (fun _ => 0))) ∧ u.1 26 = .inr (5, [.ref (b + 27), .ref (b + 28), .ref (b + 29), .int (nI 0), .int (nI 0)]) ∧ u.1 30 = .inr (7, [.ref (b + 31), .ref (b + 32), .int (nI 0), .int (nI 0)]) ∧ u.1 33 = .inr (2, [.ref (b + 34), .ref (b + 35), .ref (b + 36), .int (nI 0)]) ∧ u.1 37 = .inr (1, [.ref (b + 38), .ref (b + 39), .ref (b + 40), .ref (b + 41), .int (nI lx), .int (nI 0)])) (kB D (kT cI cJ cZ cH cR) b) (kA b)) 0 0 (kA b) := by
  refine k_metI (by decide +kernel) (Nat.le_of_ble_eq_true rfl) ?_
  intro p e s m below meth c ls Q C hw hret hnm hl
  have hl : lv_has ls 2 [(0, .ref (b + 0))] := hl
  have hFF : kF [0, 1, 2, 3, 4, 24, 25, 26, 30, 33, 37] M M := kF_rf
  refine lv_aload_n C.1 C.2.1 dX8_clear_0 rfl (lv_at hl 0 rfl) ?_
  refine k_get C hw 0 (by omega) h0 rfl inlX8 2 (by decide) q_23 rfl dX8_clear_1 ?_
  refine k_get C hw 22 (by omega) h22 rfl inlX0 1 (by decide) q_177 rfl dX8_clear_4 ?_
  refine k_get C hw 26 (by omega) h26 rfl inlX5 4 (by decide) q_178 rfl dX8_clear_7 ?_
  refine lv_istore_n (lv' := [(1, .int (nI ca)), (0, .ref (b + 0))]) C.1 C.2.1 dX8_clear_10 rfl hl (by decide) rfl (fun ls hl => ?_)
  refine lv_aload_n C.1 C.2.1 dX8_clear_11 rfl (lv_at hl 1 rfl) ?_
  refine k_get C hw 0 (by omega) h0 rfl inlX8 0 (by decide) q_15 rfl dX8_clear_12 ?_
  refine k_vv C hw 1 (by omega) h1 rfl (c_X3_begin (by omega) h1 h2 h3 h4  ) kv_X8_244 rfl hl.1 ⟨Nat.le_of_ble_eq_true rfl, Nat.le_of_ble_eq_true rfl⟩ (Nat.le_of_ble_eq_true rfl) ⟨Nat.le_of_ble_eq_true rfl, Nat.le_of_ble_eq_true rfl⟩ dX8_clear_15 (fun M_1 n9 H locs hp hw => ?_)
  obtain ⟨en9, hF, h1, h2, h3, h4⟩ := hp
  have en9 : n9 = n := en9
  rw [en9] at hw
  have h0 := (hF 0 (by decide)).trans h0
  have h22 := (hF 22 (by decide)).trans h22
  have h23 := (hF 23 (by decide)).trans h23
  have h24 := (hF 24 (by decide)).trans h24
  have h25 := (hF 25 (by decide)).trans h25
  have h26 := (hF 26 (by decide)).trans h26
  have h30 := (hF 30 (by decide)).trans h30
  have h33 := (hF 33 (by decide)).trans h33
  have h37 := (hF 37 (by decide)).trans h37
  have hFF := kF_st hFF hF (by first | decide | simp)
  refine lv_aload_n C.1 C.2.1 dX8_clear_18 rfl (lv_at hl 1 rfl) ?_
  refine k_get C hw 0 (by omega) h0 rfl inlX8 2 (by decide) q_23 rfl dX8_clear_19 ?_
  refine k_vv C hw 22 (by omega) h22 rfl (c_X0_begin (by omega) h22 h23 h24 h25 h26 h30  ) kv_X8_247 rfl hl.1 ⟨Nat.le_of_ble_eq_true rfl, Nat.le_of_ble_eq_true rfl⟩ (Nat.le_of_ble_eq_true rfl) ⟨Nat.le_of_ble_eq_true rfl, Nat.le_of_ble_eq_true rfl⟩ dX8_clear_22 (fun M_2 n9 H locs hp hw => ?_)
  obtain ⟨en9, hF, h24, h25, h26, h30⟩ := hp
  have en9 : n9 = n := en9
  rw [en9] at hw
  have h0 := (hF 0 (by decide)).trans h0
  have h1 := (hF 1 (by decide)).trans h1
  have h2 := (hF 2 (by decide)).trans h2
  have h3 := (hF 3 (by decide)).trans h3
  have h4 := (hF 4 (by decide)).trans h4
  have h22 := (hF 22 (by decide)).trans h22
  have h23 := (hF 23 (by decide)).trans h23
  have h33 := (hF 33 (by decide)).trans h33
  have h37 := (hF 37 (by decide)).trans h37
  have hFF := kF_st hFF hF (by first | decide | simp)
  refine lv_aload_n C.1 C.2.1 dX8_clear_25 rfl (lv_at hl 1 rfl) ?_
  refine k_get C hw 0 (by omega) h0 rfl inlX8 3 (by decide) q_27 rfl dX8_clear_26 ?_
  refine lv_iconst (v := nI 0) C.1 C.2.1 dX8_clear_29 (by decide) ?_
  refine k_put (tf := .int) C hw 33 (by omega) h33 rfl inlX2 tyX2 tyX2_ok nmX2 3 (by decide) q_558 rfl (by decide +kernel) rfl rfl (Nat.le_of_ble_eq_true rfl) dX8_clear_30 (fun M_3 H locs hw h33 hF => ?_)
  have h33 : M_3 33 = .inr (2, [.ref (b + 34), .ref (b + 35), .ref (b + 36), .int (nI 0)]) := h33
  have h0 := (hF 0 (by decide)).trans h0
  have h1 := (hF 1 (by decide)).trans h1
  have h2 := (hF 2 (by decide)).trans h2
  have h3 := (hF 3 (by decide)).trans h3
  have h4 := (hF 4 (by decide)).trans h4
  have h22 := (hF 22 (by decide)).trans h22
  have h23 := (hF 23 (by decide)).trans h23
  have h24 := (hF 24 (by decide)).trans h24
  have h25 := (hF 25 (by decide)).trans h25
  have h26 := (hF 26 (by decide)).trans h26
  have h30 := (hF 30 (by decide)).trans h30
  have h37 := (hF 37 (by decide)).trans h37
  have hFF := kF_st hFF hF (by first | decide | simp)
  refine lv_aload_n C.1 C.2.1 dX8_clear_33 rfl (lv_at hl 1 rfl) ?_
  refine k_get C hw 0 (by omega) h0 rfl inlX8 4 (by decide) q_31 rfl dX8_clear_34 ?_
  refine lv_iconst (v := nI 0) C.1 C.2.1 dX8_clear_37 (by decide) ?_
  refine k_put (tf := .int) C hw 37 (by omega) h37 rfl inlX1 tyX1 tyX1_ok nmX1 5 (by decide) q_573 rfl (by decide +kernel) rfl rfl (Nat.le_of_ble_eq_true rfl) dX8_clear_38 (fun M_4 H locs hw h37 hF => ?_)
  have h37 : M_4 37 = .inr (1, [.ref (b + 38), .ref (b + 39), .ref (b + 40), .ref (b + 41), .int (nI lx), .int (nI 0)]) := h37
  have h0 := (hF 0 (by decide)).trans h0
  have h1 := (hF 1 (by decide)).trans h1
  have h2 := (hF 2 (by decide)).trans h2
  have h3 := (hF 3 (by decide)).trans h3
  have h4 := (hF 4 (by decide)).trans h4
  have h22 := (hF 22 (by decide)).trans h22
  have h23 := (hF 23 (by decide)).trans h23
  have h24 := (hF 24 (by decide)).trans h24
  have h25 := (hF 25 (by decide)).trans h25
  have h26 := (hF 26 (by decide)).trans h26
  have h30 := (hF 30 (by decide)).trans h30
  have h33 := (hF 33 (by decide)).trans h33
  have hFF := kF_st hFF hF (by first | decide | simp)
  refine lv_aload_n C.1 C.2.1 dX8_clear_41 rfl (lv_at hl 1 rfl) ?_
  refine lv_iconst (v := nI 0) C.1 C.2.1 dX8_clear_42 (by decide) ?_
  refine k_put (tf := .int) C hw 0 (by omega) h0 rfl inlX8 tyX8 tyX8_ok nmX8 6 (by decide) q_181 rfl (by decide +kernel) rfl rfl (Nat.le_of_ble_eq_true rfl) dX8_clear_43 (fun M_5 H locs hw h0 hF => ?_)
  have h0 : M_5 0 = .inr (8, [.ref (b + 1), .ref (b + 6), .ref (b + 22), .ref (b + 33), .ref (b + 37), .ref (b + 42), .int (nI 0), .int sl]) := h0
  have h1 := (hF 1 (by decide)).trans h1
  have h2 := (hF 2 (by decide)).trans h2
  have h3 := (hF 3 (by decide)).trans h3
  have h4 := (hF 4 (by decide)).trans h4
  have h22 := (hF 22 (by decide)).trans h22
  have h23 := (hF 23 (by decide)).trans h23
  have h24 := (hF 24 (by decide)).trans h24
  have h25 := (hF 25 (by decide)).trans h25
  have h26 := (hF 26 (by decide)).trans h26
  have h30 := (hF 30 (by decide)).trans h30
  have h33 := (hF 33 (by decide)).trans h33
  have h37 := (hF 37 (by decide)).trans h37
  have hFF := kF_st hFF hF (by first | decide | simp)
  refine lv_aload_n C.1 C.2.1 dX8_clear_46 rfl (lv_at hl 1 rfl) ?_
  refine lv_bipush (v := nI 20) C.1 C.2.1 dX8_clear_47 (by decide) ?_
  refine k_put (tf := .int) C hw 0 (by omega) h0 rfl inlX8 tyX8 tyX8_ok nmX8 7 (by decide) q_33 rfl (by decide +kernel) rfl rfl (Nat.le_of_ble_eq_true rfl) dX8_clear_49 (fun M_6 H locs hw h0 hF => ?_)
  have h0 : M_6 0 = .inr (8, [.ref (b + 1), .ref (b + 6), .ref (b + 22), .ref (b + 33), .ref (b + 37), .ref (b + 42), .int (nI 0), .int (nI 20)]) := h0
  have h1 := (hF 1 (by decide)).trans h1
  have h2 := (hF 2 (by decide)).trans h2
  have h3 := (hF 3 (by decide)).trans h3
  have h4 := (hF 4 (by decide)).trans h4
  have h22 := (hF 22 (by decide)).trans h22
  have h23 := (hF 23 (by decide)).trans h23
  have h24 := (hF 24 (by decide)).trans h24
  have h25 := (hF 25 (by decide)).trans h25
  have h26 := (hF 26 (by decide)).trans h26
  have h30 := (hF 30 (by decide)).trans h30
  have h33 := (hF 33 (by decide)).trans h33
  have h37 := (hF 37 (by decide)).trans h37
  have hFF := kF_st hFF hF (by first | decide | simp)
  refine lv_iload_n C.1 C.2.1 dX8_clear_52 rfl (lv_at hl 0 rfl) ?_
  exact hret _ _ (Nat.le_of_ble_eq_true rfl) (Nat.le_of_ble_eq_true rfl) hw (⟨rfl, rfl, hFF, h0, h1, h2, h3, h4, h24, h25, h26, h30, h33, h37⟩) dX8_clear_53
