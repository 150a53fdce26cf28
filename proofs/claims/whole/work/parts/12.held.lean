theorem kv_X0_9 : kIn RX0 9 yX6_init cX6_init 1 0 := ⟨q_84, q_85, q_74, q_86, by decide +kernel⟩
theorem kv_X0_18 : kIn RX0 18 yX5_init cX5_init 1 0 := ⟨q_91, q_92, q_78, q_93, by decide +kernel⟩
theorem kv_X0_25 : kIn RX0 25 yX7_init cX7_init 1 0 := ⟨q_98, q_99, q_82, q_100, by decide +kernel⟩
theorem kv_X0_30 : kV RX0 RX6 30 yX6_begin cX6_begin 1 none 0 := ⟨q_663, q_664, q_665, q_74, q_666, by decide +kernel⟩
theorem kv_X0_33 : kV RX0 RX5 33 yX5_begin cX5_begin 1 none 0 := ⟨q_671, q_672, q_673, q_78, q_674, by decide +kernel⟩
theorem kv_X0_34 : kV RX0 RX7 34 yX7_begin cX7_begin 1 none 0 := ⟨q_675, q_676, q_677, q_82, q_678, by decide +kernel⟩
theorem kv_X0_35 : kV RX0 RX6 35 yX6_copyFrom cX6_copyFrom 2 none 1 := ⟨q_603, q_604, q_605, q_74, q_606, by decide +kernel⟩
theorem kv_X0_39 : kV RX0 RX5 39 yX5_copyFrom cX5_copyFrom 2 none 1 := ⟨q_608, q_609, q_610, q_78, q_611, by decide +kernel⟩
theorem kv_X0_42 : kV RX0 RX7 42 yX7_copyFrom cX7_copyFrom 2 none 1 := ⟨q_612, q_613, q_614, q_82, q_615, by decide +kernel⟩
theorem kv_X1_38 : kSt RX1 38 yJ9_floorMod_7cf53 cJ9_floorMod_7cf53 3 (some .int) 2 := ⟨q_582, q_583, q_584, q_585, by decide +kernel⟩
theorem kv_X6_19 : kSt RX6 19 yJ7_fill_53178 cJ7_fill_53178 4 none 2 := ⟨q_667, q_57, q_58, q_59, by decide +kernel⟩
theorem kv_X6_25 : kSt RX6 25 yJ7_fill_d0a16 cJ7_fill_d0a16 5 none 2 := ⟨q_668, q_669, q_58, q_670, by decide +kernel⟩
theorem kv_X7_25 : kV RX7 RX7 25 yX7_placeFor cX7_placeFor 4 (some .int) 2 := ⟨q_500, q_501, q_502, q_82, q_503, by decide +kernel⟩
theorem kv_X7_35 : kV RX7 RX7 35 yX7_comesAhead cX7_comesAhead 4 (some .boolean) 3 := ⟨q_504, q_505, q_506, q_82, q_507, by decide +kernel⟩
set_option maxHeartbeats 4000000 in
set_option maxRecDepth 100000 in
theorem c_X6_init_22 {l : Launch} {D : va_G} {cI cJ cZ cH cR : ClassId} {b : Nat} {M : Nat → va_E}     (h23 : M 23 = .inr (6, [.null, .null]))   : Met l yX6_init (kw yX6_init cX6_init 1 none) ({ frames := 1, cells := 2, slots := 200, locals := 12 }) (va_Pc [.ref (b + 23)] (kPre D (kT cI cJ cZ cH cR) b M 24)) (va_Qv (fun (u : (Nat → va_E) × Nat) => u.2 = 26 ∧ kF [23, 24, 25] M u.1 ∧ u.1 23 = .inr (6, [.ref (b + 24), .ref (b + 25)]) ∧ u.1 24 = .inl (cI, 100, .inl (fun _ => 0)) ∧ u.1 25 = .inl (cJ, 100, .inr (.inl (fun _ => 0)))) (kB D (kT cI cJ cZ cH cR) b) (kA b)) 2 200 (kA b) := by
  refine k_metV (by decide +kernel) (Nat.le_of_ble_eq_true rfl) ?_
  intro p e s m below meth c ls Q C hw hret hnm hl
  have hl : lv_has ls 1 [(0, .ref (b + 23))] := hl
  have hFF : kF [23, 24, 25] M M := kF_rf
  refine lv_aload_n C.1 C.2.1 dX6_init_0 rfl (lv_at hl 0 rfl) ?_
  refine W.objInit C.1 C.2.1 C.2.2.2.1 (C.2.2.2.2.1 _ q_87) (C.2.2.2.2.1 _ q_10) (C.2.2.2.2.1 _ q_11) rfl (by rw [C.2.2.1]; exact hl.1) rfl dX6_init_1 (Nat.le_of_ble_eq_true rfl) (Nat.le_of_ble_eq_true rfl) ?_
  refine W.eq (g2 := F0 m 4 ls []) rfl ?_
  refine lv_aload_n C.1 C.2.1 dX6_init_4 rfl (lv_at hl 0 rfl) ?_
  refine lv_bipush (v := nI 100) C.1 C.2.1 dX6_init_5 (by decide) ?_
  refine k_newI C hw q_38 100 rfl (by decide) (Nat.le_of_ble_eq_true rfl) (Nat.le_of_ble_eq_true rfl) dX6_init_7 (fun M_1 H hw h24 hF => ?_)
  have h23 := (hF 23 (by decide)).trans h23
  have hFF := kF_st hFF hF (by first | decide | simp)
  refine k_putF (tf := .array .int) C hw 23 (by decide) h23 rfl inlX6 tyX6 tyX6_ok nmX6 0 (by decide) q_88 rfl hnm rfl (by decide +kernel) rfl rfl (Nat.le_of_ble_eq_true rfl) dX6_init_9 (fun M_2 H locs hw h23 hF => ?_)
  have h23 : M_2 23 = .inr (6, [.ref (b + 24), .null]) := h23
  have h24 := (hF 24 (by decide)).trans h24
  have hFF := kF_st hFF hF (by first | decide | simp)
  refine lv_aload_n C.1 C.2.1 dX6_init_12 rfl (lv_at hl 0 rfl) ?_
  refine lv_bipush (v := nI 100) C.1 C.2.1 dX6_init_13 (by decide) ?_
  refine k_newJ C hw q_89 100 rfl (by decide) (Nat.le_of_ble_eq_true rfl) (Nat.le_of_ble_eq_true rfl) dX6_init_15 (fun M_3 H hw h25 hF => ?_)
  have h23 := (hF 23 (by decide)).trans h23
  have h24 := (hF 24 (by decide)).trans h24
  have hFF := kF_st hFF hF (by first | decide | simp)
  refine k_putF (tf := .array .long) C hw 23 (by decide) h23 rfl inlX6 tyX6 tyX6_ok nmX6 1 (by decide) q_90 rfl hnm rfl (by decide +kernel) rfl rfl (Nat.le_of_ble_eq_true rfl) dX6_init_17 (fun M_4 H locs hw h23 hF => ?_)
  have h23 : M_4 23 = .inr (6, [.ref (b + 24), .ref (b + 25)]) := h23
  have h24 := (hF 24 (by decide)).trans h24
  have h25 := (hF 25 (by decide)).trans h25
  have hFF := kF_st hFF hF (by first | decide | simp)
  exact hret _ _ (Nat.le_of_ble_eq_true rfl) (Nat.le_of_ble_eq_true rfl) hw (⟨rfl, hFF, h23, h24, h25⟩) dX6_init_20

set_option maxHeartbeats 4000000 in
set_option maxRecDepth 100000 in
theorem c_X5_init_22 {l : Launch} {D : va_G} {cI cJ cZ cH cR : ClassId} {b : Nat} {M : Nat → va_E}     (h26 : M 26 = .inr (5, [.null, .null, .null, .int 0, .int 0]))   : Met l yX5_init (kw yX5_init cX5_init 1 none) ({ frames := 1, cells := 3, slots := 1200, locals := 12 }) (va_Pc [.ref (b + 26)] (kPre D (kT cI cJ cZ cH cR) b M 27)) (va_Qv (fun (u : (Nat → va_E) × Nat) => u.2 = 30 ∧ kF [26, 27, 28, 29] M u.1 ∧ u.1 26 = .inr (5, [.ref (b + 27), .ref (b + 28), .ref (b + 29), .int (nI 0), .int (nI 0)]) ∧ u.1 27 = .inl (cI, 400, .inl (fun _ => 0)) ∧ u.1 28 = .inl (cI, 400, .inl (fun _ => 0)) ∧ u.1 29 = .inl (cI, 400, .inl (fun _ => 0))) (kB D (kT cI cJ cZ cH cR) b) (kA b)) 3 1200 (kA b) := by
  refine k_metV (by decide +kernel) (Nat.le_of_ble_eq_true rfl) ?_
  intro p e s m below meth c ls Q C hw hret hnm hl
  have hl : lv_has ls 1 [(0, .ref (b + 26))] := hl
  have hFF : kF [26, 27, 28, 29] M M := kF_rf
  refine lv_aload_n C.1 C.2.1 dX5_init_0 rfl (lv_at hl 0 rfl) ?_
  refine W.objInit C.1 C.2.1 C.2.2.2.1 (C.2.2.2.2.1 _ q_94) (C.2.2.2.2.1 _ q_10) (C.2.2.2.2.1 _ q_11) rfl (by rw [C.2.2.1]; exact hl.1) rfl dX5_init_1 (Nat.le_of_ble_eq_true rfl) (Nat.le_of_ble_eq_true rfl) ?_
  refine W.eq (g2 := F0 m 4 ls []) rfl ?_
  refine lv_aload_n C.1 C.2.1 dX5_init_4 rfl (lv_at hl 0 rfl) ?_
  refine lv_sipush (v := nI 400) C.1 C.2.1 dX5_init_5 (by decide) ?_
  refine k_newI C hw q_38 400 rfl (by decide) (Nat.le_of_ble_eq_true rfl) (Nat.le_of_ble_eq_true rfl) dX5_init_8 (fun M_1 H hw h27 hF => ?_)
  have h26 := (hF 26 (by decide)).trans h26
  have hFF := kF_st hFF hF (by first | decide | simp)
  refine k_putF (tf := .array .int) C hw 26 (by decide) h26 rfl inlX5 tyX5 tyX5_ok nmX5 0 (by decide) q_95 rfl hnm rfl (by decide +kernel) rfl rfl (Nat.le_of_ble_eq_true rfl) dX5_init_10 (fun M_2 H locs hw h26 hF => ?_)
  have h26 : M_2 26 = .inr (5, [.ref (b + 27), .null, .null, .int 0, .int 0]) := h26
  have h27 := (hF 27 (by decide)).trans h27
  have hFF := kF_st hFF hF (by first | decide | simp)
  refine lv_aload_n C.1 C.2.1 dX5_init_13 rfl (lv_at hl 0 rfl) ?_
  refine lv_sipush (v := nI 400) C.1 C.2.1 dX5_init_14 (by decide) ?_
  refine k_newI C hw q_38 400 rfl (by decide) (Nat.le_of_ble_eq_true rfl) (Nat.le_of_ble_eq_true rfl) dX5_init_17 (fun M_3 H hw h28 hF => ?_)
  have h26 := (hF 26 (by decide)).trans h26
  have h27 := (hF 27 (by decide)).trans h27
  have hFF := kF_st hFF hF (by first | decide | simp)
  refine k_putF (tf := .array .int) C hw 26 (by decide) h26 rfl inlX5 tyX5 tyX5_ok nmX5 1 (by decide) q_96 rfl hnm rfl (by decide +kernel) rfl rfl (Nat.le_of_ble_eq_true rfl) dX5_init_19 (fun M_4 H locs hw h26 hF => ?_)
  have h26 : M_4 26 = .inr (5, [.ref (b + 27), .ref (b + 28), .null, .int 0, .int 0]) := h26
  have h27 := (hF 27 (by decide)).trans h27
  have h28 := (hF 28 (by decide)).trans h28
  have hFF := kF_st hFF hF (by first | decide | simp)
  refine lv_aload_n C.1 C.2.1 dX5_init_22 rfl (lv_at hl 0 rfl) ?_
  refine lv_sipush (v := nI 400) C.1 C.2.1 dX5_init_23 (by decide) ?_
  refine k_newI C hw q_38 400 rfl (by decide) (Nat.le_of_ble_eq_true rfl) (Nat.le_of_ble_eq_true rfl) dX5_init_26 (fun M_5 H hw h29 hF => ?_)
  have h26 := (hF 26 (by decide)).trans h26
  have h27 := (hF 27 (by decide)).trans h27
  have h28 := (hF 28 (by decide)).trans h28
  have hFF := kF_st hFF hF (by first | decide | simp)
  refine k_putF (tf := .array .int) C hw 26 (by decide) h26 rfl inlX5 tyX5 tyX5_ok nmX5 2 (by decide) q_97 rfl hnm rfl (by decide +kernel) rfl rfl (Nat.le_of_ble_eq_true rfl) dX5_init_28 (fun M_6 H locs hw h26 hF => ?_)
  have h26 : M_6 26 = .inr (5, [.ref (b + 27), .ref (b + 28), .ref (b + 29), .int 0, .int 0]) := h26
  have h27 := (hF 27 (by decide)).trans h27
  have h28 := (hF 28 (by decide)).trans h28
  have h29 := (hF 29 (by decide)).trans h29
  have hFF := kF_st hFF hF (by first | decide | simp)
  exact hret _ _ (Nat.le_of_ble_eq_true rfl) (Nat.le_of_ble_eq_true rfl) hw (⟨rfl, hFF, h26, h27, h28, h29⟩) dX5_init_31

set_option maxHeartbeats 4000000 in
set_option maxRecDepth 100000 in
theorem c_X7_init_22 {l : Launch} {D : va_G} {cI cJ cZ cH cR : ClassId} {b : Nat} {M : Nat → va_E}     (h30 : M 30 = .inr (7, [.null, .null, .int 0, .int 0]))   : Met l yX7_init (kw yX7_init cX7_init 1 none) ({ frames := 1, cells := 2, slots := 80, locals := 12 }) (va_Pc [.ref (b + 30)] (kPre D (kT cI cJ cZ cH cR) b M 31)) (va_Qv (fun (u : (Nat → va_E) × Nat) => u.2 = 33 ∧ kF [30, 31, 32] M u.1 ∧ u.1 30 = .inr (7, [.ref (b + 31), .ref (b + 32), .int (nI 0), .int (0)]) ∧ u.1 31 = .inl (cI, 40, .inl (fun _ => 0)) ∧ u.1 32 = .inl (cI, 40, .inl (fun _ => 0))) (kB D (kT cI cJ cZ cH cR) b) (kA b)) 2 80 (kA b) := by
  refine k_metV (by decide +kernel) (Nat.le_of_ble_eq_true rfl) ?_
  intro p e s m below meth c ls Q C hw hret hnm hl
  have hl : lv_has ls 1 [(0, .ref (b + 30))] := hl
  have hFF : kF [30, 31, 32] M M := kF_rf
  refine lv_aload_n C.1 C.2.1 dX7_init_0 rfl (lv_at hl 0 rfl) ?_
  refine W.objInit C.1 C.2.1 C.2.2.2.1 (C.2.2.2.2.1 _ q_101) (C.2.2.2.2.1 _ q_10) (C.2.2.2.2.1 _ q_11) rfl (by rw [C.2.2.1]; exact hl.1) rfl dX7_init_1 (Nat.le_of_ble_eq_true rfl) (Nat.le_of_ble_eq_true rfl) ?_
  refine W.eq (g2 := F0 m 4 ls []) rfl ?_
  refine lv_aload_n C.1 C.2.1 dX7_init_4 rfl (lv_at hl 0 rfl) ?_
  refine lv_bipush (v := nI 40) C.1 C.2.1 dX7_init_5 (by decide) ?_
  refine k_newI C hw q_38 40 rfl (by decide) (Nat.le_of_ble_eq_true rfl) (Nat.le_of_ble_eq_true rfl) dX7_init_7 (fun M_1 H hw h31 hF => ?_)
  have h30 := (hF 30 (by decide)).trans h30
  have hFF := kF_st hFF hF (by first | decide | simp)
  refine k_putF (tf := .array .int) C hw 30 (by decide) h30 rfl inlX7 tyX7 tyX7_ok nmX7 0 (by decide) q_102 rfl hnm rfl (by decide +kernel) rfl rfl (Nat.le_of_ble_eq_true rfl) dX7_init_9 (fun M_2 H locs hw h30 hF => ?_)
  have h30 : M_2 30 = .inr (7, [.ref (b + 31), .null, .int 0, .int 0]) := h30
  have h31 := (hF 31 (by decide)).trans h31
  have hFF := kF_st hFF hF (by first | decide | simp)
  refine lv_aload_n C.1 C.2.1 dX7_init_12 rfl (lv_at hl 0 rfl) ?_
  refine lv_bipush (v := nI 40) C.1 C.2.1 dX7_init_13 (by decide) ?_
  refine k_newI C hw q_38 40 rfl (by decide) (Nat.le_of_ble_eq_true rfl) (Nat.le_of_ble_eq_true rfl) dX7_init_15 (fun M_3 H hw h32 hF => ?_)
  have h30 := (hF 30 (by decide)).trans h30
  have h31 := (hF 31 (by decide)).trans h31
  have hFF := kF_st hFF hF (by first | decide | simp)
  refine k_putF (tf := .array .int) C hw 30 (by decide) h30 rfl inlX7 tyX7 tyX7_ok nmX7 1 (by decide) q_103 rfl hnm rfl (by decide +kernel) rfl rfl (Nat.le_of_ble_eq_true rfl) dX7_init_17 (fun M_4 H locs hw h30 hF => ?_)
  have h30 : M_4 30 = .inr (7, [.ref (b + 31), .ref (b + 32), .int 0, .int 0]) := h30
  have h31 := (hF 31 (by decide)).trans h31
  have h32 := (hF 32 (by decide)).trans h32
  have hFF := kF_st hFF hF (by first | decide | simp)
  exact hret _ _ (Nat.le_of_ble_eq_true rfl) (Nat.le_of_ble_eq_true rfl) hw (⟨rfl, hFF, h30, h31, h32⟩) dX7_init_20

set_option maxHeartbeats 4000000 in
set_option maxRecDepth 100000 in
theorem c_X0_init_22 {l : Launch} {D : va_G} {cI cJ cZ cH cR : ClassId} {b : Nat} {M : Nat → va_E}     (h22 : M 22 = .inr (0, [.null, .null, .null]))   : Met l yX0_init (kw yX0_init cX0_init 1 none) ({ frames := 2, cells := 10, slots := 1491, locals := 32 }) (va_Pc [.ref (b + 22)] (kPre D (kT cI cJ cZ cH cR) b M 23)) (va_Qv (fun (u : (Nat → va_E) × Nat) => u.2 = 33 ∧ kF [22, 23, 24, 25, 26, 27, 28, 29, 30, 31, 32] M u.1 ∧ u.1 22 = .inr (0, [.ref (b + 23), .ref (b + 26), .ref (b + 30)]) ∧ u.1 23 = .inr (6, [.ref (b + 24), .ref (b + 25)]) ∧ u.1 24 = .inl (cI, 100, .inl (fun _ => 0)) ∧ u.1 25 = .inl (cJ, 100, .inr (.inl (fun _ => 0))) ∧ u.1 26 = .inr (5, [.ref (b + 27), .ref (b + 28), .ref (b + 29), .int (nI 0), .int (nI 0)]) ∧ u.1 27 = .inl (cI, 400, .inl (fun _ => 0)) ∧ u.1 28 = .inl (cI, 400, .inl (fun _ => 0)) ∧ u.1 29 = .inl (cI, 400, .inl (fun _ => 0)) ∧ u.1 30 = .inr (7, [.ref (b + 31), .ref (b + 32), .int (nI 0), .int (0)]) ∧ u.1 31 = .inl (cI, 40, .inl (fun _ => 0)) ∧ u.1 32 = .inl (cI, 40, .inl (fun _ => 0))) (kB D (kT cI cJ cZ cH cR) b) (kA b)) 10 1491 (kA b) := by
  refine k_metV (by decide +kernel) (Nat.le_of_ble_eq_true rfl) ?_
  intro p e s m below meth c ls Q C hw hret hnm hl
  have hl : lv_has ls 1 [(0, .ref (b + 22))] := hl
  have hFF : kF [22, 23, 24, 25, 26, 27, 28, 29, 30, 31, 32] M M := kF_rf
  refine lv_aload_n C.1 C.2.1 dX0_init_0 rfl (lv_at hl 0 rfl) ?_
  refine W.objInit C.1 C.2.1 C.2.2.2.1 (C.2.2.2.2.1 _ q_71) (C.2.2.2.2.1 _ q_10) (C.2.2.2.2.1 _ q_11) rfl (by rw [C.2.2.1]; exact hl.1) rfl dX0_init_1 (Nat.le_of_ble_eq_true rfl) (Nat.le_of_ble_eq_true rfl) ?_
  refine W.eq (g2 := F0 m 4 ls []) rfl ?_
  refine lv_aload_n C.1 C.2.1 dX0_init_4 rfl (lv_at hl 0 rfl) ?_
  refine k_new (fs := [.null, .null]) C hw (ci := 6) rfl inlX6 tyX6 tyX6_ok q_72 q_73 q_74 (by decide +kernel) (Nat.le_of_ble_eq_true rfl) (Nat.le_of_ble_eq_true rfl) dX0_init_5 (fun M_1 H hw h23 hF => ?_)
  have h22 := (hF 22 (by decide)).trans h22
  have hFF := kF_st hFF hF (by first | decide | simp)
  refine lv_dup C.1 C.2.1 dX0_init_8 rfl ?_
  refine k_cv C hw (c_X6_init_22 h23  ) kv_X0_9 rfl hl.1 ⟨Nat.le_of_ble_eq_true rfl, Nat.le_of_ble_eq_true rfl⟩ (Nat.le_of_ble_eq_true rfl) ⟨Nat.le_of_ble_eq_true rfl, Nat.le_of_ble_eq_true rfl⟩ dX0_init_9 (fun M_2 n9 H locs hp hw => ?_)
  obtain ⟨en9, hF, h23, h24, h25⟩ := hp
  have en9 : n9 = 26 := en9
  rw [en9] at hw
  have h22 := (hF 22 (by decide)).trans h22
  have hFF := kF_st hFF hF (by first | decide | simp)
  refine k_putF (tf := .object "KeyGroups$States") C hw 22 (by decide) h22 rfl inlX0 tyX0 tyX0_ok nmX0 0 (by decide) q_75 rfl hnm rfl (by decide +kernel) rfl rfl (Nat.le_of_ble_eq_true rfl) dX0_init_12 (fun M_3 H locs hw h22 hF => ?_)
  have h22 : M_3 22 = .inr (0, [.ref (b + 23), .null, .null]) := h22
  have h23 := (hF 23 (by decide)).trans h23
  have h24 := (hF 24 (by decide)).trans h24
  have h25 := (hF 25 (by decide)).trans h25
  have hFF := kF_st hFF hF (by first | decide | simp)
  refine lv_aload_n C.1 C.2.1 dX0_init_15 rfl (lv_at hl 0 rfl) ?_
  refine k_new (fs := [.null, .null, .null, .int 0, .int 0]) C hw (ci := 5) rfl inlX5 tyX5 tyX5_ok q_76 q_77 q_78 (by decide +kernel) (Nat.le_of_ble_eq_true rfl) (Nat.le_of_ble_eq_true rfl) dX0_init_16 (fun M_4 H hw h26 hF => ?_)
  have h22 := (hF 22 (by decide)).trans h22
  have h23 := (hF 23 (by decide)).trans h23
  have h24 := (hF 24 (by decide)).trans h24
  have h25 := (hF 25 (by decide)).trans h25
  have hFF := kF_st hFF hF (by first | decide | simp)
  refine lv_dup C.1 C.2.1 dX0_init_19 rfl ?_
  refine k_cv C hw (c_X5_init_22 h26  ) kv_X0_18 rfl hl.1 ⟨Nat.le_of_ble_eq_true rfl, Nat.le_of_ble_eq_true rfl⟩ (Nat.le_of_ble_eq_true rfl) ⟨Nat.le_of_ble_eq_true rfl, Nat.le_of_ble_eq_true rfl⟩ dX0_init_20 (fun M_5 n9 H locs hp hw => ?_)
  obtain ⟨en9, hF, h26, h27, h28, h29⟩ := hp
  have en9 : n9 = 30 := en9
  rw [en9] at hw
  have h22 := (hF 22 (by decide)).trans h22
  have h23 := (hF 23 (by decide)).trans h23
  have h24 := (hF 24 (by decide)).trans h24
  have h25 := (hF 25 (by decide)).trans h25
  have hFF := kF_st hFF hF (by first | decide | simp)
  refine k_putF (tf := .object "KeyGroups$Rows") C hw 22 (by decide) h22 rfl inlX0 tyX0 tyX0_ok nmX0 1 (by decide) q_79 rfl hnm rfl (by decide +kernel) rfl rfl (Nat.le_of_ble_eq_true rfl) dX0_init_23 (fun M_6 H locs hw h22 hF => ?_)
  have h22 : M_6 22 = .inr (0, [.ref (b + 23), .ref (b + 26), .null]) := h22
  have h23 := (hF 23 (by decide)).trans h23
  have h24 := (hF 24 (by decide)).trans h24
  have h25 := (hF 25 (by decide)).trans h25
  have h26 := (hF 26 (by decide)).trans h26
  have h27 := (hF 27 (by decide)).trans h27
  have h28 := (hF 28 (by decide)).trans h28
  have h29 := (hF 29 (by decide)).trans h29
  have hFF := kF_st hFF hF (by first | decide | simp)
  refine lv_aload_n C.1 C.2.1 dX0_init_26 rfl (lv_at hl 0 rfl) ?_
  refine k_new (fs := [.null, .null, .int 0, .int 0]) C hw (ci := 7) rfl inlX7 tyX7 tyX7_ok q_80 q_81 q_82 (by decide +kernel) (Nat.le_of_ble_eq_true rfl) (Nat.le_of_ble_eq_true rfl) dX0_init_27 (fun M_7 H hw h30 hF => ?_)
  have h22 := (hF 22 (by decide)).trans h22
  have h23 := (hF 23 (by decide)).trans h23
  have h24 := (hF 24 (by decide)).trans h24
  have h25 := (hF 25 (by decide)).trans h25
  have h26 := (hF 26 (by decide)).trans h26
  have h27 := (hF 27 (by decide)).trans h27
  have h28 := (hF 28 (by decide)).trans h28
  have h29 := (hF 29 (by decide)).trans h29
  have hFF := kF_st hFF hF (by first | decide | simp)
  refine lv_dup C.1 C.2.1 dX0_init_30 rfl ?_
  refine k_cv C hw (c_X7_init_22 h30  ) kv_X0_25 rfl hl.1 ⟨Nat.le_of_ble_eq_true rfl, Nat.le_of_ble_eq_true rfl⟩ (Nat.le_of_ble_eq_true rfl) ⟨Nat.le_of_ble_eq_true rfl, Nat.le_of_ble_eq_true rfl⟩ dX0_init_31 (fun M_8 n9 H locs hp hw => ?_)
  obtain ⟨en9, hF, h30, h31, h32⟩ := hp
  have en9 : n9 = 33 := en9
  rw [en9] at hw
  have h22 := (hF 22 (by decide)).trans h22
  have h23 := (hF 23 (by decide)).trans h23
  have h24 := (hF 24 (by decide)).trans h24
  have h25 := (hF 25 (by decide)).trans h25
  have h26 := (hF 26 (by decide)).trans h26
  have h27 := (hF 27 (by decide)).trans h27
  have h28 := (hF 28 (by decide)).trans h28
  have h29 := (hF 29 (by decide)).trans h29
  have hFF := kF_st hFF hF (by first | decide | simp)
  refine k_putF (tf := .object "KeyGroups$Timers") C hw 22 (by decide) h22 rfl inlX0 tyX0 tyX0_ok nmX0 2 (by decide) q_83 rfl hnm rfl (by decide +kernel) rfl rfl (Nat.le_of_ble_eq_true rfl) dX0_init_34 (fun M_9 H locs hw h22 hF => ?_)
  have h22 : M_9 22 = .inr (0, [.ref (b + 23), .ref (b + 26), .ref (b + 30)]) := h22
  have h23 := (hF 23 (by decide)).trans h23
  have h24 := (hF 24 (by decide)).trans h24
  have h25 := (hF 25 (by decide)).trans h25
  have h26 := (hF 26 (by decide)).trans h26
  have h27 := (hF 27 (by decide)).trans h27
  have h28 := (hF 28 (by decide)).trans h28
  have h29 := (hF 29 (by decide)).trans h29
  have h30 := (hF 30 (by decide)).trans h30
  have h31 := (hF 31 (by decide)).trans h31
  have h32 := (hF 32 (by decide)).trans h32
  have hFF := kF_st hFF hF (by first | decide | simp)
  exact hret _ _ (Nat.le_of_ble_eq_true rfl) (Nat.le_of_ble_eq_true rfl) hw (⟨rfl, hFF, h22, h23, h24, h25, h26, h27, h28, h29, h30, h31, h32⟩) dX0_init_37

set_option maxHeartbeats 4000000 in
set_option maxRecDepth 100000 in
theorem c_X6_init_74 {l : Launch} {D : va_G} {cI cJ cZ cH cR : ClassId} {b : Nat} {M : Nat → va_E}     (h75 : M 75 = .inr (6, [.null, .null]))   : Met l yX6_init (kw yX6_init cX6_init 1 none) ({ frames := 1, cells := 2, slots := 200, locals := 12 }) (va_Pc [.ref (b + 75)] (kPre D (kT cI cJ cZ cH cR) b M 76)) (va_Qv (fun (u : (Nat → va_E) × Nat) => u.2 = 78 ∧ kF [75, 76, 77] M u.1 ∧ u.1 75 = .inr (6, [.ref (b + 76), .ref (b + 77)]) ∧ u.1 76 = .inl (cI, 100, .inl (fun _ => 0)) ∧ u.1 77 = .inl (cJ, 100, .inr (.inl (fun _ => 0)))) (kB D (kT cI cJ cZ cH cR) b) (kA b)) 2 200 (kA b) := by
  refine k_metV (by decide +kernel) (Nat.le_of_ble_eq_true rfl) ?_
  intro p e s m below meth c ls Q C hw hret hnm hl
  have hl : lv_has ls 1 [(0, .ref (b + 75))] := hl
  have hFF : kF [75, 76, 77] M M := kF_rf
  refine lv_aload_n C.1 C.2.1 dX6_init_0 rfl (lv_at hl 0 rfl) ?_
  refine W.objInit C.1 C.2.1 C.2.2.2.1 (C.2.2.2.2.1 _ q_87) (C.2.2.2.2.1 _ q_10) (C.2.2.2.2.1 _ q_11) rfl (by rw [C.2.2.1]; exact hl.1) rfl dX6_init_1 (Nat.le_of_ble_eq_true rfl) (Nat.le_of_ble_eq_true rfl) ?_
  refine W.eq (g2 := F0 m 4 ls []) rfl ?_
  refine lv_aload_n C.1 C.2.1 dX6_init_4 rfl (lv_at hl 0 rfl) ?_
  refine lv_bipush (v := nI 100) C.1 C.2.1 dX6_init_5 (by decide) ?_
  refine k_newI C hw q_38 100 rfl (by decide) (Nat.le_of_ble_eq_true rfl) (Nat.le_of_ble_eq_true rfl) dX6_init_7 (fun M_1 H hw h76 hF => ?_)
  have h75 := (hF 75 (by decide)).trans h75
  have hFF := kF_st hFF hF (by first | decide | simp)
  refine k_putF (tf := .array .int) C hw 75 (by decide) h75 rfl inlX6 tyX6 tyX6_ok nmX6 0 (by decide) q_88 rfl hnm rfl (by decide +kernel) rfl rfl (Nat.le_of_ble_eq_true rfl) dX6_init_9 (fun M_2 H locs hw h75 hF => ?_)
  have h75 : M_2 75 = .inr (6, [.ref (b + 76), .null]) := h75
  have h76 := (hF 76 (by decide)).trans h76
  have hFF := kF_st hFF hF (by first | decide | simp)
  refine lv_aload_n C.1 C.2.1 dX6_init_12 rfl (lv_at hl 0 rfl) ?_
  refine lv_bipush (v := nI 100) C.1 C.2.1 dX6_init_13 (by decide) ?_
  refine k_newJ C hw q_89 100 rfl (by decide) (Nat.le_of_ble_eq_true rfl) (Nat.le_of_ble_eq_true rfl) dX6_init_15 (fun M_3 H hw h77 hF => ?_)
  have h75 := (hF 75 (by decide)).trans h75
  have h76 := (hF 76 (by decide)).trans h76
  have hFF := kF_st hFF hF (by first | decide | simp)
  refine k_putF (tf := .array .long) C hw 75 (by decide) h75 rfl inlX6 tyX6 tyX6_ok nmX6 1 (by decide) q_90 rfl hnm rfl (by decide +kernel) rfl rfl (Nat.le_of_ble_eq_true rfl) dX6_init_17 (fun M_4 H locs hw h75 hF => ?_)
  have h75 : M_4 75 = .inr (6, [.ref (b + 76), .ref (b + 77)]) := h75
  have h76 := (hF 76 (by decide)).trans h76
  have h77 := (hF 77 (by decide)).trans h77
  have hFF := kF_st hFF hF (by first | decide | simp)
  exact hret _ _ (Nat.le_of_ble_eq_true rfl) (Nat.le_of_ble_eq_true rfl) hw (⟨rfl, hFF, h75, h76, h77⟩) dX6_init_20

set_option maxHeartbeats 4000000 in
set_option maxRecDepth 100000 in
theorem c_X5_init_74 {l : Launch} {D : va_G} {cI cJ cZ cH cR : ClassId} {b : Nat} {M : Nat → va_E}     (h78 : M 78 = .inr (5, [.null, .null, .null, .int 0, .int 0]))   : Met l yX5_init (kw yX5_init cX5_init 1 none) ({ frames := 1, cells := 3, slots := 1200, locals := 12 }) (va_Pc [.ref (b + 78)] (kPre D (kT cI cJ cZ cH cR) b M 79)) (va_Qv (fun (u : (Nat → va_E) × Nat) => u.2 = 82 ∧ kF [78, 79, 80, 81] M u.1 ∧ u.1 78 = .inr (5, [.ref (b + 79), .ref (b + 80), .ref (b + 81), .int (nI 0), .int (nI 0)]) ∧ u.1 79 = .inl (cI, 400, .inl (fun _ => 0)) ∧ u.1 80 = .inl (cI, 400, .inl (fun _ => 0)) ∧ u.1 81 = .inl (cI, 400, .inl (fun _ => 0))) (kB D (kT cI cJ cZ cH cR) b) (kA b)) 3 1200 (kA b) := by
  refine k_metV (by decide +kernel) (Nat.le_of_ble_eq_true rfl) ?_
  intro p e s m below meth c ls Q C hw hret hnm hl
  have hl : lv_has ls 1 [(0, .ref (b + 78))] := hl
  have hFF : kF [78, 79, 80, 81] M M := kF_rf
  refine lv_aload_n C.1 C.2.1 dX5_init_0 rfl (lv_at hl 0 rfl) ?_
  refine W.objInit C.1 C.2.1 C.2.2.2.1 (C.2.2.2.2.1 _ q_94) (C.2.2.2.2.1 _ q_10) (C.2.2.2.2.1 _ q_11) rfl (by rw [C.2.2.1]; exact hl.1) rfl dX5_init_1 (Nat.le_of_ble_eq_true rfl) (Nat.le_of_ble_eq_true rfl) ?_
  refine W.eq (g2 := F0 m 4 ls []) rfl ?_
  refine lv_aload_n C.1 C.2.1 dX5_init_4 rfl (lv_at hl 0 rfl) ?_
  refine lv_sipush (v := nI 400) C.1 C.2.1 dX5_init_5 (by decide) ?_
  refine k_newI C hw q_38 400 rfl (by decide) (Nat.le_of_ble_eq_true rfl) (Nat.le_of_ble_eq_true rfl) dX5_init_8 (fun M_1 H hw h79 hF => ?_)
  have h78 := (hF 78 (by decide)).trans h78
  have hFF := kF_st hFF hF (by first | decide | simp)
  refine k_putF (tf := .array .int) C hw 78 (by decide) h78 rfl inlX5 tyX5 tyX5_ok nmX5 0 (by decide) q_95 rfl hnm rfl (by decide +kernel) rfl rfl (Nat.le_of_ble_eq_true rfl) dX5_init_10 (fun M_2 H locs hw h78 hF => ?_)
  have h78 : M_2 78 = .inr (5, [.ref (b + 79), .null, .null, .int 0, .int 0]) := h78
  have h79 := (hF 79 (by decide)).trans h79
  have hFF := kF_st hFF hF (by first | decide | simp)
  refine lv_aload_n C.1 C.2.1 dX5_init_13 rfl (lv_at hl 0 rfl) ?_
  refine lv_sipush (v := nI 400) C.1 C.2.1 dX5_init_14 (by decide) ?_
  refine k_newI C hw q_38 400 rfl (by decide) (Nat.le_of_ble_eq_true rfl) (Nat.le_of_ble_eq_true rfl) dX5_init_17 (fun M_3 H hw h80 hF => ?_)
  have h78 := (hF 78 (by decide)).trans h78
  have h79 := (hF 79 (by decide)).trans h79
  have hFF := kF_st hFF hF (by first | decide | simp)
  refine k_putF (tf := .array .int) C hw 78 (by decide) h78 rfl inlX5 tyX5 tyX5_ok nmX5 1 (by decide) q_96 rfl hnm rfl (by decide +kernel) rfl rfl (Nat.le_of_ble_eq_true rfl) dX5_init_19 (fun M_4 H locs hw h78 hF => ?_)
  have h78 : M_4 78 = .inr (5, [.ref (b + 79), .ref (b + 80), .null, .int 0, .int 0]) := h78
  have h79 := (hF 79 (by decide)).trans h79
  have h80 := (hF 80 (by decide)).trans h80
  have hFF := kF_st hFF hF (by first | decide | simp)
  refine lv_aload_n C.1 C.2.1 dX5_init_22 rfl (lv_at hl 0 rfl) ?_
  refine lv_sipush (v := nI 400) C.1 C.2.1 dX5_init_23 (by decide) ?_
  refine k_newI C hw q_38 400 rfl (by decide) (Nat.le_of_ble_eq_true rfl) (Nat.le_of_ble_eq_true rfl) dX5_init_26 (fun M_5 H hw h81 hF => ?_)
  have h78 := (hF 78 (by decide)).trans h78
  have h79 := (hF 79 (by decide)).trans h79
  have h80 := (hF 80 (by decide)).trans h80
  have hFF := kF_st hFF hF (by first | decide | simp)
  refine k_putF (tf := .array .int) C hw 78 (by decide) h78 rfl inlX5 tyX5 tyX5_ok nmX5 2 (by decide) q_97 rfl hnm rfl (by decide +kernel) rfl rfl (Nat.le_of_ble_eq_true rfl) dX5_init_28 (fun M_6 H locs hw h78 hF => ?_)
  have h78 : M_6 78 = .inr (5, [.ref (b + 79), .ref (b + 80), .ref (b + 81), .int 0, .int 0]) := h78
  have h79 := (hF 79 (by decide)).trans h79
  have h80 := (hF 80 (by decide)).trans h80
  have h81 := (hF 81 (by decide)).trans h81
  have hFF := kF_st hFF hF (by first | decide | simp)
  exact hret _ _ (Nat.le_of_ble_eq_true rfl) (Nat.le_of_ble_eq_true rfl) hw (⟨rfl, hFF, h78, h79, h80, h81⟩) dX5_init_31

set_option maxHeartbeats 4000000 in
set_option maxRecDepth 100000 in
theorem c_X7_init_74 {l : Launch} {D : va_G} {cI cJ cZ cH cR : ClassId} {b : Nat} {M : Nat → va_E}     (h82 : M 82 = .inr (7, [.null, .null, .int 0, .int 0]))   : Met l yX7_init (kw yX7_init cX7_init 1 none) ({ frames := 1, cells := 2, slots := 80, locals := 12 }) (va_Pc [.ref (b + 82)] (kPre D (kT cI cJ cZ cH cR) b M 83)) (va_Qv (fun (u : (Nat → va_E) × Nat) => u.2 = 85 ∧ kF [82, 83, 84] M u.1 ∧ u.1 82 = .inr (7, [.ref (b + 83), .ref (b + 84), .int (nI 0), .int (0)]) ∧ u.1 83 = .inl (cI, 40, .inl (fun _ => 0)) ∧ u.1 84 = .inl (cI, 40, .inl (fun _ => 0))) (kB D (kT cI cJ cZ cH cR) b) (kA b)) 2 80 (kA b) := by
  refine k_metV (by decide +kernel) (Nat.le_of_ble_eq_true rfl) ?_
  intro p e s m below meth c ls Q C hw hret hnm hl
  have hl : lv_has ls 1 [(0, .ref (b + 82))] := hl
  have hFF : kF [82, 83, 84] M M := kF_rf
  refine lv_aload_n C.1 C.2.1 dX7_init_0 rfl (lv_at hl 0 rfl) ?_
  refine W.objInit C.1 C.2.1 C.2.2.2.1 (C.2.2.2.2.1 _ q_101) (C.2.2.2.2.1 _ q_10) (C.2.2.2.2.1 _ q_11) rfl (by rw [C.2.2.1]; exact hl.1) rfl dX7_init_1 (Nat.le_of_ble_eq_true rfl) (Nat.le_of_ble_eq_true rfl) ?_
  refine W.eq (g2 := F0 m 4 ls []) rfl ?_
  refine lv_aload_n C.1 C.2.1 dX7_init_4 rfl (lv_at hl 0 rfl) ?_
  refine lv_bipush (v := nI 40) C.1 C.2.1 dX7_init_5 (by decide) ?_
  refine k_newI C hw q_38 40 rfl (by decide) (Nat.le_of_ble_eq_true rfl) (Nat.le_of_ble_eq_true rfl) dX7_init_7 (fun M_1 H hw h83 hF => ?_)
  have h82 := (hF 82 (by decide)).trans h82
  have hFF := kF_st hFF hF (by first | decide | simp)
  refine k_putF (tf := .array .int) C hw 82 (by decide) h82 rfl inlX7 tyX7 tyX7_ok nmX7 0 (by decide) q_102 rfl hnm rfl (by decide +kernel) rfl rfl (Nat.le_of_ble_eq_true rfl) dX7_init_9 (fun M_2 H locs hw h82 hF => ?_)
  have h82 : M_2 82 = .inr (7, [.ref (b + 83), .null, .int 0, .int 0]) := h82
  have h83 := (hF 83 (by decide)).trans h83
  have hFF := kF_st hFF hF (by first | decide | simp)
  refine lv_aload_n C.1 C.2.1 dX7_init_12 rfl (lv_at hl 0 rfl) ?_
  refine lv_bipush (v := nI 40) C.1 C.2.1 dX7_init_13 (by decide) ?_
  refine k_newI C hw q_38 40 rfl (by decide) (Nat.le_of_ble_eq_true rfl) (Nat.le_of_ble_eq_true rfl) dX7_init_15 (fun M_3 H hw h84 hF => ?_)
  have h82 := (hF 82 (by decide)).trans h82
  have h83 := (hF 83 (by decide)).trans h83
  have hFF := kF_st hFF hF (by first | decide | simp)
  refine k_putF (tf := .array .int) C hw 82 (by decide) h82 rfl inlX7 tyX7 tyX7_ok nmX7 1 (by decide) q_103 rfl hnm rfl (by decide +kernel) rfl rfl (Nat.le_of_ble_eq_true rfl) dX7_init_17 (fun M_4 H locs hw h82 hF => ?_)
  have h82 : M_4 82 = .inr (7, [.ref (b + 83), .ref (b + 84), .int 0, .int 0]) := h82
  have h83 := (hF 83 (by decide)).trans h83
  have h84 := (hF 84 (by decide)).trans h84
  have hFF := kF_st hFF hF (by first | decide | simp)
  exact hret _ _ (Nat.le_of_ble_eq_true rfl) (Nat.le_of_ble_eq_true rfl) hw (⟨rfl, hFF, h82, h83, h84⟩) dX7_init_20

set_option maxHeartbeats 4000000 in
set_option maxRecDepth 100000 in
theorem c_X0_init_74 {l : Launch} {D : va_G} {cI cJ cZ cH cR : ClassId} {b : Nat} {M : Nat → va_E}     (h74 : M 74 = .inr (0, [.null, .null, .null]))   : Met l yX0_init (kw yX0_init cX0_init 1 none) ({ frames := 2, cells := 10, slots := 1491, locals := 32 }) (va_Pc [.ref (b + 74)] (kPre D (kT cI cJ cZ cH cR) b M 75)) (va_Qv (fun (u : (Nat → va_E) × Nat) => u.2 = 85 ∧ kF [74, 75, 76, 77, 78, 79, 80, 81, 82, 83, 84] M u.1 ∧ u.1 74 = .inr (0, [.ref (b + 75), .ref (b + 78), .ref (b + 82)]) ∧ u.1 75 = .inr (6, [.ref (b + 76), .ref (b + 77)]) ∧ u.1 76 = .inl (cI, 100, .inl (fun _ => 0)) ∧ u.1 77 = .inl (cJ, 100, .inr (.inl (fun _ => 0))) ∧ u.1 78 = .inr (5, [.ref (b + 79), .ref (b + 80), .ref (b + 81), .int (nI 0), .int (nI 0)]) ∧ u.1 79 = .inl (cI, 400, .inl (fun _ => 0)) ∧ u.1 80 = .inl (cI, 400, .inl (fun _ => 0)) ∧ u.1 81 = .inl (cI, 400, .inl (fun _ => 0)) ∧ u.1 82 = .inr (7, [.ref (b + 83), .ref (b + 84), .int (nI 0), .int (0)]) ∧ u.1 83 = .inl (cI, 40, .inl (fun _ => 0)) ∧ u.1 84 = .inl (cI, 40, .inl (fun _ => 0))) (kB D (kT cI cJ cZ cH cR) b) (kA b)) 10 1491 (kA b) := by
  refine k_metV (by decide +kernel) (Nat.le_of_ble_eq_true rfl) ?_
  intro p e s m below meth c ls Q C hw hret hnm hl
  have hl : lv_has ls 1 [(0, .ref (b + 74))] := hl
  have hFF : kF [74, 75, 76, 77, 78, 79, 80, 81, 82, 83, 84] M M := kF_rf
  refine lv_aload_n C.1 C.2.1 dX0_init_0 rfl (lv_at hl 0 rfl) ?_
  refine W.objInit C.1 C.2.1 C.2.2.2.1 (C.2.2.2.2.1 _ q_71) (C.2.2.2.2.1 _ q_10) (C.2.2.2.2.1 _ q_11) rfl (by rw [C.2.2.1]; exact hl.1) rfl dX0_init_1 (Nat.le_of_ble_eq_true rfl) (Nat.le_of_ble_eq_true rfl) ?_
  refine W.eq (g2 := F0 m 4 ls []) rfl ?_
  refine lv_aload_n C.1 C.2.1 dX0_init_4 rfl (lv_at hl 0 rfl) ?_
  refine k_new (fs := [.null, .null]) C hw (ci := 6) rfl inlX6 tyX6 tyX6_ok q_72 q_73 q_74 (by decide +kernel) (Nat.le_of_ble_eq_true rfl) (Nat.le_of_ble_eq_true rfl) dX0_init_5 (fun M_1 H hw h75 hF => ?_)
  have h74 := (hF 74 (by decide)).trans h74
  have hFF := kF_st hFF hF (by first | decide | simp)
  refine lv_dup C.1 C.2.1 dX0_init_8 rfl ?_
  refine k_cv C hw (c_X6_init_74 h75  ) kv_X0_9 rfl hl.1 ⟨Nat.le_of_ble_eq_true rfl, Nat.le_of_ble_eq_true rfl⟩ (Nat.le_of_ble_eq_true rfl) ⟨Nat.le_of_ble_eq_true rfl, Nat.le_of_ble_eq_true rfl⟩ dX0_init_9 (fun M_2 n9 H locs hp hw => ?_)
  obtain ⟨en9, hF, h75, h76, h77⟩ := hp
  have en9 : n9 = 78 := en9
  rw [en9] at hw
  have h74 := (hF 74 (by decide)).trans h74
  have hFF := kF_st hFF hF (by first | decide | simp)
  refine k_putF (tf := .object "KeyGroups$States") C hw 74 (by decide) h74 rfl inlX0 tyX0 tyX0_ok nmX0 0 (by decide) q_75 rfl hnm rfl (by decide +kernel) rfl rfl (Nat.le_of_ble_eq_true rfl) dX0_init_12 (fun M_3 H locs hw h74 hF => ?_)
  have h74 : M_3 74 = .inr (0, [.ref (b + 75), .null, .null]) := h74
  have h75 := (hF 75 (by decide)).trans h75
  have h76 := (hF 76 (by decide)).trans h76
  have h77 := (hF 77 (by decide)).trans h77
  have hFF := kF_st hFF hF (by first | decide | simp)
  refine lv_aload_n C.1 C.2.1 dX0_init_15 rfl (lv_at hl 0 rfl) ?_
  refine k_new (fs := [.null, .null, .null, .int 0, .int 0]) C hw (ci := 5) rfl inlX5 tyX5 tyX5_ok q_76 q_77 q_78 (by decide +kernel) (Nat.le_of_ble_eq_true rfl) (Nat.le_of_ble_eq_true rfl) dX0_init_16 (fun M_4 H hw h78 hF => ?_)
  have h74 := (hF 74 (by decide)).trans h74
  have h75 := (hF 75 (by decide)).trans h75
  have h76 := (hF 76 (by decide)).trans h76
  have h77 := (hF 77 (by decide)).trans h77
  have hFF := kF_st hFF hF (by first | decide | simp)
  refine lv_dup C.1 C.2.1 dX0_init_19 rfl ?_
  refine k_cv C hw (c_X5_init_74 h78  ) kv_X0_18 rfl hl.1 ⟨Nat.le_of_ble_eq_true rfl, Nat.le_of_ble_eq_true rfl⟩ (Nat.le_of_ble_eq_true rfl) ⟨Nat.le_of_ble_eq_true rfl, Nat.le_of_ble_eq_true rfl⟩ dX0_init_20 (fun M_5 n9 H locs hp hw => ?_)
  obtain ⟨en9, hF, h78, h79, h80, h81⟩ := hp
  have en9 : n9 = 82 := en9
  rw [en9] at hw
  have h74 := (hF 74 (by decide)).trans h74
  have h75 := (hF 75 (by decide)).trans h75
  have h76 := (hF 76 (by decide)).trans h76
  have h77 := (hF 77 (by decide)).trans h77
  have hFF := kF_st hFF hF (by first | decide | simp)
  refine k_putF (tf := .object "KeyGroups$Rows") C hw 74 (by decide) h74 rfl inlX0 tyX0 tyX0_ok nmX0 1 (by decide) q_79 rfl hnm rfl (by decide +kernel) rfl rfl (Nat.le_of_ble_eq_true rfl) dX0_init_23 (fun M_6 H locs hw h74 hF => ?_)
  have h74 : M_6 74 = .inr (0, [.ref (b + 75), .ref (b + 78), .null]) := h74
  have h75 := (hF 75 (by decide)).trans h75
  have h76 := (hF 76 (by decide)).trans h76
  have h77 := (hF 77 (by decide)).trans h77
  have h78 := (hF 78 (by decide)).trans h78
  have h79 := (hF 79 (by decide)).trans h79
  have h80 := (hF 80 (by decide)).trans h80
  have h81 := (hF 81 (by decide)).trans h81
  have hFF := kF_st hFF hF (by first | decide | simp)
  refine lv_aload_n C.1 C.2.1 dX0_init_26 rfl (lv_at hl 0 rfl) ?_
  refine k_new (fs := [.null, .null, .int 0, .int 0]) C hw (ci := 7) rfl inlX7 tyX7 tyX7_ok q_80 q_81 q_82 (by decide +kernel) (Nat.le_of_ble_eq_true rfl) (Nat.le_of_ble_eq_true rfl) dX0_init_27 (fun M_7 H hw h82 hF => ?_)
  have h74 := (hF 74 (by decide)).trans h74
  have h75 := (hF 75 (by decide)).trans h75
  have h76 := (hF 76 (by decide)).trans h76
  have h77 := (hF 77 (by decide)).trans h77
  have h78 := (hF 78 (by decide)).trans h78
  have h79 := (hF 79 (by decide)).trans h79
  have h80 := (hF 80 (by decide)).trans h80
  have h81 := (hF 81 (by decide)).trans h81
  have hFF := kF_st hFF hF (by first | decide | simp)
  refine lv_dup C.1 C.2.1 dX0_init_30 rfl ?_
  refine k_cv C hw (c_X7_init_74 h82  ) kv_X0_25 rfl hl.1 ⟨Nat.le_of_ble_eq_true rfl, Nat.le_of_ble_eq_true rfl⟩ (Nat.le_of_ble_eq_true rfl) ⟨Nat.le_of_ble_eq_true rfl, Nat.le_of_ble_eq_true rfl⟩ dX0_init_31 (fun M_8 n9 H locs hp hw => ?_)
  obtain ⟨en9, hF, h82, h83, h84⟩ := hp
  have en9 : n9 = 85 := en9
  rw [en9] at hw
  have h74 := (hF 74 (by decide)).trans h74
  have h75 := (hF 75 (by decide)).trans h75
  have h76 := (hF 76 (by decide)).trans h76
  have h77 := (hF 77 (by decide)).trans h77
  have h78 := (hF 78 (by decide)).trans h78
  have h79 := (hF 79 (by decide)).trans h79
  have h80 := (hF 80 (by decide)).trans h80
  have h81 := (hF 81 (by decide)).trans h81
  have hFF := kF_st hFF hF (by first | decide | simp)
  refine k_putF (tf := .object "KeyGroups$Timers") C hw 74 (by decide) h74 rfl inlX0 tyX0 tyX0_ok nmX0 2 (by decide) q_83 rfl hnm rfl (by decide +kernel) rfl rfl (Nat.le_of_ble_eq_true rfl) dX0_init_34 (fun M_9 H locs hw h74 hF => ?_)
  have h74 : M_9 74 = .inr (0, [.ref (b + 75), .ref (b + 78), .ref (b + 82)]) := h74
  have h75 := (hF 75 (by decide)).trans h75
  have h76 := (hF 76 (by decide)).trans h76
  have h77 := (hF 77 (by decide)).trans h77
  have h78 := (hF 78 (by decide)).trans h78
  have h79 := (hF 79 (by decide)).trans h79
  have h80 := (hF 80 (by decide)).trans h80
  have h81 := (hF 81 (by decide)).trans h81
  have h82 := (hF 82 (by decide)).trans h82
  have h83 := (hF 83 (by decide)).trans h83
  have h84 := (hF 84 (by decide)).trans h84
  have hFF := kF_st hFF hF (by first | decide | simp)
  exact hret _ _ (Nat.le_of_ble_eq_true rfl) (Nat.le_of_ble_eq_true rfl) hw (⟨rfl, hFF, h74, h75, h76, h77, h78, h79, h80, h81, h82, h83, h84⟩) dX0_init_37

set_option maxHeartbeats 4000000 in
set_option maxRecDepth 100000 in
theorem c_X6_init_85 {l : Launch} {D : va_G} {cI cJ cZ cH cR : ClassId} {b : Nat} {M : Nat → va_E}     (h86 : M 86 = .inr (6, [.null, .null]))   : Met l yX6_init (kw yX6_init cX6_init 1 none) ({ frames := 1, cells := 2, slots := 200, locals := 12 }) (va_Pc [.ref (b + 86)] (kPre D (kT cI cJ cZ cH cR) b M 87)) (va_Qv (fun (u : (Nat → va_E) × Nat) => u.2 = 89 ∧ kF [86, 87, 88] M u.1 ∧ u.1 86 = .inr (6, [.ref (b + 87), .ref (b + 88)]) ∧ u.1 87 = .inl (cI, 100, .inl (fun _ => 0)) ∧ u.1 88 = .inl (cJ, 100, .inr (.inl (fun _ => 0)))) (kB D (kT cI cJ cZ cH cR) b) (kA b)) 2 200 (kA b) := by
  refine k_metV (by decide +kernel) (Nat.le_of_ble_eq_true rfl) ?_
  intro p e s m below meth c ls Q C hw hret hnm hl
  have hl : lv_has ls 1 [(0, .ref (b + 86))] := hl
  have hFF : kF [86, 87, 88] M M := kF_rf
  refine lv_aload_n C.1 C.2.1 dX6_init_0 rfl (lv_at hl 0 rfl) ?_
  refine W.objInit C.1 C.2.1 C.2.2.2.1 (C.2.2.2.2.1 _ q_87) (C.2.2.2.2.1 _ q_10) (C.2.2.2.2.1 _ q_11) rfl (by rw [C.2.2.1]; exact hl.1) rfl dX6_init_1 (Nat.le_of_ble_eq_true rfl) (Nat.le_of_ble_eq_true rfl) ?_
  refine W.eq (g2 := F0 m 4 ls []) rfl ?_
  refine lv_aload_n C.1 C.2.1 dX6_init_4 rfl (lv_at hl 0 rfl) ?_
  refine lv_bipush (v := nI 100) C.1 C.2.1 dX6_init_5 (by decide) ?_
  refine k_newI C hw q_38 100 rfl (by decide) (Nat.le_of_ble_eq_true rfl) (Nat.le_of_ble_eq_true rfl) dX6_init_7 (fun M_1 H hw h87 hF => ?_)
  have h86 := (hF 86 (by decide)).trans h86
  have hFF := kF_st hFF hF (by first | decide | simp)
  refine k_putF (tf := .array .int) C hw 86 (by decide) h86 rfl inlX6 tyX6 tyX6_ok nmX6 0 (by decide) q_88 rfl hnm rfl (by decide +kernel) rfl rfl (Nat.le_of_ble_eq_true rfl) dX6_init_9 (fun M_2 H locs hw h86 hF => ?_)
  have h86 : M_2 86 = .inr (6, [.ref (b + 87), .null]) := h86
  have h87 := (hF 87 (by decide)).trans h87
  have hFF := kF_st hFF hF (by first | decide | simp)
  refine lv_aload_n C.1 C.2.1 dX6_init_12 rfl (lv_at hl 0 rfl) ?_
  refine lv_bipush (v := nI 100) C.1 C.2.1 dX6_init_13 (by decide) ?_
  refine k_newJ C hw q_89 100 rfl (by decide) (Nat.le_of_ble_eq_true rfl) (Nat.le_of_ble_eq_true rfl) dX6_init_15 (fun M_3 H hw h88 hF => ?_)
  have h86 := (hF 86 (by decide)).trans h86
  have h87 := (hF 87 (by decide)).trans h87
  have hFF := kF_st hFF hF (by first | decide | simp)
  refine k_putF (tf := .array .long) C hw 86 (by decide) h86 rfl inlX6 tyX6 tyX6_ok nmX6 1 (by decide) q_90 rfl hnm rfl (by decide +kernel) rfl rfl (Nat.le_of_ble_eq_true rfl) dX6_init_17 (fun M_4 H locs hw h86 hF => ?_)
  have h86 : M_4 86 = .inr (6, [.ref (b + 87), .ref (b + 88)]) := h86
  have h87 := (hF 87 (by decide)).trans h87
  have h88 := (hF 88 (by decide)).trans h88
  have hFF := kF_st hFF hF (by first | decide | simp)
  exact hret _ _ (Nat.le_of_ble_eq_true rfl) (Nat.le_of_ble_eq_true rfl) hw (⟨rfl, hFF, h86, h87, h88⟩) dX6_init_20

set_option maxHeartbeats 4000000 in
set_option maxRecDepth 100000 in
theorem c_X5_init_85 {l : Launch} {D : va_G} {cI cJ cZ cH cR : ClassId} {b : Nat} {M : Nat → va_E}     (h89 : M 89 = .inr (5, [.null, .null, .null, .int 0, .int 0]))   : Met l yX5_init (kw yX5_init cX5_init 1 none) ({ frames := 1, cells := 3, slots := 1200, locals := 12 }) (va_Pc [.ref (b + 89)] (kPre D (kT cI cJ cZ cH cR) b M 90)) (va_Qv (fun (u : (Nat → va_E) × Nat) => u.2 = 93 ∧ kF [89, 90, 91, 92] M u.1 ∧ u.1 89 = .inr (5, [.ref (b + 90), .ref (b + 91), .ref (b + 92), .int (nI 0), .int (nI 0)]) ∧ u.1 90 = .inl (cI, 400, .inl (fun _ => 0)) ∧ u.1 91 = .inl (cI, 400, .inl (fun _ => 0)) ∧ u.1 92 = .inl (cI, 400, .inl (fun _ => 0))) (kB D (kT cI cJ cZ cH cR) b) (kA b)) 3 1200 (kA b) := by
  refine k_metV (by decide +kernel) (Nat.le_of_ble_eq_true rfl) ?_
  intro p e s m below meth c ls Q C hw hret hnm hl
  have hl : lv_has ls 1 [(0, .ref (b + 89))] := hl
  have hFF : kF [89, 90, 91, 92] M M := kF_rf
  refine lv_aload_n C.1 C.2.1 dX5_init_0 rfl (lv_at hl 0 rfl) ?_
  refine W.objInit C.1 C.2.1 C.2.2.2.1 (C.2.2.2.2.1 _ q_94) (C.2.2.2.2.1 _ q_10) (C.2.2.2.2.1 _ q_11) rfl (by rw [C.2.2.1]; exact hl.1) rfl dX5_init_1 (Nat.le_of_ble_eq_true rfl) (Nat.le_of_ble_eq_true rfl) ?_
  refine W.eq (g2 := F0 m 4 ls []) rfl ?_
  refine lv_aload_n C.1 C.2.1 dX5_init_4 rfl (lv_at hl 0 rfl) ?_
  refine lv_sipush (v := nI 400) C.1 C.2.1 dX5_init_5 (by decide) ?_
  refine k_newI C hw q_38 400 rfl (by decide) (Nat.le_of_ble_eq_true rfl) (Nat.le_of_ble_eq_true rfl) dX5_init_8 (fun M_1 H hw h90 hF => ?_)
  have h89 := (hF 89 (by decide)).trans h89
  have hFF := kF_st hFF hF (by first | decide | simp)
  refine k_putF (tf := .array .int) C hw 89 (by decide) h89 rfl inlX5 tyX5 tyX5_ok nmX5 0 (by decide) q_95 rfl hnm rfl (by decide +kernel) rfl rfl (Nat.le_of_ble_eq_true rfl) dX5_init_10 (fun M_2 H locs hw h89 hF => ?_)
  have h89 : M_2 89 = .inr (5, [.ref (b + 90), .null, .null, .int 0, .int 0]) := h89
  have h90 := (hF 90 (by decide)).trans h90
  have hFF := kF_st hFF hF (by first | decide | simp)
  refine lv_aload_n C.1 C.2.1 dX5_init_13 rfl (lv_at hl 0 rfl) ?_
  refine lv_sipush (v := nI 400) C.1 C.2.1 dX5_init_14 (by decide) ?_
  refine k_newI C hw q_38 400 rfl (by decide) (Nat.le_of_ble_eq_true rfl) (Nat.le_of_ble_eq_true rfl) dX5_init_17 (fun M_3 H hw h91 hF => ?_)
  have h89 := (hF 89 (by decide)).trans h89
  have h90 := (hF 90 (by decide)).trans h90
  have hFF := kF_st hFF hF (by first | decide | simp)
  refine k_putF (tf := .array .int) C hw 89 (by decide) h89 rfl inlX5 tyX5 tyX5_ok nmX5 1 (by decide) q_96 rfl hnm rfl (by decide +kernel) rfl rfl (Nat.le_of_ble_eq_true rfl) dX5_init_19 (fun M_4 H locs hw h89 hF => ?_)
  have h89 : M_4 89 = .inr (5, [.ref (b + 90), .ref (b + 91), .null, .int 0, .int 0]) := h89
  have h90 := (hF 90 (by decide)).trans h90
  have h91 := (hF 91 (by decide)).trans h91
  have hFF := kF_st hFF hF (by first | decide | simp)
  refine lv_aload_n C.1 C.2.1 dX5_init_22 rfl (lv_at hl 0 rfl) ?_
  refine lv_sipush (v := nI 400) C.1 C.2.1 dX5_init_23 (by decide) ?_
  refine k_newI C hw q_38 400 rfl (by decide) (Nat.le_of_ble_eq_true rfl) (Nat.le_of_ble_eq_true rfl) dX5_init_26 (fun M_5 H hw h92 hF => ?_)
  have h89 := (hF 89 (by decide)).trans h89
  have h90 := (hF 90 (by decide)).trans h90
  have h91 := (hF 91 (by decide)).trans h91
  have hFF := kF_st hFF hF (by first | decide | simp)
  refine k_putF (tf := .array .int) C hw 89 (by decide) h89 rfl inlX5 tyX5 tyX5_ok nmX5 2 (by decide) q_97 rfl hnm rfl (by decide +kernel) rfl rfl (Nat.le_of_ble_eq_true rfl) dX5_init_28 (fun M_6 H locs hw h89 hF => ?_)
  have h89 : M_6 89 = .inr (5, [.ref (b + 90), .ref (b + 91), .ref (b + 92), .int 0, .int 0]) := h89
  have h90 := (hF 90 (by decide)).trans h90
  have h91 := (hF 91 (by decide)).trans h91
  have h92 := (hF 92 (by decide)).trans h92
  have hFF := kF_st hFF hF (by first | decide | simp)
  exact hret _ _ (Nat.le_of_ble_eq_true rfl) (Nat.le_of_ble_eq_true rfl) hw (⟨rfl, hFF, h89, h90, h91, h92⟩) dX5_init_31

set_option maxHeartbeats 4000000 in
set_option maxRecDepth 100000 in
theorem c_X7_init_85 {l : Launch} {D : va_G} {cI cJ cZ cH cR : ClassId} {b : Nat} {M : Nat → va_E}     (h93 : M 93 = .inr (7, [.null, .null, .int 0, .int 0]))   : Met l yX7_init (kw yX7_init cX7_init 1 none) ({ frames := 1, cells := 2, slots := 80, locals := 12 }) (va_Pc [.ref (b + 93)] (kPre D (kT cI cJ cZ cH cR) b M 94)) (va_Qv (fun (u : (Nat → va_E) × Nat) => u.2 = 96 ∧ kF [93, 94, 95] M u.1 ∧ u.1 93 = .inr (7, [.ref (b + 94), .ref (b + 95), .int (nI 0), .int (0)]) ∧ u.1 94 = .inl (cI, 40, .inl (fun _ => 0)) ∧ u.1 95 = .inl (cI, 40, .inl (fun _ => 0))) (kB D (kT cI cJ cZ cH cR) b) (kA b)) 2 80 (kA b) := by
  refine k_metV (by decide +kernel) (Nat.le_of_ble_eq_true rfl) ?_
  intro p e s m below meth c ls Q C hw hret hnm hl
  have hl : lv_has ls 1 [(0, .ref (b + 93))] := hl
  have hFF : kF [93, 94, 95] M M := kF_rf
  refine lv_aload_n C.1 C.2.1 dX7_init_0 rfl (lv_at hl 0 rfl) ?_
  refine W.objInit C.1 C.2.1 C.2.2.2.1 (C.2.2.2.2.1 _ q_101) (C.2.2.2.2.1 _ q_10) (C.2.2.2.2.1 _ q_11) rfl (by rw [C.2.2.1]; exact hl.1) rfl dX7_init_1 (Nat.le_of_ble_eq_true rfl) (Nat.le_of_ble_eq_true rfl) ?_
  refine W.eq (g2 := F0 m 4 ls []) rfl ?_
  refine lv_aload_n C.1 C.2.1 dX7_init_4 rfl (lv_at hl 0 rfl) ?_
  refine lv_bipush (v := nI 40) C.1 C.2.1 dX7_init_5 (by decide) ?_
  refine k_newI C hw q_38 40 rfl (by decide) (Nat.le_of_ble_eq_true rfl) (Nat.le_of_ble_eq_true rfl) dX7_init_7 (fun M_1 H hw h94 hF => ?_)
  have h93 := (hF 93 (by decide)).trans h93
  have hFF := kF_st hFF hF (by first | decide | simp)
  refine k_putF (tf := .array .int) C hw 93 (by decide) h93 rfl inlX7 tyX7 tyX7_ok nmX7 0 (by decide) q_102 rfl hnm rfl (by decide +kernel) rfl rfl (Nat.le_of_ble_eq_true rfl) dX7_init_9 (fun M_2 H locs hw h93 hF => ?_)
  have h93 : M_2 93 = .inr (7, [.ref (b + 94), .null, .int 0, .int 0]) := h93
  have h94 := (hF 94 (by decide)).trans h94
  have hFF := kF_st hFF hF (by first | decide | simp)
  refine lv_aload_n C.1 C.2.1 dX7_init_12 rfl (lv_at hl 0 rfl) ?_
  refine lv_bipush (v := nI 40) C.1 C.2.1 dX7_init_13 (by decide) ?_
  refine k_newI C hw q_38 40 rfl (by decide) (Nat.le_of_ble_eq_true rfl) (Nat.le_of_ble_eq_true rfl) dX7_init_15 (fun M_3 H hw h95 hF => ?_)
  have h93 := (hF 93 (by decide)).trans h93
  have h94 := (hF 94 (by decide)).trans h94
  have hFF := kF_st hFF hF (by first | decide | simp)
  refine k_putF (tf := .array .int) C hw 93 (by decide) h93 rfl inlX7 tyX7 tyX7_ok nmX7 1 (by decide) q_103 rfl hnm rfl (by decide +kernel) rfl rfl (Nat.le_of_ble_eq_true rfl) dX7_init_17 (fun M_4 H locs hw h93 hF => ?_)
  have h93 : M_4 93 = .inr (7, [.ref (b + 94), .ref (b + 95), .int 0, .int 0]) := h93
  have h94 := (hF 94 (by decide)).trans h94
  have h95 := (hF 95 (by decide)).trans h95
  have hFF := kF_st hFF hF (by first | decide | simp)
  exact hret _ _ (Nat.le_of_ble_eq_true rfl) (Nat.le_of_ble_eq_true rfl) hw (⟨rfl, hFF, h93, h94, h95⟩) dX7_init_20

set_option maxHeartbeats 4000000 in
set_option maxRecDepth 100000 in
theorem c_X0_init_85 {l : Launch} {D : va_G} {cI cJ cZ cH cR : ClassId} {b : Nat} {M : Nat → va_E}     (h85 : M 85 = .inr (0, [.null, .null, .null]))   : Met l yX0_init (kw yX0_init cX0_init 1 none) ({ frames := 2, cells := 10, slots := 1491, locals := 32 }) (va_Pc [.ref (b + 85)] (kPre D (kT cI cJ cZ cH cR) b M 86)) (va_Qv (fun (u : (Nat → va_E) × Nat) => u.2 = 96 ∧ kF [85, 86, 87, 88, 89, 90, 91, 92, 93, 94, 95] M u.1 ∧ u.1 85 = .inr (0, [.ref (b + 86), .ref (b + 89), .ref (b + 93)]) ∧ u.1 86 = .inr (6, [.ref (b + 87), .ref (b + 88)]) ∧ u.1 87 = .inl (cI, 100, .inl (fun _ => 0)) ∧ u.1 88 = .inl (cJ, 100, .inr (.inl (fun _ => 0))) ∧ u.1 89 = .inr (5, [.ref (b + 90), .ref (b + 91), .ref (b + 92), .int (nI 0), .int (nI 0)]) ∧ u.1 90 = .inl (cI, 400, .inl (fun _ => 0)) ∧ u.1 91 = .inl (cI, 400, .inl (fun _ => 0)) ∧ u.1 92 = .inl (cI, 400, .inl (fun _ => 0)) ∧ u.1 93 = .inr (7, [.ref (b + 94), .ref (b + 95), .int (nI 0), .int (0)]) ∧ u.1 94 = .inl (cI, 40, .inl (fun _ => 0)) ∧ u.1 95 = .inl (cI, 40, .inl (fun _ => 0))) (kB D (kT cI cJ cZ cH cR) b) (kA b)) 10 1491 (kA b) := by
  refine k_metV (by decide +kernel) (Nat.le_of_ble_eq_true rfl) ?_
  intro p e s m below meth c ls Q C hw hret hnm hl
  have hl : lv_has ls 1 [(0, .ref (b + 85))] := hl
  have hFF : kF [85, 86, 87, 88, 89, 90, 91, 92, 93, 94, 95] M M := kF_rf
  refine lv_aload_n C.1 C.2.1 dX0_init_0 rfl (lv_at hl 0 rfl) ?_
  refine W.objInit C.1 C.2.1 C.2.2.2.1 (C.2.2.2.2.1 _ q_71) (C.2.2.2.2.1 _ q_10) (C.2.2.2.2.1 _ q_11) rfl (by rw [C.2.2.1]; exact hl.1) rfl dX0_init_1 (Nat.le_of_ble_eq_true rfl) (Nat.le_of_ble_eq_true rfl) ?_
  refine W.eq (g2 := F0 m 4 ls []) rfl ?_
  refine lv_aload_n C.1 C.2.1 dX0_init_4 rfl (lv_at hl 0 rfl) ?_
  refine k_new (fs := [.null, .null]) C hw (ci := 6) rfl inlX6 tyX6 tyX6_ok q_72 q_73 q_74 (by decide +kernel) (Nat.le_of_ble_eq_true rfl) (Nat.le_of_ble_eq_true rfl) dX0_init_5 (fun M_1 H hw h86 hF => ?_)
  have h85 := (hF 85 (by decide)).trans h85
  have hFF := kF_st hFF hF (by first | decide | simp)
  refine lv_dup C.1 C.2.1 dX0_init_8 rfl ?_
  refine k_cv C hw (c_X6_init_85 h86  ) kv_X0_9 rfl hl.1 ⟨Nat.le_of_ble_eq_true rfl, Nat.le_of_ble_eq_true rfl⟩ (Nat.le_of_ble_eq_true rfl) ⟨Nat.le_of_ble_eq_true rfl, Nat.le_of_ble_eq_true rfl⟩ dX0_init_9 (fun M_2 n9 H locs hp hw => ?_)
  obtain ⟨en9, hF, h86, h87, h88⟩ := hp
  have en9 : n9 = 89 := en9
  rw [en9] at hw
  have h85 := (hF 85 (by decide)).trans h85
  have hFF := kF_st hFF hF (by first | decide | simp)
  refine k_putF (tf := .object "KeyGroups$States") C hw 85 (by decide) h85 rfl inlX0 tyX0 tyX0_ok nmX0 0 (by decide) q_75 rfl hnm rfl (by decide +kernel) rfl rfl (Nat.le_of_ble_eq_true rfl) dX0_init_12 (fun M_3 H locs hw h85 hF => ?_)
  have h85 : M_3 85 = .inr (0, [.ref (b + 86), .null, .null]) := h85
  have h86 := (hF 86 (by decide)).trans h86
  have h87 := (hF 87 (by decide)).trans h87
  have h88 := (hF 88 (by decide)).trans h88
  have hFF := kF_st hFF hF (by first | decide | simp)
  refine lv_aload_n C.1 C.2.1 dX0_init_15 rfl (lv_at hl 0 rfl) ?_
  refine k_new (fs := [.null, .null, .null, .int 0, .int 0]) C hw (ci := 5) rfl inlX5 tyX5 tyX5_ok q_76 q_77 q_78 (by decide +kernel) (Nat.le_of_ble_eq_true rfl) (Nat.le_of_ble_eq_true rfl) dX0_init_16 (fun M_4 H hw h89 hF => ?_)
  have h85 := (hF 85 (by decide)).trans h85
  have h86 := (hF 86 (by decide)).trans h86
  have h87 := (hF 87 (by decide)).trans h87
  have h88 := (hF 88 (by decide)).trans h88
  have hFF := kF_st hFF hF (by first | decide | simp)
  refine lv_dup C.1 C.2.1 dX0_init_19 rfl ?_
  refine k_cv C hw (c_X5_init_85 h89  ) kv_X0_18 rfl hl.1 ⟨Nat.le_of_ble_eq_true rfl, Nat.le_of_ble_eq_true rfl⟩ (Nat.le_of_ble_eq_true rfl) ⟨Nat.le_of_ble_eq_true rfl, Nat.le_of_ble_eq_true rfl⟩ dX0_init_20 (fun M_5 n9 H locs hp hw => ?_)
  obtain ⟨en9, hF, h89, h90, h91, h92⟩ := hp
  have en9 : n9 = 93 := en9
  rw [en9] at hw
  have h85 := (hF 85 (by decide)).trans h85
  have h86 := (hF 86 (by decide)).trans h86
  have h87 := (hF 87 (by decide)).trans h87
  have h88 := (hF 88 (by decide)).trans h88
  have hFF := kF_st hFF hF (by first | decide | simp)
  refine k_putF (tf := .object "KeyGroups$Rows") C hw 85 (by decide) h85 rfl inlX0 tyX0 tyX0_ok nmX0 1 (by decide) q_79 rfl hnm rfl (by decide +kernel) rfl rfl (Nat.le_of_ble_eq_true rfl) dX0_init_23 (fun M_6 H locs hw h85 hF => ?_)
  have h85 : M_6 85 = .inr (0, [.ref (b + 86), .ref (b + 89), .null]) := h85
  have h86 := (hF 86 (by decide)).trans h86
  have h87 := (hF 87 (by decide)).trans h87
  have h88 := (hF 88 (by decide)).trans h88
  have h89 := (hF 89 (by decide)).trans h89
  have h90 := (hF 90 (by decide)).trans h90
  have h91 := (hF 91 (by decide)).trans h91
  have h92 := (hF 92 (by decide)).trans h92
  have hFF := kF_st hFF hF (by first | decide | simp)
  refine lv_aload_n C.1 C.2.1 dX0_init_26 rfl (lv_at hl 0 rfl) ?_
  refine k_new (fs := [.null, .null, .int 0, .int 0]) C hw (ci := 7) rfl inlX7 tyX7 tyX7_ok q_80 q_81 q_82 (by decide +kernel) (Nat.le_of_ble_eq_true rfl) (Nat.le_of_ble_eq_true rfl) dX0_init_27 (fun M_7 H hw h93 hF => ?_)
  have h85 := (hF 85 (by decide)).trans h85
  have h86 := (hF 86 (by decide)).trans h86
  have h87 := (hF 87 (by decide)).trans h87
  have h88 := (hF 88 (by decide)).trans h88
  have h89 := (hF 89 (by decide)).trans h89
  have h90 := (hF 90 (by decide)).trans h90
  have h91 := (hF 91 (by decide)).trans h91
  have h92 := (hF 92 (by decide)).trans h92
  have hFF := kF_st hFF hF (by first | decide | simp)
  refine lv_dup C.1 C.2.1 dX0_init_30 rfl ?_
  refine k_cv C hw (c_X7_init_85 h93  ) kv_X0_25 rfl hl.1 ⟨Nat.le_of_ble_eq_true rfl, Nat.le_of_ble_eq_true rfl⟩ (Nat.le_of_ble_eq_true rfl) ⟨Nat.le_of_ble_eq_true rfl, Nat.le_of_ble_eq_true rfl⟩ dX0_init_31 (fun M_8 n9 H locs hp hw => ?_)
  obtain ⟨en9, hF, h93, h94, h95⟩ := hp
  have en9 : n9 = 96 := en9
  rw [en9] at hw
  have h85 := (hF 85 (by decide)).trans h85
  have h86 := (hF 86 (by decide)).trans h86
  have h87 := (hF 87 (by decide)).trans h87
  have h88 := (hF 88 (by decide)).trans h88
  have h89 := (hF 89 (by decide)).trans h89
  have h90 := (hF 90 (by decide)).trans h90
  have h91 := (hF 91 (by decide)).trans h91
  have h92 := (hF 92 (by decide)).trans h92
  have hFF := kF_st hFF hF (by first | decide | simp)
  refine k_putF (tf := .object "KeyGroups$Timers") C hw 85 (by decide) h85 rfl inlX0 tyX0 tyX0_ok nmX0 2 (by decide) q_83 rfl hnm rfl (by decide +kernel) rfl rfl (Nat.le_of_ble_eq_true rfl) dX0_init_34 (fun M_9 H locs hw h85 hF => ?_)
  have h85 : M_9 85 = .inr (0, [.ref (b + 86), .ref (b + 89), .ref (b + 93)]) := h85
  have h86 := (hF 86 (by decide)).trans h86
  have h87 := (hF 87 (by decide)).trans h87
  have h88 := (hF 88 (by decide)).trans h88
  have h89 := (hF 89 (by decide)).trans h89
  have h90 := (hF 90 (by decide)).trans h90
  have h91 := (hF 91 (by decide)).trans h91
  have h92 := (hF 92 (by decide)).trans h92
  have h93 := (hF 93 (by decide)).trans h93
  have h94 := (hF 94 (by decide)).trans h94
  have h95 := (hF 95 (by decide)).trans h95
  have hFF := kF_st hFF hF (by first | decide | simp)
  exact hret _ _ (Nat.le_of_ble_eq_true rfl) (Nat.le_of_ble_eq_true rfl) hw (⟨rfl, hFF, h85, h86, h87, h88, h89, h90, h91, h92, h93, h94, h95⟩) dX0_init_37

set_option maxHeartbeats 4000000 in
set_option maxRecDepth 100000 in
theorem c_X6_init_96 {l : Launch} {D : va_G} {cI cJ cZ cH cR : ClassId} {b : Nat} {M : Nat → va_E}     (h97 : M 97 = .inr (6, [.null, .null]))   : Met l yX6_init (kw yX6_init cX6_init 1 none) ({ frames := 1, cells := 2, slots := 200, locals := 12 }) (va_Pc [.ref (b + 97)] (kPre D (kT cI cJ cZ cH cR) b M 98)) (va_Qv (fun (u : (Nat → va_E) × Nat) => u.2 = 100 ∧ kF [97, 98, 99] M u.1 ∧ u.1 97 = .inr (6, [.ref (b + 98), .ref (b + 99)]) ∧ u.1 98 = .inl (cI, 100, .inl (fun _ => 0)) ∧ u.1 99 = .inl (cJ, 100, .inr (.inl (fun _ => 0)))) (kB D (kT cI cJ cZ cH cR) b) (kA b)) 2 200 (kA b) := by
  refine k_metV (by decide +kernel) (Nat.le_of_ble_eq_true rfl) ?_
  intro p e s m below meth c ls Q C hw hret hnm hl
  have hl : lv_has ls 1 [(0, .ref (b + 97))] := hl
  have hFF : kF [97, 98, 99] M M := kF_rf
  refine lv_aload_n C.1 C.2.1 dX6_init_0 rfl (lv_at hl 0 rfl) ?_
  refine W.objInit C.1 C.2.1 C.2.2.2.1 (C.2.2.2.2.1 _ q_87) (C.2.2.2.2.1 _ q_10) (C.2.2.2.2.1 _ q_11) rfl (by rw [C.2.2.1]; exact hl.1) rfl dX6_init_1 (Nat.le_of_ble_eq_true rfl) (Nat.le_of_ble_eq_true rfl) ?_
  refine W.eq (g2 := F0 m 4 ls []) rfl ?_
  refine lv_aload_n C.1 C.2.1 dX6_init_4 rfl (lv_at hl 0 rfl) ?_
  refine lv_bipush (v := nI 100) C.1 C.2.1 dX6_init_5 (by decide) ?_
  refine k_newI C hw q_38 100 rfl (by decide) (Nat.le_of_ble_eq_true rfl) (Nat.le_of_ble_eq_true rfl) dX6_init_7 (fun M_1 H hw h98 hF => ?_)
  have h97 := (hF 97 (by decide)).trans h97
  have hFF := kF_st hFF hF (by first | decide | simp)
  refine k_putF (tf := .array .int) C hw 97 (by decide) h97 rfl inlX6 tyX6 tyX6_ok nmX6 0 (by decide) q_88 rfl hnm rfl (by decide +kernel) rfl rfl (Nat.le_of_ble_eq_true rfl) dX6_init_9 (fun M_2 H locs hw h97 hF => ?_)
  have h97 : M_2 97 = .inr (6, [.ref (b + 98), .null]) := h97
  have h98 := (hF 98 (by decide)).trans h98
  have hFF := kF_st hFF hF (by first | decide | simp)
  refine lv_aload_n C.1 C.2.1 dX6_init_12 rfl (lv_at hl 0 rfl) ?_
  refine lv_bipush (v := nI 100) C.1 C.2.1 dX6_init_13 (by decide) ?_
  refine k_newJ C hw q_89 100 rfl (by decide) (Nat.le_of_ble_eq_true rfl) (Nat.le_of_ble_eq_true rfl) dX6_init_15 (fun M_3 H hw h99 hF => ?_)
  have h97 := (hF 97 (by decide)).trans h97
  have h98 := (hF 98 (by decide)).trans h98
  have hFF := kF_st hFF hF (by first | decide | simp)
  refine k_putF (tf := .array .long) C hw 97 (by decide) h97 rfl inlX6 tyX6 tyX6_ok nmX6 1 (by decide) q_90 rfl hnm rfl (by decide +kernel) rfl rfl (Nat.le_of_ble_eq_true rfl) dX6_init_17 (fun M_4 H locs hw h97 hF => ?_)
  have h97 : M_4 97 = .inr (6, [.ref (b + 98), .ref (b + 99)]) := h97
  have h98 := (hF 98 (by decide)).trans h98
  have h99 := (hF 99 (by decide)).trans h99
  have hFF := kF_st hFF hF (by first | decide | simp)
  exact hret _ _ (Nat.le_of_ble_eq_true rfl) (Nat.le_of_ble_eq_true rfl) hw (⟨rfl, hFF, h97, h98, h99⟩) dX6_init_20

set_option maxHeartbeats 4000000 in
set_option maxRecDepth 100000 in
theorem c_X5_init_96 {l : Launch} {D : va_G} {cI cJ cZ cH cR : ClassId} {b : Nat} {M : Nat → va_E}     (h100 : M 100 = .inr (5, [.null, .null, .null, .int 0, .int 0]))   : Met l yX5_init (kw yX5_init cX5_init 1 none) ({ frames := 1, cells := 3, slots := 1200, locals := 12 }) (va_Pc [.ref (b + 100)] (kPre D (kT cI cJ cZ cH cR) b M 101)) (va_Qv (fun (u : (Nat → va_E) × Nat) => u.2 = 104 ∧ kF [100, 101, 102, 103] M u.1 ∧ u.1 100 = .inr (5, [.ref (b + 101), .ref (b + 102), .ref (b + 103), .int (nI 0), .int (nI 0)]) ∧ u.1 101 = .inl (cI, 400, .inl (fun _ => 0)) ∧ u.1 102 = .inl (cI, 400, .inl (fun _ => 0)) ∧ u.1 103 = .inl (cI, 400, .inl (fun _ => 0))) (kB D (kT cI cJ cZ cH cR) b) (kA b)) 3 1200 (kA b) := by
  refine k_metV (by decide +kernel) (Nat.le_of_ble_eq_true rfl) ?_
  intro p e s m below meth c ls Q C hw hret hnm hl
  have hl : lv_has ls 1 [(0, .ref (b + 100))] := hl
  have hFF : kF [100, 101, 102, 103] M M := kF_rf
  refine lv_aload_n C.1 C.2.1 dX5_init_0 rfl (lv_at hl 0 rfl) ?_
  refine W.objInit C.1 C.2.1 C.2.2.2.1 (C.2.2.2.2.1 _ q_94) (C.2.2.2.2.1 _ q_10) (C.2.2.2.2.1 _ q_11) rfl (by rw [C.2.2.1]; exact hl.1) rfl dX5_init_1 (Nat.le_of_ble_eq_true rfl) (Nat.le_of_ble_eq_true rfl) ?_
  refine W.eq (g2 := F0 m 4 ls []) rfl ?_
  refine lv_aload_n C.1 C.2.1 dX5_init_4 rfl (lv_at hl 0 rfl) ?_
  refine lv_sipush (v := nI 400) C.1 C.2.1 dX5_init_5 (by decide) ?_
  refine k_newI C hw q_38 400 rfl (by decide) (Nat.le_of_ble_eq_true rfl) (Nat.le_of_ble_eq_true rfl) dX5_init_8 (fun M_1 H hw h101 hF => ?_)
  have h100 := (hF 100 (by decide)).trans h100
  have hFF := kF_st hFF hF (by first | decide | simp)
  refine k_putF (tf := .array .int) C hw 100 (by decide) h100 rfl inlX5 tyX5 tyX5_ok nmX5 0 (by decide) q_95 rfl hnm rfl (by decide +kernel) rfl rfl (Nat.le_of_ble_eq_true rfl) dX5_init_10 (fun M_2 H locs hw h100 hF => ?_)
  have h100 : M_2 100 = .inr (5, [.ref (b + 101), .null, .null, .int 0, .int 0]) := h100
  have h101 := (hF 101 (by decide)).trans h101
  have hFF := kF_st hFF hF (by first | decide | simp)
  refine lv_aload_n C.1 C.2.1 dX5_init_13 rfl (lv_at hl 0 rfl) ?_
  refine lv_sipush (v := nI 400) C.1 C.2.1 dX5_init_14 (by decide) ?_
  refine k_newI C hw q_38 400 rfl (by decide) (Nat.le_of_ble_eq_true rfl) (Nat.le_of_ble_eq_true rfl) dX5_init_17 (fun M_3 H hw h102 hF => ?_)
  have h100 := (hF 100 (by decide)).trans h100
  have h101 := (hF 101 (by decide)).trans h101
  have hFF := kF_st hFF hF (by first | decide | simp)
  refine k_putF (tf := .array .int) C hw 100 (by decide) h100 rfl inlX5 tyX5 tyX5_ok nmX5 1 (by decide) q_96 rfl hnm rfl (by decide +kernel) rfl rfl (Nat.le_of_ble_eq_true rfl) dX5_init_19 (fun M_4 H locs hw h100 hF => ?_)
  have h100 : M_4 100 = .inr (5, [.ref (b + 101), .ref (b + 102), .null, .int 0, .int 0]) := h100
  have h101 := (hF 101 (by decide)).trans h101
  have h102 := (hF 102 (by decide)).trans h102
  have hFF := kF_st hFF hF (by first | decide | simp)
  refine lv_aload_n C.1 C.2.1 dX5_init_22 rfl (lv_at hl 0 rfl) ?_
  refine lv_sipush (v := nI 400) C.1 C.2.1 dX5_init_23 (by decide) ?_
  refine k_newI C hw q_38 400 rfl (by decide) (Nat.le_of_ble_eq_true rfl) (Nat.le_of_ble_eq_true rfl) dX5_init_26 (fun M_5 H hw h103 hF => ?_)
  have h100 := (hF 100 (by decide)).trans h100
  have h101 := (hF 101 (by decide)).trans h101
  have h102 := (hF 102 (by decide)).trans h102
  have hFF := kF_st hFF hF (by first | decide | simp)
  refine k_putF (tf := .array .int) C hw 100 (by decide) h100 rfl inlX5 tyX5 tyX5_ok nmX5 2 (by decide) q_97 rfl hnm rfl (by decide +kernel) rfl rfl (Nat.le_of_ble_eq_true rfl) dX5_init_28 (fun M_6 H locs hw h100 hF => ?_)
  have h100 : M_6 100 = .inr (5, [.ref (b + 101), .ref (b + 102), .ref (b + 103), .int 0, .int 0]) := h100
  have h101 := (hF 101 (by decide)).trans h101
  have h102 := (hF 102 (by decide)).trans h102
  have h103 := (hF 103 (by decide)).trans h103
  have hFF := kF_st hFF hF (by first | decide | simp)
  exact hret _ _ (Nat.le_of_ble_eq_true rfl) (Nat.le_of_ble_eq_true rfl) hw (⟨rfl, hFF, h100, h101, h102, h103⟩) dX5_init_31

set_option maxHeartbeats 4000000 in
set_option maxRecDepth 100000 in
theorem c_X7_init_96 {l : Launch} {D : va_G} {cI cJ cZ cH cR : ClassId} {b : Nat} {M : Nat → va_E}     (h104 : M 104 = .inr (7, [.null, .null, .int 0, .int 0]))   : Met l yX7_init (kw yX7_init cX7_init 1 none) ({ frames := 1, cells := 2, slots := 80, locals := 12 }) (va_Pc [.ref (b + 104)] (kPre D (kT cI cJ cZ cH cR) b M 105)) (va_Qv (fun (u : (Nat → va_E) × Nat) => u.2 = 107 ∧ kF [104, 105, 106] M u.1 ∧ u.1 104 = .inr (7, [.ref (b + 105), .ref (b + 106), .int (nI 0), .int (0)]) ∧ u.1 105 = .inl (cI, 40, .inl (fun _ => 0)) ∧ u.1 106 = .inl (cI, 40, .inl (fun _ => 0))) (kB D (kT cI cJ cZ cH cR) b) (kA b)) 2 80 (kA b) := by
  refine k_metV (by decide +kernel) (Nat.le_of_ble_eq_true rfl) ?_
  intro p e s m below meth c ls Q C hw hret hnm hl
  have hl : lv_has ls 1 [(0, .ref (b + 104))] := hl
  have hFF : kF [104, 105, 106] M M := kF_rf
  refine lv_aload_n C.1 C.2.1 dX7_init_0 rfl (lv_at hl 0 rfl) ?_
  refine W.objInit C.1 C.2.1 C.2.2.2.1 (C.2.2.2.2.1 _ q_101) (C.2.2.2.2.1 _ q_10) (C.2.2.2.2.1 _ q_11) rfl (by rw [C.2.2.1]; exact hl.1) rfl dX7_init_1 (Nat.le_of_ble_eq_true rfl) (Nat.le_of_ble_eq_true rfl) ?_
  refine W.eq (g2 := F0 m 4 ls []) rfl ?_
  refine lv_aload_n C.1 C.2.1 dX7_init_4 rfl (lv_at hl 0 rfl) ?_
  refine lv_bipush (v := nI 40) C.1 C.2.1 dX7_init_5 (by decide) ?_
  refine k_newI C hw q_38 40 rfl (by decide) (Nat.le_of_ble_eq_true rfl) (Nat.le_of_ble_eq_true rfl) dX7_init_7 (fun M_1 H hw h105 hF => ?_)
  have h104 := (hF 104 (by decide)).trans h104
  have hFF := kF_st hFF hF (by first | decide | simp)
  refine k_putF (tf := .array .int) C hw 104 (by decide) h104 rfl inlX7 tyX7 tyX7_ok nmX7 0 (by decide) q_102 rfl hnm rfl (by decide +kernel) rfl rfl (Nat.le_of_ble_eq_true rfl) dX7_init_9 (fun M_2 H locs hw h104 hF => ?_)
  have h104 : M_2 104 = .inr (7, [.ref (b + 105), .null, .int 0, .int 0]) := h104
  have h105 := (hF 105 (by decide)).trans h105
  have hFF := kF_st hFF hF (by first | decide | simp)
  refine lv_aload_n C.1 C.2.1 dX7_init_12 rfl (lv_at hl 0 rfl) ?_
  refine lv_bipush (v := nI 40) C.1 C.2.1 dX7_init_13 (by decide) ?_
  refine k_newI C hw q_38 40 rfl (by decide) (Nat.le_of_ble_eq_true rfl) (Nat.le_of_ble_eq_true rfl) dX7_init_15 (fun M_3 H hw h106 hF => ?_)
  have h104 := (hF 104 (by decide)).trans h104
  have h105 := (hF 105 (by decide)).trans h105
  have hFF := kF_st hFF hF (by first | decide | simp)
  refine k_putF (tf := .array .int) C hw 104 (by decide) h104 rfl inlX7 tyX7 tyX7_ok nmX7 1 (by decide) q_103 rfl hnm rfl (by decide +kernel) rfl rfl (Nat.le_of_ble_eq_true rfl) dX7_init_17 (fun M_4 H locs hw h104 hF => ?_)
  have h104 : M_4 104 = .inr (7, [.ref (b + 105), .ref (b + 106), .int 0, .int 0]) := h104
  have h105 := (hF 105 (by decide)).trans h105
  have h106 := (hF 106 (by decide)).trans h106
  have hFF := kF_st hFF hF (by first | decide | simp)
  exact hret _ _ (Nat.le_of_ble_eq_true rfl) (Nat.le_of_ble_eq_true rfl) hw (⟨rfl, hFF, h104, h105, h106⟩) dX7_init_20

set_option maxHeartbeats 4000000 in
set_option maxRecDepth 100000 in
theorem c_X0_init_96 {l : Launch} {D : va_G} {cI cJ cZ cH cR : ClassId} {b : Nat} {M : Nat → va_E}     (h96 : M 96 = .inr (0, [.null, .null, .null]))   : Met l yX0_init (kw yX0_init cX0_init 1 none) ({ frames := 2, cells := 10, slots := 1491, locals := 32 }) (va_Pc [.ref (b + 96)] (kPre D (kT cI cJ cZ cH cR) b M 97)) (va_Qv (fun (u : (Nat → va_E) × Nat) => u.2 = 107 ∧ kF [96, 97, 98, 99, 100, 101, 102, 103, 104, 105, 106] M u.1 ∧ u.1 96 = .inr (0, [.ref (b + 97), .ref (b + 100), .ref (b + 104)]) ∧ u.1 97 = .inr (6, [.ref (b + 98), .ref (b + 99)]) ∧ u.1 98 = .inl (cI, 100, .inl (fun _ => 0)) ∧ u.1 99 = .inl (cJ, 100, .inr (.inl (fun _ => 0))) ∧ u.1 100 = .inr (5, [.ref (b + 101), .ref (b + 102), .ref (b + 103), .int (nI 0), .int (nI 0)]) ∧ u.1 101 = .inl (cI, 400, .inl (fun _ => 0)) ∧ u.1 102 = .inl (cI, 400, .inl (fun _ => 0)) ∧ u.1 103 = .inl (cI, 400, .inl (fun _ => 0)) ∧ u.1 104 = .inr (7, [.ref (b + 105), .ref (b + 106), .int (nI 0), .int (0)]) ∧ u.1 105 = .inl (cI, 40, .inl (fun _ => 0)) ∧ u.1 106 = .inl (cI, 40, .inl (fun _ => 0))) (kB D (kT cI cJ cZ cH cR) b) (kA b)) 10 1491 (kA b) := by
  refine k_metV (by decide +kernel) (Nat.le_of_ble_eq_true rfl) ?_
  intro p e s m below meth c ls Q C hw hret hnm hl
  have hl : lv_has ls 1 [(0, .ref (b + 96))] := hl
  have hFF : kF [96, 97, 98, 99, 100, 101, 102, 103, 104, 105, 106] M M := kF_rf
  refine lv_aload_n C.1 C.2.1 dX0_init_0 rfl (lv_at hl 0 rfl) ?_
  refine W.objInit C.1 C.2.1 C.2.2.2.1 (C.2.2.2.2.1 _ q_71) (C.2.2.2.2.1 _ q_10) (C.2.2.2.2.1 _ q_11) rfl (by rw [C.2.2.1]; exact hl.1) rfl dX0_init_1 (Nat.le_of_ble_eq_true rfl) (Nat.le_of_ble_eq_true rfl) ?_
  refine W.eq (g2 := F0 m 4 ls []) rfl ?_
  refine lv_aload_n C.1 C.2.1 dX0_init_4 rfl (lv_at hl 0 rfl) ?_
  refine k_new (fs := [.null, .null]) C hw (ci := 6) rfl inlX6 tyX6 tyX6_ok q_72 q_73 q_74 (by decide +kernel) (Nat.le_of_ble_eq_true rfl) (Nat.le_of_ble_eq_true rfl) dX0_init_5 (fun M_1 H hw h97 hF => ?_)
  have h96 := (hF 96 (by decide)).trans h96
  have hFF := kF_st hFF hF (by first | decide | simp)
  refine lv_dup C.1 C.2.1 dX0_init_8 rfl ?_
  refine k_cv C hw (c_X6_init_96 h97  ) kv_X0_9 rfl hl.1 ⟨Nat.le_of_ble_eq_true rfl, Nat.le_of_ble_eq_true rfl⟩ (Nat.le_of_ble_eq_true rfl) ⟨Nat.le_of_ble_eq_true rfl, Nat.le_of_ble_eq_true rfl⟩ dX0_init_9 (fun M_2 n9 H locs hp hw => ?_)
  obtain ⟨en9, hF, h97, h98, h99⟩ := hp
  have en9 : n9 = 100 := en9
  rw [en9] at hw
  have h96 := (hF 96 (by decide)).trans h96
  have hFF := kF_st hFF hF (by first | decide | simp)
  refine k_putF (tf := .object "KeyGroups$States") C hw 96 (by decide) h96 rfl inlX0 tyX0 tyX0_ok nmX0 0 (by decide) q_75 rfl hnm rfl (by decide +kernel) rfl rfl (Nat.le_of_ble_eq_true rfl) dX0_init_12 (fun M_3 H locs hw h96 hF => ?_)
  have h96 : M_3 96 = .inr (0, [.ref (b + 97), .null, .null]) := h96
  have h97 := (hF 97 (by decide)).trans h97
  have h98 := (hF 98 (by decide)).trans h98
  have h99 := (hF 99 (by decide)).trans h99
  have hFF := kF_st hFF hF (by first | decide | simp)
  refine lv_aload_n C.1 C.2.1 dX0_init_15 rfl (lv_at hl 0 rfl) ?_
  refine k_new (fs := [.null, .null, .null, .int 0, .int 0]) C hw (ci := 5) rfl inlX5 tyX5 tyX5_ok q_76 q_77 q_78 (by decide +kernel) (Nat.le_of_ble_eq_true rfl) (Nat.le_of_ble_eq_true rfl) dX0_init_16 (fun M_4 H hw h100 hF => ?_)
  have h96 := (hF 96 (by decide)).trans h96
  have h97 := (hF 97 (by decide)).trans h97
  have h98 := (hF 98 (by decide)).trans h98
  have h99 := (hF 99 (by decide)).trans h99
  have hFF := kF_st hFF hF (by first | decide | simp)
  refine lv_dup C.1 C.2.1 dX0_init_19 rfl ?_
  refine k_cv C hw (c_X5_init_96 h100  ) kv_X0_18 rfl hl.1 ⟨Nat.le_of_ble_eq_true rfl, Nat.le_of_ble_eq_true rfl⟩ (Nat.le_of_ble_eq_true rfl) ⟨Nat.le_of_ble_eq_true rfl, Nat.le_of_ble_eq_true rfl⟩ dX0_init_20 (fun M_5 n9 H locs hp hw => ?_)
  obtain ⟨en9, hF, h100, h101, h102, h103⟩ := hp
  have en9 : n9 = 104 := en9
  rw [en9] at hw
  have h96 := (hF 96 (by decide)).trans h96
  have h97 := (hF 97 (by decide)).trans h97
  have h98 := (hF 98 (by decide)).trans h98
  have h99 := (hF 99 (by decide)).trans h99
  have hFF := kF_st hFF hF (by first | decide | simp)
  refine k_putF (tf := .object "KeyGroups$Rows") C hw 96 (by decide) h96 rfl inlX0 tyX0 tyX0_ok nmX0 1 (by decide) q_79 rfl hnm rfl (by decide +kernel) rfl rfl (Nat.le_of_ble_eq_true rfl) dX0_init_23 (fun M_6 H locs hw h96 hF => ?_)
  have h96 : M_6 96 = .inr (0, [.ref (b + 97), .ref (b + 100), .null]) := h96
  have h97 := (hF 97 (by decide)).trans h97
  have h98 := (hF 98 (by decide)).trans h98
  have h99 := (hF 99 (by decide)).trans h99
  have h100 := (hF 100 (by decide)).trans h100
  have h101 := (hF 101 (by decide)).trans h101
  have h102 := (hF 102 (by decide)).trans h102
  have h103 := (hF 103 (by decide)).trans h103
  have hFF := kF_st hFF hF (by first | decide | simp)
  refine lv_aload_n C.1 C.2.1 dX0_init_26 rfl (lv_at hl 0 rfl) ?_
  refine k_new (fs := [.null, .null, .int 0, .int 0]) C hw (ci := 7) rfl inlX7 tyX7 tyX7_ok q_80 q_81 q_82 (by decide +kernel) (Nat.le_of_ble_eq_true rfl) (Nat.le_of_ble_eq_true rfl) dX0_init_27 (fun M_7 H hw h104 hF => ?_)
  have h96 := (hF 96 (by decide)).trans h96
  have h97 := (hF 97 (by decide)).trans h97
  have h98 := (hF 98 (by decide)).trans h98
  have h99 := (hF 99 (by decide)).trans h99
  have h100 := (hF 100 (by decide)).trans h100
  have h101 := (hF 101 (by decide)).trans h101
  have h102 := (hF 102 (by decide)).trans h102
  have h103 := (hF 103 (by decide)).trans h103
  have hFF := kF_st hFF hF (by first | decide | simp)
  refine lv_dup C.1 C.2.1 dX0_init_30 rfl ?_
  refine k_cv C hw (c_X7_init_96 h104  ) kv_X0_25 rfl hl.1 ⟨Nat.le_of_ble_eq_true rfl, Nat.le_of_ble_eq_true rfl⟩ (Nat.le_of_ble_eq_true rfl) ⟨Nat.le_of_ble_eq_true rfl, Nat.le_of_ble_eq_true rfl⟩ dX0_init_31 (fun M_8 n9 H locs hp hw => ?_)
  obtain ⟨en9, hF, h104, h105, h106⟩ := hp
  have en9 : n9 = 107 := en9
  rw [en9] at hw
  have h96 := (hF 96 (by decide)).trans h96
  have h97 := (hF 97 (by decide)).trans h97
  have h98 := (hF 98 (by decide)).trans h98
  have h99 := (hF 99 (by decide)).trans h99
  have h100 := (hF 100 (by decide)).trans h100
  have h101 := (hF 101 (by decide)).trans h101
  have h102 := (hF 102 (by decide)).trans h102
  have h103 := (hF 103 (by decide)).trans h103
  have hFF := kF_st hFF hF (by first | decide | simp)
  refine k_putF (tf := .object "KeyGroups$Timers") C hw 96 (by decide) h96 rfl inlX0 tyX0 tyX0_ok nmX0 2 (by decide) q_83 rfl hnm rfl (by decide +kernel) rfl rfl (Nat.le_of_ble_eq_true rfl) dX0_init_34 (fun M_9 H locs hw h96 hF => ?_)
  have h96 : M_9 96 = .inr (0, [.ref (b + 97), .ref (b + 100), .ref (b + 104)]) := h96
  have h97 := (hF 97 (by decide)).trans h97
  have h98 := (hF 98 (by decide)).trans h98
  have h99 := (hF 99 (by decide)).trans h99
  have h100 := (hF 100 (by decide)).trans h100
  have h101 := (hF 101 (by decide)).trans h101
  have h102 := (hF 102 (by decide)).trans h102
  have h103 := (hF 103 (by decide)).trans h103
  have h104 := (hF 104 (by decide)).trans h104
  have h105 := (hF 105 (by decide)).trans h105
  have h106 := (hF 106 (by decide)).trans h106
  have hFF := kF_st hFF hF (by first | decide | simp)
  exact hret _ _ (Nat.le_of_ble_eq_true rfl) (Nat.le_of_ble_eq_true rfl) hw (⟨rfl, hFF, h96, h97, h98, h99, h100, h101, h102, h103, h104, h105, h106⟩) dX0_init_37

set_option maxHeartbeats 4000000 in
set_option maxRecDepth 100000 in
theorem c_X6_begin {l : Launch} {D : va_G} {cI cJ cZ cH cR : ClassId} {b : Nat} {n : Nat} {M : Nat → va_E}  {ct : Nat → Int32} {su : Nat → Int64}  (hn : 26 ≤ n) (h23 : M 23 = .inr (6, [.ref (b + 24), .ref (b + 25)])) (h24 : M 24 = .inl (cI, 100, .inl ct)) (h25 : M 25 = .inl (cJ, 100, .inr (.inl su)))   : Met l yX6_begin (kw yX6_begin cX6_begin 1 none) ({ frames := 1, cells := 0, slots := 0, locals := 24 }) (va_Pc [.ref (b + 23)] (kPre D (kT cI cJ cZ cH cR) b M n)) (va_Qv (fun (u : (Nat → va_E) × Nat) => u.2 = n ∧ kF [24, 25] M u.1 ∧ u.1 24 = .inl (cI, 100, .inl (fun _ => 0)) ∧ u.1 25 = .inl (cJ, 100, .inr (.inl (fun _ => 0)))) (kB D (kT cI cJ cZ cH cR) b) (kA b)) 0 0 (kA b) := by
  refine k_metV (by decide +kernel) (Nat.le_of_ble_eq_true rfl) ?_
  intro p e s m below meth c ls Q C hw hret hnm hl
  have hl : lv_has ls 1 [(0, .ref (b + 23))] := hl
  have hFF : kF [24, 25] M M := kF_rf
  refine lv_aload_n C.1 C.2.1 dX6_begin_0 rfl (lv_at hl 0 rfl) ?_
  refine k_get C hw 23 (by omega) h23 rfl inlX6 0 (by decide) q_88 rfl dX6_begin_1 ?_
  refine lv_iconst (v := nI 0) C.1 C.2.1 dX6_begin_4 (by decide) ?_
  refine k_sv C hw (c_J7_fill_53178 (by omega) h24  (by omega)) kv_X6_19 rfl hl.1 ⟨Nat.le_of_ble_eq_true rfl, Nat.le_of_ble_eq_true rfl⟩ (Nat.le_of_ble_eq_true rfl) ⟨Nat.le_of_ble_eq_true rfl, Nat.le_of_ble_eq_true rfl⟩ dX6_begin_5 (fun M_1 n9 H locs hp hw => ?_)
  obtain ⟨en9, hF, h24⟩ := hp
  have en9 : n9 = n := en9
  rw [en9] at hw
  have h23 := (hF 23 (by decide)).trans h23
  have h25 := (hF 25 (by decide)).trans h25
  have hFF := kF_st hFF hF (by first | decide | simp)
  refine lv_aload_n C.1 C.2.1 dX6_begin_8 rfl (lv_at hl 0 rfl) ?_
  refine k_get C hw 23 (by omega) h23 rfl inlX6 1 (by decide) q_90 rfl dX6_begin_9 ?_
  refine lv_lconst (v := 0) C.1 C.2.1 dX6_begin_12 rfl ?_
  refine k_sv C hw (c_J7_fill_d0a16 (by omega) h25  (by omega)) kv_X6_25 rfl hl.1 ⟨Nat.le_of_ble_eq_true rfl, Nat.le_of_ble_eq_true rfl⟩ (Nat.le_of_ble_eq_true rfl) ⟨Nat.le_of_ble_eq_true rfl, Nat.le_of_ble_eq_true rfl⟩ dX6_begin_13 (fun M_2 n9 H locs hp hw => ?_)
  obtain ⟨en9, hF, h25⟩ := hp
  have en9 : n9 = n := en9
  rw [en9] at hw
  have h23 := (hF 23 (by decide)).trans h23
  have h24 := (hF 24 (by decide)).trans h24
  have hFF := kF_st hFF hF (by first | decide | simp)
  obtain ⟨M_3, hw, h24, hF⟩ := k_extI hw 24 (by omega) h24 (fun _ => 0) (fun j hj => if_pos hj)
  have h23 := (hF 23 (by decide)).trans h23
  have h25 := (hF 25 (by decide)).trans h25
  have hFF := kF_st hFF hF (by first | decide | simp)
  obtain ⟨M_4, hw, h25, hF⟩ := k_extJ hw 25 (by omega) h25 (fun _ => 0) (fun j hj => if_pos hj)
  have h23 := (hF 23 (by decide)).trans h23
  have h24 := (hF 24 (by decide)).trans h24
  have hFF := kF_st hFF hF (by first | decide | simp)
  exact hret _ _ (Nat.le_of_ble_eq_true rfl) (Nat.le_of_ble_eq_true rfl) hw (⟨rfl, hFF, h24, h25⟩) dX6_begin_16

set_option maxHeartbeats 4000000 in
set_option maxRecDepth 100000 in
theorem c_X5_begin {l : Launch} {D : va_G} {cI cJ cZ cH cR : ClassId} {b : Nat} {n : Nat} {M : Nat → va_E}  {rs : Nat} {ca : Nat}  (hn : 27 ≤ n) (h26 : M 26 = .inr (5, [.ref (b + 27), .ref (b + 28), .ref (b + 29), .int (nI rs), .int (nI ca)]))   : Met l yX5_begin (kw yX5_begin cX5_begin 1 none) ({ frames := 0, cells := 0, slots := 0, locals := 0 }) (va_Pc [.ref (b + 26)] (kPre D (kT cI cJ cZ cH cR) b M n)) (va_Qv (fun (u : (Nat → va_E) × Nat) => u.2 = n ∧ kF [26] M u.1 ∧ u.1 26 = .inr (5, [.ref (b + 27), .ref (b + 28), .ref (b + 29), .int (nI 0), .int (nI 0)])) (kB D (kT cI cJ cZ cH cR) b) (kA b)) 0 0 (kA b) := by
  refine k_metV (by decide +kernel) (Nat.le_of_ble_eq_true rfl) ?_
  intro p e s m below meth c ls Q C hw hret hnm hl
  have hl : lv_has ls 1 [(0, .ref (b + 26))] := hl
  have hFF : kF [26] M M := kF_rf
  refine lv_aload_n C.1 C.2.1 dX5_begin_0 rfl (lv_at hl 0 rfl) ?_
  refine lv_iconst (v := nI 0) C.1 C.2.1 dX5_begin_1 (by decide) ?_
  refine k_put (tf := .int) C hw 26 (by omega) h26 rfl inlX5 tyX5 tyX5_ok nmX5 3 (by decide) q_239 rfl (by decide +kernel) rfl rfl (Nat.le_of_ble_eq_true rfl) dX5_begin_2 (fun M_1 H locs hw h26 hF => ?_)
  have h26 : M_1 26 = .inr (5, [.ref (b + 27), .ref (b + 28), .ref (b + 29), .int (nI 0), .int (nI ca)]) := h26
  have hFF := kF_st hFF hF (by first | decide | simp)
  refine lv_aload_n C.1 C.2.1 dX5_begin_5 rfl (lv_at hl 0 rfl) ?_
  refine lv_iconst (v := nI 0) C.1 C.2.1 dX5_begin_6 (by decide) ?_
  refine k_put (tf := .int) C hw 26 (by omega) h26 rfl inlX5 tyX5 tyX5_ok nmX5 4 (by decide) q_240 rfl (by decide +kernel) rfl rfl (Nat.le_of_ble_eq_true rfl) dX5_begin_7 (fun M_2 H locs hw h26 hF => ?_)
  have h26 : M_2 26 = .inr (5, [.ref (b + 27), .ref (b + 28), .ref (b + 29), .int (nI 0), .int (nI 0)]) := h26
  have hFF := kF_st hFF hF (by first | decide | simp)
  exact hret _ _ (Nat.le_of_ble_eq_true rfl) (Nat.le_of_ble_eq_true rfl) hw (⟨rfl, hFF, h26⟩) dX5_begin_10

set_option maxHeartbeats 4000000 in
set_option maxRecDepth 100000 in
theorem c_X7_begin {l : Launch} {D : va_G} {cI cJ cZ cH cR : ClassId} {b : Nat} {n : Nat} {M : Nat → va_E}  {ts : Nat} {tr : Int32}  (hn : 31 ≤ n) (h30 : M 30 = .inr (7, [.ref (b + 31), .ref (b + 32), .int (nI ts), .int tr]))   : Met l yX7_begin (kw yX7_begin cX7_begin 1 none) ({ frames := 0, cells := 0, slots := 0, locals := 0 }) (va_Pc [.ref (b + 30)] (kPre D (kT cI cJ cZ cH cR) b M n)) (va_Qv (fun (u : (Nat → va_E) × Nat) => u.2 = n ∧ kF [30] M u.1 ∧ u.1 30 = .inr (7, [.ref (b + 31), .ref (b + 32), .int (nI 0), .int (nI 0)])) (kB D (kT cI cJ cZ cH cR) b) (kA b)) 0 0 (kA b) := by
  refine k_metV (by decide +kernel) (Nat.le_of_ble_eq_true rfl) ?_
  intro p e s m below meth c ls Q C hw hret hnm hl
  have hl : lv_has ls 1 [(0, .ref (b + 30))] := hl
  have hFF : kF [30] M M := kF_rf
  refine lv_aload_n C.1 C.2.1 dX7_begin_0 rfl (lv_at hl 0 rfl) ?_
  refine lv_iconst (v := nI 0) C.1 C.2.1 dX7_begin_1 (by decide) ?_
  refine k_put (tf := .int) C hw 30 (by omega) h30 rfl inlX7 tyX7 tyX7_ok nmX7 2 (by decide) q_498 rfl (by decide +kernel) rfl rfl (Nat.le_of_ble_eq_true rfl) dX7_begin_2 (fun M_1 H locs hw h30 hF => ?_)
  have h30 : M_1 30 = .inr (7, [.ref (b + 31), .ref (b + 32), .int (nI 0), .int tr]) := h30
  have hFF := kF_st hFF hF (by first | decide | simp)
  refine lv_aload_n C.1 C.2.1 dX7_begin_5 rfl (lv_at hl 0 rfl) ?_
  refine lv_iconst (v := nI 0) C.1 C.2.1 dX7_begin_6 (by decide) ?_
  refine k_put (tf := .int) C hw 30 (by omega) h30 rfl inlX7 tyX7 tyX7_ok nmX7 3 (by decide) q_616 rfl (by decide +kernel) rfl rfl (Nat.le_of_ble_eq_true rfl) dX7_begin_7 (fun M_2 H locs hw h30 hF => ?_)
  have h30 : M_2 30 = .inr (7, [.ref (b + 31), .ref (b + 32), .int (nI 0), .int (nI 0)]) := h30
  have hFF := kF_st hFF hF (by first | decide | simp)
  exact hret _ _ (Nat.le_of_ble_eq_true rfl) (Nat.le_of_ble_eq_true rfl) hw (⟨rfl, hFF, h30⟩) dX7_begin_10

set_option maxHeartbeats 4000000 in
set_option maxRecDepth 100000 in
theorem c_X0_begin {l : Launch} {D : va_G} {cI cJ cZ cH cR : ClassId} {b : Nat} {n : Nat} {M : Nat → va_E}  {ct : Nat → Int32} {su : Nat → Int64} {rs : Nat} {ca : Nat} {ts : Nat} {tr : Int32}  (hn : 31 ≤ n) (h22 : M 22 = .inr (0, [.ref (b + 23), .ref (b + 26), .ref (b + 30)])) (h23 : M 23 = .inr (6, [.ref (b + 24), .ref (b + 25)])) (h24 : M 24 = .inl (cI, 100, .inl ct)) (h25 : M 25 = .inl (cJ, 100, .inr (.inl su))) (h26 : M 26 = .inr (5, [.ref (b + 27), .ref (b + 28), .ref (b + 29), .int (nI rs), .int (nI ca)])) (h30 : M 30 = .inr (7, [.ref (b + 31), .ref (b + 32), .int (nI ts), .int tr]))   : Met l yX0_begin (kw yX0_begin cX0_begin 1 none) ({ frames := 2, cells := 0, slots := 0, locals := 44 }) (va_Pc [.ref (b + 22)] (kPre D (kT cI cJ cZ cH cR) b M n)) (va_Qv (fun (u : (Nat → va_E) × Nat) => u.2 = n ∧ kF [24, 25, 26, 30] M u.1 ∧ u.1 24 = .inl (cI, 100, .inl (fun _ => 0)) ∧ u.1 25 = .inl (cJ, 100, .inr (.inl (fun _ => 0))) ∧ u.1 26 = .inr (5, [.ref (b + 27), .ref (b + 28), .ref (b + 29), .int (nI 0), .int (nI 0)]) ∧ u.1 30 = .inr (7, [.ref (b + 31), .ref (b + 32), .int (nI 0), .int (nI 0)])) (kB D (kT cI cJ cZ cH cR) b) (kA b)) 0 0 (kA b) := by
  refine k_metV (by decide +kernel) (Nat.le_of_ble_eq_true rfl) ?_
  intro p e s m below meth c ls Q C hw hret hnm hl
  have hl : lv_has ls 1 [(0, .ref (b + 22))] := hl
  have hFF : kF [24, 25, 26, 30] M M := kF_rf
  refine lv_aload_n C.1 C.2.1 dX0_begin_0 rfl (lv_at hl 0 rfl) ?_
  refine k_get C hw 22 (by omega) h22 rfl inlX0 0 (by decide) q_75 rfl dX0_begin_1 ?_
  refine k_vv C hw 23 (by omega) h23 rfl (c_X6_begin (by omega) h23 h24 h25  ) kv_X0_30 rfl hl.1 ⟨Nat.le_of_ble_eq_true rfl, Nat.le_of_ble_eq_true rfl⟩ (Nat.le_of_ble_eq_true rfl) ⟨Nat.le_of_ble_eq_true rfl, Nat.le_of_ble_eq_true rfl⟩ dX0_begin_4 (fun M_1 n9 H locs hp hw => ?_)
  obtain ⟨en9, hF, h24, h25⟩ := hp
  have en9 : n9 = n := en9
  rw [en9] at hw
  have h22 := (hF 22 (by decide)).trans h22
  have h23 := (hF 23 (by decide)).trans h23
  have h26 := (hF 26 (by decide)).trans h26
  have h30 := (hF 30 (by decide)).trans h30
  have hFF := kF_st hFF hF (by first | decide | simp)
  refine lv_aload_n C.1 C.2.1 dX0_begin_7 rfl (lv_at hl 0 rfl) ?_
  refine k_get C hw 22 (by omega) h22 rfl inlX0 1 (by decide) q_79 rfl dX0_begin_8 ?_
  refine k_vv C hw 26 (by omega) h26 rfl (c_X5_begin (by omega) h26  ) kv_X0_33 rfl hl.1 ⟨Nat.le_of_ble_eq_true rfl, Nat.le_of_ble_eq_true rfl⟩ (Nat.le_of_ble_eq_true rfl) ⟨Nat.le_of_ble_eq_true rfl, Nat.le_of_ble_eq_true rfl⟩ dX0_begin_11 (fun M_2 n9 H locs hp hw => ?_)
  obtain ⟨en9, hF, h26⟩ := hp
  have en9 : n9 = n := en9
  rw [en9] at hw
  have h22 := (hF 22 (by decide)).trans h22
  have h23 := (hF 23 (by decide)).trans h23
  have h24 := (hF 24 (by decide)).trans h24
  have h25 := (hF 25 (by decide)).trans h25
  have h30 := (hF 30 (by decide)).trans h30
  have hFF := kF_st hFF hF (by first | decide | simp)
  refine lv_aload_n C.1 C.2.1 dX0_begin_14 rfl (lv_at hl 0 rfl) ?_
  refine k_get C hw 22 (by omega) h22 rfl inlX0 2 (by decide) q_83 rfl dX0_begin_15 ?_
  refine k_vv C hw 30 (by omega) h30 rfl (c_X7_begin (by omega) h30  ) kv_X0_34 rfl hl.1 ⟨Nat.le_of_ble_eq_true rfl, Nat.le_of_ble_eq_true rfl⟩ (Nat.le_of_ble_eq_true rfl) ⟨Nat.le_of_ble_eq_true rfl, Nat.le_of_ble_eq_true rfl⟩ dX0_begin_18 (fun M_3 n9 H locs hp hw => ?_)
  obtain ⟨en9, hF, h30⟩ := hp
  have en9 : n9 = n := en9
  rw [en9] at hw
  have h22 := (hF 22 (by decide)).trans h22
  have h23 := (hF 23 (by decide)).trans h23
  have h24 := (hF 24 (by decide)).trans h24
  have h25 := (hF 25 (by decide)).trans h25
  have h26 := (hF 26 (by decide)).trans h26
  have hFF := kF_st hFF hF (by first | decide | simp)
  exact hret _ _ (Nat.le_of_ble_eq_true rfl) (Nat.le_of_ble_eq_true rfl) hw (⟨rfl, hFF, h24, h25, h26, h30⟩) dX0_begin_21

set_option maxHeartbeats 4000000 in
set_option maxRecDepth 100000 in
theorem c_X6_forget {l : Launch} {D : va_G} {cI cJ cZ cH cR : ClassId} {b : Nat} {n : Nat} {M : Nat → va_E}  {ct : Nat → Int32} {su : Nat → Int64} {k : Nat} (hn : 26 ≤ n) (h23 : M 23 = .inr (6, [.ref (b + 24), .ref (b + 25)])) (h24 : M 24 = .inl (cI, 100, .inl ct)) (h25 : M 25 = .inl (cJ, 100, .inr (.inl su)))  (hk : k < 100) : Met l yX6_forget (kw yX6_forget cX6_forget 2 none) ({ frames := 0, cells := 0, slots := 0, locals := 0 }) (va_Pc [.ref (b + 23), .int (nI k)] (kPre D (kT cI cJ cZ cH cR) b M n)) (va_Qv (fun (u : (Nat → va_E) × Nat) => u.2 = n ∧ kF [24, 25] M u.1 ∧ u.1 24 = .inl (cI, 100, .inl (upd ct k (nI 0))) ∧ u.1 25 = .inl (cJ, 100, .inr (.inl (vp_updL su k 0)))) (kB D (kT cI cJ cZ cH cR) b) (kA b)) 0 0 (kA b) := by
  refine k_metV (by decide +kernel) (Nat.le_of_ble_eq_true rfl) ?_
  intro p e s m below meth c ls Q C hw hret hnm hl
  have hl : lv_has ls 2 [(0, .ref (b + 23)), (1, .int (nI k))] := hl
  have hFF : kF [24, 25] M M := kF_rf
  refine lv_aload_n C.1 C.2.1 dX6_forget_0 rfl (lv_at hl 0 rfl) ?_
  refine k_get C hw 23 (by omega) h23 rfl inlX6 0 (by decide) q_88 rfl dX6_forget_1 ?_
  refine lv_iload_n C.1 C.2.1 dX6_forget_4 rfl (lv_at hl 1 rfl) ?_
  refine lv_iconst (v := nI 0) C.1 C.2.1 dX6_forget_5 (by decide) ?_
  refine k_iast C hw 24 (by omega) h24 (by omega) (by first | decide | omega) dX6_forget_6 (fun M_1 H locs hw h24 hF => ?_)
  have h23 := (hF 23 (by decide)).trans h23
  have h25 := (hF 25 (by decide)).trans h25
  have hFF := kF_st hFF hF (by first | decide | simp)
  refine lv_aload_n C.1 C.2.1 dX6_forget_7 rfl (lv_at hl 0 rfl) ?_
  refine k_get C hw 23 (by omega) h23 rfl inlX6 1 (by decide) q_90 rfl dX6_forget_8 ?_
  refine lv_iload_n C.1 C.2.1 dX6_forget_11 rfl (lv_at hl 1 rfl) ?_
  refine lv_lconst (v := 0) C.1 C.2.1 dX6_forget_12 rfl ?_
  refine k_last C hw 25 (by omega) h25 (by omega) (by first | decide | omega) dX6_forget_13 (fun M_2 H locs hw h25 hF => ?_)
  have h23 := (hF 23 (by decide)).trans h23
  have h24 := (hF 24 (by decide)).trans h24
  have hFF := kF_st hFF hF (by first | decide | simp)
  exact hret _ _ (Nat.le_of_ble_eq_true rfl) (Nat.le_of_ble_eq_true rfl) hw (⟨rfl, hFF, h24, h25⟩) dX6_forget_14

set_option maxHeartbeats 4000000 in
set_option maxRecDepth 100000 in
theorem c_X6_copyFrom_74_22 {l : Launch} {D : va_G} {cI cJ cZ cH cR : ClassId} {b : Nat} {n : Nat} {M : Nat → va_E}  {ct0 : Nat → Int32} {su0 : Nat → Int64} {ct : Nat → Int32} {su : Nat → Int64}  (hn : 78 ≤ n) (h75 : M 75 = .inr (6, [.ref (b + 76), .ref (b + 77)])) (h76 : M 76 = .inl (cI, 100, .inl ct0)) (h77 : M 77 = .inl (cJ, 100, .inr (.inl su0))) (h23 : M 23 = .inr (6, [.ref (b + 24), .ref (b + 25)])) (h24 : M 24 = .inl (cI, 100, .inl ct)) (h25 : M 25 = .inl (cJ, 100, .inr (.inl su)))   : Met l yX6_copyFrom (kw yX6_copyFrom cX6_copyFrom 2 none) ({ frames := 1, cells := 0, slots := 0, locals := 40 }) (va_Pc [.ref (b + 75), .ref (b + 23)] (kPre D (kT cI cJ cZ cH cR) b M n)) (va_Qv (fun (u : (Nat → va_E) × Nat) => u.2 = n ∧ kF [76, 77] M u.1 ∧ u.1 76 = .inl (cI, 100, .inl ct) ∧ u.1 77 = .inl (cJ, 100, .inr (.inl su))) (kB D (kT cI cJ cZ cH cR) b) (kA b)) 0 0 (kA b) := by
  refine k_metV (by decide +kernel) (Nat.le_of_ble_eq_true rfl) ?_
  intro p e s m below meth c ls Q C hw hret hnm hl
  have hl : lv_has ls 2 [(0, .ref (b + 75)), (1, .ref (b + 23))] := hl
  have hFF : kF [76, 77] M M := kF_rf
  refine lv_aload_n C.1 C.2.1 dX6_copyFrom_0 rfl (lv_at hl 1 rfl) ?_
  refine k_get C hw 23 (by omega) h23 rfl inlX6 0 (by decide) q_88 rfl dX6_copyFrom_1 ?_
  refine lv_iconst (v := nI 0) C.1 C.2.1 dX6_copyFrom_4 (by decide) ?_
  refine lv_aload_n C.1 C.2.1 dX6_copyFrom_5 rfl (lv_at hl 0 rfl) ?_
  refine k_get C hw 75 (by omega) h75 rfl inlX6 0 (by decide) q_88 rfl dX6_copyFrom_6 ?_
  refine lv_iconst (v := nI 0) C.1 C.2.1 dX6_copyFrom_9 (by decide) ?_
  refine lv_bipush (v := nI 100) C.1 C.2.1 dX6_copyFrom_10 (by decide) ?_
  refine k_copyi C hw hl.1 q_607 q_276 q_277 q_278 24 76 (by omega) (by omega) h24 h76 (by omega) (by omega) (by decide) (by decide) (Nat.le_of_ble_eq_true rfl) (by decide) dX6_copyFrom_12 (fun M_1 H locs hw h76 hF => ?_)
  have h75 := (hF 75 (by decide)).trans h75
  have h77 := (hF 77 (by decide)).trans h77
  have h23 := (hF 23 (by decide)).trans h23
  have h24 := (hF 24 (by decide)).trans h24
  have h25 := (hF 25 (by decide)).trans h25
  have hFF := kF_st hFF hF (by first | decide | simp)
  refine lv_aload_n C.1 C.2.1 dX6_copyFrom_15 rfl (lv_at hl 1 rfl) ?_
  refine k_get C hw 23 (by omega) h23 rfl inlX6 1 (by decide) q_90 rfl dX6_copyFrom_16 ?_
  refine lv_iconst (v := nI 0) C.1 C.2.1 dX6_copyFrom_19 (by decide) ?_
  refine lv_aload_n C.1 C.2.1 dX6_copyFrom_20 rfl (lv_at hl 0 rfl) ?_
  refine k_get C hw 75 (by omega) h75 rfl inlX6 1 (by decide) q_90 rfl dX6_copyFrom_21 ?_
  refine lv_iconst (v := nI 0) C.1 C.2.1 dX6_copyFrom_24 (by decide) ?_
  refine lv_bipush (v := nI 100) C.1 C.2.1 dX6_copyFrom_25 (by decide) ?_
  refine k_copyl C hw hl.1 q_607 q_276 q_277 q_278 25 77 (by omega) (by omega) h25 h77 (by omega) (by omega) (by decide) (by decide) (Nat.le_of_ble_eq_true rfl) (by decide) dX6_copyFrom_27 (fun M_2 H locs hw h77 hF => ?_)
  have h75 := (hF 75 (by decide)).trans h75
  have h76 := (hF 76 (by decide)).trans h76
  have h23 := (hF 23 (by decide)).trans h23
  have h24 := (hF 24 (by decide)).trans h24
  have h25 := (hF 25 (by decide)).trans h25
  have hFF := kF_st hFF hF (by first | decide | simp)
  obtain ⟨M_3, hw, h76, hF⟩ := k_extI hw 76 (by omega) h76 (ct) (fun j hj => cpy00 hj)
  have h75 := (hF 75 (by decide)).trans h75
  have h77 := (hF 77 (by decide)).trans h77
  have h23 := (hF 23 (by decide)).trans h23
  have h24 := (hF 24 (by decide)).trans h24
  have h25 := (hF 25 (by decide)).trans h25
  have hFF := kF_st hFF hF (by first | decide | simp)
  obtain ⟨M_4, hw, h77, hF⟩ := k_extJ hw 77 (by omega) h77 (su) (fun j hj => cpy00 hj)
  have h75 := (hF 75 (by decide)).trans h75
  have h76 := (hF 76 (by decide)).trans h76
  have h23 := (hF 23 (by decide)).trans h23
  have h24 := (hF 24 (by decide)).trans h24
  have h25 := (hF 25 (by decide)).trans h25
  have hFF := kF_st hFF hF (by first | decide | simp)
  exact hret _ _ (Nat.le_of_ble_eq_true rfl) (Nat.le_of_ble_eq_true rfl) hw (⟨rfl, hFF, h76, h77⟩) dX6_copyFrom_30

set_option maxHeartbeats 4000000 in
set_option maxRecDepth 100000 in
theorem c_X5_copyFrom_74_22 {l : Launch} {D : va_G} {cI cJ cZ cH cR : ClassId} {b : Nat} {n : Nat} {M : Nat → va_E}  {rs0 : Nat} {ca0 : Nat} {rn0 : Nat → Int32} {rk0 : Nat → Int32} {rv0 : Nat → Int32} {rs : Nat} {ca : Nat} {rn : Nat → Int32} {rk : Nat → Int32} {rv : Nat → Int32}  (hn : 82 ≤ n) (h78 : M 78 = .inr (5, [.ref (b + 79), .ref (b + 80), .ref (b + 81), .int (nI rs0), .int (nI ca0)])) (h79 : M 79 = .inl (cI, 400, .inl rn0)) (h80 : M 80 = .inl (cI, 400, .inl rk0)) (h81 : M 81 = .inl (cI, 400, .inl rv0)) (h26 : M 26 = .inr (5, [.ref (b + 27), .ref (b + 28), .ref (b + 29), .int (nI rs), .int (nI ca)])) (h27 : M 27 = .inl (cI, 400, .inl rn)) (h28 : M 28 = .inl (cI, 400, .inl rk)) (h29 : M 29 = .inl (cI, 400, .inl rv))  (hs : rs ≤ 400) : Met l yX5_copyFrom (kw yX5_copyFrom cX5_copyFrom 2 none) ({ frames := 1, cells := 0, slots := 0, locals := 40 }) (va_Pc [.ref (b + 78), .ref (b + 26)] (kPre D (kT cI cJ cZ cH cR) b M n)) (va_Qv (fun (u : (Nat → va_E) × Nat) => u.2 = n ∧ kF [78, 79, 80, 81] M u.1 ∧ u.1 78 = .inr (5, [.ref (b + 79), .ref (b + 80), .ref (b + 81), .int (nI rs), .int (nI ca)]) ∧ u.1 79 = .inl (cI, 400, .inl (va_cpy rn rn0 0 0 rs)) ∧ u.1 80 = .inl (cI, 400, .inl (va_cpy rk rk0 0 0 rs)) ∧ u.1 81 = .inl (cI, 400, .inl (va_cpy rv rv0 0 0 rs))) (kB D (kT cI cJ cZ cH cR) b) (kA b)) 0 0 (kA b) := by
  refine k_metV (by decide +kernel) (Nat.le_of_ble_eq_true rfl) ?_
  intro p e s m below meth c ls Q C hw hret hnm hl
  have hl : lv_has ls 2 [(0, .ref (b + 78)), (1, .ref (b + 26))] := hl
  have hFF : kF [78, 79, 80, 81] M M := kF_rf
  refine lv_aload_n C.1 C.2.1 dX5_copyFrom_0 rfl (lv_at hl 1 rfl) ?_
  refine k_get C hw 26 (by omega) h26 rfl inlX5 0 (by decide) q_95 rfl dX5_copyFrom_1 ?_
  refine lv_iconst (v := nI 0) C.1 C.2.1 dX5_copyFrom_4 (by decide) ?_
  refine lv_aload_n C.1 C.2.1 dX5_copyFrom_5 rfl (lv_at hl 0 rfl) ?_
  refine k_get C hw 78 (by omega) h78 rfl inlX5 0 (by decide) q_95 rfl dX5_copyFrom_6 ?_
  refine lv_iconst (v := nI 0) C.1 C.2.1 dX5_copyFrom_9 (by decide) ?_
  refine lv_aload_n C.1 C.2.1 dX5_copyFrom_10 rfl (lv_at hl 1 rfl) ?_
  refine k_get C hw 26 (by omega) h26 rfl inlX5 3 (by decide) q_239 rfl dX5_copyFrom_11 ?_
  refine k_copyi C hw hl.1 q_275 q_276 q_277 q_278 27 79 (by omega) (by omega) h27 h79 (by omega) (by omega) (by decide) (by decide) (Nat.le_of_ble_eq_true rfl) (by decide) dX5_copyFrom_14 (fun M_1 H locs hw h79 hF => ?_)
  have h78 := (hF 78 (by decide)).trans h78
  have h80 := (hF 80 (by decide)).trans h80
  have h81 := (hF 81 (by decide)).trans h81
  have h26 := (hF 26 (by decide)).trans h26
  have h27 := (hF 27 (by decide)).trans h27
  have h28 := (hF 28 (by decide)).trans h28
  have h29 := (hF 29 (by decide)).trans h29
  have hFF := kF_st hFF hF (by first | decide | simp)
  refine lv_aload_n C.1 C.2.1 dX5_copyFrom_17 rfl (lv_at hl 1 rfl) ?_
  refine k_get C hw 26 (by omega) h26 rfl inlX5 1 (by decide) q_96 rfl dX5_copyFrom_18 ?_
  refine lv_iconst (v := nI 0) C.1 C.2.1 dX5_copyFrom_21 (by decide) ?_
  refine lv_aload_n C.1 C.2.1 dX5_copyFrom_22 rfl (lv_at hl 0 rfl) ?_
  refine k_get C hw 78 (by omega) h78 rfl inlX5 1 (by decide) q_96 rfl dX5_copyFrom_23 ?_
  refine lv_iconst (v := nI 0) C.1 C.2.1 dX5_copyFrom_26 (by decide) ?_
  refine lv_aload_n C.1 C.2.1 dX5_copyFrom_27 rfl (lv_at hl 1 rfl) ?_
  refine k_get C hw 26 (by omega) h26 rfl inlX5 3 (by decide) q_239 rfl dX5_copyFrom_28 ?_
  refine k_copyi C hw hl.1 q_275 q_276 q_277 q_278 28 80 (by omega) (by omega) h28 h80 (by omega) (by omega) (by decide) (by decide) (Nat.le_of_ble_eq_true rfl) (by decide) dX5_copyFrom_31 (fun M_2 H locs hw h80 hF => ?_)
  have h78 := (hF 78 (by decide)).trans h78
  have h79 := (hF 79 (by decide)).trans h79
  have h81 := (hF 81 (by decide)).trans h81
  have h26 := (hF 26 (by decide)).trans h26
  have h27 := (hF 27 (by decide)).trans h27
  have h28 := (hF 28 (by decide)).trans h28
  have h29 := (hF 29 (by decide)).trans h29
  have hFF := kF_st hFF hF (by first | decide | simp)
  refine lv_aload_n C.1 C.2.1 dX5_copyFrom_34 rfl (lv_at hl 1 rfl) ?_
  refine k_get C hw 26 (by omega) h26 rfl inlX5 2 (by decide) q_97 rfl dX5_copyFrom_35 ?_
  refine lv_iconst (v := nI 0) C.1 C.2.1 dX5_copyFrom_38 (by decide) ?_
  refine lv_aload_n C.1 C.2.1 dX5_copyFrom_39 rfl (lv_at hl 0 rfl) ?_
  refine k_get C hw 78 (by omega) h78 rfl inlX5 2 (by decide) q_97 rfl dX5_copyFrom_40 ?_
  refine lv_iconst (v := nI 0) C.1 C.2.1 dX5_copyFrom_43 (by decide) ?_
  refine lv_aload_n C.1 C.2.1 dX5_copyFrom_44 rfl (lv_at hl 1 rfl) ?_
  refine k_get C hw 26 (by omega) h26 rfl inlX5 3 (by decide) q_239 rfl dX5_copyFrom_45 ?_
  refine k_copyi C hw hl.1 q_275 q_276 q_277 q_278 29 81 (by omega) (by omega) h29 h81 (by omega) (by omega) (by decide) (by decide) (Nat.le_of_ble_eq_true rfl) (by decide) dX5_copyFrom_48 (fun M_3 H locs hw h81 hF => ?_)
  have h78 := (hF 78 (by decide)).trans h78
  have h79 := (hF 79 (by decide)).trans h79
  have h80 := (hF 80 (by decide)).trans h80
  have h26 := (hF 26 (by decide)).trans h26
  have h27 := (hF 27 (by decide)).trans h27
  have h28 := (hF 28 (by decide)).trans h28
  have h29 := (hF 29 (by decide)).trans h29
  have hFF := kF_st hFF hF (by first | decide | simp)
  refine lv_aload_n C.1 C.2.1 dX5_copyFrom_51 rfl (lv_at hl 0 rfl) ?_
  refine lv_aload_n C.1 C.2.1 dX5_copyFrom_52 rfl (lv_at hl 1 rfl) ?_
  refine k_get C hw 26 (by omega) h26 rfl inlX5 3 (by decide) q_239 rfl dX5_copyFrom_53 ?_
  refine k_put (tf := .int) C hw 78 (by omega) h78 rfl inlX5 tyX5 tyX5_ok nmX5 3 (by decide) q_239 rfl (by decide +kernel) rfl rfl (Nat.le_of_ble_eq_true rfl) dX5_copyFrom_56 (fun M_4 H locs hw h78 hF => ?_)
  have h78 : M_4 78 = .inr (5, [.ref (b + 79), .ref (b + 80), .ref (b + 81), .int (nI rs), .int (nI ca0)]) := h78
  have h79 := (hF 79 (by decide)).trans h79
  have h80 := (hF 80 (by decide)).trans h80
  have h81 := (hF 81 (by decide)).trans h81
  have h26 := (hF 26 (by decide)).trans h26
  have h27 := (hF 27 (by decide)).trans h27
  have h28 := (hF 28 (by decide)).trans h28
  have h29 := (hF 29 (by decide)).trans h29
  have hFF := kF_st hFF hF (by first | decide | simp)
  refine lv_aload_n C.1 C.2.1 dX5_copyFrom_59 rfl (lv_at hl 0 rfl) ?_
  refine lv_aload_n C.1 C.2.1 dX5_copyFrom_60 rfl (lv_at hl 1 rfl) ?_
  refine k_get C hw 26 (by omega) h26 rfl inlX5 4 (by decide) q_240 rfl dX5_copyFrom_61 ?_
  refine k_put (tf := .int) C hw 78 (by omega) h78 rfl inlX5 tyX5 tyX5_ok nmX5 4 (by decide) q_240 rfl (by decide +kernel) rfl rfl (Nat.le_of_ble_eq_true rfl) dX5_copyFrom_64 (fun M_5 H locs hw h78 hF => ?_)
  have h78 : M_5 78 = .inr (5, [.ref (b + 79), .ref (b + 80), .ref (b + 81), .int (nI rs), .int (nI ca)]) := h78
  have h79 := (hF 79 (by decide)).trans h79
  have h80 := (hF 80 (by decide)).trans h80
  have h81 := (hF 81 (by decide)).trans h81
  have h26 := (hF 26 (by decide)).trans h26
  have h27 := (hF 27 (by decide)).trans h27
  have h28 := (hF 28 (by decide)).trans h28
  have h29 := (hF 29 (by decide)).trans h29
  have hFF := kF_st hFF hF (by first | decide | simp)
  exact hret _ _ (Nat.le_of_ble_eq_true rfl) (Nat.le_of_ble_eq_true rfl) hw (⟨rfl, hFF, h78, h79, h80, h81⟩) dX5_copyFrom_67

set_option maxHeartbeats 4000000 in
set_option maxRecDepth 100000 in
theorem c_X7_copyFrom_74_22 {l : Launch} {D : va_G} {cI cJ cZ cH cR : ClassId} {b : Nat} {n : Nat} {M : Nat → va_E}  {ts0 : Nat} {tr0 : Int32} {tk0 : Nat → Int32} {tt0 : Nat → Int32} {ts : Nat} {tr : Int32} {tk : Nat → Int32} {tt : Nat → Int32}  (hn : 85 ≤ n) (h82 : M 82 = .inr (7, [.ref (b + 83), .ref (b + 84), .int (nI ts0), .int tr0])) (h83 : M 83 = .inl (cI, 40, .inl tk0)) (h84 : M 84 = .inl (cI, 40, .inl tt0)) (h30 : M 30 = .inr (7, [.ref (b + 31), .ref (b + 32), .int (nI ts), .int tr])) (h31 : M 31 = .inl (cI, 40, .inl tk)) (h32 : M 32 = .inl (cI, 40, .inl tt))  (ht : ts ≤ 40) : Met l yX7_copyFrom (kw yX7_copyFrom cX7_copyFrom 2 none) ({ frames := 1, cells := 0, slots := 0, locals := 40 }) (va_Pc [.ref (b + 82), .ref (b + 30)] (kPre D (kT cI cJ cZ cH cR) b M n)) (va_Qv (fun (u : (Nat → va_E) × Nat) => u.2 = n ∧ kF [82, 83, 84] M u.1 ∧ u.1 82 = .inr (7, [.ref (b + 83), .ref (b + 84), .int (nI ts), .int (tr)]) ∧ u.1 83 = .inl (cI, 40, .inl (va_cpy tk tk0 0 0 ts)) ∧ u.1 84 = .inl (cI, 40, .inl (va_cpy tt tt0 0 0 ts))) (kB D (kT cI cJ cZ cH cR) b) (kA b)) 0 0 (kA b) := by
  refine k_metV (by decide +kernel) (Nat.le_of_ble_eq_true rfl) ?_
  intro p e s m below meth c ls Q C hw hret hnm hl
  have hl : lv_has ls 2 [(0, .ref (b + 82)), (1, .ref (b + 30))] := hl
  have hFF : kF [82, 83, 84] M M := kF_rf
  refine lv_aload_n C.1 C.2.1 dX7_copyFrom_0 rfl (lv_at hl 1 rfl) ?_
  refine k_get C hw 30 (by omega) h30 rfl inlX7 0 (by decide) q_102 rfl dX7_copyFrom_1 ?_
  refine lv_iconst (v := nI 0) C.1 C.2.1 dX7_copyFrom_4 (by decide) ?_
  refine lv_aload_n C.1 C.2.1 dX7_copyFrom_5 rfl (lv_at hl 0 rfl) ?_
  refine k_get C hw 82 (by omega) h82 rfl inlX7 0 (by decide) q_102 rfl dX7_copyFrom_6 ?_
  refine lv_iconst (v := nI 0) C.1 C.2.1 dX7_copyFrom_9 (by decide) ?_
  refine lv_aload_n C.1 C.2.1 dX7_copyFrom_10 rfl (lv_at hl 1 rfl) ?_
  refine k_get C hw 30 (by omega) h30 rfl inlX7 2 (by decide) q_498 rfl dX7_copyFrom_11 ?_
  refine k_copyi C hw hl.1 q_499 q_276 q_277 q_278 31 83 (by omega) (by omega) h31 h83 (by omega) (by omega) (by decide) (by decide) (Nat.le_of_ble_eq_true rfl) (by decide) dX7_copyFrom_14 (fun M_1 H locs hw h83 hF => ?_)
  have h82 := (hF 82 (by decide)).trans h82
  have h84 := (hF 84 (by decide)).trans h84
  have h30 := (hF 30 (by decide)).trans h30
  have h31 := (hF 31 (by decide)).trans h31
  have h32 := (hF 32 (by decide)).trans h32
  have hFF := kF_st hFF hF (by first | decide | simp)
  refine lv_aload_n C.1 C.2.1 dX7_copyFrom_17 rfl (lv_at hl 1 rfl) ?_
  refine k_get C hw 30 (by omega) h30 rfl inlX7 1 (by decide) q_103 rfl dX7_copyFrom_18 ?_
  refine lv_iconst (v := nI 0) C.1 C.2.1 dX7_copyFrom_21 (by decide) ?_
  refine lv_aload_n C.1 C.2.1 dX7_copyFrom_22 rfl (lv_at hl 0 rfl) ?_
  refine k_get C hw 82 (by omega) h82 rfl inlX7 1 (by decide) q_103 rfl dX7_copyFrom_23 ?_
  refine lv_iconst (v := nI 0) C.1 C.2.1 dX7_copyFrom_26 (by decide) ?_
  refine lv_aload_n C.1 C.2.1 dX7_copyFrom_27 rfl (lv_at hl 1 rfl) ?_
  refine k_get C hw 30 (by omega) h30 rfl inlX7 2 (by decide) q_498 rfl dX7_copyFrom_28 ?_
  refine k_copyi C hw hl.1 q_499 q_276 q_277 q_278 32 84 (by omega) (by omega) h32 h84 (by omega) (by omega) (by decide) (by decide) (Nat.le_of_ble_eq_true rfl) (by decide) dX7_copyFrom_31 (fun M_2 H locs hw h84 hF => ?_)
  have h82 := (hF 82 (by decide)).trans h82
  have h83 := (hF 83 (by decide)).trans h83
  have h30 := (hF 30 (by decide)).trans h30
  have h31 := (hF 31 (by decide)).trans h31
  have h32 := (hF 32 (by decide)).trans h32
  have hFF := kF_st hFF hF (by first | decide | simp)
  refine lv_aload_n C.1 C.2.1 dX7_copyFrom_34 rfl (lv_at hl 0 rfl) ?_
  refine lv_aload_n C.1 C.2.1 dX7_copyFrom_35 rfl (lv_at hl 1 rfl) ?_
  refine k_get C hw 30 (by omega) h30 rfl inlX7 2 (by decide) q_498 rfl dX7_copyFrom_36 ?_
  refine k_put (tf := .int) C hw 82 (by omega) h82 rfl inlX7 tyX7 tyX7_ok nmX7 2 (by decide) q_498 rfl (by decide +kernel) rfl rfl (Nat.le_of_ble_eq_true rfl) dX7_copyFrom_39 (fun M_3 H locs hw h82 hF => ?_)
  have h82 : M_3 82 = .inr (7, [.ref (b + 83), .ref (b + 84), .int (nI ts), .int tr0]) := h82
  have h83 := (hF 83 (by decide)).trans h83
  have h84 := (hF 84 (by decide)).trans h84
  have h30 := (hF 30 (by decide)).trans h30
  have h31 := (hF 31 (by decide)).trans h31
  have h32 := (hF 32 (by decide)).trans h32
  have hFF := kF_st hFF hF (by first | decide | simp)
  refine lv_aload_n C.1 C.2.1 dX7_copyFrom_42 rfl (lv_at hl 0 rfl) ?_
  refine lv_aload_n C.1 C.2.1 dX7_copyFrom_43 rfl (lv_at hl 1 rfl) ?_
  refine k_get C hw 30 (by omega) h30 rfl inlX7 3 (by decide) q_616 rfl dX7_copyFrom_44 ?_
  refine k_put (tf := .int) C hw 82 (by omega) h82 rfl inlX7 tyX7 tyX7_ok nmX7 3 (by decide) q_616 rfl (by decide +kernel) rfl rfl (Nat.le_of_ble_eq_true rfl) dX7_copyFrom_47 (fun M_4 H locs hw h82 hF => ?_)
  have h82 : M_4 82 = .inr (7, [.ref (b + 83), .ref (b + 84), .int (nI ts), .int tr]) := h82
  have h83 := (hF 83 (by decide)).trans h83
  have h84 := (hF 84 (by decide)).trans h84
  have h30 := (hF 30 (by decide)).trans h30
  have h31 := (hF 31 (by decide)).trans h31
  have h32 := (hF 32 (by decide)).trans h32
  have hFF := kF_st hFF hF (by first | decide | simp)
  exact hret _ _ (Nat.le_of_ble_eq_true rfl) (Nat.le_of_ble_eq_true rfl) hw (⟨rfl, hFF, h82, h83, h84⟩) dX7_copyFrom_50

set_option maxHeartbeats 4000000 in
set_option maxRecDepth 100000 in
theorem c_X0_copyFrom_74_22 {l : Launch} {D : va_G} {cI cJ cZ cH cR : ClassId} {b : Nat} {n : Nat} {M : Nat → va_E}  {ct0 : Nat → Int32} {su0 : Nat → Int64} {rs0 : Nat} {ca0 : Nat} {rn0 : Nat → Int32} {rk0 : Nat → Int32} {rv0 : Nat → Int32} {ts0 : Nat} {tr0 : Int32} {tk0 : Nat → Int32} {tt0 : Nat → Int32} {ct : Nat → Int32} {su : Nat → Int64} {rs : Nat} {ca : Nat} {rn : Nat → Int32} {rk : Nat → Int32} {rv : Nat → Int32} {ts : Nat} {tr : Int32} {tk : Nat → Int32} {tt : Nat → Int32}  (hn : 85 ≤ n) (h74 : M 74 = .inr (0, [.ref (b + 75), .ref (b + 78), .ref (b + 82)])) (h75 : M 75 = .inr (6, [.ref (b + 76), .ref (b + 77)])) (h76 : M 76 = .inl (cI, 100, .inl ct0)) (h77 : M 77 = .inl (cJ, 100, .inr (.inl su0))) (h78 : M 78 = .inr (5, [.ref (b + 79), .ref (b + 80), .ref (b + 81), .int (nI rs0), .int (nI ca0)])) (h79 : M 79 = .inl (cI, 400, .inl rn0)) (h80 : M 80 = .inl (cI, 400, .inl rk0)) (h81 : M 81 = .inl (cI, 400, .inl rv0)) (h82 : M 82 = .inr (7, [.ref (b + 83), .ref (b + 84), .int (nI ts0), .int tr0])) (h83 : M 83 = .inl (cI, 40, .inl tk0)) (h84 : M 84 = .inl (cI, 40, .inl tt0)) (h22 : M 22 = .inr (0, [.ref (b + 23), .ref (b + 26), .ref (b + 30)])) (h23 : M 23 = .inr (6, [.ref (b + 24), .ref (b + 25)])) (h24 : M 24 = .inl (cI, 100, .inl ct)) (h25 : M 25 = .inl (cJ, 100, .inr (.inl su))) (h26 : M 26 = .inr (5, [.ref (b + 27), .ref (b + 28), .ref (b + 29), .int (nI rs), .int (nI ca)])) (h27 : M 27 = .inl (cI, 400, .inl rn)) (h28 : M 28 = .inl (cI, 400, .inl rk)) (h29 : M 29 = .inl (cI, 400, .inl rv)) (h30 : M 30 = .inr (7, [.ref (b + 31), .ref (b + 32), .int (nI ts), .int tr])) (h31 : M 31 = .inl (cI, 40, .inl tk)) (h32 : M 32 = .inl (cI, 40, .inl tt))  (hs : rs ≤ 400) (ht : ts ≤ 40) : Met l yX0_copyFrom (kw yX0_copyFrom cX0_copyFrom 2 none) ({ frames := 2, cells := 0, slots := 0, locals := 61 }) (va_Pc [.ref (b + 74), .ref (b + 22)] (kPre D (kT cI cJ cZ cH cR) b M n)) (va_Qv (fun (u : (Nat → va_E) × Nat) => u.2 = n ∧ kF [76, 77, 78, 79, 80, 81, 82, 83, 84] M u.1 ∧ u.1 76 = .inl (cI, 100, .inl ct) ∧ u.1 77 = .inl (cJ, 100, .inr (.inl su)) ∧ u.1 78 = .inr (5, [.ref (b + 79), .ref (b + 80), .ref (b + 81), .int (nI rs), .int (nI ca)]) ∧ u.1 79 = .inl (cI, 400, .inl (va_cpy rn rn0 0 0 rs)) ∧ u.1 80 = .inl (cI, 400, .inl (va_cpy rk rk0 0 0 rs)) ∧ u.1 81 = .inl (cI, 400, .inl (va_cpy rv rv0 0 0 rs)) ∧ u.1 82 = .inr (7, [.ref (b + 83), .ref (b + 84), .int (nI ts), .int (tr)]) ∧ u.1 83 = .inl (cI, 40, .inl (va_cpy tk tk0 0 0 ts)) ∧ u.1 84 = .inl (cI, 40, .inl (va_cpy tt tt0 0 0 ts))) (kB D (kT cI cJ cZ cH cR) b) (kA b)) 0 0 (kA b) := by
  refine k_metV (by decide +kernel) (Nat.le_of_ble_eq_true rfl) ?_
  intro p e s m below meth c ls Q C hw hret hnm hl
  have hl : lv_has ls 2 [(0, .ref (b + 74)), (1, .ref (b + 22))] := hl
  have hFF : kF [76, 77, 78, 79, 80, 81, 82, 83, 84] M M := kF_rf
  refine lv_aload_n C.1 C.2.1 dX0_copyFrom_0 rfl (lv_at hl 0 rfl) ?_
  refine k_get C hw 74 (by omega) h74 rfl inlX0 0 (by decide) q_75 rfl dX0_copyFrom_1 ?_
  refine lv_aload_n C.1 C.2.1 dX0_copyFrom_4 rfl (lv_at hl 1 rfl) ?_
  refine k_get C hw 22 (by omega) h22 rfl inlX0 0 (by decide) q_75 rfl dX0_copyFrom_5 ?_
  refine k_vv C hw 75 (by omega) h75 rfl (c_X6_copyFrom_74_22 (by omega) h75 h76 h77 h23 h24 h25  ) kv_X0_35 rfl hl.1 ⟨Nat.le_of_ble_eq_true rfl, Nat.le_of_ble_eq_true rfl⟩ (Nat.le_of_ble_eq_true rfl) ⟨Nat.le_of_ble_eq_true rfl, Nat.le_of_ble_eq_true rfl⟩ dX0_copyFrom_8 (fun M_1 n9 H locs hp hw => ?_)
  obtain ⟨en9, hF, h76, h77⟩ := hp
  have en9 : n9 = n := en9
  rw [en9] at hw
  have h74 := (hF 74 (by decide)).trans h74
  have h75 := (hF 75 (by decide)).trans h75
  have h78 := (hF 78 (by decide)).trans h78
  have h79 := (hF 79 (by decide)).trans h79
  have h80 := (hF 80 (by decide)).trans h80
  have h81 := (hF 81 (by decide)).trans h81
  have h82 := (hF 82 (by decide)).trans h82
  have h83 := (hF 83 (by decide)).trans h83
  have h84 := (hF 84 (by decide)).trans h84
  have h22 := (hF 22 (by decide)).trans h22
  have h23 := (hF 23 (by decide)).trans h23
  have h24 := (hF 24 (by decide)).trans h24
  have h25 := (hF 25 (by decide)).trans h25
  have h26 := (hF 26 (by decide)).trans h26
  have h27 := (hF 27 (by decide)).trans h27
  have h28 := (hF 28 (by decide)).trans h28
  have h29 := (hF 29 (by decide)).trans h29
  have h30 := (hF 30 (by decide)).trans h30
  have h31 := (hF 31 (by decide)).trans h31
  have h32 := (hF 32 (by decide)).trans h32
  have hFF := kF_st hFF hF (by first | decide | simp)
  refine lv_aload_n C.1 C.2.1 dX0_copyFrom_11 rfl (lv_at hl 0 rfl) ?_
  refine k_get C hw 74 (by omega) h74 rfl inlX0 1 (by decide) q_79 rfl dX0_copyFrom_12 ?_
  refine lv_aload_n C.1 C.2.1 dX0_copyFrom_15 rfl (lv_at hl 1 rfl) ?_
  refine k_get C hw 22 (by omega) h22 rfl inlX0 1 (by decide) q_79 rfl dX0_copyFrom_16 ?_
  refine k_vv C hw 78 (by omega) h78 rfl (c_X5_copyFrom_74_22 (by omega) h78 h79 h80 h81 h26 h27 h28 h29  (by omega)) kv_X0_39 rfl hl.1 ⟨Nat.le_of_ble_eq_true rfl, Nat.le_of_ble_eq_true rfl⟩ (Nat.le_of_ble_eq_true rfl) ⟨Nat.le_of_ble_eq_true rfl, Nat.le_of_ble_eq_true rfl⟩ dX0_copyFrom_19 (fun M_2 n9 H locs hp hw => ?_)
  obtain ⟨en9, hF, h78, h79, h80, h81⟩ := hp
  have en9 : n9 = n := en9
  rw [en9] at hw
  have h74 := (hF 74 (by decide)).trans h74
  have h75 := (hF 75 (by decide)).trans h75
  have h76 := (hF 76 (by decide)).trans h76
  have h77 := (hF 77 (by decide)).trans h77
  have h82 := (hF 82 (by decide)).trans h82
  have h83 := (hF 83 (by decide)).trans h83
  have h84 := (hF 84 (by decide)).trans h84
  have h22 := (hF 22 (by decide)).trans h22
  have h23 := (hF 23 (by decide)).trans h23
  have h24 := (hF 24 (by decide)).trans h24
  have h25 := (hF 25 (by decide)).trans h25
  have h26 := (hF 26 (by decide)).trans h26
  have h27 := (hF 27 (by decide)).trans h27
  have h28 := (hF 28 (by decide)).trans h28
  have h29 := (hF 29 (by decide)).trans h29
  have h30 := (hF 30 (by decide)).trans h30
  have h31 := (hF 31 (by decide)).trans h31
  have h32 := (hF 32 (by decide)).trans h32
  have hFF := kF_st hFF hF (by first | decide | simp)
  refine lv_aload_n C.1 C.2.1 dX0_copyFrom_22 rfl (lv_at hl 0 rfl) ?_
  refine k_get C hw 74 (by omega) h74 rfl inlX0 2 (by decide) q_83 rfl dX0_copyFrom_23 ?_
  refine lv_aload_n C.1 C.2.1 dX0_copyFrom_26 rfl (lv_at hl 1 rfl) ?_
  refine k_get C hw 22 (by omega) h22 rfl inlX0 2 (by decide) q_83 rfl dX0_copyFrom_27 ?_
  refine k_vv C hw 82 (by omega) h82 rfl (c_X7_copyFrom_74_22 (by omega) h82 h83 h84 h30 h31 h32  (by omega)) kv_X0_42 rfl hl.1 ⟨Nat.le_of_ble_eq_true rfl, Nat.le_of_ble_eq_true rfl⟩ (Nat.le_of_ble_eq_true rfl) ⟨Nat.le_of_ble_eq_true rfl, Nat.le_of_ble_eq_true rfl⟩ dX0_copyFrom_30 (fun M_3 n9 H locs hp hw => ?_)
  obtain ⟨en9, hF, h82, h83, h84⟩ := hp
  have en9 : n9 = n := en9
  rw [en9] at hw
  have h74 := (hF 74 (by decide)).trans h74
  have h75 := (hF 75 (by decide)).trans h75
  have h76 := (hF 76 (by decide)).trans h76
  have h77 := (hF 77 (by decide)).trans h77
  have h78 := (hF 78 (by decide)).trans h78
  have h79 := (hF 79 (by decide)).trans h79
  have h80 := (hF 80 (by decide)).trans h80
  have h81 := (hF 81 (by decide)).trans h81
  have h22 := (hF 22 (by decide)).trans h22
  have h23 := (hF 23 (by decide)).trans h23
  have h24 := (hF 24 (by decide)).trans h24
  have h25 := (hF 25 (by decide)).trans h25
  have h26 := (hF 26 (by decide)).trans h26
  have h27 := (hF 27 (by decide)).trans h27
  have h28 := (hF 28 (by decide)).trans h28
  have h29 := (hF 29 (by decide)).trans h29
  have h30 := (hF 30 (by decide)).trans h30
  have h31 := (hF 31 (by decide)).trans h31
  have h32 := (hF 32 (by decide)).trans h32
  have hFF := kF_st hFF hF (by first | decide | simp)
  exact hret _ _ (Nat.le_of_ble_eq_true rfl) (Nat.le_of_ble_eq_true rfl) hw (⟨rfl, hFF, h76, h77, h78, h79, h80, h81, h82, h83, h84⟩) dX0_copyFrom_33

set_option maxHeartbeats 4000000 in
set_option maxRecDepth 100000 in
theorem c_X6_copyFrom_85_22 {l : Launch} {D : va_G} {cI cJ cZ cH cR : ClassId} {b : Nat} {n : Nat} {M : Nat → va_E}  {ct1 : Nat → Int32} {su1 : Nat → Int64} {ct : Nat → Int32} {su : Nat → Int64}  (hn : 89 ≤ n) (h86 : M 86 = .inr (6, [.ref (b + 87), .ref (b + 88)])) (h87 : M 87 = .inl (cI, 100, .inl ct1)) (h88 : M 88 = .inl (cJ, 100, .inr (.inl su1))) (h23 : M 23 = .inr (6, [.ref (b + 24), .ref (b + 25)])) (h24 : M 24 = .inl (cI, 100, .inl ct)) (h25 : M 25 = .inl (cJ, 100, .inr (.inl su)))   : Met l yX6_copyFrom (kw yX6_copyFrom cX6_copyFrom 2 none) ({ frames := 1, cells := 0, slots := 0, locals := 40 }) (va_Pc [.ref (b + 86), .ref (b + 23)] (kPre D (kT cI cJ cZ cH cR) b M n)) (va_Qv (fun (u : (Nat → va_E) × Nat) => u.2 = n ∧ kF [87, 88] M u.1 ∧ u.1 87 = .inl (cI, 100, .inl ct) ∧ u.1 88 = .inl (cJ, 100, .inr (.inl su))) (kB D (kT cI cJ cZ cH cR) b) (kA b)) 0 0 (kA b) := by
  refine k_metV (by decide +kernel) (Nat.le_of_ble_eq_true rfl) ?_
  intro p e s m below meth c ls Q C hw hret hnm hl
  have hl : lv_has ls 2 [(0, .ref (b + 86)), (1, .ref (b + 23))] := hl
  have hFF : kF [87, 88] M M := kF_rf
  refine lv_aload_n C.1 C.2.1 dX6_copyFrom_0 rfl (lv_at hl 1 rfl) ?_
  refine k_get C hw 23 (by omega) h23 rfl inlX6 0 (by decide) q_88 rfl dX6_copyFrom_1 ?_
  refine lv_iconst (v := nI 0) C.1 C.2.1 dX6_copyFrom_4 (by decide) ?_
  refine lv_aload_n C.1 C.2.1 dX6_copyFrom_5 rfl (lv_at hl 0 rfl) ?_
  refine k_get C hw 86 (by omega) h86 rfl inlX6 0 (by decide) q_88 rfl dX6_copyFrom_6 ?_
  refine lv_iconst (v := nI 0) C.1 C.2.1 dX6_copyFrom_9 (by decide) ?_
  refine lv_bipush (v := nI 100) C.1 C.2.1 dX6_copyFrom_10 (by decide) ?_
  refine k_copyi C hw hl.1 q_607 q_276 q_277 q_278 24 87 (by omega) (by omega) h24 h87 (by omega) (by omega) (by decide) (by decide) (Nat.le_of_ble_eq_true rfl) (by decide) dX6_copyFrom_12 (fun M_1 H locs hw h87 hF => ?_)
  have h86 := (hF 86 (by decide)).trans h86
  have h88 := (hF 88 (by decide)).trans h88
  have h23 := (hF 23 (by decide)).trans h23
  have h24 := (hF 24 (by decide)).trans h24
  have h25 := (hF 25 (by decide)).trans h25
  have hFF := kF_st hFF hF (by first | decide | simp)
  refine lv_aload_n C.1 C.2.1 dX6_copyFrom_15 rfl (lv_at hl 1 rfl) ?_
  refine k_get C hw 23 (by omega) h23 rfl inlX6 1 (by decide) q_90 rfl dX6_copyFrom_16 ?_
  refine lv_iconst (v := nI 0) C.1 C.2.1 dX6_copyFrom_19 (by decide) ?_
  refine lv_aload_n C.1 C.2.1 dX6_copyFrom_20 rfl (lv_at hl 0 rfl) ?_
  refine k_get C hw 86 (by omega) h86 rfl inlX6 1 (by decide) q_90 rfl dX6_copyFrom_21 ?_
  refine lv_iconst (v := nI 0) C.1 C.2.1 dX6_copyFrom_24 (by decide) ?_
  refine lv_bipush (v := nI 100) C.1 C.2.1 dX6_copyFrom_25 (by decide) ?_
  refine k_copyl C hw hl.1 q_607 q_276 q_277 q_278 25 88 (by omega) (by omega) h25 h88 (by omega) (by omega) (by decide) (by decide) (Nat.le_of_ble_eq_true rfl) (by decide) dX6_copyFrom_27 (fun M_2 H locs hw h88 hF => ?_)
  have h86 := (hF 86 (by decide)).trans h86
  have h87 := (hF 87 (by decide)).trans h87
  have h23 := (hF 23 (by decide)).trans h23
  have h24 := (hF 24 (by decide)).trans h24
  have h25 := (hF 25 (by decide)).trans h25
  have hFF := kF_st hFF hF (by first | decide | simp)
  obtain ⟨M_3, hw, h87, hF⟩ := k_extI hw 87 (by omega) h87 (ct) (fun j hj => cpy00 hj)
  have h86 := (hF 86 (by decide)).trans h86
  have h88 := (hF 88 (by decide)).trans h88
  have h23 := (hF 23 (by decide)).trans h23
  have h24 := (hF 24 (by decide)).trans h24
  have h25 := (hF 25 (by decide)).trans h25
  have hFF := kF_st hFF hF (by first | decide | simp)
  obtain ⟨M_4, hw, h88, hF⟩ := k_extJ hw 88 (by omega) h88 (su) (fun j hj => cpy00 hj)
  have h86 := (hF 86 (by decide)).trans h86
  have h87 := (hF 87 (by decide)).trans h87
  have h23 := (hF 23 (by decide)).trans h23
  have h24 := (hF 24 (by decide)).trans h24
  have h25 := (hF 25 (by decide)).trans h25
  have hFF := kF_st hFF hF (by first | decide | simp)
  exact hret _ _ (Nat.le_of_ble_eq_true rfl) (Nat.le_of_ble_eq_true rfl) hw (⟨rfl, hFF, h87, h88⟩) dX6_copyFrom_30

set_option maxHeartbeats 4000000 in
set_option maxRecDepth 100000 in
theorem c_X5_copyFrom_85_22 {l : Launch} {D : va_G} {cI cJ cZ cH cR : ClassId} {b : Nat} {n : Nat} {M : Nat → va_E}  {rs1 : Nat} {ca1 : Nat} {rn1 : Nat → Int32} {rk1 : Nat → Int32} {rv1 : Nat → Int32} {rs : Nat} {ca : Nat} {rn : Nat → Int32} {rk : Nat → Int32} {rv : Nat → Int32}  (hn : 93 ≤ n) (h89 : M 89 = .inr (5, [.ref (b + 90), .ref (b + 91), .ref (b + 92), .int (nI rs1), .int (nI ca1)])) (h90 : M 90 = .inl (cI, 400, .inl rn1)) (h91 : M 91 = .inl (cI, 400, .inl rk1)) (h92 : M 92 = .inl (cI, 400, .inl rv1)) (h26 : M 26 = .inr (5, [.ref (b + 27), .ref (b + 28), .ref (b + 29), .int (nI rs), .int (nI ca)])) (h27 : M 27 = .inl (cI, 400, .inl rn)) (h28 : M 28 = .inl (cI, 400, .inl rk)) (h29 : M 29 = .inl (cI, 400, .inl rv))  (hs : rs ≤ 400) : Met l yX5_copyFrom (kw yX5_copyFrom cX5_copyFrom 2 none) ({ frames := 1, cells := 0, slots := 0, locals := 40 }) (va_Pc [.ref (b + 89), .ref (b + 26)] (kPre D (kT cI cJ cZ cH cR) b M n)) (va_Qv (fun (u : (Nat → va_E) × Nat) => u.2 = n ∧ kF [89, 90, 91, 92] M u.1 ∧ u.1 89 = .inr (5, [.ref (b + 90), .ref (b + 91), .ref (b + 92), .int (nI rs), .int (nI ca)]) ∧ u.1 90 = .inl (cI, 400, .inl (va_cpy rn rn1 0 0 rs)) ∧ u.1 91 = .inl (cI, 400, .inl (va_cpy rk rk1 0 0 rs)) ∧ u.1 92 = .inl (cI, 400, .inl (va_cpy rv rv1 0 0 rs))) (kB D (kT cI cJ cZ cH cR) b) (kA b)) 0 0 (kA b) := by
  refine k_metV (by decide +kernel) (Nat.le_of_ble_eq_true rfl) ?_
  intro p e s m below meth c ls Q C hw hret hnm hl
  have hl : lv_has ls 2 [(0, .ref (b + 89)), (1, .ref (b + 26))] := hl
  have hFF : kF [89, 90, 91, 92] M M := kF_rf
  refine lv_aload_n C.1 C.2.1 dX5_copyFrom_0 rfl (lv_at hl 1 rfl) ?_
  refine k_get C hw 26 (by omega) h26 rfl inlX5 0 (by decide) q_95 rfl dX5_copyFrom_1 ?_
  refine lv_iconst (v := nI 0) C.1 C.2.1 dX5_copyFrom_4 (by decide) ?_
  refine lv_aload_n C.1 C.2.1 dX5_copyFrom_5 rfl (lv_at hl 0 rfl) ?_
  refine k_get C hw 89 (by omega) h89 rfl inlX5 0 (by decide) q_95 rfl dX5_copyFrom_6 ?_
  refine lv_iconst (v := nI 0) C.1 C.2.1 dX5_copyFrom_9 (by decide) ?_
  refine lv_aload_n C.1 C.2.1 dX5_copyFrom_10 rfl (lv_at hl 1 rfl) ?_
  refine k_get C hw 26 (by omega) h26 rfl inlX5 3 (by decide) q_239 rfl dX5_copyFrom_11 ?_
  refine k_copyi C hw hl.1 q_275 q_276 q_277 q_278 27 90 (by omega) (by omega) h27 h90 (by omega) (by omega) (by decide) (by decide) (Nat.le_of_ble_eq_true rfl) (by decide) dX5_copyFrom_14 (fun M_1 H locs hw h90 hF => ?_)
  have h89 := (hF 89 (by decide)).trans h89
  have h91 := (hF 91 (by decide)).trans h91
  have h92 := (hF 92 (by decide)).trans h92
  have h26 := (hF 26 (by decide)).trans h26
  have h27 := (hF 27 (by decide)).trans h27
  have h28 := (hF 28 (by decide)).trans h28
  have h29 := (hF 29 (by decide)).trans h29
  have hFF := kF_st hFF hF (by first | decide | simp)
  refine lv_aload_n C.1 C.2.1 dX5_copyFrom_17 rfl (lv_at hl 1 rfl) ?_
  refine k_get C hw 26 (by omega) h26 rfl inlX5 1 (by decide) q_96 rfl dX5_copyFrom_18 ?_
  refine lv_iconst (v := nI 0) C.1 C.2.1 dX5_copyFrom_21 (by decide) ?_
  refine lv_aload_n C.1 C.2.1 dX5_copyFrom_22 rfl (lv_at hl 0 rfl) ?_
  refine k_get C hw 89 (by omega) h89 rfl inlX5 1 (by decide) q_96 rfl dX5_copyFrom_23 ?_
  refine lv_iconst (v := nI 0) C.1 C.2.1 dX5_copyFrom_26 (by decide) ?_
  refine lv_aload_n C.1 C.2.1 dX5_copyFrom_27 rfl (lv_at hl 1 rfl) ?_
  refine k_get C hw 26 (by omega) h26 rfl inlX5 3 (by decide) q_239 rfl dX5_copyFrom_28 ?_
  refine k_copyi C hw hl.1 q_275 q_276 q_277 q_278 28 91 (by omega) (by omega) h28 h91 (by omega) (by omega) (by decide) (by decide) (Nat.le_of_ble_eq_true rfl) (by decide) dX5_copyFrom_31 (fun M_2 H locs hw h91 hF => ?_)
  have h89 := (hF 89 (by decide)).trans h89
  have h90 := (hF 90 (by decide)).trans h90
  have h92 := (hF 92 (by decide)).trans h92
  have h26 := (hF 26 (by decide)).trans h26
  have h27 := (hF 27 (by decide)).trans h27
  have h28 := (hF 28 (by decide)).trans h28
  have h29 := (hF 29 (by decide)).trans h29
  have hFF := kF_st hFF hF (by first | decide | simp)
  refine lv_aload_n C.1 C.2.1 dX5_copyFrom_34 rfl (lv_at hl 1 rfl) ?_
  refine k_get C hw 26 (by omega) h26 rfl inlX5 2 (by decide) q_97 rfl dX5_copyFrom_35 ?_
  refine lv_iconst (v := nI 0) C.1 C.2.1 dX5_copyFrom_38 (by decide) ?_
  refine lv_aload_n C.1 C.2.1 dX5_copyFrom_39 rfl (lv_at hl 0 rfl) ?_
  refine k_get C hw 89 (by omega) h89 rfl inlX5 2 (by decide) q_97 rfl dX5_copyFrom_40 ?_
  refine lv_iconst (v := nI 0) C.1 C.2.1 dX5_copyFrom_43 (by decide) ?_
  refine lv_aload_n C.1 C.2.1 dX5_copyFrom_44 rfl (lv_at hl 1 rfl) ?_
  refine k_get C hw 26 (by omega) h26 rfl inlX5 3 (by decide) q_239 rfl dX5_copyFrom_45 ?_
  refine k_copyi C hw hl.1 q_275 q_276 q_277 q_278 29 92 (by omega) (by omega) h29 h92 (by omega) (by omega) (by decide) (by decide) (Nat.le_of_ble_eq_true rfl) (by decide) dX5_copyFrom_48 (fun M_3 H locs hw h92 hF => ?_)
  have h89 := (hF 89 (by decide)).trans h89
  have h90 := (hF 90 (by decide)).trans h90
  have h91 := (hF 91 (by decide)).trans h91
  have h26 := (hF 26 (by decide)).trans h26
  have h27 := (hF 27 (by decide)).trans h27
  have h28 := (hF 28 (by decide)).trans h28
  have h29 := (hF 29 (by decide)).trans h29
  have hFF := kF_st hFF hF (by first | decide | simp)
  refine lv_aload_n C.1 C.2.1 dX5_copyFrom_51 rfl (lv_at hl 0 rfl) ?_
  refine lv_aload_n C.1 C.2.1 dX5_copyFrom_52 rfl (lv_at hl 1 rfl) ?_
  refine k_get C hw 26 (by omega) h26 rfl inlX5 3 (by decide) q_239 rfl dX5_copyFrom_53 ?_
  refine k_put (tf := .int) C hw 89 (by omega) h89 rfl inlX5 tyX5 tyX5_ok nmX5 3 (by decide) q_239 rfl (by decide +kernel) rfl rfl (Nat.le_of_ble_eq_true rfl) dX5_copyFrom_56 (fun M_4 H locs hw h89 hF => ?_)
  have h89 : M_4 89 = .inr (5, [.ref (b + 90), .ref (b + 91), .ref (b + 92), .int (nI rs), .int (nI ca1)]) := h89
  have h90 := (hF 90 (by decide)).trans h90
  have h91 := (hF 91 (by decide)).trans h91
  have h92 := (hF 92 (by decide)).trans h92
  have h26 := (hF 26 (by decide)).trans h26
  have h27 := (hF 27 (by decide)).trans h27
  have h28 := (hF 28 (by decide)).trans h28
  have h29 := (hF 29 (by decide)).trans h29
  have hFF := kF_st hFF hF (by first | decide | simp)
  refine lv_aload_n C.1 C.2.1 dX5_copyFrom_59 rfl (lv_at hl 0 rfl) ?_
  refine lv_aload_n C.1 C.2.1 dX5_copyFrom_60 rfl (lv_at hl 1 rfl) ?_
  refine k_get C hw 26 (by omega) h26 rfl inlX5 4 (by decide) q_240 rfl dX5_copyFrom_61 ?_
  refine k_put (tf := .int) C hw 89 (by omega) h89 rfl inlX5 tyX5 tyX5_ok nmX5 4 (by decide) q_240 rfl (by decide +kernel) rfl rfl (Nat.le_of_ble_eq_true rfl) dX5_copyFrom_64 (fun M_5 H locs hw h89 hF => ?_)
  have h89 : M_5 89 = .inr (5, [.ref (b + 90), .ref (b + 91), .ref (b + 92), .int (nI rs), .int (nI ca)]) := h89
  have h90 := (hF 90 (by decide)).trans h90
  have h91 := (hF 91 (by decide)).trans h91
  have h92 := (hF 92 (by decide)).trans h92
  have h26 := (hF 26 (by decide)).trans h26
  have h27 := (hF 27 (by decide)).trans h27
  have h28 := (hF 28 (by decide)).trans h28
  have h29 := (hF 29 (by decide)).trans h29
  have hFF := kF_st hFF hF (by first | decide | simp)
  exact hret _ _ (Nat.le_of_ble_eq_true rfl) (Nat.le_of_ble_eq_true rfl) hw (⟨rfl, hFF, h89, h90, h91, h92⟩) dX5_copyFrom_67

set_option maxHeartbeats 4000000 in
set_option maxRecDepth 100000 in
theorem c_X7_copyFrom_85_22 {l : Launch} {D : va_G} {cI cJ cZ cH cR : ClassId} {b : Nat} {n : Nat} {M : Nat → va_E}  {ts1 : Nat} {tr1 : Int32} {tk1 : Nat → Int32} {tt1 : Nat → Int32} {ts : Nat} {tr : Int32} {tk : Nat → Int32} {tt : Nat → Int32}  (hn : 96 ≤ n) (h93 : M 93 = .inr (7, [.ref (b + 94), .ref (b + 95), .int (nI ts1), .int tr1])) (h94 : M 94 = .inl (cI, 40, .inl tk1)) (h95 : M 95 = .inl (cI, 40, .inl tt1)) (h30 : M 30 = .inr (7, [.ref (b + 31), .ref (b + 32), .int (nI ts), .int tr])) (h31 : M 31 = .inl (cI, 40, .inl tk)) (h32 : M 32 = .inl (cI, 40, .inl tt))  (ht : ts ≤ 40) : Met l yX7_copyFrom (kw yX7_copyFrom cX7_copyFrom 2 none) ({ frames := 1, cells := 0, slots := 0, locals := 40 }) (va_Pc [.ref (b + 93), .ref (b + 30)] (kPre D (kT cI cJ cZ cH cR) b M n)) (va_Qv (fun (u : (Nat → va_E) × Nat) => u.2 = n ∧ kF [93, 94, 95] M u.1 ∧ u.1 93 = .inr (7, [.ref (b + 94), .ref (b + 95), .int (nI ts), .int (tr)]) ∧ u.1 94 = .inl (cI, 40, .inl (va_cpy tk tk1 0 0 ts)) ∧ u.1 95 = .inl (cI, 40, .inl (va_cpy tt tt1 0 0 ts))) (kB D (kT cI cJ cZ cH cR) b) (kA b)) 0 0 (kA b) := by
  refine k_metV (by decide +kernel) (Nat.le_of_ble_eq_true rfl) ?_
  intro p e s m below meth c ls Q C hw hret hnm hl
  have hl : lv_has ls 2 [(0, .ref (b + 93)), (1, .ref (b + 30))] := hl
  have hFF : kF [93, 94, 95] M M := kF_rf
  refine lv_aload_n C.1 C.2.1 dX7_copyFrom_0 rfl (lv_at hl 1 rfl) ?_
  refine k_get C hw 30 (by omega) h30 rfl inlX7 0 (by decide) q_102 rfl dX7_copyFrom_1 ?_
  refine lv_iconst (v := nI 0) C.1 C.2.1 dX7_copyFrom_4 (by decide) ?_
  refine lv_aload_n C.1 C.2.1 dX7_copyFrom_5 rfl (lv_at hl 0 rfl) ?_
  refine k_get C hw 93 (by omega) h93 rfl inlX7 0 (by decide) q_102 rfl dX7_copyFrom_6 ?_
  refine lv_iconst (v := nI 0) C.1 C.2.1 dX7_copyFrom_9 (by decide) ?_
  refine lv_aload_n C.1 C.2.1 dX7_copyFrom_10 rfl (lv_at hl 1 rfl) ?_
  refine k_get C hw 30 (by omega) h30 rfl inlX7 2 (by decide) q_498 rfl dX7_copyFrom_11 ?_
  refine k_copyi C hw hl.1 q_499 q_276 q_277 q_278 31 94 (by omega) (by omega) h31 h94 (by omega) (by omega) (by decide) (by decide) (Nat.le_of_ble_eq_true rfl) (by decide) dX7_copyFrom_14 (fun M_1 H locs hw h94 hF => ?_)
  have h93 := (hF 93 (by decide)).trans h93
  have h95 := (hF 95 (by decide)).trans h95
  have h30 := (hF 30 (by decide)).trans h30
  have h31 := (hF 31 (by decide)).trans h31
  have h32 := (hF 32 (by decide)).trans h32
  have hFF := kF_st hFF hF (by first | decide | simp)
  refine lv_aload_n C.1 C.2.1 dX7_copyFrom_17 rfl (lv_at hl 1 rfl) ?_
  refine k_get C hw 30 (by omega) h30 rfl inlX7 1 (by decide) q_103 rfl dX7_copyFrom_18 ?_
  refine lv_iconst (v := nI 0) C.1 C.2.1 dX7_copyFrom_21 (by decide) ?_
  refine lv_aload_n C.1 C.2.1 dX7_copyFrom_22 rfl (lv_at hl 0 rfl) ?_
  refine k_get C hw 93 (by omega) h93 rfl inlX7 1 (by decide) q_103 rfl dX7_copyFrom_23 ?_
  refine lv_iconst (v := nI 0) C.1 C.2.1 dX7_copyFrom_26 (by decide) ?_
  refine lv_aload_n C.1 C.2.1 dX7_copyFrom_27 rfl (lv_at hl 1 rfl) ?_
  refine k_get C hw 30 (by omega) h30 rfl inlX7 2 (by decide) q_498 rfl dX7_copyFrom_28 ?_
  refine k_copyi C hw hl.1 q_499 q_276 q_277 q_278 32 95 (by omega) (by omega) h32 h95 (by omega) (by omega) (by decide) (by decide) (Nat.le_of_ble_eq_true rfl) (by decide) dX7_copyFrom_31 (fun M_2 H locs hw h95 hF => ?_)
  have h93 := (hF 93 (by decide)).trans h93
  have h94 := (hF 94 (by decide)).trans h94
  have h30 := (hF 30 (by decide)).trans h30
  have h31 := (hF 31 (by decide)).trans h31
  have h32 := (hF 32 (by decide)).trans h32
  have hFF := kF_st hFF hF (by first | decide | simp)
  refine lv_aload_n C.1 C.2.1 dX7_copyFrom_34 rfl (lv_at hl 0 rfl) ?_
  refine lv_aload_n C.1 C.2.1 dX7_copyFrom_35 rfl (lv_at hl 1 rfl) ?_
  refine k_get C hw 30 (by omega) h30 rfl inlX7 2 (by decide) q_498 rfl dX7_copyFrom_36 ?_
  refine k_put (tf := .int) C hw 93 (by omega) h93 rfl inlX7 tyX7 tyX7_ok nmX7 2 (by decide) q_498 rfl (by decide +kernel) rfl rfl (Nat.le_of_ble_eq_true rfl) dX7_copyFrom_39 (fun M_3 H locs hw h93 hF => ?_)
  have h93 : M_3 93 = .inr (7, [.ref (b + 94), .ref (b + 95), .int (nI ts), .int tr1]) := h93
  have h94 := (hF 94 (by decide)).trans h94
  have h95 := (hF 95 (by decide)).trans h95
  have h30 := (hF 30 (by decide)).trans h30
  have h31 := (hF 31 (by decide)).trans h31
  have h32 := (hF 32 (by decide)).trans h32
  have hFF := kF_st hFF hF (by first | decide | simp)
  refine lv_aload_n C.1 C.2.1 dX7_copyFrom_42 rfl (lv_at hl 0 rfl) ?_
  refine lv_aload_n C.1 C.2.1 dX7_copyFrom_43 rfl (lv_at hl 1 rfl) ?_
  refine k_get C hw 30 (by omega) h30 rfl inlX7 3 (by decide) q_616 rfl dX7_copyFrom_44 ?_
  refine k_put (tf := .int) C hw 93 (by omega) h93 rfl inlX7 tyX7 tyX7_ok nmX7 3 (by decide) q_616 rfl (by decide +kernel) rfl rfl (Nat.le_of_ble_eq_true rfl) dX7_copyFrom_47 (fun M_4 H locs hw h93 hF => ?_)
  have h93 : M_4 93 = .inr (7, [.ref (b + 94), .ref (b + 95), .int (nI ts), .int tr]) := h93
  have h94 := (hF 94 (by decide)).trans h94
  have h95 := (hF 95 (by decide)).trans h95
  have h30 := (hF 30 (by decide)).trans h30
  have h31 := (hF 31 (by decide)).trans h31
  have h32 := (hF 32 (by decide)).trans h32
  have hFF := kF_st hFF hF (by first | decide | simp)
  exact hret _ _ (Nat.le_of_ble_eq_true rfl) (Nat.le_of_ble_eq_true rfl) hw (⟨rfl, hFF, h93, h94, h95⟩) dX7_copyFrom_50

set_option maxHeartbeats 4000000 in
set_option maxRecDepth 100000 in
theorem c_X0_copyFrom_85_22 {l : Launch} {D : va_G} {cI cJ cZ cH cR : ClassId} {b : Nat} {n : Nat} {M : Nat → va_E}  {ct1 : Nat → Int32} {su1 : Nat → Int64} {rs1 : Nat} {ca1 : Nat} {rn1 : Nat → Int32} {rk1 : Nat → Int32} {rv1 : Nat → Int32} {ts1 : Nat} {tr1 : Int32} {tk1 : Nat → Int32} {tt1 : Nat → Int32} {ct : Nat → Int32} {su : Nat → Int64} {rs : Nat} {ca : Nat} {rn : Nat → Int32} {rk : Nat → Int32} {rv : Nat → Int32} {ts : Nat} {tr : Int32} {tk : Nat → Int32} {tt : Nat → Int32}  (hn : 96 ≤ n) (h85 : M 85 = .inr (0, [.ref (b + 86), .ref (b + 89), .ref (b + 93)])) (h86 : M 86 = .inr (6, [.ref (b + 87), .ref (b + 88)])) (h87 : M 87 = .inl (cI, 100, .inl ct1)) (h88 : M 88 = .inl (cJ, 100, .inr (.inl su1))) (h89 : M 89 = .inr (5, [.ref (b + 90), .ref (b + 91), .ref (b + 92), .int (nI rs1), .int (nI ca1)])) (h90 : M 90 = .inl (cI, 400, .inl rn1)) (h91 : M 91 = .inl (cI, 400, .inl rk1)) (h92 : M 92 = .inl (cI, 400, .inl rv1)) (h93 : M 93 = .inr (7, [.ref (b + 94), .ref (b + 95), .int (nI ts1), .int tr1])) (h94 : M 94 = .inl (cI, 40, .inl tk1)) (h95 : M 95 = .inl (cI, 40, .inl tt1)) (h22 : M 22 = .inr (0, [.ref (b + 23), .ref (b + 26), .ref (b + 30)])) (h23 : M 23 = .inr (6, [.ref (b + 24), .ref (b + 25)])) (h24 : M 24 = .inl (cI, 100, .inl ct)) (h25 : M 25 = .inl (cJ, 100, .inr (.inl su))) (h26 : M 26 = .inr (5, [.ref (b + 27), .ref (b + 28), .ref (b + 29), .int (nI rs), .int (nI ca)])) (h27 : M 27 = .inl (cI, 400, .inl rn)) (h28 : M 28 = .inl (cI, 400, .inl rk)) (h29 : M 29 = .inl (cI, 400, .inl rv)) (h30 : M 30 = .inr (7, [.ref (b + 31), .ref (b + 32), .int (nI ts), .int tr])) (h31 : M 31 = .inl (cI, 40, .inl tk)) (h32 : M 32 = .inl (cI, 40, .inl tt))  (hs : rs ≤ 400) (ht : ts ≤ 40) : Met l yX0_copyFrom (kw yX0_copyFrom cX0_copyFrom 2 none) ({ frames := 2, cells := 0, slots := 0, locals := 61 }) (va_Pc [.ref (b + 85), .ref (b + 22)] (kPre D (kT cI cJ cZ cH cR) b M n)) (va_Qv (fun (u : (Nat → va_E) × Nat) => u.2 = n ∧ kF [87, 88, 89, 90, 91, 92, 93, 94, 95] M u.1 ∧ u.1 87 = .inl (cI, 100, .inl ct) ∧ u.1 88 = .inl (cJ, 100, .inr (.inl su)) ∧ u.1 89 = .inr (5, [.ref (b + 90), .ref (b + 91), .ref (b + 92), .int (nI rs), .int (nI ca)]) ∧ u.1 90 = .inl (cI, 400, .inl (va_cpy rn rn1 0 0 rs)) ∧ u.1 91 = .inl (cI, 400, .inl (va_cpy rk rk1 0 0 rs)) ∧ u.1 92 = .inl (cI, 400, .inl (va_cpy rv rv1 0 0 rs)) ∧ u.1 93 = .inr (7, [.ref (b + 94), .ref (b + 95), .int (nI ts), .int (tr)]) ∧ u.1 94 = .inl (cI, 40, .inl (va_cpy tk tk1 0 0 ts)) ∧ u.1 95 = .inl (cI, 40, .inl (va_cpy tt tt1 0 0 ts))) (kB D (kT cI cJ cZ cH cR) b) (kA b)) 0 0 (kA b) := by
  refine k_metV (by decide +kernel) (Nat.le_of_ble_eq_true rfl) ?_
  intro p e s m below meth c ls Q C hw hret hnm hl
  have hl : lv_has ls 2 [(0, .ref (b + 85)), (1, .ref (b + 22))] := hl
  have hFF : kF [87, 88, 89, 90, 91, 92, 93, 94, 95] M M := kF_rf
  refine lv_aload_n C.1 C.2.1 dX0_copyFrom_0 rfl (lv_at hl 0 rfl) ?_
  refine k_get C hw 85 (by omega) h85 rfl inlX0 0 (by decide) q_75 rfl dX0_copyFrom_1 ?_
  refine lv_aload_n C.1 C.2.1 dX0_copyFrom_4 rfl (lv_at hl 1 rfl) ?_
  refine k_get C hw 22 (by omega) h22 rfl inlX0 0 (by decide) q_75 rfl dX0_copyFrom_5 ?_
  refine k_vv C hw 86 (by omega) h86 rfl (c_X6_copyFrom_85_22 (by omega) h86 h87 h88 h23 h24 h25  ) kv_X0_35 rfl hl.1 ⟨Nat.le_of_ble_eq_true rfl, Nat.le_of_ble_eq_true rfl⟩ (Nat.le_of_ble_eq_true rfl) ⟨Nat.le_of_ble_eq_true rfl, Nat.le_of_ble_eq_true rfl⟩ dX0_copyFrom_8 (fun M_1 n9 H locs hp hw => ?_)
  obtain ⟨en9, hF, h87, h88⟩ := hp
  have en9 : n9 = n := en9
  rw [en9] at hw
  have h85 := (hF 85 (by decide)).trans h85
  have h86 := (hF 86 (by decide)).trans h86
  have h89 := (hF 89 (by decide)).trans h89
  have h90 := (hF 90 (by decide)).trans h90
  have h91 := (hF 91 (by decide)).trans h91
  have h92 := (hF 92 (by decide)).trans h92
  have h93 := (hF 93 (by decide)).trans h93
  have h94 := (hF 94 (by decide)).trans h94
  have h95 := (hF 95 (by decide)).trans h95
  have h22 := (hF 22 (by decide)).trans h22
  have h23 := (hF 23 (by decide)).trans h23
  have h24 := (hF 24 (by decide)).trans h24
  have h25 := (hF 25 (by decide)).trans h25
  have h26 := (hF 26 (by decide)).trans h26
  have h27 := (hF 27 (by decide)).trans h27
  have h28 := (hF 28 (by decide)).trans h28
  have h29 := (hF 29 (by decide)).trans h29
  have h30 := (hF 30 (by decide)).trans h30
  have h31 := (hF 31 (by decide)).trans h31
  have h32 := (hF 32 (by decide)).trans h32
  have hFF := kF_st hFF hF (by first | decide | simp)
  refine lv_aload_n C.1 C.2.1 dX0_copyFrom_11 rfl (lv_at hl 0 rfl) ?_
  refine k_get C hw 85 (by omega) h85 rfl inlX0 1 (by decide) q_79 rfl dX0_copyFrom_12 ?_
  refine lv_aload_n C.1 C.2.1 dX0_copyFrom_15 rfl (lv_at hl 1 rfl) ?_
  refine k_get C hw 22 (by omega) h22 rfl inlX0 1 (by decide) q_79 rfl dX0_copyFrom_16 ?_
  refine k_vv C hw 89 (by omega) h89 rfl (c_X5_copyFrom_85_22 (by omega) h89 h90 h91 h92 h26 h27 h28 h29  (by omega)) kv_X0_39 rfl hl.1 ⟨Nat.le_of_ble_eq_true rfl, Nat.le_of_ble_eq_true rfl⟩ (Nat.le_of_ble_eq_true rfl) ⟨Nat.le_of_ble_eq_true rfl, Nat.le_of_ble_eq_true rfl⟩ dX0_copyFrom_19 (fun M_2 n9 H locs hp hw => ?_)
  obtain ⟨en9, hF, h89, h90, h91, h92⟩ := hp
  have en9 : n9 = n := en9
  rw [en9] at hw
  have h85 := (hF 85 (by decide)).trans h85
  have h86 := (hF 86 (by decide)).trans h86
  have h87 := (hF 87 (by decide)).trans h87
  have h88 := (hF 88 (by decide)).trans h88
  have h93 := (hF 93 (by decide)).trans h93
  have h94 := (hF 94 (by decide)).trans h94
  have h95 := (hF 95 (by decide)).trans h95
  have h22 := (hF 22 (by decide)).trans h22
  have h23 := (hF 23 (by decide)).trans h23
  have h24 := (hF 24 (by decide)).trans h24
  have h25 := (hF 25 (by decide)).trans h25
  have h26 := (hF 26 (by decide)).trans h26
  have h27 := (hF 27 (by decide)).trans h27
  have h28 := (hF 28 (by decide)).trans h28
  have h29 := (hF 29 (by decide)).trans h29
  have h30 := (hF 30 (by decide)).trans h30
  have h31 := (hF 31 (by decide)).trans h31
  have h32 := (hF 32 (by decide)).trans h32
  have hFF := kF_st hFF hF (by first | decide | simp)
  refine lv_aload_n C.1 C.2.1 dX0_copyFrom_22 rfl (lv_at hl 0 rfl) ?_
  refine k_get C hw 85 (by omega) h85 rfl inlX0 2 (by decide) q_83 rfl dX0_copyFrom_23 ?_
  refine lv_aload_n C.1 C.2.1 dX0_copyFrom_26 rfl (lv_at hl 1 rfl) ?_
  refine k_get C hw 22 (by omega) h22 rfl inlX0 2 (by decide) q_83 rfl dX0_copyFrom_27 ?_
  refine k_vv C hw 93 (by omega) h93 rfl (c_X7_copyFrom_85_22 (by omega) h93 h94 h95 h30 h31 h32  (by omega)) kv_X0_42 rfl hl.1 ⟨Nat.le_of_ble_eq_true rfl, Nat.le_of_ble_eq_true rfl⟩ (Nat.le_of_ble_eq_true rfl) ⟨Nat.le_of_ble_eq_true rfl, Nat.le_of_ble_eq_true rfl⟩ dX0_copyFrom_30 (fun M_3 n9 H locs hp hw => ?_)
  obtain ⟨en9, hF, h93, h94, h95⟩ := hp
  have en9 : n9 = n := en9
  rw [en9] at hw
  have h85 := (hF 85 (by decide)).trans h85
  have h86 := (hF 86 (by decide)).trans h86
  have h87 := (hF 87 (by decide)).trans h87
  have h88 := (hF 88 (by decide)).trans h88
  have h89 := (hF 89 (by decide)).trans h89
  have h90 := (hF 90 (by decide)).trans h90
  have h91 := (hF 91 (by decide)).trans h91
  have h92 := (hF 92 (by decide)).trans h92
  have h22 := (hF 22 (by decide)).trans h22
  have h23 := (hF 23 (by decide)).trans h23
  have h24 := (hF 24 (by decide)).trans h24
  have h25 := (hF 25 (by decide)).trans h25
  have h26 := (hF 26 (by decide)).trans h26
  have h27 := (hF 27 (by decide)).trans h27
  have h28 := (hF 28 (by decide)).trans h28
  have h29 := (hF 29 (by decide)).trans h29
  have h30 := (hF 30 (by decide)).trans h30
  have h31 := (hF 31 (by decide)).trans h31
  have h32 := (hF 32 (by decide)).trans h32
  have hFF := kF_st hFF hF (by first | decide | simp)
  exact hret _ _ (Nat.le_of_ble_eq_true rfl) (Nat.le_of_ble_eq_true rfl) hw (⟨rfl, hFF, h87, h88, h89, h90, h91, h92, h93, h94, h95⟩) dX0_copyFrom_33

set_option maxHeartbeats 4000000 in
set_option maxRecDepth 100000 in
theorem c_X6_copyFrom_96_22 {l : Launch} {D : va_G} {cI cJ cZ cH cR : ClassId} {b : Nat} {n : Nat} {M : Nat → va_E}  {ct2 : Nat → Int32} {su2 : Nat → Int64} {ct : Nat → Int32} {su : Nat → Int64}  (hn : 100 ≤ n) (h97 : M 97 = .inr (6, [.ref (b + 98), .ref (b + 99)])) (h98 : M 98 = .inl (cI, 100, .inl ct2)) (h99 : M 99 = .inl (cJ, 100, .inr (.inl su2))) (h23 : M 23 = .inr (6, [.ref (b + 24), .ref (b + 25)])) (h24 : M 24 = .inl (cI, 100, .inl ct)) (h25 : M 25 = .inl (cJ, 100, .inr (.inl su)))   : Met l yX6_copyFrom (kw yX6_copyFrom cX6_copyFrom 2 none) ({ frames := 1, cells := 0, slots := 0, locals := 40 }) (va_Pc [.ref (b + 97), .ref (b + 23)] (kPre D (kT cI cJ cZ cH cR) b M n)) (va_Qv (fun (u : (Nat → va_E) × Nat) => u.2 = n ∧ kF [98, 99] M u.1 ∧ u.1 98 = .inl (cI, 100, .inl ct) ∧ u.1 99 = .inl (cJ, 100, .inr (.inl su))) (kB D (kT cI cJ cZ cH cR) b) (kA b)) 0 0 (kA b) := by
  refine k_metV (by decide +kernel) (Nat.le_of_ble_eq_true rfl) ?_
  intro p e s m below meth c ls Q C hw hret hnm hl
  have hl : lv_has ls 2 [(0, .ref (b + 97)), (1, .ref (b + 23))] := hl
  have hFF : kF [98, 99] M M := kF_rf
  refine lv_aload_n C.1 C.2.1 dX6_copyFrom_0 rfl (lv_at hl 1 rfl) ?_
  refine k_get C hw 23 (by omega) h23 rfl inlX6 0 (by decide) q_88 rfl dX6_copyFrom_1 ?_
  refine lv_iconst (v := nI 0) C.1 C.2.1 dX6_copyFrom_4 (by decide) ?_
  refine lv_aload_n C.1 C.2.1 dX6_copyFrom_5 rfl (lv_at hl 0 rfl) ?_
  refine k_get C hw 97 (by omega) h97 rfl inlX6 0 (by decide) q_88 rfl dX6_copyFrom_6 ?_
  refine lv_iconst (v := nI 0) C.1 C.2.1 dX6_copyFrom_9 (by decide) ?_
  refine lv_bipush (v := nI 100) C.1 C.2.1 dX6_copyFrom_10 (by decide) ?_
  refine k_copyi C hw hl.1 q_607 q_276 q_277 q_278 24 98 (by omega) (by omega) h24 h98 (by omega) (by omega) (by decide) (by decide) (Nat.le_of_ble_eq_true rfl) (by decide) dX6_copyFrom_12 (fun M_1 H locs hw h98 hF => ?_)
  have h97 := (hF 97 (by decide)).trans h97
  have h99 := (hF 99 (by decide)).trans h99
  have h23 := (hF 23 (by decide)).trans h23
  have h24 := (hF 24 (by decide)).trans h24
  have h25 := (hF 25 (by decide)).trans h25
  have hFF := kF_st hFF hF (by first | decide | simp)
  refine lv_aload_n C.1 C.2.1 dX6_copyFrom_15 rfl (lv_at hl 1 rfl) ?_
  refine k_get C hw 23 (by omega) h23 rfl inlX6 1 (by decide) q_90 rfl dX6_copyFrom_16 ?_
  refine lv_iconst (v := nI 0) C.1 C.2.1 dX6_copyFrom_19 (by decide) ?_
  refine lv_aload_n C.1 C.2.1 dX6_copyFrom_20 rfl (lv_at hl 0 rfl) ?_
  refine k_get C hw 97 (by omega) h97 rfl inlX6 1 (by decide) q_90 rfl dX6_copyFrom_21 ?_
  refine lv_iconst (v := nI 0) C.1 C.2.1 dX6_copyFrom_24 (by decide) ?_
  refine lv_bipush (v := nI 100) C.1 C.2.1 dX6_copyFrom_25 (by decide) ?_
  refine k_copyl C hw hl.1 q_607 q_276 q_277 q_278 25 99 (by omega) (by omega) h25 h99 (by omega) (by omega) (by decide) (by decide) (Nat.le_of_ble_eq_true rfl) (by decide) dX6_copyFrom_27 (fun M_2 H locs hw h99 hF => ?_)
  have h97 := (hF 97 (by decide)).trans h97
  have h98 := (hF 98 (by decide)).trans h98
  have h23 := (hF 23 (by decide)).trans h23
  have h24 := (hF 24 (by decide)).trans h24
  have h25 := (hF 25 (by decide)).trans h25
  have hFF := kF_st hFF hF (by first | decide | simp)
  obtain ⟨M_3, hw, h98, hF⟩ := k_extI hw 98 (by omega) h98 (ct) (fun j hj => cpy00 hj)
  have h97 := (hF 97 (by decide)).trans h97
  have h99 := (hF 99 (by decide)).trans h99
  have h23 := (hF 23 (by decide)).trans h23
  have h24 := (hF 24 (by decide)).trans h24
  have h25 := (hF 25 (by decide)).trans h25
  have hFF := kF_st hFF hF (by first | decide | simp)
  obtain ⟨M_4, hw, h99, hF⟩ := k_extJ hw 99 (by omega) h99 (su) (fun j hj => cpy00 hj)
  have h97 := (hF 97 (by decide)).trans h97
  have h98 := (hF 98 (by decide)).trans h98
  have h23 := (hF 23 (by decide)).trans h23
  have h24 := (hF 24 (by decide)).trans h24
  have h25 := (hF 25 (by decide)).trans h25
  have hFF := kF_st hFF hF (by first | decide | simp)
  exact hret _ _ (Nat.le_of_ble_eq_true rfl) (Nat.le_of_ble_eq_true rfl) hw (⟨rfl, hFF, h98, h99⟩) dX6_copyFrom_30

set_option maxHeartbeats 4000000 in
set_option maxRecDepth 100000 in
theorem c_X5_copyFrom_96_22 {l : Launch} {D : va_G} {cI cJ cZ cH cR : ClassId} {b : Nat} {n : Nat} {M : Nat → va_E}  {rs2 : Nat} {ca2 : Nat} {rn2 : Nat → Int32} {rk2 : Nat → Int32} {rv2 : Nat → Int32} {rs : Nat} {ca : Nat} {rn : Nat → Int32} {rk : Nat → Int32} {rv : Nat → Int32}  (hn : 104 ≤ n) (h100 : M 100 = .inr (5, [.ref (b + 101), .ref (b + 102), .ref (b + 103), .int (nI rs2), .int (nI ca2)])) (h101 : M 101 = .inl (cI, 400, .inl rn2)) (h102 : M 102 = .inl (cI, 400, .inl rk2)) (h103 : M 103 = .inl (cI, 400, .inl rv2)) (h26 : M 26 = .inr (5, [.ref (b + 27), .ref (b + 28), .ref (b + 29), .int (nI rs), .int (nI ca)])) (h27 : M 27 = .inl (cI, 400, .inl rn)) (h28 : M 28 = .inl (cI, 400, .inl rk)) (h29 : M 29 = .inl (cI, 400, .inl rv))  (hs : rs ≤ 400) : Met l yX5_copyFrom (kw yX5_copyFrom cX5_copyFrom 2 none) ({ frames := 1, cells := 0, slots := 0, locals := 40 }) (va_Pc [.ref (b + 100), .ref (b + 26)] (kPre D (kT cI cJ cZ cH cR) b M n)) (va_Qv (fun (u : (Nat → va_E) × Nat) => u.2 = n ∧ kF [100, 101, 102, 103] M u.1 ∧ u.1 100 = .inr (5, [.ref (b + 101), .ref (b + 102), .ref (b + 103), .int (nI rs), .int (nI ca)]) ∧ u.1 101 = .inl (cI, 400, .inl (va_cpy rn rn2 0 0 rs)) ∧ u.1 102 = .inl (cI, 400, .inl (va_cpy rk rk2 0 0 rs)) ∧ u.1 103 = .inl (cI, 400, .inl (va_cpy rv rv2 0 0 rs))) (kB D (kT cI cJ cZ cH cR) b) (kA b)) 0 0 (kA b) := by
  refine k_metV (by decide +kernel) (Nat.le_of_ble_eq_true rfl) ?_
  intro p e s m below meth c ls Q C hw hret hnm hl
  have hl : lv_has ls 2 [(0, .ref (b + 100)), (1, .ref (b + 26))] := hl
  have hFF : kF [100, 101, 102, 103] M M := kF_rf
  refine lv_aload_n C.1 C.2.1 dX5_copyFrom_0 rfl (lv_at hl 1 rfl) ?_
  refine k_get C hw 26 (by omega) h26 rfl inlX5 0 (by decide) q_95 rfl dX5_copyFrom_1 ?_
  refine lv_iconst (v := nI 0) C.1 C.2.1 dX5_copyFrom_4 (by decide) ?_
  refine lv_aload_n C.1 C.2.1 dX5_copyFrom_5 rfl (lv_at hl 0 rfl) ?_
  refine k_get C hw 100 (by omega) h100 rfl inlX5 0 (by decide) q_95 rfl dX5_copyFrom_6 ?_
  refine lv_iconst (v := nI 0) C.1 C.2.1 dX5_copyFrom_9 (by decide) ?_
  refine lv_aload_n C.1 C.2.1 dX5_copyFrom_10 rfl (lv_at hl 1 rfl) ?_
  refine k_get C hw 26 (by omega) h26 rfl inlX5 3 (by decide) q_239 rfl dX5_copyFrom_11 ?_
  refine k_copyi C hw hl.1 q_275 q_276 q_277 q_278 27 101 (by omega) (by omega) h27 h101 (by omega) (by omega) (by decide) (by decide) (Nat.le_of_ble_eq_true rfl) (by decide) dX5_copyFrom_14 (fun M_1 H locs hw h101 hF => ?_)
  have h100 := (hF 100 (by decide)).trans h100
  have h102 := (hF 102 (by decide)).trans h102
  have h103 := (hF 103 (by decide)).trans h103
  have h26 := (hF 26 (by decide)).trans h26
  have h27 := (hF 27 (by decide)).trans h27
  have h28 := (hF 28 (by decide)).trans h28
  have h29 := (hF 29 (by decide)).trans h29
  have hFF := kF_st hFF hF (by first | decide | simp)
  refine lv_aload_n C.1 C.2.1 dX5_copyFrom_17 rfl (lv_at hl 1 rfl) ?_
  refine k_get C hw 26 (by omega) h26 rfl inlX5 1 (by decide) q_96 rfl dX5_copyFrom_18 ?_
  refine lv_iconst (v := nI 0) C.1 C.2.1 dX5_copyFrom_21 (by decide) ?_
  refine lv_aload_n C.1 C.2.1 dX5_copyFrom_22 rfl (lv_at hl 0 rfl) ?_
  refine k_get C hw 100 (by omega) h100 rfl inlX5 1 (by decide) q_96 rfl dX5_copyFrom_23 ?_
  refine lv_iconst (v := nI 0) C.1 C.2.1 dX5_copyFrom_26 (by decide) ?_
  refine lv_aload_n C.1 C.2.1 dX5_copyFrom_27 rfl (lv_at hl 1 rfl) ?_
  refine k_get C hw 26 (by omega) h26 rfl inlX5 3 (by decide) q_239 rfl dX5_copyFrom_28 ?_
  refine k_copyi C hw hl.1 q_275 q_276 q_277 q_278 28 102 (by omega) (by omega) h28 h102 (by omega) (by omega) (by decide) (by decide) (Nat.le_of_ble_eq_true rfl) (by decide) dX5_copyFrom_31 (fun M_2 H locs hw h102 hF => ?_)
  have h100 := (hF 100 (by decide)).trans h100
  have h101 := (hF 101 (by decide)).trans h101
  have h103 := (hF 103 (by decide)).trans h103
  have h26 := (hF 26 (by decide)).trans h26
  have h27 := (hF 27 (by decide)).trans h27
  have h28 := (hF 28 (by decide)).trans h28
  have h29 := (hF 29 (by decide)).trans h29
  have hFF := kF_st hFF hF (by first | decide | simp)
  refine lv_aload_n C.1 C.2.1 dX5_copyFrom_34 rfl (lv_at hl 1 rfl) ?_
  refine k_get C hw 26 (by omega) h26 rfl inlX5 2 (by decide) q_97 rfl dX5_copyFrom_35 ?_
  refine lv_iconst (v := nI 0) C.1 C.2.1 dX5_copyFrom_38 (by decide) ?_
  refine lv_aload_n C.1 C.2.1 dX5_copyFrom_39 rfl (lv_at hl 0 rfl) ?_
  refine k_get C hw 100 (by omega) h100 rfl inlX5 2 (by decide) q_97 rfl dX5_copyFrom_40 ?_
  refine lv_iconst (v := nI 0) C.1 C.2.1 dX5_copyFrom_43 (by decide) ?_
  refine lv_aload_n C.1 C.2.1 dX5_copyFrom_44 rfl (lv_at hl 1 rfl) ?_
  refine k_get C hw 26 (by omega) h26 rfl inlX5 3 (by decide) q_239 rfl dX5_copyFrom_45 ?_
  refine k_copyi C hw hl.1 q_275 q_276 q_277 q_278 29 103 (by omega) (by omega) h29 h103 (by omega) (by omega) (by decide) (by decide) (Nat.le_of_ble_eq_true rfl) (by decide) dX5_copyFrom_48 (fun M_3 H locs hw h103 hF => ?_)
  have h100 := (hF 100 (by decide)).trans h100
  have h101 := (hF 101 (by decide)).trans h101
  have h102 := (hF 102 (by decide)).trans h102
  have h26 := (hF 26 (by decide)).trans h26
  have h27 := (hF 27 (by decide)).trans h27
  have h28 := (hF 28 (by decide)).trans h28
  have h29 := (hF 29 (by decide)).trans h29
  have hFF := kF_st hFF hF (by first | decide | simp)
  refine lv_aload_n C.1 C.2.1 dX5_copyFrom_51 rfl (lv_at hl 0 rfl) ?_
  refine lv_aload_n C.1 C.2.1 dX5_copyFrom_52 rfl (lv_at hl 1 rfl) ?_
  refine k_get C hw 26 (by omega) h26 rfl inlX5 3 (by decide) q_239 rfl dX5_copyFrom_53 ?_
  refine k_put (tf := .int) C hw 100 (by omega) h100 rfl inlX5 tyX5 tyX5_ok nmX5 3 (by decide) q_239 rfl (by decide +kernel) rfl rfl (Nat.le_of_ble_eq_true rfl) dX5_copyFrom_56 (fun M_4 H locs hw h100 hF => ?_)
  have h100 : M_4 100 = .inr (5, [.ref (b + 101), .ref (b + 102), .ref (b + 103), .int (nI rs), .int (nI ca2)]) := h100
  have h101 := (hF 101 (by decide)).trans h101
  have h102 := (hF 102 (by decide)).trans h102
  have h103 := (hF 103 (by decide)).trans h103
  have h26 := (hF 26 (by decide)).trans h26
  have h27 := (hF 27 (by decide)).trans h27
  have h28 := (hF 28 (by decide)).trans h28
  have h29 := (hF 29 (by decide)).trans h29
  have hFF := kF_st hFF hF (by first | decide | simp)
  refine lv_aload_n C.1 C.2.1 dX5_copyFrom_59 rfl (lv_at hl 0 rfl) ?_
  refine lv_aload_n C.1 C.2.1 dX5_copyFrom_60 rfl (lv_at hl 1 rfl) ?_
  refine k_get C hw 26 (by omega) h26 rfl inlX5 4 (by decide) q_240 rfl dX5_copyFrom_61 ?_
  refine k_put (tf := .int) C hw 100 (by omega) h100 rfl inlX5 tyX5 tyX5_ok nmX5 4 (by decide) q_240 rfl (by decide +kernel) rfl rfl (Nat.le_of_ble_eq_true rfl) dX5_copyFrom_64 (fun M_5 H locs hw h100 hF => ?_)
  have h100 : M_5 100 = .inr (5, [.ref (b + 101), .ref (b + 102), .ref (b + 103), .int (nI rs), .int (nI ca)]) := h100
  have h101 := (hF 101 (by decide)).trans h101
  have h102 := (hF 102 (by decide)).trans h102
  have h103 := (hF 103 (by decide)).trans h103
  have h26 := (hF 26 (by decide)).trans h26
  have h27 := (hF 27 (by decide)).trans h27
  have h28 := (hF 28 (by decide)).trans h28
  have h29 := (hF 29 (by decide)).trans h29
  have hFF := kF_st hFF hF (by first | decide | simp)
  exact hret _ _ (Nat.le_of_ble_eq_true rfl) (Nat.le_of_ble_eq_true rfl) hw (⟨rfl, hFF, h100, h101, h102, h103⟩) dX5_copyFrom_67

set_option maxHeartbeats 4000000 in
set_option maxRecDepth 100000 in
theorem c_X7_copyFrom_96_22 {l : Launch} {D : va_G} {cI cJ cZ cH cR : ClassId} {b : Nat} {n : Nat} {M : Nat → va_E}  {ts2 : Nat} {tr2 : Int32} {tk2 : Nat → Int32} {tt2 : Nat → Int32} {ts : Nat} {tr : Int32} {tk : Nat → Int32} {tt : Nat → Int32}  (hn : 107 ≤ n) (h104 : M 104 = .inr (7, [.ref (b + 105), .ref (b + 106), .int (nI ts2), .int tr2])) (h105 : M 105 = .inl (cI, 40, .inl tk2)) (h106 : M 106 = .inl (cI, 40, .inl tt2)) (h30 : M 30 = .inr (7, [.ref (b + 31), .ref (b + 32), .int (nI ts), .int tr])) (h31 : M 31 = .inl (cI, 40, .inl tk)) (h32 : M 32 = .inl (cI, 40, .inl tt))  (ht : ts ≤ 40) : Met l yX7_copyFrom (kw yX7_copyFrom cX7_copyFrom 2 none) ({ frames := 1, cells := 0, slots := 0, locals := 40 }) (va_Pc [.ref (b + 104), .ref (b + 30)] (kPre D (kT cI cJ cZ cH cR) b M n)) (va_Qv (fun (u : (Nat → va_E) × Nat) => u.2 = n ∧ kF [104, 105, 106] M u.1 ∧ u.1 104 = .inr (7, [.ref (b + 105), .ref (b + 106), .int (nI ts), .int (tr)]) ∧ u.1 105 = .inl (cI, 40, .inl (va_cpy tk tk2 0 0 ts)) ∧ u.1 106 = .inl (cI, 40, .inl (va_cpy tt tt2 0 0 ts))) (kB D (kT cI cJ cZ cH cR) b) (kA b)) 0 0 (kA b) := by
  refine k_metV (by decide +kernel) (Nat.le_of_ble_eq_true rfl) ?_
  intro p e s m below meth c ls Q C hw hret hnm hl
  have hl : lv_has ls 2 [(0, .ref (b + 104)), (1, .ref (b + 30))] := hl
  have hFF : kF [104, 105, 106] M M := kF_rf
  refine lv_aload_n C.1 C.2.1 dX7_copyFrom_0 rfl (lv_at hl 1 rfl) ?_
  refine k_get C hw 30 (by omega) h30 rfl inlX7 0 (by decide) q_102 rfl dX7_copyFrom_1 ?_
  refine lv_iconst (v := nI 0) C.1 C.2.1 dX7_copyFrom_4 (by decide) ?_
  refine lv_aload_n C.1 C.2.1 dX7_copyFrom_5 rfl (lv_at hl 0 rfl) ?_
  refine k_get C hw 104 (by omega) h104 rfl inlX7 0 (by decide) q_102 rfl dX7_copyFrom_6 ?_
  refine lv_iconst (v := nI 0) C.1 C.2.1 dX7_copyFrom_9 (by decide) ?_
  refine lv_aload_n C.1 C.2.1 dX7_copyFrom_10 rfl (lv_at hl 1 rfl) ?_
  refine k_get C hw 30 (by omega) h30 rfl inlX7 2 (by decide) q_498 rfl dX7_copyFrom_11 ?_
  refine k_copyi C hw hl.1 q_499 q_276 q_277 q_278 31 105 (by omega) (by omega) h31 h105 (by omega) (by omega) (by decide) (by decide) (Nat.le_of_ble_eq_true rfl) (by decide) dX7_copyFrom_14 (fun M_1 H locs hw h105 hF => ?_)
  have h104 := (hF 104 (by decide)).trans h104
  have h106 := (hF 106 (by decide)).trans h106
  have h30 := (hF 30 (by decide)).trans h30
  have h31 := (hF 31 (by decide)).trans h31
  have h32 := (hF 32 (by decide)).trans h32
  have hFF := kF_st hFF hF (by first | decide | simp)
  refine lv_aload_n C.1 C.2.1 dX7_copyFrom_17 rfl (lv_at hl 1 rfl) ?_
  refine k_get C hw 30 (by omega) h30 rfl inlX7 1 (by decide) q_103 rfl dX7_copyFrom_18 ?_
  refine lv_iconst (v := nI 0) C.1 C.2.1 dX7_copyFrom_21 (by decide) ?_
  refine lv_aload_n C.1 C.2.1 dX7_copyFrom_22 rfl (lv_at hl 0 rfl) ?_
  refine k_get C hw 104 (by omega) h104 rfl inlX7 1 (by decide) q_103 rfl dX7_copyFrom_23 ?_
  refine lv_iconst (v := nI 0) C.1 C.2.1 dX7_copyFrom_26 (by decide) ?_
  refine lv_aload_n C.1 C.2.1 dX7_copyFrom_27 rfl (lv_at hl 1 rfl) ?_
  refine k_get C hw 30 (by omega) h30 rfl inlX7 2 (by decide) q_498 rfl dX7_copyFrom_28 ?_
  refine k_copyi C hw hl.1 q_499 q_276 q_277 q_278 32 106 (by omega) (by omega) h32 h106 (by omega) (by omega) (by decide) (by decide) (Nat.le_of_ble_eq_true rfl) (by decide) dX7_copyFrom_31 (fun M_2 H locs hw h106 hF => ?_)
  have h104 := (hF 104 (by decide)).trans h104
  have h105 := (hF 105 (by decide)).trans h105
  have h30 := (hF 30 (by decide)).trans h30
  have h31 := (hF 31 (by decide)).trans h31
  have h32 := (hF 32 (by decide)).trans h32
  have hFF := kF_st hFF hF (by first | decide | simp)
  refine lv_aload_n C.1 C.2.1 dX7_copyFrom_34 rfl (lv_at hl 0 rfl) ?_
  refine lv_aload_n C.1 C.2.1 dX7_copyFrom_35 rfl (lv_at hl 1 rfl) ?_
  refine k_get C hw 30 (by omega) h30 rfl inlX7 2 (by decide) q_498 rfl dX7_copyFrom_36 ?_
  refine k_put (tf := .int) C hw 104 (by omega) h104 rfl inlX7 tyX7 tyX7_ok nmX7 2 (by decide) q_498 rfl (by decide +kernel) rfl rfl (Nat.le_of_ble_eq_true rfl) dX7_copyFrom_39 (fun M_3 H locs hw h104 hF => ?_)
  have h104 : M_3 104 = .inr (7, [.ref (b + 105), .ref (b + 106), .int (nI ts), .int tr2]) := h104
  have h105 := (hF 105 (by decide)).trans h105
  have h106 := (hF 106 (by decide)).trans h106
  have h30 := (hF 30 (by decide)).trans h30
  have h31 := (hF 31 (by decide)).trans h31
  have h32 := (hF 32 (by decide)).trans h32
  have hFF := kF_st hFF hF (by first | decide | simp)
  refine lv_aload_n C.1 C.2.1 dX7_copyFrom_42 rfl (lv_at hl 0 rfl) ?_
  refine lv_aload_n C.1 C.2.1 dX7_copyFrom_43 rfl (lv_at hl 1 rfl) ?_
  refine k_get C hw 30 (by omega) h30 rfl inlX7 3 (by decide) q_616 rfl dX7_copyFrom_44 ?_
  refine k_put (tf := .int) C hw 104 (by omega) h104 rfl inlX7 tyX7 tyX7_ok nmX7 3 (by decide) q_616 rfl (by decide +kernel) rfl rfl (Nat.le_of_ble_eq_true rfl) dX7_copyFrom_47 (fun M_4 H locs hw h104 hF => ?_)
  have h104 : M_4 104 = .inr (7, [.ref (b + 105), .ref (b + 106), .int (nI ts), .int tr]) := h104
  have h105 := (hF 105 (by decide)).trans h105
  have h106 := (hF 106 (by decide)).trans h106
  have h30 := (hF 30 (by decide)).trans h30
  have h31 := (hF 31 (by decide)).trans h31
  have h32 := (hF 32 (by decide)).trans h32
  have hFF := kF_st hFF hF (by first | decide | simp)
  exact hret _ _ (Nat.le_of_ble_eq_true rfl) (Nat.le_of_ble_eq_true rfl) hw (⟨rfl, hFF, h104, h105, h106⟩) dX7_copyFrom_50

set_option maxHeartbeats 4000000 in
set_option maxRecDepth 100000 in
theorem c_X0_copyFrom_96_22 {l : Launch} {D : va_G} {cI cJ cZ cH cR : ClassId} {b : Nat} {n : Nat} {M : Nat → va_E}  {ct2 : Nat → Int32} {su2 : Nat → Int64} {rs2 : Nat} {ca2 : Nat} {rn2 : Nat → Int32} {rk2 : Nat → Int32} {rv2 : Nat → Int32} {ts2 : Nat} {tr2 : Int32} {tk2 : Nat → Int32} {tt2 : Nat → Int32} {ct : Nat → Int32} {su : Nat → Int64} {rs : Nat} {ca : Nat} {rn : Nat → Int32} {rk : Nat → Int32} {rv : Nat → Int32} {ts : Nat} {tr : Int32} {tk : Nat → Int32} {tt : Nat → Int32}  (hn : 107 ≤ n) (h96 : M 96 = .inr (0, [.ref (b + 97), .ref (b + 100), .ref (b + 104)])) (h97 : M 97 = .inr (6, [.ref (b + 98), .ref (b + 99)])) (h98 : M 98 = .inl (cI, 100, .inl ct2)) (h99 : M 99 = .inl (cJ, 100, .inr (.inl su2))) (h100 : M 100 = .inr (5, [.ref (b + 101), .ref (b + 102), .ref (b + 103), .int (nI rs2), .int (nI ca2)])) (h101 : M 101 = .inl (cI, 400, .inl rn2)) (h102 : M 102 = .inl (cI, 400, .inl rk2)) (h103 : M 103 = .inl (cI, 400, .inl rv2)) (h104 : M 104 = .inr (7, [.ref (b + 105), .ref (b + 106), .int (nI ts2), .int tr2])) (h105 : M 105 = .inl (cI, 40, .inl tk2)) (h106 : M 106 = .inl (cI, 40, .inl tt2)) (h22 : M 22 = .inr (0, [.ref (b + 23), .ref (b + 26), .ref (b + 30)])) (h23 : M 23 = .inr (6, [.ref (b + 24), .ref (b + 25)])) (h24 : M 24 = .inl (cI, 100, .inl ct)) (h25 : M 25 = .inl (cJ, 100, .inr (.inl su))) (h26 : M 26 = .inr (5, [.ref (b + 27), .ref (b + 28), .ref (b + 29), .int (nI rs), .int (nI ca)])) (h27 : M 27 = .inl (cI, 400, .inl rn)) (h28 : M 28 = .inl (cI, 400, .inl rk)) (h29 : M 29 = .inl (cI, 400, .inl rv)) (h30 : M 30 = .inr (7, [.ref (b + 31), .ref (b + 32), .int (nI ts), .int tr])) (h31 : M 31 = .inl (cI, 40, .inl tk)) (h32 : M 32 = .inl (cI, 40, .inl tt))  (hs : rs ≤ 400) (ht : ts ≤ 40) : Met l yX0_copyFrom (kw yX0_copyFrom cX0_copyFrom 2 none) ({ frames := 2, cells := 0, slots := 0, locals := 61 }) (va_Pc [.ref (b + 96), .ref (b + 22)] (kPre D (kT cI cJ cZ cH cR) b M n)) (va_Qv (fun (u : (Nat → va_E) × Nat) => u.2 = n ∧ kF [98, 99, 100, 101, 102, 103, 104, 105, 106] M u.1 ∧ u.1 98 = .inl (cI, 100, .inl ct) ∧ u.1 99 = .inl (cJ, 100, .inr (.inl su)) ∧ u.1 100 = .inr (5, [.ref (b + 101), .ref (b + 102), .ref (b + 103), .int (nI rs), .int (nI ca)]) ∧ u.1 101 = .inl (cI, 400, .inl (va_cpy rn rn2 0 0 rs)) ∧ u.1 102 = .inl (cI, 400, .inl (va_cpy rk rk2 0 0 rs)) ∧ u.1 103 = .inl (cI, 400, .inl (va_cpy rv rv2 0 0 rs)) ∧ u.1 104 = .inr (7, [.ref (b + 105), .ref (b + 106), .int (nI ts), .int (tr)]) ∧ u.1 105 = .inl (cI, 40, .inl (va_cpy tk tk2 0 0 ts)) ∧ u.1 106 = .inl (cI, 40, .inl (va_cpy tt tt2 0 0 ts))) (kB D (kT cI cJ cZ cH cR) b) (kA b)) 0 0 (kA b) := by
  refine k_metV (by decide +kernel) (Nat.le_of_ble_eq_true rfl) ?_
  intro p e s m below meth c ls Q C hw hret hnm hl
  have hl : lv_has ls 2 [(0, .ref (b + 96)), (1, .ref (b + 22))] := hl
  have hFF : kF [98, 99, 100, 101, 102, 103, 104, 105, 106] M M := kF_rf
  refine lv_aload_n C.1 C.2.1 dX0_copyFrom_0 rfl (lv_at hl 0 rfl) ?_
  refine k_get C hw 96 (by omega) h96 rfl inlX0 0 (by decide) q_75 rfl dX0_copyFrom_1 ?_
  refine lv_aload_n C.1 C.2.1 dX0_copyFrom_4 rfl (lv_at hl 1 rfl) ?_
  refine k_get C hw 22 (by omega) h22 rfl inlX0 0 (by decide) q_75 rfl dX0_copyFrom_5 ?_
  refine k_vv C hw 97 (by omega) h97 rfl (c_X6_copyFrom_96_22 (by omega) h97 h98 h99 h23 h24 h25  ) kv_X0_35 rfl hl.1 ⟨Nat.le_of_ble_eq_true rfl, Nat.le_of_ble_eq_true rfl⟩ (Nat.le_of_ble_eq_true rfl) ⟨Nat.le_of_ble_eq_true rfl, Nat.le_of_ble_eq_true rfl⟩ dX0_copyFrom_8 (fun M_1 n9 H locs hp hw => ?_)
  obtain ⟨en9, hF, h98, h99⟩ := hp
  have en9 : n9 = n := en9
  rw [en9] at hw
  have h96 := (hF 96 (by decide)).trans h96
  have h97 := (hF 97 (by decide)).trans h97
  have h100 := (hF 100 (by decide)).trans h100
  have h101 := (hF 101 (by decide)).trans h101
  have h102 := (hF 102 (by decide)).trans h102
  have h103 := (hF 103 (by decide)).trans h103
  have h104 := (hF 104 (by decide)).trans h104
  have h105 := (hF 105 (by decide)).trans h105
  have h106 := (hF 106 (by decide)).trans h106
  have h22 := (hF 22 (by decide)).trans h22
  have h23 := (hF 23 (by decide)).trans h23
  have h24 := (hF 24 (by decide)).trans h24
  have h25 := (hF 25 (by decide)).trans h25
  have h26 := (hF 26 (by decide)).trans h26
  have h27 := (hF 27 (by decide)).trans h27
  have h28 := (hF 28 (by decide)).trans h28
  have h29 := (hF 29 (by decide)).trans h29
  have h30 := (hF 30 (by decide)).trans h30
  have h31 := (hF 31 (by decide)).trans h31
  have h32 := (hF 32 (by decide)).trans h32
  have hFF := kF_st hFF hF (by first | decide | simp)
  refine lv_aload_n C.1 C.2.1 dX0_copyFrom_11 rfl (lv_at hl 0 rfl) ?_
  refine k_get C hw 96 (by omega) h96 rfl inlX0 1 (by decide) q_79 rfl dX0_copyFrom_12 ?_
  refine lv_aload_n C.1 C.2.1 dX0_copyFrom_15 rfl (lv_at hl 1 rfl) ?_
  refine k_get C hw 22 (by omega) h22 rfl inlX0 1 (by decide) q_79 rfl dX0_copyFrom_16 ?_
  refine k_vv C hw 100 (by omega) h100 rfl (c_X5_copyFrom_96_22 (by omega) h100 h101 h102 h103 h26 h27 h28 h29  (by omega)) kv_X0_39 rfl hl.1 ⟨Nat.le_of_ble_eq_true rfl, Nat.le_of_ble_eq_true rfl⟩ (Nat.le_of_ble_eq_true rfl) ⟨Nat.le_of_ble_eq_true rfl, Nat.le_of_ble_eq_true rfl⟩ dX0_copyFrom_19 (fun M_2 n9 H locs hp hw => ?_)
  obtain ⟨en9, hF, h100, h101, h102, h103⟩ := hp
  have en9 : n9 = n := en9
  rw [en9] at hw
  have h96 := (hF 96 (by decide)).trans h96
  have h97 := (hF 97 (by decide)).trans h97
  have h98 := (hF 98 (by decide)).trans h98
  have h99 := (hF 99 (by decide)).trans h99
  have h104 := (hF 104 (by decide)).trans h104
  have h105 := (hF 105 (by decide)).trans h105
  have h106 := (hF 106 (by decide)).trans h106
  have h22 := (hF 22 (by decide)).trans h22
  have h23 := (hF 23 (by decide)).trans h23
  have h24 := (hF 24 (by decide)).trans h24
  have h25 := (hF 25 (by decide)).trans h25
  have h26 := (hF 26 (by decide)).trans h26
  have h27 := (hF 27 (by decide)).trans h27
  have h28 := (hF 28 (by decide)).trans h28
  have h29 := (hF 29 (by decide)).trans h29
  have h30 := (hF 30 (by decide)).trans h30
  have h31 := (hF 31 (by decide)).trans h31
  have h32 := (hF 32 (by decide)).trans h32
  have hFF := kF_st hFF hF (by first | decide | simp)
  refine lv_aload_n C.1 C.2.1 dX0_copyFrom_22 rfl (lv_at hl 0 rfl) ?_
  refine k_get C hw 96 (by omega) h96 rfl inlX0 2 (by decide) q_83 rfl dX0_copyFrom_23 ?_
  refine lv_aload_n C.1 C.2.1 dX0_copyFrom_26 rfl (lv_at hl 1 rfl) ?_
  refine k_get C hw 22 (by omega) h22 rfl inlX0 2 (by decide) q_83 rfl dX0_copyFrom_27 ?_
  refine k_vv C hw 104 (by omega) h104 rfl (c_X7_copyFrom_96_22 (by omega) h104 h105 h106 h30 h31 h32  (by omega)) kv_X0_42 rfl hl.1 ⟨Nat.le_of_ble_eq_true rfl, Nat.le_of_ble_eq_true rfl⟩ (Nat.le_of_ble_eq_true rfl) ⟨Nat.le_of_ble_eq_true rfl, Nat.le_of_ble_eq_true rfl⟩ dX0_copyFrom_30 (fun M_3 n9 H locs hp hw => ?_)
  obtain ⟨en9, hF, h104, h105, h106⟩ := hp
  have en9 : n9 = n := en9
  rw [en9] at hw
  have h96 := (hF 96 (by decide)).trans h96
  have h97 := (hF 97 (by decide)).trans h97
  have h98 := (hF 98 (by decide)).trans h98
  have h99 := (hF 99 (by decide)).trans h99
  have h100 := (hF 100 (by decide)).trans h100
  have h101 := (hF 101 (by decide)).trans h101
  have h102 := (hF 102 (by decide)).trans h102
  have h103 := (hF 103 (by decide)).trans h103
  have h22 := (hF 22 (by decide)).trans h22
  have h23 := (hF 23 (by decide)).trans h23
  have h24 := (hF 24 (by decide)).trans h24
  have h25 := (hF 25 (by decide)).trans h25
  have h26 := (hF 26 (by decide)).trans h26
  have h27 := (hF 27 (by decide)).trans h27
  have h28 := (hF 28 (by decide)).trans h28
  have h29 := (hF 29 (by decide)).trans h29
  have h30 := (hF 30 (by decide)).trans h30
  have h31 := (hF 31 (by decide)).trans h31
  have h32 := (hF 32 (by decide)).trans h32
  have hFF := kF_st hFF hF (by first | decide | simp)
  exact hret _ _ (Nat.le_of_ble_eq_true rfl) (Nat.le_of_ble_eq_true rfl) hw (⟨rfl, hFF, h98, h99, h100, h101, h102, h103, h104, h105, h106⟩) dX0_copyFrom_33

set_option maxHeartbeats 4000000 in
set_option maxRecDepth 100000 in
theorem c_X6_copyFrom_22_74 {l : Launch} {D : va_G} {cI cJ cZ cH cR : ClassId} {b : Nat} {n : Nat} {M : Nat → va_E}  {ct : Nat → Int32} {su : Nat → Int64} {ct0 : Nat → Int32} {su0 : Nat → Int64}  (hn : 78 ≤ n) (h23 : M 23 = .inr (6, [.ref (b + 24), .ref (b + 25)])) (h24 : M 24 = .inl (cI, 100, .inl ct)) (h25 : M 25 = .inl (cJ, 100, .inr (.inl su))) (h75 : M 75 = .inr (6, [.ref (b + 76), .ref (b + 77)])) (h76 : M 76 = .inl (cI, 100, .inl ct0)) (h77 : M 77 = .inl (cJ, 100, .inr (.inl su0)))   : Met l yX6_copyFrom (kw yX6_copyFrom cX6_copyFrom 2 none) ({ frames := 1, cells := 0, slots := 0, locals := 40 }) (va_Pc [.ref (b + 23), .ref (b + 75)] (kPre D (kT cI cJ cZ cH cR) b M n)) (va_Qv (fun (u : (Nat → va_E) × Nat) => u.2 = n ∧ kF [24, 25] M u.1 ∧ u.1 24 = .inl (cI, 100, .inl ct0) ∧ u.1 25 = .inl (cJ, 100, .inr (.inl su0))) (kB D (kT cI cJ cZ cH cR) b) (kA b)) 0 0 (kA b) := by
  refine k_metV (by decide +kernel) (Nat.le_of_ble_eq_true rfl) ?_
  intro p e s m below meth c ls Q C hw hret hnm hl
  have hl : lv_has ls 2 [(0, .ref (b + 23)), (1, .ref (b + 75))] := hl
  have hFF : kF [24, 25] M M := kF_rf
  refine lv_aload_n C.1 C.2.1 dX6_copyFrom_0 rfl (lv_at hl 1 rfl) ?_
  refine k_get C hw 75 (by omega) h75 rfl inlX6 0 (by decide) q_88 rfl dX6_copyFrom_1 ?_
  refine lv_iconst (v := nI 0) C.1 C.2.1 dX6_copyFrom_4 (by decide) ?_
  refine lv_aload_n C.1 C.2.1 dX6_copyFrom_5 rfl (lv_at hl 0 rfl) ?_
  refine k_get C hw 23 (by omega) h23 rfl inlX6 0 (by decide) q_88 rfl dX6_copyFrom_6 ?_
  refine lv_iconst (v := nI 0) C.1 C.2.1 dX6_copyFrom_9 (by decide) ?_
  refine lv_bipush (v := nI 100) C.1 C.2.1 dX6_copyFrom_10 (by decide) ?_
  refine k_copyi C hw hl.1 q_607 q_276 q_277 q_278 76 24 (by omega) (by omega) h76 h24 (by omega) (by omega) (by decide) (by decide) (Nat.le_of_ble_eq_true rfl) (by decide) dX6_copyFrom_12 (fun M_1 H locs hw h24 hF => ?_)
  have h23 := (hF 23 (by decide)).trans h23
  have h25 := (hF 25 (by decide)).trans h25
  have h75 := (hF 75 (by decide)).trans h75
  have h76 := (hF 76 (by decide)).trans h76
  have h77 := (hF 77 (by decide)).trans h77
  have hFF := kF_st hFF hF (by first | decide | simp)
  refine lv_aload_n C.1 C.2.1 dX6_copyFrom_15 rfl (lv_at hl 1 rfl) ?_
  refine k_get C hw 75 (by omega) h75 rfl inlX6 1 (by decide) q_90 rfl dX6_copyFrom_16 ?_
  refine lv_iconst (v := nI 0) C.1 C.2.1 dX6_copyFrom_19 (by decide) ?_
  refine lv_aload_n C.1 C.2.1 dX6_copyFrom_20 rfl (lv_at hl 0 rfl) ?_
  refine k_get C hw 23 (by omega) h23 rfl inlX6 1 (by decide) q_90 rfl dX6_copyFrom_21 ?_
  refine lv_iconst (v := nI 0) C.1 C.2.1 dX6_copyFrom_24 (by decide) ?_
  refine lv_bipush (v := nI 100) C.1 C.2.1 dX6_copyFrom_25 (by decide) ?_
  refine k_copyl C hw hl.1 q_607 q_276 q_277 q_278 77 25 (by omega) (by omega) h77 h25 (by omega) (by omega) (by decide) (by decide) (Nat.le_of_ble_eq_true rfl) (by decide) dX6_copyFrom_27 (fun M_2 H locs hw h25 hF => ?_)
  have h23 := (hF 23 (by decide)).trans h23
  have h24 := (hF 24 (by decide)).trans h24
  have h75 := (hF 75 (by decide)).trans h75
  have h76 := (hF 76 (by decide)).trans h76
  have h77 := (hF 77 (by decide)).trans h77
  have hFF := kF_st hFF hF (by first | decide | simp)
  obtain ⟨M_3, hw, h24, hF⟩ := k_extI hw 24 (by omega) h24 (ct0) (fun j hj => cpy00 hj)
  have h23 := (hF 23 (by decide)).trans h23
  have h25 := (hF 25 (by decide)).trans h25
  have h75 := (hF 75 (by decide)).trans h75
  have h76 := (hF 76 (by decide)).trans h76
  have h77 := (hF 77 (by decide)).trans h77
  have hFF := kF_st hFF hF (by first | decide | simp)
  obtain ⟨M_4, hw, h25, hF⟩ := k_extJ hw 25 (by omega) h25 (su0) (fun j hj => cpy00 hj)
  have h23 := (hF 23 (by decide)).trans h23
  have h24 := (hF 24 (by decide)).trans h24
  have h75 := (hF 75 (by decide)).trans h75
  have h76 := (hF 76 (by decide)).trans h76
  have h77 := (hF 77 (by decide)).trans h77
  have hFF := kF_st hFF hF (by first | decide | simp)
  exact hret _ _ (Nat.le_of_ble_eq_true rfl) (Nat.le_of_ble_eq_true rfl) hw (⟨rfl, hFF, h24, h25⟩) dX6_copyFrom_30

set_option maxHeartbeats 4000000 in
set_option maxRecDepth 100000 in
theorem c_X5_copyFrom_22_74 {l : Launch} {D : va_G} {cI cJ cZ cH cR : ClassId} {b : Nat} {n : Nat} {M : Nat → va_E}  {rs : Nat} {ca : Nat} {rn : Nat → Int32} {rk : Nat → Int32} {rv : Nat → Int32} {rs0 : Nat} {ca0 : Nat} {rn0 : Nat → Int32} {rk0 : Nat → Int32} {rv0 : Nat → Int32}  (hn : 82 ≤ n) (h26 : M 26 = .inr (5, [.ref (b + 27), .ref (b + 28), .ref (b + 29), .int (nI rs), .int (nI ca)])) (h27 : M 27 = .inl (cI, 400, .inl rn)) (h28 : M 28 = .inl (cI, 400, .inl rk)) (h29 : M 29 = .inl (cI, 400, .inl rv)) (h78 : M 78 = .inr (5, [.ref (b + 79), .ref (b + 80), .ref (b + 81), .int (nI rs0), .int (nI ca0)])) (h79 : M 79 = .inl (cI, 400, .inl rn0)) (h80 : M 80 = .inl (cI, 400, .inl rk0)) (h81 : M 81 = .inl (cI, 400, .inl rv0))  (hs : rs0 ≤ 400) : Met l yX5_copyFrom (kw yX5_copyFrom cX5_copyFrom 2 none) ({ frames := 1, cells := 0, slots := 0, locals := 40 }) (va_Pc [.ref (b + 26), .ref (b + 78)] (kPre D (kT cI cJ cZ cH cR) b M n)) (va_Qv (fun (u : (Nat → va_E) × Nat) => u.2 = n ∧ kF [26, 27, 28, 29] M u.1 ∧ u.1 26 = .inr (5, [.ref (b + 27), .ref (b + 28), .ref (b + 29), .int (nI rs0), .int (nI ca0)]) ∧ u.1 27 = .inl (cI, 400, .inl (va_cpy rn0 rn 0 0 rs0)) ∧ u.1 28 = .inl (cI, 400, .inl (va_cpy rk0 rk 0 0 rs0)) ∧ u.1 29 = .inl (cI, 400, .inl (va_cpy rv0 rv 0 0 rs0))) (kB D (kT cI cJ cZ cH cR) b) (kA b)) 0 0 (kA b) := by
  refine k_metV (by decide +kernel) (Nat.le_of_ble_eq_true rfl) ?_
  intro p e s m below meth c ls Q C hw hret hnm hl
  have hl : lv_has ls 2 [(0, .ref (b + 26)), (1, .ref (b + 78))] := hl
  have hFF : kF [26, 27, 28, 29] M M := kF_rf
  refine lv_aload_n C.1 C.2.1 dX5_copyFrom_0 rfl (lv_at hl 1 rfl) ?_
  refine k_get C hw 78 (by omega) h78 rfl inlX5 0 (by decide) q_95 rfl dX5_copyFrom_1 ?_
  refine lv_iconst (v := nI 0) C.1 C.2.1 dX5_copyFrom_4 (by decide) ?_
  refine lv_aload_n C.1 C.2.1 dX5_copyFrom_5 rfl (lv_at hl 0 rfl) ?_
  refine k_get C hw 26 (by omega) h26 rfl inlX5 0 (by decide) q_95 rfl dX5_copyFrom_6 ?_
  refine lv_iconst (v := nI 0) C.1 C.2.1 dX5_copyFrom_9 (by decide) ?_
  refine lv_aload_n C.1 C.2.1 dX5_copyFrom_10 rfl (lv_at hl 1 rfl) ?_
  refine k_get C hw 78 (by omega) h78 rfl inlX5 3 (by decide) q_239 rfl dX5_copyFrom_11 ?_
  refine k_copyi C hw hl.1 q_275 q_276 q_277 q_278 79 27 (by omega) (by omega) h79 h27 (by omega) (by omega) (by decide) (by decide) (Nat.le_of_ble_eq_true rfl) (by decide) dX5_copyFrom_14 (fun M_1 H locs hw h27 hF => ?_)
  have h26 := (hF 26 (by decide)).trans h26
  have h28 := (hF 28 (by decide)).trans h28
  have h29 := (hF 29 (by decide)).trans h29
  have h78 := (hF 78 (by decide)).trans h78
  have h79 := (hF 79 (by decide)).trans h79
  have h80 := (hF 80 (by decide)).trans h80
  have h81 := (hF 81 (by decide)).trans h81
  have hFF := kF_st hFF hF (by first | decide | simp)
  refine lv_aload_n C.1 C.2.1 dX5_copyFrom_17 rfl (lv_at hl 1 rfl) ?_
  refine k_get C hw 78 (by omega) h78 rfl inlX5 1 (by decide) q_96 rfl dX5_copyFrom_18 ?_
  refine lv_iconst (v := nI 0) C.1 C.2.1 dX5_copyFrom_21 (by decide) ?_
  refine lv_aload_n C.1 C.2.1 dX5_copyFrom_22 rfl (lv_at hl 0 rfl) ?_
  refine k_get C hw 26 (by omega) h26 rfl inlX5 1 (by decide) q_96 rfl dX5_copyFrom_23 ?_
  refine lv_iconst (v := nI 0) C.1 C.2.1 dX5_copyFrom_26 (by decide) ?_
  refine lv_aload_n C.1 C.2.1 dX5_copyFrom_27 rfl (lv_at hl 1 rfl) ?_
  refine k_get C hw 78 (by omega) h78 rfl inlX5 3 (by decide) q_239 rfl dX5_copyFrom_28 ?_
  refine k_copyi C hw hl.1 q_275 q_276 q_277 q_278 80 28 (by omega) (by omega) h80 h28 (by omega) (by omega) (by decide) (by decide) (Nat.le_of_ble_eq_true rfl) (by decide) dX5_copyFrom_31 (fun M_2 H locs hw h28 hF => ?_)
  have h26 := (hF 26 (by decide)).trans h26
  have h27 := (hF 27 (by decide)).trans h27
  have h29 := (hF 29 (by decide)).trans h29
  have h78 := (hF 78 (by decide)).trans h78
  have h79 := (hF 79 (by decide)).trans h79
  have h80 := (hF 80 (by decide)).trans h80
  have h81 := (hF 81 (by decide)).trans h81
  have hFF := kF_st hFF hF (by first | decide | simp)
  refine lv_aload_n C.1 C.2.1 dX5_copyFrom_34 rfl (lv_at hl 1 rfl) ?_
  refine k_get C hw 78 (by omega) h78 rfl inlX5 2 (by decide) q_97 rfl dX5_copyFrom_35 ?_
  refine lv_iconst (v := nI 0) C.1 C.2.1 dX5_copyFrom_38 (by decide) ?_
  refine lv_aload_n C.1 C.2.1 dX5_copyFrom_39 rfl (lv_at hl 0 rfl) ?_
  refine k_get C hw 26 (by omega) h26 rfl inlX5 2 (by decide) q_97 rfl dX5_copyFrom_40 ?_
  refine lv_iconst (v := nI 0) C.1 C.2.1 dX5_copyFrom_43 (by decide) ?_
  refine lv_aload_n C.1 C.2.1 dX5_copyFrom_44 rfl (lv_at hl 1 rfl) ?_
  refine k_get C hw 78 (by omega) h78 rfl inlX5 3 (by decide) q_239 rfl dX5_copyFrom_45 ?_
  refine k_copyi C hw hl.1 q_275 q_276 q_277 q_278 81 29 (by omega) (by omega) h81 h29 (by omega) (by omega) (by decide) (by decide) (Nat.le_of_ble_eq_true rfl) (by decide) dX5_copyFrom_48 (fun M_3 H locs hw h29 hF => ?_)
  have h26 := (hF 26 (by decide)).trans h26
  have h27 := (hF 27 (by decide)).trans h27
  have h28 := (hF 28 (by decide)).trans h28
  have h78 := (hF 78 (by decide)).trans h78
  have h79 := (hF 79 (by decide)).trans h79
  have h80 := (hF 80 (by decide)).trans h80
  have h81 := (hF 81 (by decide)).trans h81
  have hFF := kF_st hFF hF (by first | decide | simp)
  refine lv_aload_n C.1 C.2.1 dX5_copyFrom_51 rfl (lv_at hl 0 rfl) ?_
  refine lv_aload_n C.1 C.2.1 dX5_copyFrom_52 rfl (lv_at hl 1 rfl) ?_
  refine k_get C hw 78 (by omega) h78 rfl inlX5 3 (by decide) q_239 rfl dX5_copyFrom_53 ?_
  refine k_put (tf := .int) C hw 26 (by omega) h26 rfl inlX5 tyX5 tyX5_ok nmX5 3 (by decide) q_239 rfl (by decide +kernel) rfl rfl (Nat.le_of_ble_eq_true rfl) dX5_copyFrom_56 (fun M_4 H locs hw h26 hF => ?_)
  have h26 : M_4 26 = .inr (5, [.ref (b + 27), .ref (b + 28), .ref (b + 29), .int (nI rs0), .int (nI ca)]) := h26
  have h27 := (hF 27 (by decide)).trans h27
  have h28 := (hF 28 (by decide)).trans h28
  have h29 := (hF 29 (by decide)).trans h29
  have h78 := (hF 78 (by decide)).trans h78
  have h79 := (hF 79 (by decide)).trans h79
  have h80 := (hF 80 (by decide)).trans h80
  have h81 := (hF 81 (by decide)).trans h81
  have hFF := kF_st hFF hF (by first | decide | simp)
  refine lv_aload_n C.1 C.2.1 dX5_copyFrom_59 rfl (lv_at hl 0 rfl) ?_
  refine lv_aload_n C.1 C.2.1 dX5_copyFrom_60 rfl (lv_at hl 1 rfl) ?_
  refine k_get C hw 78 (by omega) h78 rfl inlX5 4 (by decide) q_240 rfl dX5_copyFrom_61 ?_
  refine k_put (tf := .int) C hw 26 (by omega) h26 rfl inlX5 tyX5 tyX5_ok nmX5 4 (by decide) q_240 rfl (by decide +kernel) rfl rfl (Nat.le_of_ble_eq_true rfl) dX5_copyFrom_64 (fun M_5 H locs hw h26 hF => ?_)
  have h26 : M_5 26 = .inr (5, [.ref (b + 27), .ref (b + 28), .ref (b + 29), .int (nI rs0), .int (nI ca0)]) := h26
  have h27 := (hF 27 (by decide)).trans h27
  have h28 := (hF 28 (by decide)).trans h28
  have h29 := (hF 29 (by decide)).trans h29
  have h78 := (hF 78 (by decide)).trans h78
  have h79 := (hF 79 (by decide)).trans h79
  have h80 := (hF 80 (by decide)).trans h80
  have h81 := (hF 81 (by decide)).trans h81
  have hFF := kF_st hFF hF (by first | decide | simp)
  exact hret _ _ (Nat.le_of_ble_eq_true rfl) (Nat.le_of_ble_eq_true rfl) hw (⟨rfl, hFF, h26, h27, h28, h29⟩) dX5_copyFrom_67

set_option maxHeartbeats 4000000 in
set_option maxRecDepth 100000 in
theorem c_X7_copyFrom_22_74 {l : Launch} {D : va_G} {cI cJ cZ cH cR : ClassId} {b : Nat} {n : Nat} {M : Nat → va_E}  {ts : Nat} {tr : Int32} {tk : Nat → Int32} {tt : Nat → Int32} {ts0 : Nat} {tr0 : Int32} {tk0 : Nat → Int32} {tt0 : Nat → Int32}  (hn : 85 ≤ n) (h30 : M 30 = .inr (7, [.ref (b + 31), .ref (b + 32), .int (nI ts), .int tr])) (h31 : M 31 = .inl (cI, 40, .inl tk)) (h32 : M 32 = .inl (cI, 40, .inl tt)) (h82 : M 82 = .inr (7, [.ref (b + 83), .ref (b + 84), .int (nI ts0), .int tr0])) (h83 : M 83 = .inl (cI, 40, .inl tk0)) (h84 : M 84 = .inl (cI, 40, .inl tt0))  (ht : ts0 ≤ 40) : Met l yX7_copyFrom (kw yX7_copyFrom cX7_copyFrom 2 none) ({ frames := 1, cells := 0, slots := 0, locals := 40 }) (va_Pc [.ref (b + 30), .ref (b + 82)] (kPre D (kT cI cJ cZ cH cR) b M n)) (va_Qv (fun (u : (Nat → va_E) × Nat) => u.2 = n ∧ kF [30, 31, 32] M u.1 ∧ u.1 30 = .inr (7, [.ref (b + 31), .ref (b + 32), .int (nI ts0), .int (tr0)]) ∧ u.1 31 = .inl (cI, 40, .inl (va_cpy tk0 tk 0 0 ts0)) ∧ u.1 32 = .inl (cI, 40, .inl (va_cpy tt0 tt 0 0 ts0))) (kB D (kT cI cJ cZ cH cR) b) (kA b)) 0 0 (kA b) := by
  refine k_metV (by decide +kernel) (Nat.le_of_ble_eq_true rfl) ?_
  intro p e s m below meth c ls Q C hw hret hnm hl
  have hl : lv_has ls 2 [(0, .ref (b + 30)), (1, .ref (b + 82))] := hl
  have hFF : kF [30, 31, 32] M M := kF_rf
  refine lv_aload_n C.1 C.2.1 dX7_copyFrom_0 rfl (lv_at hl 1 rfl) ?_
  refine k_get C hw 82 (by omega) h82 rfl inlX7 0 (by decide) q_102 rfl dX7_copyFrom_1 ?_
  refine lv_iconst (v := nI 0) C.1 C.2.1 dX7_copyFrom_4 (by decide) ?_
  refine lv_aload_n C.1 C.2.1 dX7_copyFrom_5 rfl (lv_at hl 0 rfl) ?_
  refine k_get C hw 30 (by omega) h30 rfl inlX7 0 (by decide) q_102 rfl dX7_copyFrom_6 ?_
  refine lv_iconst (v := nI 0) C.1 C.2.1 dX7_copyFrom_9 (by decide) ?_
  refine lv_aload_n C.1 C.2.1 dX7_copyFrom_10 rfl (lv_at hl 1 rfl) ?_
  refine k_get C hw 82 (by omega) h82 rfl inlX7 2 (by decide) q_498 rfl dX7_copyFrom_11 ?_
  refine k_copyi C hw hl.1 q_499 q_276 q_277 q_278 83 31 (by omega) (by omega) h83 h31 (by omega) (by omega) (by decide) (by decide) (Nat.le_of_ble_eq_true rfl) (by decide) dX7_copyFrom_14 (fun M_1 H locs hw h31 hF => ?_)
  have h30 := (hF 30 (by decide)).trans h30
  have h32 := (hF 32 (by decide)).trans h32
  have h82 := (hF 82 (by decide)).trans h82
  have h83 := (hF 83 (by decide)).trans h83
  have h84 := (hF 84 (by decide)).trans h84
  have hFF := kF_st hFF hF (by first | decide | simp)
  refine lv_aload_n C.1 C.2.1 dX7_copyFrom_17 rfl (lv_at hl 1 rfl) ?_
  refine k_get C hw 82 (by omega) h82 rfl inlX7 1 (by decide) q_103 rfl dX7_copyFrom_18 ?_
  refine lv_iconst (v := nI 0) C.1 C.2.1 dX7_copyFrom_21 (by decide) ?_
  refine lv_aload_n C.1 C.2.1 dX7_copyFrom_22 rfl (lv_at hl 0 rfl) ?_
  refine k_get C hw 30 (by omega) h30 rfl inlX7 1 (by decide) q_103 rfl dX7_copyFrom_23 ?_
  refine lv_iconst (v := nI 0) C.1 C.2.1 dX7_copyFrom_26 (by decide) ?_
  refine lv_aload_n C.1 C.2.1 dX7_copyFrom_27 rfl (lv_at hl 1 rfl) ?_
  refine k_get C hw 82 (by omega) h82 rfl inlX7 2 (by decide) q_498 rfl dX7_copyFrom_28 ?_
  refine k_copyi C hw hl.1 q_499 q_276 q_277 q_278 84 32 (by omega) (by omega) h84 h32 (by omega) (by omega) (by decide) (by decide) (Nat.le_of_ble_eq_true rfl) (by decide) dX7_copyFrom_31 (fun M_2 H locs hw h32 hF => ?_)
  have h30 := (hF 30 (by decide)).trans h30
  have h31 := (hF 31 (by decide)).trans h31
  have h82 := (hF 82 (by decide)).trans h82
  have h83 := (hF 83 (by decide)).trans h83
  have h84 := (hF 84 (by decide)).trans h84
  have hFF := kF_st hFF hF (by first | decide | simp)
  refine lv_aload_n C.1 C.2.1 dX7_copyFrom_34 rfl (lv_at hl 0 rfl) ?_
  refine lv_aload_n C.1 C.2.1 dX7_copyFrom_35 rfl (lv_at hl 1 rfl) ?_
  refine k_get C hw 82 (by omega) h82 rfl inlX7 2 (by decide) q_498 rfl dX7_copyFrom_36 ?_
  refine k_put (tf := .int) C hw 30 (by omega) h30 rfl inlX7 tyX7 tyX7_ok nmX7 2 (by decide) q_498 rfl (by decide +kernel) rfl rfl (Nat.le_of_ble_eq_true rfl) dX7_copyFrom_39 (fun M_3 H locs hw h30 hF => ?_)
  have h30 : M_3 30 = .inr (7, [.ref (b + 31), .ref (b + 32), .int (nI ts0), .int tr]) := h30
  have h31 := (hF 31 (by decide)).trans h31
  have h32 := (hF 32 (by decide)).trans h32
  have h82 := (hF 82 (by decide)).trans h82
  have h83 := (hF 83 (by decide)).trans h83
  have h84 := (hF 84 (by decide)).trans h84
  have hFF := kF_st hFF hF (by first | decide | simp)
  refine lv_aload_n C.1 C.2.1 dX7_copyFrom_42 rfl (lv_at hl 0 rfl) ?_
  refine lv_aload_n C.1 C.2.1 dX7_copyFrom_43 rfl (lv_at hl 1 rfl) ?_
  refine k_get C hw 82 (by omega) h82 rfl inlX7 3 (by decide) q_616 rfl dX7_copyFrom_44 ?_
  refine k_put (tf := .int) C hw 30 (by omega) h30 rfl inlX7 tyX7 tyX7_ok nmX7 3 (by decide) q_616 rfl (by decide +kernel) rfl rfl (Nat.le_of_ble_eq_true rfl) dX7_copyFrom_47 (fun M_4 H locs hw h30 hF => ?_)
  have h30 : M_4 30 = .inr (7, [.ref (b + 31), .ref (b + 32), .int (nI ts0), .int tr0]) := h30
  have h31 := (hF 31 (by decide)).trans h31
  have h32 := (hF 32 (by decide)).trans h32
  have h82 := (hF 82 (by decide)).trans h82
  have h83 := (hF 83 (by decide)).trans h83
  have h84 := (hF 84 (by decide)).trans h84
  have hFF := kF_st hFF hF (by first | decide | simp)
  exact hret _ _ (Nat.le_of_ble_eq_true rfl) (Nat.le_of_ble_eq_true rfl) hw (⟨rfl, hFF, h30, h31, h32⟩) dX7_copyFrom_50

set_option maxHeartbeats 4000000 in
set_option maxRecDepth 100000 in
theorem c_X0_copyFrom_22_74 {l : Launch} {D : va_G} {cI cJ cZ cH cR : ClassId} {b : Nat} {n : Nat} {M : Nat → va_E}  {ct : Nat → Int32} {su : Nat → Int64} {rs : Nat} {ca : Nat} {rn : Nat → Int32} {rk : Nat → Int32} {rv : Nat → Int32} {ts : Nat} {tr : Int32} {tk : Nat → Int32} {tt : Nat → Int32} {ct0 : Nat → Int32} {su0 : Nat → Int64} {rs0 : Nat} {ca0 : Nat} {rn0 : Nat → Int32} {rk0 : Nat → Int32} {rv0 : Nat → Int32} {ts0 : Nat} {tr0 : Int32} {tk0 : Nat → Int32} {tt0 : Nat → Int32}  (hn : 85 ≤ n) (h22 : M 22 = .inr (0, [.ref (b + 23), .ref (b + 26), .ref (b + 30)])) (h23 : M 23 = .inr (6, [.ref (b + 24), .ref (b + 25)])) (h24 : M 24 = .inl (cI, 100, .inl ct)) (h25 : M 25 = .inl (cJ, 100, .inr (.inl su))) (h26 : M 26 = .inr (5, [.ref (b + 27), .ref (b + 28), .ref (b + 29), .int (nI rs), .int (nI ca)])) (h27 : M 27 = .inl (cI, 400, .inl rn)) (h28 : M 28 = .inl (cI, 400, .inl rk)) (h29 : M 29 = .inl (cI, 400, .inl rv)) (h30 : M 30 = .inr (7, [.ref (b + 31), .ref (b + 32), .int (nI ts), .int tr])) (h31 : M 31 = .inl (cI, 40, .inl tk)) (h32 : M 32 = .inl (cI, 40, .inl tt)) (h74 : M 74 = .inr (0, [.ref (b + 75), .ref (b + 78), .ref (b + 82)])) (h75 : M 75 = .inr (6, [.ref (b + 76), .ref (b + 77)])) (h76 : M 76 = .inl (cI, 100, .inl ct0)) (h77 : M 77 = .inl (cJ, 100, .inr (.inl su0))) (h78 : M 78 = .inr (5, [.ref (b + 79), .ref (b + 80), .ref (b + 81), .int (nI rs0), .int (nI ca0)])) (h79 : M 79 = .inl (cI, 400, .inl rn0)) (h80 : M 80 = .inl (cI, 400, .inl rk0)) (h81 : M 81 = .inl (cI, 400, .inl rv0)) (h82 : M 82 = .inr (7, [.ref (b + 83), .ref (b + 84), .int (nI ts0), .int tr0])) (h83 : M 83 = .inl (cI, 40, .inl tk0)) (h84 : M 84 = .inl (cI, 40, .inl tt0))  (hs : rs0 ≤ 400) (ht : ts0 ≤ 40) : Met l yX0_copyFrom (kw yX0_copyFrom cX0_copyFrom 2 none) ({ frames := 2, cells := 0, slots := 0, locals := 61 }) (va_Pc [.ref (b + 22), .ref (b + 74)] (kPre D (kT cI cJ cZ cH cR) b M n)) (va_Qv (fun (u : (Nat → va_E) × Nat) => u.2 = n ∧ kF [24, 25, 26, 27, 28, 29, 30, 31, 32] M u.1 ∧ u.1 24 = .inl (cI, 100, .inl ct0) ∧ u.1 25 = .inl (cJ, 100, .inr (.inl su0)) ∧ u.1 26 = .inr (5, [.ref (b + 27), .ref (b + 28), .ref (b + 29), .int (nI rs0), .int (nI ca0)]) ∧ u.1 27 = .inl (cI, 400, .inl (va_cpy rn0 rn 0 0 rs0)) ∧ u.1 28 = .inl (cI, 400, .inl (va_cpy rk0 rk 0 0 rs0)) ∧ u.1 29 = .inl (cI, 400, .inl (va_cpy rv0 rv 0 0 rs0)) ∧ u.1 30 = .inr (7, [.ref (b + 31), .ref (b + 32), .int (nI ts0), .int (tr0)]) ∧ u.1 31 = .inl (cI, 40, .inl (va_cpy tk0 tk 0 0 ts0)) ∧ u.1 32 = .inl (cI, 40, .inl (va_cpy tt0 tt 0 0 ts0))) (kB D (kT cI cJ cZ cH cR) b) (kA b)) 0 0 (kA b) := by
  refine k_metV (by decide +kernel) (Nat.le_of_ble_eq_true rfl) ?_
  intro p e s m below meth c ls Q C hw hret hnm hl
  have hl : lv_has ls 2 [(0, .ref (b + 22)), (1, .ref (b + 74))] := hl
  have hFF : kF [24, 25, 26, 27, 28, 29, 30, 31, 32] M M := kF_rf
  refine lv_aload_n C.1 C.2.1 dX0_copyFrom_0 rfl (lv_at hl 0 rfl) ?_
  refine k_get C hw 22 (by omega) h22 rfl inlX0 0 (by decide) q_75 rfl dX0_copyFrom_1 ?_
  refine lv_aload_n C.1 C.2.1 dX0_copyFrom_4 rfl (lv_at hl 1 rfl) ?_
  refine k_get C hw 74 (by omega) h74 rfl inlX0 0 (by decide) q_75 rfl dX0_copyFrom_5 ?_
  refine k_vv C hw 23 (by omega) h23 rfl (c_X6_copyFrom_22_74 (by omega) h23 h24 h25 h75 h76 h77  ) kv_X0_35 rfl hl.1 ⟨Nat.le_of_ble_eq_true rfl, Nat.le_of_ble_eq_true rfl⟩ (Nat.le_of_ble_eq_true rfl) ⟨Nat.le_of_ble_eq_true rfl, Nat.le_of_ble_eq_true rfl⟩ dX0_copyFrom_8 (fun M_1 n9 H locs hp hw => ?_)
  obtain ⟨en9, hF, h24, h25⟩ := hp
  have en9 : n9 = n := en9
  rw [en9] at hw
  have h22 := (hF 22 (by decide)).trans h22
  have h23 := (hF 23 (by decide)).trans h23
  have h26 := (hF 26 (by decide)).trans h26
  have h27 := (hF 27 (by decide)).trans h27
  have h28 := (hF 28 (by decide)).trans h28
  have h29 := (hF 29 (by decide)).trans h29
  have h30 := (hF 30 (by decide)).trans h30
  have h31 := (hF 31 (by decide)).trans h31
  have h32 := (hF 32 (by decide)).trans h32
  have h74 := (hF 74 (by decide)).trans h74
  have h75 := (hF 75 (by decide)).trans h75
  have h76 := (hF 76 (by decide)).trans h76
  have h77 := (hF 77 (by decide)).trans h77
  have h78 := (hF 78 (by decide)).trans h78
  have h79 := (hF 79 (by decide)).trans h79
  have h80 := (hF 80 (by decide)).trans h80
  have h81 := (hF 81 (by decide)).trans h81
  have h82 := (hF 82 (by decide)).trans h82
  have h83 := (hF 83 (by decide)).trans h83
  have h84 := (hF 84 (by decide)).trans h84
  have hFF := kF_st hFF hF (by first | decide | simp)
  refine lv_aload_n C.1 C.2.1 dX0_copyFrom_11 rfl (lv_at hl 0 rfl) ?_
  refine k_get C hw 22 (by omega) h22 rfl inlX0 1 (by decide) q_79 rfl dX0_copyFrom_12 ?_
  refine lv_aload_n C.1 C.2.1 dX0_copyFrom_15 rfl (lv_at hl 1 rfl) ?_
  refine k_get C hw 74 (by omega) h74 rfl inlX0 1 (by decide) q_79 rfl dX0_copyFrom_16 ?_
  refine k_vv C hw 26 (by omega) h26 rfl (c_X5_copyFrom_22_74 (by omega) h26 h27 h28 h29 h78 h79 h80 h81  (by omega)) kv_X0_39 rfl hl.1 ⟨Nat.le_of_ble_eq_true rfl, Nat.le_of_ble_eq_true rfl⟩ (Nat.le_of_ble_eq_true rfl) ⟨Nat.le_of_ble_eq_true rfl, Nat.le_of_ble_eq_true rfl⟩ dX0_copyFrom_19 (fun M_2 n9 H locs hp hw => ?_)
  obtain ⟨en9, hF, h26, h27, h28, h29⟩ := hp
  have en9 : n9 = n := en9
  rw [en9] at hw
  have h22 := (hF 22 (by decide)).trans h22
  have h23 := (hF 23 (by decide)).trans h23
  have h24 := (hF 24 (by decide)).trans h24
  have h25 := (hF 25 (by decide)).trans h25
  have h30 := (hF 30 (by decide)).trans h30
  have h31 := (hF 31 (by decide)).trans h31
  have h32 := (hF 32 (by decide)).trans h32
  have h74 := (hF 74 (by decide)).trans h74
  have h75 := (hF 75 (by decide)).trans h75
  have h76 := (hF 76 (by decide)).trans h76
  have h77 := (hF 77 (by decide)).trans h77
  have h78 := (hF 78 (by decide)).trans h78
  have h79 := (hF 79 (by decide)).trans h79
  have h80 := (hF 80 (by decide)).trans h80
  have h81 := (hF 81 (by decide)).trans h81
  have h82 := (hF 82 (by decide)).trans h82
  have h83 := (hF 83 (by decide)).trans h83
  have h84 := (hF 84 (by decide)).trans h84
  have hFF := kF_st hFF hF (by first | decide | simp)
  refine lv_aload_n C.1 C.2.1 dX0_copyFrom_22 rfl (lv_at hl 0 rfl) ?_
  refine k_get C hw 22 (by omega) h22 rfl inlX0 2 (by decide) q_83 rfl dX0_copyFrom_23 ?_
  refine lv_aload_n C.1 C.2.1 dX0_copyFrom_26 rfl (lv_at hl 1 rfl) ?_
  refine k_get C hw 74 (by omega) h74 rfl inlX0 2 (by decide) q_83 rfl dX0_copyFrom_27 ?_
  refine k_vv C hw 30 (by omega) h30 rfl (c_X7_copyFrom_22_74 (by omega) h30 h31 h32 h82 h83 h84  (by omega)) kv_X0_42 rfl hl.1 ⟨Nat.le_of_ble_eq_true rfl, Nat.le_of_ble_eq_true rfl⟩ (Nat.le_of_ble_eq_true rfl) ⟨Nat.le_of_ble_eq_true rfl, Nat.le_of_ble_eq_true rfl⟩ dX0_copyFrom_30 (fun M_3 n9 H locs hp hw => ?_)
  obtain ⟨en9, hF, h30, h31, h32⟩ := hp
  have en9 : n9 = n := en9
  rw [en9] at hw
  have h22 := (hF 22 (by decide)).trans h22
  have h23 := (hF 23 (by decide)).trans h23
  have h24 := (hF 24 (by decide)).trans h24
  have h25 := (hF 25 (by decide)).trans h25
  have h26 := (hF 26 (by decide)).trans h26
  have h27 := (hF 27 (by decide)).trans h27
  have h28 := (hF 28 (by decide)).trans h28
  have h29 := (hF 29 (by decide)).trans h29
  have h74 := (hF 74 (by decide)).trans h74
  have h75 := (hF 75 (by decide)).trans h75
  have h76 := (hF 76 (by decide)).trans h76
  have h77 := (hF 77 (by decide)).trans h77
  have h78 := (hF 78 (by decide)).trans h78
  have h79 := (hF 79 (by decide)).trans h79
  have h80 := (hF 80 (by decide)).trans h80
  have h81 := (hF 81 (by decide)).trans h81
  have h82 := (hF 82 (by decide)).trans h82
  have h83 := (hF 83 (by decide)).trans h83
  have h84 := (hF 84 (by decide)).trans h84
  have hFF := kF_st hFF hF (by first | decide | simp)
  exact hret _ _ (Nat.le_of_ble_eq_true rfl) (Nat.le_of_ble_eq_true rfl) hw (⟨rfl, hFF, h24, h25, h26, h27, h28, h29, h30, h31, h32⟩) dX0_copyFrom_33

set_option maxHeartbeats 4000000 in
set_option maxRecDepth 100000 in
theorem c_X6_copyFrom_22_85 {l : Launch} {D : va_G} {cI cJ cZ cH cR : ClassId} {b : Nat} {n : Nat} {M : Nat → va_E}  {ct : Nat → Int32} {su : Nat → Int64} {ct1 : Nat → Int32} {su1 : Nat → Int64}  (hn : 89 ≤ n) (h23 : M 23 = .inr (6, [.ref (b + 24), .ref (b + 25)])) (h24 : M 24 = .inl (cI, 100, .inl ct)) (h25 : M 25 = .inl (cJ, 100, .inr (.inl su))) (h86 : M 86 = .inr (6, [.ref (b + 87), .ref (b + 88)])) (h87 : M 87 = .inl (cI, 100, .inl ct1)) (h88 : M 88 = .inl (cJ, 100, .inr (.inl su1)))   : Met l yX6_copyFrom (kw yX6_copyFrom cX6_copyFrom 2 none) ({ frames := 1, cells := 0, slots := 0, locals := 40 }) (va_Pc [.ref (b + 23), .ref (b + 86)] (kPre D (kT cI cJ cZ cH cR) b M n)) (va_Qv (fun (u : (Nat → va_E) × Nat) => u.2 = n ∧ kF [24, 25] M u.1 ∧ u.1 24 = .inl (cI, 100, .inl ct1) ∧ u.1 25 = .inl (cJ, 100, .inr (.inl su1))) (kB D (kT cI cJ cZ cH cR) b) (kA b)) 0 0 (kA b) := by
  refine k_metV (by decide +kernel) (Nat.le_of_ble_eq_true rfl) ?_
  intro p e s m below meth c ls Q C hw hret hnm hl
  have hl : lv_has ls 2 [(0, .ref (b + 23)), (1, .ref (b + 86))] := hl
  have hFF : kF [24, 25] M M := kF_rf
  refine lv_aload_n C.1 C.2.1 dX6_copyFrom_0 rfl (lv_at hl 1 rfl) ?_
  refine k_get C hw 86 (by omega) h86 rfl inlX6 0 (by decide) q_88 rfl dX6_copyFrom_1 ?_
  refine lv_iconst (v := nI 0) C.1 C.2.1 dX6_copyFrom_4 (by decide) ?_
  refine lv_aload_n C.1 C.2.1 dX6_copyFrom_5 rfl (lv_at hl 0 rfl) ?_
  refine k_get C hw 23 (by omega) h23 rfl inlX6 0 (by decide) q_88 rfl dX6_copyFrom_6 ?_
  refine lv_iconst (v := nI 0) C.1 C.2.1 dX6_copyFrom_9 (by decide) ?_
  refine lv_bipush (v := nI 100) C.1 C.2.1 dX6_copyFrom_10 (by decide) ?_
  refine k_copyi C hw hl.1 q_607 q_276 q_277 q_278 87 24 (by omega) (by omega) h87 h24 (by omega) (by omega) (by decide) (by decide) (Nat.le_of_ble_eq_true rfl) (by decide) dX6_copyFrom_12 (fun M_1 H locs hw h24 hF => ?_)
  have h23 := (hF 23 (by decide)).trans h23
  have h25 := (hF 25 (by decide)).trans h25
  have h86 := (hF 86 (by decide)).trans h86
  have h87 := (hF 87 (by decide)).trans h87
  have h88 := (hF 88 (by decide)).trans h88
  have hFF := kF_st hFF hF (by first | decide | simp)
  refine lv_aload_n C.1 C.2.1 dX6_copyFrom_15 rfl (lv_at hl 1 rfl) ?_
  refine k_get C hw 86 (by omega) h86 rfl inlX6 1 (by decide) q_90 rfl dX6_copyFrom_16 ?_
  refine lv_iconst (v := nI 0) C.1 C.2.1 dX6_copyFrom_19 (by decide) ?_
  refine lv_aload_n C.1 C.2.1 dX6_copyFrom_20 rfl (lv_at hl 0 rfl) ?_
  refine k_get C hw 23 (by omega) h23 rfl inlX6 1 (by decide) q_90 rfl dX6_copyFrom_21 ?_
  refine lv_iconst (v := nI 0) C.1 C.2.1 dX6_copyFrom_24 (by decide) ?_
  refine lv_bipush (v := nI 100) C.1 C.2.1 dX6_copyFrom_25 (by decide) ?_
  refine k_copyl C hw hl.1 q_607 q_276 q_277 q_278 88 25 (by omega) (by omega) h88 h25 (by omega) (by omega) (by decide) (by decide) (Nat.le_of_ble_eq_true rfl) (by decide) dX6_copyFrom_27 (fun M_2 H locs hw h25 hF => ?_)
  have h23 := (hF 23 (by decide)).trans h23
  have h24 := (hF 24 (by decide)).trans h24
  have h86 := (hF 86 (by decide)).trans h86
  have h87 := (hF 87 (by decide)).trans h87
  have h88 := (hF 88 (by decide)).trans h88
  have hFF := kF_st hFF hF (by first | decide | simp)
  obtain ⟨M_3, hw, h24, hF⟩ := k_extI hw 24 (by omega) h24 (ct1) (fun j hj => cpy00 hj)
  have h23 := (hF 23 (by decide)).trans h23
  have h25 := (hF 25 (by decide)).trans h25
  have h86 := (hF 86 (by decide)).trans h86
  have h87 := (hF 87 (by decide)).trans h87
  have h88 := (hF 88 (by decide)).trans h88
  have hFF := kF_st hFF hF (by first | decide | simp)
  obtain ⟨M_4, hw, h25, hF⟩ := k_extJ hw 25 (by omega) h25 (su1) (fun j hj => cpy00 hj)
  have h23 := (hF 23 (by decide)).trans h23
  have h24 := (hF 24 (by decide)).trans h24
  have h86 := (hF 86 (by decide)).trans h86
  have h87 := (hF 87 (by decide)).trans h87
  have h88 := (hF 88 (by decide)).trans h88
  have hFF := kF_st hFF hF (by first | decide | simp)
  exact hret _ _ (Nat.le_of_ble_eq_true rfl) (Nat.le_of_ble_eq_true rfl) hw (⟨rfl, hFF, h24, h25⟩) dX6_copyFrom_30

set_option maxHeartbeats 4000000 in
set_option maxRecDepth 100000 in
theorem c_X5_copyFrom_22_85 {l : Launch} {D : va_G} {cI cJ cZ cH cR : ClassId} {b : Nat} {n : Nat} {M : Nat → va_E}  {rs : Nat} {ca : Nat} {rn : Nat → Int32} {rk : Nat → Int32} {rv : Nat → Int32} {rs1 : Nat} {ca1 : Nat} {rn1 : Nat → Int32} {rk1 : Nat → Int32} {rv1 : Nat → Int32}  (hn : 93 ≤ n) (h26 : M 26 = .inr (5, [.ref (b + 27), .ref (b + 28), .ref (b + 29), .int (nI rs), .int (nI ca)])) (h27 : M 27 = .inl (cI, 400, .inl rn)) (h28 : M 28 = .inl (cI, 400, .inl rk)) (h29 : M 29 = .inl (cI, 400, .inl rv)) (h89 : M 89 = .inr (5, [.ref (b + 90), .ref (b + 91), .ref (b + 92), .int (nI rs1), .int (nI ca1)])) (h90 : M 90 = .inl (cI, 400, .inl rn1)) (h91 : M 91 = .inl (cI, 400, .inl rk1)) (h92 : M 92 = .inl (cI, 400, .inl rv1))  (hs : rs1 ≤ 400) : Met l yX5_copyFrom (kw yX5_copyFrom cX5_copyFrom 2 none) ({ frames := 1, cells := 0, slots := 0, locals := 40 }) (va_Pc [.ref (b + 26), .ref (b + 89)] (kPre D (kT cI cJ cZ cH cR) b M n)) (va_Qv (fun (u : (Nat → va_E) × Nat) => u.2 = n ∧ kF [26, 27, 28, 29] M u.1 ∧ u.1 26 = .inr (5, [.ref (b + 27), .ref (b + 28), .ref (b + 29), .int (nI rs1), .int (nI ca1)]) ∧ u.1 27 = .inl (cI, 400, .inl (va_cpy rn1 rn 0 0 rs1)) ∧ u.1 28 = .inl (cI, 400, .inl (va_cpy rk1 rk 0 0 rs1)) ∧ u.1 29 = .inl (cI, 400, .inl (va_cpy rv1 rv 0 0 rs1))) (kB D (kT cI cJ cZ cH cR) b) (kA b)) 0 0 (kA b) := by
  refine k_metV (by decide +kernel) (Nat.le_of_ble_eq_true rfl) ?_
  intro p e s m below meth c ls Q C hw hret hnm hl
  have hl : lv_has ls 2 [(0, .ref (b + 26)), (1, .ref (b + 89))] := hl
  have hFF : kF [26, 27, 28, 29] M M := kF_rf
  refine lv_aload_n C.1 C.2.1 dX5_copyFrom_0 rfl (lv_at hl 1 rfl) ?_
  refine k_get C hw 89 (by omega) h89 rfl inlX5 0 (by decide) q_95 rfl dX5_copyFrom_1 ?_
  refine lv_iconst (v := nI 0) C.1 C.2.1 dX5_copyFrom_4 (by decide) ?_
  refine lv_aload_n C.1 C.2.1 dX5_copyFrom_5 rfl (lv_at hl 0 rfl) ?_
  refine k_get C hw 26 (by omega) h26 rfl inlX5 0 (by decide) q_95 rfl dX5_copyFrom_6 ?_
  refine lv_iconst (v := nI 0) C.1 C.2.1 dX5_copyFrom_9 (by decide) ?_
  refine lv_aload_n C.1 C.2.1 dX5_copyFrom_10 rfl (lv_at hl 1 rfl) ?_
  refine k_get C hw 89 (by omega) h89 rfl inlX5 3 (by decide) q_239 rfl dX5_copyFrom_11 ?_
  refine k_copyi C hw hl.1 q_275 q_276 q_277 q_278 90 27 (by omega) (by omega) h90 h27 (by omega) (by omega) (by decide) (by decide) (Nat.le_of_ble_eq_true rfl) (by decide) dX5_copyFrom_14 (fun M_1 H locs hw h27 hF => ?_)
  have h26 := (hF 26 (by decide)).trans h26
  have h28 := (hF 28 (by decide)).trans h28
  have h29 := (hF 29 (by decide)).trans h29
  have h89 := (hF 89 (by decide)).trans h89
  have h90 := (hF 90 (by decide)).trans h90
  have h91 := (hF 91 (by decide)).trans h91
  have h92 := (hF 92 (by decide)).trans h92
  have hFF := kF_st hFF hF (by first | decide | simp)
  refine lv_aload_n C.1 C.2.1 dX5_copyFrom_17 rfl (lv_at hl 1 rfl) ?_
  refine k_get C hw 89 (by omega) h89 rfl inlX5 1 (by decide) q_96 rfl dX5_copyFrom_18 ?_
  refine lv_iconst (v := nI 0) C.1 C.2.1 dX5_copyFrom_21 (by decide) ?_
  refine lv_aload_n C.1 C.2.1 dX5_copyFrom_22 rfl (lv_at hl 0 rfl) ?_
  refine k_get C hw 26 (by omega) h26 rfl inlX5 1 (by decide) q_96 rfl dX5_copyFrom_23 ?_
  refine lv_iconst (v := nI 0) C.1 C.2.1 dX5_copyFrom_26 (by decide) ?_
  refine lv_aload_n C.1 C.2.1 dX5_copyFrom_27 rfl (lv_at hl 1 rfl) ?_
  refine k_get C hw 89 (by omega) h89 rfl inlX5 3 (by decide) q_239 rfl dX5_copyFrom_28 ?_
  refine k_copyi C hw hl.1 q_275 q_276 q_277 q_278 91 28 (by omega) (by omega) h91 h28 (by omega) (by omega) (by decide) (by decide) (Nat.le_of_ble_eq_true rfl) (by decide) dX5_copyFrom_31 (fun M_2 H locs hw h28 hF => ?_)
  have h26 := (hF 26 (by decide)).trans h26
  have h27 := (hF 27 (by decide)).trans h27
  have h29 := (hF 29 (by decide)).trans h29
  have h89 := (hF 89 (by decide)).trans h89
  have h90 := (hF 90 (by decide)).trans h90
  have h91 := (hF 91 (by decide)).trans h91
  have h92 := (hF 92 (by decide)).trans h92
  have hFF := kF_st hFF hF (by first | decide | simp)
  refine lv_aload_n C.1 C.2.1 dX5_copyFrom_34 rfl (lv_at hl 1 rfl) ?_
  refine k_get C hw 89 (by omega) h89 rfl inlX5 2 (by decide) q_97 rfl dX5_copyFrom_35 ?_
  refine lv_iconst (v := nI 0) C.1 C.2.1 dX5_copyFrom_38 (by decide) ?_
  refine lv_aload_n C.1 C.2.1 dX5_copyFrom_39 rfl (lv_at hl 0 rfl) ?_
  refine k_get C hw 26 (by omega) h26 rfl inlX5 2 (by decide) q_97 rfl dX5_copyFrom_40 ?_
  refine lv_iconst (v := nI 0) C.1 C.2.1 dX5_copyFrom_43 (by decide) ?_
  refine lv_aload_n C.1 C.2.1 dX5_copyFrom_44 rfl (lv_at hl 1 rfl) ?_
  refine k_get C hw 89 (by omega) h89 rfl inlX5 3 (by decide) q_239 rfl dX5_copyFrom_45 ?_
  refine k_copyi C hw hl.1 q_275 q_276 q_277 q_278 92 29 (by omega) (by omega) h92 h29 (by omega) (by omega) (by decide) (by decide) (Nat.le_of_ble_eq_true rfl) (by decide) dX5_copyFrom_48 (fun M_3 H locs hw h29 hF => ?_)
  have h26 := (hF 26 (by decide)).trans h26
  have h27 := (hF 27 (by decide)).trans h27
  have h28 := (hF 28 (by decide)).trans h28
  have h89 := (hF 89 (by decide)).trans h89
  have h90 := (hF 90 (by decide)).trans h90
  have h91 := (hF 91 (by decide)).trans h91
  have h92 := (hF 92 (by decide)).trans h92
  have hFF := kF_st hFF hF (by first | decide | simp)
  refine lv_aload_n C.1 C.2.1 dX5_copyFrom_51 rfl (lv_at hl 0 rfl) ?_
  refine lv_aload_n C.1 C.2.1 dX5_copyFrom_52 rfl (lv_at hl 1 rfl) ?_
  refine k_get C hw 89 (by omega) h89 rfl inlX5 3 (by decide) q_239 rfl dX5_copyFrom_53 ?_
  refine k_put (tf := .int) C hw 26 (by omega) h26 rfl inlX5 tyX5 tyX5_ok nmX5 3 (by decide) q_239 rfl (by decide +kernel) rfl rfl (Nat.le_of_ble_eq_true rfl) dX5_copyFrom_56 (fun M_4 H locs hw h26 hF => ?_)
  have h26 : M_4 26 = .inr (5, [.ref (b + 27), .ref (b + 28), .ref (b + 29), .int (nI rs1), .int (nI ca)]) := h26
  have h27 := (hF 27 (by decide)).trans h27
  have h28 := (hF 28 (by decide)).trans h28
  have h29 := (hF 29 (by decide)).trans h29
  have h89 := (hF 89 (by decide)).trans h89
  have h90 := (hF 90 (by decide)).trans h90
  have h91 := (hF 91 (by decide)).trans h91
  have h92 := (hF 92 (by decide)).trans h92
  have hFF := kF_st hFF hF (by first | decide | simp)
  refine lv_aload_n C.1 C.2.1 dX5_copyFrom_59 rfl (lv_at hl 0 rfl) ?_
  refine lv_aload_n C.1 C.2.1 dX5_copyFrom_60 rfl (lv_at hl 1 rfl) ?_
  refine k_get C hw 89 (by omega) h89 rfl inlX5 4 (by decide) q_240 rfl dX5_copyFrom_61 ?_
  refine k_put (tf := .int) C hw 26 (by omega) h26 rfl inlX5 tyX5 tyX5_ok nmX5 4 (by decide) q_240 rfl (by decide +kernel) rfl rfl (Nat.le_of_ble_eq_true rfl) dX5_copyFrom_64 (fun M_5 H locs hw h26 hF => ?_)
  have h26 : M_5 26 = .inr (5, [.ref (b + 27), .ref (b + 28), .ref (b + 29), .int (nI rs1), .int (nI ca1)]) := h26
  have h27 := (hF 27 (by decide)).trans h27
  have h28 := (hF 28 (by decide)).trans h28
  have h29 := (hF 29 (by decide)).trans h29
  have h89 := (hF 89 (by decide)).trans h89
  have h90 := (hF 90 (by decide)).trans h90
  have h91 := (hF 91 (by decide)).trans h91
  have h92 := (hF 92 (by decide)).trans h92
  have hFF := kF_st hFF hF (by first | decide | simp)
  exact hret _ _ (Nat.le_of_ble_eq_true rfl) (Nat.le_of_ble_eq_true rfl) hw (⟨rfl, hFF, h26, h27, h28, h29⟩) dX5_copyFrom_67

set_option maxHeartbeats 4000000 in
set_option maxRecDepth 100000 in
theorem c_X7_copyFrom_22_85 {l : Launch} {D : va_G} {cI cJ cZ cH cR : ClassId} {b : Nat} {n : Nat} {M : Nat → va_E}  {ts : Nat} {tr : Int32} {tk : Nat → Int32} {tt : Nat → Int32} {ts1 : Nat} {tr1 : Int32} {tk1 : Nat → Int32} {tt1 : Nat → Int32}  (hn : 96 ≤ n) (h30 : M 30 = .inr (7, [.ref (b + 31), .ref (b + 32), .int (nI ts), .int tr])) (h31 : M 31 = .inl (cI, 40, .inl tk)) (h32 : M 32 = .inl (cI, 40, .inl tt)) (h93 : M 93 = .inr (7, [.ref (b + 94), .ref (b + 95), .int (nI ts1), .int tr1])) (h94 : M 94 = .inl (cI, 40, .inl tk1)) (h95 : M 95 = .inl (cI, 40, .inl tt1))  (ht : ts1 ≤ 40) : Met l yX7_copyFrom (kw yX7_copyFrom cX7_copyFrom 2 none) ({ frames := 1, cells := 0, slots := 0, locals := 40 }) (va_Pc [.ref (b + 30), .ref (b + 93)] (kPre D (kT cI cJ cZ cH cR) b M n)) (va_Qv (fun (u : (Nat → va_E) × Nat) => u.2 = n ∧ kF [30, 31, 32] M u.1 ∧ u.1 30 = .inr (7, [.ref (b + 31), .ref (b + 32), .int (nI ts1), .int (tr1)]) ∧ u.1 31 = .inl (cI, 40, .inl (va_cpy tk1 tk 0 0 ts1)) ∧ u.1 32 = .inl (cI, 40, .inl (va_cpy tt1 tt 0 0 ts1))) (kB D (kT cI cJ cZ cH cR) b) (kA b)) 0 0 (kA b) := by
  refine k_metV (by decide +kernel) (Nat.le_of_ble_eq_true rfl) ?_
  intro p e s m below meth c ls Q C hw hret hnm hl
  have hl : lv_has ls 2 [(0, .ref (b + 30)), (1, .ref (b + 93))] := hl
  have hFF : kF [30, 31, 32] M M := kF_rf
  refine lv_aload_n C.1 C.2.1 dX7_copyFrom_0 rfl (lv_at hl 1 rfl) ?_
  refine k_get C hw 93 (by omega) h93 rfl inlX7 0 (by decide) q_102 rfl dX7_copyFrom_1 ?_
  refine lv_iconst (v := nI 0) C.1 C.2.1 dX7_copyFrom_4 (by decide) ?_
  refine lv_aload_n C.1 C.2.1 dX7_copyFrom_5 rfl (lv_at hl 0 rfl) ?_
  refine k_get C hw 30 (by omega) h30 rfl inlX7 0 (by decide) q_102 rfl dX7_copyFrom_6 ?_
  refine lv_iconst (v := nI 0) C.1 C.2.1 dX7_copyFrom_9 (by decide) ?_
  refine lv_aload_n C.1 C.2.1 dX7_copyFrom_10 rfl (lv_at hl 1 rfl) ?_
  refine k_get C hw 93 (by omega) h93 rfl inlX7 2 (by decide) q_498 rfl dX7_copyFrom_11 ?_
  refine k_copyi C hw hl.1 q_499 q_276 q_277 q_278 94 31 (by omega) (by omega) h94 h31 (by omega) (by omega) (by decide) (by decide) (Nat.le_of_ble_eq_true rfl) (by decide) dX7_copyFrom_14 (fun M_1 H locs hw h31 hF => ?_)
  have h30 := (hF 30 (by decide)).trans h30
  have h32 := (hF 32 (by decide)).trans h32
  have h93 := (hF 93 (by decide)).trans h93
  have h94 := (hF 94 (by decide)).trans h94
  have h95 := (hF 95 (by decide)).trans h95
  have hFF := kF_st hFF hF (by first | decide | simp)
  refine lv_aload_n C.1 C.2.1 dX7_copyFrom_17 rfl (lv_at hl 1 rfl) ?_
  refine k_get C hw 93 (by omega) h93 rfl inlX7 1 (by decide) q_103 rfl dX7_copyFrom_18 ?_
  refine lv_iconst (v := nI 0) C.1 C.2.1 dX7_copyFrom_21 (by decide) ?_
  refine lv_aload_n C.1 C.2.1 dX7_copyFrom_22 rfl (lv_at hl 0 rfl) ?_
  refine k_get C hw 30 (by omega) h30 rfl inlX7 1 (by decide) q_103 rfl dX7_copyFrom_23 ?_
  refine lv_iconst (v := nI 0) C.1 C.2.1 dX7_copyFrom_26 (by decide) ?_
  refine lv_aload_n C.1 C.2.1 dX7_copyFrom_27 rfl (lv_at hl 1 rfl) ?_
  refine k_get C hw 93 (by omega) h93 rfl inlX7 2 (by decide) q_498 rfl dX7_copyFrom_28 ?_
  refine k_copyi C hw hl.1 q_499 q_276 q_277 q_278 95 32 (by omega) (by omega) h95 h32 (by omega) (by omega) (by decide) (by decide) (Nat.le_of_ble_eq_true rfl) (by decide) dX7_copyFrom_31 (fun M_2 H locs hw h32 hF => ?_)
  have h30 := (hF 30 (by decide)).trans h30
  have h31 := (hF 31 (by decide)).trans h31
  have h93 := (hF 93 (by decide)).trans h93
  have h94 := (hF 94 (by decide)).trans h94
  have h95 := (hF 95 (by decide)).trans h95
  have hFF := kF_st hFF hF (by first | decide | simp)
  refine lv_aload_n C.1 C.2.1 dX7_copyFrom_34 rfl (lv_at hl 0 rfl) ?_
  refine lv_aload_n C.1 C.2.1 dX7_copyFrom_35 rfl (lv_at hl 1 rfl) ?_
  refine k_get C hw 93 (by omega) h93 rfl inlX7 2 (by decide) q_498 rfl dX7_copyFrom_36 ?_
  refine k_put (tf := .int) C hw 30 (by omega) h30 rfl inlX7 tyX7 tyX7_ok nmX7 2 (by decide) q_498 rfl (by decide +kernel) rfl rfl (Nat.le_of_ble_eq_true rfl) dX7_copyFrom_39 (fun M_3 H locs hw h30 hF => ?_)
  have h30 : M_3 30 = .inr (7, [.ref (b + 31), .ref (b + 32), .int (nI ts1), .int tr]) := h30
  have h31 := (hF 31 (by decide)).trans h31
  have h32 := (hF 32 (by decide)).trans h32
  have h93 := (hF 93 (by decide)).trans h93
  have h94 := (hF 94 (by decide)).trans h94
  have h95 := (hF 95 (by decide)).trans h95
  have hFF := kF_st hFF hF (by first | decide | simp)
  refine lv_aload_n C.1 C.2.1 dX7_copyFrom_42 rfl (lv_at hl 0 rfl) ?_
  refine lv_aload_n C.1 C.2.1 dX7_copyFrom_43 rfl (lv_at hl 1 rfl) ?_
  refine k_get C hw 93 (by omega) h93 rfl inlX7 3 (by decide) q_616 rfl dX7_copyFrom_44 ?_
  refine k_put (tf := .int) C hw 30 (by omega) h30 rfl inlX7 tyX7 tyX7_ok nmX7 3 (by decide) q_616 rfl (by decide +kernel) rfl rfl (Nat.le_of_ble_eq_true rfl) dX7_copyFrom_47 (fun M_4 H locs hw h30 hF => ?_)
  have h30 : M_4 30 = .inr (7, [.ref (b + 31), .ref (b + 32), .int (nI ts1), .int tr1]) := h30
  have h31 := (hF 31 (by decide)).trans h31
  have h32 := (hF 32 (by decide)).trans h32
  have h93 := (hF 93 (by decide)).trans h93
  have h94 := (hF 94 (by decide)).trans h94
  have h95 := (hF 95 (by decide)).trans h95
  have hFF := kF_st hFF hF (by first | decide | simp)
  exact hret _ _ (Nat.le_of_ble_eq_true rfl) (Nat.le_of_ble_eq_true rfl) hw (⟨rfl, hFF, h30, h31, h32⟩) dX7_copyFrom_50

set_option maxHeartbeats 4000000 in
set_option maxRecDepth 100000 in
theorem c_X0_copyFrom_22_85 {l : Launch} {D : va_G} {cI cJ cZ cH cR : ClassId} {b : Nat} {n : Nat} {M : Nat → va_E}  {ct : Nat → Int32} {su : Nat → Int64} {rs : Nat} {ca : Nat} {rn : Nat → Int32} {rk : Nat → Int32} {rv : Nat → Int32} {ts : Nat} {tr : Int32} {tk : Nat → Int32} {tt : Nat → Int32} {ct1 : Nat → Int32} {su1 : Nat → Int64} {rs1 : Nat} {ca1 : Nat} {rn1 : Nat → Int32} {rk1 : Nat → Int32} {rv1 : Nat → Int32} {ts1 : Nat} {tr1 : Int32} {tk1 : Nat → Int32} {tt1 : Nat → Int32}  (hn : 96 ≤ n) (h22 : M 22 = .inr (0, [.ref (b + 23), .ref (b + 26), .ref (b + 30)])) (h23 : M 23 = .inr (6, [.ref (b + 24), .ref (b + 25)])) (h24 : M 24 = .inl (cI, 100, .inl ct)) (h25 : M 25 = .inl (cJ, 100, .inr (.inl su))) (h26 : M 26 = .inr (5, [.ref (b + 27), .ref (b + 28), .ref (b + 29), .int (nI rs), .int (nI ca)])) (h27 : M 27 = .inl (cI, 400, .inl rn)) (h28 : M 28 = .inl (cI, 400, .inl rk)) (h29 : M 29 = .inl (cI, 400, .inl rv)) (h30 : M 30 = .inr (7, [.ref (b + 31), .ref (b + 32), .int (nI ts), .int tr])) (h31 : M 31 = .inl (cI, 40, .inl tk)) (h32 : M 32 = .inl (cI, 40, .inl tt)) (h85 : M 85 = .inr (0, [.ref (b + 86), .ref (b + 89), .ref (b + 93)])) (h86 : M 86 = .inr (6, [.ref (b + 87), .ref (b + 88)])) (h87 : M 87 = .inl (cI, 100, .inl ct1)) (h88 : M 88 = .inl (cJ, 100, .inr (.inl su1))) (h89 : M 89 = .inr (5, [.ref (b + 90), .ref (b + 91), .ref (b + 92), .int (nI rs1), .int (nI ca1)])) (h90 : M 90 = .inl (cI, 400, .inl rn1)) (h91 : M 91 = .inl (cI, 400, .inl rk1)) (h92 : M 92 = .inl (cI, 400, .inl rv1)) (h93 : M 93 = .inr (7, [.ref (b + 94), .ref (b + 95), .int (nI ts1), .int tr1])) (h94 : M 94 = .inl (cI, 40, .inl tk1)) (h95 : M 95 = .inl (cI, 40, .inl tt1))  (hs : rs1 ≤ 400) (ht : ts1 ≤ 40) : Met l yX0_copyFrom (kw yX0_copyFrom cX0_copyFrom 2 none) ({ frames := 2, cells := 0, slots := 0, locals := 61 }) (va_Pc [.ref (b + 22), .ref (b + 85)] (kPre D (kT cI cJ cZ cH cR) b M n)) (va_Qv (fun (u : (Nat → va_E) × Nat) => u.2 = n ∧ kF [24, 25, 26, 27, 28, 29, 30, 31, 32] M u.1 ∧ u.1 24 = .inl (cI, 100, .inl ct1) ∧ u.1 25 = .inl (cJ, 100, .inr (.inl su1)) ∧ u.1 26 = .inr (5, [.ref (b + 27), .ref (b + 28), .ref (b + 29), .int (nI rs1), .int (nI ca1)]) ∧ u.1 27 = .inl (cI, 400, .inl (va_cpy rn1 rn 0 0 rs1)) ∧ u.1 28 = .inl (cI, 400, .inl (va_cpy rk1 rk 0 0 rs1)) ∧ u.1 29 = .inl (cI, 400, .inl (va_cpy rv1 rv 0 0 rs1)) ∧ u.1 30 = .inr (7, [.ref (b + 31), .ref (b + 32), .int (nI ts1), .int (tr1)]) ∧ u.1 31 = .inl (cI, 40, .inl (va_cpy tk1 tk 0 0 ts1)) ∧ u.1 32 = .inl (cI, 40, .inl (va_cpy tt1 tt 0 0 ts1))) (kB D (kT cI cJ cZ cH cR) b) (kA b)) 0 0 (kA b) := by
  refine k_metV (by decide +kernel) (Nat.le_of_ble_eq_true rfl) ?_
  intro p e s m below meth c ls Q C hw hret hnm hl
  have hl : lv_has ls 2 [(0, .ref (b + 22)), (1, .ref (b + 85))] := hl
  have hFF : kF [24, 25, 26, 27, 28, 29, 30, 31, 32] M M := kF_rf
  refine lv_aload_n C.1 C.2.1 dX0_copyFrom_0 rfl (lv_at hl 0 rfl) ?_
  refine k_get C hw 22 (by omega) h22 rfl inlX0 0 (by decide) q_75 rfl dX0_copyFrom_1 ?_
  refine lv_aload_n C.1 C.2.1 dX0_copyFrom_4 rfl (lv_at hl 1 rfl) ?_
  refine k_get C hw 85 (by omega) h85 rfl inlX0 0 (by decide) q_75 rfl dX0_copyFrom_5 ?_
  refine k_vv C hw 23 (by omega) h23 rfl (c_X6_copyFrom_22_85 (by omega) h23 h24 h25 h86 h87 h88  ) kv_X0_35 rfl hl.1 ⟨Nat.le_of_ble_eq_true rfl, Nat.le_of_ble_eq_true rfl⟩ (Nat.le_of_ble_eq_true rfl) ⟨Nat.le_of_ble_eq_true rfl, Nat.le_of_ble_eq_true rfl⟩ dX0_copyFrom_8 (fun M_1 n9 H locs hp hw => ?_)
  obtain ⟨en9, hF, h24, h25⟩ := hp
  have en9 : n9 = n := en9
  rw [en9] at hw
  have h22 := (hF 22 (by decide)).trans h22
  have h23 := (hF 23 (by decide)).trans h23
  have h26 := (hF 26 (by decide)).trans h26
  have h27 := (hF 27 (by decide)).trans h27
  have h28 := (hF 28 (by decide)).trans h28
  have h29 := (hF 29 (by decide)).trans h29
  have h30 := (hF 30 (by decide)).trans h30
  have h31 := (hF 31 (by decide)).trans h31
  have h32 := (hF 32 (by decide)).trans h32
  have h85 := (hF 85 (by decide)).trans h85
  have h86 := (hF 86 (by decide)).trans h86
  have h87 := (hF 87 (by decide)).trans h87
  have h88 := (hF 88 (by decide)).trans h88
  have h89 := (hF 89 (by decide)).trans h89
  have h90 := (hF 90 (by decide)).trans h90
  have h91 := (hF 91 (by decide)).trans h91
  have h92 := (hF 92 (by decide)).trans h92
  have h93 := (hF 93 (by decide)).trans h93
  have h94 := (hF 94 (by decide)).trans h94
  have h95 := (hF 95 (by decide)).trans h95
  have hFF := kF_st hFF hF (by first | decide | simp)
  refine lv_aload_n C.1 C.2.1 dX0_copyFrom_11 rfl (lv_at hl 0 rfl) ?_
  refine k_get C hw 22 (by omega) h22 rfl inlX0 1 (by decide) q_79 rfl dX0_copyFrom_12 ?_
  refine lv_aload_n C.1 C.2.1 dX0_copyFrom_15 rfl (lv_at hl 1 rfl) ?_
  refine k_get C hw 85 (by omega) h85 rfl inlX0 1 (by decide) q_79 rfl dX0_copyFrom_16 ?_
  refine k_vv C hw 26 (by omega) h26 rfl (c_X5_copyFrom_22_85 (by omega) h26 h27 h28 h29 h89 h90 h91 h92  (by omega)) kv_X0_39 rfl hl.1 ⟨Nat.le_of_ble_eq_true rfl, Nat.le_of_ble_eq_true rfl⟩ (Nat.le_of_ble_eq_true rfl) ⟨Nat.le_of_ble_eq_true rfl, Nat.le_of_ble_eq_true rfl⟩ dX0_copyFrom_19 (fun M_2 n9 H locs hp hw => ?_)
  obtain ⟨en9, hF, h26, h27, h28, h29⟩ := hp
  have en9 : n9 = n := en9
  rw [en9] at hw
  have h22 := (hF 22 (by decide)).trans h22
  have h23 := (hF 23 (by decide)).trans h23
  have h24 := (hF 24 (by decide)).trans h24
  have h25 := (hF 25 (by decide)).trans h25
  have h30 := (hF 30 (by decide)).trans h30
  have h31 := (hF 31 (by decide)).trans h31
  have h32 := (hF 32 (by decide)).trans h32
  have h85 := (hF 85 (by decide)).trans h85
  have h86 := (hF 86 (by decide)).trans h86
  have h87 := (hF 87 (by decide)).trans h87
  have h88 := (hF 88 (by decide)).trans h88
  have h89 := (hF 89 (by decide)).trans h89
  have h90 := (hF 90 (by decide)).trans h90
  have h91 := (hF 91 (by decide)).trans h91
  have h92 := (hF 92 (by decide)).trans h92
  have h93 := (hF 93 (by decide)).trans h93
  have h94 := (hF 94 (by decide)).trans h94
  have h95 := (hF 95 (by decide)).trans h95
  have hFF := kF_st hFF hF (by first | decide | simp)
  refine lv_aload_n C.1 C.2.1 dX0_copyFrom_22 rfl (lv_at hl 0 rfl) ?_
  refine k_get C hw 22 (by omega) h22 rfl inlX0 2 (by decide) q_83 rfl dX0_copyFrom_23 ?_
  refine lv_aload_n C.1 C.2.1 dX0_copyFrom_26 rfl (lv_at hl 1 rfl) ?_
  refine k_get C hw 85 (by omega) h85 rfl inlX0 2 (by decide) q_83 rfl dX0_copyFrom_27 ?_
  refine k_vv C hw 30 (by omega) h30 rfl (c_X7_copyFrom_22_85 (by omega) h30 h31 h32 h93 h94 h95  (by omega)) kv_X0_42 rfl hl.1 ⟨Nat.le_of_ble_eq_true rfl, Nat.le_of_ble_eq_true rfl⟩ (Nat.le_of_ble_eq_true rfl) ⟨Nat.le_of_ble_eq_true rfl, Nat.le_of_ble_eq_true rfl⟩ dX0_copyFrom_30 (fun M_3 n9 H locs hp hw => ?_)
  obtain ⟨en9, hF, h30, h31, h32⟩ := hp
  have en9 : n9 = n := en9
  rw [en9] at hw
  have h22 := (hF 22 (by decide)).trans h22
  have h23 := (hF 23 (by decide)).trans h23
  have h24 := (hF 24 (by decide)).trans h24
  have h25 := (hF 25 (by decide)).trans h25
  have h26 := (hF 26 (by decide)).trans h26
  have h27 := (hF 27 (by decide)).trans h27
  have h28 := (hF 28 (by decide)).trans h28
  have h29 := (hF 29 (by decide)).trans h29
  have h85 := (hF 85 (by decide)).trans h85
  have h86 := (hF 86 (by decide)).trans h86
  have h87 := (hF 87 (by decide)).trans h87
  have h88 := (hF 88 (by decide)).trans h88
  have h89 := (hF 89 (by decide)).trans h89
  have h90 := (hF 90 (by decide)).trans h90
  have h91 := (hF 91 (by decide)).trans h91
  have h92 := (hF 92 (by decide)).trans h92
  have h93 := (hF 93 (by decide)).trans h93
  have h94 := (hF 94 (by decide)).trans h94
  have h95 := (hF 95 (by decide)).trans h95
  have hFF := kF_st hFF hF (by first | decide | simp)
  exact hret _ _ (Nat.le_of_ble_eq_true rfl) (Nat.le_of_ble_eq_true rfl) hw (⟨rfl, hFF, h24, h25, h26, h27, h28, h29, h30, h31, h32⟩) dX0_copyFrom_33

set_option maxHeartbeats 4000000 in
set_option maxRecDepth 100000 in
theorem c_X6_copyFrom_22_96 {l : Launch} {D : va_G} {cI cJ cZ cH cR : ClassId} {b : Nat} {n : Nat} {M : Nat → va_E}  {ct : Nat → Int32} {su : Nat → Int64} {ct2 : Nat → Int32} {su2 : Nat → Int64}  (hn : 100 ≤ n) (h23 : M 23 = .inr (6, [.ref (b + 24), .ref (b + 25)])) (h24 : M 24 = .inl (cI, 100, .inl ct)) (h25 : M 25 = .inl (cJ, 100, .inr (.inl su))) (h97 : M 97 = .inr (6, [.ref (b + 98), .ref (b + 99)])) (h98 : M 98 = .inl (cI, 100, .inl ct2)) (h99 : M 99 = .inl (cJ, 100, .inr (.inl su2)))   : Met l yX6_copyFrom (kw yX6_copyFrom cX6_copyFrom 2 none) ({ frames := 1, cells := 0, slots := 0, locals := 40 }) (va_Pc [.ref (b + 23), .ref (b + 97)] (kPre D (kT cI cJ cZ cH cR) b M n)) (va_Qv (fun (u : (Nat → va_E) × Nat) => u.2 = n ∧ kF [24, 25] M u.1 ∧ u.1 24 = .inl (cI, 100, .inl ct2) ∧ u.1 25 = .inl (cJ, 100, .inr (.inl su2))) (kB D (kT cI cJ cZ cH cR) b) (kA b)) 0 0 (kA b) := by
  refine k_metV (by decide +kernel) (Nat.le_of_ble_eq_true rfl) ?_
  intro p e s m below meth c ls Q C hw hret hnm hl
  have hl : lv_has ls 2 [(0, .ref (b + 23)), (1, .ref (b + 97))] := hl
  have hFF : kF [24, 25] M M := kF_rf
  refine lv_aload_n C.1 C.2.1 dX6_copyFrom_0 rfl (lv_at hl 1 rfl) ?_
  refine k_get C hw 97 (by omega) h97 rfl inlX6 0 (by decide) q_88 rfl dX6_copyFrom_1 ?_
  refine lv_iconst (v := nI 0) C.1 C.2.1 dX6_copyFrom_4 (by decide) ?_
  refine lv_aload_n C.1 C.2.1 dX6_copyFrom_5 rfl (lv_at hl 0 rfl) ?_
  refine k_get C hw 23 (by omega) h23 rfl inlX6 0 (by decide) q_88 rfl dX6_copyFrom_6 ?_
  refine lv_iconst (v := nI 0) C.1 C.2.1 dX6_copyFrom_9 (by decide) ?_
  refine lv_bipush (v := nI 100) C.1 C.2.1 dX6_copyFrom_10 (by decide) ?_
  refine k_copyi C hw hl.1 q_607 q_276 q_277 q_278 98 24 (by omega) (by omega) h98 h24 (by omega) (by omega) (by decide) (by decide) (Nat.le_of_ble_eq_true rfl) (by decide) dX6_copyFrom_12 (fun M_1 H locs hw h24 hF => ?_)
  have h23 := (hF 23 (by decide)).trans h23
  have h25 := (hF 25 (by decide)).trans h25
  have h97 := (hF 97 (by decide)).trans h97
  have h98 := (hF 98 (by decide)).trans h98
  have h99 := (hF 99 (by decide)).trans h99
  have hFF := kF_st hFF hF (by first | decide | simp)
  refine lv_aload_n C.1 C.2.1 dX6_copyFrom_15 rfl (lv_at hl 1 rfl) ?_
  refine k_get C hw 97 (by omega) h97 rfl inlX6 1 (by decide) q_90 rfl dX6_copyFrom_16 ?_
  refine lv_iconst (v := nI 0) C.1 C.2.1 dX6_copyFrom_19 (by decide) ?_
  refine lv_aload_n C.1 C.2.1 dX6_copyFrom_20 rfl (lv_at hl 0 rfl) ?_
  refine k_get C hw 23 (by omega) h23 rfl inlX6 1 (by decide) q_90 rfl dX6_copyFrom_21 ?_
  refine lv_iconst (v := nI 0) C.1 C.2.1 dX6_copyFrom_24 (by decide) ?_
  refine lv_bipush (v := nI 100) C.1 C.2.1 dX6_copyFrom_25 (by decide) ?_
  refine k_copyl C hw hl.1 q_607 q_276 q_277 q_278 99 25 (by omega) (by omega) h99 h25 (by omega) (by omega) (by decide) (by decide) (Nat.le_of_ble_eq_true rfl) (by decide) dX6_copyFrom_27 (fun M_2 H locs hw h25 hF => ?_)
  have h23 := (hF 23 (by decide)).trans h23
  have h24 := (hF 24 (by decide)).trans h24
  have h97 := (hF 97 (by decide)).trans h97
  have h98 := (hF 98 (by decide)).trans h98
  have h99 := (hF 99 (by decide)).trans h99
  have hFF := kF_st hFF hF (by first | decide | simp)
  obtain ⟨M_3, hw, h24, hF⟩ := k_extI hw 24 (by omega) h24 (ct2) (fun j hj => cpy00 hj)
  have h23 := (hF 23 (by decide)).trans h23
  have h25 := (hF 25 (by decide)).trans h25
  have h97 := (hF 97 (by decide)).trans h97
  have h98 := (hF 98 (by decide)).trans h98
  have h99 := (hF 99 (by decide)).trans h99
  have hFF := kF_st hFF hF (by first | decide | simp)
  obtain ⟨M_4, hw, h25, hF⟩ := k_extJ hw 25 (by omega) h25 (su2) (fun j hj => cpy00 hj)
  have h23 := (hF 23 (by decide)).trans h23
  have h24 := (hF 24 (by decide)).trans h24
  have h97 := (hF 97 (by decide)).trans h97
  have h98 := (hF 98 (by decide)).trans h98
  have h99 := (hF 99 (by decide)).trans h99
  have hFF := kF_st hFF hF (by first | decide | simp)
  exact hret _ _ (Nat.le_of_ble_eq_true rfl) (Nat.le_of_ble_eq_true rfl) hw (⟨rfl, hFF, h24, h25⟩) dX6_copyFrom_30

set_option maxHeartbeats 4000000 in
set_option maxRecDepth 100000 in
theorem c_X5_copyFrom_22_96 {l : Launch} {D : va_G} {cI cJ cZ cH cR : ClassId} {b : Nat} {n : Nat} {M : Nat → va_E}  {rs : Nat} {ca : Nat} {rn : Nat → Int32} {rk : Nat → Int32} {rv : Nat → Int32} {rs2 : Nat} {ca2 : Nat} {rn2 : Nat → Int32} {rk2 : Nat → Int32} {rv2 : Nat → Int32}  (hn : 104 ≤ n) (h26 : M 26 = .inr (5, [.ref (b + 27), .ref (b + 28), .ref (b + 29), .int (nI rs), .int (nI ca)])) (h27 : M 27 = .inl (cI, 400, .inl rn)) (h28 : M 28 = .inl (cI, 400, .inl rk)) (h29 : M 29 = .inl (cI, 400, .inl rv)) (h100 : M 100 = .inr (5, [.ref (b + 101), .ref (b + 102), .ref (b + 103), .int (nI rs2), .int (nI ca2)])) (h101 : M 101 = .inl (cI, 400, .inl rn2)) (h102 : M 102 = .inl (cI, 400, .inl rk2)) (h103 : M 103 = .inl (cI, 400, .inl rv2))  (hs : rs2 ≤ 400) : Met l yX5_copyFrom (kw yX5_copyFrom cX5_copyFrom 2 none) ({ frames := 1, cells := 0, slots := 0, locals := 40 }) (va_Pc [.ref (b + 26), .ref (b + 100)] (kPre D (kT cI cJ cZ cH cR) b M n)) (va_Qv (fun (u : (Nat → va_E) × Nat) => u.2 = n ∧ kF [26, 27, 28, 29] M u.1 ∧ u.1 26 = .inr (5, [.ref (b + 27), .ref (b + 28), .ref (b + 29), .int (nI rs2), .int (nI ca2)]) ∧ u.1 27 = .inl (cI, 400, .inl (va_cpy rn2 rn 0 0 rs2)) ∧ u.1 28 = .inl (cI, 400, .inl (va_cpy rk2 rk 0 0 rs2)) ∧ u.1 29 = .inl (cI, 400, .inl (va_cpy rv2 rv 0 0 rs2))) (kB D (kT cI cJ cZ cH cR) b) (kA b)) 0 0 (kA b) := by
  refine k_metV (by decide +kernel) (Nat.le_of_ble_eq_true rfl) ?_
  intro p e s m below meth c ls Q C hw hret hnm hl
  have hl : lv_has ls 2 [(0, .ref (b + 26)), (1, .ref (b + 100))] := hl
  have hFF : kF [26, 27, 28, 29] M M := kF_rf
  refine lv_aload_n C.1 C.2.1 dX5_copyFrom_0 rfl (lv_at hl 1 rfl) ?_
  refine k_get C hw 100 (by omega) h100 rfl inlX5 0 (by decide) q_95 rfl dX5_copyFrom_1 ?_
  refine lv_iconst (v := nI 0) C.1 C.2.1 dX5_copyFrom_4 (by decide) ?_
  refine lv_aload_n C.1 C.2.1 dX5_copyFrom_5 rfl (lv_at hl 0 rfl) ?_
  refine k_get C hw 26 (by omega) h26 rfl inlX5 0 (by decide) q_95 rfl dX5_copyFrom_6 ?_
  refine lv_iconst (v := nI 0) C.1 C.2.1 dX5_copyFrom_9 (by decide) ?_
  refine lv_aload_n C.1 C.2.1 dX5_copyFrom_10 rfl (lv_at hl 1 rfl) ?_
  refine k_get C hw 100 (by omega) h100 rfl inlX5 3 (by decide) q_239 rfl dX5_copyFrom_11 ?_
  refine k_copyi C hw hl.1 q_275 q_276 q_277 q_278 101 27 (by omega) (by omega) h101 h27 (by omega) (by omega) (by decide) (by decide) (Nat.le_of_ble_eq_true rfl) (by decide) dX5_copyFrom_14 (fun M_1 H locs hw h27 hF => ?_)
  have h26 := (hF 26 (by decide)).trans h26
  have h28 := (hF 28 (by decide)).trans h28
  have h29 := (hF 29 (by decide)).trans h29
  have h100 := (hF 100 (by decide)).trans h100
  have h101 := (hF 101 (by decide)).trans h101
  have h102 := (hF 102 (by decide)).trans h102
  have h103 := (hF 103 (by decide)).trans h103
  have hFF := kF_st hFF hF (by first | decide | simp)
  refine lv_aload_n C.1 C.2.1 dX5_copyFrom_17 rfl (lv_at hl 1 rfl) ?_
  refine k_get C hw 100 (by omega) h100 rfl inlX5 1 (by decide) q_96 rfl dX5_copyFrom_18 ?_
  refine lv_iconst (v := nI 0) C.1 C.2.1 dX5_copyFrom_21 (by decide) ?_
  refine lv_aload_n C.1 C.2.1 dX5_copyFrom_22 rfl (lv_at hl 0 rfl) ?_
  refine k_get C hw 26 (by omega) h26 rfl inlX5 1 (by decide) q_96 rfl dX5_copyFrom_23 ?_
  refine lv_iconst (v := nI 0) C.1 C.2.1 dX5_copyFrom_26 (by decide) ?_
  refine lv_aload_n C.1 C.2.1 dX5_copyFrom_27 rfl (lv_at hl 1 rfl) ?_
  refine k_get C hw 100 (by omega) h100 rfl inlX5 3 (by decide) q_239 rfl dX5_copyFrom_28 ?_
  refine k_copyi C hw hl.1 q_275 q_276 q_277 q_278 102 28 (by omega) (by omega) h102 h28 (by omega) (by omega) (by decide) (by decide) (Nat.le_of_ble_eq_true rfl) (by decide) dX5_copyFrom_31 (fun M_2 H locs hw h28 hF => ?_)
  have h26 := (hF 26 (by decide)).trans h26
  have h27 := (hF 27 (by decide)).trans h27
  have h29 := (hF 29 (by decide)).trans h29
  have h100 := (hF 100 (by decide)).trans h100
  have h101 := (hF 101 (by decide)).trans h101
  have h102 := (hF 102 (by decide)).trans h102
  have h103 := (hF 103 (by decide)).trans h103
  have hFF := kF_st hFF hF (by first | decide | simp)
  refine lv_aload_n C.1 C.2.1 dX5_copyFrom_34 rfl (lv_at hl 1 rfl) ?_
  refine k_get C hw 100 (by omega) h100 rfl inlX5 2 (by decide) q_97 rfl dX5_copyFrom_35 ?_
  refine lv_iconst (v := nI 0) C.1 C.2.1 dX5_copyFrom_38 (by decide) ?_
  refine lv_aload_n C.1 C.2.1 dX5_copyFrom_39 rfl (lv_at hl 0 rfl) ?_
  refine k_get C hw 26 (by omega) h26 rfl inlX5 2 (by decide) q_97 rfl dX5_copyFrom_40 ?_
  refine lv_iconst (v := nI 0) C.1 C.2.1 dX5_copyFrom_43 (by decide) ?_
  refine lv_aload_n C.1 C.2.1 dX5_copyFrom_44 rfl (lv_at hl 1 rfl) ?_
  refine k_get C hw 100 (by omega) h100 rfl inlX5 3 (by decide) q_239 rfl dX5_copyFrom_45 ?_
  refine k_copyi C hw hl.1 q_275 q_276 q_277 q_278 103 29 (by omega) (by omega) h103 h29 (by omega) (by omega) (by decide) (by decide) (Nat.le_of_ble_eq_true rfl) (by decide) dX5_copyFrom_48 (fun M_3 H locs hw h29 hF => ?_)
  have h26 := (hF 26 (by decide)).trans h26
  have h27 := (hF 27 (by decide)).trans h27
  have h28 := (hF 28 (by decide)).trans h28
  have h100 := (hF 100 (by decide)).trans h100
  have h101 := (hF 101 (by decide)).trans h101
  have h102 := (hF 102 (by decide)).trans h102
  have h103 := (hF 103 (by decide)).trans h103
  have hFF := kF_st hFF hF (by first | decide | simp)
  refine lv_aload_n C.1 C.2.1 dX5_copyFrom_51 rfl (lv_at hl 0 rfl) ?_
  refine lv_aload_n C.1 C.2.1 dX5_copyFrom_52 rfl (lv_at hl 1 rfl) ?_
  refine k_get C hw 100 (by omega) h100 rfl inlX5 3 (by decide) q_239 rfl dX5_copyFrom_53 ?_
  refine k_put (tf := .int) C hw 26 (by omega) h26 rfl inlX5 tyX5 tyX5_ok nmX5 3 (by decide) q_239 rfl (by decide +kernel) rfl rfl (Nat.le_of_ble_eq_true rfl) dX5_copyFrom_56 (fun M_4 H locs hw h26 hF => ?_)
  have h26 : M_4 26 = .inr (5, [.ref (b + 27), .ref (b + 28), .ref (b + 29), .int (nI rs2), .int (nI ca)]) := h26
  have h27 := (hF 27 (by decide)).trans h27
  have h28 := (hF 28 (by decide)).trans h28
  have h29 := (hF 29 (by decide)).trans h29
  have h100 := (hF 100 (by decide)).trans h100
  have h101 := (hF 101 (by decide)).trans h101
  have h102 := (hF 102 (by decide)).trans h102
  have h103 := (hF 103 (by decide)).trans h103
  have hFF := kF_st hFF hF (by first | decide | simp)
  refine lv_aload_n C.1 C.2.1 dX5_copyFrom_59 rfl (lv_at hl 0 rfl) ?_
  refine lv_aload_n C.1 C.2.1 dX5_copyFrom_60 rfl (lv_at hl 1 rfl) ?_
  refine k_get C hw 100 (by omega) h100 rfl inlX5 4 (by decide) q_240 rfl dX5_copyFrom_61 ?_
  refine k_put (tf := .int) C hw 26 (by omega) h26 rfl inlX5 tyX5 tyX5_ok nmX5 4 (by decide) q_240 rfl (by decide +kernel) rfl rfl (Nat.le_of_ble_eq_true rfl) dX5_copyFrom_64 (fun M_5 H locs hw h26 hF => ?_)
  have h26 : M_5 26 = .inr (5, [.ref (b + 27), .ref (b + 28), .ref (b + 29), .int (nI rs2), .int (nI ca2)]) := h26
  have h27 := (hF 27 (by decide)).trans h27
  have h28 := (hF 28 (by decide)).trans h28
  have h29 := (hF 29 (by decide)).trans h29
  have h100 := (hF 100 (by decide)).trans h100
  have h101 := (hF 101 (by decide)).trans h101
  have h102 := (hF 102 (by decide)).trans h102
  have h103 := (hF 103 (by decide)).trans h103
  have hFF := kF_st hFF hF (by first | decide | simp)
  exact hret _ _ (Nat.le_of_ble_eq_true rfl) (Nat.le_of_ble_eq_true rfl) hw (⟨rfl, hFF, h26, h27, h28, h29⟩) dX5_copyFrom_67

set_option maxHeartbeats 4000000 in
set_option maxRecDepth 100000 in
theorem c_X7_copyFrom_22_96 {l : Launch} {D : va_G} {cI cJ cZ cH cR : ClassId} {b : Nat} {n : Nat} {M : Nat → va_E}  {ts : Nat} {tr : Int32} {tk : Nat → Int32} {tt : Nat → Int32} {ts2 : Nat} {tr2 : Int32} {tk2 : Nat → Int32} {tt2 : Nat → Int32}  (hn : 107 ≤ n) (h30 : M 30 = .inr (7, [.ref (b + 31), .ref (b + 32), .int (nI ts), .int tr])) (h31 : M 31 = .inl (cI, 40, .inl tk)) (h32 : M 32 = .inl (cI, 40, .inl tt)) (h104 : M 104 = .inr (7, [.ref (b + 105), .ref (b + 106), .int (nI ts2), .int tr2])) (h105 : M 105 = .inl (cI, 40, .inl tk2)) (h106 : M 106 = .inl (cI, 40, .inl tt2))  (ht : ts2 ≤ 40) : Met l yX7_copyFrom (kw yX7_copyFrom cX7_copyFrom 2 none) ({ frames := 1, cells := 0, slots := 0, locals := 40 }) (va_Pc [.ref (b + 30), .ref (b + 104)] (kPre D (kT cI cJ cZ cH cR) b M n)) (va_Qv (fun (u : (Nat → va_E) × Nat) => u.2 = n ∧ kF [30, 31, 32] M u.1 ∧ u.1 30 = .inr (7, [.ref (b + 31), .ref (b + 32), .int (nI ts2), .int (tr2)]) ∧ u.1 31 = .inl (cI, 40, .inl (va_cpy tk2 tk 0 0 ts2)) ∧ u.1 32 = .inl (cI, 40, .inl (va_cpy tt2 tt 0 0 ts2))) (kB D (kT cI cJ cZ cH cR) b) (kA b)) 0 0 (kA b) := by
  refine k_metV (by decide +kernel) (Nat.le_of_ble_eq_true rfl) ?_
  intro p e s m below meth c ls Q C hw hret hnm hl
  have hl : lv_has ls 2 [(0, .ref (b + 30)), (1, .ref (b + 104))] := hl
  have hFF : kF [30, 31, 32] M M := kF_rf
  refine lv_aload_n C.1 C.2.1 dX7_copyFrom_0 rfl (lv_at hl 1 rfl) ?_
  refine k_get C hw 104 (by omega) h104 rfl inlX7 0 (by decide) q_102 rfl dX7_copyFrom_1 ?_
  refine lv_iconst (v := nI 0) C.1 C.2.1 dX7_copyFrom_4 (by decide) ?_
  refine lv_aload_n C.1 C.2.1 dX7_copyFrom_5 rfl (lv_at hl 0 rfl) ?_
  refine k_get C hw 30 (by omega) h30 rfl inlX7 0 (by decide) q_102 rfl dX7_copyFrom_6 ?_
  refine lv_iconst (v := nI 0) C.1 C.2.1 dX7_copyFrom_9 (by decide) ?_
  refine lv_aload_n C.1 C.2.1 dX7_copyFrom_10 rfl (lv_at hl 1 rfl) ?_
  refine k_get C hw 104 (by omega) h104 rfl inlX7 2 (by decide) q_498 rfl dX7_copyFrom_11 ?_
  refine k_copyi C hw hl.1 q_499 q_276 q_277 q_278 105 31 (by omega) (by omega) h105 h31 (by omega) (by omega) (by decide) (by decide) (Nat.le_of_ble_eq_true rfl) (by decide) dX7_copyFrom_14 (fun M_1 H locs hw h31 hF => ?_)
  have h30 := (hF 30 (by decide)).trans h30
  have h32 := (hF 32 (by decide)).trans h32
  have h104 := (hF 104 (by decide)).trans h104
  have h105 := (hF 105 (by decide)).trans h105
  have h106 := (hF 106 (by decide)).trans h106
  have hFF := kF_st hFF hF (by first | decide | simp)
  refine lv_aload_n C.1 C.2.1 dX7_copyFrom_17 rfl (lv_at hl 1 rfl) ?_
  refine k_get C hw 104 (by omega) h104 rfl inlX7 1 (by decide) q_103 rfl dX7_copyFrom_18 ?_
  refine lv_iconst (v := nI 0) C.1 C.2.1 dX7_copyFrom_21 (by decide) ?_
  refine lv_aload_n C.1 C.2.1 dX7_copyFrom_22 rfl (lv_at hl 0 rfl) ?_
  refine k_get C hw 30 (by omega) h30 rfl inlX7 1 (by decide) q_103 rfl dX7_copyFrom_23 ?_
  refine lv_iconst (v := nI 0) C.1 C.2.1 dX7_copyFrom_26 (by decide) ?_
  refine lv_aload_n C.1 C.2.1 dX7_copyFrom_27 rfl (lv_at hl 1 rfl) ?_
  refine k_get C hw 104 (by omega) h104 rfl inlX7 2 (by decide) q_498 rfl dX7_copyFrom_28 ?_
  refine k_copyi C hw hl.1 q_499 q_276 q_277 q_278 106 32 (by omega) (by omega) h106 h32 (by omega) (by omega) (by decide) (by decide) (Nat.le_of_ble_eq_true rfl) (by decide) dX7_copyFrom_31 (fun M_2 H locs hw h32 hF => ?_)
  have h30 := (hF 30 (by decide)).trans h30
  have h31 := (hF 31 (by decide)).trans h31
  have h104 := (hF 104 (by decide)).trans h104
  have h105 := (hF 105 (by decide)).trans h105
  have h106 := (hF 106 (by decide)).trans h106
  have hFF := kF_st hFF hF (by first | decide | simp)
  refine lv_aload_n C.1 C.2.1 dX7_copyFrom_34 rfl (lv_at hl 0 rfl) ?_
  refine lv_aload_n C.1 C.2.1 dX7_copyFrom_35 rfl (lv_at hl 1 rfl) ?_
  refine k_get C hw 104 (by omega) h104 rfl inlX7 2 (by decide) q_498 rfl dX7_copyFrom_36 ?_
  refine k_put (tf := .int) C hw 30 (by omega) h30 rfl inlX7 tyX7 tyX7_ok nmX7 2 (by decide) q_498 rfl (by decide +kernel) rfl rfl (Nat.le_of_ble_eq_true rfl) dX7_copyFrom_39 (fun M_3 H locs hw h30 hF => ?_)
  have h30 : M_3 30 = .inr (7, [.ref (b + 31), .ref (b + 32), .int (nI ts2), .int tr]) := h30
  have h31 := (hF 31 (by decide)).trans h31
  have h32 := (hF 32 (by decide)).trans h32
  have h104 := (hF 104 (by decide)).trans h104
  have h105 := (hF 105 (by decide)).trans h105
  have h106 := (hF 106 (by decide)).trans h106
  have hFF := kF_st hFF hF (by first | decide | simp)
  refine lv_aload_n C.1 C.2.1 dX7_copyFrom_42 rfl (lv_at hl 0 rfl) ?_
  refine lv_aload_n C.1 C.2.1 dX7_copyFrom_43 rfl (lv_at hl 1 rfl) ?_
  refine k_get C hw 104 (by omega) h104 rfl inlX7 3 (by decide) q_616 rfl dX7_copyFrom_44 ?_
  refine k_put (tf := .int) C hw 30 (by omega) h30 rfl inlX7 tyX7 tyX7_ok nmX7 3 (by decide) q_616 rfl (by decide +kernel) rfl rfl (Nat.le_of_ble_eq_true rfl) dX7_copyFrom_47 (fun M_4 H locs hw h30 hF => ?_)
  have h30 : M_4 30 = .inr (7, [.ref (b + 31), .ref (b + 32), .int (nI ts2), .int tr2]) := h30
  have h31 := (hF 31 (by decide)).trans h31
  have h32 := (hF 32 (by decide)).trans h32
  have h104 := (hF 104 (by decide)).trans h104
  have h105 := (hF 105 (by decide)).trans h105
  have h106 := (hF 106 (by decide)).trans h106
  have hFF := kF_st hFF hF (by first | decide | simp)
  exact hret _ _ (Nat.le_of_ble_eq_true rfl) (Nat.le_of_ble_eq_true rfl) hw (⟨rfl, hFF, h30, h31, h32⟩) dX7_copyFrom_50

set_option maxHeartbeats 4000000 in
set_option maxRecDepth 100000 in
theorem c_X0_copyFrom_22_96 {l : Launch} {D : va_G} {cI cJ cZ cH cR : ClassId} {b : Nat} {n : Nat} {M : Nat → va_E}  {ct : Nat → Int32} {su : Nat → Int64} {rs : Nat} {ca : Nat} {rn : Nat → Int32} {rk : Nat → Int32} {rv : Nat → Int32} {ts : Nat} {tr : Int32} {tk : Nat → Int32} {tt : Nat → Int32} {ct2 : Nat → Int32} {su2 : Nat → Int64} {rs2 : Nat} {ca2 : Nat} {rn2 : Nat → Int32} {rk2 : Nat → Int32} {rv2 : Nat → Int32} {ts2 : Nat} {tr2 : Int32} {tk2 : Nat → Int32} {tt2 : Nat → Int32}  (hn : 107 ≤ n) (h22 : M 22 = .inr (0, [.ref (b + 23), .ref (b + 26), .ref (b + 30)])) (h23 : M 23 = .inr (6, [.ref (b + 24), .ref (b + 25)])) (h24 : M 24 = .inl (cI, 100, .inl ct)) (h25 : M 25 = .inl (cJ, 100, .inr (.inl su))) (h26 : M 26 = .inr (5, [.ref (b + 27), .ref (b + 28), .ref (b + 29), .int (nI rs), .int (nI ca)])) (h27 : M 27 = .inl (cI, 400, .inl rn)) (h28 : M 28 = .inl (cI, 400, .inl rk)) (h29 : M 29 = .inl (cI, 400, .inl rv)) (h30 : M 30 = .inr (7, [.ref (b + 31), .ref (b + 32), .int (nI ts), .int tr])) (h31 : M 31 = .inl (cI, 40, .inl tk)) (h32 : M 32 = .inl (cI, 40, .inl tt)) (h96 : M 96 = .inr (0, [.ref (b + 97), .ref (b + 100), .ref (b + 104)])) (h97 : M 97 = .inr (6, [.ref (b + 98), .ref (b + 99)])) (h98 : M 98 = .inl (cI, 100, .inl ct2)) (h99 : M 99 = .inl (cJ, 100, .inr (.inl su2))) (h100 : M 100 = .inr (5, [.ref (b + 101), .ref (b + 102), .ref (b + 103), .int (nI rs2), .int (nI ca2)])) (h101 : M 101 = .inl (cI, 400, .inl rn2)) (h102 : M 102 = .inl (cI, 400, .inl rk2)) (h103 : M 103 = .inl (cI, 400, .inl rv2)) (h104 : M 104 = .inr (7, [.ref (b + 105), .ref (b + 106), .int (nI ts2), .int tr2])) (h105 : M 105 = .inl (cI, 40, .inl tk2)) (h106 : M 106 = .inl (cI, 40, .inl tt2))  (hs : rs2 ≤ 400) (ht : ts2 ≤ 40) : Met l yX0_copyFrom (kw yX0_copyFrom cX0_copyFrom 2 none) ({ frames := 2, cells := 0, slots := 0, locals := 61 }) (va_Pc [.ref (b + 22), .ref (b + 96)] (kPre D (kT cI cJ cZ cH cR) b M n)) (va_Qv (fun (u : (Nat → va_E) × Nat) => u.2 = n ∧ kF [24, 25, 26, 27, 28, 29, 30, 31, 32] M u.1 ∧ u.1 24 = .inl (cI, 100, .inl ct2) ∧ u.1 25 = .inl (cJ, 100, .inr (.inl su2)) ∧ u.1 26 = .inr (5, [.ref (b + 27), .ref (b + 28), .ref (b + 29), .int (nI rs2), .int (nI ca2)]) ∧ u.1 27 = .inl (cI, 400, .inl (va_cpy rn2 rn 0 0 rs2)) ∧ u.1 28 = .inl (cI, 400, .inl (va_cpy rk2 rk 0 0 rs2)) ∧ u.1 29 = .inl (cI, 400, .inl (va_cpy rv2 rv 0 0 rs2)) ∧ u.1 30 = .inr (7, [.ref (b + 31), .ref (b + 32), .int (nI ts2), .int (tr2)]) ∧ u.1 31 = .inl (cI, 40, .inl (va_cpy tk2 tk 0 0 ts2)) ∧ u.1 32 = .inl (cI, 40, .inl (va_cpy tt2 tt 0 0 ts2))) (kB D (kT cI cJ cZ cH cR) b) (kA b)) 0 0 (kA b) := by
  refine k_metV (by decide +kernel) (Nat.le_of_ble_eq_true rfl) ?_
  intro p e s m below meth c ls Q C hw hret hnm hl
  have hl : lv_has ls 2 [(0, .ref (b + 22)), (1, .ref (b + 96))] := hl
  have hFF : kF [24, 25, 26, 27, 28, 29, 30, 31, 32] M M := kF_rf
  refine lv_aload_n C.1 C.2.1 dX0_copyFrom_0 rfl (lv_at hl 0 rfl) ?_
  refine k_get C hw 22 (by omega) h22 rfl inlX0 0 (by decide) q_75 rfl dX0_copyFrom_1 ?_
  refine lv_aload_n C.1 C.2.1 dX0_copyFrom_4 rfl (lv_at hl 1 rfl) ?_
  refine k_get C hw 96 (by omega) h96 rfl inlX0 0 (by decide) q_75 rfl dX0_copyFrom_5 ?_
  refine k_vv C hw 23 (by omega) h23 rfl (c_X6_copyFrom_22_96 (by omega) h23 h24 h25 h97 h98 h99  ) kv_X0_35 rfl hl.1 ⟨Nat.le_of_ble_eq_true rfl, Nat.le_of_ble_eq_true rfl⟩ (Nat.le_of_ble_eq_true rfl) ⟨Nat.le_of_ble_eq_true rfl, Nat.le_of_ble_eq_true rfl⟩ dX0_copyFrom_8 (fun M_1 n9 H locs hp hw => ?_)
  obtain ⟨en9, hF, h24, h25⟩ := hp
  have en9 : n9 = n := en9
  rw [en9] at hw
  have h22 := (hF 22 (by decide)).trans h22
  have h23 := (hF 23 (by decide)).trans h23
  have h26 := (hF 26 (by decide)).trans h26
  have h27 := (hF 27 (by decide)).trans h27
  have h28 := (hF 28 (by decide)).trans h28
  have h29 := (hF 29 (by decide)).trans h29
  have h30 := (hF 30 (by decide)).trans h30
  have h31 := (hF 31 (by decide)).trans h31
  have h32 := (hF 32 (by decide)).trans h32
  have h96 := (hF 96 (by decide)).trans h96
  have h97 := (hF 97 (by decide)).trans h97
  have h98 := (hF 98 (by decide)).trans h98
  have h99 := (hF 99 (by decide)).trans h99
  have h100 := (hF 100 (by decide)).trans h100
  have h101 := (hF 101 (by decide)).trans h101
  have h102 := (hF 102 (by decide)).trans h102
  have h103 := (hF 103 (by decide)).trans h103
  have h104 := (hF 104 (by decide)).trans h104
  have h105 := (hF 105 (by decide)).trans h105
  have h106 := (hF 106 (by decide)).trans h106
  have hFF := kF_st hFF hF (by first | decide | simp)
  refine lv_aload_n C.1 C.2.1 dX0_copyFrom_11 rfl (lv_at hl 0 rfl) ?_
  refine k_get C hw 22 (by omega) h22 rfl inlX0 1 (by decide) q_79 rfl dX0_copyFrom_12 ?_
  refine lv_aload_n C.1 C.2.1 dX0_copyFrom_15 rfl (lv_at hl 1 rfl) ?_
  refine k_get C hw 96 (by omega) h96 rfl inlX0 1 (by decide) q_79 rfl dX0_copyFrom_16 ?_
  refine k_vv C hw 26 (by omega) h26 rfl (c_X5_copyFrom_22_96 (by omega) h26 h27 h28 h29 h100 h101 h102 h103  (by omega)) kv_X0_39 rfl hl.1 ⟨Nat.le_of_ble_eq_true rfl, Nat.le_of_ble_eq_true rfl⟩ (Nat.le_of_ble_eq_true rfl) ⟨Nat.le_of_ble_eq_true rfl, Nat.le_of_ble_eq_true rfl⟩ dX0_copyFrom_19 (fun M_2 n9 H locs hp hw => ?_)
  obtain ⟨en9, hF, h26, h27, h28, h29⟩ := hp
  have en9 : n9 = n := en9
  rw [en9] at hw
  have h22 := (hF 22 (by decide)).trans h22
  have h23 := (hF 23 (by decide)).trans h23
  have h24 := (hF 24 (by decide)).trans h24
  have h25 := (hF 25 (by decide)).trans h25
  have h30 := (hF 30 (by decide)).trans h30
  have h31 := (hF 31 (by decide)).trans h31
  have h32 := (hF 32 (by decide)).trans h32
  have h96 := (hF 96 (by decide)).trans h96
  have h97 := (hF 97 (by decide)).trans h97
  have h98 := (hF 98 (by decide)).trans h98
  have h99 := (hF 99 (by decide)).trans h99
  have h100 := (hF 100 (by decide)).trans h100
  have h101 := (hF 101 (by decide)).trans h101
  have h102 := (hF 102 (by decide)).trans h102
  have h103 := (hF 103 (by decide)).trans h103
  have h104 := (hF 104 (by decide)).trans h104
  have h105 := (hF 105 (by decide)).trans h105
  have h106 := (hF 106 (by decide)).trans h106
  have hFF := kF_st hFF hF (by first | decide | simp)
  refine lv_aload_n C.1 C.2.1 dX0_copyFrom_22 rfl (lv_at hl 0 rfl) ?_
  refine k_get C hw 22 (by omega) h22 rfl inlX0 2 (by decide) q_83 rfl dX0_copyFrom_23 ?_
  refine lv_aload_n C.1 C.2.1 dX0_copyFrom_26 rfl (lv_at hl 1 rfl) ?_
  refine k_get C hw 96 (by omega) h96 rfl inlX0 2 (by decide) q_83 rfl dX0_copyFrom_27 ?_
  refine k_vv C hw 30 (by omega) h30 rfl (c_X7_copyFrom_22_96 (by omega) h30 h31 h32 h104 h105 h106  (by omega)) kv_X0_42 rfl hl.1 ⟨Nat.le_of_ble_eq_true rfl, Nat.le_of_ble_eq_true rfl⟩ (Nat.le_of_ble_eq_true rfl) ⟨Nat.le_of_ble_eq_true rfl, Nat.le_of_ble_eq_true rfl⟩ dX0_copyFrom_30 (fun M_3 n9 H locs hp hw => ?_)
  obtain ⟨en9, hF, h30, h31, h32⟩ := hp
  have en9 : n9 = n := en9
  rw [en9] at hw
  have h22 := (hF 22 (by decide)).trans h22
  have h23 := (hF 23 (by decide)).trans h23
  have h24 := (hF 24 (by decide)).trans h24
  have h25 := (hF 25 (by decide)).trans h25
  have h26 := (hF 26 (by decide)).trans h26
  have h27 := (hF 27 (by decide)).trans h27
  have h28 := (hF 28 (by decide)).trans h28
  have h29 := (hF 29 (by decide)).trans h29
  have h96 := (hF 96 (by decide)).trans h96
  have h97 := (hF 97 (by decide)).trans h97
  have h98 := (hF 98 (by decide)).trans h98
  have h99 := (hF 99 (by decide)).trans h99
  have h100 := (hF 100 (by decide)).trans h100
  have h101 := (hF 101 (by decide)).trans h101
  have h102 := (hF 102 (by decide)).trans h102
  have h103 := (hF 103 (by decide)).trans h103
  have h104 := (hF 104 (by decide)).trans h104
  have h105 := (hF 105 (by decide)).trans h105
  have h106 := (hF 106 (by decide)).trans h106
  have hFF := kF_st hFF hF (by first | decide | simp)
  exact hret _ _ (Nat.le_of_ble_eq_true rfl) (Nat.le_of_ble_eq_true rfl) hw (⟨rfl, hFF, h24, h25, h26, h27, h28, h29, h30, h31, h32⟩) dX0_copyFrom_33

set_option maxHeartbeats 4000000 in
set_option maxRecDepth 100000 in
theorem c_X5_enter {l : Launch} {D : va_G} {cI cJ cZ cH cR : ClassId} {b : Nat} {n : Nat} {M : Nat → va_E}  {rs : Nat} {ca : Nat} {rn : Nat → Int32} {rk : Nat → Int32} {rv : Nat → Int32} {key v : Int32} (hn : 30 ≤ n) (h26 : M 26 = .inr (5, [.ref (b + 27), .ref (b + 28), .ref (b + 29), .int (nI rs), .int (nI ca)])) (h27 : M 27 = .inl (cI, 400, .inl rn)) (h28 : M 28 = .inl (cI, 400, .inl rk)) (h29 : M 29 = .inl (cI, 400, .inl rv))  (hs : rs < 400) : Met l yX5_enter (kw yX5_enter cX5_enter 3 none) ({ frames := 0, cells := 0, slots := 0, locals := 0 }) (va_Pc [.ref (b + 26), .int key, .int v] (kPre D (kT cI cJ cZ cH cR) b M n)) (va_Qv (fun (u : (Nat → va_E) × Nat) => u.2 = n ∧ kF [26, 27, 28, 29] M u.1 ∧ u.1 26 = .inr (5, [.ref (b + 27), .ref (b + 28), .ref (b + 29), .int (nI (rs + 1)), .int (nI (ca + 1))]) ∧ u.1 27 = .inl (cI, 400, .inl (upd rn rs (nI ca))) ∧ u.1 28 = .inl (cI, 400, .inl (upd rk rs key)) ∧ u.1 29 = .inl (cI, 400, .inl (upd rv rs v))) (kB D (kT cI cJ cZ cH cR) b) (kA b)) 0 0 (kA b) := by
  refine k_metV (by decide +kernel) (Nat.le_of_ble_eq_true rfl) ?_
  intro p e s m below meth c ls Q C hw hret hnm hl
  have hl : lv_has ls 3 [(0, .ref (b + 26)), (1, .int key), (2, .int v)] := hl
  have hFF : kF [26, 27, 28, 29] M M := kF_rf
  refine lv_aload_n C.1 C.2.1 dX5_enter_0 rfl (lv_at hl 0 rfl) ?_
  refine k_get C hw 26 (by omega) h26 rfl inlX5 0 (by decide) q_95 rfl dX5_enter_1 ?_
  refine lv_aload_n C.1 C.2.1 dX5_enter_4 rfl (lv_at hl 0 rfl) ?_
  refine k_get C hw 26 (by omega) h26 rfl inlX5 3 (by decide) q_239 rfl dX5_enter_5 ?_
  refine lv_aload_n C.1 C.2.1 dX5_enter_8 rfl (lv_at hl 0 rfl) ?_
  refine k_get C hw 26 (by omega) h26 rfl inlX5 4 (by decide) q_240 rfl dX5_enter_9 ?_
  refine k_iast C hw 27 (by omega) h27 (by omega) (by first | decide | omega) dX5_enter_12 (fun M_1 H locs hw h27 hF => ?_)
  have h26 := (hF 26 (by decide)).trans h26
  have h28 := (hF 28 (by decide)).trans h28
  have h29 := (hF 29 (by decide)).trans h29
  have hFF := kF_st hFF hF (by first | decide | simp)
  refine lv_aload_n C.1 C.2.1 dX5_enter_13 rfl (lv_at hl 0 rfl) ?_
  refine k_get C hw 26 (by omega) h26 rfl inlX5 1 (by decide) q_96 rfl dX5_enter_14 ?_
  refine lv_aload_n C.1 C.2.1 dX5_enter_17 rfl (lv_at hl 0 rfl) ?_
  refine k_get C hw 26 (by omega) h26 rfl inlX5 3 (by decide) q_239 rfl dX5_enter_18 ?_
  refine lv_iload_n C.1 C.2.1 dX5_enter_21 rfl (lv_at hl 1 rfl) ?_
  refine k_iast C hw 28 (by omega) h28 (by omega) (by first | decide | omega) dX5_enter_22 (fun M_2 H locs hw h28 hF => ?_)
  have h26 := (hF 26 (by decide)).trans h26
  have h27 := (hF 27 (by decide)).trans h27
  have h29 := (hF 29 (by decide)).trans h29
  have hFF := kF_st hFF hF (by first | decide | simp)
  refine lv_aload_n C.1 C.2.1 dX5_enter_23 rfl (lv_at hl 0 rfl) ?_
  refine k_get C hw 26 (by omega) h26 rfl inlX5 2 (by decide) q_97 rfl dX5_enter_24 ?_
  refine lv_aload_n C.1 C.2.1 dX5_enter_27 rfl (lv_at hl 0 rfl) ?_
  refine k_get C hw 26 (by omega) h26 rfl inlX5 3 (by decide) q_239 rfl dX5_enter_28 ?_
  refine lv_iload_n C.1 C.2.1 dX5_enter_31 rfl (lv_at hl 2 rfl) ?_
  refine k_iast C hw 29 (by omega) h29 (by omega) (by first | decide | omega) dX5_enter_32 (fun M_3 H locs hw h29 hF => ?_)
  have h26 := (hF 26 (by decide)).trans h26
  have h27 := (hF 27 (by decide)).trans h27
  have h28 := (hF 28 (by decide)).trans h28
  have hFF := kF_st hFF hF (by first | decide | simp)
  refine lv_aload_n C.1 C.2.1 dX5_enter_33 rfl (lv_at hl 0 rfl) ?_
  refine lv_dup C.1 C.2.1 dX5_enter_34 rfl ?_
  refine k_get C hw 26 (by omega) h26 rfl inlX5 3 (by decide) q_239 rfl dX5_enter_35 ?_
  refine lv_iconst (v := nI 1) C.1 C.2.1 dX5_enter_38 (by decide) ?_
  refine lv_iadd C.1 C.2.1 dX5_enter_39 ?_
  refine k_topi (y := nI (rs + 1)) (nI_add _ _) ?_
  refine k_put (tf := .int) C hw 26 (by omega) h26 rfl inlX5 tyX5 tyX5_ok nmX5 3 (by decide) q_239 rfl (by decide +kernel) rfl rfl (Nat.le_of_ble_eq_true rfl) dX5_enter_40 (fun M_4 H locs hw h26 hF => ?_)
  have h26 : M_4 26 = .inr (5, [.ref (b + 27), .ref (b + 28), .ref (b + 29), .int (nI (rs + 1)), .int (nI ca)]) := h26
  have h27 := (hF 27 (by decide)).trans h27
  have h28 := (hF 28 (by decide)).trans h28
  have h29 := (hF 29 (by decide)).trans h29
  have hFF := kF_st hFF hF (by first | decide | simp)
  refine lv_aload_n C.1 C.2.1 dX5_enter_43 rfl (lv_at hl 0 rfl) ?_
  refine lv_dup C.1 C.2.1 dX5_enter_44 rfl ?_
  refine k_get C hw 26 (by omega) h26 rfl inlX5 4 (by decide) q_240 rfl dX5_enter_45 ?_
  refine lv_iconst (v := nI 1) C.1 C.2.1 dX5_enter_48 (by decide) ?_
  refine lv_iadd C.1 C.2.1 dX5_enter_49 ?_
  refine k_topi (y := nI (ca + 1)) (nI_add _ _) ?_
  refine k_put (tf := .int) C hw 26 (by omega) h26 rfl inlX5 tyX5 tyX5_ok nmX5 4 (by decide) q_240 rfl (by decide +kernel) rfl rfl (Nat.le_of_ble_eq_true rfl) dX5_enter_50 (fun M_5 H locs hw h26 hF => ?_)
  have h26 : M_5 26 = .inr (5, [.ref (b + 27), .ref (b + 28), .ref (b + 29), .int (nI (rs + 1)), .int (nI (ca + 1))]) := h26
  have h27 := (hF 27 (by decide)).trans h27
  have h28 := (hF 28 (by decide)).trans h28
  have h29 := (hF 29 (by decide)).trans h29
  have hFF := kF_st hFF hF (by first | decide | simp)
  exact hret _ _ (Nat.le_of_ble_eq_true rfl) (Nat.le_of_ble_eq_true rfl) hw (⟨rfl, hFF, h26, h27, h28, h29⟩) dX5_enter_53

set_option maxHeartbeats 4000000 in
set_option maxRecDepth 100000 in
theorem c_X5_takeOut {l : Launch} {D : va_G} {cI cJ cZ cH cR : ClassId} {b : Nat} {n : Nat} {M : Nat → va_E}  {rs : Nat} {ca : Nat} {rn : Nat → Int32} {rk : Nat → Int32} {rv : Nat → Int32} {q : Nat} (hn : 30 ≤ n) (h26 : M 26 = .inr (5, [.ref (b + 27), .ref (b + 28), .ref (b + 29), .int (nI rs), .int (nI ca)])) (h27 : M 27 = .inl (cI, 400, .inl rn)) (h28 : M 28 = .inl (cI, 400, .inl rk)) (h29 : M 29 = .inl (cI, 400, .inl rv))  (hq : q < rs) (hs : rs ≤ 400) : Met l yX5_takeOut (kw yX5_takeOut cX5_takeOut 3 none) ({ frames := 1, cells := 0, slots := 0, locals := 40 }) (va_Pc [.ref (b + 26), .int (nI q)] (kPre D (kT cI cJ cZ cH cR) b M n)) (va_Qv (fun (u : (Nat → va_E) × Nat) => u.2 = n ∧ kF [26, 27, 28, 29] M u.1 ∧ u.1 26 = .inr (5, [.ref (b + 27), .ref (b + 28), .ref (b + 29), .int (nI (rs - 1)), .int (nI ca)]) ∧ u.1 27 = .inl (cI, 400, .inl (va_cpy rn rn (q + 1) q (rs - q - 1))) ∧ u.1 28 = .inl (cI, 400, .inl (va_cpy rk rk (q + 1) q (rs - q - 1))) ∧ u.1 29 = .inl (cI, 400, .inl (va_cpy rv rv (q + 1) q (rs - q - 1)))) (kB D (kT cI cJ cZ cH cR) b) (kA b)) 0 0 (kA b) := by
  refine k_metV (by decide +kernel) (Nat.le_of_ble_eq_true rfl) ?_
  intro p e s m below meth c ls Q C hw hret hnm hl
  have hl : lv_has ls 3 [(0, .ref (b + 26)), (1, .int (nI q))] := hl
  have hFF : kF [26, 27, 28, 29] M M := kF_rf
  refine lv_aload_n C.1 C.2.1 dX5_takeOut_0 rfl (lv_at hl 0 rfl) ?_
  refine k_get C hw 26 (by omega) h26 rfl inlX5 3 (by decide) q_239 rfl dX5_takeOut_1 ?_
  refine lv_iload_n C.1 C.2.1 dX5_takeOut_4 rfl (lv_at hl 1 rfl) ?_
  refine lv_isub C.1 C.2.1 dX5_takeOut_5 ?_
  refine lv_iconst (v := nI 1) C.1 C.2.1 dX5_takeOut_6 (by decide) ?_
  refine lv_isub C.1 C.2.1 dX5_takeOut_7 ?_
  refine k_topi (y := nI (rs - q - 1)) (by rw [pk_sub (by omega), pk_sub (by omega)]) ?_
  refine lv_istore_n (lv' := [(2, .int (nI (rs - q - 1))), (0, .ref (b + 26)), (1, .int (nI q))]) C.1 C.2.1 dX5_takeOut_8 rfl hl (by decide) rfl (fun ls hl => ?_)
  refine lv_aload_n C.1 C.2.1 dX5_takeOut_9 rfl (lv_at hl 1 rfl) ?_
  refine k_get C hw 26 (by omega) h26 rfl inlX5 0 (by decide) q_95 rfl dX5_takeOut_10 ?_
  refine lv_iload_n C.1 C.2.1 dX5_takeOut_13 rfl (lv_at hl 2 rfl) ?_
  refine lv_iconst (v := nI 1) C.1 C.2.1 dX5_takeOut_14 (by decide) ?_
  refine lv_iadd C.1 C.2.1 dX5_takeOut_15 ?_
  refine k_topi (y := nI (q + 1)) (nI_add _ _) ?_
  refine lv_aload_n C.1 C.2.1 dX5_takeOut_16 rfl (lv_at hl 1 rfl) ?_
  refine k_get C hw 26 (by omega) h26 rfl inlX5 0 (by decide) q_95 rfl dX5_takeOut_17 ?_
  refine lv_iload_n C.1 C.2.1 dX5_takeOut_20 rfl (lv_at hl 2 rfl) ?_
  refine lv_iload_n C.1 C.2.1 dX5_takeOut_21 rfl (lv_at hl 0 rfl) ?_
  refine k_copyi C hw hl.1 q_275 q_276 q_277 q_278 27 27 (by omega) (by omega) h27 h27 (by omega) (by omega) (by decide) (by decide) (Nat.le_of_ble_eq_true rfl) (by decide) dX5_takeOut_22 (fun M_1 H locs hw h27 hF => ?_)
  have h26 := (hF 26 (by decide)).trans h26
  have h28 := (hF 28 (by decide)).trans h28
  have h29 := (hF 29 (by decide)).trans h29
  have hFF := kF_st hFF hF (by first | decide | simp)
  refine lv_aload_n C.1 C.2.1 dX5_takeOut_25 rfl (lv_at hl 1 rfl) ?_
  refine k_get C hw 26 (by omega) h26 rfl inlX5 1 (by decide) q_96 rfl dX5_takeOut_26 ?_
  refine lv_iload_n C.1 C.2.1 dX5_takeOut_29 rfl (lv_at hl 2 rfl) ?_
  refine lv_iconst (v := nI 1) C.1 C.2.1 dX5_takeOut_30 (by decide) ?_
  refine lv_iadd C.1 C.2.1 dX5_takeOut_31 ?_
  refine k_topi (y := nI (q + 1)) (nI_add _ _) ?_
  refine lv_aload_n C.1 C.2.1 dX5_takeOut_32 rfl (lv_at hl 1 rfl) ?_
  refine k_get C hw 26 (by omega) h26 rfl inlX5 1 (by decide) q_96 rfl dX5_takeOut_33 ?_
  refine lv_iload_n C.1 C.2.1 dX5_takeOut_36 rfl (lv_at hl 2 rfl) ?_
  refine lv_iload_n C.1 C.2.1 dX5_takeOut_37 rfl (lv_at hl 0 rfl) ?_
  refine k_copyi C hw hl.1 q_275 q_276 q_277 q_278 28 28 (by omega) (by omega) h28 h28 (by omega) (by omega) (by decide) (by decide) (Nat.le_of_ble_eq_true rfl) (by decide) dX5_takeOut_38 (fun M_2 H locs hw h28 hF => ?_)
  have h26 := (hF 26 (by decide)).trans h26
  have h27 := (hF 27 (by decide)).trans h27
  have h29 := (hF 29 (by decide)).trans h29
  have hFF := kF_st hFF hF (by first | decide | simp)
  refine lv_aload_n C.1 C.2.1 dX5_takeOut_41 rfl (lv_at hl 1 rfl) ?_
  refine k_get C hw 26 (by omega) h26 rfl inlX5 2 (by decide) q_97 rfl dX5_takeOut_42 ?_
  refine lv_iload_n C.1 C.2.1 dX5_takeOut_45 rfl (lv_at hl 2 rfl) ?_
  refine lv_iconst (v := nI 1) C.1 C.2.1 dX5_takeOut_46 (by decide) ?_
  refine lv_iadd C.1 C.2.1 dX5_takeOut_47 ?_
  refine k_topi (y := nI (q + 1)) (nI_add _ _) ?_
  refine lv_aload_n C.1 C.2.1 dX5_takeOut_48 rfl (lv_at hl 1 rfl) ?_
  refine k_get C hw 26 (by omega) h26 rfl inlX5 2 (by decide) q_97 rfl dX5_takeOut_49 ?_
  refine lv_iload_n C.1 C.2.1 dX5_takeOut_52 rfl (lv_at hl 2 rfl) ?_
  refine lv_iload_n C.1 C.2.1 dX5_takeOut_53 rfl (lv_at hl 0 rfl) ?_
  refine k_copyi C hw hl.1 q_275 q_276 q_277 q_278 29 29 (by omega) (by omega) h29 h29 (by omega) (by omega) (by decide) (by decide) (Nat.le_of_ble_eq_true rfl) (by decide) dX5_takeOut_54 (fun M_3 H locs hw h29 hF => ?_)
  have h26 := (hF 26 (by decide)).trans h26
  have h27 := (hF 27 (by decide)).trans h27
  have h28 := (hF 28 (by decide)).trans h28
  have hFF := kF_st hFF hF (by first | decide | simp)
  refine lv_aload_n C.1 C.2.1 dX5_takeOut_57 rfl (lv_at hl 1 rfl) ?_
  refine lv_dup C.1 C.2.1 dX5_takeOut_58 rfl ?_
  refine k_get C hw 26 (by omega) h26 rfl inlX5 3 (by decide) q_239 rfl dX5_takeOut_59 ?_
  refine lv_iconst (v := nI 1) C.1 C.2.1 dX5_takeOut_62 (by decide) ?_
  refine lv_isub C.1 C.2.1 dX5_takeOut_63 ?_
  refine k_topi (y := nI (rs - 1)) (pk_sub (by omega)) ?_
  refine k_put (tf := .int) C hw 26 (by omega) h26 rfl inlX5 tyX5 tyX5_ok nmX5 3 (by decide) q_239 rfl (by decide +kernel) rfl rfl (Nat.le_of_ble_eq_true rfl) dX5_takeOut_64 (fun M_4 H locs hw h26 hF => ?_)
  have h26 : M_4 26 = .inr (5, [.ref (b + 27), .ref (b + 28), .ref (b + 29), .int (nI (rs - 1)), .int (nI ca)]) := h26
  have h27 := (hF 27 (by decide)).trans h27
  have h28 := (hF 28 (by decide)).trans h28
  have h29 := (hF 29 (by decide)).trans h29
  have hFF := kF_st hFF hF (by first | decide | simp)
  exact hret _ _ (Nat.le_of_ble_eq_true rfl) (Nat.le_of_ble_eq_true rfl) hw (⟨rfl, hFF, h26, h27, h28, h29⟩) dX5_takeOut_67

set_option maxHeartbeats 4000000 in
set_option maxRecDepth 100000 in
theorem c_X2_put {l : Launch} {D : va_G} {cI cJ cZ cH cR : ClassId} {b : Nat} {n : Nat} {M : Nat → va_E}  {os : Nat} {on_ : Nat → Int32} {ok_ : Nat → Int32} {oz : Nat → Int64} {a k : Int32} {z : Int64} (hn : 37 ≤ n) (h33 : M 33 = .inr (2, [.ref (b + 34), .ref (b + 35), .ref (b + 36), .int (nI os)])) (h34 : M 34 = .inl (cI, 400, .inl on_)) (h35 : M 35 = .inl (cI, 400, .inl ok_)) (h36 : M 36 = .inl (cJ, 400, .inr (.inl oz)))  (ho : os < 400) : Met l yX2_put (kw yX2_put cX2_put 5 none) ({ frames := 0, cells := 0, slots := 0, locals := 0 }) (va_Pc [.ref (b + 33), .int a, .int k, .long z] (kPre D (kT cI cJ cZ cH cR) b M n)) (va_Qv (fun (u : (Nat → va_E) × Nat) => u.2 = n ∧ kF [33, 34, 35, 36] M u.1 ∧ u.1 33 = .inr (2, [.ref (b + 34), .ref (b + 35), .ref (b + 36), .int (nI (os + 1))]) ∧ u.1 34 = .inl (cI, 400, .inl (upd on_ os a)) ∧ u.1 35 = .inl (cI, 400, .inl (upd ok_ os k)) ∧ u.1 36 = .inl (cJ, 400, .inr (.inl (vp_updL oz os z)))) (kB D (kT cI cJ cZ cH cR) b) (kA b)) 0 0 (kA b) := by
  refine k_metV (by decide +kernel) (Nat.le_of_ble_eq_true rfl) ?_
  intro p e s m below meth c ls Q C hw hret hnm hl
  have hl : lv_has ls 5 [(0, .ref (b + 33)), (1, .int a), (2, .int k), (3, .long z)] := hl
  have hFF : kF [33, 34, 35, 36] M M := kF_rf
  refine lv_aload_n C.1 C.2.1 dX2_put_0 rfl (lv_at hl 0 rfl) ?_
  refine k_get C hw 33 (by omega) h33 rfl inlX2 3 (by decide) q_283 rfl dX2_put_1 ?_
  refine lv_sipush (v := nI 400) C.1 C.2.1 dX2_put_4 (by decide) ?_
  refine lv_icmp_lt (tgt := 11) C.1 C.2.1 dX2_put_7 (by decide) (fun c7 => ?_) (fun c7 => ?_)
  · refine lv_aload_n C.1 C.2.1 dX2_put_11 rfl (lv_at hl 0 rfl) ?_
    refine k_get C hw 33 (by omega) h33 rfl inlX2 0 (by decide) q_108 rfl dX2_put_12 ?_
    refine lv_aload_n C.1 C.2.1 dX2_put_15 rfl (lv_at hl 0 rfl) ?_
    refine k_get C hw 33 (by omega) h33 rfl inlX2 3 (by decide) q_283 rfl dX2_put_16 ?_
    refine lv_iload_n C.1 C.2.1 dX2_put_19 rfl (lv_at hl 1 rfl) ?_
    refine k_iast C hw 34 (by omega) h34 (by omega) (by first | decide | omega) dX2_put_20 (fun M_1 H locs hw h34 hF => ?_)
    have h33 := (hF 33 (by decide)).trans h33
    have h35 := (hF 35 (by decide)).trans h35
    have h36 := (hF 36 (by decide)).trans h36
    have hFF := kF_st hFF hF (by first | decide | simp)
    refine lv_aload_n C.1 C.2.1 dX2_put_21 rfl (lv_at hl 0 rfl) ?_
    refine k_get C hw 33 (by omega) h33 rfl inlX2 1 (by decide) q_109 rfl dX2_put_22 ?_
    refine lv_aload_n C.1 C.2.1 dX2_put_25 rfl (lv_at hl 0 rfl) ?_
    refine k_get C hw 33 (by omega) h33 rfl inlX2 3 (by decide) q_283 rfl dX2_put_26 ?_
    refine lv_iload_n C.1 C.2.1 dX2_put_29 rfl (lv_at hl 2 rfl) ?_
    refine k_iast C hw 35 (by omega) h35 (by omega) (by first | decide | omega) dX2_put_30 (fun M_2 H locs hw h35 hF => ?_)
    have h33 := (hF 33 (by decide)).trans h33
    have h34 := (hF 34 (by decide)).trans h34
    have h36 := (hF 36 (by decide)).trans h36
    have hFF := kF_st hFF hF (by first | decide | simp)
    refine lv_aload_n C.1 C.2.1 dX2_put_31 rfl (lv_at hl 0 rfl) ?_
    refine k_get C hw 33 (by omega) h33 rfl inlX2 2 (by decide) q_110 rfl dX2_put_32 ?_
    refine lv_aload_n C.1 C.2.1 dX2_put_35 rfl (lv_at hl 0 rfl) ?_
    refine k_get C hw 33 (by omega) h33 rfl inlX2 3 (by decide) q_283 rfl dX2_put_36 ?_
    refine lv_lload_n C.1 C.2.1 dX2_put_39 rfl (lv_at hl 3 rfl) ?_
    refine k_last C hw 36 (by omega) h36 (by omega) (by first | decide | omega) dX2_put_40 (fun M_3 H locs hw h36 hF => ?_)
    have h33 := (hF 33 (by decide)).trans h33
    have h34 := (hF 34 (by decide)).trans h34
    have h35 := (hF 35 (by decide)).trans h35
    have hFF := kF_st hFF hF (by first | decide | simp)
    refine lv_aload_n C.1 C.2.1 dX2_put_41 rfl (lv_at hl 0 rfl) ?_
    refine lv_dup C.1 C.2.1 dX2_put_42 rfl ?_
    refine k_get C hw 33 (by omega) h33 rfl inlX2 3 (by decide) q_283 rfl dX2_put_43 ?_
    refine lv_iconst (v := nI 1) C.1 C.2.1 dX2_put_46 (by decide) ?_
    refine lv_iadd C.1 C.2.1 dX2_put_47 ?_
    refine k_topi (y := nI (os + 1)) (nI_add _ _) ?_
    refine k_put (tf := .int) C hw 33 (by omega) h33 rfl inlX2 tyX2 tyX2_ok nmX2 3 (by decide) q_283 rfl (by decide +kernel) rfl rfl (Nat.le_of_ble_eq_true rfl) dX2_put_48 (fun M_4 H locs hw h33 hF => ?_)
    have h33 : M_4 33 = .inr (2, [.ref (b + 34), .ref (b + 35), .ref (b + 36), .int (nI (os + 1))]) := h33
    have h34 := (hF 34 (by decide)).trans h34
    have h35 := (hF 35 (by decide)).trans h35
    have h36 := (hF 36 (by decide)).trans h36
    have hFF := kF_st hFF hF (by first | decide | simp)
    exact hret _ _ (Nat.le_of_ble_eq_true rfl) (Nat.le_of_ble_eq_true rfl) hw (⟨rfl, hFF, h33, h34, h35, h36⟩) dX2_put_51
  · exact absurd (nI_lt (by omega) (by omega)) c7

set_option maxHeartbeats 4000000 in
set_option maxRecDepth 100000 in
theorem c_X2_init {l : Launch} {D : va_G} {cI cJ cZ cH cR : ClassId} {b : Nat} {M : Nat → va_E}     (h33 : M 33 = .inr (2, [.null, .null, .null, .int 0]))   : Met l yX2_init (kw yX2_init cX2_init 1 none) ({ frames := 1, cells := 3, slots := 1200, locals := 12 }) (va_Pc [.ref (b + 33)] (kPre D (kT cI cJ cZ cH cR) b M 34)) (va_Qv (fun (u : (Nat → va_E) × Nat) => u.2 = 37 ∧ kF [33, 34, 35, 36] M u.1 ∧ u.1 33 = .inr (2, [.ref (b + 34), .ref (b + 35), .ref (b + 36), .int (nI 0)]) ∧ u.1 34 = .inl (cI, 400, .inl (fun _ => 0)) ∧ u.1 35 = .inl (cI, 400, .inl (fun _ => 0)) ∧ u.1 36 = .inl (cJ, 400, .inr (.inl (fun _ => 0)))) (kB D (kT cI cJ cZ cH cR) b) (kA b)) 3 1200 (kA b) := by
  refine k_metV (by decide +kernel) (Nat.le_of_ble_eq_true rfl) ?_
  intro p e s m below meth c ls Q C hw hret hnm hl
  have hl : lv_has ls 1 [(0, .ref (b + 33))] := hl
  have hFF : kF [33, 34, 35, 36] M M := kF_rf
  refine lv_aload_n C.1 C.2.1 dX2_init_0 rfl (lv_at hl 0 rfl) ?_
  refine W.objInit C.1 C.2.1 C.2.2.2.1 (C.2.2.2.2.1 _ q_107) (C.2.2.2.2.1 _ q_10) (C.2.2.2.2.1 _ q_11) rfl (by rw [C.2.2.1]; exact hl.1) rfl dX2_init_1 (Nat.le_of_ble_eq_true rfl) (Nat.le_of_ble_eq_true rfl) ?_
  refine W.eq (g2 := F0 m 4 ls []) rfl ?_
  refine lv_aload_n C.1 C.2.1 dX2_init_4 rfl (lv_at hl 0 rfl) ?_
  refine lv_sipush (v := nI 400) C.1 C.2.1 dX2_init_5 (by decide) ?_
  refine k_newI C hw q_38 400 rfl (by decide) (Nat.le_of_ble_eq_true rfl) (Nat.le_of_ble_eq_true rfl) dX2_init_8 (fun M_1 H hw h34 hF => ?_)
  have h33 := (hF 33 (by decide)).trans h33
  have hFF := kF_st hFF hF (by first | decide | simp)
  refine k_putF (tf := .array .int) C hw 33 (by decide) h33 rfl inlX2 tyX2 tyX2_ok nmX2 0 (by decide) q_108 rfl hnm rfl (by decide +kernel) rfl rfl (Nat.le_of_ble_eq_true rfl) dX2_init_10 (fun M_2 H locs hw h33 hF => ?_)
  have h33 : M_2 33 = .inr (2, [.ref (b + 34), .null, .null, .int 0]) := h33
  have h34 := (hF 34 (by decide)).trans h34
  have hFF := kF_st hFF hF (by first | decide | simp)
  refine lv_aload_n C.1 C.2.1 dX2_init_13 rfl (lv_at hl 0 rfl) ?_
  refine lv_sipush (v := nI 400) C.1 C.2.1 dX2_init_14 (by decide) ?_
  refine k_newI C hw q_38 400 rfl (by decide) (Nat.le_of_ble_eq_true rfl) (Nat.le_of_ble_eq_true rfl) dX2_init_17 (fun M_3 H hw h35 hF => ?_)
  have h33 := (hF 33 (by decide)).trans h33
  have h34 := (hF 34 (by decide)).trans h34
  have hFF := kF_st hFF hF (by first | decide | simp)
  refine k_putF (tf := .array .int) C hw 33 (by decide) h33 rfl inlX2 tyX2 tyX2_ok nmX2 1 (by decide) q_109 rfl hnm rfl (by decide +kernel) rfl rfl (Nat.le_of_ble_eq_true rfl) dX2_init_19 (fun M_4 H locs hw h33 hF => ?_)
  have h33 : M_4 33 = .inr (2, [.ref (b + 34), .ref (b + 35), .null, .int 0]) := h33
  have h34 := (hF 34 (by decide)).trans h34
  have h35 := (hF 35 (by decide)).trans h35
  have hFF := kF_st hFF hF (by first | decide | simp)
  refine lv_aload_n C.1 C.2.1 dX2_init_22 rfl (lv_at hl 0 rfl) ?_
  refine lv_sipush (v := nI 400) C.1 C.2.1 dX2_init_23 (by decide) ?_
  refine k_newJ C hw q_89 400 rfl (by decide) (Nat.le_of_ble_eq_true rfl) (Nat.le_of_ble_eq_true rfl) dX2_init_26 (fun M_5 H hw h36 hF => ?_)
  have h33 := (hF 33 (by decide)).trans h33
  have h34 := (hF 34 (by decide)).trans h34
  have h35 := (hF 35 (by decide)).trans h35
  have hFF := kF_st hFF hF (by first | decide | simp)
  refine k_putF (tf := .array .long) C hw 33 (by decide) h33 rfl inlX2 tyX2 tyX2_ok nmX2 2 (by decide) q_110 rfl hnm rfl (by decide +kernel) rfl rfl (Nat.le_of_ble_eq_true rfl) dX2_init_28 (fun M_6 H locs hw h33 hF => ?_)
  have h33 : M_6 33 = .inr (2, [.ref (b + 34), .ref (b + 35), .ref (b + 36), .int 0]) := h33
  have h34 := (hF 34 (by decide)).trans h34
  have h35 := (hF 35 (by decide)).trans h35
  have h36 := (hF 36 (by decide)).trans h36
  have hFF := kF_st hFF hF (by first | decide | simp)
  exact hret _ _ (Nat.le_of_ble_eq_true rfl) (Nat.le_of_ble_eq_true rfl) hw (⟨rfl, hFF, h33, h34, h35, h36⟩) dX2_init_31

set_option maxHeartbeats 4000000 in
set_option maxRecDepth 100000 in
theorem c_X1_init {l : Launch} {D : va_G} {cI cJ cZ cH cR : ClassId} {b : Nat} {M : Nat → va_E}     (h37 : M 37 = .inr (1, [.null, .null, .null, .null, .int 0, .int 0]))   : Met l yX1_init (kw yX1_init cX1_init 1 none) ({ frames := 1, cells := 4, slots := 128, locals := 12 }) (va_Pc [.ref (b + 37)] (kPre D (kT cI cJ cZ cH cR) b M 38)) (va_Qv (fun (u : (Nat → va_E) × Nat) => u.2 = 42 ∧ kF [37, 38, 39, 40, 41] M u.1 ∧ u.1 37 = .inr (1, [.ref (b + 38), .ref (b + 39), .ref (b + 40), .ref (b + 41), .int (nI 0), .int (nI 0)]) ∧ u.1 38 = .inl (cI, 32, .inl (fun _ => 0)) ∧ u.1 39 = .inl (cI, 32, .inl (fun _ => 0)) ∧ u.1 40 = .inl (cI, 32, .inl (fun _ => 0)) ∧ u.1 41 = .inl (cJ, 32, .inr (.inl (fun _ => 0)))) (kB D (kT cI cJ cZ cH cR) b) (kA b)) 4 128 (kA b) := by
  refine k_metV (by decide +kernel) (Nat.le_of_ble_eq_true rfl) ?_
  intro p e s m below meth c ls Q C hw hret hnm hl
  have hl : lv_has ls 1 [(0, .ref (b + 37))] := hl
  have hFF : kF [37, 38, 39, 40, 41] M M := kF_rf
  refine lv_aload_n C.1 C.2.1 dX1_init_0 rfl (lv_at hl 0 rfl) ?_
  refine W.objInit C.1 C.2.1 C.2.2.2.1 (C.2.2.2.2.1 _ q_114) (C.2.2.2.2.1 _ q_10) (C.2.2.2.2.1 _ q_11) rfl (by rw [C.2.2.1]; exact hl.1) rfl dX1_init_1 (Nat.le_of_ble_eq_true rfl) (Nat.le_of_ble_eq_true rfl) ?_
  refine W.eq (g2 := F0 m 4 ls []) rfl ?_
  refine lv_aload_n C.1 C.2.1 dX1_init_4 rfl (lv_at hl 0 rfl) ?_
  refine lv_bipush (v := nI 32) C.1 C.2.1 dX1_init_5 (by decide) ?_
  refine k_newI C hw q_38 32 rfl (by decide) (Nat.le_of_ble_eq_true rfl) (Nat.le_of_ble_eq_true rfl) dX1_init_7 (fun M_1 H hw h38 hF => ?_)
  have h37 := (hF 37 (by decide)).trans h37
  have hFF := kF_st hFF hF (by first | decide | simp)
  refine k_putF (tf := .array .int) C hw 37 (by decide) h37 rfl inlX1 tyX1 tyX1_ok nmX1 0 (by decide) q_115 rfl hnm rfl (by decide +kernel) rfl rfl (Nat.le_of_ble_eq_true rfl) dX1_init_9 (fun M_2 H locs hw h37 hF => ?_)
  have h37 : M_2 37 = .inr (1, [.ref (b + 38), .null, .null, .null, .int 0, .int 0]) := h37
  have h38 := (hF 38 (by decide)).trans h38
  have hFF := kF_st hFF hF (by first | decide | simp)
  refine lv_aload_n C.1 C.2.1 dX1_init_12 rfl (lv_at hl 0 rfl) ?_
  refine lv_bipush (v := nI 32) C.1 C.2.1 dX1_init_13 (by decide) ?_
  refine k_newI C hw q_38 32 rfl (by decide) (Nat.le_of_ble_eq_true rfl) (Nat.le_of_ble_eq_true rfl) dX1_init_15 (fun M_3 H hw h39 hF => ?_)
  have h37 := (hF 37 (by decide)).trans h37
  have h38 := (hF 38 (by decide)).trans h38
  have hFF := kF_st hFF hF (by first | decide | simp)
  refine k_putF (tf := .array .int) C hw 37 (by decide) h37 rfl inlX1 tyX1 tyX1_ok nmX1 1 (by decide) q_116 rfl hnm rfl (by decide +kernel) rfl rfl (Nat.le_of_ble_eq_true rfl) dX1_init_17 (fun M_4 H locs hw h37 hF => ?_)
  have h37 : M_4 37 = .inr (1, [.ref (b + 38), .ref (b + 39), .null, .null, .int 0, .int 0]) := h37
  have h38 := (hF 38 (by decide)).trans h38
  have h39 := (hF 39 (by decide)).trans h39
  have hFF := kF_st hFF hF (by first | decide | simp)
  refine lv_aload_n C.1 C.2.1 dX1_init_20 rfl (lv_at hl 0 rfl) ?_
  refine lv_bipush (v := nI 32) C.1 C.2.1 dX1_init_21 (by decide) ?_
  refine k_newI C hw q_38 32 rfl (by decide) (Nat.le_of_ble_eq_true rfl) (Nat.le_of_ble_eq_true rfl) dX1_init_23 (fun M_5 H hw h40 hF => ?_)
  have h37 := (hF 37 (by decide)).trans h37
  have h38 := (hF 38 (by decide)).trans h38
  have h39 := (hF 39 (by decide)).trans h39
  have hFF := kF_st hFF hF (by first | decide | simp)
  refine k_putF (tf := .array .int) C hw 37 (by decide) h37 rfl inlX1 tyX1 tyX1_ok nmX1 2 (by decide) q_117 rfl hnm rfl (by decide +kernel) rfl rfl (Nat.le_of_ble_eq_true rfl) dX1_init_25 (fun M_6 H locs hw h37 hF => ?_)
  have h37 : M_6 37 = .inr (1, [.ref (b + 38), .ref (b + 39), .ref (b + 40), .null, .int 0, .int 0]) := h37
  have h38 := (hF 38 (by decide)).trans h38
  have h39 := (hF 39 (by decide)).trans h39
  have h40 := (hF 40 (by decide)).trans h40
  have hFF := kF_st hFF hF (by first | decide | simp)
  refine lv_aload_n C.1 C.2.1 dX1_init_28 rfl (lv_at hl 0 rfl) ?_
  refine lv_bipush (v := nI 32) C.1 C.2.1 dX1_init_29 (by decide) ?_
  refine k_newJ C hw q_89 32 rfl (by decide) (Nat.le_of_ble_eq_true rfl) (Nat.le_of_ble_eq_true rfl) dX1_init_31 (fun M_7 H hw h41 hF => ?_)
  have h37 := (hF 37 (by decide)).trans h37
  have h38 := (hF 38 (by decide)).trans h38
  have h39 := (hF 39 (by decide)).trans h39
  have h40 := (hF 40 (by decide)).trans h40
  have hFF := kF_st hFF hF (by first | decide | simp)
  refine k_putF (tf := .array .long) C hw 37 (by decide) h37 rfl inlX1 tyX1 tyX1_ok nmX1 3 (by decide) q_118 rfl hnm rfl (by decide +kernel) rfl rfl (Nat.le_of_ble_eq_true rfl) dX1_init_33 (fun M_8 H locs hw h37 hF => ?_)
  have h37 : M_8 37 = .inr (1, [.ref (b + 38), .ref (b + 39), .ref (b + 40), .ref (b + 41), .int 0, .int 0]) := h37
  have h38 := (hF 38 (by decide)).trans h38
  have h39 := (hF 39 (by decide)).trans h39
  have h40 := (hF 40 (by decide)).trans h40
  have h41 := (hF 41 (by decide)).trans h41
  have hFF := kF_st hFF hF (by first | decide | simp)
  exact hret _ _ (Nat.le_of_ble_eq_true rfl) (Nat.le_of_ble_eq_true rfl) hw (⟨rfl, hFF, h37, h38, h39, h40, h41⟩) dX1_init_36

set_option maxHeartbeats 4000000 in
set_option maxRecDepth 100000 in
theorem c_J9_floorMod_7cf53 {l : Launch} {D : va_G} {cI cJ cZ cH cR : ClassId} {b : Nat} {n : Nat} {M : Nat → va_E}   {x : Int32}     : Met l yJ9_floorMod_7cf53 (kw yJ9_floorMod_7cf53 cJ9_floorMod_7cf53 3 (some .int)) ({ frames := 0, cells := 0, slots := 0, locals := 0 }) (va_Pc [.int x, .int (nI 32)] (kPre D (kT cI cJ cZ cH cR) b M n)) (va_Qi (fun (r : Int32) (u : (Nat → va_E) × Nat) => r = (fm32 x) ∧ u.2 = n ∧ u.1 = M) (kB D (kT cI cJ cZ cH cR) b) (kA b)) 0 0 (kA b) := by
  refine k_metI (by decide +kernel) (Nat.le_of_ble_eq_true rfl) ?_
  intro p e s m below meth c ls Q C hw hret hnm hl
  have hl : lv_has ls 3 [(0, .int x), (1, .int (nI 32))] := hl
  refine lv_iload_n C.1 C.2.1 dJ9_floorMod_7cf53_0 rfl (lv_at hl 0 rfl) ?_
  refine lv_iload_n C.1 C.2.1 dJ9_floorMod_7cf53_1 rfl (lv_at hl 1 rfl) ?_
  refine lv_irem C.1 C.2.1 dJ9_floorMod_7cf53_2 (by decide) ?_
  refine lv_topi (fun rm erm => ?_)
  refine lv_istore_n (lv' := [(2, .int rm), (0, .int x), (1, .int (nI 32))]) C.1 C.2.1 dJ9_floorMod_7cf53_3 rfl hl (by decide) rfl (fun ls hl => ?_)
  refine lv_iload_n C.1 C.2.1 dJ9_floorMod_7cf53_4 rfl (lv_at hl 1 rfl) ?_
  refine lv_iload_n C.1 C.2.1 dJ9_floorMod_7cf53_5 rfl (lv_at hl 2 rfl) ?_
  refine lv_ixor C.1 C.2.1 dJ9_floorMod_7cf53_6 ?_
  refine lv_if_ge (tgt := 18) C.1 C.2.1 dJ9_floorMod_7cf53_7 (by decide) (fun c7 => ?_) (fun c7 => ?_)
  · refine lv_iload_n C.1 C.2.1 dJ9_floorMod_7cf53_18 rfl (lv_at hl 0 rfl) ?_
    exact hret _ _ (Nat.le_of_ble_eq_true rfl) (Nat.le_of_ble_eq_true rfl) hw (⟨by subst erm; unfold fm32; rw [if_pos c7], rfl, rfl⟩) dJ9_floorMod_7cf53_19
  · refine lv_iload_n C.1 C.2.1 dJ9_floorMod_7cf53_10 rfl (lv_at hl 0 rfl) ?_
    refine lv_if_eq (tgt := 18) C.1 C.2.1 dJ9_floorMod_7cf53_11 (by decide) (fun c11 => ?_) (fun c11 => ?_)
    · refine lv_iload_n C.1 C.2.1 dJ9_floorMod_7cf53_18 rfl (lv_at hl 0 rfl) ?_
      exact hret _ _ (Nat.le_of_ble_eq_true rfl) (Nat.le_of_ble_eq_true rfl) hw (⟨by subst erm; unfold fm32; rw [if_neg c7, if_pos c11], rfl, rfl⟩) dJ9_floorMod_7cf53_19
    · refine lv_iload_n C.1 C.2.1 dJ9_floorMod_7cf53_14 rfl (lv_at hl 0 rfl) ?_
      refine lv_iload_n C.1 C.2.1 dJ9_floorMod_7cf53_15 rfl (lv_at hl 2 rfl) ?_
      refine lv_iadd C.1 C.2.1 dJ9_floorMod_7cf53_16 ?_
      exact hret _ _ (Nat.le_of_ble_eq_true rfl) (Nat.le_of_ble_eq_true rfl) hw (⟨by subst erm; unfold fm32; rw [if_neg c7, if_neg c11], rfl, rfl⟩) dJ9_floorMod_7cf53_17

set_option maxHeartbeats 4000000 in
set_option maxRecDepth 100000 in
theorem c_X1_put {l : Launch} {D : va_G} {cI cJ cZ cH cR : ClassId} {b : Nat} {n : Nat} {M : Nat → va_E}  {lx : Nat} {lz : Nat} {lk : Nat → Int32} {lt : Nat → Int32} {lc : Nat → Int32} {ly : Nat → Int64} {k t c_ : Int32} {z : Int64} (hn : 42 ≤ n) (h37 : M 37 = .inr (1, [.ref (b + 38), .ref (b + 39), .ref (b + 40), .ref (b + 41), .int (nI lx), .int (nI lz)])) (h38 : M 38 = .inl (cI, 32, .inl lk)) (h39 : M 39 = .inl (cI, 32, .inl lt)) (h40 : M 40 = .inl (cI, 32, .inl lc)) (h41 : M 41 = .inl (cJ, 32, .inr (.inl ly)))  (hx : lx < 32) (hz : lz ≤ 32) : Met l yX1_put (kw yX1_put cX1_put 6 none) ({ frames := 1, cells := 0, slots := 0, locals := 30 }) (va_Pc [.ref (b + 37), .int k, .int t, .int c_, .long z] (kPre D (kT cI cJ cZ cH cR) b M n)) (va_Qv (fun (u : (Nat → va_E) × Nat) => u.2 = n ∧ kF [37, 38, 39, 40, 41] M u.1 ∧ u.1 37 = .inr (1, [.ref (b + 38), .ref (b + 39), .ref (b + 40), .ref (b + 41), .int (nI ((lx + 1) % 32)), .int (nI (min (lz + 1) 32))]) ∧ u.1 38 = .inl (cI, 32, .inl (upd lk lx k)) ∧ u.1 39 = .inl (cI, 32, .inl (upd lt lx t)) ∧ u.1 40 = .inl (cI, 32, .inl (upd lc lx c_)) ∧ u.1 41 = .inl (cJ, 32, .inr (.inl (vp_updL ly lx z)))) (kB D (kT cI cJ cZ cH cR) b) (kA b)) 0 0 (kA b) := by
  refine k_metV (by decide +kernel) (Nat.le_of_ble_eq_true rfl) ?_
  intro p e s m below meth c ls Q C hw hret hnm hl
  have hl : lv_has ls 6 [(0, .ref (b + 37)), (1, .int k), (2, .int t), (3, .int c_), (4, .long z)] := hl
  have hFF : kF [37, 38, 39, 40, 41] M M := kF_rf
  refine lv_aload_n C.1 C.2.1 dX1_put_0 rfl (lv_at hl 0 rfl) ?_
  refine k_get C hw 37 (by omega) h37 rfl inlX1 0 (by decide) q_115 rfl dX1_put_1 ?_
  refine lv_aload_n C.1 C.2.1 dX1_put_4 rfl (lv_at hl 0 rfl) ?_
  refine k_get C hw 37 (by omega) h37 rfl inlX1 4 (by decide) q_527 rfl dX1_put_5 ?_
  refine lv_iload_n C.1 C.2.1 dX1_put_8 rfl (lv_at hl 1 rfl) ?_
  refine k_iast C hw 38 (by omega) h38 (by omega) (by first | decide | omega) dX1_put_9 (fun M_1 H locs hw h38 hF => ?_)
  have h37 := (hF 37 (by decide)).trans h37
  have h39 := (hF 39 (by decide)).trans h39
  have h40 := (hF 40 (by decide)).trans h40
  have h41 := (hF 41 (by decide)).trans h41
  have hFF := kF_st hFF hF (by first | decide | simp)
  refine lv_aload_n C.1 C.2.1 dX1_put_10 rfl (lv_at hl 0 rfl) ?_
  refine k_get C hw 37 (by omega) h37 rfl inlX1 1 (by decide) q_116 rfl dX1_put_11 ?_
  refine lv_aload_n C.1 C.2.1 dX1_put_14 rfl (lv_at hl 0 rfl) ?_
  refine k_get C hw 37 (by omega) h37 rfl inlX1 4 (by decide) q_527 rfl dX1_put_15 ?_
  refine lv_iload_n C.1 C.2.1 dX1_put_18 rfl (lv_at hl 2 rfl) ?_
  refine k_iast C hw 39 (by omega) h39 (by omega) (by first | decide | omega) dX1_put_19 (fun M_2 H locs hw h39 hF => ?_)
  have h37 := (hF 37 (by decide)).trans h37
  have h38 := (hF 38 (by decide)).trans h38
  have h40 := (hF 40 (by decide)).trans h40
  have h41 := (hF 41 (by decide)).trans h41
  have hFF := kF_st hFF hF (by first | decide | simp)
  refine lv_aload_n C.1 C.2.1 dX1_put_20 rfl (lv_at hl 0 rfl) ?_
  refine k_get C hw 37 (by omega) h37 rfl inlX1 2 (by decide) q_117 rfl dX1_put_21 ?_
  refine lv_aload_n C.1 C.2.1 dX1_put_24 rfl (lv_at hl 0 rfl) ?_
  refine k_get C hw 37 (by omega) h37 rfl inlX1 4 (by decide) q_527 rfl dX1_put_25 ?_
  refine lv_iload_n C.1 C.2.1 dX1_put_28 rfl (lv_at hl 3 rfl) ?_
  refine k_iast C hw 40 (by omega) h40 (by omega) (by first | decide | omega) dX1_put_29 (fun M_3 H locs hw h40 hF => ?_)
  have h37 := (hF 37 (by decide)).trans h37
  have h38 := (hF 38 (by decide)).trans h38
  have h39 := (hF 39 (by decide)).trans h39
  have h41 := (hF 41 (by decide)).trans h41
  have hFF := kF_st hFF hF (by first | decide | simp)
  refine lv_aload_n C.1 C.2.1 dX1_put_30 rfl (lv_at hl 0 rfl) ?_
  refine k_get C hw 37 (by omega) h37 rfl inlX1 3 (by decide) q_118 rfl dX1_put_31 ?_
  refine lv_aload_n C.1 C.2.1 dX1_put_34 rfl (lv_at hl 0 rfl) ?_
  refine k_get C hw 37 (by omega) h37 rfl inlX1 4 (by decide) q_527 rfl dX1_put_35 ?_
  refine lv_lload C.1 C.2.1 dX1_put_38 (lv_at hl 4 rfl) ?_
  refine k_last C hw 41 (by omega) h41 (by omega) (by first | decide | omega) dX1_put_40 (fun M_4 H locs hw h41 hF => ?_)
  have h37 := (hF 37 (by decide)).trans h37
  have h38 := (hF 38 (by decide)).trans h38
  have h39 := (hF 39 (by decide)).trans h39
  have h40 := (hF 40 (by decide)).trans h40
  have hFF := kF_st hFF hF (by first | decide | simp)
  refine lv_aload_n C.1 C.2.1 dX1_put_41 rfl (lv_at hl 0 rfl) ?_
  refine lv_aload_n C.1 C.2.1 dX1_put_42 rfl (lv_at hl 0 rfl) ?_
  refine k_get C hw 37 (by omega) h37 rfl inlX1 4 (by decide) q_527 rfl dX1_put_43 ?_
  refine lv_iconst (v := nI 1) C.1 C.2.1 dX1_put_46 (by decide) ?_
  refine lv_iadd C.1 C.2.1 dX1_put_47 ?_
  refine k_topi (y := nI (lx + 1)) (nI_add _ _) ?_
  refine lv_bipush (v := nI 32) C.1 C.2.1 dX1_put_48 (by decide) ?_
  refine lv_irem C.1 C.2.1 dX1_put_50 (by decide) ?_
  refine k_topi (y := nI ((lx + 1) % 32)) (pk_rem (by omega) (by decide) (by decide)) ?_
  refine k_put (tf := .int) C hw 37 (by omega) h37 rfl inlX1 tyX1 tyX1_ok nmX1 4 (by decide) q_527 rfl (by decide +kernel) rfl rfl (Nat.le_of_ble_eq_true rfl) dX1_put_51 (fun M_5 H locs hw h37 hF => ?_)
  have h37 : M_5 37 = .inr (1, [.ref (b + 38), .ref (b + 39), .ref (b + 40), .ref (b + 41), .int (nI ((lx + 1) % 32)), .int (nI lz)]) := h37
  have h38 := (hF 38 (by decide)).trans h38
  have h39 := (hF 39 (by decide)).trans h39
  have h40 := (hF 40 (by decide)).trans h40
  have h41 := (hF 41 (by decide)).trans h41
  have hFF := kF_st hFF hF (by first | decide | simp)
  refine lv_aload_n C.1 C.2.1 dX1_put_54 rfl (lv_at hl 0 rfl) ?_
  refine lv_aload_n C.1 C.2.1 dX1_put_55 rfl (lv_at hl 0 rfl) ?_
  refine k_get C hw 37 (by omega) h37 rfl inlX1 5 (by decide) q_528 rfl dX1_put_56 ?_
  refine lv_iconst (v := nI 1) C.1 C.2.1 dX1_put_59 (by decide) ?_
  refine lv_iadd C.1 C.2.1 dX1_put_60 ?_
  refine k_topi (y := nI (lz + 1)) (nI_add _ _) ?_
  refine lv_bipush (v := nI 32) C.1 C.2.1 dX1_put_61 (by decide) ?_
  refine va_mmin C.1 C.2.1 (C.2.2.1.trans hl.1.symm) C.2.2.2.1 (C.2.2.2.2.1 _ q_529) (C.2.2.2.2.1 _ q_530) (C.2.2.2.2.1 _ q_531) (C.2.2.2.2.1 _ q_532) (Nat.le_of_ble_eq_true rfl) (Nat.le_of_ble_eq_true rfl) (Nat.le_of_ble_eq_true rfl) (Nat.le_of_ble_eq_true rfl) dX1_put_63 ?_
  refine k_topi (y := nI (min (lz + 1) 32)) (nI_min (by omega) (by decide)) ?_
  refine k_put (tf := .int) C hw 37 (by omega) h37 rfl inlX1 tyX1 tyX1_ok nmX1 5 (by decide) q_528 rfl (by decide +kernel) rfl rfl (Nat.le_of_ble_eq_true rfl) dX1_put_66 (fun M_6 H locs hw h37 hF => ?_)
  have h37 : M_6 37 = .inr (1, [.ref (b + 38), .ref (b + 39), .ref (b + 40), .ref (b + 41), .int (nI ((lx + 1) % 32)), .int (nI (min (lz + 1) 32))]) := h37
  have h38 := (hF 38 (by decide)).trans h38
  have h39 := (hF 39 (by decide)).trans h39
  have h40 := (hF 40 (by decide)).trans h40
  have h41 := (hF 41 (by decide)).trans h41
  have hFF := kF_st hFF hF (by first | decide | simp)
  exact hret _ _ (Nat.le_of_ble_eq_true rfl) (Nat.le_of_ble_eq_true rfl) hw (⟨rfl, hFF, h37, h38, h39, h40, h41⟩) dX1_put_69

set_option maxHeartbeats 4000000 in
set_option maxRecDepth 100000 in
theorem c_X1_placeOf {l : Launch} {D : va_G} {cI cJ cZ cH cR : ClassId} {b : Nat} {n : Nat} {M : Nat → va_E}  {lx : Nat} {lz : Nat} {i : Nat} (hn : 38 ≤ n) (h37 : M 37 = .inr (1, [.ref (b + 38), .ref (b + 39), .ref (b + 40), .ref (b + 41), .int (nI lx), .int (nI lz)]))  (hx : lx < 32) (hi : i < 32) : Met l yX1_placeOf (kw yX1_placeOf cX1_placeOf 2 (some .int)) ({ frames := 1, cells := 0, slots := 0, locals := 22 }) (va_Pc [.ref (b + 37), .int (nI i)] (kPre D (kT cI cJ cZ cH cR) b M n)) (va_Qi (fun (r : Int32) (u : (Nat → va_E) × Nat) => r = (nI ((lx + 63 - i) % 32)) ∧ u.2 = n ∧ u.1 = M) (kB D (kT cI cJ cZ cH cR) b) (kA b)) 0 0 (kA b) := by
  refine k_metI (by decide +kernel) (Nat.le_of_ble_eq_true rfl) ?_
  intro p e s m below meth c ls Q C hw hret hnm hl
  have hl : lv_has ls 2 [(0, .ref (b + 37)), (1, .int (nI i))] := hl
  refine lv_aload_n C.1 C.2.1 dX1_placeOf_0 rfl (lv_at hl 0 rfl) ?_
  refine k_get C hw 37 (by omega) h37 rfl inlX1 4 (by decide) q_527 rfl dX1_placeOf_1 ?_
  refine lv_iconst (v := nI 1) C.1 C.2.1 dX1_placeOf_4 (by decide) ?_
  refine lv_isub C.1 C.2.1 dX1_placeOf_5 ?_
  refine lv_iload_n C.1 C.2.1 dX1_placeOf_6 rfl (lv_at hl 1 rfl) ?_
  refine lv_isub C.1 C.2.1 dX1_placeOf_7 ?_
  refine lv_bipush (v := nI 32) C.1 C.2.1 dX1_placeOf_8 (by decide) ?_
  refine k_si C hw (c_J9_floorMod_7cf53   ) kv_X1_38 rfl hl.1 ⟨Nat.le_of_ble_eq_true rfl, Nat.le_of_ble_eq_true rfl⟩ (Nat.le_of_ble_eq_true rfl) ⟨Nat.le_of_ble_eq_true rfl, Nat.le_of_ble_eq_true rfl⟩ dX1_placeOf_10 (fun r10 M_1 n9 H locs hp hw => ?_)
  obtain ⟨er10, en9, eM9⟩ := hp
  have en9 : n9 = n := en9
  rw [en9] at hw
  have eM9 : M_1 = M := eM9
  rw [eM9] at hw
  exact hret _ _ (Nat.le_of_ble_eq_true rfl) (Nat.le_of_ble_eq_true rfl) hw (⟨by rw [er10]; exact fm32_at hx hi, rfl, rfl⟩) dX1_placeOf_13

set_option maxHeartbeats 4000000 in
set_option maxRecDepth 100000 in
theorem c_X7_comesAhead {l : Launch} {D : va_G} {cI cJ cZ cH cR : ClassId} {b : Nat} {n : Nat} {M : Nat → va_E}  {ts : Nat} {tr : Int32} {tk : Nat → Int32} {tt : Nat → Int32} {k t : Int32} {j : Nat} (hn : 33 ≤ n) (h30 : M 30 = .inr (7, [.ref (b + 31), .ref (b + 32), .int (nI ts), .int tr])) (h31 : M 31 = .inl (cI, 40, .inl tk)) (h32 : M 32 = .inl (cI, 40, .inl tt))  (hj : j < 40) : Met l yX7_comesAhead (kw yX7_comesAhead cX7_comesAhead 4 (some .boolean)) ({ frames := 0, cells := 0, slots := 0, locals := 0 }) (va_Pc [.ref (b + 30), .int k, .int t, .int (nI j)] (kPre D (kT cI cJ cZ cH cR) b M n)) (va_Qi (fun (r : Int32) (u : (Nat → va_E) × Nat) => r = (if tah k t (tk j) (tt j) then 1 else 0) ∧ u.2 = n ∧ u.1 = M) (kB D (kT cI cJ cZ cH cR) b) (kA b)) 0 0 (kA b) := by
  refine k_metZ (by decide +kernel) (Nat.le_of_ble_eq_true rfl) ?_
  intro p e s m below meth c ls Q C hw hret hnm hl
  have hl : lv_has ls 4 [(0, .ref (b + 30)), (1, .int k), (2, .int t), (3, .int (nI j))] := hl
  refine lv_iload_n C.1 C.2.1 dX7_comesAhead_0 rfl (lv_at hl 2 rfl) ?_
  refine lv_aload_n C.1 C.2.1 dX7_comesAhead_1 rfl (lv_at hl 0 rfl) ?_
  refine k_get C hw 30 (by omega) h30 rfl inlX7 1 (by decide) q_103 rfl dX7_comesAhead_2 ?_
  refine lv_iload_n C.1 C.2.1 dX7_comesAhead_5 rfl (lv_at hl 3 rfl) ?_
  refine k_iald C hw 32 (by omega) h32 (by omega) (by first | decide | omega) dX7_comesAhead_6 ?_
  refine lv_icmp_lt (tgt := 30) C.1 C.2.1 dX7_comesAhead_7 (by decide) (fun c7 => ?_) (fun c7 => ?_)
  · refine lv_iconst (v := nI 1) C.1 C.2.1 dX7_comesAhead_30 (by decide) ?_
    refine lv_goto (tgt := 35) C.1 C.2.1 dX7_comesAhead_31 (by decide) ?_
    exact hret _ _ (Nat.le_of_ble_eq_true rfl) (Nat.le_of_ble_eq_true rfl) hw (by first | exact Or.inl rfl | exact Or.inr rfl) (⟨by rw [if_pos (Or.inl c7)]; rfl, rfl, rfl⟩) dX7_comesAhead_35
  · refine lv_iload_n C.1 C.2.1 dX7_comesAhead_10 rfl (lv_at hl 2 rfl) ?_
    refine lv_aload_n C.1 C.2.1 dX7_comesAhead_11 rfl (lv_at hl 0 rfl) ?_
    refine k_get C hw 30 (by omega) h30 rfl inlX7 1 (by decide) q_103 rfl dX7_comesAhead_12 ?_
    refine lv_iload_n C.1 C.2.1 dX7_comesAhead_15 rfl (lv_at hl 3 rfl) ?_
    refine k_iald C hw 32 (by omega) h32 (by omega) (by first | decide | omega) dX7_comesAhead_16 ?_
    refine lv_icmp_ne (tgt := 34) C.1 C.2.1 dX7_comesAhead_17 (by decide) (fun c17 => ?_) (fun c17 => ?_)
    · refine lv_iconst (v := nI 0) C.1 C.2.1 dX7_comesAhead_34 (by decide) ?_
      exact hret _ _ (Nat.le_of_ble_eq_true rfl) (Nat.le_of_ble_eq_true rfl) hw (by first | exact Or.inl rfl | exact Or.inr rfl) (⟨by rw [if_neg (fun h => h.elim c7 (fun q => c17 q.1))]; rfl, rfl, rfl⟩) dX7_comesAhead_35
    · refine lv_iload_n C.1 C.2.1 dX7_comesAhead_20 rfl (lv_at hl 1 rfl) ?_
      refine lv_aload_n C.1 C.2.1 dX7_comesAhead_21 rfl (lv_at hl 0 rfl) ?_
      refine k_get C hw 30 (by omega) h30 rfl inlX7 0 (by decide) q_102 rfl dX7_comesAhead_22 ?_
      refine lv_iload_n C.1 C.2.1 dX7_comesAhead_25 rfl (lv_at hl 3 rfl) ?_
      refine k_iald C hw 31 (by omega) h31 (by omega) (by first | decide | omega) dX7_comesAhead_26 ?_
      refine lv_icmp_ge (tgt := 34) C.1 C.2.1 dX7_comesAhead_27 (by decide) (fun c27 => ?_) (fun c27 => ?_)
      · refine lv_iconst (v := nI 0) C.1 C.2.1 dX7_comesAhead_34 (by decide) ?_
        exact hret _ _ (Nat.le_of_ble_eq_true rfl) (Nat.le_of_ble_eq_true rfl) hw (by first | exact Or.inl rfl | exact Or.inr rfl) (⟨by rw [if_neg (fun h => h.elim c7 (fun q => absurd q.2 (Int32.not_lt.mpr c27)))]; rfl, rfl, rfl⟩) dX7_comesAhead_35
      · refine lv_iconst (v := nI 1) C.1 C.2.1 dX7_comesAhead_30 (by decide) ?_
        refine lv_goto (tgt := 35) C.1 C.2.1 dX7_comesAhead_31 (by decide) ?_
        exact hret _ _ (Nat.le_of_ble_eq_true rfl) (Nat.le_of_ble_eq_true rfl) hw (by first | exact Or.inl rfl | exact Or.inr rfl) (⟨by rw [if_pos (Or.inr ⟨c17, Int32.not_le.mp c27⟩)]; rfl, rfl, rfl⟩) dX7_comesAhead_35

set_option maxHeartbeats 4000000 in
set_option maxRecDepth 100000 in
theorem c_X7_placeFor {l : Launch} {D : va_G} {cI cJ cZ cH cR : ClassId} {b : Nat} {n : Nat} {M : Nat → va_E}  {ts : Nat} {tr : Int32} {tk : Nat → Int32} {tt : Nat → Int32} {k t : Int32} (hn : 33 ≤ n) (h30 : M 30 = .inr (7, [.ref (b + 31), .ref (b + 32), .int (nI ts), .int tr])) (h31 : M 31 = .inl (cI, 40, .inl tk)) (h32 : M 32 = .inl (cI, 40, .inl tt))  (hs : ts ≤ 40) : Met l yX7_placeFor (kw yX7_placeFor cX7_placeFor 4 (some .int)) ({ frames := 1, cells := 0, slots := 0, locals := 23 }) (va_Pc [.ref (b + 30), .int k, .int t] (kPre D (kT cI cJ cZ cH cR) b M n)) (va_Qi (fun (r : Int32) (u : (Nat → va_E) × Nat) => r = (nI (tpl k t tk tt ts)) ∧ u.2 = n ∧ u.1 = M) (kB D (kT cI cJ cZ cH cR) b) (kA b)) 0 0 (kA b) := by
  refine k_metI (by decide +kernel) (Nat.le_of_ble_eq_true rfl) ?_
  intro p e s m below meth c ls Q C hw hret hnm hl
  have hl : lv_has ls 4 [(0, .ref (b + 30)), (1, .int k), (2, .int t)] := hl
  refine lv_aload_n C.1 C.2.1 dX7_placeFor_0 rfl (lv_at hl 0 rfl) ?_
  refine k_get C hw 30 (by omega) h30 rfl inlX7 2 (by decide) q_498 rfl dX7_placeFor_1 ?_
  refine lv_istore_n (lv' := [(3, .int (nI ts)), (0, .ref (b + 30)), (1, .int k), (2, .int t)]) C.1 C.2.1 dX7_placeFor_4 rfl hl (by decide) rfl (fun ls hl => ?_)
  have L5 : ∀ (N5 : Nat) (i : Nat), (i < N5) → (i ≤ ts) → (tpl k t tk tt i = tpl k t tk tt ts) → ∀ (ls : Array Slot) (H : Heap) (locs : List Loc), lv_has ls 4 [(3, .int (nI i)), (0, .ref (b + 30)), (1, .int k), (2, .int t)] → kW D b M n s.heap H locs → W p l e ({ frames := 1, cells := 0, slots := 0, locals := 23 } : Room) s m ([.ref (b + 30), .int k, .int t] : List Value).toArray below meth c H locs 0 0 Q (F0 m 5 ls []) := by
    intro N5
    induction N5 with
    | zero => intro i hm5 hi ha ls H locs hl hw; omega
    | succ N5 ih5 =>
      intro i hm5 hi ha ls H locs hl hw
      refine lv_iload_n C.1 C.2.1 dX7_placeFor_5 rfl (lv_at hl 0 rfl) ?_
      refine lv_if_le (tgt := 27) C.1 C.2.1 dX7_placeFor_6 (by decide) (fun c6 => ?_) (fun c6 => ?_)
      · have q : i = 0 := by rcases Nat.eq_zero_or_pos i with z | z; exact z; exact absurd c6 (nI_nle z (by omega))
        refine lv_iload_n C.1 C.2.1 dX7_placeFor_27 rfl (lv_at hl 0 rfl) ?_
        exact hret _ _ (Nat.le_of_ble_eq_true rfl) (Nat.le_of_ble_eq_true rfl) hw (⟨by rw [← ha, q]; rfl, rfl, rfl⟩) dX7_placeFor_28
      · have q : 0 < i := Nat.pos_of_ne_zero (fun z => c6 (by rw [z]; decide))
        refine lv_aload_n C.1 C.2.1 dX7_placeFor_9 rfl (lv_at hl 1 rfl) ?_
        refine lv_iload_n C.1 C.2.1 dX7_placeFor_10 rfl (lv_at hl 2 rfl) ?_
        refine lv_iload_n C.1 C.2.1 dX7_placeFor_11 rfl (lv_at hl 3 rfl) ?_
        refine lv_iload_n C.1 C.2.1 dX7_placeFor_12 rfl (lv_at hl 0 rfl) ?_
        refine lv_iconst (v := nI 1) C.1 C.2.1 dX7_placeFor_13 (by decide) ?_
        refine lv_isub C.1 C.2.1 dX7_placeFor_14 ?_
        refine k_topi (y := nI (i - 1)) (pk_sub (by omega)) ?_
        refine k_vi C hw 30 (by omega) h30 rfl (c_X7_comesAhead (by omega) h30 h31 h32  (by omega)) kv_X7_35 rfl hl.1 ⟨Nat.le_of_ble_eq_true rfl, Nat.le_of_ble_eq_true rfl⟩ (Nat.le_of_ble_eq_true rfl) ⟨Nat.le_of_ble_eq_true rfl, Nat.le_of_ble_eq_true rfl⟩ dX7_placeFor_15 (fun r15 M_1 n9 H locs hp hw => ?_)
        obtain ⟨er15, en9, eM9⟩ := hp
        have en9 : n9 = n := en9
        rw [en9] at hw
        have eM9 : M_1 = M := eM9
        rw [eM9] at hw
        refine lv_if_eq (tgt := 27) C.1 C.2.1 dX7_placeFor_18 (by decide) (fun c18 => ?_) (fun c18 => ?_)
        · have hno : ¬ tah k t (tk (i - 1)) (tt (i - 1)) := fun z => by rw [er15, if_pos z] at c18; exact absurd c18 (by decide)
          refine lv_iload_n C.1 C.2.1 dX7_placeFor_27 rfl (lv_at hl 0 rfl) ?_
          exact hret _ _ (Nat.le_of_ble_eq_true rfl) (Nat.le_of_ble_eq_true rfl) hw (⟨by rw [← ha, tpl_e (by omega) hno], rfl, rfl⟩) dX7_placeFor_28
        · have hyes : tah k t (tk (i - 1)) (tt (i - 1)) := Classical.byContradiction (fun z => c18 (by rw [er15, if_neg z]))
          refine lv_iinc (v := (nI (i - 1))) (lv' := [(3, .int (nI (i - 1))), (0, .ref (b + 30)), (1, .int k), (2, .int t)]) C.1 C.2.1 dX7_placeFor_21 hl (k := 0) rfl (sb_m1 (by omega)) (by decide) rfl (fun ls hl => ?_)
          refine lv_goto (tgt := 5) C.1 C.2.1 dX7_placeFor_24 (by decide) ?_
          exact ih5  (i - 1) (by omega) (by omega) (by rw [← ha]; exact tpl_s (by omega) hyes) ls _ _ (lv_sub hl [0, 1, 2, 3] rfl) hw
  exact L5 (_ + 1) (ts) (Nat.lt_succ_self _) (Nat.le_refl _) (rfl) ls _ _ (lv_sub hl [0, 1, 2, 3] rfl) hw

set_option maxHeartbeats 4000000 in
set_option maxRecDepth 100000 in
theorem c_X7_enter {l : Launch} {D : va_G} {cI cJ cZ cH cR : ClassId} {b : Nat} {n : Nat} {M : Nat → va_E}  {ts : Nat} {tr : Int32} {tk : Nat → Int32} {tt : Nat → Int32} {k t : Int32} (hn : 33 ≤ n) (h30 : M 30 = .inr (7, [.ref (b + 31), .ref (b + 32), .int (nI ts), .int tr])) (h31 : M 31 = .inl (cI, 40, .inl tk)) (h32 : M 32 = .inl (cI, 40, .inl tt))  (hs : ts < 40) : Met l yX7_enter (kw yX7_enter cX7_enter 4 none) ({ frames := 2, cells := 0, slots := 0, locals := 46 }) (va_Pc [.ref (b + 30), .int k, .int t] (kPre D (kT cI cJ cZ cH cR) b M n)) (va_Qv (fun (u : (Nat → va_E) × Nat) => u.2 = n ∧ kF [30, 31, 32] M u.1 ∧ u.1 30 = .inr (7, [.ref (b + 31), .ref (b + 32), .int (nI (ts + 1)), .int (tr)]) ∧ u.1 31 = .inl (cI, 40, .inl (upd (va_cpy tk tk (tpl k t tk tt ts) ((tpl k t tk tt ts) + 1) (ts - (tpl k t tk tt ts))) (tpl k t tk tt ts) k)) ∧ u.1 32 = .inl (cI, 40, .inl (upd (va_cpy tt tt (tpl k t tk tt ts) ((tpl k t tk tt ts) + 1) (ts - (tpl k t tk tt ts))) (tpl k t tk tt ts) t))) (kB D (kT cI cJ cZ cH cR) b) (kA b)) 0 0 (kA b) := by
  refine k_metV (by decide +kernel) (Nat.le_of_ble_eq_true rfl) ?_
  intro p e s m below meth c ls Q C hw hret hnm hl
  have hl : lv_has ls 4 [(0, .ref (b + 30)), (1, .int k), (2, .int t)] := hl
  have hFF : kF [30, 31, 32] M M := kF_rf
  refine lv_aload_n C.1 C.2.1 dX7_enter_0 rfl (lv_at hl 0 rfl) ?_
  refine lv_iload_n C.1 C.2.1 dX7_enter_1 rfl (lv_at hl 1 rfl) ?_
  refine lv_iload_n C.1 C.2.1 dX7_enter_2 rfl (lv_at hl 2 rfl) ?_
  refine k_vi C hw 30 (by omega) h30 rfl (c_X7_placeFor (by omega) h30 h31 h32  (by omega)) kv_X7_25 rfl hl.1 ⟨Nat.le_of_ble_eq_true rfl, Nat.le_of_ble_eq_true rfl⟩ (Nat.le_of_ble_eq_true rfl) ⟨Nat.le_of_ble_eq_true rfl, Nat.le_of_ble_eq_true rfl⟩ dX7_enter_3 (fun r3 M_1 n9 H locs hp hw => ?_)
  obtain ⟨er3, en9, eM9⟩ := hp
  have en9 : n9 = n := en9
  rw [en9] at hw
  have eM9 : M_1 = M := eM9
  rw [eM9] at hw
  have hpl : tpl k t tk tt ts ≤ ts := tpl_le ..
  subst er3
  refine lv_istore_n (lv' := [(3, .int (nI (tpl k t tk tt ts))), (0, .ref (b + 30)), (1, .int k), (2, .int t)]) C.1 C.2.1 dX7_enter_6 rfl hl (by decide) rfl (fun ls hl => ?_)
  refine lv_aload_n C.1 C.2.1 dX7_enter_7 rfl (lv_at hl 1 rfl) ?_
  refine k_get C hw 30 (by omega) h30 rfl inlX7 0 (by decide) q_102 rfl dX7_enter_8 ?_
  refine lv_iload_n C.1 C.2.1 dX7_enter_11 rfl (lv_at hl 0 rfl) ?_
  refine lv_aload_n C.1 C.2.1 dX7_enter_12 rfl (lv_at hl 1 rfl) ?_
  refine k_get C hw 30 (by omega) h30 rfl inlX7 0 (by decide) q_102 rfl dX7_enter_13 ?_
  refine lv_iload_n C.1 C.2.1 dX7_enter_16 rfl (lv_at hl 0 rfl) ?_
  refine lv_iconst (v := nI 1) C.1 C.2.1 dX7_enter_17 (by decide) ?_
  refine lv_iadd C.1 C.2.1 dX7_enter_18 ?_
  refine k_topi (y := nI ((tpl k t tk tt ts) + 1)) (nI_add _ _) ?_
  refine lv_aload_n C.1 C.2.1 dX7_enter_19 rfl (lv_at hl 1 rfl) ?_
  refine k_get C hw 30 (by omega) h30 rfl inlX7 2 (by decide) q_498 rfl dX7_enter_20 ?_
  refine lv_iload_n C.1 C.2.1 dX7_enter_23 rfl (lv_at hl 0 rfl) ?_
  refine lv_isub C.1 C.2.1 dX7_enter_24 ?_
  refine k_topi (y := nI (ts - (tpl k t tk tt ts))) (pk_sub hpl) ?_
  refine k_copyi C hw hl.1 q_499 q_276 q_277 q_278 31 31 (by omega) (by omega) h31 h31 (by omega) (by omega) (by decide) (by decide) (Nat.le_of_ble_eq_true rfl) (by decide) dX7_enter_25 (fun M_2 H locs hw h31 hF => ?_)
  have h30 := (hF 30 (by decide)).trans h30
  have h32 := (hF 32 (by decide)).trans h32
  have hFF := kF_st hFF hF (by first | decide | simp)
  refine lv_aload_n C.1 C.2.1 dX7_enter_28 rfl (lv_at hl 1 rfl) ?_
  refine k_get C hw 30 (by omega) h30 rfl inlX7 1 (by decide) q_103 rfl dX7_enter_29 ?_
  refine lv_iload_n C.1 C.2.1 dX7_enter_32 rfl (lv_at hl 0 rfl) ?_
  refine lv_aload_n C.1 C.2.1 dX7_enter_33 rfl (lv_at hl 1 rfl) ?_
  refine k_get C hw 30 (by omega) h30 rfl inlX7 1 (by decide) q_103 rfl dX7_enter_34 ?_
  refine lv_iload_n C.1 C.2.1 dX7_enter_37 rfl (lv_at hl 0 rfl) ?_
  refine lv_iconst (v := nI 1) C.1 C.2.1 dX7_enter_38 (by decide) ?_
  refine lv_iadd C.1 C.2.1 dX7_enter_39 ?_
  refine k_topi (y := nI ((tpl k t tk tt ts) + 1)) (nI_add _ _) ?_
  refine lv_aload_n C.1 C.2.1 dX7_enter_40 rfl (lv_at hl 1 rfl) ?_
  refine k_get C hw 30 (by omega) h30 rfl inlX7 2 (by decide) q_498 rfl dX7_enter_41 ?_
  refine lv_iload_n C.1 C.2.1 dX7_enter_44 rfl (lv_at hl 0 rfl) ?_
  refine lv_isub C.1 C.2.1 dX7_enter_45 ?_
  refine k_topi (y := nI (ts - (tpl k t tk tt ts))) (pk_sub hpl) ?_
  refine k_copyi C hw hl.1 q_499 q_276 q_277 q_278 32 32 (by omega) (by omega) h32 h32 (by omega) (by omega) (by decide) (by decide) (Nat.le_of_ble_eq_true rfl) (by decide) dX7_enter_46 (fun M_3 H locs hw h32 hF => ?_)
  have h30 := (hF 30 (by decide)).trans h30
  have h31 := (hF 31 (by decide)).trans h31
  have hFF := kF_st hFF hF (by first | decide | simp)
  refine lv_aload_n C.1 C.2.1 dX7_enter_49 rfl (lv_at hl 1 rfl) ?_
  refine k_get C hw 30 (by omega) h30 rfl inlX7 0 (by decide) q_102 rfl dX7_enter_50 ?_
  refine lv_iload_n C.1 C.2.1 dX7_enter_53 rfl (lv_at hl 0 rfl) ?_
  refine lv_iload_n C.1 C.2.1 dX7_enter_54 rfl (lv_at hl 2 rfl) ?_
  refine k_iast C hw 31 (by omega) h31 (by omega) (by first | decide | omega) dX7_enter_55 (fun M_4 H locs hw h31 hF => ?_)
  have h30 := (hF 30 (by decide)).trans h30
  have h32 := (hF 32 (by decide)).trans h32
  have hFF := kF_st hFF hF (by first | decide | simp)
  refine lv_aload_n C.1 C.2.1 dX7_enter_56 rfl (lv_at hl 1 rfl) ?_
  refine k_get C hw 30 (by omega) h30 rfl inlX7 1 (by decide) q_103 rfl dX7_enter_57 ?_
  refine lv_iload_n C.1 C.2.1 dX7_enter_60 rfl (lv_at hl 0 rfl) ?_
  refine lv_iload_n C.1 C.2.1 dX7_enter_61 rfl (lv_at hl 3 rfl) ?_
  refine k_iast C hw 32 (by omega) h32 (by omega) (by first | decide | omega) dX7_enter_62 (fun M_5 H locs hw h32 hF => ?_)
  have h30 := (hF 30 (by decide)).trans h30
  have h31 := (hF 31 (by decide)).trans h31
  have hFF := kF_st hFF hF (by first | decide | simp)
  refine lv_aload_n C.1 C.2.1 dX7_enter_63 rfl (lv_at hl 1 rfl) ?_
  refine lv_dup C.1 C.2.1 dX7_enter_64 rfl ?_
  refine k_get C hw 30 (by omega) h30 rfl inlX7 2 (by decide) q_498 rfl dX7_enter_65 ?_
  refine lv_iconst (v := nI 1) C.1 C.2.1 dX7_enter_68 (by decide) ?_
  refine lv_iadd C.1 C.2.1 dX7_enter_69 ?_
  refine k_topi (y := nI (ts + 1)) (nI_add _ _) ?_
  refine k_put (tf := .int) C hw 30 (by omega) h30 rfl inlX7 tyX7 tyX7_ok nmX7 2 (by decide) q_498 rfl (by decide +kernel) rfl rfl (Nat.le_of_ble_eq_true rfl) dX7_enter_70 (fun M_6 H locs hw h30 hF => ?_)
  have h30 : M_6 30 = .inr (7, [.ref (b + 31), .ref (b + 32), .int (nI (ts + 1)), .int tr]) := h30
  have h31 := (hF 31 (by decide)).trans h31
  have h32 := (hF 32 (by decide)).trans h32
  have hFF := kF_st hFF hF (by first | decide | simp)
  exact hret _ _ (Nat.le_of_ble_eq_true rfl) (Nat.le_of_ble_eq_true rfl) hw (⟨rfl, hFF, h30, h31, h32⟩) dX7_enter_73

set_option maxHeartbeats 4000000 in
set_option maxRecDepth 100000 in
theorem c_X7_dueAt {l : Launch} {D : va_G} {cI cJ cZ cH cR : ClassId} {b : Nat} {n : Nat} {M : Nat → va_E}  {ts : Nat} {tr : Int32} {tk : Nat → Int32} {tt : Nat → Int32} {t : Int32} (hn : 33 ≤ n) (h30 : M 30 = .inr (7, [.ref (b + 31), .ref (b + 32), .int (nI ts), .int tr])) (h31 : M 31 = .inl (cI, 40, .inl tk)) (h32 : M 32 = .inl (cI, 40, .inl tt))  (hs : ts ≤ 40) : Met l yX7_dueAt (kw yX7_dueAt cX7_dueAt 3 (some .int)) ({ frames := 0, cells := 0, slots := 0, locals := 0 }) (va_Pc [.ref (b + 30), .int t] (kPre D (kT cI cJ cZ cH cR) b M n)) (va_Qi (fun (r : Int32) (u : (Nat → va_E) × Nat) => r = (nI (fst (fun j => decide (t < tt j)) ts)) ∧ u.2 = n ∧ u.1 = M) (kB D (kT cI cJ cZ cH cR) b) (kA b)) 0 0 (kA b) := by
  refine k_metI (by decide +kernel) (Nat.le_of_ble_eq_true rfl) ?_
  intro p e s m below meth c ls Q C hw hret hnm hl
  have hl : lv_has ls 3 [(0, .ref (b + 30)), (1, .int t)] := hl
  refine lv_iconst (v := nI 0) C.1 C.2.1 dX7_dueAt_0 (by decide) ?_
  refine lv_istore_n (lv' := [(2, .int (nI 0)), (0, .ref (b + 30)), (1, .int t)]) C.1 C.2.1 dX7_dueAt_1 rfl hl (by decide) rfl (fun ls hl => ?_)
  have L2 : ∀ (N2 : Nat) (i : Nat), (ts - i < N2) → (i ≤ ts) → (∀ j, j < i → decide (t < tt j) = false) → ∀ (ls : Array Slot) (H : Heap) (locs : List Loc), lv_has ls 3 [(2, .int (nI i)), (0, .ref (b + 30)), (1, .int t)] → kW D b M n s.heap H locs → W p l e ({ frames := 0, cells := 0, slots := 0, locals := 0 } : Room) s m ([.ref (b + 30), .int t] : List Value).toArray below meth c H locs 0 0 Q (F0 m 2 ls []) := by
    intro N2
    induction N2 with
    | zero => intro i hm2 hi ha ls H locs hl hw; omega
    | succ N2 ih2 =>
      intro i hm2 hi ha ls H locs hl hw
      refine lv_iload_n C.1 C.2.1 dX7_dueAt_2 rfl (lv_at hl 0 rfl) ?_
      refine lv_aload_n C.1 C.2.1 dX7_dueAt_3 rfl (lv_at hl 1 rfl) ?_
      refine k_get C hw 30 (by omega) h30 rfl inlX7 2 (by decide) q_498 rfl dX7_dueAt_4 ?_
      refine lv_icmp_ge (tgt := 26) C.1 C.2.1 dX7_dueAt_7 (by decide) (fun c7 => ?_) (fun c7 => ?_)
      · have q := (nI_leI (by omega) (by omega)).mp c7
        have q : i = ts := by omega
        refine lv_iload_n C.1 C.2.1 dX7_dueAt_26 rfl (lv_at hl 0 rfl) ?_
        exact hret _ _ (Nat.le_of_ble_eq_true rfl) (Nat.le_of_ble_eq_true rfl) hw (⟨by rw [← q, fst_none ha], rfl, rfl⟩) dX7_dueAt_27
      · have q : ¬ ts ≤ i := fun z => c7 ((nI_leI (by omega) (by omega)).mpr z)
        refine lv_aload_n C.1 C.2.1 dX7_dueAt_10 rfl (lv_at hl 1 rfl) ?_
        refine k_get C hw 30 (by omega) h30 rfl inlX7 1 (by decide) q_103 rfl dX7_dueAt_11 ?_
        refine lv_iload_n C.1 C.2.1 dX7_dueAt_14 rfl (lv_at hl 0 rfl) ?_
        refine k_iald C hw 32 (by omega) h32 (by omega) (by first | decide | omega) dX7_dueAt_15 ?_
        refine lv_iload_n C.1 C.2.1 dX7_dueAt_16 rfl (lv_at hl 2 rfl) ?_
        refine lv_icmp_gt (tgt := 26) C.1 C.2.1 dX7_dueAt_17 (by decide) (fun c17 => ?_) (fun c17 => ?_)
        · refine lv_iload_n C.1 C.2.1 dX7_dueAt_26 rfl (lv_at hl 0 rfl) ?_
          exact hret _ _ (Nat.le_of_ble_eq_true rfl) (Nat.le_of_ble_eq_true rfl) hw (⟨by rw [fst_at ha (by simpa using c17) (by omega)], rfl, rfl⟩) dX7_dueAt_27
        · refine lv_iinc (v := (nI (i + 1))) (lv' := [(2, .int (nI (i + 1))), (0, .ref (b + 30)), (1, .int t)]) C.1 C.2.1 dX7_dueAt_20 hl (k := 0) rfl (k_inc _ 1) (by decide) rfl (fun ls hl => ?_)
          refine lv_goto (tgt := 2) C.1 C.2.1 dX7_dueAt_23 (by decide) ?_
          exact ih2  (i + 1) (by omega) (by omega) (fun j hj => by rcases Nat.lt_succ_iff_lt_or_eq.mp hj with h | h; exact ha j h; rw [h]; simpa using c17) ls _ _ (lv_sub hl [0, 1, 2] rfl) hw
  exact L2 (_ + 1) (0) (Nat.lt_succ_self _) (Nat.zero_le _) (fun j hj => absurd hj (Nat.not_lt_zero j)) ls _ _ (lv_sub hl [0, 1, 2] rfl) hw

set_option maxHeartbeats 4000000 in
set_option maxRecDepth 100000 in
theorem c_X7_takeFirst {l : Launch} {D : va_G} {cI cJ cZ cH cR : ClassId} {b : Nat} {n : Nat} {M : Nat → va_E}  {ts : Nat} {tr : Int32} {tk : Nat → Int32} {tt : Nat → Int32} {d : Nat} (hn : 33 ≤ n) (h30 : M 30 = .inr (7, [.ref (b + 31), .ref (b + 32), .int (nI ts), .int tr])) (h31 : M 31 = .inl (cI, 40, .inl tk)) (h32 : M 32 = .inl (cI, 40, .inl tt))  (hd : d ≤ ts) (hs : ts ≤ 40) : Met l yX7_takeFirst (kw yX7_takeFirst cX7_takeFirst 2 none) ({ frames := 1, cells := 0, slots := 0, locals := 40 }) (va_Pc [.ref (b + 30), .int (nI d)] (kPre D (kT cI cJ cZ cH cR) b M n)) (va_Qv (fun (u : (Nat → va_E) × Nat) => u.2 = n ∧ kF [30, 31, 32] M u.1 ∧ u.1 30 = .inr (7, [.ref (b + 31), .ref (b + 32), .int (nI (ts - d)), .int (tr)]) ∧ u.1 31 = .inl (cI, 40, .inl (va_cpy tk tk d 0 (ts - d))) ∧ u.1 32 = .inl (cI, 40, .inl (va_cpy tt tt d 0 (ts - d)))) (kB D (kT cI cJ cZ cH cR) b) (kA b)) 0 0 (kA b) := by
  refine k_metV (by decide +kernel) (Nat.le_of_ble_eq_true rfl) ?_
  intro p e s m below meth c ls Q C hw hret hnm hl
  have hl : lv_has ls 2 [(0, .ref (b + 30)), (1, .int (nI d))] := hl
  have hFF : kF [30, 31, 32] M M := kF_rf
  refine lv_aload_n C.1 C.2.1 dX7_takeFirst_0 rfl (lv_at hl 0 rfl) ?_
  refine k_get C hw 30 (by omega) h30 rfl inlX7 0 (by decide) q_102 rfl dX7_takeFirst_1 ?_
  refine lv_iload_n C.1 C.2.1 dX7_takeFirst_4 rfl (lv_at hl 1 rfl) ?_
  refine lv_aload_n C.1 C.2.1 dX7_takeFirst_5 rfl (lv_at hl 0 rfl) ?_
  refine k_get C hw 30 (by omega) h30 rfl inlX7 0 (by decide) q_102 rfl dX7_takeFirst_6 ?_
  refine lv_iconst (v := nI 0) C.1 C.2.1 dX7_takeFirst_9 (by decide) ?_
  refine lv_aload_n C.1 C.2.1 dX7_takeFirst_10 rfl (lv_at hl 0 rfl) ?_
  refine k_get C hw 30 (by omega) h30 rfl inlX7 2 (by decide) q_498 rfl dX7_takeFirst_11 ?_
  refine lv_iload_n C.1 C.2.1 dX7_takeFirst_14 rfl (lv_at hl 1 rfl) ?_
  refine lv_isub C.1 C.2.1 dX7_takeFirst_15 ?_
  refine k_topi (y := nI (ts - d)) (pk_sub (by omega)) ?_
  refine k_copyi C hw hl.1 q_499 q_276 q_277 q_278 31 31 (by omega) (by omega) h31 h31 (by omega) (by omega) (by decide) (by decide) (Nat.le_of_ble_eq_true rfl) (by decide) dX7_takeFirst_16 (fun M_1 H locs hw h31 hF => ?_)
  have h30 := (hF 30 (by decide)).trans h30
  have h32 := (hF 32 (by decide)).trans h32
  have hFF := kF_st hFF hF (by first | decide | simp)
  refine lv_aload_n C.1 C.2.1 dX7_takeFirst_19 rfl (lv_at hl 0 rfl) ?_
  refine k_get C hw 30 (by omega) h30 rfl inlX7 1 (by decide) q_103 rfl dX7_takeFirst_20 ?_
  refine lv_iload_n C.1 C.2.1 dX7_takeFirst_23 rfl (lv_at hl 1 rfl) ?_
  refine lv_aload_n C.1 C.2.1 dX7_takeFirst_24 rfl (lv_at hl 0 rfl) ?_
  refine k_get C hw 30 (by omega) h30 rfl inlX7 1 (by decide) q_103 rfl dX7_takeFirst_25 ?_
  refine lv_iconst (v := nI 0) C.1 C.2.1 dX7_takeFirst_28 (by decide) ?_
  refine lv_aload_n C.1 C.2.1 dX7_takeFirst_29 rfl (lv_at hl 0 rfl) ?_
  refine k_get C hw 30 (by omega) h30 rfl inlX7 2 (by decide) q_498 rfl dX7_takeFirst_30 ?_
  refine lv_iload_n C.1 C.2.1 dX7_takeFirst_33 rfl (lv_at hl 1 rfl) ?_
  refine lv_isub C.1 C.2.1 dX7_takeFirst_34 ?_
  refine k_topi (y := nI (ts - d)) (pk_sub (by omega)) ?_
  refine k_copyi C hw hl.1 q_499 q_276 q_277 q_278 32 32 (by omega) (by omega) h32 h32 (by omega) (by omega) (by decide) (by decide) (Nat.le_of_ble_eq_true rfl) (by decide) dX7_takeFirst_35 (fun M_2 H locs hw h32 hF => ?_)
  have h30 := (hF 30 (by decide)).trans h30
  have h31 := (hF 31 (by decide)).trans h31
  have hFF := kF_st hFF hF (by first | decide | simp)
  refine lv_aload_n C.1 C.2.1 dX7_takeFirst_38 rfl (lv_at hl 0 rfl) ?_
  refine lv_dup C.1 C.2.1 dX7_takeFirst_39 rfl ?_
  refine k_get C hw 30 (by omega) h30 rfl inlX7 2 (by decide) q_498 rfl dX7_takeFirst_40 ?_
  refine lv_iload_n C.1 C.2.1 dX7_takeFirst_43 rfl (lv_at hl 1 rfl) ?_
  refine lv_isub C.1 C.2.1 dX7_takeFirst_44 ?_
  refine k_topi (y := nI (ts - d)) (pk_sub (by omega)) ?_
  refine k_put (tf := .int) C hw 30 (by omega) h30 rfl inlX7 tyX7 tyX7_ok nmX7 2 (by decide) q_498 rfl (by decide +kernel) rfl rfl (Nat.le_of_ble_eq_true rfl) dX7_takeFirst_45 (fun M_3 H locs hw h30 hF => ?_)
  have h30 : M_3 30 = .inr (7, [.ref (b + 31), .ref (b + 32), .int (nI (ts - d)), .int tr]) := h30
  have h31 := (hF 31 (by decide)).trans h31
  have h32 := (hF 32 (by decide)).trans h32
  have hFF := kF_st hFF hF (by first | decide | simp)
  exact hret _ _ (Nat.le_of_ble_eq_true rfl) (Nat.le_of_ble_eq_true rfl) hw (⟨rfl, hFF, h30, h31, h32⟩) dX7_takeFirst_48
