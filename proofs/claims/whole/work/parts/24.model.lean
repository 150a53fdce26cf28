theorem kv_X9_130 : kV RX9 RX9 130 yX9_layShape cX9_layShape 4 none 2 := ⟨q_166, q_167, q_168, q_5, q_169, by decide +kernel⟩
theorem kv_X9_147 : kSt RX9 147 yX9_in cX9_in 6 (some .boolean) 3 := ⟨q_190, q_191, q_5, q_192, by decide +kernel⟩
theorem kv_X9_156 : kSt RX9 156 yX9_noKey cX9_noKey 1 (some .boolean) 1 := ⟨q_218, q_219, q_5, q_220, by decide +kernel⟩
theorem kv_X9_160 : kV RX9 RX9 160 yX9_groupOf cX9_groupOf 4 (some .int) 1 := ⟨q_221, q_222, q_223, q_5, q_224, by decide +kernel⟩
theorem kv_X9_168 : kV RX9 RX9 168 yX9_firstOf cX9_firstOf 3 (some .int) 1 := ⟨q_288, q_289, q_290, q_5, q_291, by decide +kernel⟩
theorem kv_X9_171 : kV RX9 RX9 171 yX9_total cX9_total 3 (some .int) 0 := ⟨q_368, q_369, q_370, q_5, q_371, by decide +kernel⟩
set_option maxHeartbeats 4000000 in
set_option maxRecDepth 100000 in
theorem c_X9_in {l : Launch} {D : va_G} {cI cJ cZ cH cR : ClassId} {b : Nat} {n : Nat} {M : Nat → va_E}   {v lo hi : Int64}     : Met l yX9_in (kw yX9_in cX9_in 6 (some .boolean)) ({ frames := 0, cells := 0, slots := 0, locals := 0 }) (va_Pc [.long v, .long lo, .long hi] (kPre D (kT cI cJ cZ cH cR) b M n)) (va_Qi (fun (r : Int32) (u : (Nat → va_E) × Nat) => r = (if inL v lo hi then 1 else 0) ∧ u.2 = n ∧ u.1 = M) (kB D (kT cI cJ cZ cH cR) b) (kA b)) 0 0 (kA b) := by
  refine k_metZ (by decide +kernel) (Nat.le_of_ble_eq_true rfl) ?_
  intro p e s m below meth c ls Q C hw hret hnm hl
  have hl : lv_has ls 6 [(0, .long v), (2, .long lo), (4, .long hi)] := hl
  refine lv_lload_n C.1 C.2.1 dX9_in_0 rfl (lv_at hl 0 rfl) ?_
  refine lv_lload_n C.1 C.2.1 dX9_in_1 rfl (lv_at hl 1 rfl) ?_
  refine W.lcmp C.1 C.2.1 dX9_in_2 ?_
  refine lv_if_lt (tgt := 17) C.1 C.2.1 dX9_in_3 (by decide) (fun c3 => ?_) (fun c3 => ?_)
  · refine lv_iconst (v := nI 0) C.1 C.2.1 dX9_in_17 (by decide) ?_
    exact hret _ _ (Nat.le_of_ble_eq_true rfl) (Nat.le_of_ble_eq_true rfl) hw (by first | exact Or.inl rfl | exact Or.inr rfl) (⟨by rw [if_neg (fun z => absurd ((lg_cmp_lt _ _).mp c3) (Int64.not_lt.mpr z.1))]; rfl, rfl, rfl⟩) dX9_in_18
  · refine lv_lload_n C.1 C.2.1 dX9_in_6 rfl (lv_at hl 0 rfl) ?_
    refine lv_lload C.1 C.2.1 dX9_in_7 (lv_at hl 2 rfl) ?_
    refine W.lcmp C.1 C.2.1 dX9_in_9 ?_
    refine lv_if_gt (tgt := 17) C.1 C.2.1 dX9_in_10 (by decide) (fun c10 => ?_) (fun c10 => ?_)
    · refine lv_iconst (v := nI 0) C.1 C.2.1 dX9_in_17 (by decide) ?_
      exact hret _ _ (Nat.le_of_ble_eq_true rfl) (Nat.le_of_ble_eq_true rfl) hw (by first | exact Or.inl rfl | exact Or.inr rfl) (⟨by rw [if_neg (fun z => absurd ((lg_cmp_gt _ _).mp c10) (Int64.not_lt.mpr z.2))]; rfl, rfl, rfl⟩) dX9_in_18
    · refine lv_iconst (v := nI 1) C.1 C.2.1 dX9_in_13 (by decide) ?_
      refine lv_goto (tgt := 18) C.1 C.2.1 dX9_in_14 (by decide) ?_
      exact hret _ _ (Nat.le_of_ble_eq_true rfl) (Nat.le_of_ble_eq_true rfl) hw (by first | exact Or.inl rfl | exact Or.inr rfl) (⟨by rw [if_pos ⟨Int64.not_lt.mp (fun z => c3 ((lg_cmp_lt _ _).mpr z)), Int64.not_lt.mp (fun z => c10 ((lg_cmp_gt _ _).mpr z))⟩]; rfl, rfl, rfl⟩) dX9_in_18

set_option maxHeartbeats 4000000 in
set_option maxRecDepth 100000 in
theorem c_X9_noKey {l : Launch} {D : va_G} {cI cJ cZ cH cR : ClassId} {b : Nat} {n : Nat} {M : Nat → va_E}   {key : Int32}     : Met l yX9_noKey (kw yX9_noKey cX9_noKey 1 (some .boolean)) ({ frames := 0, cells := 0, slots := 0, locals := 0 }) (va_Pc [.int key] (kPre D (kT cI cJ cZ cH cR) b M n)) (va_Qi (fun (r : Int32) (u : (Nat → va_E) × Nat) => r = (if isK key then 0 else 1) ∧ u.2 = n ∧ u.1 = M) (kB D (kT cI cJ cZ cH cR) b) (kA b)) 0 0 (kA b) := by
  refine k_metZ (by decide +kernel) (Nat.le_of_ble_eq_true rfl) ?_
  intro p e s m below meth c ls Q C hw hret hnm hl
  have hl : lv_has ls 1 [(0, .int key)] := hl
  refine lv_iload_n C.1 C.2.1 dX9_noKey_0 rfl (lv_at hl 0 rfl) ?_
  refine lv_if_lt (tgt := 10) C.1 C.2.1 dX9_noKey_1 (by decide) (fun c1 => ?_) (fun c1 => ?_)
  · refine lv_iconst (v := nI 1) C.1 C.2.1 dX9_noKey_10 (by decide) ?_
    refine lv_goto (tgt := 15) C.1 C.2.1 dX9_noKey_11 (by decide) ?_
    exact hret _ _ (Nat.le_of_ble_eq_true rfl) (Nat.le_of_ble_eq_true rfl) hw (by first | exact Or.inl rfl | exact Or.inr rfl) (⟨by rw [if_neg (fun h => h.1 c1)]; rfl, rfl, rfl⟩) dX9_noKey_15
  · refine lv_iload_n C.1 C.2.1 dX9_noKey_4 rfl (lv_at hl 0 rfl) ?_
    refine lv_bipush (v := nI 100) C.1 C.2.1 dX9_noKey_5 (by decide) ?_
    refine lv_icmp_lt (tgt := 14) C.1 C.2.1 dX9_noKey_7 (by decide) (fun c7 => ?_) (fun c7 => ?_)
    · refine lv_iconst (v := nI 0) C.1 C.2.1 dX9_noKey_14 (by decide) ?_
      exact hret _ _ (Nat.le_of_ble_eq_true rfl) (Nat.le_of_ble_eq_true rfl) hw (by first | exact Or.inl rfl | exact Or.inr rfl) (⟨by rw [if_pos ⟨c1, Int32.not_le.mpr c7⟩]; rfl, rfl, rfl⟩) dX9_noKey_15
    · refine lv_iconst (v := nI 1) C.1 C.2.1 dX9_noKey_10 (by decide) ?_
      refine lv_goto (tgt := 15) C.1 C.2.1 dX9_noKey_11 (by decide) ?_
      exact hret _ _ (Nat.le_of_ble_eq_true rfl) (Nat.le_of_ble_eq_true rfl) hw (by first | exact Or.inl rfl | exact Or.inr rfl) (⟨by rw [if_neg (fun h => h.2 (Int32.not_lt.mp c7))]; rfl, rfl, rfl⟩) dX9_noKey_15

set_option maxHeartbeats 4000000 in
set_option maxRecDepth 100000 in
theorem c_X9_groupOf {l : Launch} {D : va_G} {cI cJ cZ cH cR : ClassId} {b : Nat} {n : Nat} {M : Nat → va_E}  {G : Nat} {mo : Nat} {ta : Nat} {sl : Int32} {ca : Nat} {os : Nat} {tr : Int32} {ts : Nat} {lg : Nat} {mm : Nat} {sc : Int32} {key : Int32} (hn : 44 ≤ n) (h43 : M 43 = .inr (9, [.int (nI G), .int (nI mo), .int (nI ta), .int sl, .ref (b + 44), .ref (b + 45), .ref (b + 46), .ref (b + 47), .int (nI ca), .ref (b + 48), .ref (b + 49), .ref (b + 50), .ref (b + 51), .ref (b + 52), .int (nI os), .ref (b + 53), .ref (b + 54), .ref (b + 55), .int tr, .int (nI ts), .ref (b + 56), .ref (b + 57), .int (nI lg), .ref (b + 58), .ref (b + 59), .ref (b + 60), .ref (b + 61), .int (nI mm), .int sc, .ref (b + 62), .ref (b + 63), .ref (b + 64), .ref (b + 65), .ref (b + 66), .ref (b + 67), .ref (b + 68), .ref (b + 69), .ref (b + 70), .ref (b + 71), .ref (b + 72), .ref (b + 73)]))  (hG0 : 0 < G) (hG : G ≤ 32) : Met l yX9_groupOf (kw yX9_groupOf cX9_groupOf 4 (some .int)) ({ frames := 0, cells := 0, slots := 0, locals := 0 }) (va_Pc [.ref (b + 43), .int key] (kPre D (kT cI cJ cZ cH cR) b M n)) (va_Qi (fun (r : Int32) (u : (Nat → va_E) × Nat) => r = (nI (gof G key)) ∧ u.2 = n ∧ u.1 = M) (kB D (kT cI cJ cZ cH cR) b) (kA b)) 0 0 (kA b) := by
  refine k_metI (by decide +kernel) (Nat.le_of_ble_eq_true rfl) ?_
  intro p e s m below meth c ls Q C hw hret hnm hl
  have hl : lv_has ls 4 [(0, .ref (b + 43)), (1, .int key)] := hl
  refine lv_iload_n C.1 C.2.1 dX9_groupOf_0 rfl (lv_at hl 1 rfl) ?_
  refine lv_ldc C.1 C.2.1 C.2.2.2.1 (C.2.2.2.2.1 _ q_225) dX9_groupOf_1 ?_
  refine lv_imul C.1 C.2.1 dX9_groupOf_3 ?_
  refine lv_bipush (v := nI 7) C.1 C.2.1 dX9_groupOf_4 (by decide) ?_
  refine lv_iload_n C.1 C.2.1 dX9_groupOf_6 rfl (lv_at hl 1 rfl) ?_
  refine lv_imul C.1 C.2.1 dX9_groupOf_7 ?_
  refine lv_iadd C.1 C.2.1 dX9_groupOf_8 ?_
  refine lv_topi (fun x1 ex1 => ?_)
  refine lv_istore_n (lv' := [(2, .int x1), (0, .ref (b + 43)), (1, .int key)]) C.1 C.2.1 dX9_groupOf_9 rfl hl (by decide) rfl (fun ls hl => ?_)
  refine lv_iload_n C.1 C.2.1 dX9_groupOf_10 rfl (lv_at hl 0 rfl) ?_
  refine lv_iload_n C.1 C.2.1 dX9_groupOf_11 rfl (lv_at hl 0 rfl) ?_
  refine lv_bipush (v := nI 15) C.1 C.2.1 dX9_groupOf_12 (by decide) ?_
  refine lv_iushr C.1 C.2.1 dX9_groupOf_14 rfl ?_
  refine lv_ixor C.1 C.2.1 dX9_groupOf_15 ?_
  refine lv_topi (fun y1 ey1 => ?_)
  refine lv_istore_n (lv' := [(3, .int y1), (2, .int x1), (0, .ref (b + 43)), (1, .int key)]) C.1 C.2.1 dX9_groupOf_16 rfl hl (by decide) rfl (fun ls hl => ?_)
  refine lv_iload_n C.1 C.2.1 dX9_groupOf_17 rfl (lv_at hl 0 rfl) ?_
  refine lv_iconst (v := nI 1) C.1 C.2.1 dX9_groupOf_18 (by decide) ?_
  refine lv_iushr C.1 C.2.1 dX9_groupOf_19 rfl ?_
  refine lv_aload_n C.1 C.2.1 dX9_groupOf_20 rfl (lv_at hl 2 rfl) ?_
  refine k_get C hw 43 (by omega) h43 rfl inlX9 0 (by decide) q_170 rfl dX9_groupOf_21 ?_
  refine lv_irem C.1 C.2.1 dX9_groupOf_24 (nI_ne0 (by omega) (by omega)) ?_
  exact hret _ _ (Nat.le_of_ble_eq_true rfl) (Nat.le_of_ble_eq_true rfl) hw (⟨by subst ey1; subst ex1; exact gof_eq (by omega) (by omega) key, rfl, rfl⟩) dX9_groupOf_25

set_option maxHeartbeats 4000000 in
set_option maxRecDepth 100000 in
theorem c_X9_group {l : Launch} {D : va_G} {cI cJ cZ cH cR : ClassId} {b : Nat} {n : Nat} {M : Nat → va_E}  {G : Nat} {mo : Nat} {ta : Nat} {sl : Int32} {ca : Nat} {os : Nat} {tr : Int32} {ts : Nat} {lg : Nat} {mm : Nat} {sc : Int32} {key : Int32} (hn : 44 ≤ n) (h43 : M 43 = .inr (9, [.int (nI G), .int (nI mo), .int (nI ta), .int sl, .ref (b + 44), .ref (b + 45), .ref (b + 46), .ref (b + 47), .int (nI ca), .ref (b + 48), .ref (b + 49), .ref (b + 50), .ref (b + 51), .ref (b + 52), .int (nI os), .ref (b + 53), .ref (b + 54), .ref (b + 55), .int tr, .int (nI ts), .ref (b + 56), .ref (b + 57), .int (nI lg), .ref (b + 58), .ref (b + 59), .ref (b + 60), .ref (b + 61), .int (nI mm), .int sc, .ref (b + 62), .ref (b + 63), .ref (b + 64), .ref (b + 65), .ref (b + 66), .ref (b + 67), .ref (b + 68), .ref (b + 69), .ref (b + 70), .ref (b + 71), .ref (b + 72), .ref (b + 73)]))  (hG0 : 0 < G) (hG : G ≤ 32) : Met l yX9_group (kw yX9_group cX9_group 2 (some .int)) ({ frames := 1, cells := 0, slots := 0, locals := 23 }) (va_Pc [.ref (b + 43), .int key] (kPre D (kT cI cJ cZ cH cR) b M n)) (va_Qi (fun (r : Int32) (u : (Nat → va_E) × Nat) => r = (if isK key then nI (gof G key) else -101) ∧ u.2 = n ∧ u.1 = M) (kB D (kT cI cJ cZ cH cR) b) (kA b)) 0 0 (kA b) := by
  refine k_metI (by decide +kernel) (Nat.le_of_ble_eq_true rfl) ?_
  intro p e s m below meth c ls Q C hw hret hnm hl
  have hl : lv_has ls 2 [(0, .ref (b + 43)), (1, .int key)] := hl
  refine lv_iload_n C.1 C.2.1 dX9_group_0 rfl (lv_at hl 1 rfl) ?_
  refine k_si C hw (c_X9_noKey   ) kv_X9_156 rfl hl.1 ⟨Nat.le_of_ble_eq_true rfl, Nat.le_of_ble_eq_true rfl⟩ (Nat.le_of_ble_eq_true rfl) ⟨Nat.le_of_ble_eq_true rfl, Nat.le_of_ble_eq_true rfl⟩ dX9_group_1 (fun r1 M_1 n9 H locs hp hw => ?_)
  obtain ⟨er1, en9, eM9⟩ := hp
  have en9 : n9 = n := en9
  rw [en9] at hw
  have eM9 : M_1 = M := eM9
  rw [eM9] at hw
  refine lv_if_eq (tgt := 12) C.1 C.2.1 dX9_group_4 (by decide) (fun c4 => ?_) (fun c4 => ?_)
  · have h4_ : isK key := Classical.byContradiction (fun z => by rw [er1, if_neg z] at c4; exact absurd c4 (by decide))
    refine lv_aload_n C.1 C.2.1 dX9_group_12 rfl (lv_at hl 0 rfl) ?_
    refine lv_iload_n C.1 C.2.1 dX9_group_13 rfl (lv_at hl 1 rfl) ?_
    refine k_vi C hw 43 (by omega) h43 rfl (c_X9_groupOf (by omega) h43  (by omega) (by omega)) kv_X9_160 rfl hl.1 ⟨Nat.le_of_ble_eq_true rfl, Nat.le_of_ble_eq_true rfl⟩ (Nat.le_of_ble_eq_true rfl) ⟨Nat.le_of_ble_eq_true rfl, Nat.le_of_ble_eq_true rfl⟩ dX9_group_14 (fun r14 M_2 n9 H locs hp hw => ?_)
    obtain ⟨er14, en9, eM9⟩ := hp
    have en9 : n9 = n := en9
    rw [en9] at hw
    have eM9 : M_2 = M := eM9
    rw [eM9] at hw
    exact hret _ _ (Nat.le_of_ble_eq_true rfl) (Nat.le_of_ble_eq_true rfl) hw (⟨by rw [if_pos h4_, er14], rfl, rfl⟩) dX9_group_17
  · have h4_ : ¬ isK key := fun z => c4 (by rw [er1, if_pos z])
    refine lv_bipush (v := (-101)) C.1 C.2.1 dX9_group_7 (by decide) ?_
    refine lv_goto (tgt := 17) C.1 C.2.1 dX9_group_9 (by decide) ?_
    exact hret _ _ (Nat.le_of_ble_eq_true rfl) (Nat.le_of_ble_eq_true rfl) hw (⟨by rw [if_neg h4_], rfl, rfl⟩) dX9_group_17

set_option maxHeartbeats 4000000 in
set_option maxRecDepth 100000 in
theorem c_X9_layShape {l : Launch} {D : va_G} {cI cJ cZ cH cR : ClassId} {b : Nat} {n : Nat} {M : Nat → va_E}  {G : Nat} {mo : Nat} {ta : Nat} {sl : Int32} {ca : Nat} {os : Nat} {tr : Int32} {ts : Nat} {lg : Nat} {mm : Nat} {sc : Int32} {mow : Nat → Int32} {mep : Nat → Int32} {mwe : Nat → Int32} {g1 m1 : Nat} (hn : 47 ≤ n) (h43 : M 43 = .inr (9, [.int (nI G), .int (nI mo), .int (nI ta), .int sl, .ref (b + 44), .ref (b + 45), .ref (b + 46), .ref (b + 47), .int (nI ca), .ref (b + 48), .ref (b + 49), .ref (b + 50), .ref (b + 51), .ref (b + 52), .int (nI os), .ref (b + 53), .ref (b + 54), .ref (b + 55), .int tr, .int (nI ts), .ref (b + 56), .ref (b + 57), .int (nI lg), .ref (b + 58), .ref (b + 59), .ref (b + 60), .ref (b + 61), .int (nI mm), .int sc, .ref (b + 62), .ref (b + 63), .ref (b + 64), .ref (b + 65), .ref (b + 66), .ref (b + 67), .ref (b + 68), .ref (b + 69), .ref (b + 70), .ref (b + 71), .ref (b + 72), .ref (b + 73)])) (h44 : M 44 = .inl (cI, 32, .inl mow)) (h45 : M 45 = .inl (cI, 32, .inl mep)) (h46 : M 46 = .inl (cI, 32, .inl mwe))   : Met l yX9_layShape (kw yX9_layShape cX9_layShape 4 none) ({ frames := 0, cells := 0, slots := 0, locals := 0 }) (va_Pc [.ref (b + 43), .int (nI g1), .int (nI m1)] (kPre D (kT cI cJ cZ cH cR) b M n)) (va_Qv (fun (u : (Nat → va_E) × Nat) => u.2 = n ∧ kF [43, 44, 45, 46] M u.1 ∧ u.1 43 = .inr (9, [.int (nI g1), .int (nI m1), .int (nI 1), .int sl, .ref (b + 44), .ref (b + 45), .ref (b + 46), .ref (b + 47), .int (nI ca), .ref (b + 48), .ref (b + 49), .ref (b + 50), .ref (b + 51), .ref (b + 52), .int (nI os), .ref (b + 53), .ref (b + 54), .ref (b + 55), .int tr, .int (nI ts), .ref (b + 56), .ref (b + 57), .int (nI lg), .ref (b + 58), .ref (b + 59), .ref (b + 60), .ref (b + 61), .int (nI mm), .int sc, .ref (b + 62), .ref (b + 63), .ref (b + 64), .ref (b + 65), .ref (b + 66), .ref (b + 67), .ref (b + 68), .ref (b + 69), .ref (b + 70), .ref (b + 71), .ref (b + 72), .ref (b + 73)]) ∧ u.1 44 = .inl (cI, 32, .inl (fun _ => 0)) ∧ u.1 45 = .inl (cI, 32, .inl (fun _ => 1)) ∧ u.1 46 = .inl (cI, 32, .inl (fun _ => 0))) (kB D (kT cI cJ cZ cH cR) b) (kA b)) 0 0 (kA b) := by
  refine k_metV (by decide +kernel) (Nat.le_of_ble_eq_true rfl) ?_
  intro p e s m below meth c ls Q C hw hret hnm hl
  have hl : lv_has ls 4 [(0, .ref (b + 43)), (1, .int (nI g1)), (2, .int (nI m1))] := hl
  have hFF : kF [43, 44, 45, 46] M M := kF_rf
  refine lv_aload_n C.1 C.2.1 dX9_layShape_0 rfl (lv_at hl 0 rfl) ?_
  refine lv_iload_n C.1 C.2.1 dX9_layShape_1 rfl (lv_at hl 1 rfl) ?_
  refine k_put (tf := .int) C hw 43 (by omega) h43 rfl inlX9 tyX9 tyX9_ok nmX9 0 (by decide) q_170 rfl (by decide +kernel) rfl rfl (Nat.le_of_ble_eq_true rfl) dX9_layShape_2 (fun M_1 H locs hw h43 hF => ?_)
  have h43 : M_1 43 = .inr (9, [.int (nI g1), .int (nI mo), .int (nI ta), .int sl, .ref (b + 44), .ref (b + 45), .ref (b + 46), .ref (b + 47), .int (nI ca), .ref (b + 48), .ref (b + 49), .ref (b + 50), .ref (b + 51), .ref (b + 52), .int (nI os), .ref (b + 53), .ref (b + 54), .ref (b + 55), .int tr, .int (nI ts), .ref (b + 56), .ref (b + 57), .int (nI lg), .ref (b + 58), .ref (b + 59), .ref (b + 60), .ref (b + 61), .int (nI mm), .int sc, .ref (b + 62), .ref (b + 63), .ref (b + 64), .ref (b + 65), .ref (b + 66), .ref (b + 67), .ref (b + 68), .ref (b + 69), .ref (b + 70), .ref (b + 71), .ref (b + 72), .ref (b + 73)]) := h43
  have h44 := (hF 44 (by decide)).trans h44
  have h45 := (hF 45 (by decide)).trans h45
  have h46 := (hF 46 (by decide)).trans h46
  have hFF := kF_st hFF hF (by first | decide | simp)
  refine lv_aload_n C.1 C.2.1 dX9_layShape_5 rfl (lv_at hl 0 rfl) ?_
  refine lv_iload_n C.1 C.2.1 dX9_layShape_6 rfl (lv_at hl 2 rfl) ?_
  refine k_put (tf := .int) C hw 43 (by omega) h43 rfl inlX9 tyX9 tyX9_ok nmX9 1 (by decide) q_171 rfl (by decide +kernel) rfl rfl (Nat.le_of_ble_eq_true rfl) dX9_layShape_7 (fun M_2 H locs hw h43 hF => ?_)
  have h43 : M_2 43 = .inr (9, [.int (nI g1), .int (nI m1), .int (nI ta), .int sl, .ref (b + 44), .ref (b + 45), .ref (b + 46), .ref (b + 47), .int (nI ca), .ref (b + 48), .ref (b + 49), .ref (b + 50), .ref (b + 51), .ref (b + 52), .int (nI os), .ref (b + 53), .ref (b + 54), .ref (b + 55), .int tr, .int (nI ts), .ref (b + 56), .ref (b + 57), .int (nI lg), .ref (b + 58), .ref (b + 59), .ref (b + 60), .ref (b + 61), .int (nI mm), .int sc, .ref (b + 62), .ref (b + 63), .ref (b + 64), .ref (b + 65), .ref (b + 66), .ref (b + 67), .ref (b + 68), .ref (b + 69), .ref (b + 70), .ref (b + 71), .ref (b + 72), .ref (b + 73)]) := h43
  have h44 := (hF 44 (by decide)).trans h44
  have h45 := (hF 45 (by decide)).trans h45
  have h46 := (hF 46 (by decide)).trans h46
  have hFF := kF_st hFF hF (by first | decide | simp)
  refine lv_aload_n C.1 C.2.1 dX9_layShape_10 rfl (lv_at hl 0 rfl) ?_
  refine lv_iconst (v := nI 1) C.1 C.2.1 dX9_layShape_11 (by decide) ?_
  refine k_put (tf := .int) C hw 43 (by omega) h43 rfl inlX9 tyX9 tyX9_ok nmX9 2 (by decide) q_172 rfl (by decide +kernel) rfl rfl (Nat.le_of_ble_eq_true rfl) dX9_layShape_12 (fun M_3 H locs hw h43 hF => ?_)
  have h43 : M_3 43 = .inr (9, [.int (nI g1), .int (nI m1), .int (nI 1), .int sl, .ref (b + 44), .ref (b + 45), .ref (b + 46), .ref (b + 47), .int (nI ca), .ref (b + 48), .ref (b + 49), .ref (b + 50), .ref (b + 51), .ref (b + 52), .int (nI os), .ref (b + 53), .ref (b + 54), .ref (b + 55), .int tr, .int (nI ts), .ref (b + 56), .ref (b + 57), .int (nI lg), .ref (b + 58), .ref (b + 59), .ref (b + 60), .ref (b + 61), .int (nI mm), .int sc, .ref (b + 62), .ref (b + 63), .ref (b + 64), .ref (b + 65), .ref (b + 66), .ref (b + 67), .ref (b + 68), .ref (b + 69), .ref (b + 70), .ref (b + 71), .ref (b + 72), .ref (b + 73)]) := h43
  have h44 := (hF 44 (by decide)).trans h44
  have h45 := (hF 45 (by decide)).trans h45
  have h46 := (hF 46 (by decide)).trans h46
  have hFF := kF_st hFF hF (by first | decide | simp)
  refine lv_iconst (v := nI 0) C.1 C.2.1 dX9_layShape_15 (by decide) ?_
  refine lv_istore_n (lv' := [(3, .int (nI 0)), (0, .ref (b + 43)), (1, .int (nI g1)), (2, .int (nI m1))]) C.1 C.2.1 dX9_layShape_16 rfl hl (by decide) rfl (fun ls hl => ?_)
  have L17 : ∀ (N17 : Nat) (i : Nat) (Mx17 : Nat → va_E), (32 - i < N17) → (i ≤ 32) → kF [43, 44, 45, 46] M Mx17 → Mx17 43 = .inr (9, [.int (nI g1), .int (nI m1), .int (nI 1), .int sl, .ref (b + 44), .ref (b + 45), .ref (b + 46), .ref (b + 47), .int (nI ca), .ref (b + 48), .ref (b + 49), .ref (b + 50), .ref (b + 51), .ref (b + 52), .int (nI os), .ref (b + 53), .ref (b + 54), .ref (b + 55), .int tr, .int (nI ts), .ref (b + 56), .ref (b + 57), .int (nI lg), .ref (b + 58), .ref (b + 59), .ref (b + 60), .ref (b + 61), .int (nI mm), .int sc, .ref (b + 62), .ref (b + 63), .ref (b + 64), .ref (b + 65), .ref (b + 66), .ref (b + 67), .ref (b + 68), .ref (b + 69), .ref (b + 70), .ref (b + 71), .ref (b + 72), .ref (b + 73)]) → Mx17 44 = .inl (cI, 32, .inl (fil mow (nI 0) i)) → Mx17 45 = .inl (cI, 32, .inl (fil mep (nI 1) i)) → Mx17 46 = .inl (cI, 32, .inl (fil mwe (nI 0) i)) → ∀ (ls : Array Slot) (H : Heap) (locs : List Loc), lv_has ls 4 [(3, .int (nI i)), (0, .ref (b + 43)), (1, .int (nI g1)), (2, .int (nI m1))] → kW D b Mx17 n s.heap H locs → W p l e ({ frames := 0, cells := 0, slots := 0, locals := 0 } : Room) s m ([.ref (b + 43), .int (nI g1), .int (nI m1)] : List Value).toArray below meth c H locs 0 0 Q (F0 m 17 ls []) := by
    intro N17
    induction N17 with
    | zero => intro i Mx17 hm17 hi hFF h43 h44 h45 h46 ls H locs hl hw; omega
    | succ N17 ih17 =>
      intro i Mx17 hm17 hi hFF h43 h44 h45 h46 ls H locs hl hw
      refine lv_iload_n C.1 C.2.1 dX9_layShape_17 rfl (lv_at hl 0 rfl) ?_
      refine lv_bipush (v := nI 32) C.1 C.2.1 dX9_layShape_18 (by decide) ?_
      refine lv_icmp_ge (tgt := 50) C.1 C.2.1 dX9_layShape_20 (by decide) (fun c20 => ?_) (fun c20 => ?_)
      · have q20 := (nI_leI (by omega) (by omega)).mp c20
        have q20 : i = 32 := by omega
        rw [q20] at h44 h45 h46
        obtain ⟨M_4, hw, h44, hF⟩ := k_extI hw 44 (by omega) h44 (fun _ => 0) (fun j hj => if_pos hj)
        have h43 := (hF 43 (by decide)).trans h43
        have h45 := (hF 45 (by decide)).trans h45
        have h46 := (hF 46 (by decide)).trans h46
        have hFF := kF_st hFF hF (by first | decide | simp)
        obtain ⟨M_5, hw, h45, hF⟩ := k_extI hw 45 (by omega) h45 (fun _ => 1) (fun j hj => if_pos hj)
        have h43 := (hF 43 (by decide)).trans h43
        have h44 := (hF 44 (by decide)).trans h44
        have h46 := (hF 46 (by decide)).trans h46
        have hFF := kF_st hFF hF (by first | decide | simp)
        obtain ⟨M_6, hw, h46, hF⟩ := k_extI hw 46 (by omega) h46 (fun _ => 0) (fun j hj => if_pos hj)
        have h43 := (hF 43 (by decide)).trans h43
        have h44 := (hF 44 (by decide)).trans h44
        have h45 := (hF 45 (by decide)).trans h45
        have hFF := kF_st hFF hF (by first | decide | simp)
        exact hret _ _ (Nat.le_of_ble_eq_true rfl) (Nat.le_of_ble_eq_true rfl) hw (⟨rfl, hFF, h43, h44, h45, h46⟩) dX9_layShape_50
      · have q20 : ¬ 32 ≤ i := fun z => c20 ((nI_leI (by omega) (by omega)).mpr z)
        refine lv_aload_n C.1 C.2.1 dX9_layShape_23 rfl (lv_at hl 1 rfl) ?_
        refine k_get C hw 43 (by omega) h43 rfl inlX9 4 (by decide) q_123 rfl dX9_layShape_24 ?_
        refine lv_iload_n C.1 C.2.1 dX9_layShape_27 rfl (lv_at hl 0 rfl) ?_
        refine lv_iconst (v := nI 0) C.1 C.2.1 dX9_layShape_28 (by decide) ?_
        refine k_iast C hw 44 (by omega) h44 (by omega) (by first | decide | omega) dX9_layShape_29 (fun M_7 H locs hw h44 hF => ?_)
        have h43 := (hF 43 (by decide)).trans h43
        have h45 := (hF 45 (by decide)).trans h45
        have h46 := (hF 46 (by decide)).trans h46
        have hFF := kF_st hFF hF (by first | decide | simp)
        rw [fil_s] at h44
        refine lv_aload_n C.1 C.2.1 dX9_layShape_30 rfl (lv_at hl 1 rfl) ?_
        refine k_get C hw 43 (by omega) h43 rfl inlX9 5 (by decide) q_124 rfl dX9_layShape_31 ?_
        refine lv_iload_n C.1 C.2.1 dX9_layShape_34 rfl (lv_at hl 0 rfl) ?_
        refine lv_iconst (v := nI 1) C.1 C.2.1 dX9_layShape_35 (by decide) ?_
        refine k_iast C hw 45 (by omega) h45 (by omega) (by first | decide | omega) dX9_layShape_36 (fun M_8 H locs hw h45 hF => ?_)
        have h43 := (hF 43 (by decide)).trans h43
        have h44 := (hF 44 (by decide)).trans h44
        have h46 := (hF 46 (by decide)).trans h46
        have hFF := kF_st hFF hF (by first | decide | simp)
        rw [fil_s] at h45
        refine lv_aload_n C.1 C.2.1 dX9_layShape_37 rfl (lv_at hl 1 rfl) ?_
        refine k_get C hw 43 (by omega) h43 rfl inlX9 6 (by decide) q_125 rfl dX9_layShape_38 ?_
        refine lv_iload_n C.1 C.2.1 dX9_layShape_41 rfl (lv_at hl 0 rfl) ?_
        refine lv_iconst (v := nI 0) C.1 C.2.1 dX9_layShape_42 (by decide) ?_
        refine k_iast C hw 46 (by omega) h46 (by omega) (by first | decide | omega) dX9_layShape_43 (fun M_9 H locs hw h46 hF => ?_)
        have h43 := (hF 43 (by decide)).trans h43
        have h44 := (hF 44 (by decide)).trans h44
        have h45 := (hF 45 (by decide)).trans h45
        have hFF := kF_st hFF hF (by first | decide | simp)
        rw [fil_s] at h46
        refine lv_iinc (v := (nI (i + 1))) (lv' := [(3, .int (nI (i + 1))), (0, .ref (b + 43)), (1, .int (nI g1)), (2, .int (nI m1))]) C.1 C.2.1 dX9_layShape_44 hl (k := 0) rfl (k_inc _ 1) (by decide) rfl (fun ls hl => ?_)
        refine lv_goto (tgt := 17) C.1 C.2.1 dX9_layShape_47 (by decide) ?_
        exact ih17  (i + 1) M_9 (by omega) (by omega) hFF h43 h44 h45 h46  ls _ _ (lv_sub hl [0, 1, 2, 3] rfl) hw
  exact L17 (_ + 1) (0) M_3 (Nat.lt_succ_self _) (Nat.zero_le _) hFF h43 h44 h45 h46  ls _ _ (lv_sub hl [0, 1, 2, 3] rfl) hw

set_option maxHeartbeats 4000000 in
set_option maxRecDepth 100000 in
theorem c_X9_begin {l : Launch} {D : va_G} {cI cJ cZ cH cR : ClassId} {b : Nat} {n : Nat} {M : Nat → va_E}  {G : Nat} {mo : Nat} {ta : Nat} {sl : Int32} {ca : Nat} {os : Nat} {tr : Int32} {ts : Nat} {lg : Nat} {mm : Nat} {sc : Int32} {mow : Nat → Int32} {mep : Nat → Int32} {mwe : Nat → Int32} {mmv : Nat → Int32} {mct : Nat → Int32} {msu : Nat → Int64}  (hn : 53 ≤ n) (h43 : M 43 = .inr (9, [.int (nI G), .int (nI mo), .int (nI ta), .int sl, .ref (b + 44), .ref (b + 45), .ref (b + 46), .ref (b + 47), .int (nI ca), .ref (b + 48), .ref (b + 49), .ref (b + 50), .ref (b + 51), .ref (b + 52), .int (nI os), .ref (b + 53), .ref (b + 54), .ref (b + 55), .int tr, .int (nI ts), .ref (b + 56), .ref (b + 57), .int (nI lg), .ref (b + 58), .ref (b + 59), .ref (b + 60), .ref (b + 61), .int (nI mm), .int sc, .ref (b + 62), .ref (b + 63), .ref (b + 64), .ref (b + 65), .ref (b + 66), .ref (b + 67), .ref (b + 68), .ref (b + 69), .ref (b + 70), .ref (b + 71), .ref (b + 72), .ref (b + 73)])) (h44 : M 44 = .inl (cI, 32, .inl mow)) (h45 : M 45 = .inl (cI, 32, .inl mep)) (h46 : M 46 = .inl (cI, 32, .inl mwe)) (h47 : M 47 = .inl (cZ, 32, .inl mmv)) (h51 : M 51 = .inl (cI, 100, .inl mct)) (h52 : M 52 = .inl (cJ, 100, .inr (.inl msu)))   : Met l yX9_begin (kw yX9_begin cX9_begin 2 none) ({ frames := 1, cells := 0, slots := 0, locals := 23 }) (va_Pc [.ref (b + 43)] (kPre D (kT cI cJ cZ cH cR) b M n)) (va_Qv (fun (u : (Nat → va_E) × Nat) => u.2 = n ∧ kF [43, 44, 45, 46, 47, 51, 52] M u.1 ∧ u.1 43 = .inr (9, [.int (nI 8), .int (nI 4), .int (nI 1), .int (nI 20), .ref (b + 44), .ref (b + 45), .ref (b + 46), .ref (b + 47), .int (nI 0), .ref (b + 48), .ref (b + 49), .ref (b + 50), .ref (b + 51), .ref (b + 52), .int (nI 0), .ref (b + 53), .ref (b + 54), .ref (b + 55), .int (nI 0), .int (nI 0), .ref (b + 56), .ref (b + 57), .int (nI 0), .ref (b + 58), .ref (b + 59), .ref (b + 60), .ref (b + 61), .int (nI 0), .int (nI 0), .ref (b + 62), .ref (b + 63), .ref (b + 64), .ref (b + 65), .ref (b + 66), .ref (b + 67), .ref (b + 68), .ref (b + 69), .ref (b + 70), .ref (b + 71), .ref (b + 72), .ref (b + 73)]) ∧ u.1 44 = .inl (cI, 32, .inl (fun _ => 0)) ∧ u.1 45 = .inl (cI, 32, .inl (fun _ => 1)) ∧ u.1 46 = .inl (cI, 32, .inl (fun _ => 0)) ∧ u.1 47 = .inl (cZ, 32, .inl (fun _ => 0)) ∧ u.1 51 = .inl (cI, 100, .inl (fun _ => 0)) ∧ u.1 52 = .inl (cJ, 100, .inr (.inl (fun _ => 0)))) (kB D (kT cI cJ cZ cH cR) b) (kA b)) 0 0 (kA b) := by
  refine k_metV (by decide +kernel) (Nat.le_of_ble_eq_true rfl) ?_
  intro p e s m below meth c ls Q C hw hret hnm hl
  have hl : lv_has ls 2 [(0, .ref (b + 43))] := hl
  have hFF : kF [43, 44, 45, 46, 47, 51, 52] M M := kF_rf
  refine lv_aload_n C.1 C.2.1 dX9_begin_0 rfl (lv_at hl 0 rfl) ?_
  refine lv_bipush (v := nI 20) C.1 C.2.1 dX9_begin_1 (by decide) ?_
  refine k_put (tf := .int) C hw 43 (by omega) h43 rfl inlX9 tyX9 tyX9_ok nmX9 3 (by decide) q_158 rfl (by decide +kernel) rfl rfl (Nat.le_of_ble_eq_true rfl) dX9_begin_3 (fun M_1 H locs hw h43 hF => ?_)
  have h43 : M_1 43 = .inr (9, [.int (nI G), .int (nI mo), .int (nI ta), .int (nI 20), .ref (b + 44), .ref (b + 45), .ref (b + 46), .ref (b + 47), .int (nI ca), .ref (b + 48), .ref (b + 49), .ref (b + 50), .ref (b + 51), .ref (b + 52), .int (nI os), .ref (b + 53), .ref (b + 54), .ref (b + 55), .int tr, .int (nI ts), .ref (b + 56), .ref (b + 57), .int (nI lg), .ref (b + 58), .ref (b + 59), .ref (b + 60), .ref (b + 61), .int (nI mm), .int sc, .ref (b + 62), .ref (b + 63), .ref (b + 64), .ref (b + 65), .ref (b + 66), .ref (b + 67), .ref (b + 68), .ref (b + 69), .ref (b + 70), .ref (b + 71), .ref (b + 72), .ref (b + 73)]) := h43
  have h44 := (hF 44 (by decide)).trans h44
  have h45 := (hF 45 (by decide)).trans h45
  have h46 := (hF 46 (by decide)).trans h46
  have h47 := (hF 47 (by decide)).trans h47
  have h51 := (hF 51 (by decide)).trans h51
  have h52 := (hF 52 (by decide)).trans h52
  have hFF := kF_st hFF hF (by first | decide | simp)
  refine lv_aload_n C.1 C.2.1 dX9_begin_6 rfl (lv_at hl 0 rfl) ?_
  refine lv_iconst (v := nI 0) C.1 C.2.1 dX9_begin_7 (by decide) ?_
  refine k_put (tf := .int) C hw 43 (by omega) h43 rfl inlX9 tyX9 tyX9_ok nmX9 8 (by decide) q_159 rfl (by decide +kernel) rfl rfl (Nat.le_of_ble_eq_true rfl) dX9_begin_8 (fun M_2 H locs hw h43 hF => ?_)
  have h43 : M_2 43 = .inr (9, [.int (nI G), .int (nI mo), .int (nI ta), .int (nI 20), .ref (b + 44), .ref (b + 45), .ref (b + 46), .ref (b + 47), .int (nI 0), .ref (b + 48), .ref (b + 49), .ref (b + 50), .ref (b + 51), .ref (b + 52), .int (nI os), .ref (b + 53), .ref (b + 54), .ref (b + 55), .int tr, .int (nI ts), .ref (b + 56), .ref (b + 57), .int (nI lg), .ref (b + 58), .ref (b + 59), .ref (b + 60), .ref (b + 61), .int (nI mm), .int sc, .ref (b + 62), .ref (b + 63), .ref (b + 64), .ref (b + 65), .ref (b + 66), .ref (b + 67), .ref (b + 68), .ref (b + 69), .ref (b + 70), .ref (b + 71), .ref (b + 72), .ref (b + 73)]) := h43
  have h44 := (hF 44 (by decide)).trans h44
  have h45 := (hF 45 (by decide)).trans h45
  have h46 := (hF 46 (by decide)).trans h46
  have h47 := (hF 47 (by decide)).trans h47
  have h51 := (hF 51 (by decide)).trans h51
  have h52 := (hF 52 (by decide)).trans h52
  have hFF := kF_st hFF hF (by first | decide | simp)
  refine lv_aload_n C.1 C.2.1 dX9_begin_11 rfl (lv_at hl 0 rfl) ?_
  refine lv_iconst (v := nI 0) C.1 C.2.1 dX9_begin_12 (by decide) ?_
  refine k_put (tf := .int) C hw 43 (by omega) h43 rfl inlX9 tyX9 tyX9_ok nmX9 14 (by decide) q_160 rfl (by decide +kernel) rfl rfl (Nat.le_of_ble_eq_true rfl) dX9_begin_13 (fun M_3 H locs hw h43 hF => ?_)
  have h43 : M_3 43 = .inr (9, [.int (nI G), .int (nI mo), .int (nI ta), .int (nI 20), .ref (b + 44), .ref (b + 45), .ref (b + 46), .ref (b + 47), .int (nI 0), .ref (b + 48), .ref (b + 49), .ref (b + 50), .ref (b + 51), .ref (b + 52), .int (nI 0), .ref (b + 53), .ref (b + 54), .ref (b + 55), .int tr, .int (nI ts), .ref (b + 56), .ref (b + 57), .int (nI lg), .ref (b + 58), .ref (b + 59), .ref (b + 60), .ref (b + 61), .int (nI mm), .int sc, .ref (b + 62), .ref (b + 63), .ref (b + 64), .ref (b + 65), .ref (b + 66), .ref (b + 67), .ref (b + 68), .ref (b + 69), .ref (b + 70), .ref (b + 71), .ref (b + 72), .ref (b + 73)]) := h43
  have h44 := (hF 44 (by decide)).trans h44
  have h45 := (hF 45 (by decide)).trans h45
  have h46 := (hF 46 (by decide)).trans h46
  have h47 := (hF 47 (by decide)).trans h47
  have h51 := (hF 51 (by decide)).trans h51
  have h52 := (hF 52 (by decide)).trans h52
  have hFF := kF_st hFF hF (by first | decide | simp)
  refine lv_aload_n C.1 C.2.1 dX9_begin_16 rfl (lv_at hl 0 rfl) ?_
  refine lv_iconst (v := nI 0) C.1 C.2.1 dX9_begin_17 (by decide) ?_
  refine k_put (tf := .int) C hw 43 (by omega) h43 rfl inlX9 tyX9 tyX9_ok nmX9 18 (by decide) q_161 rfl (by decide +kernel) rfl rfl (Nat.le_of_ble_eq_true rfl) dX9_begin_18 (fun M_4 H locs hw h43 hF => ?_)
  have h43 : M_4 43 = .inr (9, [.int (nI G), .int (nI mo), .int (nI ta), .int (nI 20), .ref (b + 44), .ref (b + 45), .ref (b + 46), .ref (b + 47), .int (nI 0), .ref (b + 48), .ref (b + 49), .ref (b + 50), .ref (b + 51), .ref (b + 52), .int (nI 0), .ref (b + 53), .ref (b + 54), .ref (b + 55), .int (nI 0), .int (nI ts), .ref (b + 56), .ref (b + 57), .int (nI lg), .ref (b + 58), .ref (b + 59), .ref (b + 60), .ref (b + 61), .int (nI mm), .int sc, .ref (b + 62), .ref (b + 63), .ref (b + 64), .ref (b + 65), .ref (b + 66), .ref (b + 67), .ref (b + 68), .ref (b + 69), .ref (b + 70), .ref (b + 71), .ref (b + 72), .ref (b + 73)]) := h43
  have h44 := (hF 44 (by decide)).trans h44
  have h45 := (hF 45 (by decide)).trans h45
  have h46 := (hF 46 (by decide)).trans h46
  have h47 := (hF 47 (by decide)).trans h47
  have h51 := (hF 51 (by decide)).trans h51
  have h52 := (hF 52 (by decide)).trans h52
  have hFF := kF_st hFF hF (by first | decide | simp)
  refine lv_aload_n C.1 C.2.1 dX9_begin_21 rfl (lv_at hl 0 rfl) ?_
  refine lv_iconst (v := nI 0) C.1 C.2.1 dX9_begin_22 (by decide) ?_
  refine k_put (tf := .int) C hw 43 (by omega) h43 rfl inlX9 tyX9 tyX9_ok nmX9 19 (by decide) q_162 rfl (by decide +kernel) rfl rfl (Nat.le_of_ble_eq_true rfl) dX9_begin_23 (fun M_5 H locs hw h43 hF => ?_)
  have h43 : M_5 43 = .inr (9, [.int (nI G), .int (nI mo), .int (nI ta), .int (nI 20), .ref (b + 44), .ref (b + 45), .ref (b + 46), .ref (b + 47), .int (nI 0), .ref (b + 48), .ref (b + 49), .ref (b + 50), .ref (b + 51), .ref (b + 52), .int (nI 0), .ref (b + 53), .ref (b + 54), .ref (b + 55), .int (nI 0), .int (nI 0), .ref (b + 56), .ref (b + 57), .int (nI lg), .ref (b + 58), .ref (b + 59), .ref (b + 60), .ref (b + 61), .int (nI mm), .int sc, .ref (b + 62), .ref (b + 63), .ref (b + 64), .ref (b + 65), .ref (b + 66), .ref (b + 67), .ref (b + 68), .ref (b + 69), .ref (b + 70), .ref (b + 71), .ref (b + 72), .ref (b + 73)]) := h43
  have h44 := (hF 44 (by decide)).trans h44
  have h45 := (hF 45 (by decide)).trans h45
  have h46 := (hF 46 (by decide)).trans h46
  have h47 := (hF 47 (by decide)).trans h47
  have h51 := (hF 51 (by decide)).trans h51
  have h52 := (hF 52 (by decide)).trans h52
  have hFF := kF_st hFF hF (by first | decide | simp)
  refine lv_aload_n C.1 C.2.1 dX9_begin_26 rfl (lv_at hl 0 rfl) ?_
  refine lv_iconst (v := nI 0) C.1 C.2.1 dX9_begin_27 (by decide) ?_
  refine k_put (tf := .int) C hw 43 (by omega) h43 rfl inlX9 tyX9 tyX9_ok nmX9 22 (by decide) q_163 rfl (by decide +kernel) rfl rfl (Nat.le_of_ble_eq_true rfl) dX9_begin_28 (fun M_6 H locs hw h43 hF => ?_)
  have h43 : M_6 43 = .inr (9, [.int (nI G), .int (nI mo), .int (nI ta), .int (nI 20), .ref (b + 44), .ref (b + 45), .ref (b + 46), .ref (b + 47), .int (nI 0), .ref (b + 48), .ref (b + 49), .ref (b + 50), .ref (b + 51), .ref (b + 52), .int (nI 0), .ref (b + 53), .ref (b + 54), .ref (b + 55), .int (nI 0), .int (nI 0), .ref (b + 56), .ref (b + 57), .int (nI 0), .ref (b + 58), .ref (b + 59), .ref (b + 60), .ref (b + 61), .int (nI mm), .int sc, .ref (b + 62), .ref (b + 63), .ref (b + 64), .ref (b + 65), .ref (b + 66), .ref (b + 67), .ref (b + 68), .ref (b + 69), .ref (b + 70), .ref (b + 71), .ref (b + 72), .ref (b + 73)]) := h43
  have h44 := (hF 44 (by decide)).trans h44
  have h45 := (hF 45 (by decide)).trans h45
  have h46 := (hF 46 (by decide)).trans h46
  have h47 := (hF 47 (by decide)).trans h47
  have h51 := (hF 51 (by decide)).trans h51
  have h52 := (hF 52 (by decide)).trans h52
  have hFF := kF_st hFF hF (by first | decide | simp)
  refine lv_aload_n C.1 C.2.1 dX9_begin_31 rfl (lv_at hl 0 rfl) ?_
  refine lv_iconst (v := nI 0) C.1 C.2.1 dX9_begin_32 (by decide) ?_
  refine k_put (tf := .int) C hw 43 (by omega) h43 rfl inlX9 tyX9 tyX9_ok nmX9 27 (by decide) q_164 rfl (by decide +kernel) rfl rfl (Nat.le_of_ble_eq_true rfl) dX9_begin_33 (fun M_7 H locs hw h43 hF => ?_)
  have h43 : M_7 43 = .inr (9, [.int (nI G), .int (nI mo), .int (nI ta), .int (nI 20), .ref (b + 44), .ref (b + 45), .ref (b + 46), .ref (b + 47), .int (nI 0), .ref (b + 48), .ref (b + 49), .ref (b + 50), .ref (b + 51), .ref (b + 52), .int (nI 0), .ref (b + 53), .ref (b + 54), .ref (b + 55), .int (nI 0), .int (nI 0), .ref (b + 56), .ref (b + 57), .int (nI 0), .ref (b + 58), .ref (b + 59), .ref (b + 60), .ref (b + 61), .int (nI 0), .int sc, .ref (b + 62), .ref (b + 63), .ref (b + 64), .ref (b + 65), .ref (b + 66), .ref (b + 67), .ref (b + 68), .ref (b + 69), .ref (b + 70), .ref (b + 71), .ref (b + 72), .ref (b + 73)]) := h43
  have h44 := (hF 44 (by decide)).trans h44
  have h45 := (hF 45 (by decide)).trans h45
  have h46 := (hF 46 (by decide)).trans h46
  have h47 := (hF 47 (by decide)).trans h47
  have h51 := (hF 51 (by decide)).trans h51
  have h52 := (hF 52 (by decide)).trans h52
  have hFF := kF_st hFF hF (by first | decide | simp)
  refine lv_aload_n C.1 C.2.1 dX9_begin_36 rfl (lv_at hl 0 rfl) ?_
  refine lv_iconst (v := nI 0) C.1 C.2.1 dX9_begin_37 (by decide) ?_
  refine k_put (tf := .int) C hw 43 (by omega) h43 rfl inlX9 tyX9 tyX9_ok nmX9 28 (by decide) q_165 rfl (by decide +kernel) rfl rfl (Nat.le_of_ble_eq_true rfl) dX9_begin_38 (fun M_8 H locs hw h43 hF => ?_)
  have h43 : M_8 43 = .inr (9, [.int (nI G), .int (nI mo), .int (nI ta), .int (nI 20), .ref (b + 44), .ref (b + 45), .ref (b + 46), .ref (b + 47), .int (nI 0), .ref (b + 48), .ref (b + 49), .ref (b + 50), .ref (b + 51), .ref (b + 52), .int (nI 0), .ref (b + 53), .ref (b + 54), .ref (b + 55), .int (nI 0), .int (nI 0), .ref (b + 56), .ref (b + 57), .int (nI 0), .ref (b + 58), .ref (b + 59), .ref (b + 60), .ref (b + 61), .int (nI 0), .int (nI 0), .ref (b + 62), .ref (b + 63), .ref (b + 64), .ref (b + 65), .ref (b + 66), .ref (b + 67), .ref (b + 68), .ref (b + 69), .ref (b + 70), .ref (b + 71), .ref (b + 72), .ref (b + 73)]) := h43
  have h44 := (hF 44 (by decide)).trans h44
  have h45 := (hF 45 (by decide)).trans h45
  have h46 := (hF 46 (by decide)).trans h46
  have h47 := (hF 47 (by decide)).trans h47
  have h51 := (hF 51 (by decide)).trans h51
  have h52 := (hF 52 (by decide)).trans h52
  have hFF := kF_st hFF hF (by first | decide | simp)
  refine lv_iconst (v := nI 0) C.1 C.2.1 dX9_begin_41 (by decide) ?_
  refine lv_istore_n (lv' := [(1, .int (nI 0)), (0, .ref (b + 43))]) C.1 C.2.1 dX9_begin_42 rfl hl (by decide) rfl (fun ls hl => ?_)
  have L43 : ∀ (N43 : Nat) (i : Nat) (Mx43 : Nat → va_E), (100 - i < N43) → (i ≤ 100) → kF [43, 44, 45, 46, 47, 51, 52] M Mx43 → Mx43 43 = .inr (9, [.int (nI G), .int (nI mo), .int (nI ta), .int (nI 20), .ref (b + 44), .ref (b + 45), .ref (b + 46), .ref (b + 47), .int (nI 0), .ref (b + 48), .ref (b + 49), .ref (b + 50), .ref (b + 51), .ref (b + 52), .int (nI 0), .ref (b + 53), .ref (b + 54), .ref (b + 55), .int (nI 0), .int (nI 0), .ref (b + 56), .ref (b + 57), .int (nI 0), .ref (b + 58), .ref (b + 59), .ref (b + 60), .ref (b + 61), .int (nI 0), .int (nI 0), .ref (b + 62), .ref (b + 63), .ref (b + 64), .ref (b + 65), .ref (b + 66), .ref (b + 67), .ref (b + 68), .ref (b + 69), .ref (b + 70), .ref (b + 71), .ref (b + 72), .ref (b + 73)]) → Mx43 44 = .inl (cI, 32, .inl mow) → Mx43 45 = .inl (cI, 32, .inl mep) → Mx43 46 = .inl (cI, 32, .inl mwe) → Mx43 47 = .inl (cZ, 32, .inl mmv) → Mx43 51 = .inl (cI, 100, .inl (fil mct (nI 0) i)) → Mx43 52 = .inl (cJ, 100, .inr (.inl (fil msu 0 i))) → ∀ (ls : Array Slot) (H : Heap) (locs : List Loc), lv_has ls 2 [(1, .int (nI i)), (0, .ref (b + 43))] → kW D b Mx43 n s.heap H locs → W p l e ({ frames := 1, cells := 0, slots := 0, locals := 23 } : Room) s m ([.ref (b + 43)] : List Value).toArray below meth c H locs 0 0 Q (F0 m 43 ls []) := by
    intro N43
    induction N43 with
    | zero => intro i Mx43 hm43 hi hFF h43 h44 h45 h46 h47 h51 h52 ls H locs hl hw; omega
    | succ N43 ih43 =>
      intro i Mx43 hm43 hi hFF h43 h44 h45 h46 h47 h51 h52 ls H locs hl hw
      refine lv_iload_n C.1 C.2.1 dX9_begin_43 rfl (lv_at hl 0 rfl) ?_
      refine lv_bipush (v := nI 100) C.1 C.2.1 dX9_begin_44 (by decide) ?_
      refine lv_icmp_ge (tgt := 69) C.1 C.2.1 dX9_begin_46 (by decide) (fun c46 => ?_) (fun c46 => ?_)
      · have q46 := (nI_leI (by omega) (by omega)).mp c46
        have q46 : i = 100 := by omega
        rw [q46] at h51 h52
        obtain ⟨M_9, hw, h51, hF⟩ := k_extI hw 51 (by omega) h51 (fun _ => 0) (fun j hj => if_pos hj)
        have h43 := (hF 43 (by decide)).trans h43
        have h44 := (hF 44 (by decide)).trans h44
        have h45 := (hF 45 (by decide)).trans h45
        have h46 := (hF 46 (by decide)).trans h46
        have h47 := (hF 47 (by decide)).trans h47
        have h52 := (hF 52 (by decide)).trans h52
        have hFF := kF_st hFF hF (by first | decide | simp)
        obtain ⟨M_10, hw, h52, hF⟩ := k_extJ hw 52 (by omega) h52 (fun _ => 0) (fun j hj => if_pos hj)
        have h43 := (hF 43 (by decide)).trans h43
        have h44 := (hF 44 (by decide)).trans h44
        have h45 := (hF 45 (by decide)).trans h45
        have h46 := (hF 46 (by decide)).trans h46
        have h47 := (hF 47 (by decide)).trans h47
        have h51 := (hF 51 (by decide)).trans h51
        have hFF := kF_st hFF hF (by first | decide | simp)
        refine lv_iconst (v := nI 0) C.1 C.2.1 dX9_begin_69 (by decide) ?_
        refine lv_istore_n (lv' := [(1, .int (nI 0)), (0, .ref (b + 43))]) C.1 C.2.1 dX9_begin_70 rfl hl (by decide) rfl (fun ls hl => ?_)
        have L71 : ∀ (N71 : Nat) (i : Nat) (Mx71 : Nat → va_E), (32 - i < N71) → (i ≤ 32) → kF [43, 44, 45, 46, 47, 51, 52] M Mx71 → Mx71 43 = .inr (9, [.int (nI G), .int (nI mo), .int (nI ta), .int (nI 20), .ref (b + 44), .ref (b + 45), .ref (b + 46), .ref (b + 47), .int (nI 0), .ref (b + 48), .ref (b + 49), .ref (b + 50), .ref (b + 51), .ref (b + 52), .int (nI 0), .ref (b + 53), .ref (b + 54), .ref (b + 55), .int (nI 0), .int (nI 0), .ref (b + 56), .ref (b + 57), .int (nI 0), .ref (b + 58), .ref (b + 59), .ref (b + 60), .ref (b + 61), .int (nI 0), .int (nI 0), .ref (b + 62), .ref (b + 63), .ref (b + 64), .ref (b + 65), .ref (b + 66), .ref (b + 67), .ref (b + 68), .ref (b + 69), .ref (b + 70), .ref (b + 71), .ref (b + 72), .ref (b + 73)]) → Mx71 44 = .inl (cI, 32, .inl mow) → Mx71 45 = .inl (cI, 32, .inl mep) → Mx71 46 = .inl (cI, 32, .inl mwe) → Mx71 47 = .inl (cZ, 32, .inl (fil mmv (nI 0) i)) → Mx71 51 = .inl (cI, 100, .inl fun _ => 0) → Mx71 52 = .inl (cJ, 100, .inr (.inl fun _ => 0)) → ∀ (ls : Array Slot) (H : Heap) (locs : List Loc), lv_has ls 2 [(1, .int (nI i)), (0, .ref (b + 43))] → kW D b Mx71 n s.heap H locs → W p l e ({ frames := 1, cells := 0, slots := 0, locals := 23 } : Room) s m ([.ref (b + 43)] : List Value).toArray below meth c H locs 0 0 Q (F0 m 71 ls []) := by
          intro N71
          induction N71 with
          | zero => intro i Mx71 hm71 hi hFF h43 h44 h45 h46 h47 h51 h52 ls H locs hl hw; omega
          | succ N71 ih71 =>
            intro i Mx71 hm71 hi hFF h43 h44 h45 h46 h47 h51 h52 ls H locs hl hw
            refine lv_iload_n C.1 C.2.1 dX9_begin_71 rfl (lv_at hl 0 rfl) ?_
            refine lv_bipush (v := nI 32) C.1 C.2.1 dX9_begin_72 (by decide) ?_
            refine lv_icmp_ge (tgt := 90) C.1 C.2.1 dX9_begin_74 (by decide) (fun c74 => ?_) (fun c74 => ?_)
            · have q74 := (nI_leI (by omega) (by omega)).mp c74
              have q74 : i = 32 := by omega
              rw [q74] at h47
              obtain ⟨M_11, hw, h47, hF⟩ := k_extI hw 47 (by omega) h47 (fun _ => 0) (fun j hj => if_pos hj)
              have h43 := (hF 43 (by decide)).trans h43
              have h44 := (hF 44 (by decide)).trans h44
              have h45 := (hF 45 (by decide)).trans h45
              have h46 := (hF 46 (by decide)).trans h46
              have h51 := (hF 51 (by decide)).trans h51
              have h52 := (hF 52 (by decide)).trans h52
              have hFF := kF_st hFF hF (by first | decide | simp)
              refine lv_aload_n C.1 C.2.1 dX9_begin_90 rfl (lv_at hl 1 rfl) ?_
              refine lv_bipush (v := nI 8) C.1 C.2.1 dX9_begin_91 (by decide) ?_
              refine lv_iconst (v := nI 4) C.1 C.2.1 dX9_begin_93 (by decide) ?_
              refine k_vv C hw 43 (by omega) h43 rfl (c_X9_layShape (by omega) h43 h44 h45 h46  ) kv_X9_130 rfl hl.1 ⟨Nat.le_of_ble_eq_true rfl, Nat.le_of_ble_eq_true rfl⟩ (Nat.le_of_ble_eq_true rfl) ⟨Nat.le_of_ble_eq_true rfl, Nat.le_of_ble_eq_true rfl⟩ dX9_begin_94 (fun M_12 n9 H locs hp hw => ?_)
              obtain ⟨en9, hF, h43, h44, h45, h46⟩ := hp
              have en9 : n9 = n := en9
              rw [en9] at hw
              have h47 := (hF 47 (by decide)).trans h47
              have h51 := (hF 51 (by decide)).trans h51
              have h52 := (hF 52 (by decide)).trans h52
              have hFF := kF_st hFF hF (by first | decide | simp)
              exact hret _ _ (Nat.le_of_ble_eq_true rfl) (Nat.le_of_ble_eq_true rfl) hw (⟨rfl, hFF, h43, h44, h45, h46, h47, h51, h52⟩) dX9_begin_97
            · have q74 : ¬ 32 ≤ i := fun z => c74 ((nI_leI (by omega) (by omega)).mpr z)
              refine lv_aload_n C.1 C.2.1 dX9_begin_77 rfl (lv_at hl 1 rfl) ?_
              refine k_get C hw 43 (by omega) h43 rfl inlX9 7 (by decide) q_127 rfl dX9_begin_78 ?_
              refine lv_iload_n C.1 C.2.1 dX9_begin_81 rfl (lv_at hl 0 rfl) ?_
              refine lv_iconst (v := nI 0) C.1 C.2.1 dX9_begin_82 (by decide) ?_
              refine k_zast C hw 47 (by omega) h47 (by first | exact Or.inl rfl | exact Or.inr rfl) (by omega) (by first | decide | omega) dX9_begin_83 (fun M_13 H locs hw h47 hF => ?_)
              have h43 := (hF 43 (by decide)).trans h43
              have h44 := (hF 44 (by decide)).trans h44
              have h45 := (hF 45 (by decide)).trans h45
              have h46 := (hF 46 (by decide)).trans h46
              have h51 := (hF 51 (by decide)).trans h51
              have h52 := (hF 52 (by decide)).trans h52
              have hFF := kF_st hFF hF (by first | decide | simp)
              rw [fil_s] at h47
              refine lv_iinc (v := (nI (i + 1))) (lv' := [(1, .int (nI (i + 1))), (0, .ref (b + 43))]) C.1 C.2.1 dX9_begin_84 hl (k := 0) rfl (k_inc _ 1) (by decide) rfl (fun ls hl => ?_)
              refine lv_goto (tgt := 71) C.1 C.2.1 dX9_begin_87 (by decide) ?_
              exact ih71  (i + 1) M_13 (by omega) (by omega) hFF h43 h44 h45 h46 h47 h51 h52  ls _ _ (lv_sub hl [0, 1] rfl) hw
        exact L71 (_ + 1) (0) M_10 (Nat.lt_succ_self _) (Nat.zero_le _) hFF h43 h44 h45 h46 h47 h51 h52  ls _ _ (lv_sub hl [0, 1] rfl) hw
      · have q46 : ¬ 100 ≤ i := fun z => c46 ((nI_leI (by omega) (by omega)).mpr z)
        refine lv_aload_n C.1 C.2.1 dX9_begin_49 rfl (lv_at hl 1 rfl) ?_
        refine k_get C hw 43 (by omega) h43 rfl inlX9 12 (by decide) q_131 rfl dX9_begin_50 ?_
        refine lv_iload_n C.1 C.2.1 dX9_begin_53 rfl (lv_at hl 0 rfl) ?_
        refine lv_iconst (v := nI 0) C.1 C.2.1 dX9_begin_54 (by decide) ?_
        refine k_iast C hw 51 (by omega) h51 (by omega) (by first | decide | omega) dX9_begin_55 (fun M_14 H locs hw h51 hF => ?_)
        have h43 := (hF 43 (by decide)).trans h43
        have h44 := (hF 44 (by decide)).trans h44
        have h45 := (hF 45 (by decide)).trans h45
        have h46 := (hF 46 (by decide)).trans h46
        have h47 := (hF 47 (by decide)).trans h47
        have h52 := (hF 52 (by decide)).trans h52
        have hFF := kF_st hFF hF (by first | decide | simp)
        rw [fil_s] at h51
        refine lv_aload_n C.1 C.2.1 dX9_begin_56 rfl (lv_at hl 1 rfl) ?_
        refine k_get C hw 43 (by omega) h43 rfl inlX9 13 (by decide) q_132 rfl dX9_begin_57 ?_
        refine lv_iload_n C.1 C.2.1 dX9_begin_60 rfl (lv_at hl 0 rfl) ?_
        refine lv_lconst (v := 0) C.1 C.2.1 dX9_begin_61 rfl ?_
        refine k_last C hw 52 (by omega) h52 (by omega) (by first | decide | omega) dX9_begin_62 (fun M_15 H locs hw h52 hF => ?_)
        have h43 := (hF 43 (by decide)).trans h43
        have h44 := (hF 44 (by decide)).trans h44
        have h45 := (hF 45 (by decide)).trans h45
        have h46 := (hF 46 (by decide)).trans h46
        have h47 := (hF 47 (by decide)).trans h47
        have h51 := (hF 51 (by decide)).trans h51
        have hFF := kF_st hFF hF (by first | decide | simp)
        rw [fil_sL] at h52
        refine lv_iinc (v := (nI (i + 1))) (lv' := [(1, .int (nI (i + 1))), (0, .ref (b + 43))]) C.1 C.2.1 dX9_begin_63 hl (k := 0) rfl (k_inc _ 1) (by decide) rfl (fun ls hl => ?_)
        refine lv_goto (tgt := 43) C.1 C.2.1 dX9_begin_66 (by decide) ?_
        exact ih43  (i + 1) M_15 (by omega) (by omega) hFF h43 h44 h45 h46 h47 h51 h52  ls _ _ (lv_sub hl [0, 1] rfl) hw
  exact L43 (_ + 1) (0) M_8 (Nat.lt_succ_self _) (Nat.zero_le _) hFF h43 h44 h45 h46 h47 h51 h52  ls _ _ (lv_sub hl [0, 1] rfl) hw

set_option maxHeartbeats 4000000 in
set_option maxRecDepth 100000 in
theorem c_X9_shape {l : Launch} {D : va_G} {cI cJ cZ cH cR : ClassId} {b : Nat} {n : Nat} {M : Nat → va_E}  {G : Nat} {mo : Nat} {ta : Nat} {sl : Int32} {ca : Nat} {os : Nat} {tr : Int32} {ts : Nat} {lg : Nat} {mm : Nat} {sc : Int32} {mow : Nat → Int32} {mep : Nat → Int32} {mwe : Nat → Int32} {gr mt : Int32} (hn : 47 ≤ n) (h43 : M 43 = .inr (9, [.int (nI G), .int (nI mo), .int (nI ta), .int sl, .ref (b + 44), .ref (b + 45), .ref (b + 46), .ref (b + 47), .int (nI ca), .ref (b + 48), .ref (b + 49), .ref (b + 50), .ref (b + 51), .ref (b + 52), .int (nI os), .ref (b + 53), .ref (b + 54), .ref (b + 55), .int tr, .int (nI ts), .ref (b + 56), .ref (b + 57), .int (nI lg), .ref (b + 58), .ref (b + 59), .ref (b + 60), .ref (b + 61), .int (nI mm), .int sc, .ref (b + 62), .ref (b + 63), .ref (b + 64), .ref (b + 65), .ref (b + 66), .ref (b + 67), .ref (b + 68), .ref (b + 69), .ref (b + 70), .ref (b + 71), .ref (b + 72), .ref (b + 73)])) (h44 : M 44 = .inl (cI, 32, .inl mow)) (h45 : M 45 = .inl (cI, 32, .inl mep)) (h46 : M 46 = .inl (cI, 32, .inl mwe))  (hca : ca ≤ 400) (hts : ts ≤ 40) (hmm : mm ≤ 3) : Met l yX9_shape (kw yX9_shape cX9_shape 3 (some .int)) ({ frames := 1, cells := 0, slots := 0, locals := 25 }) (va_Pc [.ref (b + 43), .int gr, .int mt] (kPre D (kT cI cJ cZ cH cR) b M n)) (va_Qi (fun (r : Int32) (u : (Nat → va_E) × Nat) => u.2 = n ∧ (((¬ (¬ gr < nI 2 ∧ gr ≤ nI 32 ∧ ¬ mt < nI 1 ∧ ¬ nI 12 < mt ∧ mt ≤ gr)) ∧ r = -102 ∧ u.1 = M) ∨ (((¬ gr < nI 2 ∧ gr ≤ nI 32 ∧ ¬ mt < nI 1 ∧ ¬ nI 12 < mt ∧ mt ≤ gr) ∧ ¬ (¬ 0 < ca ∧ ¬ 0 < ts ∧ ¬ 0 < mm)) ∧ r = -103 ∧ u.1 = M) ∨ (((¬ gr < nI 2 ∧ gr ≤ nI 32 ∧ ¬ mt < nI 1 ∧ ¬ nI 12 < mt ∧ mt ≤ gr) ∧ (¬ 0 < ca ∧ ¬ 0 < ts ∧ ¬ 0 < mm)) ∧ r = 1 ∧ kF [43, 44, 45, 46] M u.1 ∧ u.1 43 = .inr (9, [.int gr, .int mt, .int (nI 1), .int sl, .ref (b + 44), .ref (b + 45), .ref (b + 46), .ref (b + 47), .int (nI ca), .ref (b + 48), .ref (b + 49), .ref (b + 50), .ref (b + 51), .ref (b + 52), .int (nI os), .ref (b + 53), .ref (b + 54), .ref (b + 55), .int tr, .int (nI ts), .ref (b + 56), .ref (b + 57), .int (nI lg), .ref (b + 58), .ref (b + 59), .ref (b + 60), .ref (b + 61), .int (nI mm), .int sc, .ref (b + 62), .ref (b + 63), .ref (b + 64), .ref (b + 65), .ref (b + 66), .ref (b + 67), .ref (b + 68), .ref (b + 69), .ref (b + 70), .ref (b + 71), .ref (b + 72), .ref (b + 73)]) ∧ u.1 44 = .inl (cI, 32, .inl (fun _ => 0)) ∧ u.1 45 = .inl (cI, 32, .inl (fun _ => 1)) ∧ u.1 46 = .inl (cI, 32, .inl (fun _ => 0))))) (kB D (kT cI cJ cZ cH cR) b) (kA b)) 0 0 (kA b) := by
  refine k_metI (by decide +kernel) (Nat.le_of_ble_eq_true rfl) ?_
  intro p e s m below meth c ls Q C hw hret hnm hl
  have hl : lv_has ls 3 [(0, .ref (b + 43)), (1, .int gr), (2, .int mt)] := hl
  have hFF : kF [43, 44, 45, 46] M M := kF_rf
  refine lv_iload_n C.1 C.2.1 dX9_shape_0 rfl (lv_at hl 1 rfl) ?_
  refine lv_i2l C.1 C.2.1 dX9_shape_1 rfl ?_
  refine lv_ldc2 C.1 C.2.1 C.2.2.2.1 (C.2.2.2.2.1 _ q_187) dX9_shape_2 ?_
  refine lv_ldc2 C.1 C.2.1 C.2.2.2.1 (C.2.2.2.2.1 _ q_188) dX9_shape_5 ?_
  refine k_si C hw (c_X9_in   ) kv_X9_147 rfl hl.1 ⟨Nat.le_of_ble_eq_true rfl, Nat.le_of_ble_eq_true rfl⟩ (Nat.le_of_ble_eq_true rfl) ⟨Nat.le_of_ble_eq_true rfl, Nat.le_of_ble_eq_true rfl⟩ dX9_shape_8 (fun r8 M_1 n9 H locs hp hw => ?_)
  obtain ⟨er8, en9, eM9⟩ := hp
  have en9 : n9 = n := en9
  rw [en9] at hw
  have eM9 : M_1 = M := eM9
  rw [eM9] at hw
  refine lv_if_eq (tgt := 31) C.1 C.2.1 dX9_shape_11 (by decide) (fun c11 => ?_) (fun c11 => ?_)
  · have h11_ : ¬ (¬ gr < nI 2 ∧ gr ≤ nI 32) := fun z => by rw [er8, if_pos ((inL_i (lo := 2) (hi := 32) (nI 2) (nI 32) (by decide) (by decide)).mpr z)] at c11; exact absurd c11 (by decide)
    refine lv_bipush (v := (-102)) C.1 C.2.1 dX9_shape_31 (by decide) ?_
    exact hret _ _ (Nat.le_of_ble_eq_true rfl) (Nat.le_of_ble_eq_true rfl) hw (⟨rfl, Or.inl ⟨fun z => h11_ ⟨z.1, z.2.1⟩, rfl, rfl⟩⟩) dX9_shape_33
  · have h11_ : ¬ gr < nI 2 ∧ gr ≤ nI 32 := (inL_i (lo := 2) (hi := 32) (nI 2) (nI 32) (by decide) (by decide)).mp (Classical.byContradiction (fun z => c11 (by rw [er8, if_neg z])))
    refine lv_iload_n C.1 C.2.1 dX9_shape_14 rfl (lv_at hl 2 rfl) ?_
    refine lv_i2l C.1 C.2.1 dX9_shape_15 rfl ?_
    refine lv_lconst (v := 1) C.1 C.2.1 dX9_shape_16 rfl ?_
    refine lv_ldc2 C.1 C.2.1 C.2.2.2.1 (C.2.2.2.2.1 _ q_189) dX9_shape_17 ?_
    refine k_si C hw (c_X9_in   ) kv_X9_147 rfl hl.1 ⟨Nat.le_of_ble_eq_true rfl, Nat.le_of_ble_eq_true rfl⟩ (Nat.le_of_ble_eq_true rfl) ⟨Nat.le_of_ble_eq_true rfl, Nat.le_of_ble_eq_true rfl⟩ dX9_shape_20 (fun r20 M_2 n9 H locs hp hw => ?_)
    obtain ⟨er20, en9, eM9⟩ := hp
    have en9 : n9 = n := en9
    rw [en9] at hw
    have eM9 : M_2 = M := eM9
    rw [eM9] at hw
    refine lv_if_eq (tgt := 31) C.1 C.2.1 dX9_shape_23 (by decide) (fun c23 => ?_) (fun c23 => ?_)
    · have h23_ : ¬ (¬ mt < nI 1 ∧ mt ≤ nI 12) := fun z => by rw [er20, if_pos ((inL_i (lo := 1) (hi := 12) (nI 1) (nI 12) (by decide) (by decide)).mpr z)] at c23; exact absurd c23 (by decide)
      refine lv_bipush (v := (-102)) C.1 C.2.1 dX9_shape_31 (by decide) ?_
      exact hret _ _ (Nat.le_of_ble_eq_true rfl) (Nat.le_of_ble_eq_true rfl) hw (⟨rfl, Or.inl ⟨fun z => h23_ ⟨z.2.2.1, Int32.not_lt.mp z.2.2.2.1⟩, rfl, rfl⟩⟩) dX9_shape_33
    · have h23_ : ¬ mt < nI 1 ∧ mt ≤ nI 12 := (inL_i (lo := 1) (hi := 12) (nI 1) (nI 12) (by decide) (by decide)).mp (Classical.byContradiction (fun z => c23 (by rw [er20, if_neg z])))
      refine lv_iload_n C.1 C.2.1 dX9_shape_26 rfl (lv_at hl 2 rfl) ?_
      refine lv_iload_n C.1 C.2.1 dX9_shape_27 rfl (lv_at hl 1 rfl) ?_
      refine lv_icmp_le (tgt := 34) C.1 C.2.1 dX9_shape_28 (by decide) (fun c28 => ?_) (fun c28 => ?_)
      · refine lv_aload_n C.1 C.2.1 dX9_shape_34 rfl (lv_at hl 0 rfl) ?_
        refine k_get C hw 43 (by omega) h43 rfl inlX9 8 (by decide) q_159 rfl dX9_shape_35 ?_
        refine lv_if_gt (tgt := 55) C.1 C.2.1 dX9_shape_38 (by decide) (fun c38 => ?_) (fun c38 => ?_)
        · have hc : 0 < ca := Nat.pos_of_ne_zero (fun z => by rw [z] at c38; exact absurd c38 (by decide))
          refine lv_bipush (v := (-103)) C.1 C.2.1 dX9_shape_55 (by decide) ?_
          exact hret _ _ (Nat.le_of_ble_eq_true rfl) (Nat.le_of_ble_eq_true rfl) hw (⟨rfl, Or.inr (Or.inl ⟨⟨⟨h11_.1, h11_.2, h23_.1, Int32.not_lt.mpr h23_.2, c28⟩, fun z => z.1 hc⟩, rfl, rfl⟩)⟩) dX9_shape_57
        · have hc : ¬ 0 < ca := fun z => c38 (nI_lt (a := 0) z (by omega))
          refine lv_aload_n C.1 C.2.1 dX9_shape_41 rfl (lv_at hl 0 rfl) ?_
          refine k_get C hw 43 (by omega) h43 rfl inlX9 19 (by decide) q_162 rfl dX9_shape_42 ?_
          refine lv_if_gt (tgt := 55) C.1 C.2.1 dX9_shape_45 (by decide) (fun c45 => ?_) (fun c45 => ?_)
          · have ht : 0 < ts := Nat.pos_of_ne_zero (fun z => by rw [z] at c45; exact absurd c45 (by decide))
            refine lv_bipush (v := (-103)) C.1 C.2.1 dX9_shape_55 (by decide) ?_
            exact hret _ _ (Nat.le_of_ble_eq_true rfl) (Nat.le_of_ble_eq_true rfl) hw (⟨rfl, Or.inr (Or.inl ⟨⟨⟨h11_.1, h11_.2, h23_.1, Int32.not_lt.mpr h23_.2, c28⟩, fun z => z.2.1 ht⟩, rfl, rfl⟩)⟩) dX9_shape_57
          · have ht : ¬ 0 < ts := fun z => c45 (nI_lt (a := 0) z (by omega))
            refine lv_aload_n C.1 C.2.1 dX9_shape_48 rfl (lv_at hl 0 rfl) ?_
            refine k_get C hw 43 (by omega) h43 rfl inlX9 27 (by decide) q_164 rfl dX9_shape_49 ?_
            refine lv_if_le (tgt := 58) C.1 C.2.1 dX9_shape_52 (by decide) (fun c52 => ?_) (fun c52 => ?_)
            · have hm : ¬ 0 < mm := fun z => absurd c52 (nI_nle z (by omega))
              obtain ⟨g1, hg1, eg⟩ := nI_of2 (M := nI 32) (n := 32) (by decide) (fun z => h11_.1 (Int32.lt_trans z (by decide))) h11_.2
              obtain ⟨m1, hm1, em⟩ := nI_of2 (M := nI 12) (n := 12) (by decide) (fun z => h23_.1 (Int32.lt_trans z (by decide))) h23_.2
              refine lv_aload_n C.1 C.2.1 dX9_shape_58 rfl (lv_at hl 0 rfl) ?_
              refine lv_iload_n C.1 C.2.1 dX9_shape_59 rfl (lv_at hl 1 rfl) ?_
              refine k_topi (y := nI g1) (eg) ?_
              refine lv_iload_n C.1 C.2.1 dX9_shape_60 rfl (lv_at hl 2 rfl) ?_
              refine k_topi (y := nI m1) (em) ?_
              refine k_vv C hw 43 (by omega) h43 rfl (c_X9_layShape (by omega) h43 h44 h45 h46  ) kv_X9_130 rfl hl.1 ⟨Nat.le_of_ble_eq_true rfl, Nat.le_of_ble_eq_true rfl⟩ (Nat.le_of_ble_eq_true rfl) ⟨Nat.le_of_ble_eq_true rfl, Nat.le_of_ble_eq_true rfl⟩ dX9_shape_61 (fun M_3 n9 H locs hp hw => ?_)
              obtain ⟨en9, hF, h43, h44, h45, h46⟩ := hp
              have en9 : n9 = n := en9
              rw [en9] at hw
              have hFF := kF_st hFF hF (by first | decide | simp)
              refine lv_iconst (v := nI 1) C.1 C.2.1 dX9_shape_64 (by decide) ?_
              rw [← eg, ← em] at h43
              exact hret _ _ (Nat.le_of_ble_eq_true rfl) (Nat.le_of_ble_eq_true rfl) hw (⟨rfl, Or.inr (Or.inr (⟨⟨⟨h11_.1, h11_.2, h23_.1, Int32.not_lt.mpr h23_.2, c28⟩, hc, ht, hm⟩, rfl, hFF, h43, h44, h45, h46⟩))⟩) dX9_shape_65
            · have hm : 0 < mm := Nat.pos_of_ne_zero (fun z => by rw [z] at c52; exact c52 (by decide))
              refine lv_bipush (v := (-103)) C.1 C.2.1 dX9_shape_55 (by decide) ?_
              exact hret _ _ (Nat.le_of_ble_eq_true rfl) (Nat.le_of_ble_eq_true rfl) hw (⟨rfl, Or.inr (Or.inl ⟨⟨⟨h11_.1, h11_.2, h23_.1, Int32.not_lt.mpr h23_.2, c28⟩, fun z => z.2.2 hm⟩, rfl, rfl⟩)⟩) dX9_shape_57
      · refine lv_bipush (v := (-102)) C.1 C.2.1 dX9_shape_31 (by decide) ?_
        exact hret _ _ (Nat.le_of_ble_eq_true rfl) (Nat.le_of_ble_eq_true rfl) hw (⟨rfl, Or.inl ⟨fun z => c28 z.2.2.2.2, rfl, rfl⟩⟩) dX9_shape_33

set_option maxHeartbeats 4000000 in
set_option maxRecDepth 100000 in
theorem c_X9_slack {l : Launch} {D : va_G} {cI cJ cZ cH cR : ClassId} {b : Nat} {n : Nat} {M : Nat → va_E}  {G : Nat} {mo : Nat} {ta : Nat} {sl : Int32} {ca : Nat} {os : Nat} {tr : Int32} {ts : Nat} {lg : Nat} {mm : Nat} {sc : Int32} {v : Int32} (hn : 44 ≤ n) (h43 : M 43 = .inr (9, [.int (nI G), .int (nI mo), .int (nI ta), .int sl, .ref (b + 44), .ref (b + 45), .ref (b + 46), .ref (b + 47), .int (nI ca), .ref (b + 48), .ref (b + 49), .ref (b + 50), .ref (b + 51), .ref (b + 52), .int (nI os), .ref (b + 53), .ref (b + 54), .ref (b + 55), .int tr, .int (nI ts), .ref (b + 56), .ref (b + 57), .int (nI lg), .ref (b + 58), .ref (b + 59), .ref (b + 60), .ref (b + 61), .int (nI mm), .int sc, .ref (b + 62), .ref (b + 63), .ref (b + 64), .ref (b + 65), .ref (b + 66), .ref (b + 67), .ref (b + 68), .ref (b + 69), .ref (b + 70), .ref (b + 71), .ref (b + 72), .ref (b + 73)]))   : Met l yX9_slack (kw yX9_slack cX9_slack 3 (some .int)) ({ frames := 1, cells := 0, slots := 0, locals := 25 }) (va_Pc [.ref (b + 43), .int v] (kPre D (kT cI cJ cZ cH cR) b M n)) (va_Qi (fun (r : Int32) (u : (Nat → va_E) × Nat) => u.2 = n ∧ ((¬ (¬ v < 0 ∧ v ≤ nI 100) ∧ r = -102 ∧ u.1 = M) ∨ ((¬ v < 0 ∧ v ≤ nI 100) ∧ r = sl ∧ kF [43] M u.1 ∧ u.1 43 = .inr (9, [.int (nI G), .int (nI mo), .int (nI ta), .int v, .ref (b + 44), .ref (b + 45), .ref (b + 46), .ref (b + 47), .int (nI ca), .ref (b + 48), .ref (b + 49), .ref (b + 50), .ref (b + 51), .ref (b + 52), .int (nI os), .ref (b + 53), .ref (b + 54), .ref (b + 55), .int tr, .int (nI ts), .ref (b + 56), .ref (b + 57), .int (nI lg), .ref (b + 58), .ref (b + 59), .ref (b + 60), .ref (b + 61), .int (nI mm), .int sc, .ref (b + 62), .ref (b + 63), .ref (b + 64), .ref (b + 65), .ref (b + 66), .ref (b + 67), .ref (b + 68), .ref (b + 69), .ref (b + 70), .ref (b + 71), .ref (b + 72), .ref (b + 73)])))) (kB D (kT cI cJ cZ cH cR) b) (kA b)) 0 0 (kA b) := by
  refine k_metI (by decide +kernel) (Nat.le_of_ble_eq_true rfl) ?_
  intro p e s m below meth c ls Q C hw hret hnm hl
  have hl : lv_has ls 3 [(0, .ref (b + 43)), (1, .int v)] := hl
  have hFF : kF [43] M M := kF_rf
  refine lv_iload_n C.1 C.2.1 dX9_slack_0 rfl (lv_at hl 1 rfl) ?_
  refine lv_i2l C.1 C.2.1 dX9_slack_1 rfl ?_
  refine lv_lconst (v := 0) C.1 C.2.1 dX9_slack_2 rfl ?_
  refine lv_ldc2 C.1 C.2.1 C.2.2.2.1 (C.2.2.2.2.1 _ q_201) dX9_slack_3 ?_
  refine k_si C hw (c_X9_in   ) kv_X9_147 rfl hl.1 ⟨Nat.le_of_ble_eq_true rfl, Nat.le_of_ble_eq_true rfl⟩ (Nat.le_of_ble_eq_true rfl) ⟨Nat.le_of_ble_eq_true rfl, Nat.le_of_ble_eq_true rfl⟩ dX9_slack_6 (fun r6 M_1 n9 H locs hp hw => ?_)
  obtain ⟨er6, en9, eM9⟩ := hp
  have en9 : n9 = n := en9
  rw [en9] at hw
  have eM9 : M_1 = M := eM9
  rw [eM9] at hw
  refine lv_if_ne (tgt := 15) C.1 C.2.1 dX9_slack_9 (by decide) (fun c9 => ?_) (fun c9 => ?_)
  · have h9_ : ¬ v < 0 ∧ v ≤ nI 100 := (inL_i (lo := 0) (hi := 100) 0 (nI 100) (by decide) (by decide)).mp (Classical.byContradiction (fun z => c9 (by rw [er6, if_neg z])))
    refine lv_aload_n C.1 C.2.1 dX9_slack_15 rfl (lv_at hl 0 rfl) ?_
    refine k_get C hw 43 (by omega) h43 rfl inlX9 3 (by decide) q_158 rfl dX9_slack_16 ?_
    refine lv_istore_n (lv' := [(2, .int sl), (0, .ref (b + 43)), (1, .int v)]) C.1 C.2.1 dX9_slack_19 rfl hl (by decide) rfl (fun ls hl => ?_)
    refine lv_aload_n C.1 C.2.1 dX9_slack_20 rfl (lv_at hl 1 rfl) ?_
    refine lv_iload_n C.1 C.2.1 dX9_slack_21 rfl (lv_at hl 2 rfl) ?_
    refine k_put (tf := .int) C hw 43 (by omega) h43 rfl inlX9 tyX9 tyX9_ok nmX9 3 (by decide) q_158 rfl (by decide +kernel) rfl rfl (Nat.le_of_ble_eq_true rfl) dX9_slack_22 (fun M_2 H locs hw h43 hF => ?_)
    have h43 : M_2 43 = .inr (9, [.int (nI G), .int (nI mo), .int (nI ta), .int v, .ref (b + 44), .ref (b + 45), .ref (b + 46), .ref (b + 47), .int (nI ca), .ref (b + 48), .ref (b + 49), .ref (b + 50), .ref (b + 51), .ref (b + 52), .int (nI os), .ref (b + 53), .ref (b + 54), .ref (b + 55), .int tr, .int (nI ts), .ref (b + 56), .ref (b + 57), .int (nI lg), .ref (b + 58), .ref (b + 59), .ref (b + 60), .ref (b + 61), .int (nI mm), .int sc, .ref (b + 62), .ref (b + 63), .ref (b + 64), .ref (b + 65), .ref (b + 66), .ref (b + 67), .ref (b + 68), .ref (b + 69), .ref (b + 70), .ref (b + 71), .ref (b + 72), .ref (b + 73)]) := h43
    have hFF := kF_st hFF hF (by first | decide | simp)
    refine lv_iload_n C.1 C.2.1 dX9_slack_25 rfl (lv_at hl 0 rfl) ?_
    exact hret _ _ (Nat.le_of_ble_eq_true rfl) (Nat.le_of_ble_eq_true rfl) hw (⟨rfl, Or.inr ⟨h9_, rfl, hFF, h43⟩⟩) dX9_slack_26
  · have h9_ : ¬ (¬ v < 0 ∧ v ≤ nI 100) := fun z => by rw [er6, if_pos ((inL_i (lo := 0) (hi := 100) 0 (nI 100) (by decide) (by decide)).mpr z)] at c9; exact absurd c9 (by decide)
    refine lv_bipush (v := (-102)) C.1 C.2.1 dX9_slack_12 (by decide) ?_
    exact hret _ _ (Nat.le_of_ble_eq_true rfl) (Nat.le_of_ble_eq_true rfl) hw (⟨rfl, Or.inl ⟨h9_, rfl, rfl⟩⟩) dX9_slack_14

set_option maxHeartbeats 4000000 in
set_option maxRecDepth 100000 in
theorem c_X9_row {l : Launch} {D : va_G} {cI cJ cZ cH cR : ClassId} {b : Nat} {n : Nat} {M : Nat → va_E}  {G : Nat} {mo : Nat} {ta : Nat} {sl : Int32} {ca : Nat} {os : Nat} {tr : Int32} {ts : Nat} {lg : Nat} {mm : Nat} {sc : Int32} {mow : Nat → Int32} {mwe : Nat → Int32} {mrk : Nat → Int32} {mrv : Nat → Int32} {mwa : Nat → Int32} {key v : Int32} (hn : 51 ≤ n) (h43 : M 43 = .inr (9, [.int (nI G), .int (nI mo), .int (nI ta), .int sl, .ref (b + 44), .ref (b + 45), .ref (b + 46), .ref (b + 47), .int (nI ca), .ref (b + 48), .ref (b + 49), .ref (b + 50), .ref (b + 51), .ref (b + 52), .int (nI os), .ref (b + 53), .ref (b + 54), .ref (b + 55), .int tr, .int (nI ts), .ref (b + 56), .ref (b + 57), .int (nI lg), .ref (b + 58), .ref (b + 59), .ref (b + 60), .ref (b + 61), .int (nI mm), .int sc, .ref (b + 62), .ref (b + 63), .ref (b + 64), .ref (b + 65), .ref (b + 66), .ref (b + 67), .ref (b + 68), .ref (b + 69), .ref (b + 70), .ref (b + 71), .ref (b + 72), .ref (b + 73)])) (h44 : M 44 = .inl (cI, 32, .inl mow)) (h46 : M 46 = .inl (cI, 32, .inl mwe)) (h48 : M 48 = .inl (cI, 400, .inl mrk)) (h49 : M 49 = .inl (cI, 400, .inl mrv)) (h50 : M 50 = .inl (cZ, 400, .inl mwa))  (hG0 : 0 < G) (hG : G ≤ 32) (hca : ca ≤ 400) : Met l yX9_row (kw yX9_row cX9_row 3 (some .int)) ({ frames := 1, cells := 0, slots := 0, locals := 25 }) (va_Pc [.ref (b + 43), .int key, .int v] (kPre D (kT cI cJ cZ cH cR) b M n)) (va_Qi (fun (r : Int32) (u : (Nat → va_E) × Nat) => u.2 = n ∧ (((¬ isK key) ∧ r = -101 ∧ u.1 = M) ∨ ((isK key ∧ ¬ isV v) ∧ r = -102 ∧ u.1 = M) ∨ ((isK key ∧ isV v ∧ ¬ ca < 400) ∧ r = -107 ∧ u.1 = M) ∨ ((isK key ∧ isV v ∧ ca < 400) ∧ r = mow (gof G key) ∧ kF [43, 46, 48, 49, 50] M u.1 ∧ u.1 43 = .inr (9, [.int (nI G), .int (nI mo), .int (nI ta), .int sl, .ref (b + 44), .ref (b + 45), .ref (b + 46), .ref (b + 47), .int (nI (ca + 1)), .ref (b + 48), .ref (b + 49), .ref (b + 50), .ref (b + 51), .ref (b + 52), .int (nI os), .ref (b + 53), .ref (b + 54), .ref (b + 55), .int tr, .int (nI ts), .ref (b + 56), .ref (b + 57), .int (nI lg), .ref (b + 58), .ref (b + 59), .ref (b + 60), .ref (b + 61), .int (nI mm), .int sc, .ref (b + 62), .ref (b + 63), .ref (b + 64), .ref (b + 65), .ref (b + 66), .ref (b + 67), .ref (b + 68), .ref (b + 69), .ref (b + 70), .ref (b + 71), .ref (b + 72), .ref (b + 73)]) ∧ u.1 46 = .inl (cI, 32, .inl (upd mwe (gof G key) (mwe (gof G key) + nI 1))) ∧ u.1 48 = .inl (cI, 400, .inl (upd mrk ca key)) ∧ u.1 49 = .inl (cI, 400, .inl (upd mrv ca v)) ∧ u.1 50 = .inl (cZ, 400, .inl (upd mwa ca (nI 1)))))) (kB D (kT cI cJ cZ cH cR) b) (kA b)) 0 0 (kA b) := by
  refine k_metI (by decide +kernel) (Nat.le_of_ble_eq_true rfl) ?_
  intro p e s m below meth c ls Q C hw hret hnm hl
  have hl : lv_has ls 3 [(0, .ref (b + 43)), (1, .int key), (2, .int v)] := hl
  have hFF : kF [43, 46, 48, 49, 50] M M := kF_rf
  refine lv_iload_n C.1 C.2.1 dX9_row_0 rfl (lv_at hl 1 rfl) ?_
  refine k_si C hw (c_X9_noKey   ) kv_X9_156 rfl hl.1 ⟨Nat.le_of_ble_eq_true rfl, Nat.le_of_ble_eq_true rfl⟩ (Nat.le_of_ble_eq_true rfl) ⟨Nat.le_of_ble_eq_true rfl, Nat.le_of_ble_eq_true rfl⟩ dX9_row_1 (fun r1 M_1 n9 H locs hp hw => ?_)
  obtain ⟨er1, en9, eM9⟩ := hp
  have en9 : n9 = n := en9
  rw [en9] at hw
  have eM9 : M_1 = M := eM9
  rw [eM9] at hw
  refine lv_if_eq (tgt := 10) C.1 C.2.1 dX9_row_4 (by decide) (fun c4 => ?_) (fun c4 => ?_)
  · have h4_ : isK key := Classical.byContradiction (fun z => by rw [er1, if_neg z] at c4; exact absurd c4 (by decide))
    refine lv_iload_n C.1 C.2.1 dX9_row_10 rfl (lv_at hl 2 rfl) ?_
    refine lv_i2l C.1 C.2.1 dX9_row_11 rfl ?_
    refine lv_ldc2 C.1 C.2.1 C.2.2.2.1 (C.2.2.2.2.1 _ q_245) dX9_row_12 ?_
    refine lv_ldc2 C.1 C.2.1 C.2.2.2.1 (C.2.2.2.2.1 _ q_246) dX9_row_15 ?_
    refine k_si C hw (c_X9_in   ) kv_X9_147 rfl hl.1 ⟨Nat.le_of_ble_eq_true rfl, Nat.le_of_ble_eq_true rfl⟩ (Nat.le_of_ble_eq_true rfl) ⟨Nat.le_of_ble_eq_true rfl, Nat.le_of_ble_eq_true rfl⟩ dX9_row_18 (fun r18 M_2 n9 H locs hp hw => ?_)
    obtain ⟨er18, en9, eM9⟩ := hp
    have en9 : n9 = n := en9
    rw [en9] at hw
    have eM9 : M_2 = M := eM9
    rw [eM9] at hw
    refine lv_if_ne (tgt := 27) C.1 C.2.1 dX9_row_21 (by decide) (fun c21 => ?_) (fun c21 => ?_)
    · have h21_ : isV v := inV.mp (Classical.byContradiction (fun z => c21 (by rw [er18, if_neg z])))
      refine lv_aload_n C.1 C.2.1 dX9_row_27 rfl (lv_at hl 0 rfl) ?_
      refine k_get C hw 43 (by omega) h43 rfl inlX9 8 (by decide) q_159 rfl dX9_row_28 ?_
      refine lv_sipush (v := nI 400) C.1 C.2.1 dX9_row_31 (by decide) ?_
      refine lv_icmp_ne (tgt := 40) C.1 C.2.1 dX9_row_34 (by decide) (fun c34 => ?_) (fun c34 => ?_)
      · have hc : ca < 400 := by rcases Nat.lt_or_ge ca 400 with z | z; exact z; exact absurd (by rw [show ca = 400 by omega]) c34
        refine lv_aload_n C.1 C.2.1 dX9_row_40 rfl (lv_at hl 0 rfl) ?_
        refine k_get C hw 43 (by omega) h43 rfl inlX9 9 (by decide) q_128 rfl dX9_row_41 ?_
        refine lv_aload_n C.1 C.2.1 dX9_row_44 rfl (lv_at hl 0 rfl) ?_
        refine k_get C hw 43 (by omega) h43 rfl inlX9 8 (by decide) q_159 rfl dX9_row_45 ?_
        refine lv_iload_n C.1 C.2.1 dX9_row_48 rfl (lv_at hl 1 rfl) ?_
        refine k_iast C hw 48 (by omega) h48 (by omega) (by first | decide | omega) dX9_row_49 (fun M_3 H locs hw h48 hF => ?_)
        have h43 := (hF 43 (by decide)).trans h43
        have h44 := (hF 44 (by decide)).trans h44
        have h46 := (hF 46 (by decide)).trans h46
        have h49 := (hF 49 (by decide)).trans h49
        have h50 := (hF 50 (by decide)).trans h50
        have hFF := kF_st hFF hF (by first | decide | simp)
        refine lv_aload_n C.1 C.2.1 dX9_row_50 rfl (lv_at hl 0 rfl) ?_
        refine k_get C hw 43 (by omega) h43 rfl inlX9 10 (by decide) q_129 rfl dX9_row_51 ?_
        refine lv_aload_n C.1 C.2.1 dX9_row_54 rfl (lv_at hl 0 rfl) ?_
        refine k_get C hw 43 (by omega) h43 rfl inlX9 8 (by decide) q_159 rfl dX9_row_55 ?_
        refine lv_iload_n C.1 C.2.1 dX9_row_58 rfl (lv_at hl 2 rfl) ?_
        refine k_iast C hw 49 (by omega) h49 (by omega) (by first | decide | omega) dX9_row_59 (fun M_4 H locs hw h49 hF => ?_)
        have h43 := (hF 43 (by decide)).trans h43
        have h44 := (hF 44 (by decide)).trans h44
        have h46 := (hF 46 (by decide)).trans h46
        have h48 := (hF 48 (by decide)).trans h48
        have h50 := (hF 50 (by decide)).trans h50
        have hFF := kF_st hFF hF (by first | decide | simp)
        refine lv_aload_n C.1 C.2.1 dX9_row_60 rfl (lv_at hl 0 rfl) ?_
        refine k_get C hw 43 (by omega) h43 rfl inlX9 11 (by decide) q_130 rfl dX9_row_61 ?_
        refine lv_aload_n C.1 C.2.1 dX9_row_64 rfl (lv_at hl 0 rfl) ?_
        refine k_get C hw 43 (by omega) h43 rfl inlX9 8 (by decide) q_159 rfl dX9_row_65 ?_
        refine lv_iconst (v := nI 1) C.1 C.2.1 dX9_row_68 (by decide) ?_
        refine k_zast C hw 50 (by omega) h50 (by first | exact Or.inl rfl | exact Or.inr rfl) (by omega) (by first | decide | omega) dX9_row_69 (fun M_5 H locs hw h50 hF => ?_)
        have h43 := (hF 43 (by decide)).trans h43
        have h44 := (hF 44 (by decide)).trans h44
        have h46 := (hF 46 (by decide)).trans h46
        have h48 := (hF 48 (by decide)).trans h48
        have h49 := (hF 49 (by decide)).trans h49
        have hFF := kF_st hFF hF (by first | decide | simp)
        refine lv_aload_n C.1 C.2.1 dX9_row_70 rfl (lv_at hl 0 rfl) ?_
        refine lv_dup C.1 C.2.1 dX9_row_71 rfl ?_
        refine k_get C hw 43 (by omega) h43 rfl inlX9 8 (by decide) q_159 rfl dX9_row_72 ?_
        refine lv_iconst (v := nI 1) C.1 C.2.1 dX9_row_75 (by decide) ?_
        refine lv_iadd C.1 C.2.1 dX9_row_76 ?_
        refine k_topi (y := nI (ca + 1)) (nI_add _ _) ?_
        refine k_put (tf := .int) C hw 43 (by omega) h43 rfl inlX9 tyX9 tyX9_ok nmX9 8 (by decide) q_159 rfl (by decide +kernel) rfl rfl (Nat.le_of_ble_eq_true rfl) dX9_row_77 (fun M_6 H locs hw h43 hF => ?_)
        have h43 : M_6 43 = .inr (9, [.int (nI G), .int (nI mo), .int (nI ta), .int sl, .ref (b + 44), .ref (b + 45), .ref (b + 46), .ref (b + 47), .int (nI (ca + 1)), .ref (b + 48), .ref (b + 49), .ref (b + 50), .ref (b + 51), .ref (b + 52), .int (nI os), .ref (b + 53), .ref (b + 54), .ref (b + 55), .int tr, .int (nI ts), .ref (b + 56), .ref (b + 57), .int (nI lg), .ref (b + 58), .ref (b + 59), .ref (b + 60), .ref (b + 61), .int (nI mm), .int sc, .ref (b + 62), .ref (b + 63), .ref (b + 64), .ref (b + 65), .ref (b + 66), .ref (b + 67), .ref (b + 68), .ref (b + 69), .ref (b + 70), .ref (b + 71), .ref (b + 72), .ref (b + 73)]) := h43
        have h44 := (hF 44 (by decide)).trans h44
        have h46 := (hF 46 (by decide)).trans h46
        have h48 := (hF 48 (by decide)).trans h48
        have h49 := (hF 49 (by decide)).trans h49
        have h50 := (hF 50 (by decide)).trans h50
        have hFF := kF_st hFF hF (by first | decide | simp)
        refine lv_aload_n C.1 C.2.1 dX9_row_80 rfl (lv_at hl 0 rfl) ?_
        refine k_get C hw 43 (by omega) h43 rfl inlX9 6 (by decide) q_125 rfl dX9_row_81 ?_
        refine lv_aload_n C.1 C.2.1 dX9_row_84 rfl (lv_at hl 0 rfl) ?_
        refine lv_iload_n C.1 C.2.1 dX9_row_85 rfl (lv_at hl 1 rfl) ?_
        refine k_vi C hw 43 (by omega) h43 rfl (c_X9_groupOf (by omega) h43  (by omega) (by omega)) kv_X9_160 rfl hl.1 ⟨Nat.le_of_ble_eq_true rfl, Nat.le_of_ble_eq_true rfl⟩ (Nat.le_of_ble_eq_true rfl) ⟨Nat.le_of_ble_eq_true rfl, Nat.le_of_ble_eq_true rfl⟩ dX9_row_86 (fun r86 M_7 n9 H locs hp hw => ?_)
        obtain ⟨er86, en9, eM9⟩ := hp
        have en9 : n9 = n := en9
        rw [en9] at hw
        have eM9 : M_7 = M_6 := eM9
        rw [eM9] at hw
        have hgl := gof_lt hG0 key
        subst er86
        refine lv_dup2_11 C.1 C.2.1 dX9_row_89 rfl rfl ?_
        refine k_iald C hw 46 (by omega) h46 (by omega) (by first | decide | omega) dX9_row_90 ?_
        refine lv_iconst (v := nI 1) C.1 C.2.1 dX9_row_91 (by decide) ?_
        refine lv_iadd C.1 C.2.1 dX9_row_92 ?_
        refine k_iast C hw 46 (by omega) h46 (by omega) (by first | decide | omega) dX9_row_93 (fun M_8 H locs hw h46 hF => ?_)
        have h43 := (hF 43 (by decide)).trans h43
        have h44 := (hF 44 (by decide)).trans h44
        have h48 := (hF 48 (by decide)).trans h48
        have h49 := (hF 49 (by decide)).trans h49
        have h50 := (hF 50 (by decide)).trans h50
        have hFF := kF_st hFF hF (by first | decide | simp)
        refine lv_aload_n C.1 C.2.1 dX9_row_94 rfl (lv_at hl 0 rfl) ?_
        refine k_get C hw 43 (by omega) h43 rfl inlX9 4 (by decide) q_123 rfl dX9_row_95 ?_
        refine lv_aload_n C.1 C.2.1 dX9_row_98 rfl (lv_at hl 0 rfl) ?_
        refine lv_iload_n C.1 C.2.1 dX9_row_99 rfl (lv_at hl 1 rfl) ?_
        refine k_vi C hw 43 (by omega) h43 rfl (c_X9_groupOf (by omega) h43  (by omega) (by omega)) kv_X9_160 rfl hl.1 ⟨Nat.le_of_ble_eq_true rfl, Nat.le_of_ble_eq_true rfl⟩ (Nat.le_of_ble_eq_true rfl) ⟨Nat.le_of_ble_eq_true rfl, Nat.le_of_ble_eq_true rfl⟩ dX9_row_100 (fun r100 M_9 n9 H locs hp hw => ?_)
        obtain ⟨er100, en9, eM9⟩ := hp
        have en9 : n9 = n := en9
        rw [en9] at hw
        have eM9 : M_9 = M_8 := eM9
        rw [eM9] at hw
        subst er100
        refine k_iald C hw 44 (by omega) h44 (by omega) (by first | decide | omega) dX9_row_103 ?_
        exact hret _ _ (Nat.le_of_ble_eq_true rfl) (Nat.le_of_ble_eq_true rfl) hw (⟨rfl, Or.inr (Or.inr (Or.inr (⟨⟨h4_, h21_, hc⟩, rfl, hFF, h43, h46, h48, h49, h50⟩)))⟩) dX9_row_104
      · have hc : ¬ ca < 400 := fun z => by have := (nI_eq (by omega) (by decide)).mp c34; omega
        refine lv_bipush (v := (-107)) C.1 C.2.1 dX9_row_37 (by decide) ?_
        exact hret _ _ (Nat.le_of_ble_eq_true rfl) (Nat.le_of_ble_eq_true rfl) hw (⟨rfl, Or.inr (Or.inr (Or.inl ⟨⟨h4_, h21_, hc⟩, rfl, rfl⟩))⟩) dX9_row_39
    · have h21_ : ¬ (isV v) := fun z => by rw [er18, if_pos (inV.mpr z)] at c21; exact absurd c21 (by decide)
      refine lv_bipush (v := (-102)) C.1 C.2.1 dX9_row_24 (by decide) ?_
      exact hret _ _ (Nat.le_of_ble_eq_true rfl) (Nat.le_of_ble_eq_true rfl) hw (⟨rfl, Or.inr (Or.inl ⟨⟨h4_, h21_⟩, rfl, rfl⟩)⟩) dX9_row_26
  · have h4_ : ¬ isK key := fun z => c4 (by rw [er1, if_pos z])
    refine lv_bipush (v := (-101)) C.1 C.2.1 dX9_row_7 (by decide) ?_
    exact hret _ _ (Nat.le_of_ble_eq_true rfl) (Nat.le_of_ble_eq_true rfl) hw (⟨rfl, Or.inl ⟨h4_, rfl, rfl⟩⟩) dX9_row_9

set_option maxHeartbeats 4000000 in
set_option maxRecDepth 100000 in
theorem c_X9_firstOf {l : Launch} {D : va_G} {cI cJ cZ cH cR : ClassId} {b : Nat} {n : Nat} {M : Nat → va_E}  {G : Nat} {mo : Nat} {ta : Nat} {sl : Int32} {ca : Nat} {os : Nat} {tr : Int32} {ts : Nat} {lg : Nat} {mm : Nat} {sc : Int32} {mow : Nat → Int32} {mrk : Nat → Int32} {mwa : Nat → Int32} {t : Int32} (hn : 51 ≤ n) (h43 : M 43 = .inr (9, [.int (nI G), .int (nI mo), .int (nI ta), .int sl, .ref (b + 44), .ref (b + 45), .ref (b + 46), .ref (b + 47), .int (nI ca), .ref (b + 48), .ref (b + 49), .ref (b + 50), .ref (b + 51), .ref (b + 52), .int (nI os), .ref (b + 53), .ref (b + 54), .ref (b + 55), .int tr, .int (nI ts), .ref (b + 56), .ref (b + 57), .int (nI lg), .ref (b + 58), .ref (b + 59), .ref (b + 60), .ref (b + 61), .int (nI mm), .int sc, .ref (b + 62), .ref (b + 63), .ref (b + 64), .ref (b + 65), .ref (b + 66), .ref (b + 67), .ref (b + 68), .ref (b + 69), .ref (b + 70), .ref (b + 71), .ref (b + 72), .ref (b + 73)])) (h44 : M 44 = .inl (cI, 32, .inl mow)) (h48 : M 48 = .inl (cI, 400, .inl mrk)) (h50 : M 50 = .inl (cZ, 400, .inl mwa))  (hG0 : 0 < G) (hG : G ≤ 32) (hca : ca ≤ 400) : Met l yX9_firstOf (kw yX9_firstOf cX9_firstOf 3 (some .int)) ({ frames := 1, cells := 0, slots := 0, locals := 23 }) (va_Pc [.ref (b + 43), .int t] (kPre D (kT cI cJ cZ cH cR) b M n)) (va_Qi (fun (r : Int32) (u : (Nat → va_E) × Nat) => r = (fI (wtP G mow mrk mwa t) ca) ∧ u.2 = n ∧ u.1 = M) (kB D (kT cI cJ cZ cH cR) b) (kA b)) 0 0 (kA b) := by
  refine k_metI (by decide +kernel) (Nat.le_of_ble_eq_true rfl) ?_
  intro p e s m below meth c ls Q C hw hret hnm hl
  have hl : lv_has ls 3 [(0, .ref (b + 43)), (1, .int t)] := hl
  refine lv_iconst (v := nI 0) C.1 C.2.1 dX9_firstOf_0 (by decide) ?_
  refine lv_istore_n (lv' := [(2, .int (nI 0)), (0, .ref (b + 43)), (1, .int t)]) C.1 C.2.1 dX9_firstOf_1 rfl hl (by decide) rfl (fun ls hl => ?_)
  have L2 : ∀ (N2 : Nat) (i : Nat) , (ca - i < N2) → (i ≤ ca) → (∀ j, j < i → (wtP G mow mrk mwa t) j = false) → ∀ (ls : Array Slot) (H : Heap) (locs : List Loc), lv_has ls 3 [(2, .int (nI i)), (0, .ref (b + 43)), (1, .int t)] → kW D b M n s.heap H locs → W p l e ({ frames := 1, cells := 0, slots := 0, locals := 23 } : Room) s m ([.ref (b + 43), .int t] : List Value).toArray below meth c H locs 0 0 Q (F0 m 2 ls []) := by
    intro N2
    induction N2 with
    | zero => intro i hm2 hi ha ls H locs hl hw; omega
    | succ N2 ih2 =>
      intro i hm2 hi ha ls H locs hl hw
      refine lv_iload_n C.1 C.2.1 dX9_firstOf_2 rfl (lv_at hl 0 rfl) ?_
      refine lv_aload_n C.1 C.2.1 dX9_firstOf_3 rfl (lv_at hl 1 rfl) ?_
      refine k_get C hw 43 (by omega) h43 rfl inlX9 8 (by decide) q_159 rfl dX9_firstOf_4 ?_
      refine lv_icmp_ge (tgt := 46) C.1 C.2.1 dX9_firstOf_7 (by decide) (fun c7 => ?_) (fun c7 => ?_)
      · have q7 := (nI_leI (by omega) (by omega)).mp c7
        have q7 : i = ca := by omega
        refine lv_bipush (v := (-106)) C.1 C.2.1 dX9_firstOf_46 (by decide) ?_
        exact hret _ _ (Nat.le_of_ble_eq_true rfl) (Nat.le_of_ble_eq_true rfl) hw (⟨(fI_none (fun j hj => ha j (by omega))).symm, rfl, rfl⟩) dX9_firstOf_48
      · have q7 : ¬ ca ≤ i := fun z => c7 ((nI_leI (by omega) (by omega)).mpr z)
        refine lv_aload_n C.1 C.2.1 dX9_firstOf_10 rfl (lv_at hl 1 rfl) ?_
        refine k_get C hw 43 (by omega) h43 rfl inlX9 11 (by decide) q_130 rfl dX9_firstOf_11 ?_
        refine lv_iload_n C.1 C.2.1 dX9_firstOf_14 rfl (lv_at hl 0 rfl) ?_
        refine k_zald C hw 50 (by omega) h50 (by omega) (by first | decide | omega) dX9_firstOf_15 ?_
        refine lv_if_eq (tgt := 40) C.1 C.2.1 dX9_firstOf_16 (by decide) (fun c16 => ?_) (fun c16 => ?_)
        · refine lv_iinc (v := (nI (i + 1))) (lv' := [(2, .int (nI (i + 1))), (0, .ref (b + 43)), (1, .int t)]) C.1 C.2.1 dX9_firstOf_40 hl (k := 0) rfl (k_inc _ 1) (by decide) rfl (fun ls hl => ?_)
          refine lv_goto (tgt := 2) C.1 C.2.1 dX9_firstOf_43 (by decide) ?_
          exact ih2  (i + 1) (by omega) (by omega) (fun j hj => by rcases Nat.lt_succ_iff_lt_or_eq.mp hj with h | h; exact ha j h; rw [h]; exact by simp [c16]) ls _ _ (lv_sub hl [0, 1, 2] rfl) hw
        · refine lv_aload_n C.1 C.2.1 dX9_firstOf_19 rfl (lv_at hl 1 rfl) ?_
          refine k_get C hw 43 (by omega) h43 rfl inlX9 4 (by decide) q_123 rfl dX9_firstOf_20 ?_
          refine lv_aload_n C.1 C.2.1 dX9_firstOf_23 rfl (lv_at hl 1 rfl) ?_
          refine lv_aload_n C.1 C.2.1 dX9_firstOf_24 rfl (lv_at hl 1 rfl) ?_
          refine k_get C hw 43 (by omega) h43 rfl inlX9 9 (by decide) q_128 rfl dX9_firstOf_25 ?_
          refine lv_iload_n C.1 C.2.1 dX9_firstOf_28 rfl (lv_at hl 0 rfl) ?_
          refine k_iald C hw 48 (by omega) h48 (by omega) (by first | decide | omega) dX9_firstOf_29 ?_
          refine k_vi C hw 43 (by omega) h43 rfl (c_X9_groupOf (by omega) h43  (by omega) (by omega)) kv_X9_160 rfl hl.1 ⟨Nat.le_of_ble_eq_true rfl, Nat.le_of_ble_eq_true rfl⟩ (Nat.le_of_ble_eq_true rfl) ⟨Nat.le_of_ble_eq_true rfl, Nat.le_of_ble_eq_true rfl⟩ dX9_firstOf_30 (fun r30 M_1 n9 H locs hp hw => ?_)
          obtain ⟨er30, en9, eM9⟩ := hp
          have en9 : n9 = n := en9
          rw [en9] at hw
          have eM9 : M_1 = M := eM9
          rw [eM9] at hw
          have hgl := gof_lt hG0 (mrk i)
          subst er30
          refine k_iald C hw 44 (by omega) h44 (by omega) (by first | decide | omega) dX9_firstOf_33 ?_
          refine lv_iload_n C.1 C.2.1 dX9_firstOf_34 rfl (lv_at hl 2 rfl) ?_
          refine lv_icmp_ne (tgt := 40) C.1 C.2.1 dX9_firstOf_35 (by decide) (fun c35 => ?_) (fun c35 => ?_)
          · refine lv_iinc (v := (nI (i + 1))) (lv' := [(2, .int (nI (i + 1))), (0, .ref (b + 43)), (1, .int t)]) C.1 C.2.1 dX9_firstOf_40 hl (k := 0) rfl (k_inc _ 1) (by decide) rfl (fun ls hl => ?_)
            refine lv_goto (tgt := 2) C.1 C.2.1 dX9_firstOf_43 (by decide) ?_
            exact ih2  (i + 1) (by omega) (by omega) (fun j hj => by rcases Nat.lt_succ_iff_lt_or_eq.mp hj with h | h; exact ha j h; rw [h]; exact by simp [c35]) ls _ _ (lv_sub hl [0, 1, 2] rfl) hw
          · refine lv_iload_n C.1 C.2.1 dX9_firstOf_38 rfl (lv_at hl 0 rfl) ?_
            exact hret _ _ (Nat.le_of_ble_eq_true rfl) (Nat.le_of_ble_eq_true rfl) hw (⟨by rw [fI_at ha (by simp [c16, c35]) (by omega)], rfl, rfl⟩) dX9_firstOf_39
  exact L2 (_ + 1) (0) (Nat.lt_succ_self _) (Nat.zero_le _) (fun j hj => absurd hj (Nat.not_lt_zero j)) ls _ _ (lv_sub hl [0, 1, 2] rfl) hw

set_option maxHeartbeats 4000000 in
set_option maxRecDepth 100000 in
theorem c_X9_step {l : Launch} {D : va_G} {cI cJ cZ cH cR : ClassId} {b : Nat} {n : Nat} {M : Nat → va_E}  {G : Nat} {mo : Nat} {ta : Nat} {sl : Int32} {ca : Nat} {os : Nat} {tr : Int32} {ts : Nat} {lg : Nat} {mm : Nat} {sc : Int32} {mow : Nat → Int32} {mrk : Nat → Int32} {mrv : Nat → Int32} {mwa : Nat → Int32} {mct : Nat → Int32} {msu : Nat → Int64} {mon : Nat → Int32} {mok : Nat → Int32} {moz : Nat → Int64} {t : Int32} (hn : 56 ≤ n) (h43 : M 43 = .inr (9, [.int (nI G), .int (nI mo), .int (nI ta), .int sl, .ref (b + 44), .ref (b + 45), .ref (b + 46), .ref (b + 47), .int (nI ca), .ref (b + 48), .ref (b + 49), .ref (b + 50), .ref (b + 51), .ref (b + 52), .int (nI os), .ref (b + 53), .ref (b + 54), .ref (b + 55), .int tr, .int (nI ts), .ref (b + 56), .ref (b + 57), .int (nI lg), .ref (b + 58), .ref (b + 59), .ref (b + 60), .ref (b + 61), .int (nI mm), .int sc, .ref (b + 62), .ref (b + 63), .ref (b + 64), .ref (b + 65), .ref (b + 66), .ref (b + 67), .ref (b + 68), .ref (b + 69), .ref (b + 70), .ref (b + 71), .ref (b + 72), .ref (b + 73)])) (h44 : M 44 = .inl (cI, 32, .inl mow)) (h48 : M 48 = .inl (cI, 400, .inl mrk)) (h49 : M 49 = .inl (cI, 400, .inl mrv)) (h50 : M 50 = .inl (cZ, 400, .inl mwa)) (h51 : M 51 = .inl (cI, 100, .inl mct)) (h52 : M 52 = .inl (cJ, 100, .inr (.inl msu))) (h53 : M 53 = .inl (cI, 400, .inl mon)) (h54 : M 54 = .inl (cI, 400, .inl mok)) (h55 : M 55 = .inl (cJ, 400, .inr (.inl moz)))  (hG0 : 0 < G) (hG : G ≤ 32) (hca : ca ≤ 400) (hta0 : 0 < ta) (hta : ta ≤ 12) (hos : (fst (wtP G mow mrk mwa t) ca) < ca → os < 400) (hkk : ∀ q, q < ca → ∃ k, k < 100 ∧ mrk q = nI k) : Met l yX9_step (kw yX9_step cX9_step 4 (some .int)) ({ frames := 2, cells := 0, slots := 0, locals := 45 }) (va_Pc [.ref (b + 43), .int t] (kPre D (kT cI cJ cZ cH cR) b M n)) (va_Qi (fun (r : Int32) (u : (Nat → va_E) × Nat) => u.2 = n ∧ (((¬ isT t ta) ∧ r = -101 ∧ u.1 = M) ∨ ((isT t ta ∧ ¬ (fst (wtP G mow mrk mwa t) ca) < ca) ∧ r = -106 ∧ u.1 = M) ∨ ((isT t ta ∧ (fst (wtP G mow mrk mwa t) ca) < ca) ∧ r = mrk (fst (wtP G mow mrk mwa t) ca) ∧ kF [43, 50, 51, 52, 53, 54, 55] M u.1 ∧ u.1 43 = .inr (9, [.int (nI G), .int (nI mo), .int (nI ta), .int sl, .ref (b + 44), .ref (b + 45), .ref (b + 46), .ref (b + 47), .int (nI ca), .ref (b + 48), .ref (b + 49), .ref (b + 50), .ref (b + 51), .ref (b + 52), .int (nI (os + 1)), .ref (b + 53), .ref (b + 54), .ref (b + 55), .int tr, .int (nI ts), .ref (b + 56), .ref (b + 57), .int (nI lg), .ref (b + 58), .ref (b + 59), .ref (b + 60), .ref (b + 61), .int (nI mm), .int sc, .ref (b + 62), .ref (b + 63), .ref (b + 64), .ref (b + 65), .ref (b + 66), .ref (b + 67), .ref (b + 68), .ref (b + 69), .ref (b + 70), .ref (b + 71), .ref (b + 72), .ref (b + 73)]) ∧ u.1 50 = .inl (cZ, 400, .inl (upd mwa (fst (wtP G mow mrk mwa t) ca) (nI 0))) ∧ u.1 51 = .inl (cI, 100, .inl (upd mct (kn (mrk (fst (wtP G mow mrk mwa t) ca))) (mct (kn (mrk (fst (wtP G mow mrk mwa t) ca))) + nI 1))) ∧ u.1 52 = .inl (cJ, 100, .inr (.inl (vp_updL msu (kn (mrk (fst (wtP G mow mrk mwa t) ca))) (msu (kn (mrk (fst (wtP G mow mrk mwa t) ca))) + (mrv (fst (wtP G mow mrk mwa t) ca)).toInt64)))) ∧ u.1 53 = .inl (cI, 400, .inl (upd mon os (nI (fst (wtP G mow mrk mwa t) ca)))) ∧ u.1 54 = .inl (cI, 400, .inl (upd mok os (mrk (fst (wtP G mow mrk mwa t) ca)))) ∧ u.1 55 = .inl (cJ, 400, .inr (.inl (vp_updL moz os (msu (kn (mrk (fst (wtP G mow mrk mwa t) ca))) + (mrv (fst (wtP G mow mrk mwa t) ca)).toInt64))))))) (kB D (kT cI cJ cZ cH cR) b) (kA b)) 0 0 (kA b) := by
  refine k_metI (by decide +kernel) (Nat.le_of_ble_eq_true rfl) ?_
  intro p e s m below meth c ls Q C hw hret hnm hl
  have hl : lv_has ls 4 [(0, .ref (b + 43)), (1, .int t)] := hl
  have hFF : kF [43, 50, 51, 52, 53, 54, 55] M M := kF_rf
  refine lv_iload_n C.1 C.2.1 dX9_step_0 rfl (lv_at hl 1 rfl) ?_
  refine lv_i2l C.1 C.2.1 dX9_step_1 rfl ?_
  refine lv_lconst (v := 0) C.1 C.2.1 dX9_step_2 rfl ?_
  refine lv_aload_n C.1 C.2.1 dX9_step_3 rfl (lv_at hl 0 rfl) ?_
  refine k_get C hw 43 (by omega) h43 rfl inlX9 2 (by decide) q_172 rfl dX9_step_4 ?_
  refine lv_iconst (v := nI 1) C.1 C.2.1 dX9_step_7 (by decide) ?_
  refine lv_isub C.1 C.2.1 dX9_step_8 ?_
  refine k_topi (y := nI (ta - 1)) (pk_sub hta0) ?_
  refine lv_i2l C.1 C.2.1 dX9_step_9 rfl ?_
  refine k_si C hw (c_X9_in   ) kv_X9_147 rfl hl.1 ⟨Nat.le_of_ble_eq_true rfl, Nat.le_of_ble_eq_true rfl⟩ (Nat.le_of_ble_eq_true rfl) ⟨Nat.le_of_ble_eq_true rfl, Nat.le_of_ble_eq_true rfl⟩ dX9_step_10 (fun r10 M_1 n9 H locs hp hw => ?_)
  obtain ⟨er10, en9, eM9⟩ := hp
  have en9 : n9 = n := en9
  rw [en9] at hw
  have eM9 : M_1 = M := eM9
  rw [eM9] at hw
  refine lv_if_ne (tgt := 19) C.1 C.2.1 dX9_step_13 (by decide) (fun c13 => ?_) (fun c13 => ?_)
  · have h13_ : isT t ta := (inT hta0 (by omega)).mp (Classical.byContradiction (fun z => c13 (by rw [er10, if_neg z])))
    refine lv_aload_n C.1 C.2.1 dX9_step_19 rfl (lv_at hl 0 rfl) ?_
    refine lv_iload_n C.1 C.2.1 dX9_step_20 rfl (lv_at hl 1 rfl) ?_
    refine k_vi C hw 43 (by omega) h43 rfl (c_X9_firstOf (by omega) h43 h44 h48 h50  (by omega) (by omega) (by omega)) kv_X9_168 rfl hl.1 ⟨Nat.le_of_ble_eq_true rfl, Nat.le_of_ble_eq_true rfl⟩ (Nat.le_of_ble_eq_true rfl) ⟨Nat.le_of_ble_eq_true rfl, Nat.le_of_ble_eq_true rfl⟩ dX9_step_21 (fun r21 M_2 n9 H locs hp hw => ?_)
    obtain ⟨er21, en9, eM9⟩ := hp
    have en9 : n9 = n := en9
    rw [en9] at hw
    have eM9 : M_2 = M := eM9
    rw [eM9] at hw
    refine lv_istore_n (lv' := [(2, .int r21), (0, .ref (b + 43)), (1, .int t)]) C.1 C.2.1 dX9_step_24 rfl hl (by decide) rfl (fun ls hl => ?_)
    refine lv_iload_n C.1 C.2.1 dX9_step_25 rfl (lv_at hl 0 rfl) ?_
    refine lv_if_ge (tgt := 32) C.1 C.2.1 dX9_step_26 (by decide) (fun c26 => ?_) (fun c26 => ?_)
    · rw [er21] at c26
      have hne : ¬ fI (wtP G mow mrk mwa t) ca = -106 := fun z => by rw [z] at c26; exact absurd c26 (by decide)
      obtain ⟨hlt, hpe⟩ := fI_ne (by omega) hne
      obtain ⟨k, hk9, ek⟩ := hkk _ hlt
      have ekn : kn (mrk (fst (wtP G mow mrk mwa t) ca)) = k := by rw [ek]; exact nI_clamp (by omega)
      have er21 : r21 = nI (fst (wtP G mow mrk mwa t) ca) := er21.trans hpe
      have hos := hos hlt
      refine lv_aload_n C.1 C.2.1 dX9_step_32 rfl (lv_at hl 1 rfl) ?_
      refine k_get C hw 43 (by omega) h43 rfl inlX9 9 (by decide) q_128 rfl dX9_step_33 ?_
      refine lv_iload_n C.1 C.2.1 dX9_step_36 rfl (lv_at hl 0 rfl) ?_
      refine k_topi (y := nI (fst (wtP G mow mrk mwa t) ca)) (er21) ?_
      refine k_iald C hw 48 (by omega) h48 (by omega) (by first | decide | omega) dX9_step_37 ?_
      refine lv_topi (fun ky eky => ?_)
      refine lv_istore_n (lv' := [(3, .int ky), (2, .int r21), (0, .ref (b + 43)), (1, .int t)]) C.1 C.2.1 dX9_step_38 rfl hl (by decide) rfl (fun ls hl => ?_)
      refine lv_aload_n C.1 C.2.1 dX9_step_39 rfl (lv_at hl 2 rfl) ?_
      refine k_get C hw 43 (by omega) h43 rfl inlX9 11 (by decide) q_130 rfl dX9_step_40 ?_
      refine lv_iload_n C.1 C.2.1 dX9_step_43 rfl (lv_at hl 1 rfl) ?_
      refine k_topi (y := nI (fst (wtP G mow mrk mwa t) ca)) (er21) ?_
      refine lv_iconst (v := nI 0) C.1 C.2.1 dX9_step_44 (by decide) ?_
      refine k_zast C hw 50 (by omega) h50 (by first | exact Or.inl rfl | exact Or.inr rfl) (by omega) (by first | decide | omega) dX9_step_45 (fun M_3 H locs hw h50 hF => ?_)
      have h43 := (hF 43 (by decide)).trans h43
      have h44 := (hF 44 (by decide)).trans h44
      have h48 := (hF 48 (by decide)).trans h48
      have h49 := (hF 49 (by decide)).trans h49
      have h51 := (hF 51 (by decide)).trans h51
      have h52 := (hF 52 (by decide)).trans h52
      have h53 := (hF 53 (by decide)).trans h53
      have h54 := (hF 54 (by decide)).trans h54
      have h55 := (hF 55 (by decide)).trans h55
      have hFF := kF_st hFF hF (by first | decide | simp)
      refine lv_aload_n C.1 C.2.1 dX9_step_46 rfl (lv_at hl 2 rfl) ?_
      refine k_get C hw 43 (by omega) h43 rfl inlX9 12 (by decide) q_131 rfl dX9_step_47 ?_
      refine lv_iload_n C.1 C.2.1 dX9_step_50 rfl (lv_at hl 0 rfl) ?_
      refine k_topi (y := nI k) (eky.trans ek) ?_
      refine lv_dup2_11 C.1 C.2.1 dX9_step_51 rfl rfl ?_
      refine k_iald C hw 51 (by omega) h51 (by omega) (by first | decide | omega) dX9_step_52 ?_
      refine lv_iconst (v := nI 1) C.1 C.2.1 dX9_step_53 (by decide) ?_
      refine lv_iadd C.1 C.2.1 dX9_step_54 ?_
      refine k_iast C hw 51 (by omega) h51 (by omega) (by first | decide | omega) dX9_step_55 (fun M_4 H locs hw h51 hF => ?_)
      have h43 := (hF 43 (by decide)).trans h43
      have h44 := (hF 44 (by decide)).trans h44
      have h48 := (hF 48 (by decide)).trans h48
      have h49 := (hF 49 (by decide)).trans h49
      have h50 := (hF 50 (by decide)).trans h50
      have h52 := (hF 52 (by decide)).trans h52
      have h53 := (hF 53 (by decide)).trans h53
      have h54 := (hF 54 (by decide)).trans h54
      have h55 := (hF 55 (by decide)).trans h55
      have hFF := kF_st hFF hF (by first | decide | simp)
      refine lv_aload_n C.1 C.2.1 dX9_step_56 rfl (lv_at hl 2 rfl) ?_
      refine k_get C hw 43 (by omega) h43 rfl inlX9 13 (by decide) q_132 rfl dX9_step_57 ?_
      refine lv_iload_n C.1 C.2.1 dX9_step_60 rfl (lv_at hl 0 rfl) ?_
      refine k_topi (y := nI k) (eky.trans ek) ?_
      refine lv_dup2_11 C.1 C.2.1 dX9_step_61 rfl rfl ?_
      refine k_lald C hw 52 (by omega) h52 (by omega) (by first | decide | omega) dX9_step_62 ?_
      refine lv_aload_n C.1 C.2.1 dX9_step_63 rfl (lv_at hl 2 rfl) ?_
      refine k_get C hw 43 (by omega) h43 rfl inlX9 10 (by decide) q_129 rfl dX9_step_64 ?_
      refine lv_iload_n C.1 C.2.1 dX9_step_67 rfl (lv_at hl 1 rfl) ?_
      refine k_topi (y := nI (fst (wtP G mow mrk mwa t) ca)) (er21) ?_
      refine k_iald C hw 49 (by omega) h49 (by omega) (by first | decide | omega) dX9_step_68 ?_
      refine lv_i2l C.1 C.2.1 dX9_step_69 rfl ?_
      refine lv_ladd C.1 C.2.1 dX9_step_70 ?_
      refine k_last C hw 52 (by omega) h52 (by omega) (by first | decide | omega) dX9_step_71 (fun M_5 H locs hw h52 hF => ?_)
      have h43 := (hF 43 (by decide)).trans h43
      have h44 := (hF 44 (by decide)).trans h44
      have h48 := (hF 48 (by decide)).trans h48
      have h49 := (hF 49 (by decide)).trans h49
      have h50 := (hF 50 (by decide)).trans h50
      have h51 := (hF 51 (by decide)).trans h51
      have h53 := (hF 53 (by decide)).trans h53
      have h54 := (hF 54 (by decide)).trans h54
      have h55 := (hF 55 (by decide)).trans h55
      have hFF := kF_st hFF hF (by first | decide | simp)
      refine lv_aload_n C.1 C.2.1 dX9_step_72 rfl (lv_at hl 2 rfl) ?_
      refine k_get C hw 43 (by omega) h43 rfl inlX9 15 (by decide) q_133 rfl dX9_step_73 ?_
      refine lv_aload_n C.1 C.2.1 dX9_step_76 rfl (lv_at hl 2 rfl) ?_
      refine k_get C hw 43 (by omega) h43 rfl inlX9 14 (by decide) q_160 rfl dX9_step_77 ?_
      refine lv_iload_n C.1 C.2.1 dX9_step_80 rfl (lv_at hl 1 rfl) ?_
      refine k_topi (y := nI (fst (wtP G mow mrk mwa t) ca)) (er21) ?_
      refine k_iast C hw 53 (by omega) h53 (by omega) (by first | decide | omega) dX9_step_81 (fun M_6 H locs hw h53 hF => ?_)
      have h43 := (hF 43 (by decide)).trans h43
      have h44 := (hF 44 (by decide)).trans h44
      have h48 := (hF 48 (by decide)).trans h48
      have h49 := (hF 49 (by decide)).trans h49
      have h50 := (hF 50 (by decide)).trans h50
      have h51 := (hF 51 (by decide)).trans h51
      have h52 := (hF 52 (by decide)).trans h52
      have h54 := (hF 54 (by decide)).trans h54
      have h55 := (hF 55 (by decide)).trans h55
      have hFF := kF_st hFF hF (by first | decide | simp)
      refine lv_aload_n C.1 C.2.1 dX9_step_82 rfl (lv_at hl 2 rfl) ?_
      refine k_get C hw 43 (by omega) h43 rfl inlX9 16 (by decide) q_134 rfl dX9_step_83 ?_
      refine lv_aload_n C.1 C.2.1 dX9_step_86 rfl (lv_at hl 2 rfl) ?_
      refine k_get C hw 43 (by omega) h43 rfl inlX9 14 (by decide) q_160 rfl dX9_step_87 ?_
      refine lv_iload_n C.1 C.2.1 dX9_step_90 rfl (lv_at hl 0 rfl) ?_
      refine k_iast C hw 54 (by omega) h54 (by omega) (by first | decide | omega) dX9_step_91 (fun M_7 H locs hw h54 hF => ?_)
      have h43 := (hF 43 (by decide)).trans h43
      have h44 := (hF 44 (by decide)).trans h44
      have h48 := (hF 48 (by decide)).trans h48
      have h49 := (hF 49 (by decide)).trans h49
      have h50 := (hF 50 (by decide)).trans h50
      have h51 := (hF 51 (by decide)).trans h51
      have h52 := (hF 52 (by decide)).trans h52
      have h53 := (hF 53 (by decide)).trans h53
      have h55 := (hF 55 (by decide)).trans h55
      have hFF := kF_st hFF hF (by first | decide | simp)
      refine lv_aload_n C.1 C.2.1 dX9_step_92 rfl (lv_at hl 2 rfl) ?_
      refine k_get C hw 43 (by omega) h43 rfl inlX9 17 (by decide) q_135 rfl dX9_step_93 ?_
      refine lv_aload_n C.1 C.2.1 dX9_step_96 rfl (lv_at hl 2 rfl) ?_
      refine k_get C hw 43 (by omega) h43 rfl inlX9 14 (by decide) q_160 rfl dX9_step_97 ?_
      refine lv_aload_n C.1 C.2.1 dX9_step_100 rfl (lv_at hl 2 rfl) ?_
      refine k_get C hw 43 (by omega) h43 rfl inlX9 13 (by decide) q_132 rfl dX9_step_101 ?_
      refine lv_iload_n C.1 C.2.1 dX9_step_104 rfl (lv_at hl 0 rfl) ?_
      refine k_topi (y := nI k) (eky.trans ek) ?_
      refine k_lald C hw 52 (by omega) h52 (by omega) (by first | decide | omega) dX9_step_105 ?_
      refine k_topl (y := msu k + (mrv (fst (wtP G mow mrk mwa t) ca)).toInt64) (if_pos rfl) ?_
      refine k_last C hw 55 (by omega) h55 (by omega) (by first | decide | omega) dX9_step_106 (fun M_8 H locs hw h55 hF => ?_)
      have h43 := (hF 43 (by decide)).trans h43
      have h44 := (hF 44 (by decide)).trans h44
      have h48 := (hF 48 (by decide)).trans h48
      have h49 := (hF 49 (by decide)).trans h49
      have h50 := (hF 50 (by decide)).trans h50
      have h51 := (hF 51 (by decide)).trans h51
      have h52 := (hF 52 (by decide)).trans h52
      have h53 := (hF 53 (by decide)).trans h53
      have h54 := (hF 54 (by decide)).trans h54
      have hFF := kF_st hFF hF (by first | decide | simp)
      refine lv_aload_n C.1 C.2.1 dX9_step_107 rfl (lv_at hl 2 rfl) ?_
      refine lv_dup C.1 C.2.1 dX9_step_108 rfl ?_
      refine k_get C hw 43 (by omega) h43 rfl inlX9 14 (by decide) q_160 rfl dX9_step_109 ?_
      refine lv_iconst (v := nI 1) C.1 C.2.1 dX9_step_112 (by decide) ?_
      refine lv_iadd C.1 C.2.1 dX9_step_113 ?_
      refine k_topi (y := nI (os + 1)) (nI_add _ _) ?_
      refine k_put (tf := .int) C hw 43 (by omega) h43 rfl inlX9 tyX9 tyX9_ok nmX9 14 (by decide) q_160 rfl (by decide +kernel) rfl rfl (Nat.le_of_ble_eq_true rfl) dX9_step_114 (fun M_9 H locs hw h43 hF => ?_)
      have h43 : M_9 43 = .inr (9, [.int (nI G), .int (nI mo), .int (nI ta), .int sl, .ref (b + 44), .ref (b + 45), .ref (b + 46), .ref (b + 47), .int (nI ca), .ref (b + 48), .ref (b + 49), .ref (b + 50), .ref (b + 51), .ref (b + 52), .int (nI (os + 1)), .ref (b + 53), .ref (b + 54), .ref (b + 55), .int tr, .int (nI ts), .ref (b + 56), .ref (b + 57), .int (nI lg), .ref (b + 58), .ref (b + 59), .ref (b + 60), .ref (b + 61), .int (nI mm), .int sc, .ref (b + 62), .ref (b + 63), .ref (b + 64), .ref (b + 65), .ref (b + 66), .ref (b + 67), .ref (b + 68), .ref (b + 69), .ref (b + 70), .ref (b + 71), .ref (b + 72), .ref (b + 73)]) := h43
      have h44 := (hF 44 (by decide)).trans h44
      have h48 := (hF 48 (by decide)).trans h48
      have h49 := (hF 49 (by decide)).trans h49
      have h50 := (hF 50 (by decide)).trans h50
      have h51 := (hF 51 (by decide)).trans h51
      have h52 := (hF 52 (by decide)).trans h52
      have h53 := (hF 53 (by decide)).trans h53
      have h54 := (hF 54 (by decide)).trans h54
      have h55 := (hF 55 (by decide)).trans h55
      have hFF := kF_st hFF hF (by first | decide | simp)
      refine lv_iload_n C.1 C.2.1 dX9_step_117 rfl (lv_at hl 0 rfl) ?_
      rw [eky] at h54
      rw [← ekn] at h51 h52 h55
      exact hret _ _ (Nat.le_of_ble_eq_true rfl) (Nat.le_of_ble_eq_true rfl) hw (⟨rfl, Or.inr (Or.inr (⟨⟨h13_, hlt⟩, eky, hFF, h43, h50, h51, h52, h53, h54, h55⟩))⟩) dX9_step_118
    · rw [er21] at c26
      have hno : ¬ (fst (wtP G mow mrk mwa t) ca) < ca := fun z => c26 (by unfold fI; rw [if_pos z]; exact nI_pos' (by omega))
      refine lv_bipush (v := (-106)) C.1 C.2.1 dX9_step_29 (by decide) ?_
      exact hret _ _ (Nat.le_of_ble_eq_true rfl) (Nat.le_of_ble_eq_true rfl) hw (⟨rfl, Or.inr (Or.inl ⟨⟨h13_, hno⟩, rfl, rfl⟩)⟩) dX9_step_31
  · have h13_ : ¬ (isT t ta) := fun z => by rw [er10, if_pos ((inT hta0 (by omega)).mpr z)] at c13; exact absurd c13 (by decide)
    refine lv_bipush (v := (-101)) C.1 C.2.1 dX9_step_16 (by decide) ?_
    exact hret _ _ (Nat.le_of_ble_eq_true rfl) (Nat.le_of_ble_eq_true rfl) hw (⟨rfl, Or.inl ⟨h13_, rfl, rfl⟩⟩) dX9_step_18

set_option maxHeartbeats 4000000 in
set_option maxRecDepth 100000 in
theorem c_X9_add {l : Launch} {D : va_G} {cI cJ cZ cH cR : ClassId} {b : Nat} {n : Nat} {M : Nat → va_E}  {G : Nat} {mo : Nat} {ta : Nat} {sl : Int32} {ca : Nat} {os : Nat} {tr : Int32} {ts : Nat} {lg : Nat} {mm : Nat} {sc : Int32} {mep : Nat → Int32} {msu : Nat → Int64} {key eo v : Int32} (hn : 53 ≤ n) (h43 : M 43 = .inr (9, [.int (nI G), .int (nI mo), .int (nI ta), .int sl, .ref (b + 44), .ref (b + 45), .ref (b + 46), .ref (b + 47), .int (nI ca), .ref (b + 48), .ref (b + 49), .ref (b + 50), .ref (b + 51), .ref (b + 52), .int (nI os), .ref (b + 53), .ref (b + 54), .ref (b + 55), .int tr, .int (nI ts), .ref (b + 56), .ref (b + 57), .int (nI lg), .ref (b + 58), .ref (b + 59), .ref (b + 60), .ref (b + 61), .int (nI mm), .int sc, .ref (b + 62), .ref (b + 63), .ref (b + 64), .ref (b + 65), .ref (b + 66), .ref (b + 67), .ref (b + 68), .ref (b + 69), .ref (b + 70), .ref (b + 71), .ref (b + 72), .ref (b + 73)])) (h45 : M 45 = .inl (cI, 32, .inl mep)) (h52 : M 52 = .inl (cJ, 100, .inr (.inl msu)))  (hG0 : 0 < G) (hG : G ≤ 32) : Met l yX9_add (kw yX9_add cX9_add 4 (some .int)) ({ frames := 1, cells := 0, slots := 0, locals := 25 }) (va_Pc [.ref (b + 43), .int key, .int eo, .int v] (kPre D (kT cI cJ cZ cH cR) b M n)) (va_Qi (fun (r : Int32) (u : (Nat → va_E) × Nat) => u.2 = n ∧ (((¬ isK key) ∧ r = -101 ∧ u.1 = M) ∨ ((isK key ∧ ¬ isV v) ∧ r = -102 ∧ u.1 = M) ∨ ((isK key ∧ isV v ∧ ¬ mep (gof G key) = eo) ∧ r = -104 ∧ u.1 = M) ∨ ((isK key ∧ isV v ∧ mep (gof G key) = eo) ∧ r = 1 ∧ kF [52] M u.1 ∧ u.1 52 = .inl (cJ, 100, .inr (.inl (vp_updL msu (kn key) (msu (kn key) + v.toInt64))))))) (kB D (kT cI cJ cZ cH cR) b) (kA b)) 0 0 (kA b) := by
  refine k_metI (by decide +kernel) (Nat.le_of_ble_eq_true rfl) ?_
  intro p e s m below meth c ls Q C hw hret hnm hl
  have hl : lv_has ls 4 [(0, .ref (b + 43)), (1, .int key), (2, .int eo), (3, .int v)] := hl
  have hFF : kF [52] M M := kF_rf
  refine lv_iload_n C.1 C.2.1 dX9_add_0 rfl (lv_at hl 1 rfl) ?_
  refine k_si C hw (c_X9_noKey   ) kv_X9_156 rfl hl.1 ⟨Nat.le_of_ble_eq_true rfl, Nat.le_of_ble_eq_true rfl⟩ (Nat.le_of_ble_eq_true rfl) ⟨Nat.le_of_ble_eq_true rfl, Nat.le_of_ble_eq_true rfl⟩ dX9_add_1 (fun r1 M_1 n9 H locs hp hw => ?_)
  obtain ⟨er1, en9, eM9⟩ := hp
  have en9 : n9 = n := en9
  rw [en9] at hw
  have eM9 : M_1 = M := eM9
  rw [eM9] at hw
  refine lv_if_eq (tgt := 10) C.1 C.2.1 dX9_add_4 (by decide) (fun c4 => ?_) (fun c4 => ?_)
  · have h4_ : isK key := Classical.byContradiction (fun z => by rw [er1, if_neg z] at c4; exact absurd c4 (by decide))
    refine lv_iload_n C.1 C.2.1 dX9_add_10 rfl (lv_at hl 3 rfl) ?_
    refine lv_i2l C.1 C.2.1 dX9_add_11 rfl ?_
    refine lv_ldc2 C.1 C.2.1 C.2.2.2.1 (C.2.2.2.2.1 _ q_245) dX9_add_12 ?_
    refine lv_ldc2 C.1 C.2.1 C.2.2.2.1 (C.2.2.2.2.1 _ q_246) dX9_add_15 ?_
    refine k_si C hw (c_X9_in   ) kv_X9_147 rfl hl.1 ⟨Nat.le_of_ble_eq_true rfl, Nat.le_of_ble_eq_true rfl⟩ (Nat.le_of_ble_eq_true rfl) ⟨Nat.le_of_ble_eq_true rfl, Nat.le_of_ble_eq_true rfl⟩ dX9_add_18 (fun r18 M_2 n9 H locs hp hw => ?_)
    obtain ⟨er18, en9, eM9⟩ := hp
    have en9 : n9 = n := en9
    rw [en9] at hw
    have eM9 : M_2 = M := eM9
    rw [eM9] at hw
    refine lv_if_ne (tgt := 27) C.1 C.2.1 dX9_add_21 (by decide) (fun c21 => ?_) (fun c21 => ?_)
    · have h21_ : isV v := inV.mp (Classical.byContradiction (fun z => c21 (by rw [er18, if_neg z])))
      refine lv_aload_n C.1 C.2.1 dX9_add_27 rfl (lv_at hl 0 rfl) ?_
      refine k_get C hw 43 (by omega) h43 rfl inlX9 5 (by decide) q_124 rfl dX9_add_28 ?_
      refine lv_aload_n C.1 C.2.1 dX9_add_31 rfl (lv_at hl 0 rfl) ?_
      refine lv_iload_n C.1 C.2.1 dX9_add_32 rfl (lv_at hl 1 rfl) ?_
      refine k_vi C hw 43 (by omega) h43 rfl (c_X9_groupOf (by omega) h43  (by omega) (by omega)) kv_X9_160 rfl hl.1 ⟨Nat.le_of_ble_eq_true rfl, Nat.le_of_ble_eq_true rfl⟩ (Nat.le_of_ble_eq_true rfl) ⟨Nat.le_of_ble_eq_true rfl, Nat.le_of_ble_eq_true rfl⟩ dX9_add_33 (fun r33 M_3 n9 H locs hp hw => ?_)
      obtain ⟨er33, en9, eM9⟩ := hp
      have en9 : n9 = n := en9
      rw [en9] at hw
      have eM9 : M_3 = M := eM9
      rw [eM9] at hw
      have hgl := gof_lt hG0 key
      subst er33
      refine k_iald C hw 45 (by omega) h45 (by omega) (by first | decide | omega) dX9_add_36 ?_
      refine lv_iload_n C.1 C.2.1 dX9_add_37 rfl (lv_at hl 2 rfl) ?_
      refine lv_icmp_eq (tgt := 44) C.1 C.2.1 dX9_add_38 (by decide) (fun c38 => ?_) (fun c38 => ?_)
      · obtain ⟨k, hk9, ek, ekn⟩ := isK_nI h4_
        refine lv_aload_n C.1 C.2.1 dX9_add_44 rfl (lv_at hl 0 rfl) ?_
        refine k_get C hw 43 (by omega) h43 rfl inlX9 13 (by decide) q_132 rfl dX9_add_45 ?_
        refine lv_iload_n C.1 C.2.1 dX9_add_48 rfl (lv_at hl 1 rfl) ?_
        refine k_topi (y := nI k) (ek) ?_
        refine lv_dup2_11 C.1 C.2.1 dX9_add_49 rfl rfl ?_
        refine k_lald C hw 52 (by omega) h52 (by omega) (by first | decide | omega) dX9_add_50 ?_
        refine lv_iload_n C.1 C.2.1 dX9_add_51 rfl (lv_at hl 3 rfl) ?_
        refine lv_i2l C.1 C.2.1 dX9_add_52 rfl ?_
        refine lv_ladd C.1 C.2.1 dX9_add_53 ?_
        refine k_last C hw 52 (by omega) h52 (by omega) (by first | decide | omega) dX9_add_54 (fun M_4 H locs hw h52 hF => ?_)
        have h43 := (hF 43 (by decide)).trans h43
        have h45 := (hF 45 (by decide)).trans h45
        have hFF := kF_st hFF hF (by first | decide | simp)
        refine lv_iconst (v := nI 1) C.1 C.2.1 dX9_add_55 (by decide) ?_
        rw [← ekn] at h52
        exact hret _ _ (Nat.le_of_ble_eq_true rfl) (Nat.le_of_ble_eq_true rfl) hw (⟨rfl, Or.inr (Or.inr (Or.inr (⟨⟨h4_, h21_, c38⟩, rfl, hFF, h52⟩)))⟩) dX9_add_56
      · refine lv_bipush (v := (-104)) C.1 C.2.1 dX9_add_41 (by decide) ?_
        exact hret _ _ (Nat.le_of_ble_eq_true rfl) (Nat.le_of_ble_eq_true rfl) hw (⟨rfl, Or.inr (Or.inr (Or.inl ⟨⟨h4_, h21_, c38⟩, rfl, rfl⟩))⟩) dX9_add_43
    · have h21_ : ¬ (isV v) := fun z => by rw [er18, if_pos (inV.mpr z)] at c21; exact absurd c21 (by decide)
      refine lv_bipush (v := (-102)) C.1 C.2.1 dX9_add_24 (by decide) ?_
      exact hret _ _ (Nat.le_of_ble_eq_true rfl) (Nat.le_of_ble_eq_true rfl) hw (⟨rfl, Or.inr (Or.inl ⟨⟨h4_, h21_⟩, rfl, rfl⟩)⟩) dX9_add_26
  · have h4_ : ¬ isK key := fun z => c4 (by rw [er1, if_pos z])
    refine lv_bipush (v := (-101)) C.1 C.2.1 dX9_add_7 (by decide) ?_
    exact hret _ _ (Nat.le_of_ble_eq_true rfl) (Nat.le_of_ble_eq_true rfl) hw (⟨rfl, Or.inl ⟨h4_, rfl, rfl⟩⟩) dX9_add_9

set_option maxHeartbeats 4000000 in
set_option maxRecDepth 100000 in
theorem c_X9_planEven {l : Launch} {D : va_G} {cI cJ cZ cH cR : ClassId} {b : Nat} {n : Nat} {M : Nat → va_E}  {G : Nat} {mo : Nat} {ta : Nat} {sl : Int32} {ca : Nat} {os : Nat} {tr : Int32} {ts : Nat} {lg : Nat} {mm : Nat} {sc : Int32} {mpl : Nat → Int32} {k : Nat} (hn : 73 ≤ n) (h43 : M 43 = .inr (9, [.int (nI G), .int (nI mo), .int (nI ta), .int sl, .ref (b + 44), .ref (b + 45), .ref (b + 46), .ref (b + 47), .int (nI ca), .ref (b + 48), .ref (b + 49), .ref (b + 50), .ref (b + 51), .ref (b + 52), .int (nI os), .ref (b + 53), .ref (b + 54), .ref (b + 55), .int tr, .int (nI ts), .ref (b + 56), .ref (b + 57), .int (nI lg), .ref (b + 58), .ref (b + 59), .ref (b + 60), .ref (b + 61), .int (nI mm), .int sc, .ref (b + 62), .ref (b + 63), .ref (b + 64), .ref (b + 65), .ref (b + 66), .ref (b + 67), .ref (b + 68), .ref (b + 69), .ref (b + 70), .ref (b + 71), .ref (b + 72), .ref (b + 73)])) (h72 : M 72 = .inl (cI, 32, .inl mpl))  (hG : G ≤ 32) (hk0 : 0 < k) (hk : k ≤ 12) : Met l yX9_planEven (kw yX9_planEven cX9_planEven 4 none) ({ frames := 0, cells := 0, slots := 0, locals := 0 }) (va_Pc [.ref (b + 43), .int (nI k)] (kPre D (kT cI cJ cZ cH cR) b M n)) (va_Qv (fun (u : (Nat → va_E) × Nat) => u.2 = n ∧ kF [72] M u.1 ∧ u.1 72 = .inl (cI, 32, .inl (lay mpl (evF G k) k))) (kB D (kT cI cJ cZ cH cR) b) (kA b)) 0 0 (kA b) := by
  refine k_metV (by decide +kernel) (Nat.le_of_ble_eq_true rfl) ?_
  intro p e s m below meth c ls Q C hw hret hnm hl
  have hl : lv_has ls 4 [(0, .ref (b + 43)), (1, .int (nI k))] := hl
  have hFF : kF [72] M M := kF_rf
  refine lv_iconst (v := nI 0) C.1 C.2.1 dX9_planEven_0 (by decide) ?_
  refine lv_istore_n (lv' := [(2, .int (nI 0)), (0, .ref (b + 43)), (1, .int (nI k))]) C.1 C.2.1 dX9_planEven_1 rfl hl (by decide) rfl (fun ls hl => ?_)
  have L2 : ∀ (N2 : Nat) (i : Nat) (Mx2 : Nat → va_E), (k - i < N2) → (i ≤ k) → kF [72] M Mx2 → Mx2 43 = .inr (9, [.int (nI G), .int (nI mo), .int (nI ta), .int sl, .ref (b + 44), .ref (b + 45), .ref (b + 46), .ref (b + 47), .int (nI ca), .ref (b + 48), .ref (b + 49), .ref (b + 50), .ref (b + 51), .ref (b + 52), .int (nI os), .ref (b + 53), .ref (b + 54), .ref (b + 55), .int tr, .int (nI ts), .ref (b + 56), .ref (b + 57), .int (nI lg), .ref (b + 58), .ref (b + 59), .ref (b + 60), .ref (b + 61), .int (nI mm), .int sc, .ref (b + 62), .ref (b + 63), .ref (b + 64), .ref (b + 65), .ref (b + 66), .ref (b + 67), .ref (b + 68), .ref (b + 69), .ref (b + 70), .ref (b + 71), .ref (b + 72), .ref (b + 73)]) → Mx2 72 = .inl (cI, 32, .inl (lay mpl (evF G k) i)) → ∀ (ls : Array Slot) (H : Heap) (locs : List Loc), lv_has ls 4 [(2, .int (nI i)), (0, .ref (b + 43)), (1, .int (nI k))] → kW D b Mx2 n s.heap H locs → W p l e ({ frames := 0, cells := 0, slots := 0, locals := 0 } : Room) s m ([.ref (b + 43), .int (nI k)] : List Value).toArray below meth c H locs 0 0 Q (F0 m 2 ls []) := by
    intro N2
    induction N2 with
    | zero => intro i Mx2 hm2 hi hFF h43 h72 ls H locs hl hw; omega
    | succ N2 ih2 =>
      intro i Mx2 hm2 hi hFF h43 h72 ls H locs hl hw
      refine lv_iload_n C.1 C.2.1 dX9_planEven_2 rfl (lv_at hl 0 rfl) ?_
      refine lv_iload_n C.1 C.2.1 dX9_planEven_3 rfl (lv_at hl 2 rfl) ?_
      refine lv_icmp_ge (tgt := 49) C.1 C.2.1 dX9_planEven_4 (by decide) (fun c4 => ?_) (fun c4 => ?_)
      · have q := (nI_leI (by omega) (by omega)).mp c4
        have q : i = k := by omega
        rw [q] at h72
        exact hret _ _ (Nat.le_of_ble_eq_true rfl) (Nat.le_of_ble_eq_true rfl) hw (⟨rfl, hFF, h72⟩) dX9_planEven_49
      · have q : ¬ k ≤ i := fun y => c4 ((nI_leI (by omega) (by omega)).mpr y)
        have b1 : i * G ≤ 12 * 32 := Nat.mul_le_mul (by omega) hG
        have b2 : (i + 1) * G ≤ 12 * 32 := Nat.mul_le_mul (by omega) hG
        have b3 : evF G k (i + 1) ≤ G := evF_le hk0 (by omega)
        refine lv_iload_n C.1 C.2.1 dX9_planEven_7 rfl (lv_at hl 0 rfl) ?_
        refine lv_aload_n C.1 C.2.1 dX9_planEven_8 rfl (lv_at hl 1 rfl) ?_
        refine k_get C hw 43 (by omega) h43 rfl inlX9 0 (by decide) q_170 rfl dX9_planEven_9 ?_
        refine lv_imul C.1 C.2.1 dX9_planEven_12 ?_
        refine k_topi (y := nI (i * G)) (pk_mul _ _) ?_
        refine lv_iload_n C.1 C.2.1 dX9_planEven_13 rfl (lv_at hl 2 rfl) ?_
        refine lv_idiv C.1 C.2.1 dX9_planEven_14 (nI_ne0 hk0 (by omega)) ?_
        refine k_topi (y := nI (evF G k i)) (pk_div (by omega) hk0 (by omega)) ?_
        rw [← rng_0 (lay mpl (evF G k) i) (nI i) (evF G k i)] at h72
        refine lv_istore_n (lv' := [(3, .int (nI (evF G k i))), (2, .int (nI i)), (0, .ref (b + 43)), (1, .int (nI k))]) C.1 C.2.1 dX9_planEven_15 rfl hl (by decide) rfl (fun ls hl => ?_)
        have L16 : ∀ (N16 : Nat) (j : Nat) (Mx16 : Nat → va_E), (evF G k (i + 1) - j < N16) → (evF G k i ≤ j) → (j ≤ evF G k (i + 1)) → kF [72] M Mx16 → Mx16 43 = .inr (9, [.int (nI G), .int (nI mo), .int (nI ta), .int sl, .ref (b + 44), .ref (b + 45), .ref (b + 46), .ref (b + 47), .int (nI ca), .ref (b + 48), .ref (b + 49), .ref (b + 50), .ref (b + 51), .ref (b + 52), .int (nI os), .ref (b + 53), .ref (b + 54), .ref (b + 55), .int tr, .int (nI ts), .ref (b + 56), .ref (b + 57), .int (nI lg), .ref (b + 58), .ref (b + 59), .ref (b + 60), .ref (b + 61), .int (nI mm), .int sc, .ref (b + 62), .ref (b + 63), .ref (b + 64), .ref (b + 65), .ref (b + 66), .ref (b + 67), .ref (b + 68), .ref (b + 69), .ref (b + 70), .ref (b + 71), .ref (b + 72), .ref (b + 73)]) → Mx16 72 = .inl (cI, 32, .inl (rng (lay mpl (evF G k) i) (nI i) (evF G k i) j)) → ∀ (ls : Array Slot) (H : Heap) (locs : List Loc), lv_has ls 4 [(3, .int (nI j)), (2, .int (nI i)), (0, .ref (b + 43)), (1, .int (nI k))] → kW D b Mx16 n s.heap H locs → W p l e ({ frames := 0, cells := 0, slots := 0, locals := 0 } : Room) s m ([.ref (b + 43), .int (nI k)] : List Value).toArray below meth c H locs 0 0 Q (F0 m 16 ls []) := by
          intro N16
          induction N16 with
          | zero => intro j Mx16 hm16 hj1 hj2 hFF h43 h72 ls H locs hl hw; omega
          | succ N16 ih16 =>
            intro j Mx16 hm16 hj1 hj2 hFF h43 h72 ls H locs hl hw
            refine lv_iload_n C.1 C.2.1 dX9_planEven_16 rfl (lv_at hl 0 rfl) ?_
            refine lv_iload_n C.1 C.2.1 dX9_planEven_17 rfl (lv_at hl 1 rfl) ?_
            refine lv_iconst (v := nI 1) C.1 C.2.1 dX9_planEven_18 (by decide) ?_
            refine lv_iadd C.1 C.2.1 dX9_planEven_19 ?_
            refine k_topi (y := nI (i + 1)) (nI_add _ _) ?_
            refine lv_aload_n C.1 C.2.1 dX9_planEven_20 rfl (lv_at hl 2 rfl) ?_
            refine k_get C hw 43 (by omega) h43 rfl inlX9 0 (by decide) q_170 rfl dX9_planEven_21 ?_
            refine lv_imul C.1 C.2.1 dX9_planEven_24 ?_
            refine k_topi (y := nI ((i + 1) * G)) (pk_mul _ _) ?_
            refine lv_iload_n C.1 C.2.1 dX9_planEven_25 rfl (lv_at hl 3 rfl) ?_
            refine lv_idiv C.1 C.2.1 dX9_planEven_26 (nI_ne0 hk0 (by omega)) ?_
            refine k_topi (y := nI (evF G k (i + 1))) (pk_div (by omega) hk0 (by omega)) ?_
            refine lv_icmp_ge (tgt := 43) C.1 C.2.1 dX9_planEven_27 (by decide) (fun c27 => ?_) (fun c27 => ?_)
            · have q27 := (nI_leI (by omega) (by omega)).mp c27
              have q27 : j = evF G k (i + 1) := by omega
              refine lv_iinc (v := (nI (i + 1))) (lv' := [(2, .int (nI (i + 1))), (3, .int (nI j)), (0, .ref (b + 43)), (1, .int (nI k))]) C.1 C.2.1 dX9_planEven_43 hl (k := 1) rfl (k_inc _ 1) (by decide) rfl (fun ls hl => ?_)
              refine lv_goto (tgt := 2) C.1 C.2.1 dX9_planEven_46 (by decide) ?_
              rw [q27] at h72
              exact ih2  (i + 1) Mx16 (by omega) (by omega) hFF h43 h72  ls _ _ (lv_sub hl [0, 2, 3] rfl) hw
            · have q27 : ¬ evF G k (i + 1) ≤ j := fun y => c27 ((nI_leI (by omega) (by omega)).mpr y)
              refine lv_aload_n C.1 C.2.1 dX9_planEven_30 rfl (lv_at hl 2 rfl) ?_
              refine k_get C hw 43 (by omega) h43 rfl inlX9 39 (by decide) q_152 rfl dX9_planEven_31 ?_
              refine lv_iload_n C.1 C.2.1 dX9_planEven_34 rfl (lv_at hl 0 rfl) ?_
              refine lv_iload_n C.1 C.2.1 dX9_planEven_35 rfl (lv_at hl 1 rfl) ?_
              refine k_iast C hw 72 (by omega) h72 (by omega) (by first | decide | omega) dX9_planEven_36 (fun M_1 H locs hw h72 hF => ?_)
              have h43 := (hF 43 (by decide)).trans h43
              have hFF := kF_st hFF hF (by first | decide | simp)
              rw [rng_s hj1] at h72
              refine lv_iinc (v := (nI (j + 1))) (lv' := [(3, .int (nI (j + 1))), (2, .int (nI i)), (0, .ref (b + 43)), (1, .int (nI k))]) C.1 C.2.1 dX9_planEven_37 hl (k := 0) rfl (k_inc _ 1) (by decide) rfl (fun ls hl => ?_)
              refine lv_goto (tgt := 16) C.1 C.2.1 dX9_planEven_40 (by decide) ?_
              exact ih16  (j + 1) M_1 (by omega) (by omega) (by omega) hFF h43 h72  ls _ _ (lv_sub hl [0, 1, 2, 3] rfl) hw
        exact L16 (_ + 1) (evF G k i) Mx2 (Nat.lt_succ_self _) (Nat.le_refl _) (evF_mono G k i) hFF h43 h72  ls _ _ (lv_sub hl [0, 1, 2, 3] rfl) hw
  exact L2 (_ + 1) (0) M (Nat.lt_succ_self _) (Nat.zero_le _) hFF h43 h72  ls _ _ (lv_sub hl [0, 1, 2] rfl) hw

set_option maxHeartbeats 4000000 in
set_option maxRecDepth 100000 in
theorem c_X9_total {l : Launch} {D : va_G} {cI cJ cZ cH cR : ClassId} {b : Nat} {n : Nat} {M : Nat → va_E}  {G : Nat} {mo : Nat} {ta : Nat} {sl : Int32} {ca : Nat} {os : Nat} {tr : Int32} {ts : Nat} {lg : Nat} {mm : Nat} {sc : Int32} {mwe : Nat → Int32}  (hn : 47 ≤ n) (h43 : M 43 = .inr (9, [.int (nI G), .int (nI mo), .int (nI ta), .int sl, .ref (b + 44), .ref (b + 45), .ref (b + 46), .ref (b + 47), .int (nI ca), .ref (b + 48), .ref (b + 49), .ref (b + 50), .ref (b + 51), .ref (b + 52), .int (nI os), .ref (b + 53), .ref (b + 54), .ref (b + 55), .int tr, .int (nI ts), .ref (b + 56), .ref (b + 57), .int (nI lg), .ref (b + 58), .ref (b + 59), .ref (b + 60), .ref (b + 61), .int (nI mm), .int sc, .ref (b + 62), .ref (b + 63), .ref (b + 64), .ref (b + 65), .ref (b + 66), .ref (b + 67), .ref (b + 68), .ref (b + 69), .ref (b + 70), .ref (b + 71), .ref (b + 72), .ref (b + 73)])) (h46 : M 46 = .inl (cI, 32, .inl mwe))  (hG0 : 0 < G) (hG : G ≤ 32) : Met l yX9_total (kw yX9_total cX9_total 3 (some .int)) ({ frames := 0, cells := 0, slots := 0, locals := 0 }) (va_Pc [.ref (b + 43)] (kPre D (kT cI cJ cZ cH cR) b M n)) (va_Qi (fun (r : Int32) (u : (Nat → va_E) × Nat) => r = (sm mwe G) ∧ u.2 = n ∧ u.1 = M) (kB D (kT cI cJ cZ cH cR) b) (kA b)) 0 0 (kA b) := by
  refine k_metI (by decide +kernel) (Nat.le_of_ble_eq_true rfl) ?_
  intro p e s m below meth c ls Q C hw hret hnm hl
  have hl : lv_has ls 3 [(0, .ref (b + 43))] := hl
  refine lv_iconst (v := nI 0) C.1 C.2.1 dX9_total_0 (by decide) ?_
  refine lv_istore_n (lv' := [(1, .int (nI 0)), (0, .ref (b + 43))]) C.1 C.2.1 dX9_total_1 rfl hl (by decide) rfl (fun ls hl => ?_)
  refine lv_iconst (v := nI 0) C.1 C.2.1 dX9_total_2 (by decide) ?_
  refine lv_istore_n (lv' := [(2, .int (nI 0)), (1, .int (nI 0)), (0, .ref (b + 43))]) C.1 C.2.1 dX9_total_3 rfl hl (by decide) rfl (fun ls hl => ?_)
  have L4 : ∀ (N4 : Nat) (i : Nat) (a : Int32), (G - i < N4) → (i ≤ G) → (a = sm mwe i) → ∀ (ls : Array Slot) (H : Heap) (locs : List Loc), lv_has ls 3 [(2, .int (nI i)), (1, .int a), (0, .ref (b + 43))] → kW D b M n s.heap H locs → W p l e ({ frames := 0, cells := 0, slots := 0, locals := 0 } : Room) s m ([.ref (b + 43)] : List Value).toArray below meth c H locs 0 0 Q (F0 m 4 ls []) := by
    intro N4
    induction N4 with
    | zero => intro i a hm4 hi ha ls H locs hl hw; omega
    | succ N4 ih4 =>
      intro i a hm4 hi ha ls H locs hl hw
      refine lv_iload_n C.1 C.2.1 dX9_total_4 rfl (lv_at hl 0 rfl) ?_
      refine lv_aload_n C.1 C.2.1 dX9_total_5 rfl (lv_at hl 2 rfl) ?_
      refine k_get C hw 43 (by omega) h43 rfl inlX9 0 (by decide) q_170 rfl dX9_total_6 ?_
      refine lv_icmp_ge (tgt := 27) C.1 C.2.1 dX9_total_9 (by decide) (fun c9 => ?_) (fun c9 => ?_)
      · have q9 := (nI_leI (by omega) (by omega)).mp c9
        have q9 : i = G := by omega
        refine lv_iload_n C.1 C.2.1 dX9_total_27 rfl (lv_at hl 1 rfl) ?_
        exact hret _ _ (Nat.le_of_ble_eq_true rfl) (Nat.le_of_ble_eq_true rfl) hw (⟨by rw [ha, q9], rfl, rfl⟩) dX9_total_28
      · have q9 : ¬ G ≤ i := fun z => c9 ((nI_leI (by omega) (by omega)).mpr z)
        refine lv_iload_n C.1 C.2.1 dX9_total_12 rfl (lv_at hl 1 rfl) ?_
        refine lv_aload_n C.1 C.2.1 dX9_total_13 rfl (lv_at hl 2 rfl) ?_
        refine k_get C hw 43 (by omega) h43 rfl inlX9 6 (by decide) q_125 rfl dX9_total_14 ?_
        refine lv_iload_n C.1 C.2.1 dX9_total_17 rfl (lv_at hl 0 rfl) ?_
        refine k_iald C hw 46 (by omega) h46 (by omega) (by first | decide | omega) dX9_total_18 ?_
        refine lv_iadd C.1 C.2.1 dX9_total_19 ?_
        refine lv_topi (fun a2 ea2 => ?_)
        refine lv_istore_n (lv' := [(1, .int a2), (2, .int (nI i)), (0, .ref (b + 43))]) C.1 C.2.1 dX9_total_20 rfl hl (by decide) rfl (fun ls hl => ?_)
        refine lv_iinc (v := (nI (i + 1))) (lv' := [(2, .int (nI (i + 1))), (1, .int a2), (0, .ref (b + 43))]) C.1 C.2.1 dX9_total_21 hl (k := 1) rfl (k_inc _ 1) (by decide) rfl (fun ls hl => ?_)
        refine lv_goto (tgt := 4) C.1 C.2.1 dX9_total_24 (by decide) ?_
        exact ih4  (i + 1) (a2) (by omega) (by omega) (by rw [ea2, ha]; rfl) ls _ _ (lv_sub hl [0, 1, 2] rfl) hw
  exact L4 (_ + 1) (0) (nI 0) (Nat.lt_succ_self _) (Nat.zero_le _) (rfl) ls _ _ (lv_sub hl [0, 1, 2] rfl) hw

set_option maxHeartbeats 4000000 in
set_option maxRecDepth 100000 in
theorem c_X9_weightOf {l : Launch} {D : va_G} {cI cJ cZ cH cR : ClassId} {b : Nat} {n : Nat} {M : Nat → va_E}  {G : Nat} {mo : Nat} {ta : Nat} {sl : Int32} {ca : Nat} {os : Nat} {tr : Int32} {ts : Nat} {lg : Nat} {mm : Nat} {sc : Int32} {mwe : Nat → Int32} {a z : Nat} {w : Nat → Nat} (hn : 47 ≤ n) (h43 : M 43 = .inr (9, [.int (nI G), .int (nI mo), .int (nI ta), .int sl, .ref (b + 44), .ref (b + 45), .ref (b + 46), .ref (b + 47), .int (nI ca), .ref (b + 48), .ref (b + 49), .ref (b + 50), .ref (b + 51), .ref (b + 52), .int (nI os), .ref (b + 53), .ref (b + 54), .ref (b + 55), .int tr, .int (nI ts), .ref (b + 56), .ref (b + 57), .int (nI lg), .ref (b + 58), .ref (b + 59), .ref (b + 60), .ref (b + 61), .int (nI mm), .int sc, .ref (b + 62), .ref (b + 63), .ref (b + 64), .ref (b + 65), .ref (b + 66), .ref (b + 67), .ref (b + 68), .ref (b + 69), .ref (b + 70), .ref (b + 71), .ref (b + 72), .ref (b + 73)])) (h46 : M 46 = .inl (cI, 32, .inl mwe))  (hG0 : 0 < G) (hG : G ≤ 32) (hw9 : ∀ g, g < G → mwe g = nI (w g)) (hsum : sN w G ≤ 1000) (hz : a + z ≤ G) : Met l yX9_weightOf (kw yX9_weightOf cX9_weightOf 5 (some .int)) ({ frames := 0, cells := 0, slots := 0, locals := 0 }) (va_Pc [.ref (b + 43), .int (nI a), .int (nI (a + z))] (kPre D (kT cI cJ cZ cH cR) b M n)) (va_Qi (fun (r : Int32) (u : (Nat → va_E) × Nat) => r = (nI (sN (fun j => w (a + j)) z)) ∧ u.2 = n ∧ u.1 = M) (kB D (kT cI cJ cZ cH cR) b) (kA b)) 0 0 (kA b) := by
  refine k_metI (by decide +kernel) (Nat.le_of_ble_eq_true rfl) ?_
  intro p e s m below meth c ls Q C hw hret hnm hl
  have hl : lv_has ls 5 [(0, .ref (b + 43)), (1, .int (nI a)), (2, .int (nI (a + z)))] := hl
  refine lv_iconst (v := nI 0) C.1 C.2.1 dX9_weightOf_0 (by decide) ?_
  refine lv_istore_n (lv' := [(3, .int (nI 0)), (0, .ref (b + 43)), (1, .int (nI a)), (2, .int (nI (a + z)))]) C.1 C.2.1 dX9_weightOf_1 rfl hl (by decide) rfl (fun ls hl => ?_)
  refine lv_iload_n C.1 C.2.1 dX9_weightOf_2 rfl (lv_at hl 2 rfl) ?_
  refine lv_istore (lv' := [(4, .int (nI a)), (3, .int (nI 0)), (0, .ref (b + 43)), (1, .int (nI a)), (2, .int (nI (a + z)))]) C.1 C.2.1 dX9_weightOf_3 hl (by decide) rfl (fun ls hl => ?_)
  have L5 : ∀ (N5 : Nat) (k : Nat), (z - k < N5) → (k ≤ z) → ∀ (ls : Array Slot) (H : Heap) (locs : List Loc), lv_has ls 5 [(4, .int (nI (a + k))), (3, .int (nI (sN (fun j => w (a + j)) k))), (0, .ref (b + 43)), (1, .int (nI a)), (2, .int (nI (a + z)))] → kW D b M n s.heap H locs → W p l e ({ frames := 0, cells := 0, slots := 0, locals := 0 } : Room) s m ([.ref (b + 43), .int (nI a), .int (nI (a + z))] : List Value).toArray below meth c H locs 0 0 Q (F0 m 5 ls []) := by
    intro N5
    induction N5 with
    | zero => intro k hm5 hk ls H locs hl hw; omega
    | succ N5 ih5 =>
      intro k hm5 hk ls H locs hl hw
      refine lv_iload C.1 C.2.1 dX9_weightOf_5 (lv_at hl 0 rfl) ?_
      refine lv_iload_n C.1 C.2.1 dX9_weightOf_7 rfl (lv_at hl 4 rfl) ?_
      refine lv_icmp_ge (tgt := 27) C.1 C.2.1 dX9_weightOf_8 (by decide) (fun c8 => ?_) (fun c8 => ?_)
      · have q := (nI_leI (by omega) (by omega)).mp c8
        have q : k = z := by omega
        refine lv_iload_n C.1 C.2.1 dX9_weightOf_27 rfl (lv_at hl 1 rfl) ?_
        exact hret _ _ (Nat.le_of_ble_eq_true rfl) (Nat.le_of_ble_eq_true rfl) hw (⟨by rw [q], rfl, rfl⟩) dX9_weightOf_28
      · have q : ¬ a + z ≤ a + k := fun y => c8 ((nI_leI (by omega) (by omega)).mpr y)
        refine lv_iload_n C.1 C.2.1 dX9_weightOf_11 rfl (lv_at hl 1 rfl) ?_
        refine lv_aload_n C.1 C.2.1 dX9_weightOf_12 rfl (lv_at hl 2 rfl) ?_
        refine k_get C hw 43 (by omega) h43 rfl inlX9 6 (by decide) q_125 rfl dX9_weightOf_13 ?_
        refine lv_iload C.1 C.2.1 dX9_weightOf_16 (lv_at hl 0 rfl) ?_
        refine k_iald C hw 46 (by omega) h46 (by omega) (by first | decide | omega) dX9_weightOf_18 ?_
        refine lv_iadd C.1 C.2.1 dX9_weightOf_19 ?_
        refine k_topi (y := nI (sN (fun j => w (a + j)) (k + 1))) (by rw [hw9 _ (by omega), nI_add]; rfl) ?_
        refine lv_istore_n (lv' := [(3, .int (nI (sN (fun j => w (a + j)) (k + 1)))), (4, .int (nI (a + k))), (0, .ref (b + 43)), (1, .int (nI a)), (2, .int (nI (a + z)))]) C.1 C.2.1 dX9_weightOf_20 rfl hl (by decide) rfl (fun ls hl => ?_)
        refine lv_iinc (v := (nI ((a + k) + 1))) (lv' := [(4, .int (nI ((a + k) + 1))), (3, .int (nI (sN (fun j => w (a + j)) (k + 1)))), (0, .ref (b + 43)), (1, .int (nI a)), (2, .int (nI (a + z)))]) C.1 C.2.1 dX9_weightOf_21 hl (k := 1) rfl (k_inc _ 1) (by decide) rfl (fun ls hl => ?_)
        refine lv_goto (tgt := 5) C.1 C.2.1 dX9_weightOf_24 (by decide) ?_
        exact ih5  (k + 1) (by omega) (by omega) ls _ _ (lv_sub hl [0, 1, 2, 3, 4] rfl) hw
  exact L5 (_ + 1) (0) (Nat.lt_succ_self _) (Nat.zero_le _) ls _ _ (lv_sub hl [0, 1, 2, 3, 4] rfl) hw

set_option maxHeartbeats 4000000 in
set_option maxRecDepth 100000 in
theorem c_X9_movedOf {l : Launch} {D : va_G} {cI cJ cZ cH cR : ClassId} {b : Nat} {n : Nat} {M : Nat → va_E}  {G : Nat} {mo : Nat} {ta : Nat} {sl : Int32} {ca : Nat} {os : Nat} {tr : Int32} {ts : Nat} {lg : Nat} {mm : Nat} {sc : Int32} {mow : Nat → Int32} {mwe : Nat → Int32} {t a z : Nat} {w : Nat → Nat} (hn : 47 ≤ n) (h43 : M 43 = .inr (9, [.int (nI G), .int (nI mo), .int (nI ta), .int sl, .ref (b + 44), .ref (b + 45), .ref (b + 46), .ref (b + 47), .int (nI ca), .ref (b + 48), .ref (b + 49), .ref (b + 50), .ref (b + 51), .ref (b + 52), .int (nI os), .ref (b + 53), .ref (b + 54), .ref (b + 55), .int tr, .int (nI ts), .ref (b + 56), .ref (b + 57), .int (nI lg), .ref (b + 58), .ref (b + 59), .ref (b + 60), .ref (b + 61), .int (nI mm), .int sc, .ref (b + 62), .ref (b + 63), .ref (b + 64), .ref (b + 65), .ref (b + 66), .ref (b + 67), .ref (b + 68), .ref (b + 69), .ref (b + 70), .ref (b + 71), .ref (b + 72), .ref (b + 73)])) (h44 : M 44 = .inl (cI, 32, .inl mow)) (h46 : M 46 = .inl (cI, 32, .inl mwe))  (hG0 : 0 < G) (hG : G ≤ 32) (hw9 : ∀ g, g < G → mwe g = nI (w g)) (hsum : sN w G ≤ 1000) (hz : a + z ≤ G) : Met l yX9_movedOf (kw yX9_movedOf cX9_movedOf 7 (some .long)) ({ frames := 0, cells := 0, slots := 0, locals := 0 }) (va_Pc [.ref (b + 43), .int (nI t), .int (nI a), .int (nI (a + z))] (kPre D (kT cI cJ cZ cH cR) b M n)) (va_Ql (fun (r : Int64) (u : (Nat → va_E) × Nat) => r = (lN (sN (fun j => cg w mow t (a + j)) z)) ∧ u.2 = n ∧ u.1 = M) (kB D (kT cI cJ cZ cH cR) b) (kA b)) 0 0 (kA b) := by
  refine k_metL (by decide +kernel) (Nat.le_of_ble_eq_true rfl) ?_
  intro p e s m below meth c ls Q C hw hret hnm hl
  have hl : lv_has ls 7 [(0, .ref (b + 43)), (1, .int (nI t)), (2, .int (nI a)), (3, .int (nI (a + z)))] := hl
  have hws : ∀ k, a + k ≤ G → sN (fun j => w (a + j)) k ≤ 1000 := fun k hk => by have e1 := sN_split w a k; have e2 := sN_mono w hk; omega
  have hcs : ∀ k, a + k ≤ G → sN (fun j => cg w mow t (a + j)) k ≤ 1032 := fun k hk => by have e1 := sN_le (f := fun j => cg w mow t (a + j)) (g := fun j => w (a + j) + 1) (fun j => cg_le w mow t (a + j)) k; have e2 := sN_p1 (fun j => w (a + j)) k; have e3 := hws k hk; omega
  refine lv_lconst (v := 0) C.1 C.2.1 dX9_movedOf_0 rfl ?_
  refine lv_lstore (lv' := [(4, .long (0)), (0, .ref (b + 43)), (1, .int (nI t)), (2, .int (nI a)), (3, .int (nI (a + z)))]) C.1 C.2.1 dX9_movedOf_1 hl (by decide) rfl (fun ls hl => ?_)
  refine lv_iload_n C.1 C.2.1 dX9_movedOf_3 rfl (lv_at hl 3 rfl) ?_
  refine lv_istore (lv' := [(6, .int (nI a)), (4, .long (0)), (0, .ref (b + 43)), (1, .int (nI t)), (2, .int (nI a)), (3, .int (nI (a + z)))]) C.1 C.2.1 dX9_movedOf_4 hl (by decide) rfl (fun ls hl => ?_)
  have L6 : ∀ (N6 : Nat) (k : Nat), (z - k < N6) → (k ≤ z) → ∀ (ls : Array Slot) (H : Heap) (locs : List Loc), lv_has ls 7 [(6, .int (nI (a + k))), (4, .long (lN (sN (fun j => cg w mow t (a + j)) k))), (0, .ref (b + 43)), (1, .int (nI t)), (2, .int (nI a)), (3, .int (nI (a + z)))] → kW D b M n s.heap H locs → W p l e ({ frames := 0, cells := 0, slots := 0, locals := 0 } : Room) s m ([.ref (b + 43), .int (nI t), .int (nI a), .int (nI (a + z))] : List Value).toArray below meth c H locs 0 0 Q (F0 m 6 ls []) := by
    intro N6
    induction N6 with
    | zero => intro k hm6 hk ls H locs hl hw; omega
    | succ N6 ih6 =>
      intro k hm6 hk ls H locs hl hw
      refine lv_iload C.1 C.2.1 dX9_movedOf_6 (lv_at hl 0 rfl) ?_
      refine lv_iload_n C.1 C.2.1 dX9_movedOf_8 rfl (lv_at hl 5 rfl) ?_
      refine lv_icmp_ge (tgt := 48) C.1 C.2.1 dX9_movedOf_9 (by decide) (fun c9 => ?_) (fun c9 => ?_)
      · have q := (nI_leI (by omega) (by omega)).mp c9
        have q : k = z := by omega
        refine lv_lload C.1 C.2.1 dX9_movedOf_48 (lv_at hl 1 rfl) ?_
        exact hret _ _ (Nat.le_of_ble_eq_true rfl) (Nat.le_of_ble_eq_true rfl) hw (⟨by rw [q], rfl, rfl⟩) dX9_movedOf_50
      · have q : ¬ a + z ≤ a + k := fun y => c9 ((nI_leI (by omega) (by omega)).mpr y)
        have b0 := sN_mono w (show a + k + 1 ≤ G by omega)
        rw [sN_s] at b0
        refine lv_lload C.1 C.2.1 dX9_movedOf_12 (lv_at hl 1 rfl) ?_
        refine lv_aload_n C.1 C.2.1 dX9_movedOf_14 rfl (lv_at hl 2 rfl) ?_
        refine k_get C hw 43 (by omega) h43 rfl inlX9 4 (by decide) q_123 rfl dX9_movedOf_15 ?_
        refine lv_iload C.1 C.2.1 dX9_movedOf_18 (lv_at hl 0 rfl) ?_
        refine k_iald C hw 44 (by omega) h44 (by omega) (by first | decide | omega) dX9_movedOf_20 ?_
        refine lv_iload_n C.1 C.2.1 dX9_movedOf_21 rfl (lv_at hl 3 rfl) ?_
        refine lv_icmp_ne (tgt := 29) C.1 C.2.1 dX9_movedOf_22 (by decide) (fun c22 => ?_) (fun c22 => ?_)
        · refine lv_aload_n C.1 C.2.1 dX9_movedOf_29 rfl (lv_at hl 2 rfl) ?_
          refine k_get C hw 43 (by omega) h43 rfl inlX9 6 (by decide) q_125 rfl dX9_movedOf_30 ?_
          refine lv_iload C.1 C.2.1 dX9_movedOf_33 (lv_at hl 0 rfl) ?_
          refine k_iald C hw 46 (by omega) h46 (by omega) (by first | decide | omega) dX9_movedOf_35 ?_
          refine lv_iconst (v := nI 1) C.1 C.2.1 dX9_movedOf_36 (by decide) ?_
          refine lv_iadd C.1 C.2.1 dX9_movedOf_37 ?_
          refine lv_i2l C.1 C.2.1 dX9_movedOf_38 rfl ?_
          refine k_topl (y := lN (w (a + k) + 1)) (by rw [hw9 _ (by omega), nI_add]; exact nI_l (by omega)) ?_
          refine lv_ladd C.1 C.2.1 dX9_movedOf_39 ?_
          refine k_topl (y := lN (sN (fun j => cg w mow t (a + j)) (k + 1))) (by rw [lN_add, sN_s]; congr 2; unfold cg; rw [if_neg c22]) ?_
          refine lv_lstore (lv' := [(4, .long (lN (sN (fun j => cg w mow t (a + j)) (k + 1)))), (6, .int (nI (a + k))), (0, .ref (b + 43)), (1, .int (nI t)), (2, .int (nI a)), (3, .int (nI (a + z)))]) C.1 C.2.1 dX9_movedOf_40 hl (by decide) rfl (fun ls hl => ?_)
          refine lv_iinc (v := (nI ((a + k) + 1))) (lv' := [(6, .int (nI ((a + k) + 1))), (4, .long (lN (sN (fun j => cg w mow t (a + j)) (k + 1)))), (0, .ref (b + 43)), (1, .int (nI t)), (2, .int (nI a)), (3, .int (nI (a + z)))]) C.1 C.2.1 dX9_movedOf_42 hl (k := 1) rfl (k_inc _ 1) (by decide) rfl (fun ls hl => ?_)
          refine lv_goto (tgt := 6) C.1 C.2.1 dX9_movedOf_45 (by decide) ?_
          exact ih6  (k + 1) (by omega) (by omega) ls _ _ (lv_sub hl [0, 1, 2, 3, 4, 5] rfl) hw
        · refine lv_lconst (v := 0) C.1 C.2.1 dX9_movedOf_25 rfl ?_
          refine lv_goto (tgt := 39) C.1 C.2.1 dX9_movedOf_26 (by decide) ?_
          refine lv_ladd C.1 C.2.1 dX9_movedOf_39 ?_
          refine k_topl (y := lN (sN (fun j => cg w mow t (a + j)) (k + 1))) (by rw [sN_s]; unfold cg; rw [if_pos c22]; exact lN_add _ 0) ?_
          refine lv_lstore (lv' := [(4, .long (lN (sN (fun j => cg w mow t (a + j)) (k + 1)))), (6, .int (nI (a + k))), (0, .ref (b + 43)), (1, .int (nI t)), (2, .int (nI a)), (3, .int (nI (a + z)))]) C.1 C.2.1 dX9_movedOf_40 hl (by decide) rfl (fun ls hl => ?_)
          refine lv_iinc (v := (nI ((a + k) + 1))) (lv' := [(6, .int (nI ((a + k) + 1))), (4, .long (lN (sN (fun j => cg w mow t (a + j)) (k + 1)))), (0, .ref (b + 43)), (1, .int (nI t)), (2, .int (nI a)), (3, .int (nI (a + z)))]) C.1 C.2.1 dX9_movedOf_42 hl (k := 1) rfl (k_inc _ 1) (by decide) rfl (fun ls hl => ?_)
          refine lv_goto (tgt := 6) C.1 C.2.1 dX9_movedOf_45 (by decide) ?_
          exact ih6  (k + 1) (by omega) (by omega) ls _ _ (lv_sub hl [0, 1, 2, 3, 4, 5] rfl) hw
  exact L6 (_ + 1) (0) (Nat.lt_succ_self _) (Nat.zero_le _) ls _ _ (lv_sub hl [0, 1, 2, 3, 4, 5] rfl) hw

set_option maxHeartbeats 4000000 in
set_option maxRecDepth 100000 in
theorem c_X9_limit {l : Launch} {D : va_G} {cI cJ cZ cH cR : ClassId} {b : Nat} {n : Nat} {M : Nat → va_E}  {G : Nat} {mo : Nat} {ta : Nat} {sl : Int32} {ca : Nat} {os : Nat} {tr : Int32} {ts : Nat} {lg : Nat} {mm : Nat} {sc : Int32} {mwe : Nat → Int32} {k s_ : Nat} {w : Nat → Nat} (hn : 47 ≤ n) (h43 : M 43 = .inr (9, [.int (nI G), .int (nI mo), .int (nI ta), .int sl, .ref (b + 44), .ref (b + 45), .ref (b + 46), .ref (b + 47), .int (nI ca), .ref (b + 48), .ref (b + 49), .ref (b + 50), .ref (b + 51), .ref (b + 52), .int (nI os), .ref (b + 53), .ref (b + 54), .ref (b + 55), .int tr, .int (nI ts), .ref (b + 56), .ref (b + 57), .int (nI lg), .ref (b + 58), .ref (b + 59), .ref (b + 60), .ref (b + 61), .int (nI mm), .int sc, .ref (b + 62), .ref (b + 63), .ref (b + 64), .ref (b + 65), .ref (b + 66), .ref (b + 67), .ref (b + 68), .ref (b + 69), .ref (b + 70), .ref (b + 71), .ref (b + 72), .ref (b + 73)])) (h46 : M 46 = .inl (cI, 32, .inl mwe))  (hG0 : 0 < G) (hG : G ≤ 32) (hw9 : ∀ g, g < G → mwe g = nI (w g)) (hsum : sN w G ≤ 1000) (hs_ : s_ ≤ 100) (hsl : sl = nI s_) (hk0 : 0 < k) (hk : k ≤ 12) : Met l yX9_limit (kw yX9_limit cX9_limit 3 (some .int)) ({ frames := 1, cells := 0, slots := 0, locals := 22 }) (va_Pc [.ref (b + 43), .int (nI k)] (kPre D (kT cI cJ cZ cH cR) b M n)) (va_Qi (fun (r : Int32) (u : (Nat → va_E) × Nat) => r = (nI (lmN (sN w G) s_ k)) ∧ u.2 = n ∧ u.1 = M) (kB D (kT cI cJ cZ cH cR) b) (kA b)) 0 0 (kA b) := by
  refine k_metI (by decide +kernel) (Nat.le_of_ble_eq_true rfl) ?_
  intro p e s m below meth c ls Q C hw hret hnm hl
  have hl : lv_has ls 3 [(0, .ref (b + 43)), (1, .int (nI k))] := hl
  refine lv_bipush (v := nI 100) C.1 C.2.1 dX9_limit_0 (by decide) ?_
  refine lv_iload_n C.1 C.2.1 dX9_limit_2 rfl (lv_at hl 1 rfl) ?_
  refine lv_imul C.1 C.2.1 dX9_limit_3 ?_
  refine lv_topi (fun dv edv => ?_)
  refine lv_istore_n (lv' := [(2, .int dv), (0, .ref (b + 43)), (1, .int (nI k))]) C.1 C.2.1 dX9_limit_4 rfl hl (by decide) rfl (fun ls hl => ?_)
  refine lv_aload_n C.1 C.2.1 dX9_limit_5 rfl (lv_at hl 1 rfl) ?_
  refine k_vi C hw 43 (by omega) h43 rfl (c_X9_total (by omega) h43 h46  (by omega) (by omega)) kv_X9_171 rfl hl.1 ⟨Nat.le_of_ble_eq_true rfl, Nat.le_of_ble_eq_true rfl⟩ (Nat.le_of_ble_eq_true rfl) ⟨Nat.le_of_ble_eq_true rfl, Nat.le_of_ble_eq_true rfl⟩ dX9_limit_6 (fun r6 M_1 n9 H locs hp hw => ?_)
  obtain ⟨er6, en9, eM9⟩ := hp
  have en9 : n9 = n := en9
  rw [en9] at hw
  have eM9 : M_1 = M := eM9
  rw [eM9] at hw
  refine lv_bipush (v := nI 100) C.1 C.2.1 dX9_limit_9 (by decide) ?_
  refine lv_aload_n C.1 C.2.1 dX9_limit_11 rfl (lv_at hl 1 rfl) ?_
  refine k_get C hw 43 (by omega) h43 rfl inlX9 3 (by decide) q_158 rfl dX9_limit_12 ?_
  refine lv_iadd C.1 C.2.1 dX9_limit_15 ?_
  refine lv_imul C.1 C.2.1 dX9_limit_16 ?_
  refine lv_iload_n C.1 C.2.1 dX9_limit_17 rfl (lv_at hl 0 rfl) ?_
  refine lv_iadd C.1 C.2.1 dX9_limit_18 ?_
  refine lv_iconst (v := nI 1) C.1 C.2.1 dX9_limit_19 (by decide) ?_
  refine lv_isub C.1 C.2.1 dX9_limit_20 ?_
  refine lv_iload_n C.1 C.2.1 dX9_limit_21 rfl (lv_at hl 0 rfl) ?_
  refine lv_idiv C.1 C.2.1 dX9_limit_22 (by rw [edv]; exact nI_ne100 hk0 (by omega)) ?_
  exact hret _ _ (Nat.le_of_ble_eq_true rfl) (Nat.le_of_ble_eq_true rfl) hw (⟨by rw [er6, sm_sN hw9, hsl, edv]; exact lmt_nI hsum hs_ hk0 hk, rfl, rfl⟩) dX9_limit_23
