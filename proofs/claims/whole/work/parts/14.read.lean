theorem kv_X8_77 : kSt RX8 77 yX8_isKey cX8_isKey 1 (some .boolean) 1 := ⟨q_206, q_207, q_2, q_208, by decide +kernel⟩
theorem kv_X8_81 : kV RX8 RX3 81 yX3_groupOf cX3_groupOf 4 (some .int) 1 := ⟨q_209, q_210, q_211, q_14, q_212, by decide +kernel⟩
theorem kv_X8_98 : kV RX8 RX8 98 yX8_isTask cX8_isTask 2 (some .boolean) 1 := ⟨q_257, q_258, q_259, q_2, q_260, by decide +kernel⟩
theorem kv_X8_101 : kV RX8 RX8 101 yX8_firstInLine cX8_firstInLine 3 (some .int) 1 := ⟨q_262, q_263, q_264, q_2, q_265, by decide +kernel⟩
theorem kv_X8_163 : kV RX8 RX8 163 yX8_waitingOfGroup cX8_waitingOfGroup 4 (some .int) 1 := ⟨q_411, q_412, q_413, q_2, q_414, by decide +kernel⟩
theorem kv_X8_166 : kV RX8 RX3 166 yX3_firstOf cX3_firstOf 3 (some .int) 1 := ⟨q_427, q_428, q_429, q_14, q_430, by decide +kernel⟩
theorem kv_X8_169 : kV RX8 RX3 169 yX3_countOf cX3_countOf 4 (some .int) 1 := ⟨q_431, q_432, q_433, q_14, q_434, by decide +kernel⟩
theorem kv_X8_172 : kV RX8 RX3 172 yX3_weightOf cX3_weightOf 4 (some .int) 1 := ⟨q_435, q_436, q_437, q_14, q_438, by decide +kernel⟩
theorem kv_X8_175 : kV RX8 RX8 175 yX8_lengthOfLine cX8_lengthOfLine 4 (some .int) 1 := ⟨q_439, q_440, q_441, q_2, q_442, by decide +kernel⟩
theorem kv_X8_178 : kV RX8 RX8 178 yX8_firstNumberInLine cX8_firstNumberInLine 3 (some .int) 1 := ⟨q_443, q_444, q_445, q_2, q_446, by decide +kernel⟩
theorem kv_X8_181 : kV RX8 RX3 181 yX3_totalWeight cX3_totalWeight 3 (some .int) 0 := ⟨q_471, q_323, q_324, q_14, q_325, by decide +kernel⟩
theorem kv_X8_248 : kV RX8 RX8 248 yX8_waitsFor cX8_waitsFor 3 (some .boolean) 2 := ⟨q_267, q_268, q_269, q_2, q_270, by decide +kernel⟩
set_option maxHeartbeats 4000000 in
set_option maxRecDepth 100000 in
theorem c_X8_isKey {l : Launch} {D : va_G} {cI cJ cZ cH cR : ClassId} {b : Nat} {n : Nat} {M : Nat → va_E}   {key : Int32}     : Met l yX8_isKey (kw yX8_isKey cX8_isKey 1 (some .boolean)) ({ frames := 0, cells := 0, slots := 0, locals := 0 }) (va_Pc [.int key] (kPre D (kT cI cJ cZ cH cR) b M n)) (va_Qi (fun (r : Int32) (u : (Nat → va_E) × Nat) => r = (if isK key then 1 else 0) ∧ u.2 = n ∧ u.1 = M) (kB D (kT cI cJ cZ cH cR) b) (kA b)) 0 0 (kA b) := by
  refine k_metZ (by decide +kernel) (Nat.le_of_ble_eq_true rfl) ?_
  intro p e s m below meth c ls Q C hw hret hnm hl
  have hl : lv_has ls 1 [(0, .int key)] := hl
  refine lv_iload_n C.1 C.2.1 dX8_isKey_0 rfl (lv_at hl 0 rfl) ?_
  refine lv_if_lt (tgt := 14) C.1 C.2.1 dX8_isKey_1 (by decide) (fun c1 => ?_) (fun c1 => ?_)
  · refine lv_iconst (v := nI 0) C.1 C.2.1 dX8_isKey_14 (by decide) ?_
    exact hret _ _ (Nat.le_of_ble_eq_true rfl) (Nat.le_of_ble_eq_true rfl) hw (by first | exact Or.inl rfl | exact Or.inr rfl) (⟨by rw [if_neg (fun h => h.1 c1)]; rfl, rfl, rfl⟩) dX8_isKey_15
  · refine lv_iload_n C.1 C.2.1 dX8_isKey_4 rfl (lv_at hl 0 rfl) ?_
    refine lv_bipush (v := nI 100) C.1 C.2.1 dX8_isKey_5 (by decide) ?_
    refine lv_icmp_ge (tgt := 14) C.1 C.2.1 dX8_isKey_7 (by decide) (fun c7 => ?_) (fun c7 => ?_)
    · refine lv_iconst (v := nI 0) C.1 C.2.1 dX8_isKey_14 (by decide) ?_
      exact hret _ _ (Nat.le_of_ble_eq_true rfl) (Nat.le_of_ble_eq_true rfl) hw (by first | exact Or.inl rfl | exact Or.inr rfl) (⟨by rw [if_neg (fun h => h.2 c7)]; rfl, rfl, rfl⟩) dX8_isKey_15
    · refine lv_iconst (v := nI 1) C.1 C.2.1 dX8_isKey_10 (by decide) ?_
      refine lv_goto (tgt := 15) C.1 C.2.1 dX8_isKey_11 (by decide) ?_
      exact hret _ _ (Nat.le_of_ble_eq_true rfl) (Nat.le_of_ble_eq_true rfl) hw (by first | exact Or.inl rfl | exact Or.inr rfl) (⟨by rw [if_pos ⟨c1, c7⟩]; rfl, rfl, rfl⟩) dX8_isKey_15

set_option maxHeartbeats 4000000 in
set_option maxRecDepth 100000 in
theorem c_X8_isValue {l : Launch} {D : va_G} {cI cJ cZ cH cR : ClassId} {b : Nat} {n : Nat} {M : Nat → va_E}   {v : Int32}     : Met l yX8_isValue (kw yX8_isValue cX8_isValue 1 (some .boolean)) ({ frames := 0, cells := 0, slots := 0, locals := 0 }) (va_Pc [.int v] (kPre D (kT cI cJ cZ cH cR) b M n)) (va_Qi (fun (r : Int32) (u : (Nat → va_E) × Nat) => r = (if isV v then 1 else 0) ∧ u.2 = n ∧ u.1 = M) (kB D (kT cI cJ cZ cH cR) b) (kA b)) 0 0 (kA b) := by
  refine k_metZ (by decide +kernel) (Nat.le_of_ble_eq_true rfl) ?_
  intro p e s m below meth c ls Q C hw hret hnm hl
  have hl : lv_has ls 1 [(0, .int v)] := hl
  refine lv_iload_n C.1 C.2.1 dX8_isValue_0 rfl (lv_at hl 0 rfl) ?_
  refine lv_sipush (v := (-1000)) C.1 C.2.1 dX8_isValue_1 (by decide) ?_
  refine lv_icmp_lt (tgt := 18) C.1 C.2.1 dX8_isValue_4 (by decide) (fun c4 => ?_) (fun c4 => ?_)
  · refine lv_iconst (v := nI 0) C.1 C.2.1 dX8_isValue_18 (by decide) ?_
    exact hret _ _ (Nat.le_of_ble_eq_true rfl) (Nat.le_of_ble_eq_true rfl) hw (by first | exact Or.inl rfl | exact Or.inr rfl) (⟨by rw [if_neg (fun h => h.1 c4)]; rfl, rfl, rfl⟩) dX8_isValue_19
  · refine lv_iload_n C.1 C.2.1 dX8_isValue_7 rfl (lv_at hl 0 rfl) ?_
    refine lv_sipush (v := nI 1000) C.1 C.2.1 dX8_isValue_8 (by decide) ?_
    refine lv_icmp_gt (tgt := 18) C.1 C.2.1 dX8_isValue_11 (by decide) (fun c11 => ?_) (fun c11 => ?_)
    · refine lv_iconst (v := nI 0) C.1 C.2.1 dX8_isValue_18 (by decide) ?_
      exact hret _ _ (Nat.le_of_ble_eq_true rfl) (Nat.le_of_ble_eq_true rfl) hw (by first | exact Or.inl rfl | exact Or.inr rfl) (⟨by rw [if_neg (fun h => h.2 c11)]; rfl, rfl, rfl⟩) dX8_isValue_19
    · refine lv_iconst (v := nI 1) C.1 C.2.1 dX8_isValue_14 (by decide) ?_
      refine lv_goto (tgt := 19) C.1 C.2.1 dX8_isValue_15 (by decide) ?_
      exact hret _ _ (Nat.le_of_ble_eq_true rfl) (Nat.le_of_ble_eq_true rfl) hw (by first | exact Or.inl rfl | exact Or.inr rfl) (⟨by rw [if_pos ⟨c4, c11⟩]; rfl, rfl, rfl⟩) dX8_isValue_19

set_option maxHeartbeats 4000000 in
set_option maxRecDepth 100000 in
theorem c_X8_isTask {l : Launch} {D : va_G} {cI cJ cZ cH cR : ClassId} {b : Nat} {n : Nat} {M : Nat → va_E}  {mm : Nat} {sl : Int32} {G : Nat} {mo : Nat} {ta : Nat} {sc : Int32} {mv : Nat} {t : Int32} (hn : 2 ≤ n) (h0 : M 0 = .inr (8, [.ref (b + 1), .ref (b + 6), .ref (b + 22), .ref (b + 33), .ref (b + 37), .ref (b + 42), .int (nI mm), .int sl])) (h1 : M 1 = .inr (3, [.int (nI G), .int (nI mo), .int (nI ta), .int sc, .int (nI mv), .ref (b + 2), .ref (b + 3), .ref (b + 4), .ref (b + 5)]))   : Met l yX8_isTask (kw yX8_isTask cX8_isTask 2 (some .boolean)) ({ frames := 0, cells := 0, slots := 0, locals := 0 }) (va_Pc [.ref (b + 0), .int t] (kPre D (kT cI cJ cZ cH cR) b M n)) (va_Qi (fun (r : Int32) (u : (Nat → va_E) × Nat) => r = (if isT t ta then 1 else 0) ∧ u.2 = n ∧ u.1 = M) (kB D (kT cI cJ cZ cH cR) b) (kA b)) 0 0 (kA b) := by
  refine k_metZ (by decide +kernel) (Nat.le_of_ble_eq_true rfl) ?_
  intro p e s m below meth c ls Q C hw hret hnm hl
  have hl : lv_has ls 2 [(0, .ref (b + 0)), (1, .int t)] := hl
  refine lv_iload_n C.1 C.2.1 dX8_isTask_0 rfl (lv_at hl 1 rfl) ?_
  refine lv_if_lt (tgt := 19) C.1 C.2.1 dX8_isTask_1 (by decide) (fun c1 => ?_) (fun c1 => ?_)
  · refine lv_iconst (v := nI 0) C.1 C.2.1 dX8_isTask_19 (by decide) ?_
    exact hret _ _ (Nat.le_of_ble_eq_true rfl) (Nat.le_of_ble_eq_true rfl) hw (by first | exact Or.inl rfl | exact Or.inr rfl) (⟨by rw [if_neg (fun h => h.1 c1)]; rfl, rfl, rfl⟩) dX8_isTask_20
  · refine lv_iload_n C.1 C.2.1 dX8_isTask_4 rfl (lv_at hl 1 rfl) ?_
    refine lv_aload_n C.1 C.2.1 dX8_isTask_5 rfl (lv_at hl 0 rfl) ?_
    refine k_get C hw 0 (by omega) h0 rfl inlX8 0 (by decide) q_15 rfl dX8_isTask_6 ?_
    refine k_get C hw 1 (by omega) h1 rfl inlX3 2 (by decide) q_261 rfl dX8_isTask_9 ?_
    refine lv_icmp_ge (tgt := 19) C.1 C.2.1 dX8_isTask_12 (by decide) (fun c12 => ?_) (fun c12 => ?_)
    · refine lv_iconst (v := nI 0) C.1 C.2.1 dX8_isTask_19 (by decide) ?_
      exact hret _ _ (Nat.le_of_ble_eq_true rfl) (Nat.le_of_ble_eq_true rfl) hw (by first | exact Or.inl rfl | exact Or.inr rfl) (⟨by rw [if_neg (fun h => h.2 c12)]; rfl, rfl, rfl⟩) dX8_isTask_20
    · refine lv_iconst (v := nI 1) C.1 C.2.1 dX8_isTask_15 (by decide) ?_
      refine lv_goto (tgt := 20) C.1 C.2.1 dX8_isTask_16 (by decide) ?_
      exact hret _ _ (Nat.le_of_ble_eq_true rfl) (Nat.le_of_ble_eq_true rfl) hw (by first | exact Or.inl rfl | exact Or.inr rfl) (⟨by rw [if_pos ⟨c1, c12⟩]; rfl, rfl, rfl⟩) dX8_isTask_20

set_option maxHeartbeats 4000000 in
set_option maxRecDepth 100000 in
theorem c_X8_waitsFor {l : Launch} {D : va_G} {cI cJ cZ cH cR : ClassId} {b : Nat} {n : Nat} {M : Nat → va_E}  {mm : Nat} {sl : Int32} {G : Nat} {mo : Nat} {ta : Nat} {sc : Int32} {mv : Nat} {ow : Nat → Int32} {rs : Nat} {ca : Nat} {rk : Nat → Int32} {t : Int32} {q : Nat} (hn : 29 ≤ n) (h0 : M 0 = .inr (8, [.ref (b + 1), .ref (b + 6), .ref (b + 22), .ref (b + 33), .ref (b + 37), .ref (b + 42), .int (nI mm), .int sl])) (h1 : M 1 = .inr (3, [.int (nI G), .int (nI mo), .int (nI ta), .int sc, .int (nI mv), .ref (b + 2), .ref (b + 3), .ref (b + 4), .ref (b + 5)])) (h2 : M 2 = .inl (cI, 32, .inl ow)) (h22 : M 22 = .inr (0, [.ref (b + 23), .ref (b + 26), .ref (b + 30)])) (h26 : M 26 = .inr (5, [.ref (b + 27), .ref (b + 28), .ref (b + 29), .int (nI rs), .int (nI ca)])) (h28 : M 28 = .inl (cI, 400, .inl rk))  (hG0 : 0 < G) (hG : G ≤ 32) (hq : q < 400) : Met l yX8_waitsFor (kw yX8_waitsFor cX8_waitsFor 3 (some .boolean)) ({ frames := 1, cells := 0, slots := 0, locals := 23 }) (va_Pc [.ref (b + 0), .int t, .int (nI q)] (kPre D (kT cI cJ cZ cH cR) b M n)) (va_Qi (fun (r : Int32) (u : (Nat → va_E) × Nat) => r = (if lnP G ow rk t q = true then 1 else 0) ∧ u.2 = n ∧ u.1 = M) (kB D (kT cI cJ cZ cH cR) b) (kA b)) 0 0 (kA b) := by
  refine k_metZ (by decide +kernel) (Nat.le_of_ble_eq_true rfl) ?_
  intro p e s m below meth c ls Q C hw hret hnm hl
  have hl : lv_has ls 3 [(0, .ref (b + 0)), (1, .int t), (2, .int (nI q))] := hl
  refine lv_aload_n C.1 C.2.1 dX8_waitsFor_0 rfl (lv_at hl 0 rfl) ?_
  refine k_get C hw 0 (by omega) h0 rfl inlX8 0 (by decide) q_15 rfl dX8_waitsFor_1 ?_
  refine k_get C hw 1 (by omega) h1 rfl inlX3 5 (by decide) q_231 rfl dX8_waitsFor_4 ?_
  refine lv_aload_n C.1 C.2.1 dX8_waitsFor_7 rfl (lv_at hl 0 rfl) ?_
  refine k_get C hw 0 (by omega) h0 rfl inlX8 0 (by decide) q_15 rfl dX8_waitsFor_8 ?_
  refine lv_aload_n C.1 C.2.1 dX8_waitsFor_11 rfl (lv_at hl 0 rfl) ?_
  refine k_get C hw 0 (by omega) h0 rfl inlX8 2 (by decide) q_23 rfl dX8_waitsFor_12 ?_
  refine k_get C hw 22 (by omega) h22 rfl inlX0 1 (by decide) q_177 rfl dX8_waitsFor_15 ?_
  refine k_get C hw 26 (by omega) h26 rfl inlX5 1 (by decide) q_252 rfl dX8_waitsFor_18 ?_
  refine lv_iload_n C.1 C.2.1 dX8_waitsFor_21 rfl (lv_at hl 2 rfl) ?_
  refine k_iald C hw 28 (by omega) h28 (by omega) (by first | decide | omega) dX8_waitsFor_22 ?_
  refine k_vi C hw 1 (by omega) h1 rfl (c_X3_groupOf (by omega) h1  (by omega) (by omega)) kv_X8_81 rfl hl.1 ⟨Nat.le_of_ble_eq_true rfl, Nat.le_of_ble_eq_true rfl⟩ (Nat.le_of_ble_eq_true rfl) ⟨Nat.le_of_ble_eq_true rfl, Nat.le_of_ble_eq_true rfl⟩ dX8_waitsFor_23 (fun r23 M_1 n9 H locs hp hw => ?_)
  obtain ⟨er23, en9, eM9⟩ := hp
  have en9 : n9 = n := en9
  rw [en9] at hw
  have eM9 : M_1 = M := eM9
  rw [eM9] at hw
  have hgl := gof_lt hG0 (rk q)
  subst er23
  refine k_iald C hw 2 (by omega) h2 (by omega) (by first | decide | omega) dX8_waitsFor_26 ?_
  refine lv_iload_n C.1 C.2.1 dX8_waitsFor_27 rfl (lv_at hl 1 rfl) ?_
  refine lv_icmp_ne (tgt := 35) C.1 C.2.1 dX8_waitsFor_28 (by decide) (fun c28 => ?_) (fun c28 => ?_)
  · refine lv_iconst (v := nI 0) C.1 C.2.1 dX8_waitsFor_35 (by decide) ?_
    exact hret _ _ (Nat.le_of_ble_eq_true rfl) (Nat.le_of_ble_eq_true rfl) hw (by first | exact Or.inl rfl | exact Or.inr rfl) (⟨by rw [if_neg (by simpa using c28)]; rfl, rfl, rfl⟩) dX8_waitsFor_36
  · refine lv_iconst (v := nI 1) C.1 C.2.1 dX8_waitsFor_31 (by decide) ?_
    refine lv_goto (tgt := 36) C.1 C.2.1 dX8_waitsFor_32 (by decide) ?_
    exact hret _ _ (Nat.le_of_ble_eq_true rfl) (Nat.le_of_ble_eq_true rfl) hw (by first | exact Or.inl rfl | exact Or.inr rfl) (⟨by rw [if_pos (by simpa using c28)]; rfl, rfl, rfl⟩) dX8_waitsFor_36

set_option maxHeartbeats 4000000 in
set_option maxRecDepth 100000 in
theorem c_X8_firstInLine {l : Launch} {D : va_G} {cI cJ cZ cH cR : ClassId} {b : Nat} {n : Nat} {M : Nat → va_E}  {mm : Nat} {sl : Int32} {G : Nat} {mo : Nat} {ta : Nat} {sc : Int32} {mv : Nat} {ow : Nat → Int32} {rs : Nat} {ca : Nat} {rk : Nat → Int32} {t : Int32} (hn : 29 ≤ n) (h0 : M 0 = .inr (8, [.ref (b + 1), .ref (b + 6), .ref (b + 22), .ref (b + 33), .ref (b + 37), .ref (b + 42), .int (nI mm), .int sl])) (h1 : M 1 = .inr (3, [.int (nI G), .int (nI mo), .int (nI ta), .int sc, .int (nI mv), .ref (b + 2), .ref (b + 3), .ref (b + 4), .ref (b + 5)])) (h2 : M 2 = .inl (cI, 32, .inl ow)) (h22 : M 22 = .inr (0, [.ref (b + 23), .ref (b + 26), .ref (b + 30)])) (h26 : M 26 = .inr (5, [.ref (b + 27), .ref (b + 28), .ref (b + 29), .int (nI rs), .int (nI ca)])) (h28 : M 28 = .inl (cI, 400, .inl rk))  (hG0 : 0 < G) (hG : G ≤ 32) (hs : rs ≤ 400) : Met l yX8_firstInLine (kw yX8_firstInLine cX8_firstInLine 3 (some .int)) ({ frames := 2, cells := 0, slots := 0, locals := 45 }) (va_Pc [.ref (b + 0), .int t] (kPre D (kT cI cJ cZ cH cR) b M n)) (va_Qi (fun (r : Int32) (u : (Nat → va_E) × Nat) => r = (fI (lnP G ow rk t) rs) ∧ u.2 = n ∧ u.1 = M) (kB D (kT cI cJ cZ cH cR) b) (kA b)) 0 0 (kA b) := by
  refine k_metI (by decide +kernel) (Nat.le_of_ble_eq_true rfl) ?_
  intro p e s m below meth c ls Q C hw hret hnm hl
  have hl : lv_has ls 3 [(0, .ref (b + 0)), (1, .int t)] := hl
  refine lv_iconst (v := nI 0) C.1 C.2.1 dX8_firstInLine_0 (by decide) ?_
  refine lv_istore_n (lv' := [(2, .int (nI 0)), (0, .ref (b + 0)), (1, .int t)]) C.1 C.2.1 dX8_firstInLine_1 rfl hl (by decide) rfl (fun ls hl => ?_)
  have L2 : ∀ (N2 : Nat) (i : Nat) , (rs - i < N2) → (i ≤ rs) → (∀ j, j < i → lnP G ow rk t j = false) → ∀ (ls : Array Slot) (H : Heap) (locs : List Loc), lv_has ls 3 [(2, .int (nI i)), (0, .ref (b + 0)), (1, .int t)] → kW D b M n s.heap H locs → W p l e ({ frames := 2, cells := 0, slots := 0, locals := 45 } : Room) s m ([.ref (b + 0), .int t] : List Value).toArray below meth c H locs 0 0 Q (F0 m 2 ls []) := by
    intro N2
    induction N2 with
    | zero => intro i hm2 hi ha ls H locs hl hw; omega
    | succ N2 ih2 =>
      intro i hm2 hi ha ls H locs hl hw
      refine lv_iload_n C.1 C.2.1 dX8_firstInLine_2 rfl (lv_at hl 0 rfl) ?_
      refine lv_aload_n C.1 C.2.1 dX8_firstInLine_3 rfl (lv_at hl 1 rfl) ?_
      refine k_get C hw 0 (by omega) h0 rfl inlX8 2 (by decide) q_23 rfl dX8_firstInLine_4 ?_
      refine k_get C hw 22 (by omega) h22 rfl inlX0 1 (by decide) q_177 rfl dX8_firstInLine_7 ?_
      refine k_get C hw 26 (by omega) h26 rfl inlX5 3 (by decide) q_266 rfl dX8_firstInLine_10 ?_
      refine lv_icmp_ge (tgt := 33) C.1 C.2.1 dX8_firstInLine_13 (by decide) (fun c13 => ?_) (fun c13 => ?_)
      · have q13 := (nI_leI (by omega) (by omega)).mp c13
        have q13 : i = rs := by omega
        refine lv_bipush (v := (-106)) C.1 C.2.1 dX8_firstInLine_33 (by decide) ?_
        exact hret _ _ (Nat.le_of_ble_eq_true rfl) (Nat.le_of_ble_eq_true rfl) hw (⟨by rw [← q13, fI_none ha], rfl, rfl⟩) dX8_firstInLine_35
      · have q13 : ¬ rs ≤ i := fun z => c13 ((nI_leI (by omega) (by omega)).mpr z)
        refine lv_aload_n C.1 C.2.1 dX8_firstInLine_16 rfl (lv_at hl 1 rfl) ?_
        refine lv_iload_n C.1 C.2.1 dX8_firstInLine_17 rfl (lv_at hl 2 rfl) ?_
        refine lv_iload_n C.1 C.2.1 dX8_firstInLine_18 rfl (lv_at hl 0 rfl) ?_
        refine k_vi C hw 0 (by omega) h0 rfl (c_X8_waitsFor (by omega) h0 h1 h2 h22 h26 h28  (by omega) (by omega) (by omega)) kv_X8_248 rfl hl.1 ⟨Nat.le_of_ble_eq_true rfl, Nat.le_of_ble_eq_true rfl⟩ (Nat.le_of_ble_eq_true rfl) ⟨Nat.le_of_ble_eq_true rfl, Nat.le_of_ble_eq_true rfl⟩ dX8_firstInLine_19 (fun r19 M_1 n9 H locs hp hw => ?_)
        obtain ⟨er19, en9, eM9⟩ := hp
        have en9 : n9 = n := en9
        rw [en9] at hw
        have eM9 : M_1 = M := eM9
        rw [eM9] at hw
        refine lv_if_eq (tgt := 27) C.1 C.2.1 dX8_firstInLine_22 (by decide) (fun c22 => ?_) (fun c22 => ?_)
        · have hno : lnP G ow rk t i = false := by cases hh : lnP G ow rk t i; rfl; rw [er19, if_pos hh] at c22; exact absurd c22 (by decide)
          refine lv_iinc (v := (nI (i + 1))) (lv' := [(2, .int (nI (i + 1))), (0, .ref (b + 0)), (1, .int t)]) C.1 C.2.1 dX8_firstInLine_27 hl (k := 0) rfl (k_inc _ 1) (by decide) rfl (fun ls hl => ?_)
          refine lv_goto (tgt := 2) C.1 C.2.1 dX8_firstInLine_30 (by decide) ?_
          exact ih2  (i + 1) (by omega) (by omega) (fun j hj => by rcases Nat.lt_succ_iff_lt_or_eq.mp hj with h | h; exact ha j h; rw [h]; exact hno) ls _ _ (lv_sub hl [0, 1, 2] rfl) hw
        · have hyes : lnP G ow rk t i = true := by cases hh : lnP G ow rk t i; exact absurd (by rw [er19, hh]; rfl) c22; rfl
          refine lv_iload_n C.1 C.2.1 dX8_firstInLine_25 rfl (lv_at hl 0 rfl) ?_
          exact hret _ _ (Nat.le_of_ble_eq_true rfl) (Nat.le_of_ble_eq_true rfl) hw (⟨by rw [fI_at ha hyes (by omega)], rfl, rfl⟩) dX8_firstInLine_26
  exact L2 (_ + 1) (0) (Nat.lt_succ_self _) (Nat.zero_le _) (fun j hj => absurd hj (Nat.not_lt_zero j)) ls _ _ (lv_sub hl [0, 1, 2] rfl) hw

set_option maxHeartbeats 4000000 in
set_option maxRecDepth 100000 in
theorem c_X8_lengthOfLine {l : Launch} {D : va_G} {cI cJ cZ cH cR : ClassId} {b : Nat} {n : Nat} {M : Nat → va_E}  {mm : Nat} {sl : Int32} {G : Nat} {mo : Nat} {ta : Nat} {sc : Int32} {mv : Nat} {ow : Nat → Int32} {rs : Nat} {ca : Nat} {rk : Nat → Int32} {t : Int32} (hn : 29 ≤ n) (h0 : M 0 = .inr (8, [.ref (b + 1), .ref (b + 6), .ref (b + 22), .ref (b + 33), .ref (b + 37), .ref (b + 42), .int (nI mm), .int sl])) (h1 : M 1 = .inr (3, [.int (nI G), .int (nI mo), .int (nI ta), .int sc, .int (nI mv), .ref (b + 2), .ref (b + 3), .ref (b + 4), .ref (b + 5)])) (h2 : M 2 = .inl (cI, 32, .inl ow)) (h22 : M 22 = .inr (0, [.ref (b + 23), .ref (b + 26), .ref (b + 30)])) (h26 : M 26 = .inr (5, [.ref (b + 27), .ref (b + 28), .ref (b + 29), .int (nI rs), .int (nI ca)])) (h28 : M 28 = .inl (cI, 400, .inl rk))  (hG0 : 0 < G) (hG : G ≤ 32) (hs : rs ≤ 400) : Met l yX8_lengthOfLine (kw yX8_lengthOfLine cX8_lengthOfLine 4 (some .int)) ({ frames := 2, cells := 0, slots := 0, locals := 45 }) (va_Pc [.ref (b + 0), .int t] (kPre D (kT cI cJ cZ cH cR) b M n)) (va_Qi (fun (r : Int32) (u : (Nat → va_E) × Nat) => r = (nI (cnt (lnP G ow rk t) rs)) ∧ u.2 = n ∧ u.1 = M) (kB D (kT cI cJ cZ cH cR) b) (kA b)) 0 0 (kA b) := by
  refine k_metI (by decide +kernel) (Nat.le_of_ble_eq_true rfl) ?_
  intro p e s m below meth c ls Q C hw hret hnm hl
  have hl : lv_has ls 4 [(0, .ref (b + 0)), (1, .int t)] := hl
  refine lv_iconst (v := nI 0) C.1 C.2.1 dX8_lengthOfLine_0 (by decide) ?_
  refine lv_istore_n (lv' := [(2, .int (nI 0)), (0, .ref (b + 0)), (1, .int t)]) C.1 C.2.1 dX8_lengthOfLine_1 rfl hl (by decide) rfl (fun ls hl => ?_)
  refine lv_iconst (v := nI 0) C.1 C.2.1 dX8_lengthOfLine_2 (by decide) ?_
  refine lv_istore_n (lv' := [(3, .int (nI 0)), (2, .int (nI 0)), (0, .ref (b + 0)), (1, .int t)]) C.1 C.2.1 dX8_lengthOfLine_3 rfl hl (by decide) rfl (fun ls hl => ?_)
  have L4 : ∀ (N4 : Nat) (i : Nat) (a : Nat), (rs - i < N4) → (i ≤ rs) → (a = cnt (lnP G ow rk t) i) → ∀ (ls : Array Slot) (H : Heap) (locs : List Loc), lv_has ls 4 [(3, .int (nI i)), (2, .int (nI a)), (0, .ref (b + 0)), (1, .int t)] → kW D b M n s.heap H locs → W p l e ({ frames := 2, cells := 0, slots := 0, locals := 45 } : Room) s m ([.ref (b + 0), .int t] : List Value).toArray below meth c H locs 0 0 Q (F0 m 4 ls []) := by
    intro N4
    induction N4 with
    | zero => intro i a hm4 hi ha ls H locs hl hw; omega
    | succ N4 ih4 =>
      intro i a hm4 hi ha ls H locs hl hw
      refine lv_iload_n C.1 C.2.1 dX8_lengthOfLine_4 rfl (lv_at hl 0 rfl) ?_
      refine lv_aload_n C.1 C.2.1 dX8_lengthOfLine_5 rfl (lv_at hl 2 rfl) ?_
      refine k_get C hw 0 (by omega) h0 rfl inlX8 2 (by decide) q_23 rfl dX8_lengthOfLine_6 ?_
      refine k_get C hw 22 (by omega) h22 rfl inlX0 1 (by decide) q_177 rfl dX8_lengthOfLine_9 ?_
      refine k_get C hw 26 (by omega) h26 rfl inlX5 3 (by decide) q_266 rfl dX8_lengthOfLine_12 ?_
      refine lv_icmp_ge (tgt := 36) C.1 C.2.1 dX8_lengthOfLine_15 (by decide) (fun c15 => ?_) (fun c15 => ?_)
      · have q15 := (nI_leI (by omega) (by omega)).mp c15
        have q15 : i = rs := by omega
        refine lv_iload_n C.1 C.2.1 dX8_lengthOfLine_36 rfl (lv_at hl 1 rfl) ?_
        exact hret _ _ (Nat.le_of_ble_eq_true rfl) (Nat.le_of_ble_eq_true rfl) hw (⟨by rw [ha, q15], rfl, rfl⟩) dX8_lengthOfLine_37
      · have q15 : ¬ rs ≤ i := fun z => c15 ((nI_leI (by omega) (by omega)).mpr z)
        refine lv_aload_n C.1 C.2.1 dX8_lengthOfLine_18 rfl (lv_at hl 2 rfl) ?_
        refine lv_iload_n C.1 C.2.1 dX8_lengthOfLine_19 rfl (lv_at hl 3 rfl) ?_
        refine lv_iload_n C.1 C.2.1 dX8_lengthOfLine_20 rfl (lv_at hl 0 rfl) ?_
        refine k_vi C hw 0 (by omega) h0 rfl (c_X8_waitsFor (by omega) h0 h1 h2 h22 h26 h28  (by omega) (by omega) (by omega)) kv_X8_248 rfl hl.1 ⟨Nat.le_of_ble_eq_true rfl, Nat.le_of_ble_eq_true rfl⟩ (Nat.le_of_ble_eq_true rfl) ⟨Nat.le_of_ble_eq_true rfl, Nat.le_of_ble_eq_true rfl⟩ dX8_lengthOfLine_21 (fun r21 M_1 n9 H locs hp hw => ?_)
        obtain ⟨er21, en9, eM9⟩ := hp
        have en9 : n9 = n := en9
        rw [en9] at hw
        have eM9 : M_1 = M := eM9
        rw [eM9] at hw
        refine lv_if_eq (tgt := 30) C.1 C.2.1 dX8_lengthOfLine_24 (by decide) (fun c24 => ?_) (fun c24 => ?_)
        · have hno : lnP G ow rk t i = false := by cases hh : lnP G ow rk t i; rfl; rw [er21, if_pos hh] at c24; exact absurd c24 (by decide)
          refine lv_iinc (v := (nI (i + 1))) (lv' := [(3, .int (nI (i + 1))), (2, .int (nI a)), (0, .ref (b + 0)), (1, .int t)]) C.1 C.2.1 dX8_lengthOfLine_30 hl (k := 0) rfl (k_inc _ 1) (by decide) rfl (fun ls hl => ?_)
          refine lv_goto (tgt := 4) C.1 C.2.1 dX8_lengthOfLine_33 (by decide) ?_
          exact ih4  (i + 1) (a) (by omega) (by omega) (by rw [ha, cnt_f hno]) ls _ _ (lv_sub hl [0, 1, 2, 3] rfl) hw
        · have hyes : lnP G ow rk t i = true := by cases hh : lnP G ow rk t i; exact absurd (by rw [er21, hh]; rfl) c24; rfl
          refine lv_iinc (v := (nI (a + 1))) (lv' := [(2, .int (nI (a + 1))), (3, .int (nI i)), (0, .ref (b + 0)), (1, .int t)]) C.1 C.2.1 dX8_lengthOfLine_27 hl (k := 1) rfl (k_inc _ 1) (by decide) rfl (fun ls hl => ?_)
          refine lv_iinc (v := (nI (i + 1))) (lv' := [(3, .int (nI (i + 1))), (2, .int (nI (a + 1))), (0, .ref (b + 0)), (1, .int t)]) C.1 C.2.1 dX8_lengthOfLine_30 hl (k := 1) rfl (k_inc _ 1) (by decide) rfl (fun ls hl => ?_)
          refine lv_goto (tgt := 4) C.1 C.2.1 dX8_lengthOfLine_33 (by decide) ?_
          exact ih4  (i + 1) (a + 1) (by omega) (by omega) (by rw [ha, cnt_t hyes]) ls _ _ (lv_sub hl [0, 1, 2, 3] rfl) hw
  exact L4 (_ + 1) (0) (0) (Nat.lt_succ_self _) (Nat.zero_le _) (rfl) ls _ _ (lv_sub hl [0, 1, 2, 3] rfl) hw

set_option maxHeartbeats 4000000 in
set_option maxRecDepth 100000 in
theorem c_X8_waitingOfGroup {l : Launch} {D : va_G} {cI cJ cZ cH cR : ClassId} {b : Nat} {n : Nat} {M : Nat → va_E}  {mm : Nat} {sl : Int32} {G : Nat} {mo : Nat} {ta : Nat} {sc : Int32} {mv : Nat} {rs : Nat} {ca : Nat} {rk : Nat → Int32} {t : Int32} (hn : 29 ≤ n) (h0 : M 0 = .inr (8, [.ref (b + 1), .ref (b + 6), .ref (b + 22), .ref (b + 33), .ref (b + 37), .ref (b + 42), .int (nI mm), .int sl])) (h1 : M 1 = .inr (3, [.int (nI G), .int (nI mo), .int (nI ta), .int sc, .int (nI mv), .ref (b + 2), .ref (b + 3), .ref (b + 4), .ref (b + 5)])) (h22 : M 22 = .inr (0, [.ref (b + 23), .ref (b + 26), .ref (b + 30)])) (h26 : M 26 = .inr (5, [.ref (b + 27), .ref (b + 28), .ref (b + 29), .int (nI rs), .int (nI ca)])) (h28 : M 28 = .inl (cI, 400, .inl rk))  (hG0 : 0 < G) (hG : G ≤ 32) (hs : rs ≤ 400) : Met l yX8_waitingOfGroup (kw yX8_waitingOfGroup cX8_waitingOfGroup 4 (some .int)) ({ frames := 1, cells := 0, slots := 0, locals := 23 }) (va_Pc [.ref (b + 0), .int t] (kPre D (kT cI cJ cZ cH cR) b M n)) (va_Qi (fun (r : Int32) (u : (Nat → va_E) × Nat) => r = (nI (cnt (wgP G rk t) rs)) ∧ u.2 = n ∧ u.1 = M) (kB D (kT cI cJ cZ cH cR) b) (kA b)) 0 0 (kA b) := by
  refine k_metI (by decide +kernel) (Nat.le_of_ble_eq_true rfl) ?_
  intro p e s m below meth c ls Q C hw hret hnm hl
  have hl : lv_has ls 4 [(0, .ref (b + 0)), (1, .int t)] := hl
  refine lv_iconst (v := nI 0) C.1 C.2.1 dX8_waitingOfGroup_0 (by decide) ?_
  refine lv_istore_n (lv' := [(2, .int (nI 0)), (0, .ref (b + 0)), (1, .int t)]) C.1 C.2.1 dX8_waitingOfGroup_1 rfl hl (by decide) rfl (fun ls hl => ?_)
  refine lv_iconst (v := nI 0) C.1 C.2.1 dX8_waitingOfGroup_2 (by decide) ?_
  refine lv_istore_n (lv' := [(3, .int (nI 0)), (2, .int (nI 0)), (0, .ref (b + 0)), (1, .int t)]) C.1 C.2.1 dX8_waitingOfGroup_3 rfl hl (by decide) rfl (fun ls hl => ?_)
  have L4 : ∀ (N4 : Nat) (i : Nat) (a : Nat), (rs - i < N4) → (i ≤ rs) → (a = cnt (wgP G rk t) i) → ∀ (ls : Array Slot) (H : Heap) (locs : List Loc), lv_has ls 4 [(3, .int (nI i)), (2, .int (nI a)), (0, .ref (b + 0)), (1, .int t)] → kW D b M n s.heap H locs → W p l e ({ frames := 1, cells := 0, slots := 0, locals := 23 } : Room) s m ([.ref (b + 0), .int t] : List Value).toArray below meth c H locs 0 0 Q (F0 m 4 ls []) := by
    intro N4
    induction N4 with
    | zero => intro i a hm4 hi ha ls H locs hl hw; omega
    | succ N4 ih4 =>
      intro i a hm4 hi ha ls H locs hl hw
      refine lv_iload_n C.1 C.2.1 dX8_waitingOfGroup_4 rfl (lv_at hl 0 rfl) ?_
      refine lv_aload_n C.1 C.2.1 dX8_waitingOfGroup_5 rfl (lv_at hl 2 rfl) ?_
      refine k_get C hw 0 (by omega) h0 rfl inlX8 2 (by decide) q_23 rfl dX8_waitingOfGroup_6 ?_
      refine k_get C hw 22 (by omega) h22 rfl inlX0 1 (by decide) q_177 rfl dX8_waitingOfGroup_9 ?_
      refine k_get C hw 26 (by omega) h26 rfl inlX5 3 (by decide) q_266 rfl dX8_waitingOfGroup_12 ?_
      refine lv_icmp_ge (tgt := 50) C.1 C.2.1 dX8_waitingOfGroup_15 (by decide) (fun c15 => ?_) (fun c15 => ?_)
      · have q15 := (nI_leI (by omega) (by omega)).mp c15
        have q15 : i = rs := by omega
        refine lv_iload_n C.1 C.2.1 dX8_waitingOfGroup_50 rfl (lv_at hl 1 rfl) ?_
        exact hret _ _ (Nat.le_of_ble_eq_true rfl) (Nat.le_of_ble_eq_true rfl) hw (⟨by rw [ha, q15], rfl, rfl⟩) dX8_waitingOfGroup_51
      · have q15 : ¬ rs ≤ i := fun z => c15 ((nI_leI (by omega) (by omega)).mpr z)
        refine lv_aload_n C.1 C.2.1 dX8_waitingOfGroup_18 rfl (lv_at hl 2 rfl) ?_
        refine k_get C hw 0 (by omega) h0 rfl inlX8 0 (by decide) q_15 rfl dX8_waitingOfGroup_19 ?_
        refine lv_aload_n C.1 C.2.1 dX8_waitingOfGroup_22 rfl (lv_at hl 2 rfl) ?_
        refine k_get C hw 0 (by omega) h0 rfl inlX8 2 (by decide) q_23 rfl dX8_waitingOfGroup_23 ?_
        refine k_get C hw 22 (by omega) h22 rfl inlX0 1 (by decide) q_177 rfl dX8_waitingOfGroup_26 ?_
        refine k_get C hw 26 (by omega) h26 rfl inlX5 1 (by decide) q_252 rfl dX8_waitingOfGroup_29 ?_
        refine lv_iload_n C.1 C.2.1 dX8_waitingOfGroup_32 rfl (lv_at hl 0 rfl) ?_
        refine k_iald C hw 28 (by omega) h28 (by omega) (by first | decide | omega) dX8_waitingOfGroup_33 ?_
        refine k_vi C hw 1 (by omega) h1 rfl (c_X3_groupOf (by omega) h1  (by omega) (by omega)) kv_X8_81 rfl hl.1 ⟨Nat.le_of_ble_eq_true rfl, Nat.le_of_ble_eq_true rfl⟩ (Nat.le_of_ble_eq_true rfl) ⟨Nat.le_of_ble_eq_true rfl, Nat.le_of_ble_eq_true rfl⟩ dX8_waitingOfGroup_34 (fun r34 M_1 n9 H locs hp hw => ?_)
        obtain ⟨er34, en9, eM9⟩ := hp
        have en9 : n9 = n := en9
        rw [en9] at hw
        have eM9 : M_1 = M := eM9
        rw [eM9] at hw
        subst er34
        refine lv_iload_n C.1 C.2.1 dX8_waitingOfGroup_37 rfl (lv_at hl 3 rfl) ?_
        refine lv_icmp_ne (tgt := 44) C.1 C.2.1 dX8_waitingOfGroup_38 (by decide) (fun c38 => ?_) (fun c38 => ?_)
        · refine lv_iinc (v := (nI (i + 1))) (lv' := [(3, .int (nI (i + 1))), (2, .int (nI a)), (0, .ref (b + 0)), (1, .int t)]) C.1 C.2.1 dX8_waitingOfGroup_44 hl (k := 0) rfl (k_inc _ 1) (by decide) rfl (fun ls hl => ?_)
          refine lv_goto (tgt := 4) C.1 C.2.1 dX8_waitingOfGroup_47 (by decide) ?_
          exact ih4  (i + 1) (a) (by omega) (by omega) (by rw [ha, cnt_f (by simpa using c38)]) ls _ _ (lv_sub hl [0, 1, 2, 3] rfl) hw
        · refine lv_iinc (v := (nI (a + 1))) (lv' := [(2, .int (nI (a + 1))), (3, .int (nI i)), (0, .ref (b + 0)), (1, .int t)]) C.1 C.2.1 dX8_waitingOfGroup_41 hl (k := 1) rfl (k_inc _ 1) (by decide) rfl (fun ls hl => ?_)
          refine lv_iinc (v := (nI (i + 1))) (lv' := [(3, .int (nI (i + 1))), (2, .int (nI (a + 1))), (0, .ref (b + 0)), (1, .int t)]) C.1 C.2.1 dX8_waitingOfGroup_44 hl (k := 1) rfl (k_inc _ 1) (by decide) rfl (fun ls hl => ?_)
          refine lv_goto (tgt := 4) C.1 C.2.1 dX8_waitingOfGroup_47 (by decide) ?_
          exact ih4  (i + 1) (a + 1) (by omega) (by omega) (by rw [ha, cnt_t (by simpa using c38)]) ls _ _ (lv_sub hl [0, 1, 2, 3] rfl) hw
  exact L4 (_ + 1) (0) (0) (Nat.lt_succ_self _) (Nat.zero_le _) (rfl) ls _ _ (lv_sub hl [0, 1, 2, 3] rfl) hw

set_option maxHeartbeats 4000000 in
set_option maxRecDepth 100000 in
theorem c_X8_firstNumberInLine {l : Launch} {D : va_G} {cI cJ cZ cH cR : ClassId} {b : Nat} {n : Nat} {M : Nat → va_E}  {mm : Nat} {sl : Int32} {G : Nat} {mo : Nat} {ta : Nat} {sc : Int32} {mv : Nat} {ow : Nat → Int32} {rs : Nat} {ca : Nat} {rk : Nat → Int32} {rn : Nat → Int32} {t : Int32} (hn : 29 ≤ n) (h0 : M 0 = .inr (8, [.ref (b + 1), .ref (b + 6), .ref (b + 22), .ref (b + 33), .ref (b + 37), .ref (b + 42), .int (nI mm), .int sl])) (h1 : M 1 = .inr (3, [.int (nI G), .int (nI mo), .int (nI ta), .int sc, .int (nI mv), .ref (b + 2), .ref (b + 3), .ref (b + 4), .ref (b + 5)])) (h2 : M 2 = .inl (cI, 32, .inl ow)) (h22 : M 22 = .inr (0, [.ref (b + 23), .ref (b + 26), .ref (b + 30)])) (h26 : M 26 = .inr (5, [.ref (b + 27), .ref (b + 28), .ref (b + 29), .int (nI rs), .int (nI ca)])) (h28 : M 28 = .inl (cI, 400, .inl rk)) (h27 : M 27 = .inl (cI, 400, .inl rn))  (hG0 : 0 < G) (hG : G ≤ 32) (hs : rs ≤ 400) : Met l yX8_firstNumberInLine (kw yX8_firstNumberInLine cX8_firstNumberInLine 3 (some .int)) ({ frames := 3, cells := 0, slots := 0, locals := 67 }) (va_Pc [.ref (b + 0), .int t] (kPre D (kT cI cJ cZ cH cR) b M n)) (va_Qi (fun (r : Int32) (u : (Nat → va_E) × Nat) => r = (fN (lnP G ow rk t) rn rs) ∧ u.2 = n ∧ u.1 = M) (kB D (kT cI cJ cZ cH cR) b) (kA b)) 0 0 (kA b) := by
  refine k_metI (by decide +kernel) (Nat.le_of_ble_eq_true rfl) ?_
  intro p e s m below meth c ls Q C hw hret hnm hl
  have hl : lv_has ls 3 [(0, .ref (b + 0)), (1, .int t)] := hl
  refine lv_aload_n C.1 C.2.1 dX8_firstNumberInLine_0 rfl (lv_at hl 0 rfl) ?_
  refine lv_iload_n C.1 C.2.1 dX8_firstNumberInLine_1 rfl (lv_at hl 1 rfl) ?_
  refine k_vi C hw 0 (by omega) h0 rfl (c_X8_firstInLine (by omega) h0 h1 h2 h22 h26 h28  (by omega) (by omega) (by omega)) kv_X8_101 rfl hl.1 ⟨Nat.le_of_ble_eq_true rfl, Nat.le_of_ble_eq_true rfl⟩ (Nat.le_of_ble_eq_true rfl) ⟨Nat.le_of_ble_eq_true rfl, Nat.le_of_ble_eq_true rfl⟩ dX8_firstNumberInLine_2 (fun pl M_1 n9 H locs hp hw => ?_)
  obtain ⟨epl, en9, eM9⟩ := hp
  have en9 : n9 = n := en9
  rw [en9] at hw
  have eM9 : M_1 = M := eM9
  rw [eM9] at hw
  refine lv_istore_n (lv' := [(2, .int pl), (0, .ref (b + 0)), (1, .int t)]) C.1 C.2.1 dX8_firstNumberInLine_5 rfl hl (by decide) rfl (fun ls hl => ?_)
  refine lv_iload_n C.1 C.2.1 dX8_firstNumberInLine_6 rfl (lv_at hl 0 rfl) ?_
  refine lv_bipush (v := (-106)) C.1 C.2.1 dX8_firstNumberInLine_7 (by decide) ?_
  refine lv_icmp_ne (tgt := 17) C.1 C.2.1 dX8_firstNumberInLine_9 (by decide) (fun c9 => ?_) (fun c9 => ?_)
  · rw [epl] at c9
    obtain ⟨hlt, hpe⟩ := fI_ne (by omega) c9
    refine lv_aload_n C.1 C.2.1 dX8_firstNumberInLine_17 rfl (lv_at hl 1 rfl) ?_
    refine k_get C hw 0 (by omega) h0 rfl inlX8 2 (by decide) q_23 rfl dX8_firstNumberInLine_18 ?_
    refine k_get C hw 22 (by omega) h22 rfl inlX0 1 (by decide) q_177 rfl dX8_firstNumberInLine_21 ?_
    refine k_get C hw 26 (by omega) h26 rfl inlX5 0 (by decide) q_251 rfl dX8_firstNumberInLine_24 ?_
    refine lv_iload_n C.1 C.2.1 dX8_firstNumberInLine_27 rfl (lv_at hl 0 rfl) ?_
    refine k_topi (y := nI (fst (lnP G ow rk t) rs)) (by rw [epl]; exact hpe) ?_
    refine k_iald C hw 27 (by omega) h27 (by omega) (by first | decide | omega) dX8_firstNumberInLine_28 ?_
    exact hret _ _ (Nat.le_of_ble_eq_true rfl) (Nat.le_of_ble_eq_true rfl) hw (⟨by unfold fN; rw [if_pos hlt], rfl, rfl⟩) dX8_firstNumberInLine_29
  · rw [epl] at c9
    have hno := fI_eq (by omega) c9
    refine lv_bipush (v := (-106)) C.1 C.2.1 dX8_firstNumberInLine_12 (by decide) ?_
    refine lv_goto (tgt := 29) C.1 C.2.1 dX8_firstNumberInLine_14 (by decide) ?_
    exact hret _ _ (Nat.le_of_ble_eq_true rfl) (Nat.le_of_ble_eq_true rfl) hw (⟨by unfold fN; rw [if_neg hno], rfl, rfl⟩) dX8_firstNumberInLine_29

set_option maxHeartbeats 4000000 in
set_option maxRecDepth 100000 in
theorem c_X8_slack {l : Launch} {D : va_G} {cI cJ cZ cH cR : ClassId} {b : Nat} {n : Nat} {M : Nat → va_E}  {mm : Nat} {sl : Int32} {v : Int32} (hn : 1 ≤ n) (h0 : M 0 = .inr (8, [.ref (b + 1), .ref (b + 6), .ref (b + 22), .ref (b + 33), .ref (b + 37), .ref (b + 42), .int (nI mm), .int sl]))   : Met l yX8_slack (kw yX8_slack cX8_slack 3 (some .int)) ({ frames := 0, cells := 0, slots := 0, locals := 0 }) (va_Pc [.ref (b + 0), .int v] (kPre D (kT cI cJ cZ cH cR) b M n)) (va_Qi (fun (r : Int32) (u : (Nat → va_E) × Nat) => u.2 = n ∧ ((¬ (¬ v < 0 ∧ v ≤ nI 100) ∧ r = -102 ∧ u.1 = M) ∨ ((¬ v < 0 ∧ v ≤ nI 100) ∧ r = sl ∧ kF [0] M u.1 ∧ u.1 0 = .inr (8, [.ref (b + 1), .ref (b + 6), .ref (b + 22), .ref (b + 33), .ref (b + 37), .ref (b + 42), .int (nI mm), .int v])))) (kB D (kT cI cJ cZ cH cR) b) (kA b)) 0 0 (kA b) := by
  refine k_metI (by decide +kernel) (Nat.le_of_ble_eq_true rfl) ?_
  intro p e s m below meth c ls Q C hw hret hnm hl
  have hl : lv_has ls 3 [(0, .ref (b + 0)), (1, .int v)] := hl
  have hFF : kF [0] M M := kF_rf
  refine lv_iload_n C.1 C.2.1 dX8_slack_0 rfl (lv_at hl 1 rfl) ?_
  refine lv_if_lt (tgt := 10) C.1 C.2.1 dX8_slack_1 (by decide) (fun c1 => ?_) (fun c1 => ?_)
  · refine lv_bipush (v := (-102)) C.1 C.2.1 dX8_slack_10 (by decide) ?_
    exact hret _ _ (Nat.le_of_ble_eq_true rfl) (Nat.le_of_ble_eq_true rfl) hw (⟨rfl, Or.inl ⟨fun h => h.1 c1, rfl, rfl⟩⟩) dX8_slack_12
  · refine lv_iload_n C.1 C.2.1 dX8_slack_4 rfl (lv_at hl 1 rfl) ?_
    refine lv_bipush (v := nI 100) C.1 C.2.1 dX8_slack_5 (by decide) ?_
    refine lv_icmp_le (tgt := 13) C.1 C.2.1 dX8_slack_7 (by decide) (fun c7 => ?_) (fun c7 => ?_)
    · refine lv_aload_n C.1 C.2.1 dX8_slack_13 rfl (lv_at hl 0 rfl) ?_
      refine k_get C hw 0 (by omega) h0 rfl inlX8 7 (by decide) q_33 rfl dX8_slack_14 ?_
      refine lv_istore_n (lv' := [(2, .int sl), (0, .ref (b + 0)), (1, .int v)]) C.1 C.2.1 dX8_slack_17 rfl hl (by decide) rfl (fun ls hl => ?_)
      refine lv_aload_n C.1 C.2.1 dX8_slack_18 rfl (lv_at hl 1 rfl) ?_
      refine lv_iload_n C.1 C.2.1 dX8_slack_19 rfl (lv_at hl 2 rfl) ?_
      refine k_put (tf := .int) C hw 0 (by omega) h0 rfl inlX8 tyX8 tyX8_ok nmX8 7 (by decide) q_33 rfl (by decide +kernel) rfl rfl (Nat.le_of_ble_eq_true rfl) dX8_slack_20 (fun M_1 H locs hw h0 hF => ?_)
      have h0 : M_1 0 = .inr (8, [.ref (b + 1), .ref (b + 6), .ref (b + 22), .ref (b + 33), .ref (b + 37), .ref (b + 42), .int (nI mm), .int v]) := h0
      have hFF := kF_st hFF hF (by first | decide | simp)
      refine lv_iload_n C.1 C.2.1 dX8_slack_23 rfl (lv_at hl 0 rfl) ?_
      exact hret _ _ (Nat.le_of_ble_eq_true rfl) (Nat.le_of_ble_eq_true rfl) hw (⟨rfl, Or.inr ⟨⟨c1, c7⟩, rfl, hFF, h0⟩⟩) dX8_slack_24
    · refine lv_bipush (v := (-102)) C.1 C.2.1 dX8_slack_10 (by decide) ?_
      exact hret _ _ (Nat.le_of_ble_eq_true rfl) (Nat.le_of_ble_eq_true rfl) hw (⟨rfl, Or.inl ⟨fun h => c7 h.2, rfl, rfl⟩⟩) dX8_slack_12

set_option maxHeartbeats 4000000 in
set_option maxRecDepth 100000 in
theorem c_X8_group {l : Launch} {D : va_G} {cI cJ cZ cH cR : ClassId} {b : Nat} {n : Nat} {M : Nat → va_E}  {mm : Nat} {sl : Int32} {G : Nat} {mo : Nat} {ta : Nat} {sc : Int32} {mv : Nat} {key : Int32} (hn : 2 ≤ n) (h0 : M 0 = .inr (8, [.ref (b + 1), .ref (b + 6), .ref (b + 22), .ref (b + 33), .ref (b + 37), .ref (b + 42), .int (nI mm), .int sl])) (h1 : M 1 = .inr (3, [.int (nI G), .int (nI mo), .int (nI ta), .int sc, .int (nI mv), .ref (b + 2), .ref (b + 3), .ref (b + 4), .ref (b + 5)]))  (hG0 : 0 < G) (hG : G ≤ 32) : Met l yX8_group (kw yX8_group cX8_group 2 (some .int)) ({ frames := 1, cells := 0, slots := 0, locals := 23 }) (va_Pc [.ref (b + 0), .int key] (kPre D (kT cI cJ cZ cH cR) b M n)) (va_Qi (fun (r : Int32) (u : (Nat → va_E) × Nat) => r = (if isK key then nI (gof G key) else -101) ∧ u.2 = n ∧ u.1 = M) (kB D (kT cI cJ cZ cH cR) b) (kA b)) 0 0 (kA b) := by
  refine k_metI (by decide +kernel) (Nat.le_of_ble_eq_true rfl) ?_
  intro p e s m below meth c ls Q C hw hret hnm hl
  have hl : lv_has ls 2 [(0, .ref (b + 0)), (1, .int key)] := hl
  refine lv_iload_n C.1 C.2.1 dX8_group_0 rfl (lv_at hl 1 rfl) ?_
  refine k_si C hw (c_X8_isKey   ) kv_X8_77 rfl hl.1 ⟨Nat.le_of_ble_eq_true rfl, Nat.le_of_ble_eq_true rfl⟩ (Nat.le_of_ble_eq_true rfl) ⟨Nat.le_of_ble_eq_true rfl, Nat.le_of_ble_eq_true rfl⟩ dX8_group_1 (fun r1 M_1 n9 H locs hp hw => ?_)
  obtain ⟨er1, en9, eM9⟩ := hp
  have en9 : n9 = n := en9
  rw [en9] at hw
  have eM9 : M_1 = M := eM9
  rw [eM9] at hw
  refine lv_if_eq (tgt := 18) C.1 C.2.1 dX8_group_4 (by decide) (fun c4 => ?_) (fun c4 => ?_)
  · have hk : ¬ isK key := fun z => by rw [er1, if_pos z] at c4; exact absurd c4 (by decide)
    refine lv_bipush (v := (-101)) C.1 C.2.1 dX8_group_18 (by decide) ?_
    exact hret _ _ (Nat.le_of_ble_eq_true rfl) (Nat.le_of_ble_eq_true rfl) hw (⟨by rw [if_neg hk], rfl, rfl⟩) dX8_group_20
  · have hk : isK key := Classical.byContradiction (fun z => c4 (by rw [er1, if_neg z]))
    obtain ⟨k, hk9, ek, ekn⟩ := isK_nI hk
    refine lv_aload_n C.1 C.2.1 dX8_group_7 rfl (lv_at hl 0 rfl) ?_
    refine k_get C hw 0 (by omega) h0 rfl inlX8 0 (by decide) q_15 rfl dX8_group_8 ?_
    refine lv_iload_n C.1 C.2.1 dX8_group_11 rfl (lv_at hl 1 rfl) ?_
    refine k_vi C hw 1 (by omega) h1 rfl (c_X3_groupOf (by omega) h1  (by omega) (by omega)) kv_X8_81 rfl hl.1 ⟨Nat.le_of_ble_eq_true rfl, Nat.le_of_ble_eq_true rfl⟩ (Nat.le_of_ble_eq_true rfl) ⟨Nat.le_of_ble_eq_true rfl, Nat.le_of_ble_eq_true rfl⟩ dX8_group_12 (fun r12 M_2 n9 H locs hp hw => ?_)
    obtain ⟨er12, en9, eM9⟩ := hp
    have en9 : n9 = n := en9
    rw [en9] at hw
    have eM9 : M_2 = M := eM9
    rw [eM9] at hw
    refine lv_goto (tgt := 20) C.1 C.2.1 dX8_group_15 (by decide) ?_
    exact hret _ _ (Nat.le_of_ble_eq_true rfl) (Nat.le_of_ble_eq_true rfl) hw (⟨by rw [if_pos hk, er12], rfl, rfl⟩) dX8_group_20

set_option maxHeartbeats 4000000 in
set_option maxRecDepth 100000 in
theorem c_X8_counted {l : Launch} {D : va_G} {cI cJ cZ cH cR : ClassId} {b : Nat} {n : Nat} {M : Nat → va_E}  {mm : Nat} {sl : Int32} {ct : Nat → Int32} {key : Int32} (hn : 25 ≤ n) (h0 : M 0 = .inr (8, [.ref (b + 1), .ref (b + 6), .ref (b + 22), .ref (b + 33), .ref (b + 37), .ref (b + 42), .int (nI mm), .int sl])) (h22 : M 22 = .inr (0, [.ref (b + 23), .ref (b + 26), .ref (b + 30)])) (h23 : M 23 = .inr (6, [.ref (b + 24), .ref (b + 25)])) (h24 : M 24 = .inl (cI, 100, .inl ct))   : Met l yX8_counted (kw yX8_counted cX8_counted 2 (some .int)) ({ frames := 1, cells := 0, slots := 0, locals := 20 }) (va_Pc [.ref (b + 0), .int key] (kPre D (kT cI cJ cZ cH cR) b M n)) (va_Qi (fun (r : Int32) (u : (Nat → va_E) × Nat) => r = (if isK key then ct (kn key) else -101) ∧ u.2 = n ∧ u.1 = M) (kB D (kT cI cJ cZ cH cR) b) (kA b)) 0 0 (kA b) := by
  refine k_metI (by decide +kernel) (Nat.le_of_ble_eq_true rfl) ?_
  intro p e s m below meth c ls Q C hw hret hnm hl
  have hl : lv_has ls 2 [(0, .ref (b + 0)), (1, .int key)] := hl
  refine lv_iload_n C.1 C.2.1 dX8_counted_0 rfl (lv_at hl 1 rfl) ?_
  refine k_si C hw (c_X8_isKey   ) kv_X8_77 rfl hl.1 ⟨Nat.le_of_ble_eq_true rfl, Nat.le_of_ble_eq_true rfl⟩ (Nat.le_of_ble_eq_true rfl) ⟨Nat.le_of_ble_eq_true rfl, Nat.le_of_ble_eq_true rfl⟩ dX8_counted_1 (fun r1 M_1 n9 H locs hp hw => ?_)
  obtain ⟨er1, en9, eM9⟩ := hp
  have en9 : n9 = n := en9
  rw [en9] at hw
  have eM9 : M_1 = M := eM9
  rw [eM9] at hw
  refine lv_if_eq (tgt := 22) C.1 C.2.1 dX8_counted_4 (by decide) (fun c4 => ?_) (fun c4 => ?_)
  · have hk : ¬ isK key := fun z => by rw [er1, if_pos z] at c4; exact absurd c4 (by decide)
    refine lv_bipush (v := (-101)) C.1 C.2.1 dX8_counted_22 (by decide) ?_
    exact hret _ _ (Nat.le_of_ble_eq_true rfl) (Nat.le_of_ble_eq_true rfl) hw (⟨by rw [if_neg hk], rfl, rfl⟩) dX8_counted_24
  · have hk : isK key := Classical.byContradiction (fun z => c4 (by rw [er1, if_neg z]))
    obtain ⟨k, hk9, ek, ekn⟩ := isK_nI hk
    refine lv_aload_n C.1 C.2.1 dX8_counted_7 rfl (lv_at hl 0 rfl) ?_
    refine k_get C hw 0 (by omega) h0 rfl inlX8 2 (by decide) q_23 rfl dX8_counted_8 ?_
    refine k_get C hw 22 (by omega) h22 rfl inlX0 0 (by decide) q_253 rfl dX8_counted_11 ?_
    refine k_get C hw 23 (by omega) h23 rfl inlX6 0 (by decide) q_254 rfl dX8_counted_14 ?_
    refine lv_iload_n C.1 C.2.1 dX8_counted_17 rfl (lv_at hl 1 rfl) ?_
    refine k_topi (y := nI k) (ek) ?_
    refine k_iald C hw 24 (by omega) h24 (by omega) (by first | decide | omega) dX8_counted_18 ?_
    refine lv_goto (tgt := 24) C.1 C.2.1 dX8_counted_19 (by decide) ?_
    exact hret _ _ (Nat.le_of_ble_eq_true rfl) (Nat.le_of_ble_eq_true rfl) hw (⟨by rw [if_pos hk, ekn], rfl, rfl⟩) dX8_counted_24

set_option maxHeartbeats 4000000 in
set_option maxRecDepth 100000 in
theorem c_X8_sum {l : Launch} {D : va_G} {cI cJ cZ cH cR : ClassId} {b : Nat} {n : Nat} {M : Nat → va_E}  {mm : Nat} {sl : Int32} {su : Nat → Int64} {key : Int32} (hn : 26 ≤ n) (h0 : M 0 = .inr (8, [.ref (b + 1), .ref (b + 6), .ref (b + 22), .ref (b + 33), .ref (b + 37), .ref (b + 42), .int (nI mm), .int sl])) (h22 : M 22 = .inr (0, [.ref (b + 23), .ref (b + 26), .ref (b + 30)])) (h23 : M 23 = .inr (6, [.ref (b + 24), .ref (b + 25)])) (h25 : M 25 = .inl (cJ, 100, .inr (.inl su)))   : Met l yX8_sum (kw yX8_sum cX8_sum 2 (some .long)) ({ frames := 1, cells := 0, slots := 0, locals := 20 }) (va_Pc [.ref (b + 0), .int key] (kPre D (kT cI cJ cZ cH cR) b M n)) (va_Ql (fun (r : Int64) (u : (Nat → va_E) × Nat) => r = (if isK key then su (kn key) else 0) ∧ u.2 = n ∧ u.1 = M) (kB D (kT cI cJ cZ cH cR) b) (kA b)) 0 0 (kA b) := by
  refine k_metL (by decide +kernel) (Nat.le_of_ble_eq_true rfl) ?_
  intro p e s m below meth c ls Q C hw hret hnm hl
  have hl : lv_has ls 2 [(0, .ref (b + 0)), (1, .int key)] := hl
  refine lv_iload_n C.1 C.2.1 dX8_sum_0 rfl (lv_at hl 1 rfl) ?_
  refine k_si C hw (c_X8_isKey   ) kv_X8_77 rfl hl.1 ⟨Nat.le_of_ble_eq_true rfl, Nat.le_of_ble_eq_true rfl⟩ (Nat.le_of_ble_eq_true rfl) ⟨Nat.le_of_ble_eq_true rfl, Nat.le_of_ble_eq_true rfl⟩ dX8_sum_1 (fun r1 M_1 n9 H locs hp hw => ?_)
  obtain ⟨er1, en9, eM9⟩ := hp
  have en9 : n9 = n := en9
  rw [en9] at hw
  have eM9 : M_1 = M := eM9
  rw [eM9] at hw
  refine lv_if_eq (tgt := 22) C.1 C.2.1 dX8_sum_4 (by decide) (fun c4 => ?_) (fun c4 => ?_)
  · have hk : ¬ isK key := fun z => by rw [er1, if_pos z] at c4; exact absurd c4 (by decide)
    refine lv_lconst (v := 0) C.1 C.2.1 dX8_sum_22 rfl ?_
    exact hret _ _ (Nat.le_of_ble_eq_true rfl) (Nat.le_of_ble_eq_true rfl) hw (⟨by rw [if_neg hk], rfl, rfl⟩) dX8_sum_23
  · have hk : isK key := Classical.byContradiction (fun z => c4 (by rw [er1, if_neg z]))
    obtain ⟨k, hk9, ek, ekn⟩ := isK_nI hk
    refine lv_aload_n C.1 C.2.1 dX8_sum_7 rfl (lv_at hl 0 rfl) ?_
    refine k_get C hw 0 (by omega) h0 rfl inlX8 2 (by decide) q_23 rfl dX8_sum_8 ?_
    refine k_get C hw 22 (by omega) h22 rfl inlX0 0 (by decide) q_253 rfl dX8_sum_11 ?_
    refine k_get C hw 23 (by omega) h23 rfl inlX6 1 (by decide) q_255 rfl dX8_sum_14 ?_
    refine lv_iload_n C.1 C.2.1 dX8_sum_17 rfl (lv_at hl 1 rfl) ?_
    refine k_topi (y := nI k) (ek) ?_
    refine k_lald C hw 25 (by omega) h25 (by omega) (by first | decide | omega) dX8_sum_18 ?_
    refine lv_goto (tgt := 23) C.1 C.2.1 dX8_sum_19 (by decide) ?_
    exact hret _ _ (Nat.le_of_ble_eq_true rfl) (Nat.le_of_ble_eq_true rfl) hw (⟨by rw [if_pos hk, ekn], rfl, rfl⟩) dX8_sum_23

set_option maxHeartbeats 4000000 in
set_option maxRecDepth 100000 in
theorem c_X8_moved {l : Launch} {D : va_G} {cI cJ cZ cH cR : ClassId} {b : Nat} {n : Nat} {M : Nat → va_E}  {mm : Nat} {sl : Int32} {G : Nat} {mo : Nat} {ta : Nat} {sc : Int32} {mv : Nat} {mg : Nat → Int32} {k : Int32} (hn : 6 ≤ n) (h0 : M 0 = .inr (8, [.ref (b + 1), .ref (b + 6), .ref (b + 22), .ref (b + 33), .ref (b + 37), .ref (b + 42), .int (nI mm), .int sl])) (h1 : M 1 = .inr (3, [.int (nI G), .int (nI mo), .int (nI ta), .int sc, .int (nI mv), .ref (b + 2), .ref (b + 3), .ref (b + 4), .ref (b + 5)])) (h5 : M 5 = .inl (cI, 32, .inl mg))  (hv : mv ≤ 32) : Met l yX8_moved (kw yX8_moved cX8_moved 2 (some .int)) ({ frames := 0, cells := 0, slots := 0, locals := 0 }) (va_Pc [.ref (b + 0), .int k] (kPre D (kT cI cJ cZ cH cR) b M n)) (va_Qi (fun (r : Int32) (u : (Nat → va_E) × Nat) => r = (if isT k mv then mg (kn k) else -106) ∧ u.2 = n ∧ u.1 = M) (kB D (kT cI cJ cZ cH cR) b) (kA b)) 0 0 (kA b) := by
  refine k_metI (by decide +kernel) (Nat.le_of_ble_eq_true rfl) ?_
  intro p e s m below meth c ls Q C hw hret hnm hl
  have hl : lv_has ls 2 [(0, .ref (b + 0)), (1, .int k)] := hl
  refine lv_iload_n C.1 C.2.1 dX8_moved_0 rfl (lv_at hl 1 rfl) ?_
  refine lv_if_lt (tgt := 15) C.1 C.2.1 dX8_moved_1 (by decide) (fun c1 => ?_) (fun c1 => ?_)
  · refine lv_bipush (v := (-106)) C.1 C.2.1 dX8_moved_15 (by decide) ?_
    refine lv_goto (tgt := 29) C.1 C.2.1 dX8_moved_17 (by decide) ?_
    exact hret _ _ (Nat.le_of_ble_eq_true rfl) (Nat.le_of_ble_eq_true rfl) hw (⟨by rw [if_neg (fun h => h.1 c1)], rfl, rfl⟩) dX8_moved_29
  · refine lv_iload_n C.1 C.2.1 dX8_moved_4 rfl (lv_at hl 1 rfl) ?_
    refine lv_aload_n C.1 C.2.1 dX8_moved_5 rfl (lv_at hl 0 rfl) ?_
    refine k_get C hw 0 (by omega) h0 rfl inlX8 0 (by decide) q_15 rfl dX8_moved_6 ?_
    refine k_get C hw 1 (by omega) h1 rfl inlX3 4 (by decide) q_392 rfl dX8_moved_9 ?_
    refine lv_icmp_lt (tgt := 20) C.1 C.2.1 dX8_moved_12 (by decide) (fun c12 => ?_) (fun c12 => ?_)
    · have ht : isT k mv := ⟨c1, Int32.not_le.mpr c12⟩
      obtain ⟨j, hj, ej, ejn⟩ := isT_nI (by omega) ht
      refine lv_aload_n C.1 C.2.1 dX8_moved_20 rfl (lv_at hl 0 rfl) ?_
      refine k_get C hw 0 (by omega) h0 rfl inlX8 0 (by decide) q_15 rfl dX8_moved_21 ?_
      refine k_get C hw 1 (by omega) h1 rfl inlX3 8 (by decide) q_393 rfl dX8_moved_24 ?_
      refine lv_iload_n C.1 C.2.1 dX8_moved_27 rfl (lv_at hl 1 rfl) ?_
      refine k_topi (y := nI j) (ej) ?_
      refine k_iald C hw 5 (by omega) h5 (by omega) (by first | decide | omega) dX8_moved_28 ?_
      exact hret _ _ (Nat.le_of_ble_eq_true rfl) (Nat.le_of_ble_eq_true rfl) hw (⟨by rw [if_pos ht, ejn], rfl, rfl⟩) dX8_moved_29
    · refine lv_bipush (v := (-106)) C.1 C.2.1 dX8_moved_15 (by decide) ?_
      refine lv_goto (tgt := 29) C.1 C.2.1 dX8_moved_17 (by decide) ?_
      exact hret _ _ (Nat.le_of_ble_eq_true rfl) (Nat.le_of_ble_eq_true rfl) hw (⟨by rw [if_neg (fun h => h.2 (Int32.not_lt.mp c12))], rfl, rfl⟩) dX8_moved_29

set_option maxHeartbeats 4000000 in
set_option maxRecDepth 100000 in
theorem c_X8_digest {l : Launch} {D : va_G} {cI cJ cZ cH cR : ClassId} {b : Nat} {n : Nat} {M : Nat → va_E}  {mm : Nat} {sl : Int32} {G : Nat} {mo : Nat} {ta : Nat} {sc : Int32} {mv : Nat} {ow : Nat → Int32} {ep : Nat → Int32}  (hn : 4 ≤ n) (h0 : M 0 = .inr (8, [.ref (b + 1), .ref (b + 6), .ref (b + 22), .ref (b + 33), .ref (b + 37), .ref (b + 42), .int (nI mm), .int sl])) (h1 : M 1 = .inr (3, [.int (nI G), .int (nI mo), .int (nI ta), .int sc, .int (nI mv), .ref (b + 2), .ref (b + 3), .ref (b + 4), .ref (b + 5)])) (h2 : M 2 = .inl (cI, 32, .inl ow)) (h3 : M 3 = .inl (cI, 32, .inl ep))  (hG0 : 0 < G) (hG : G ≤ 32) : Met l yX8_digest (kw yX8_digest cX8_digest 3 (some .int)) ({ frames := 0, cells := 0, slots := 0, locals := 0 }) (va_Pc [.ref (b + 0)] (kPre D (kT cI cJ cZ cH cR) b M n)) (va_Qi (fun (r : Int32) (u : (Nat → va_E) × Nat) => r = (dgs ow ep G) ∧ u.2 = n ∧ u.1 = M) (kB D (kT cI cJ cZ cH cR) b) (kA b)) 0 0 (kA b) := by
  refine k_metI (by decide +kernel) (Nat.le_of_ble_eq_true rfl) ?_
  intro p e s m below meth c ls Q C hw hret hnm hl
  have hl : lv_has ls 3 [(0, .ref (b + 0))] := hl
  refine lv_bipush (v := nI 17) C.1 C.2.1 dX8_digest_0 (by decide) ?_
  refine lv_istore_n (lv' := [(1, .int (nI 17)), (0, .ref (b + 0))]) C.1 C.2.1 dX8_digest_2 rfl hl (by decide) rfl (fun ls hl => ?_)
  refine lv_iconst (v := nI 0) C.1 C.2.1 dX8_digest_3 (by decide) ?_
  refine lv_istore_n (lv' := [(2, .int (nI 0)), (1, .int (nI 17)), (0, .ref (b + 0))]) C.1 C.2.1 dX8_digest_4 rfl hl (by decide) rfl (fun ls hl => ?_)
  have L5 : ∀ (N5 : Nat) (i : Nat) (a : Int32), (G - i < N5) → (i ≤ G) → (a = dgs ow ep i) → ∀ (ls : Array Slot) (H : Heap) (locs : List Loc), lv_has ls 3 [(2, .int (nI i)), (1, .int a), (0, .ref (b + 0))] → kW D b M n s.heap H locs → W p l e ({ frames := 0, cells := 0, slots := 0, locals := 0 } : Room) s m ([.ref (b + 0)] : List Value).toArray below meth c H locs 0 0 Q (F0 m 5 ls []) := by
    intro N5
    induction N5 with
    | zero => intro i a hm5 hi ha ls H locs hl hw; omega
    | succ N5 ih5 =>
      intro i a hm5 hi ha ls H locs hl hw
      refine lv_iload_n C.1 C.2.1 dX8_digest_5 rfl (lv_at hl 0 rfl) ?_
      refine lv_aload_n C.1 C.2.1 dX8_digest_6 rfl (lv_at hl 2 rfl) ?_
      refine k_get C hw 0 (by omega) h0 rfl inlX8 0 (by decide) q_15 rfl dX8_digest_7 ?_
      refine k_get C hw 1 (by omega) h1 rfl inlX3 0 (by decide) q_306 rfl dX8_digest_10 ?_
      refine lv_icmp_ge (tgt := 50) C.1 C.2.1 dX8_digest_13 (by decide) (fun c13 => ?_) (fun c13 => ?_)
      · have q13 := (nI_leI (by omega) (by omega)).mp c13
        have q13 : i = G := by omega
        refine lv_iload_n C.1 C.2.1 dX8_digest_50 rfl (lv_at hl 1 rfl) ?_
        exact hret _ _ (Nat.le_of_ble_eq_true rfl) (Nat.le_of_ble_eq_true rfl) hw (⟨by rw [ha, q13], rfl, rfl⟩) dX8_digest_51
      · have q13 : ¬ G ≤ i := fun z => c13 ((nI_leI (by omega) (by omega)).mpr z)
        refine lv_bipush (v := nI 31) C.1 C.2.1 dX8_digest_16 (by decide) ?_
        refine lv_iload_n C.1 C.2.1 dX8_digest_18 rfl (lv_at hl 1 rfl) ?_
        refine lv_imul C.1 C.2.1 dX8_digest_19 ?_
        refine lv_bipush (v := nI 100) C.1 C.2.1 dX8_digest_20 (by decide) ?_
        refine lv_aload_n C.1 C.2.1 dX8_digest_22 rfl (lv_at hl 2 rfl) ?_
        refine k_get C hw 0 (by omega) h0 rfl inlX8 0 (by decide) q_15 rfl dX8_digest_23 ?_
        refine k_get C hw 1 (by omega) h1 rfl inlX3 5 (by decide) q_231 rfl dX8_digest_26 ?_
        refine lv_iload_n C.1 C.2.1 dX8_digest_29 rfl (lv_at hl 0 rfl) ?_
        refine k_iald C hw 2 (by omega) h2 (by omega) (by first | decide | omega) dX8_digest_30 ?_
        refine lv_imul C.1 C.2.1 dX8_digest_31 ?_
        refine lv_iadd C.1 C.2.1 dX8_digest_32 ?_
        refine lv_aload_n C.1 C.2.1 dX8_digest_33 rfl (lv_at hl 2 rfl) ?_
        refine k_get C hw 0 (by omega) h0 rfl inlX8 0 (by decide) q_15 rfl dX8_digest_34 ?_
        refine k_get C hw 1 (by omega) h1 rfl inlX3 6 (by decide) q_296 rfl dX8_digest_37 ?_
        refine lv_iload_n C.1 C.2.1 dX8_digest_40 rfl (lv_at hl 0 rfl) ?_
        refine k_iald C hw 3 (by omega) h3 (by omega) (by first | decide | omega) dX8_digest_41 ?_
        refine lv_iadd C.1 C.2.1 dX8_digest_42 ?_
        refine lv_topi (fun a2 ea2 => ?_)
        refine lv_istore_n (lv' := [(1, .int a2), (2, .int (nI i)), (0, .ref (b + 0))]) C.1 C.2.1 dX8_digest_43 rfl hl (by decide) rfl (fun ls hl => ?_)
        refine lv_iinc (v := (nI (i + 1))) (lv' := [(2, .int (nI (i + 1))), (1, .int a2), (0, .ref (b + 0))]) C.1 C.2.1 dX8_digest_44 hl (k := 1) rfl (k_inc _ 1) (by decide) rfl (fun ls hl => ?_)
        refine lv_goto (tgt := 5) C.1 C.2.1 dX8_digest_47 (by decide) ?_
        exact ih5  (i + 1) (a2) (by omega) (by omega) (by rw [ea2, ha]; rfl) ls _ _ (lv_sub hl [0, 1, 2] rfl) hw
  exact L5 (_ + 1) (0) (nI 17) (Nat.lt_succ_self _) (Nat.zero_le _) (rfl) ls _ _ (lv_sub hl [0, 1, 2] rfl) hw

set_option maxHeartbeats 4000000 in
set_option maxRecDepth 100000 in
theorem c_X8_told {l : Launch} {D : va_G} {cI cJ cZ cH cR : ClassId} {b : Nat} {n : Nat} {M : Nat → va_E}  {mm : Nat} {sl : Int32} {G : Nat} {mo : Nat} {ta : Nat} {sc : Int32} {mv : Nat} {we : Nat → Int32} {rs : Nat} {ca : Nat} {ts : Nat} {tr : Int32} {os : Nat} {lx : Nat} {lz : Nat} {w : Int32} (hn : 38 ≤ n) (h0 : M 0 = .inr (8, [.ref (b + 1), .ref (b + 6), .ref (b + 22), .ref (b + 33), .ref (b + 37), .ref (b + 42), .int (nI mm), .int sl])) (h1 : M 1 = .inr (3, [.int (nI G), .int (nI mo), .int (nI ta), .int sc, .int (nI mv), .ref (b + 2), .ref (b + 3), .ref (b + 4), .ref (b + 5)])) (h4 : M 4 = .inl (cI, 32, .inl we)) (h22 : M 22 = .inr (0, [.ref (b + 23), .ref (b + 26), .ref (b + 30)])) (h26 : M 26 = .inr (5, [.ref (b + 27), .ref (b + 28), .ref (b + 29), .int (nI rs), .int (nI ca)])) (h30 : M 30 = .inr (7, [.ref (b + 31), .ref (b + 32), .int (nI ts), .int tr])) (h33 : M 33 = .inr (2, [.ref (b + 34), .ref (b + 35), .ref (b + 36), .int (nI os)])) (h37 : M 37 = .inr (1, [.ref (b + 38), .ref (b + 39), .ref (b + 40), .ref (b + 41), .int (nI lx), .int (nI lz)]))  (hG0 : 0 < G) (hG : G ≤ 32) : Met l yX8_told (kw yX8_told cX8_told 2 (some .int)) ({ frames := 1, cells := 0, slots := 0, locals := 22 }) (va_Pc [.ref (b + 0), .int w] (kPre D (kT cI cJ cZ cH cR) b M n)) (va_Qi (fun (r : Int32) (u : (Nat → va_E) × Nat) => r = (selI w [nI G, nI mo, nI ta, nI ca, nI rs, nI os, sm we G, nI ts, tr, nI lz, nI mm, sc]) ∧ u.2 = n ∧ u.1 = M) (kB D (kT cI cJ cZ cH cR) b) (kA b)) 0 0 (kA b) := by
  refine k_metI (by decide +kernel) (Nat.le_of_ble_eq_true rfl) ?_
  intro p e s m below meth c ls Q C hw hret hnm hl
  have hl : lv_has ls 2 [(0, .ref (b + 0)), (1, .int w)] := hl
  refine lv_iload_n C.1 C.2.1 dX8_told_0 rfl (lv_at hl 1 rfl) ?_
  rcases k_sw (x := w) (lo := 0) (hi := 11) with hsw | ⟨k9, hk1, hk2, hsw⟩
  · refine lv_tableOut (tgt := 169) C.1 C.2.1 dX8_told_1 hsw (by decide) ?_
    refine lv_bipush (v := (-102)) C.1 C.2.1 dX8_told_169 (by decide) ?_
    exact hret _ _ (Nat.le_of_ble_eq_true rfl) (Nat.le_of_ble_eq_true rfl) hw (⟨(selI_out hsw rfl).symm, rfl, rfl⟩) dX8_told_171
  · rcases (show k9 = 0 ∨ k9 = 1 ∨ k9 = 2 ∨ k9 = 3 ∨ k9 = 4 ∨ k9 = 5 ∨ k9 = 6 ∨ k9 = 7 ∨ k9 = 8 ∨ k9 = 9 ∨ k9 = 10 ∨ k9 = 11 by omega) with rfl | rfl | rfl | rfl | rfl | rfl | rfl | rfl | rfl | rfl | rfl | rfl
    · refine lv_tableIn (off := 63) (tgt := 64) C.1 C.2.1 dX8_told_1 (by rw [hsw]; decide) (by rw [hsw]; decide) (by rw [hsw]; decide) (by decide) ?_
      refine lv_aload_n C.1 C.2.1 dX8_told_64 rfl (lv_at hl 0 rfl) ?_
      refine k_get C hw 0 (by omega) h0 rfl inlX8 0 (by decide) q_15 rfl dX8_told_65 ?_
      refine k_get C hw 1 (by omega) h1 rfl inlX3 0 (by decide) q_306 rfl dX8_told_68 ?_
      exact hret _ _ (Nat.le_of_ble_eq_true rfl) (Nat.le_of_ble_eq_true rfl) hw (⟨(selI_at 0 hsw rfl).symm, rfl, rfl⟩) dX8_told_71
    · refine lv_tableIn (off := 71) (tgt := 72) C.1 C.2.1 dX8_told_1 (by rw [hsw]; decide) (by rw [hsw]; decide) (by rw [hsw]; decide) (by decide) ?_
      refine lv_aload_n C.1 C.2.1 dX8_told_72 rfl (lv_at hl 0 rfl) ?_
      refine k_get C hw 0 (by omega) h0 rfl inlX8 0 (by decide) q_15 rfl dX8_told_73 ?_
      refine k_get C hw 1 (by omega) h1 rfl inlX3 1 (by decide) q_305 rfl dX8_told_76 ?_
      exact hret _ _ (Nat.le_of_ble_eq_true rfl) (Nat.le_of_ble_eq_true rfl) hw (⟨(selI_at 1 hsw rfl).symm, rfl, rfl⟩) dX8_told_79
    · refine lv_tableIn (off := 79) (tgt := 80) C.1 C.2.1 dX8_told_1 (by rw [hsw]; decide) (by rw [hsw]; decide) (by rw [hsw]; decide) (by decide) ?_
      refine lv_aload_n C.1 C.2.1 dX8_told_80 rfl (lv_at hl 0 rfl) ?_
      refine k_get C hw 0 (by omega) h0 rfl inlX8 0 (by decide) q_15 rfl dX8_told_81 ?_
      refine k_get C hw 1 (by omega) h1 rfl inlX3 2 (by decide) q_261 rfl dX8_told_84 ?_
      exact hret _ _ (Nat.le_of_ble_eq_true rfl) (Nat.le_of_ble_eq_true rfl) hw (⟨(selI_at 2 hsw rfl).symm, rfl, rfl⟩) dX8_told_87
    · refine lv_tableIn (off := 87) (tgt := 88) C.1 C.2.1 dX8_told_1 (by rw [hsw]; decide) (by rw [hsw]; decide) (by rw [hsw]; decide) (by decide) ?_
      refine lv_aload_n C.1 C.2.1 dX8_told_88 rfl (lv_at hl 0 rfl) ?_
      refine k_get C hw 0 (by omega) h0 rfl inlX8 2 (by decide) q_23 rfl dX8_told_89 ?_
      refine k_get C hw 22 (by omega) h22 rfl inlX0 1 (by decide) q_177 rfl dX8_told_92 ?_
      refine k_get C hw 26 (by omega) h26 rfl inlX5 4 (by decide) q_178 rfl dX8_told_95 ?_
      exact hret _ _ (Nat.le_of_ble_eq_true rfl) (Nat.le_of_ble_eq_true rfl) hw (⟨(selI_at 3 hsw rfl).symm, rfl, rfl⟩) dX8_told_98
    · refine lv_tableIn (off := 98) (tgt := 99) C.1 C.2.1 dX8_told_1 (by rw [hsw]; decide) (by rw [hsw]; decide) (by rw [hsw]; decide) (by decide) ?_
      refine lv_aload_n C.1 C.2.1 dX8_told_99 rfl (lv_at hl 0 rfl) ?_
      refine k_get C hw 0 (by omega) h0 rfl inlX8 2 (by decide) q_23 rfl dX8_told_100 ?_
      refine k_get C hw 22 (by omega) h22 rfl inlX0 1 (by decide) q_177 rfl dX8_told_103 ?_
      refine k_get C hw 26 (by omega) h26 rfl inlX5 3 (by decide) q_266 rfl dX8_told_106 ?_
      exact hret _ _ (Nat.le_of_ble_eq_true rfl) (Nat.le_of_ble_eq_true rfl) hw (⟨(selI_at 4 hsw rfl).symm, rfl, rfl⟩) dX8_told_109
    · refine lv_tableIn (off := 109) (tgt := 110) C.1 C.2.1 dX8_told_1 (by rw [hsw]; decide) (by rw [hsw]; decide) (by rw [hsw]; decide) (by decide) ?_
      refine lv_aload_n C.1 C.2.1 dX8_told_110 rfl (lv_at hl 0 rfl) ?_
      refine k_get C hw 0 (by omega) h0 rfl inlX8 3 (by decide) q_27 rfl dX8_told_111 ?_
      refine k_get C hw 33 (by omega) h33 rfl inlX2 3 (by decide) q_558 rfl dX8_told_114 ?_
      exact hret _ _ (Nat.le_of_ble_eq_true rfl) (Nat.le_of_ble_eq_true rfl) hw (⟨(selI_at 5 hsw rfl).symm, rfl, rfl⟩) dX8_told_117
    · refine lv_tableIn (off := 117) (tgt := 118) C.1 C.2.1 dX8_told_1 (by rw [hsw]; decide) (by rw [hsw]; decide) (by rw [hsw]; decide) (by decide) ?_
      refine lv_aload_n C.1 C.2.1 dX8_told_118 rfl (lv_at hl 0 rfl) ?_
      refine k_get C hw 0 (by omega) h0 rfl inlX8 0 (by decide) q_15 rfl dX8_told_119 ?_
      refine k_vi C hw 1 (by omega) h1 rfl (c_X3_totalWeight (by omega) h1 h4  (by omega) (by omega)) kv_X8_181 rfl hl.1 ⟨Nat.le_of_ble_eq_true rfl, Nat.le_of_ble_eq_true rfl⟩ (Nat.le_of_ble_eq_true rfl) ⟨Nat.le_of_ble_eq_true rfl, Nat.le_of_ble_eq_true rfl⟩ dX8_told_122 (fun r122 M_1 n9 H locs hp hw => ?_)
      obtain ⟨er122, en9, eM9⟩ := hp
      have en9 : n9 = n := en9
      rw [en9] at hw
      have eM9 : M_1 = M := eM9
      rw [eM9] at hw
      exact hret _ _ (Nat.le_of_ble_eq_true rfl) (Nat.le_of_ble_eq_true rfl) hw (⟨by rw [er122]; exact (selI_at 6 hsw rfl).symm, rfl, rfl⟩) dX8_told_125
    · refine lv_tableIn (off := 125) (tgt := 126) C.1 C.2.1 dX8_told_1 (by rw [hsw]; decide) (by rw [hsw]; decide) (by rw [hsw]; decide) (by decide) ?_
      refine lv_aload_n C.1 C.2.1 dX8_told_126 rfl (lv_at hl 0 rfl) ?_
      refine k_get C hw 0 (by omega) h0 rfl inlX8 2 (by decide) q_23 rfl dX8_told_127 ?_
      refine k_get C hw 22 (by omega) h22 rfl inlX0 2 (by decide) q_179 rfl dX8_told_130 ?_
      refine k_get C hw 30 (by omega) h30 rfl inlX7 2 (by decide) q_180 rfl dX8_told_133 ?_
      exact hret _ _ (Nat.le_of_ble_eq_true rfl) (Nat.le_of_ble_eq_true rfl) hw (⟨(selI_at 7 hsw rfl).symm, rfl, rfl⟩) dX8_told_136
    · refine lv_tableIn (off := 136) (tgt := 137) C.1 C.2.1 dX8_told_1 (by rw [hsw]; decide) (by rw [hsw]; decide) (by rw [hsw]; decide) (by decide) ?_
      refine lv_aload_n C.1 C.2.1 dX8_told_137 rfl (lv_at hl 0 rfl) ?_
      refine k_get C hw 0 (by omega) h0 rfl inlX8 2 (by decide) q_23 rfl dX8_told_138 ?_
      refine k_get C hw 22 (by omega) h22 rfl inlX0 2 (by decide) q_179 rfl dX8_told_141 ?_
      refine k_get C hw 30 (by omega) h30 rfl inlX7 3 (by decide) q_492 rfl dX8_told_144 ?_
      exact hret _ _ (Nat.le_of_ble_eq_true rfl) (Nat.le_of_ble_eq_true rfl) hw (⟨(selI_at 8 hsw rfl).symm, rfl, rfl⟩) dX8_told_147
    · refine lv_tableIn (off := 147) (tgt := 148) C.1 C.2.1 dX8_told_1 (by rw [hsw]; decide) (by rw [hsw]; decide) (by rw [hsw]; decide) (by decide) ?_
      refine lv_aload_n C.1 C.2.1 dX8_told_148 rfl (lv_at hl 0 rfl) ?_
      refine k_get C hw 0 (by omega) h0 rfl inlX8 4 (by decide) q_31 rfl dX8_told_149 ?_
      refine k_get C hw 37 (by omega) h37 rfl inlX1 5 (by decide) q_573 rfl dX8_told_152 ?_
      exact hret _ _ (Nat.le_of_ble_eq_true rfl) (Nat.le_of_ble_eq_true rfl) hw (⟨(selI_at 9 hsw rfl).symm, rfl, rfl⟩) dX8_told_155
    · refine lv_tableIn (off := 155) (tgt := 156) C.1 C.2.1 dX8_told_1 (by rw [hsw]; decide) (by rw [hsw]; decide) (by rw [hsw]; decide) (by decide) ?_
      refine lv_aload_n C.1 C.2.1 dX8_told_156 rfl (lv_at hl 0 rfl) ?_
      refine k_get C hw 0 (by omega) h0 rfl inlX8 6 (by decide) q_181 rfl dX8_told_157 ?_
      exact hret _ _ (Nat.le_of_ble_eq_true rfl) (Nat.le_of_ble_eq_true rfl) hw (⟨(selI_at 10 hsw rfl).symm, rfl, rfl⟩) dX8_told_160
    · refine lv_tableIn (off := 160) (tgt := 161) C.1 C.2.1 dX8_told_1 (by rw [hsw]; decide) (by rw [hsw]; decide) (by rw [hsw]; decide) (by decide) ?_
      refine lv_aload_n C.1 C.2.1 dX8_told_161 rfl (lv_at hl 0 rfl) ?_
      refine k_get C hw 0 (by omega) h0 rfl inlX8 0 (by decide) q_15 rfl dX8_told_162 ?_
      refine k_get C hw 1 (by omega) h1 rfl inlX3 3 (by decide) q_649 rfl dX8_told_165 ?_
      exact hret _ _ (Nat.le_of_ble_eq_true rfl) (Nat.le_of_ble_eq_true rfl) hw (⟨(selI_at 11 hsw rfl).symm, rfl, rfl⟩) dX8_told_168

set_option maxHeartbeats 4000000 in
set_option maxRecDepth 100000 in
theorem c_X8_groupAt {l : Launch} {D : va_G} {cI cJ cZ cH cR : ClassId} {b : Nat} {n : Nat} {M : Nat → va_E}  {mm : Nat} {sl : Int32} {G : Nat} {mo : Nat} {ta : Nat} {sc : Int32} {mv : Nat} {ow : Nat → Int32} {ep : Nat → Int32} {we : Nat → Int32} {rs : Nat} {ca : Nat} {rk : Nat → Int32} {g w : Int32} (hn : 29 ≤ n) (h0 : M 0 = .inr (8, [.ref (b + 1), .ref (b + 6), .ref (b + 22), .ref (b + 33), .ref (b + 37), .ref (b + 42), .int (nI mm), .int sl])) (h1 : M 1 = .inr (3, [.int (nI G), .int (nI mo), .int (nI ta), .int sc, .int (nI mv), .ref (b + 2), .ref (b + 3), .ref (b + 4), .ref (b + 5)])) (h2 : M 2 = .inl (cI, 32, .inl ow)) (h3 : M 3 = .inl (cI, 32, .inl ep)) (h4 : M 4 = .inl (cI, 32, .inl we)) (h22 : M 22 = .inr (0, [.ref (b + 23), .ref (b + 26), .ref (b + 30)])) (h26 : M 26 = .inr (5, [.ref (b + 27), .ref (b + 28), .ref (b + 29), .int (nI rs), .int (nI ca)])) (h28 : M 28 = .inl (cI, 400, .inl rk))  (hG0 : 0 < G) (hG : G ≤ 32) (hs : rs ≤ 400) : Met l yX8_groupAt (kw yX8_groupAt cX8_groupAt 3 (some .int)) ({ frames := 2, cells := 0, slots := 0, locals := 46 }) (va_Pc [.ref (b + 0), .int g, .int w] (kPre D (kT cI cJ cZ cH cR) b M n)) (va_Qi (fun (r : Int32) (u : (Nat → va_E) × Nat) => r = (if isT g G then selI w [ow (kn g), ep (kn g), we (kn g), nI (cnt (wgP G rk g) rs)] else -101) ∧ u.2 = n ∧ u.1 = M) (kB D (kT cI cJ cZ cH cR) b) (kA b)) 0 0 (kA b) := by
  refine k_metI (by decide +kernel) (Nat.le_of_ble_eq_true rfl) ?_
  intro p e s m below meth c ls Q C hw hret hnm hl
  have hl : lv_has ls 3 [(0, .ref (b + 0)), (1, .int g), (2, .int w)] := hl
  refine lv_iload_n C.1 C.2.1 dX8_groupAt_0 rfl (lv_at hl 1 rfl) ?_
  refine lv_if_lt (tgt := 15) C.1 C.2.1 dX8_groupAt_1 (by decide) (fun c1 => ?_) (fun c1 => ?_)
  · refine lv_bipush (v := (-101)) C.1 C.2.1 dX8_groupAt_15 (by decide) ?_
    exact hret _ _ (Nat.le_of_ble_eq_true rfl) (Nat.le_of_ble_eq_true rfl) hw (⟨by rw [if_neg (fun h => h.1 c1)], rfl, rfl⟩) dX8_groupAt_17
  · refine lv_iload_n C.1 C.2.1 dX8_groupAt_4 rfl (lv_at hl 1 rfl) ?_
    refine lv_aload_n C.1 C.2.1 dX8_groupAt_5 rfl (lv_at hl 0 rfl) ?_
    refine k_get C hw 0 (by omega) h0 rfl inlX8 0 (by decide) q_15 rfl dX8_groupAt_6 ?_
    refine k_get C hw 1 (by omega) h1 rfl inlX3 0 (by decide) q_306 rfl dX8_groupAt_9 ?_
    refine lv_icmp_lt (tgt := 18) C.1 C.2.1 dX8_groupAt_12 (by decide) (fun c12 => ?_) (fun c12 => ?_)
    · have hg : isT g G := ⟨c1, Int32.not_le.mpr c12⟩
      obtain ⟨j, hj, ej, ejn⟩ := isT_nI (by omega) hg
      refine lv_iload_n C.1 C.2.1 dX8_groupAt_18 rfl (lv_at hl 2 rfl) ?_
      rcases k_sw (x := w) (lo := 0) (hi := 3) with hsw | ⟨k9, hk1, hk2, hsw⟩
      · refine lv_tableOut (tgt := 84) C.1 C.2.1 dX8_groupAt_19 hsw (by decide) ?_
        refine lv_bipush (v := (-102)) C.1 C.2.1 dX8_groupAt_84 (by decide) ?_
        exact hret _ _ (Nat.le_of_ble_eq_true rfl) (Nat.le_of_ble_eq_true rfl) hw (⟨by rw [if_pos hg, selI_out hsw rfl], rfl, rfl⟩) dX8_groupAt_86
      · rcases (show k9 = 0 ∨ k9 = 1 ∨ k9 = 2 ∨ k9 = 3 by omega) with rfl | rfl | rfl | rfl
        · refine lv_tableIn (off := 29) (tgt := 48) C.1 C.2.1 dX8_groupAt_19 (by rw [hsw]; decide) (by rw [hsw]; decide) (by rw [hsw]; decide) (by decide) ?_
          refine lv_aload_n C.1 C.2.1 dX8_groupAt_48 rfl (lv_at hl 0 rfl) ?_
          refine k_get C hw 0 (by omega) h0 rfl inlX8 0 (by decide) q_15 rfl dX8_groupAt_49 ?_
          refine k_get C hw 1 (by omega) h1 rfl inlX3 5 (by decide) q_231 rfl dX8_groupAt_52 ?_
          refine lv_iload_n C.1 C.2.1 dX8_groupAt_55 rfl (lv_at hl 1 rfl) ?_
          refine k_topi (y := nI j) (ej) ?_
          refine k_iald C hw 2 (by omega) h2 (by omega) (by first | decide | omega) dX8_groupAt_56 ?_
          exact hret _ _ (Nat.le_of_ble_eq_true rfl) (Nat.le_of_ble_eq_true rfl) hw (⟨by rw [if_pos hg, selI_at 0 hsw rfl, ejn], rfl, rfl⟩) dX8_groupAt_57
        · refine lv_tableIn (off := 39) (tgt := 58) C.1 C.2.1 dX8_groupAt_19 (by rw [hsw]; decide) (by rw [hsw]; decide) (by rw [hsw]; decide) (by decide) ?_
          refine lv_aload_n C.1 C.2.1 dX8_groupAt_58 rfl (lv_at hl 0 rfl) ?_
          refine k_get C hw 0 (by omega) h0 rfl inlX8 0 (by decide) q_15 rfl dX8_groupAt_59 ?_
          refine k_get C hw 1 (by omega) h1 rfl inlX3 6 (by decide) q_296 rfl dX8_groupAt_62 ?_
          refine lv_iload_n C.1 C.2.1 dX8_groupAt_65 rfl (lv_at hl 1 rfl) ?_
          refine k_topi (y := nI j) (ej) ?_
          refine k_iald C hw 3 (by omega) h3 (by omega) (by first | decide | omega) dX8_groupAt_66 ?_
          exact hret _ _ (Nat.le_of_ble_eq_true rfl) (Nat.le_of_ble_eq_true rfl) hw (⟨by rw [if_pos hg, selI_at 1 hsw rfl, ejn], rfl, rfl⟩) dX8_groupAt_67
        · refine lv_tableIn (off := 49) (tgt := 68) C.1 C.2.1 dX8_groupAt_19 (by rw [hsw]; decide) (by rw [hsw]; decide) (by rw [hsw]; decide) (by decide) ?_
          refine lv_aload_n C.1 C.2.1 dX8_groupAt_68 rfl (lv_at hl 0 rfl) ?_
          refine k_get C hw 0 (by omega) h0 rfl inlX8 0 (by decide) q_15 rfl dX8_groupAt_69 ?_
          refine k_get C hw 1 (by omega) h1 rfl inlX3 7 (by decide) q_230 rfl dX8_groupAt_72 ?_
          refine lv_iload_n C.1 C.2.1 dX8_groupAt_75 rfl (lv_at hl 1 rfl) ?_
          refine k_topi (y := nI j) (ej) ?_
          refine k_iald C hw 4 (by omega) h4 (by omega) (by first | decide | omega) dX8_groupAt_76 ?_
          exact hret _ _ (Nat.le_of_ble_eq_true rfl) (Nat.le_of_ble_eq_true rfl) hw (⟨by rw [if_pos hg, selI_at 2 hsw rfl, ejn], rfl, rfl⟩) dX8_groupAt_77
        · refine lv_tableIn (off := 59) (tgt := 78) C.1 C.2.1 dX8_groupAt_19 (by rw [hsw]; decide) (by rw [hsw]; decide) (by rw [hsw]; decide) (by decide) ?_
          refine lv_aload_n C.1 C.2.1 dX8_groupAt_78 rfl (lv_at hl 0 rfl) ?_
          refine lv_iload_n C.1 C.2.1 dX8_groupAt_79 rfl (lv_at hl 1 rfl) ?_
          refine k_vi C hw 0 (by omega) h0 rfl (c_X8_waitingOfGroup (by omega) h0 h1 h22 h26 h28  (by omega) (by omega) (by omega)) kv_X8_163 rfl hl.1 ⟨Nat.le_of_ble_eq_true rfl, Nat.le_of_ble_eq_true rfl⟩ (Nat.le_of_ble_eq_true rfl) ⟨Nat.le_of_ble_eq_true rfl, Nat.le_of_ble_eq_true rfl⟩ dX8_groupAt_80 (fun r80 M_1 n9 H locs hp hw => ?_)
          obtain ⟨er80, en9, eM9⟩ := hp
          have en9 : n9 = n := en9
          rw [en9] at hw
          have eM9 : M_1 = M := eM9
          rw [eM9] at hw
          exact hret _ _ (Nat.le_of_ble_eq_true rfl) (Nat.le_of_ble_eq_true rfl) hw (⟨by rw [if_pos hg, selI_at 3 hsw rfl, er80], rfl, rfl⟩) dX8_groupAt_83
    · refine lv_bipush (v := (-101)) C.1 C.2.1 dX8_groupAt_15 (by decide) ?_
      exact hret _ _ (Nat.le_of_ble_eq_true rfl) (Nat.le_of_ble_eq_true rfl) hw (⟨by rw [if_neg (fun h => h.2 (Int32.not_lt.mp c12))], rfl, rfl⟩) dX8_groupAt_17

set_option maxHeartbeats 4000000 in
set_option maxRecDepth 100000 in
theorem c_X8_taskAt {l : Launch} {D : va_G} {cI cJ cZ cH cR : ClassId} {b : Nat} {n : Nat} {M : Nat → va_E}  {mm : Nat} {sl : Int32} {G : Nat} {mo : Nat} {ta : Nat} {sc : Int32} {mv : Nat} {ow : Nat → Int32} {we : Nat → Int32} {rs : Nat} {ca : Nat} {rn : Nat → Int32} {rk : Nat → Int32} {t w : Int32} (hn : 29 ≤ n) (h0 : M 0 = .inr (8, [.ref (b + 1), .ref (b + 6), .ref (b + 22), .ref (b + 33), .ref (b + 37), .ref (b + 42), .int (nI mm), .int sl])) (h1 : M 1 = .inr (3, [.int (nI G), .int (nI mo), .int (nI ta), .int sc, .int (nI mv), .ref (b + 2), .ref (b + 3), .ref (b + 4), .ref (b + 5)])) (h2 : M 2 = .inl (cI, 32, .inl ow)) (h4 : M 4 = .inl (cI, 32, .inl we)) (h22 : M 22 = .inr (0, [.ref (b + 23), .ref (b + 26), .ref (b + 30)])) (h26 : M 26 = .inr (5, [.ref (b + 27), .ref (b + 28), .ref (b + 29), .int (nI rs), .int (nI ca)])) (h27 : M 27 = .inl (cI, 400, .inl rn)) (h28 : M 28 = .inl (cI, 400, .inl rk))  (hG0 : 0 < G) (hG : G ≤ 32) (hs : rs ≤ 400) : Met l yX8_taskAt (kw yX8_taskAt cX8_taskAt 3 (some .int)) ({ frames := 4, cells := 0, slots := 0, locals := 89 }) (va_Pc [.ref (b + 0), .int t, .int w] (kPre D (kT cI cJ cZ cH cR) b M n)) (va_Qi (fun (r : Int32) (u : (Nat → va_E) × Nat) => r = (if isT t ta then selI w [fI (fun g => ow g == t) G, nI (cnt (fun g => ow g == t) G), sm (fun g => if ow g = t then we g else 0) G, nI (cnt (lnP G ow rk t) rs), fN (lnP G ow rk t) rn rs] else -101) ∧ u.2 = n ∧ u.1 = M) (kB D (kT cI cJ cZ cH cR) b) (kA b)) 0 0 (kA b) := by
  refine k_metI (by decide +kernel) (Nat.le_of_ble_eq_true rfl) ?_
  intro p e s m below meth c ls Q C hw hret hnm hl
  have hl : lv_has ls 3 [(0, .ref (b + 0)), (1, .int t), (2, .int w)] := hl
  refine lv_aload_n C.1 C.2.1 dX8_taskAt_0 rfl (lv_at hl 0 rfl) ?_
  refine lv_iload_n C.1 C.2.1 dX8_taskAt_1 rfl (lv_at hl 1 rfl) ?_
  refine k_vi C hw 0 (by omega) h0 rfl (c_X8_isTask (by omega) h0 h1  ) kv_X8_98 rfl hl.1 ⟨Nat.le_of_ble_eq_true rfl, Nat.le_of_ble_eq_true rfl⟩ (Nat.le_of_ble_eq_true rfl) ⟨Nat.le_of_ble_eq_true rfl, Nat.le_of_ble_eq_true rfl⟩ dX8_taskAt_2 (fun r2 M_1 n9 H locs hp hw => ?_)
  obtain ⟨er2, en9, eM9⟩ := hp
  have en9 : n9 = n := en9
  rw [en9] at hw
  have eM9 : M_1 = M := eM9
  rw [eM9] at hw
  refine lv_if_ne (tgt := 11) C.1 C.2.1 dX8_taskAt_5 (by decide) (fun c5 => ?_) (fun c5 => ?_)
  · have ht : isT t ta := Classical.byContradiction (fun z => c5 (by rw [er2, if_neg z]))
    refine lv_iload_n C.1 C.2.1 dX8_taskAt_11 rfl (lv_at hl 2 rfl) ?_
    rcases k_sw (x := w) (lo := 0) (hi := 4) with hsw | ⟨k9, hk1, hk2, hsw⟩
    · refine lv_tableOut (tgt := 87) C.1 C.2.1 dX8_taskAt_12 hsw (by decide) ?_
      refine lv_bipush (v := (-102)) C.1 C.2.1 dX8_taskAt_87 (by decide) ?_
      exact hret _ _ (Nat.le_of_ble_eq_true rfl) (Nat.le_of_ble_eq_true rfl) hw (⟨by rw [if_pos ht, selI_out hsw rfl], rfl, rfl⟩) dX8_taskAt_89
    · rcases (show k9 = 0 ∨ k9 = 1 ∨ k9 = 2 ∨ k9 = 3 ∨ k9 = 4 by omega) with rfl | rfl | rfl | rfl | rfl
      · refine lv_tableIn (off := 36) (tgt := 48) C.1 C.2.1 dX8_taskAt_12 (by rw [hsw]; decide) (by rw [hsw]; decide) (by rw [hsw]; decide) (by decide) ?_
        refine lv_aload_n C.1 C.2.1 dX8_taskAt_48 rfl (lv_at hl 0 rfl) ?_
        refine k_get C hw 0 (by omega) h0 rfl inlX8 0 (by decide) q_15 rfl dX8_taskAt_49 ?_
        refine lv_iload_n C.1 C.2.1 dX8_taskAt_52 rfl (lv_at hl 1 rfl) ?_
        refine k_vi C hw 1 (by omega) h1 rfl (c_X3_firstOf (by omega) h1 h2  (by omega) (by omega)) kv_X8_166 rfl hl.1 ⟨Nat.le_of_ble_eq_true rfl, Nat.le_of_ble_eq_true rfl⟩ (Nat.le_of_ble_eq_true rfl) ⟨Nat.le_of_ble_eq_true rfl, Nat.le_of_ble_eq_true rfl⟩ dX8_taskAt_53 (fun r53 M_2 n9 H locs hp hw => ?_)
        obtain ⟨er53, en9, eM9⟩ := hp
        have en9 : n9 = n := en9
        rw [en9] at hw
        have eM9 : M_2 = M := eM9
        rw [eM9] at hw
        exact hret _ _ (Nat.le_of_ble_eq_true rfl) (Nat.le_of_ble_eq_true rfl) hw (⟨by rw [if_pos ht, selI_at 0 hsw rfl, er53], rfl, rfl⟩) dX8_taskAt_56
      · refine lv_tableIn (off := 45) (tgt := 57) C.1 C.2.1 dX8_taskAt_12 (by rw [hsw]; decide) (by rw [hsw]; decide) (by rw [hsw]; decide) (by decide) ?_
        refine lv_aload_n C.1 C.2.1 dX8_taskAt_57 rfl (lv_at hl 0 rfl) ?_
        refine k_get C hw 0 (by omega) h0 rfl inlX8 0 (by decide) q_15 rfl dX8_taskAt_58 ?_
        refine lv_iload_n C.1 C.2.1 dX8_taskAt_61 rfl (lv_at hl 1 rfl) ?_
        refine k_vi C hw 1 (by omega) h1 rfl (c_X3_countOf (by omega) h1 h2  (by omega) (by omega)) kv_X8_169 rfl hl.1 ⟨Nat.le_of_ble_eq_true rfl, Nat.le_of_ble_eq_true rfl⟩ (Nat.le_of_ble_eq_true rfl) ⟨Nat.le_of_ble_eq_true rfl, Nat.le_of_ble_eq_true rfl⟩ dX8_taskAt_62 (fun r62 M_3 n9 H locs hp hw => ?_)
        obtain ⟨er62, en9, eM9⟩ := hp
        have en9 : n9 = n := en9
        rw [en9] at hw
        have eM9 : M_3 = M := eM9
        rw [eM9] at hw
        exact hret _ _ (Nat.le_of_ble_eq_true rfl) (Nat.le_of_ble_eq_true rfl) hw (⟨by rw [if_pos ht, selI_at 1 hsw rfl, er62], rfl, rfl⟩) dX8_taskAt_65
      · refine lv_tableIn (off := 54) (tgt := 66) C.1 C.2.1 dX8_taskAt_12 (by rw [hsw]; decide) (by rw [hsw]; decide) (by rw [hsw]; decide) (by decide) ?_
        refine lv_aload_n C.1 C.2.1 dX8_taskAt_66 rfl (lv_at hl 0 rfl) ?_
        refine k_get C hw 0 (by omega) h0 rfl inlX8 0 (by decide) q_15 rfl dX8_taskAt_67 ?_
        refine lv_iload_n C.1 C.2.1 dX8_taskAt_70 rfl (lv_at hl 1 rfl) ?_
        refine k_vi C hw 1 (by omega) h1 rfl (c_X3_weightOf (by omega) h1 h2 h4  (by omega) (by omega)) kv_X8_172 rfl hl.1 ⟨Nat.le_of_ble_eq_true rfl, Nat.le_of_ble_eq_true rfl⟩ (Nat.le_of_ble_eq_true rfl) ⟨Nat.le_of_ble_eq_true rfl, Nat.le_of_ble_eq_true rfl⟩ dX8_taskAt_71 (fun r71 M_4 n9 H locs hp hw => ?_)
        obtain ⟨er71, en9, eM9⟩ := hp
        have en9 : n9 = n := en9
        rw [en9] at hw
        have eM9 : M_4 = M := eM9
        rw [eM9] at hw
        exact hret _ _ (Nat.le_of_ble_eq_true rfl) (Nat.le_of_ble_eq_true rfl) hw (⟨by rw [if_pos ht, selI_at 2 hsw rfl, er71], rfl, rfl⟩) dX8_taskAt_74
      · refine lv_tableIn (off := 63) (tgt := 75) C.1 C.2.1 dX8_taskAt_12 (by rw [hsw]; decide) (by rw [hsw]; decide) (by rw [hsw]; decide) (by decide) ?_
        refine lv_aload_n C.1 C.2.1 dX8_taskAt_75 rfl (lv_at hl 0 rfl) ?_
        refine lv_iload_n C.1 C.2.1 dX8_taskAt_76 rfl (lv_at hl 1 rfl) ?_
        refine k_vi C hw 0 (by omega) h0 rfl (c_X8_lengthOfLine (by omega) h0 h1 h2 h22 h26 h28  (by omega) (by omega) (by omega)) kv_X8_175 rfl hl.1 ⟨Nat.le_of_ble_eq_true rfl, Nat.le_of_ble_eq_true rfl⟩ (Nat.le_of_ble_eq_true rfl) ⟨Nat.le_of_ble_eq_true rfl, Nat.le_of_ble_eq_true rfl⟩ dX8_taskAt_77 (fun r77 M_5 n9 H locs hp hw => ?_)
        obtain ⟨er77, en9, eM9⟩ := hp
        have en9 : n9 = n := en9
        rw [en9] at hw
        have eM9 : M_5 = M := eM9
        rw [eM9] at hw
        exact hret _ _ (Nat.le_of_ble_eq_true rfl) (Nat.le_of_ble_eq_true rfl) hw (⟨by rw [if_pos ht, selI_at 3 hsw rfl, er77], rfl, rfl⟩) dX8_taskAt_80
      · refine lv_tableIn (off := 69) (tgt := 81) C.1 C.2.1 dX8_taskAt_12 (by rw [hsw]; decide) (by rw [hsw]; decide) (by rw [hsw]; decide) (by decide) ?_
        refine lv_aload_n C.1 C.2.1 dX8_taskAt_81 rfl (lv_at hl 0 rfl) ?_
        refine lv_iload_n C.1 C.2.1 dX8_taskAt_82 rfl (lv_at hl 1 rfl) ?_
        refine k_vi C hw 0 (by omega) h0 rfl (c_X8_firstNumberInLine (by omega) h0 h1 h2 h22 h26 h28 h27  (by omega) (by omega) (by omega)) kv_X8_178 rfl hl.1 ⟨Nat.le_of_ble_eq_true rfl, Nat.le_of_ble_eq_true rfl⟩ (Nat.le_of_ble_eq_true rfl) ⟨Nat.le_of_ble_eq_true rfl, Nat.le_of_ble_eq_true rfl⟩ dX8_taskAt_83 (fun r83 M_6 n9 H locs hp hw => ?_)
        obtain ⟨er83, en9, eM9⟩ := hp
        have en9 : n9 = n := en9
        rw [en9] at hw
        have eM9 : M_6 = M := eM9
        rw [eM9] at hw
        exact hret _ _ (Nat.le_of_ble_eq_true rfl) (Nat.le_of_ble_eq_true rfl) hw (⟨by rw [if_pos ht, selI_at 4 hsw rfl, er83], rfl, rfl⟩) dX8_taskAt_86
  · have ht : ¬ isT t ta := fun z => by rw [er2, if_pos z] at c5; exact absurd c5 (by decide)
    refine lv_bipush (v := (-101)) C.1 C.2.1 dX8_taskAt_8 (by decide) ?_
    exact hret _ _ (Nat.le_of_ble_eq_true rfl) (Nat.le_of_ble_eq_true rfl) hw (⟨by rw [if_neg ht], rfl, rfl⟩) dX8_taskAt_10
