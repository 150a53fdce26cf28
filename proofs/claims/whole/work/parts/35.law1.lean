theorem kv_L_23 : kV RL RX8 23 yX8_group cX8_group 2 (some .int) 1 := ⟨q_202, q_203, q_204, q_2, q_205, by decide +kernel⟩
theorem kv_L_26 : kV RL RX9 26 yX9_group cX9_group 2 (some .int) 1 := ⟨q_214, q_215, q_216, q_5, q_217, by decide +kernel⟩
theorem kv_L_44 : kV RL RX8 44 yX8_moved cX8_moved 2 (some .int) 1 := ⟨q_388, q_389, q_390, q_2, q_391, by decide +kernel⟩
theorem kv_L_47 : kV RL RX9 47 yX9_moved cX9_moved 4 (some .int) 1 := ⟨q_394, q_395, q_396, q_5, q_397, by decide +kernel⟩
theorem kv_L_53 : kV RL RX8 53 yX8_groupAt cX8_groupAt 3 (some .int) 2 := ⟨q_407, q_408, q_409, q_2, q_410, by decide +kernel⟩
theorem kv_L_56 : kV RL RX9 56 yX9_groupAt cX9_groupAt 3 (some .int) 2 := ⟨q_415, q_416, q_417, q_5, q_418, by decide +kernel⟩
theorem kv_L_57 : kV RL RX8 57 yX8_taskAt cX8_taskAt 3 (some .int) 2 := ⟨q_423, q_424, q_425, q_2, q_426, by decide +kernel⟩
theorem kv_L_60 : kV RL RX9 60 yX9_taskAt cX9_taskAt 8 (some .int) 2 := ⟨q_447, q_448, q_449, q_5, q_450, by decide +kernel⟩
theorem kv_L_61 : kV RL RX8 61 yX8_counted cX8_counted 2 (some .int) 1 := ⟨q_451, q_452, q_453, q_2, q_454, by decide +kernel⟩
theorem kv_L_64 : kV RL RX9 64 yX9_counted cX9_counted 2 (some .int) 1 := ⟨q_455, q_456, q_457, q_5, q_458, by decide +kernel⟩
theorem kv_L_65 : kV RL RX8 65 yX8_sum cX8_sum 2 (some .long) 1 := ⟨q_459, q_460, q_461, q_2, q_462, by decide +kernel⟩
theorem kv_L_68 : kV RL RX9 68 yX9_sum cX9_sum 2 (some .long) 1 := ⟨q_463, q_464, q_465, q_5, q_466, by decide +kernel⟩
theorem kv_L_69 : kV RL RX8 69 yX8_hot cX8_hot 4 (some .int) 1 := ⟨q_467, q_468, q_469, q_2, q_470, by decide +kernel⟩
theorem kv_L_72 : kV RL RX9 72 yX9_hot cX9_hot 5 (some .int) 1 := ⟨q_480, q_481, q_482, q_5, q_483, by decide +kernel⟩
theorem kv_L_81 : kV RL RX8 81 yX8_out cX8_out 3 (some .long) 2 := ⟨q_553, q_554, q_555, q_2, q_556, by decide +kernel⟩
theorem kv_L_85 : kV RL RX9 85 yX9_out cX9_out 3 (some .long) 2 := ⟨q_563, q_564, q_565, q_5, q_566, by decide +kernel⟩
theorem kv_L_86 : kV RL RX8 86 yX8_log cX8_log 4 (some .long) 2 := ⟨q_569, q_570, q_571, q_2, q_572, by decide +kernel⟩
theorem kv_L_89 : kV RL RX9 89 yX9_log cX9_log 4 (some .long) 2 := ⟨q_586, q_587, q_588, q_5, q_589, by decide +kernel⟩
theorem kv_L_99 : kV RL RX8 99 yX8_digest cX8_digest 3 (some .int) 0 := ⟨q_637, q_638, q_639, q_2, q_640, by decide +kernel⟩
theorem kv_L_102 : kV RL RX9 102 yX9_digest cX9_digest 3 (some .int) 0 := ⟨q_641, q_642, q_643, q_5, q_644, by decide +kernel⟩
theorem kv_L_103 : kV RL RX8 103 yX8_told cX8_told 2 (some .int) 1 := ⟨q_645, q_646, q_647, q_2, q_648, by decide +kernel⟩
theorem kv_L_106 : kV RL RX9 106 yX9_told cX9_told 2 (some .int) 1 := ⟨q_650, q_651, q_652, q_5, q_653, by decide +kernel⟩
def slN (n : Nat) : Nat := 11343 + 136 * (n - 74)
def lwC (p : Program) (s : State) (m : MethodId) (c : Code) (D : va_G) (cI cJ cZ cH cR : ClassId) (a L : Nat) (xs : Nat → Int32) (i cc : Nat) (ls : Array Slot) : Prop := kC p s m c #[Value.ref a] cL_law 4 RL D (kT cI cJ cZ cH cR) ∧ va_X a L xs s s.heap ∧ a < s.heap.size ∧ L ≤ 2048 ∧ i + 4 ≤ L ∧ cc < 512 ∧ lv_has ls 4 [(3, .int (nI i)), (2, .ref (s.heap.size + 43)), (1, .ref (s.heap.size + 0)), (0, .ref a)]
def lwK (p : Program) (l : Launch) (e : Env) (s : State) (m : MethodId) (below : List Frame) (meth : Method) (c : Code) (Q : State → Prop) (ls : Array Slot) (D : va_G) (cI cJ cZ cH cR : ClassId) (a cc : Nat) : Prop := ∀ (M1 : Nat → va_E) (n1 : Nat) (H1 : Heap) (locs1 : List Loc), kW D s.heap.size M1 n1 s.heap H1 locs1 → iInv cI cJ cZ cH cR s.heap.size n1 M1 (cc + 1) → W p l e room_1 s m #[Value.ref a] below meth c H1 locs1 n1 (slN n1) Q (F0 m 753 ls [])
theorem iInv_next {cI cJ cZ cH cR : ClassId} {b n c : Nat} {M : Nat → va_E} (h : iInv cI cJ cZ cH cR b n M c) : iInv cI cJ cZ cH cR b n M (c + 1) := by
  obtain ⟨mm, s_, G, mo, ta, sc, mv, rs, ca, ts, tr, os, lx, lz, lg, hc, w, hOb, hOw, hMv, hPl, hSt, hRw, hOu, hTm, hLg, hMk, hNu⟩ := h
  refine ⟨mm, s_, G, mo, ta, sc, mv, rs, ca, ts, tr, os, lx, lz, lg, hc, w, hOb, hOw, hMv, hPl, hSt, hRw, hOu, hTm, hLg, hMk, ?_⟩
  unfold iNu at hNu ⊢
  omega
theorem slN_room {n : Nat} (h : n ≤ 107) (k q : Nat) (hk : k ≤ 11) (hq : q ≤ 1494) : n + k ≤ room_1.cells ∧ slN n + q ≤ room_1.slots := by
  refine ⟨?_, ?_⟩
  · show n + k ≤ 600000; omega
  · show 11343 + 136 * (n - 74) + q ≤ 7302250; omega
theorem slN_room2 {n : Nat} (h : n ≤ 107) (k q : Nat) (hk : k ≤ 11) (hq : q ≤ 1494) : n + k + 0 ≤ room_1.cells ∧ slN n + q + 0 ≤ room_1.slots := slN_room h k q hk hq
theorem lg_cmp_self (x : Int64) : lg_cmp x x = 0 := by
  unfold lg_cmp
  rw [if_neg (by rw [gt_iff_lt, Int64.lt_iff_toInt_lt]; omega), if_pos rfl]
theorem rngI {x : Int32} {lo hi : Nat} (hh : hi < 2 ^ 31) (hlo : lo ≤ hi) (h1 : ¬ x < nI lo) (h2 : ¬ nI hi < x) : ∃ k, lo ≤ k ∧ k ≤ hi ∧ x = nI k ∧ kn x = k := by
  have e1 : (nI lo).toInt = lo := nI_toInt (by omega)
  have e2 : (nI hi).toInt = hi := nI_toInt (by omega)
  rw [Int32.lt_iff_toInt_lt] at h1 h2
  have e3 : x = nI x.toInt.toNat := by
    apply Int32.toInt_inj.mp
    rw [nI_toInt (by omega)]
    omega
  refine ⟨x.toInt.toNat, by omega, by omega, e3, ?_⟩
  show x.toNatClampNeg = _
  rw [e3]
  rw [nI_clamp (by omega), nI_toInt (by omega)]
  omega
theorem i32nlt {x y : Int32} (h : x ≤ y) : ¬ y < x := by
  rw [Int32.le_iff_toInt_le] at h; rw [Int32.lt_iff_toInt_lt]; omega
section KLC
variable {p : Program} {l : Launch} {e : Env} {s : State} {m : MethodId} {below : List Frame} {meth : Method} {c : Code} {H : Heap} {locs : List Loc} {Q : State → Prop} {ls : Array Slot} {D : va_G} {n a L i cc : Nat} {M : Nat → va_E} {xs : Nat → Int32} {cI cJ cZ cH cR : ClassId}
set_option maxHeartbeats 4000000 in
set_option maxRecDepth 100000 in
theorem lw_group (X : lwC p s m c D cI cJ cZ cH cR a L xs i cc ls) (hw : kW D s.heap.size M n s.heap H locs) (I : iInv cI cJ cZ cH cR s.heap.size n M cc) (K : lwK p l e s m below meth c Q ls D cI cJ cZ cH cR a cc)  : W p l e room_1 s m #[Value.ref a] below meth c H locs n (slN n) Q (F0 m 196 ls []) := by
  have I0 := I
  obtain ⟨C, hX, hbl, hL, hi, hcc, hl⟩ := X
  obtain ⟨mm, s_, G, mo, ta, sc, mv, rs, ca, ts, tr, os, lx, lz, lg, hc, w, hOb, hOw, hMv, hPl, hSt, hRw, hOu, hTm, hLg, hMk, hNu⟩ := I
  obtain ⟨hG0, hG, hmo, hta0, hta, hs_, hsum, hos, hlg, hc3, hmh, hn⟩ := id hNu
  obtain ⟨h0, h1, h6, h9, h22, h23, h26, h30, h33, h37, h43⟩ := id hOb
  refine lv_aload_n C.1 C.2.1 dL_law_196 rfl (lv_at hl 2 rfl) ?_
  refine lw_ld (k0 := 0) (k3 := 3) (i := i) C hX hbl hw 1 (by omega) hL (lv_at hl 3 rfl) (lv_at hl 0 rfl) dL_law_197 dL_law_198 dL_law_199 rfl dL_law_200 dL_law_201 ?_
  refine k_vi C hw 0 (by omega) h0 rfl (c_X8_group (by omega) h0 h1 hG0 hG) kv_L_23 rfl hl.1 ⟨Nat.le_of_ble_eq_true rfl, Nat.le_of_ble_eq_true rfl⟩ (Nat.le_of_ble_eq_true rfl) (slN_room (by omega) 0 0 (by omega) (by omega)) dL_law_202 (fun r1 M1 n1 H1 locs1 hp1 hw1 => ?_)
  clear hw
  dsimp only at hp1
  obtain ⟨er1, en1, eM1⟩ := hp1
  subst en1
  subst eM1
  have hw := hw1
  refine lv_aload_n C.1 C.2.1 dL_law_205 rfl (lv_at hl 1 rfl) ?_
  refine lw_ld (k0 := 0) (k3 := 3) (i := i) C hX hbl hw 1 (by omega) hL (lv_at hl 3 rfl) (lv_at hl 0 rfl) dL_law_206 dL_law_207 dL_law_208 rfl dL_law_209 dL_law_210 ?_
  refine k_vi C hw 43 (by omega) h43 rfl (c_X9_group (by omega) h43 hG0 hG) kv_L_26 rfl hl.1 ⟨Nat.le_of_ble_eq_true rfl, Nat.le_of_ble_eq_true rfl⟩ (Nat.le_of_ble_eq_true rfl) (slN_room2 (by omega) 0 0 (by omega) (by omega)) dL_law_211 (fun r2 M2 n2 H2 locs2 hp2 hw2 => ?_)
  clear hw
  dsimp only at hp2
  suffices hfin : r1 = r2 ∧ n2 = n1 ∧ iInv cI cJ cZ cH cR s.heap.size n1 M2 (cc + 1) from ?_
  · obtain ⟨er, en, I2⟩ := hfin
    subst en
    refine lv_icmp_eq (tgt := 753) C.1 C.2.1 dL_law_214 (by decide) (fun _ => ?_) (fun z => absurd er z)
    exact K _ _ _ _ hw2 I2
  obtain ⟨er2, en2, eM2⟩ := hp2
  subst en2
  subst eM2
  exact ⟨er1.trans er2.symm, rfl, iInv_next I0⟩
set_option maxHeartbeats 4000000 in
set_option maxRecDepth 100000 in
theorem lw_moved (X : lwC p s m c D cI cJ cZ cH cR a L xs i cc ls) (hw : kW D s.heap.size M n s.heap H locs) (I : iInv cI cJ cZ cH cR s.heap.size n M cc) (K : lwK p l e s m below meth c Q ls D cI cJ cZ cH cR a cc)  : W p l e room_1 s m #[Value.ref a] below meth c H locs n (slN n) Q (F0 m 351 ls []) := by
  have I0 := I
  obtain ⟨C, hX, hbl, hL, hi, hcc, hl⟩ := X
  obtain ⟨mm, s_, G, mo, ta, sc, mv, rs, ca, ts, tr, os, lx, lz, lg, hc, w, hOb, hOw, hMv, hPl, hSt, hRw, hOu, hTm, hLg, hMk, hNu⟩ := I
  obtain ⟨hG0, hG, hmo, hta0, hta, hs_, hsum, hos, hlg, hc3, hmh, hn⟩ := id hNu
  obtain ⟨h0, h1, h6, h9, h22, h23, h26, h30, h33, h37, h43⟩ := id hOb
  obtain ⟨mg, mmv, h5, h47, hmv⟩ := id hMv
  refine lv_aload_n C.1 C.2.1 dL_law_351 rfl (lv_at hl 2 rfl) ?_
  refine lw_ld (k0 := 0) (k3 := 3) (i := i) C hX hbl hw 1 (by omega) hL (lv_at hl 3 rfl) (lv_at hl 0 rfl) dL_law_352 dL_law_353 dL_law_354 rfl dL_law_355 dL_law_356 ?_
  refine k_vi C hw 0 (by omega) h0 rfl (c_X8_moved (by omega) h0 h1 h5 (RMv_le hmv)) kv_L_44 rfl hl.1 ⟨Nat.le_of_ble_eq_true rfl, Nat.le_of_ble_eq_true rfl⟩ (Nat.le_of_ble_eq_true rfl) (slN_room (by omega) 0 0 (by omega) (by omega)) dL_law_357 (fun r1 M1 n1 H1 locs1 hp1 hw1 => ?_)
  clear hw
  dsimp only at hp1
  obtain ⟨er1, en1, eM1⟩ := hp1
  subst en1
  subst eM1
  have hw := hw1
  refine lv_aload_n C.1 C.2.1 dL_law_360 rfl (lv_at hl 1 rfl) ?_
  refine lw_ld (k0 := 0) (k3 := 3) (i := i) C hX hbl hw 1 (by omega) hL (lv_at hl 3 rfl) (lv_at hl 0 rfl) dL_law_361 dL_law_362 dL_law_363 rfl dL_law_364 dL_law_365 ?_
  refine k_vi C hw 43 (by omega) h43 rfl (c_X9_moved (by omega) h43 h47) kv_L_47 rfl hl.1 ⟨Nat.le_of_ble_eq_true rfl, Nat.le_of_ble_eq_true rfl⟩ (Nat.le_of_ble_eq_true rfl) (slN_room2 (by omega) 0 0 (by omega) (by omega)) dL_law_366 (fun r2 M2 n2 H2 locs2 hp2 hw2 => ?_)
  clear hw
  dsimp only at hp2
  suffices hfin : r1 = r2 ∧ n2 = n1 ∧ iInv cI cJ cZ cH cR s.heap.size n1 M2 (cc + 1) from ?_
  · obtain ⟨er, en, I2⟩ := hfin
    subst en
    refine lv_icmp_eq (tgt := 753) C.1 C.2.1 dL_law_369 (by decide) (fun _ => ?_) (fun z => absurd er z)
    exact K _ _ _ _ hw2 I2
  obtain ⟨er2, en2, eM2⟩ := hp2
  subst en2
  subst eM2
  refine ⟨?_, rfl, iInv_next I0⟩
  rw [er1, er2]
  exact RMv_ans hmv _
set_option maxHeartbeats 4000000 in
set_option maxRecDepth 100000 in
theorem lw_groupAt (X : lwC p s m c D cI cJ cZ cH cR a L xs i cc ls) (hw : kW D s.heap.size M n s.heap H locs) (I : iInv cI cJ cZ cH cR s.heap.size n M cc) (K : lwK p l e s m below meth c Q ls D cI cJ cZ cH cR a cc)  : W p l e room_1 s m #[Value.ref a] below meth c H locs n (slN n) Q (F0 m 398 ls []) := by
  have I0 := I
  obtain ⟨C, hX, hbl, hL, hi, hcc, hl⟩ := X
  obtain ⟨mm, s_, G, mo, ta, sc, mv, rs, ca, ts, tr, os, lx, lz, lg, hc, w, hOb, hOw, hMv, hPl, hSt, hRw, hOu, hTm, hLg, hMk, hNu⟩ := I
  obtain ⟨hG0, hG, hmo, hta0, hta, hs_, hsum, hos, hlg, hc3, hmh, hn⟩ := id hNu
  obtain ⟨h0, h1, h6, h9, h22, h23, h26, h30, h33, h37, h43⟩ := id hOb
  obtain ⟨ow, ep, we, mow, mep, mwe, h2, h3, h4, h44, h45, h46, how⟩ := id hOw
  obtain ⟨rn, rk, rv, mrk, mrv, mwa, h27, h28, h29, h48, h49, h50, hrr⟩ := id hRw
  refine lv_aload_n C.1 C.2.1 dL_law_398 rfl (lv_at hl 2 rfl) ?_
  refine lw_ld (k0 := 0) (k3 := 3) (i := i) C hX hbl hw 1 (by omega) hL (lv_at hl 3 rfl) (lv_at hl 0 rfl) dL_law_399 dL_law_400 dL_law_401 rfl dL_law_402 dL_law_403 ?_
  refine lw_ld (k0 := 0) (k3 := 3) (i := i) C hX hbl hw 2 (by omega) hL (lv_at hl 3 rfl) (lv_at hl 0 rfl) dL_law_404 dL_law_405 dL_law_406 rfl dL_law_407 dL_law_408 ?_
  refine k_vi C hw 0 (by omega) h0 rfl (c_X8_groupAt (by omega) h0 h1 h2 h3 h4 h22 h26 h28 hG0 hG (Nat.le_trans (RR_le hrr) hrr.1)) kv_L_53 rfl hl.1 ⟨Nat.le_of_ble_eq_true rfl, Nat.le_of_ble_eq_true rfl⟩ (Nat.le_of_ble_eq_true rfl) (slN_room (by omega) 0 0 (by omega) (by omega)) dL_law_409 (fun r1 M1 n1 H1 locs1 hp1 hw1 => ?_)
  clear hw
  dsimp only at hp1
  obtain ⟨er1, en1, eM1⟩ := hp1
  subst en1
  subst eM1
  have hw := hw1
  refine lv_aload_n C.1 C.2.1 dL_law_412 rfl (lv_at hl 1 rfl) ?_
  refine lw_ld (k0 := 0) (k3 := 3) (i := i) C hX hbl hw 1 (by omega) hL (lv_at hl 3 rfl) (lv_at hl 0 rfl) dL_law_413 dL_law_414 dL_law_415 rfl dL_law_416 dL_law_417 ?_
  refine lw_ld (k0 := 0) (k3 := 3) (i := i) C hX hbl hw 2 (by omega) hL (lv_at hl 3 rfl) (lv_at hl 0 rfl) dL_law_418 dL_law_419 dL_law_420 rfl dL_law_421 dL_law_422 ?_
  refine k_vi C hw 43 (by omega) h43 rfl (c_X9_groupAt (by omega) h43 h44 h45 h46 h48 h50 hG0 hG hrr.1) kv_L_56 rfl hl.1 ⟨Nat.le_of_ble_eq_true rfl, Nat.le_of_ble_eq_true rfl⟩ (Nat.le_of_ble_eq_true rfl) (slN_room2 (by omega) 0 0 (by omega) (by omega)) dL_law_423 (fun r2 M2 n2 H2 locs2 hp2 hw2 => ?_)
  clear hw
  dsimp only at hp2
  suffices hfin : r1 = r2 ∧ n2 = n1 ∧ iInv cI cJ cZ cH cR s.heap.size n1 M2 (cc + 1) from ?_
  · obtain ⟨er, en, I2⟩ := hfin
    subst en
    refine lv_icmp_eq (tgt := 753) C.1 C.2.1 dL_law_426 (by decide) (fun _ => ?_) (fun z => absurd er z)
    exact K _ _ _ _ hw2 I2
  obtain ⟨er2, en2, eM2⟩ := hp2
  subst en2
  subst eM2
  refine ⟨?_, rfl, iInv_next I0⟩
  rw [er1, er2]
  by_cases z : isT (xs (i + 1)) G
  · rw [if_pos z, if_pos z]
    obtain ⟨k, hk, -, ek⟩ := isT_nI (by omega) z
    have z4 : nI (cnt (wgP G rk (xs (i + 1))) rs) = nI (cnt (wgQ G mrk mwa (xs (i + 1))) ca) := congrArg nI (RR_cnt hrr (fun y => nI (gof G y) == xs (i + 1))).symm
    rw [z4, (how (kn (xs (i + 1))) (by omega)).1, (how (kn (xs (i + 1))) (by omega)).2.1, (how (kn (xs (i + 1))) (by omega)).2.2.1]
  · rw [if_neg z, if_neg z]
set_option maxHeartbeats 4000000 in
set_option maxRecDepth 100000 in
theorem lw_taskAt (X : lwC p s m c D cI cJ cZ cH cR a L xs i cc ls) (hw : kW D s.heap.size M n s.heap H locs) (I : iInv cI cJ cZ cH cR s.heap.size n M cc) (K : lwK p l e s m below meth c Q ls D cI cJ cZ cH cR a cc)  : W p l e room_1 s m #[Value.ref a] below meth c H locs n (slN n) Q (F0 m 431 ls []) := by
  have I0 := I
  obtain ⟨C, hX, hbl, hL, hi, hcc, hl⟩ := X
  obtain ⟨mm, s_, G, mo, ta, sc, mv, rs, ca, ts, tr, os, lx, lz, lg, hc, w, hOb, hOw, hMv, hPl, hSt, hRw, hOu, hTm, hLg, hMk, hNu⟩ := I
  obtain ⟨hG0, hG, hmo, hta0, hta, hs_, hsum, hos, hlg, hc3, hmh, hn⟩ := id hNu
  obtain ⟨h0, h1, h6, h9, h22, h23, h26, h30, h33, h37, h43⟩ := id hOb
  obtain ⟨ow, ep, we, mow, mep, mwe, h2, h3, h4, h44, h45, h46, how⟩ := id hOw
  obtain ⟨rn, rk, rv, mrk, mrv, mwa, h27, h28, h29, h48, h49, h50, hrr⟩ := id hRw
  refine lv_aload_n C.1 C.2.1 dL_law_431 rfl (lv_at hl 2 rfl) ?_
  refine lw_ld (k0 := 0) (k3 := 3) (i := i) C hX hbl hw 1 (by omega) hL (lv_at hl 3 rfl) (lv_at hl 0 rfl) dL_law_432 dL_law_433 dL_law_434 rfl dL_law_435 dL_law_436 ?_
  refine lw_ld (k0 := 0) (k3 := 3) (i := i) C hX hbl hw 2 (by omega) hL (lv_at hl 3 rfl) (lv_at hl 0 rfl) dL_law_437 dL_law_438 dL_law_439 rfl dL_law_440 dL_law_441 ?_
  refine k_vi C hw 0 (by omega) h0 rfl (c_X8_taskAt (by omega) h0 h1 h2 h4 h22 h26 h27 h28 hG0 hG (Nat.le_trans (RR_le hrr) hrr.1)) kv_L_57 rfl hl.1 ⟨Nat.le_of_ble_eq_true rfl, Nat.le_of_ble_eq_true rfl⟩ (Nat.le_of_ble_eq_true rfl) (slN_room (by omega) 0 0 (by omega) (by omega)) dL_law_442 (fun r1 M1 n1 H1 locs1 hp1 hw1 => ?_)
  clear hw
  dsimp only at hp1
  obtain ⟨er1, en1, eM1⟩ := hp1
  subst en1
  subst eM1
  have hw := hw1
  refine lv_aload_n C.1 C.2.1 dL_law_445 rfl (lv_at hl 1 rfl) ?_
  refine lw_ld (k0 := 0) (k3 := 3) (i := i) C hX hbl hw 1 (by omega) hL (lv_at hl 3 rfl) (lv_at hl 0 rfl) dL_law_446 dL_law_447 dL_law_448 rfl dL_law_449 dL_law_450 ?_
  refine lw_ld (k0 := 0) (k3 := 3) (i := i) C hX hbl hw 2 (by omega) hL (lv_at hl 3 rfl) (lv_at hl 0 rfl) dL_law_451 dL_law_452 dL_law_453 rfl dL_law_454 dL_law_455 ?_
  refine k_vi C hw 43 (by omega) h43 rfl (c_X9_taskAt (by omega) h43 h44 h46 h48 h50 hG0 hG hrr.1 hta0 hta) kv_L_60 rfl hl.1 ⟨Nat.le_of_ble_eq_true rfl, Nat.le_of_ble_eq_true rfl⟩ (Nat.le_of_ble_eq_true rfl) (slN_room2 (by omega) 0 0 (by omega) (by omega)) dL_law_456 (fun r2 M2 n2 H2 locs2 hp2 hw2 => ?_)
  clear hw
  dsimp only at hp2
  suffices hfin : r1 = r2 ∧ n2 = n1 ∧ iInv cI cJ cZ cH cR s.heap.size n1 M2 (cc + 1) from ?_
  · obtain ⟨er, en, I2⟩ := hfin
    subst en
    refine lv_icmp_eq (tgt := 753) C.1 C.2.1 dL_law_459 (by decide) (fun _ => ?_) (fun z => absurd er z)
    exact K _ _ _ _ hw2 I2
  obtain ⟨er2, en2, eM2⟩ := hp2
  subst en2
  subst eM2
  refine ⟨?_, rfl, iInv_next I0⟩
  rw [er1, er2]
  by_cases z : isT (xs (i + 1)) ta
  · rw [if_pos z, if_pos z]
    have eo_ : ∀ y, mow (gof G y) = ow (gof G y) := fun y => (how _ (gof_lt hG0 y)).1.symm
    have z1 : fI (fun g => ow g == xs (i + 1)) G = dsF (fun g => mow g == xs (i + 1)) G G := by rw [dsF_all]; exact fI_congr (fun j hj => by rw [(how j hj).1])
    have z2 : cnt (fun g => ow g == xs (i + 1)) G = dsC (fun g => mow g == xs (i + 1)) G G := by rw [dsC_all]; exact cnt_congr (fun j hj => by rw [(how j hj).1])
    have z3 : sm (fun g => if ow g = xs (i + 1) then we g else 0) G = dsS (fun g => mow g == xs (i + 1)) mwe G G := by
      rw [dsS_all]; refine sm_congr (fun j hj => ?_)
      rw [(how j hj).1, (how j hj).2.2.1]; by_cases y : mow j = xs (i + 1)
      · rw [if_pos y, if_pos (by rw [y]; exact beq_self_eq_true _)]
      · rw [if_neg y, if_neg (by rw [beq_iff_eq]; exact y)]
    have z4 : nI (cnt (lnP G ow rk (xs (i + 1))) rs) = dsS (fun g => mow g == xs (i + 1)) (fun g => nI (cnt (wgQ G mrk mwa (nI g)) ca)) G G := by
      rw [dsS_all]
      have y1 := RR_cnt hrr (fun y => ow (gof G y) == xs (i + 1))
      have y2 := line_sum (G := G) (ca := ca) (ow := mow) (rk := mrk) (wa := mvz mwa) (t := xs (i + 1)) hG0 hG (n := ca) (Nat.le_refl _)
      refine Eq.trans (congrArg nI ?_) y2.symm
      refine y1.symm.trans (cnt_congr (fun q _ => ?_))
      show (mvz mwa q && (ow (gof G (mrk q)) == xs (i + 1))) = (mvz mwa q && (mow (gof G (mrk q)) == xs (i + 1)))
      rw [eo_]
    have z5 : fN (lnP G ow rk (xs (i + 1))) rn rs = fI (wtP G mow mrk mwa (xs (i + 1))) ca := by
      have y0 : wtP G mow mrk mwa (xs (i + 1)) = fun q => mvz mwa q && (fun y => ow (gof G y) == xs (i + 1)) (mrk q) := funext fun q => by show (mvz mwa q && (mow (gof G (mrk q)) == xs (i + 1))) = (mvz mwa q && (ow (gof G (mrk q)) == xs (i + 1))); rw [eo_]
      rw [y0]
      unfold fN fI
      rcases RR_fst hrr (fun y => ow (gof G y) == xs (i + 1)) with ⟨y1, y2, y3, y4⟩ | ⟨y1, y2⟩
      · rw [if_pos y2, if_pos y1]
        rw [show fst (lnP G ow rk (xs (i + 1))) rs = _ from y3]
        exact (hrr.2.2.1 _ y1 y4).1
      · rw [if_neg y2, if_neg y1]
    rw [z1, z2, z3, z4, z5]
  · rw [if_neg z, if_neg z]
set_option maxHeartbeats 4000000 in
set_option maxRecDepth 100000 in
theorem lw_counted (X : lwC p s m c D cI cJ cZ cH cR a L xs i cc ls) (hw : kW D s.heap.size M n s.heap H locs) (I : iInv cI cJ cZ cH cR s.heap.size n M cc) (K : lwK p l e s m below meth c Q ls D cI cJ cZ cH cR a cc)  : W p l e room_1 s m #[Value.ref a] below meth c H locs n (slN n) Q (F0 m 464 ls []) := by
  have I0 := I
  obtain ⟨C, hX, hbl, hL, hi, hcc, hl⟩ := X
  obtain ⟨mm, s_, G, mo, ta, sc, mv, rs, ca, ts, tr, os, lx, lz, lg, hc, w, hOb, hOw, hMv, hPl, hSt, hRw, hOu, hTm, hLg, hMk, hNu⟩ := I
  obtain ⟨hG0, hG, hmo, hta0, hta, hs_, hsum, hos, hlg, hc3, hmh, hn⟩ := id hNu
  obtain ⟨h0, h1, h6, h9, h22, h23, h26, h30, h33, h37, h43⟩ := id hOb
  obtain ⟨ct, su, mct, msu, h24, h25, h51, h52, hst_⟩ := id hSt
  refine lv_aload_n C.1 C.2.1 dL_law_464 rfl (lv_at hl 2 rfl) ?_
  refine lw_ld (k0 := 0) (k3 := 3) (i := i) C hX hbl hw 1 (by omega) hL (lv_at hl 3 rfl) (lv_at hl 0 rfl) dL_law_465 dL_law_466 dL_law_467 rfl dL_law_468 dL_law_469 ?_
  refine k_vi C hw 0 (by omega) h0 rfl (c_X8_counted (by omega) h0 h22 h23 h24) kv_L_61 rfl hl.1 ⟨Nat.le_of_ble_eq_true rfl, Nat.le_of_ble_eq_true rfl⟩ (Nat.le_of_ble_eq_true rfl) (slN_room (by omega) 0 0 (by omega) (by omega)) dL_law_470 (fun r1 M1 n1 H1 locs1 hp1 hw1 => ?_)
  clear hw
  dsimp only at hp1
  obtain ⟨er1, en1, eM1⟩ := hp1
  subst en1
  subst eM1
  have hw := hw1
  refine lv_aload_n C.1 C.2.1 dL_law_473 rfl (lv_at hl 1 rfl) ?_
  refine lw_ld (k0 := 0) (k3 := 3) (i := i) C hX hbl hw 1 (by omega) hL (lv_at hl 3 rfl) (lv_at hl 0 rfl) dL_law_474 dL_law_475 dL_law_476 rfl dL_law_477 dL_law_478 ?_
  refine k_vi C hw 43 (by omega) h43 rfl (c_X9_counted (by omega) h43 h51) kv_L_64 rfl hl.1 ⟨Nat.le_of_ble_eq_true rfl, Nat.le_of_ble_eq_true rfl⟩ (Nat.le_of_ble_eq_true rfl) (slN_room2 (by omega) 0 0 (by omega) (by omega)) dL_law_479 (fun r2 M2 n2 H2 locs2 hp2 hw2 => ?_)
  clear hw
  dsimp only at hp2
  suffices hfin : r1 = r2 ∧ n2 = n1 ∧ iInv cI cJ cZ cH cR s.heap.size n1 M2 (cc + 1) from ?_
  · obtain ⟨er, en, I2⟩ := hfin
    subst en
    refine lv_icmp_eq (tgt := 753) C.1 C.2.1 dL_law_482 (by decide) (fun _ => ?_) (fun z => absurd er z)
    exact K _ _ _ _ hw2 I2
  obtain ⟨er2, en2, eM2⟩ := hp2
  subst en2
  subst eM2
  refine ⟨?_, rfl, iInv_next I0⟩
  rw [er1, er2]
  by_cases z : isK (xs (i + 1))
  · rw [if_pos z, if_pos z]
    obtain ⟨k, hk, -, ek⟩ := isK_nI z
    exact (hst_ _ (by omega)).1
  · rw [if_neg z, if_neg z]
set_option maxHeartbeats 4000000 in
set_option maxRecDepth 100000 in
theorem lw_sum (X : lwC p s m c D cI cJ cZ cH cR a L xs i cc ls) (hw : kW D s.heap.size M n s.heap H locs) (I : iInv cI cJ cZ cH cR s.heap.size n M cc) (K : lwK p l e s m below meth c Q ls D cI cJ cZ cH cR a cc)  : W p l e room_1 s m #[Value.ref a] below meth c H locs n (slN n) Q (F0 m 487 ls []) := by
  have I0 := I
  obtain ⟨C, hX, hbl, hL, hi, hcc, hl⟩ := X
  obtain ⟨mm, s_, G, mo, ta, sc, mv, rs, ca, ts, tr, os, lx, lz, lg, hc, w, hOb, hOw, hMv, hPl, hSt, hRw, hOu, hTm, hLg, hMk, hNu⟩ := I
  obtain ⟨hG0, hG, hmo, hta0, hta, hs_, hsum, hos, hlg, hc3, hmh, hn⟩ := id hNu
  obtain ⟨h0, h1, h6, h9, h22, h23, h26, h30, h33, h37, h43⟩ := id hOb
  obtain ⟨ct, su, mct, msu, h24, h25, h51, h52, hst_⟩ := id hSt
  refine lv_aload_n C.1 C.2.1 dL_law_487 rfl (lv_at hl 2 rfl) ?_
  refine lw_ld (k0 := 0) (k3 := 3) (i := i) C hX hbl hw 1 (by omega) hL (lv_at hl 3 rfl) (lv_at hl 0 rfl) dL_law_488 dL_law_489 dL_law_490 rfl dL_law_491 dL_law_492 ?_
  refine k_vl C hw 0 (by omega) h0 rfl (c_X8_sum (by omega) h0 h22 h23 h25) kv_L_65 rfl hl.1 ⟨Nat.le_of_ble_eq_true rfl, Nat.le_of_ble_eq_true rfl⟩ (Nat.le_of_ble_eq_true rfl) (slN_room (by omega) 0 0 (by omega) (by omega)) dL_law_493 (fun r1 M1 n1 H1 locs1 hp1 hw1 => ?_)
  clear hw
  dsimp only at hp1
  obtain ⟨er1, en1, eM1⟩ := hp1
  subst en1
  subst eM1
  have hw := hw1
  refine lv_aload_n C.1 C.2.1 dL_law_496 rfl (lv_at hl 1 rfl) ?_
  refine lw_ld (k0 := 0) (k3 := 3) (i := i) C hX hbl hw 1 (by omega) hL (lv_at hl 3 rfl) (lv_at hl 0 rfl) dL_law_497 dL_law_498 dL_law_499 rfl dL_law_500 dL_law_501 ?_
  refine k_vl C hw 43 (by omega) h43 rfl (c_X9_sum (by omega) h43 h52) kv_L_68 rfl hl.1 ⟨Nat.le_of_ble_eq_true rfl, Nat.le_of_ble_eq_true rfl⟩ (Nat.le_of_ble_eq_true rfl) (slN_room2 (by omega) 0 0 (by omega) (by omega)) dL_law_502 (fun r2 M2 n2 H2 locs2 hp2 hw2 => ?_)
  clear hw
  dsimp only at hp2
  suffices hfin : r1 = r2 ∧ n2 = n1 ∧ iInv cI cJ cZ cH cR s.heap.size n1 M2 (cc + 1) from ?_
  · obtain ⟨er, en, I2⟩ := hfin
    subst en
    refine W.lcmp C.1 C.2.1 dL_law_505 ?_
    refine lv_if_eq (tgt := 753) C.1 C.2.1 dL_law_506 (by decide) (fun _ => ?_) (fun z => absurd (by rw [er]; exact lg_cmp_self _) z)
    exact K _ _ _ _ hw2 I2
  obtain ⟨er2, en2, eM2⟩ := hp2
  subst en2
  subst eM2
  refine ⟨?_, rfl, iInv_next I0⟩
  rw [er1, er2]
  by_cases z : isK (xs (i + 1))
  · rw [if_pos z, if_pos z]
    obtain ⟨k, hk, -, ek⟩ := isK_nI z
    exact (hst_ _ (by omega)).2
  · rw [if_neg z, if_neg z]
set_option maxHeartbeats 4000000 in
set_option maxRecDepth 100000 in
theorem lw_hot (X : lwC p s m c D cI cJ cZ cH cR a L xs i cc ls) (hw : kW D s.heap.size M n s.heap H locs) (I : iInv cI cJ cZ cH cR s.heap.size n M cc) (K : lwK p l e s m below meth c Q ls D cI cJ cZ cH cR a cc)  : W p l e room_1 s m #[Value.ref a] below meth c H locs n (slN n) Q (F0 m 511 ls []) := by
  have I0 := I
  obtain ⟨C, hX, hbl, hL, hi, hcc, hl⟩ := X
  obtain ⟨mm, s_, G, mo, ta, sc, mv, rs, ca, ts, tr, os, lx, lz, lg, hc, w, hOb, hOw, hMv, hPl, hSt, hRw, hOu, hTm, hLg, hMk, hNu⟩ := I
  obtain ⟨hG0, hG, hmo, hta0, hta, hs_, hsum, hos, hlg, hc3, hmh, hn⟩ := id hNu
  obtain ⟨h0, h1, h6, h9, h22, h23, h26, h30, h33, h37, h43⟩ := id hOb
  obtain ⟨ow, ep, we, mow, mep, mwe, h2, h3, h4, h44, h45, h46, how⟩ := id hOw
  refine lv_aload_n C.1 C.2.1 dL_law_511 rfl (lv_at hl 2 rfl) ?_
  refine lw_ld (k0 := 0) (k3 := 3) (i := i) C hX hbl hw 1 (by omega) hL (lv_at hl 3 rfl) (lv_at hl 0 rfl) dL_law_512 dL_law_513 dL_law_514 rfl dL_law_515 dL_law_516 ?_
  refine k_vi C hw 0 (by omega) h0 rfl (c_X8_hot (by omega) h0 h1 h4 hG0 hG) kv_L_69 rfl hl.1 ⟨Nat.le_of_ble_eq_true rfl, Nat.le_of_ble_eq_true rfl⟩ (Nat.le_of_ble_eq_true rfl) (slN_room (by omega) 0 0 (by omega) (by omega)) dL_law_517 (fun r1 M1 n1 H1 locs1 hp1 hw1 => ?_)
  clear hw
  dsimp only at hp1
  obtain ⟨er1, en1, eM1⟩ := hp1
  subst en1
  subst eM1
  have hw := hw1
  refine lv_aload_n C.1 C.2.1 dL_law_520 rfl (lv_at hl 1 rfl) ?_
  refine lw_ld (k0 := 0) (k3 := 3) (i := i) C hX hbl hw 1 (by omega) hL (lv_at hl 3 rfl) (lv_at hl 0 rfl) dL_law_521 dL_law_522 dL_law_523 rfl dL_law_524 dL_law_525 ?_
  refine k_vi C hw 43 (by omega) h43 rfl (c_X9_hot (by omega) h43 h46 hG0 hG) kv_L_72 rfl hl.1 ⟨Nat.le_of_ble_eq_true rfl, Nat.le_of_ble_eq_true rfl⟩ (Nat.le_of_ble_eq_true rfl) (slN_room2 (by omega) 0 0 (by omega) (by omega)) dL_law_526 (fun r2 M2 n2 H2 locs2 hp2 hw2 => ?_)
  clear hw
  dsimp only at hp2
  suffices hfin : r1 = r2 ∧ n2 = n1 ∧ iInv cI cJ cZ cH cR s.heap.size n1 M2 (cc + 1) from ?_
  · obtain ⟨er, en, I2⟩ := hfin
    subst en
    refine lv_icmp_eq (tgt := 753) C.1 C.2.1 dL_law_529 (by decide) (fun _ => ?_) (fun z => absurd er z)
    exact K _ _ _ _ hw2 I2
  obtain ⟨er2, en2, eM2⟩ := hp2
  subst en2
  subst eM2
  refine ⟨?_, rfl, iInv_next I0⟩
  rw [er1, er2]
  exact hot_eq hG (fun g hg => (how g hg).2.2.1) (fun g hg => (how g hg).2.2.2) (by omega) _
set_option maxHeartbeats 4000000 in
set_option maxRecDepth 100000 in
theorem lw_out (X : lwC p s m c D cI cJ cZ cH cR a L xs i cc ls) (hw : kW D s.heap.size M n s.heap H locs) (I : iInv cI cJ cZ cH cR s.heap.size n M cc) (K : lwK p l e s m below meth c Q ls D cI cJ cZ cH cR a cc)  : W p l e room_1 s m #[Value.ref a] below meth c H locs n (slN n) Q (F0 m 590 ls []) := by
  have I0 := I
  obtain ⟨C, hX, hbl, hL, hi, hcc, hl⟩ := X
  obtain ⟨mm, s_, G, mo, ta, sc, mv, rs, ca, ts, tr, os, lx, lz, lg, hc, w, hOb, hOw, hMv, hPl, hSt, hRw, hOu, hTm, hLg, hMk, hNu⟩ := I
  obtain ⟨hG0, hG, hmo, hta0, hta, hs_, hsum, hos, hlg, hc3, hmh, hn⟩ := id hNu
  obtain ⟨h0, h1, h6, h9, h22, h23, h26, h30, h33, h37, h43⟩ := id hOb
  obtain ⟨on_, ok_, oz, mon, mok, moz, h34, h35, h36, h53, h54, h55, hou⟩ := id hOu
  obtain ⟨rn, rk, rv, mrk, mrv, mwa, h27, h28, h29, h48, h49, h50, hrr⟩ := id hRw
  refine lv_aload_n C.1 C.2.1 dL_law_590 rfl (lv_at hl 2 rfl) ?_
  refine lw_ld (k0 := 0) (k3 := 3) (i := i) C hX hbl hw 1 (by omega) hL (lv_at hl 3 rfl) (lv_at hl 0 rfl) dL_law_591 dL_law_592 dL_law_593 rfl dL_law_594 dL_law_595 ?_
  refine lw_ld (k0 := 0) (k3 := 3) (i := i) C hX hbl hw 2 (by omega) hL (lv_at hl 3 rfl) (lv_at hl 0 rfl) dL_law_596 dL_law_597 dL_law_598 rfl dL_law_599 dL_law_600 ?_
  refine k_vl C hw 0 (by omega) h0 rfl (c_X8_out (by omega) h0 h33 h34 h35 h36 (by have := hrr.1; omega)) kv_L_81 rfl hl.1 ⟨Nat.le_of_ble_eq_true rfl, Nat.le_of_ble_eq_true rfl⟩ (Nat.le_of_ble_eq_true rfl) (slN_room (by omega) 0 0 (by omega) (by omega)) dL_law_601 (fun r1 M1 n1 H1 locs1 hp1 hw1 => ?_)
  clear hw
  dsimp only at hp1
  obtain ⟨er1, en1, eM1⟩ := hp1
  subst en1
  subst eM1
  have hw := hw1
  refine lv_aload_n C.1 C.2.1 dL_law_604 rfl (lv_at hl 1 rfl) ?_
  refine lw_ld (k0 := 0) (k3 := 3) (i := i) C hX hbl hw 1 (by omega) hL (lv_at hl 3 rfl) (lv_at hl 0 rfl) dL_law_605 dL_law_606 dL_law_607 rfl dL_law_608 dL_law_609 ?_
  refine lw_ld (k0 := 0) (k3 := 3) (i := i) C hX hbl hw 2 (by omega) hL (lv_at hl 3 rfl) (lv_at hl 0 rfl) dL_law_610 dL_law_611 dL_law_612 rfl dL_law_613 dL_law_614 ?_
  refine k_vl C hw 43 (by omega) h43 rfl (c_X9_out (by omega) h43 h53 h54 h55 (by have := hrr.1; omega)) kv_L_85 rfl hl.1 ⟨Nat.le_of_ble_eq_true rfl, Nat.le_of_ble_eq_true rfl⟩ (Nat.le_of_ble_eq_true rfl) (slN_room2 (by omega) 0 0 (by omega) (by omega)) dL_law_615 (fun r2 M2 n2 H2 locs2 hp2 hw2 => ?_)
  clear hw
  dsimp only at hp2
  suffices hfin : r1 = r2 ∧ n2 = n1 ∧ iInv cI cJ cZ cH cR s.heap.size n1 M2 (cc + 1) from ?_
  · obtain ⟨er, en, I2⟩ := hfin
    subst en
    refine W.lcmp C.1 C.2.1 dL_law_618 ?_
    refine lv_if_eq (tgt := 753) C.1 C.2.1 dL_law_619 (by decide) (fun _ => ?_) (fun z => absurd (by rw [er]; exact lg_cmp_self _) z)
    exact K _ _ _ _ hw2 I2
  obtain ⟨er2, en2, eM2⟩ := hp2
  subst en2
  subst eM2
  refine ⟨?_, rfl, iInv_next I0⟩
  rw [er1, er2]
  have hca9 := hrr.1
  by_cases y : ¬ xs (i + 2) < 0 ∧ xs (i + 2) ≤ nI 2
  · rw [if_pos y, if_pos y]
    by_cases z : isT (xs (i + 1)) os
    · rw [if_pos z, if_pos z]
      obtain ⟨k, hk, -, ek⟩ := isT_nI (by omega) z
      rw [(hou (kn (xs (i + 1))) (by omega)).1, (hou (kn (xs (i + 1))) (by omega)).2.1, (hou (kn (xs (i + 1))) (by omega)).2.2]
    · rw [if_neg z, if_neg z]
  · rw [if_neg y, if_neg y]
set_option maxHeartbeats 4000000 in
set_option maxRecDepth 100000 in
theorem lw_log (X : lwC p s m c D cI cJ cZ cH cR a L xs i cc ls) (hw : kW D s.heap.size M n s.heap H locs) (I : iInv cI cJ cZ cH cR s.heap.size n M cc) (K : lwK p l e s m below meth c Q ls D cI cJ cZ cH cR a cc)  : W p l e room_1 s m #[Value.ref a] below meth c H locs n (slN n) Q (F0 m 624 ls []) := by
  have I0 := I
  obtain ⟨C, hX, hbl, hL, hi, hcc, hl⟩ := X
  obtain ⟨mm, s_, G, mo, ta, sc, mv, rs, ca, ts, tr, os, lx, lz, lg, hc, w, hOb, hOw, hMv, hPl, hSt, hRw, hOu, hTm, hLg, hMk, hNu⟩ := I
  obtain ⟨hG0, hG, hmo, hta0, hta, hs_, hsum, hos, hlg, hc3, hmh, hn⟩ := id hNu
  obtain ⟨h0, h1, h6, h9, h22, h23, h26, h30, h33, h37, h43⟩ := id hOb
  obtain ⟨lk, lt, lc, ly, mlk, mlt, mlc, mly, h38, h39, h40, h41, h58, h59, h60, h61, hlgr⟩ := id hLg
  refine lv_aload_n C.1 C.2.1 dL_law_624 rfl (lv_at hl 2 rfl) ?_
  refine lw_ld (k0 := 0) (k3 := 3) (i := i) C hX hbl hw 1 (by omega) hL (lv_at hl 3 rfl) (lv_at hl 0 rfl) dL_law_625 dL_law_626 dL_law_627 rfl dL_law_628 dL_law_629 ?_
  refine lw_ld (k0 := 0) (k3 := 3) (i := i) C hX hbl hw 2 (by omega) hL (lv_at hl 3 rfl) (lv_at hl 0 rfl) dL_law_630 dL_law_631 dL_law_632 rfl dL_law_633 dL_law_634 ?_
  refine k_vl C hw 0 (by omega) h0 rfl (c_X8_log (by omega) h0 h37 h38 h39 h40 h41 hlgr.1 (by have := hlgr.2.1; omega)) kv_L_86 rfl hl.1 ⟨Nat.le_of_ble_eq_true rfl, Nat.le_of_ble_eq_true rfl⟩ (Nat.le_of_ble_eq_true rfl) (slN_room (by omega) 0 0 (by omega) (by omega)) dL_law_635 (fun r1 M1 n1 H1 locs1 hp1 hw1 => ?_)
  clear hw
  dsimp only at hp1
  obtain ⟨er1, en1, eM1⟩ := hp1
  subst en1
  subst eM1
  have hw := hw1
  refine lv_aload_n C.1 C.2.1 dL_law_638 rfl (lv_at hl 1 rfl) ?_
  refine lw_ld (k0 := 0) (k3 := 3) (i := i) C hX hbl hw 1 (by omega) hL (lv_at hl 3 rfl) (lv_at hl 0 rfl) dL_law_639 dL_law_640 dL_law_641 rfl dL_law_642 dL_law_643 ?_
  refine lw_ld (k0 := 0) (k3 := 3) (i := i) C hX hbl hw 2 (by omega) hL (lv_at hl 3 rfl) (lv_at hl 0 rfl) dL_law_644 dL_law_645 dL_law_646 rfl dL_law_647 dL_law_648 ?_
  refine k_vl C hw 43 (by omega) h43 rfl (c_X9_log (by omega) h43 h58 h59 h60 h61 (by omega)) kv_L_89 rfl hl.1 ⟨Nat.le_of_ble_eq_true rfl, Nat.le_of_ble_eq_true rfl⟩ (Nat.le_of_ble_eq_true rfl) (slN_room2 (by omega) 0 0 (by omega) (by omega)) dL_law_649 (fun r2 M2 n2 H2 locs2 hp2 hw2 => ?_)
  clear hw
  dsimp only at hp2
  suffices hfin : r1 = r2 ∧ n2 = n1 ∧ iInv cI cJ cZ cH cR s.heap.size n1 M2 (cc + 1) from ?_
  · obtain ⟨er, en, I2⟩ := hfin
    subst en
    refine W.lcmp C.1 C.2.1 dL_law_652 ?_
    refine lv_if_eq (tgt := 753) C.1 C.2.1 dL_law_653 (by decide) (fun _ => ?_) (fun z => absurd (by rw [er]; exact lg_cmp_self _) z)
    exact K _ _ _ _ hw2 I2
  obtain ⟨er2, en2, eM2⟩ := hp2
  subst en2
  subst eM2
  refine ⟨?_, rfl, iInv_next I0⟩
  rw [er1, er2]
  obtain ⟨q1, q2, q3⟩ := hlgr
  rw [← q2]
  by_cases y : ¬ xs (i + 2) < 0 ∧ xs (i + 2) ≤ nI 3
  · rw [if_pos y, if_pos y]
    by_cases z : isT (xs (i + 1)) lz
    · rw [if_pos z, if_pos z]
      obtain ⟨k, hk, -, ek⟩ := isT_nI (by omega) z
      have q4 := q3 (kn (xs (i + 1))) (by omega)
      rw [q4.1, q4.2.1, q4.2.2.1, q4.2.2.2]
    · rw [if_neg z, if_neg z]
  · rw [if_neg y, if_neg y]
set_option maxHeartbeats 4000000 in
set_option maxRecDepth 100000 in
theorem lw_digest (X : lwC p s m c D cI cJ cZ cH cR a L xs i cc ls) (hw : kW D s.heap.size M n s.heap H locs) (I : iInv cI cJ cZ cH cR s.heap.size n M cc) (K : lwK p l e s m below meth c Q ls D cI cJ cZ cH cR a cc)  : W p l e room_1 s m #[Value.ref a] below meth c H locs n (slN n) Q (F0 m 704 ls []) := by
  have I0 := I
  obtain ⟨C, hX, hbl, hL, hi, hcc, hl⟩ := X
  obtain ⟨mm, s_, G, mo, ta, sc, mv, rs, ca, ts, tr, os, lx, lz, lg, hc, w, hOb, hOw, hMv, hPl, hSt, hRw, hOu, hTm, hLg, hMk, hNu⟩ := I
  obtain ⟨hG0, hG, hmo, hta0, hta, hs_, hsum, hos, hlg, hc3, hmh, hn⟩ := id hNu
  obtain ⟨h0, h1, h6, h9, h22, h23, h26, h30, h33, h37, h43⟩ := id hOb
  obtain ⟨ow, ep, we, mow, mep, mwe, h2, h3, h4, h44, h45, h46, how⟩ := id hOw
  refine lv_aload_n C.1 C.2.1 dL_law_704 rfl (lv_at hl 2 rfl) ?_
  refine k_vi C hw 0 (by omega) h0 rfl (c_X8_digest (by omega) h0 h1 h2 h3 hG0 hG) kv_L_99 rfl hl.1 ⟨Nat.le_of_ble_eq_true rfl, Nat.le_of_ble_eq_true rfl⟩ (Nat.le_of_ble_eq_true rfl) (slN_room (by omega) 0 0 (by omega) (by omega)) dL_law_705 (fun r1 M1 n1 H1 locs1 hp1 hw1 => ?_)
  clear hw
  dsimp only at hp1
  obtain ⟨er1, en1, eM1⟩ := hp1
  subst en1
  subst eM1
  have hw := hw1
  refine lv_aload_n C.1 C.2.1 dL_law_708 rfl (lv_at hl 1 rfl) ?_
  refine k_vi C hw 43 (by omega) h43 rfl (c_X9_digest (by omega) h43 h44 h45 hG0 hG) kv_L_102 rfl hl.1 ⟨Nat.le_of_ble_eq_true rfl, Nat.le_of_ble_eq_true rfl⟩ (Nat.le_of_ble_eq_true rfl) (slN_room2 (by omega) 0 0 (by omega) (by omega)) dL_law_709 (fun r2 M2 n2 H2 locs2 hp2 hw2 => ?_)
  clear hw
  dsimp only at hp2
  suffices hfin : r1 = r2 ∧ n2 = n1 ∧ iInv cI cJ cZ cH cR s.heap.size n1 M2 (cc + 1) from ?_
  · obtain ⟨er, en, I2⟩ := hfin
    subst en
    refine lv_icmp_eq (tgt := 753) C.1 C.2.1 dL_law_712 (by decide) (fun _ => ?_) (fun z => absurd er z)
    exact K _ _ _ _ hw2 I2
  obtain ⟨er2, en2, eM2⟩ := hp2
  subst en2
  subst eM2
  refine ⟨?_, rfl, iInv_next I0⟩
  rw [er1, er2]
  exact dgs_congr (fun j hj => ⟨(how j hj).1, (how j hj).2.1⟩)
set_option maxHeartbeats 4000000 in
set_option maxRecDepth 100000 in
theorem lw_told (X : lwC p s m c D cI cJ cZ cH cR a L xs i cc ls) (hw : kW D s.heap.size M n s.heap H locs) (I : iInv cI cJ cZ cH cR s.heap.size n M cc) (K : lwK p l e s m below meth c Q ls D cI cJ cZ cH cR a cc)  : W p l e room_1 s m #[Value.ref a] below meth c H locs n (slN n) Q (F0 m 717 ls []) := by
  have I0 := I
  obtain ⟨C, hX, hbl, hL, hi, hcc, hl⟩ := X
  obtain ⟨mm, s_, G, mo, ta, sc, mv, rs, ca, ts, tr, os, lx, lz, lg, hc, w, hOb, hOw, hMv, hPl, hSt, hRw, hOu, hTm, hLg, hMk, hNu⟩ := I
  obtain ⟨hG0, hG, hmo, hta0, hta, hs_, hsum, hos, hlg, hc3, hmh, hn⟩ := id hNu
  obtain ⟨h0, h1, h6, h9, h22, h23, h26, h30, h33, h37, h43⟩ := id hOb
  obtain ⟨ow, ep, we, mow, mep, mwe, h2, h3, h4, h44, h45, h46, how⟩ := id hOw
  obtain ⟨rn, rk, rv, mrk, mrv, mwa, h27, h28, h29, h48, h49, h50, hrr⟩ := id hRw
  obtain ⟨lk, lt, lc, ly, mlk, mlt, mlc, mly, h38, h39, h40, h41, h58, h59, h60, h61, hlgr⟩ := id hLg
  refine lv_aload_n C.1 C.2.1 dL_law_717 rfl (lv_at hl 2 rfl) ?_
  refine lw_ld (k0 := 0) (k3 := 3) (i := i) C hX hbl hw 1 (by omega) hL (lv_at hl 3 rfl) (lv_at hl 0 rfl) dL_law_718 dL_law_719 dL_law_720 rfl dL_law_721 dL_law_722 ?_
  refine k_vi C hw 0 (by omega) h0 rfl (c_X8_told (by omega) h0 h1 h4 h22 h26 h30 h33 h37 hG0 hG) kv_L_103 rfl hl.1 ⟨Nat.le_of_ble_eq_true rfl, Nat.le_of_ble_eq_true rfl⟩ (Nat.le_of_ble_eq_true rfl) (slN_room (by omega) 0 0 (by omega) (by omega)) dL_law_723 (fun r1 M1 n1 H1 locs1 hp1 hw1 => ?_)
  clear hw
  dsimp only at hp1
  obtain ⟨er1, en1, eM1⟩ := hp1
  subst en1
  subst eM1
  have hw := hw1
  refine lv_aload_n C.1 C.2.1 dL_law_726 rfl (lv_at hl 1 rfl) ?_
  refine lw_ld (k0 := 0) (k3 := 3) (i := i) C hX hbl hw 1 (by omega) hL (lv_at hl 3 rfl) (lv_at hl 0 rfl) dL_law_727 dL_law_728 dL_law_729 rfl dL_law_730 dL_law_731 ?_
  refine k_vi C hw 43 (by omega) h43 rfl (c_X9_told (by omega) h43 h46 h50 hG0 hG hrr.1 (by omega)) kv_L_106 rfl hl.1 ⟨Nat.le_of_ble_eq_true rfl, Nat.le_of_ble_eq_true rfl⟩ (Nat.le_of_ble_eq_true rfl) (slN_room2 (by omega) 0 0 (by omega) (by omega)) dL_law_732 (fun r2 M2 n2 H2 locs2 hp2 hw2 => ?_)
  clear hw
  dsimp only at hp2
  suffices hfin : r1 = r2 ∧ n2 = n1 ∧ iInv cI cJ cZ cH cR s.heap.size n1 M2 (cc + 1) from ?_
  · obtain ⟨er, en, I2⟩ := hfin
    subst en
    refine lv_icmp_eq (tgt := 753) C.1 C.2.1 dL_law_735 (by decide) (fun _ => ?_) (fun z => absurd er z)
    exact K _ _ _ _ hw2 I2
  obtain ⟨er2, en2, eM2⟩ := hp2
  subst en2
  subst eM2
  refine ⟨?_, rfl, iInv_next I0⟩
  rw [er1, er2]
  rw [← hrr.2.1, ← hlgr.2.1, sm_congr (f := we) (g := mwe) (n := G) (fun j hj => (how j hj).2.2.1)]
end KLC
