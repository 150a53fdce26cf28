theorem kv_X8_9 : kIn RX8 9 yX3_init cX3_init 1 0 := ⟨q_34, q_35, q_14, q_36, by decide +kernel⟩
theorem kv_X8_18 : kIn RX8 18 yX4_init cX4_init 1 0 := ⟨q_60, q_61, q_18, q_62, by decide +kernel⟩
theorem kv_X8_25 : kIn RX8 25 yX0_init cX0_init 1 0 := ⟨q_68, q_69, q_22, q_70, by decide +kernel⟩
theorem kv_X8_32 : kIn RX8 32 yX2_init cX2_init 1 0 := ⟨q_104, q_105, q_26, q_106, by decide +kernel⟩
theorem kv_X8_39 : kIn RX8 39 yX1_init cX1_init 1 0 := ⟨q_111, q_112, q_30, q_113, by decide +kernel⟩
theorem kv_X8_143 : kV RX8 RX4 143 yX4_layEven cX4_layEven 4 none 2 := ⟨q_308, q_309, q_310, q_18, q_311, by decide +kernel⟩
theorem kv_X8_146 : kV RX8 RX4 146 yX4_layLeast cX4_layLeast 6 (some .int) 3 := ⟨q_316, q_317, q_318, q_18, q_319, by decide +kernel⟩
theorem kv_X8_151 : kV RX8 RX3 151 yX3_follow cX3_follow 4 (some .int) 2 := ⟨q_347, q_348, q_349, q_14, q_350, by decide +kernel⟩
theorem kv_X8_197 : kV RX8 RX7 197 yX7_dueAt cX7_dueAt 3 (some .int) 1 := ⟨q_519, q_520, q_521, q_82, q_522, by decide +kernel⟩
theorem kv_X8_204 : kV RX8 RX1 204 yX1_put cX1_put 6 none 4 := ⟨q_523, q_524, q_525, q_30, q_526, by decide +kernel⟩
theorem kv_X8_207 : kV RX8 RX6 207 yX6_forget cX6_forget 2 none 1 := ⟨q_533, q_534, q_535, q_74, q_536, by decide +kernel⟩
theorem kv_X8_210 : kV RX8 RX7 210 yX7_takeFirst cX7_takeFirst 2 none 1 := ⟨q_537, q_538, q_539, q_82, q_540, by decide +kernel⟩
theorem kv_X8_229 : kV RX8 RX0 229 yX0_copyFrom cX0_copyFrom 2 none 1 := ⟨q_599, q_600, q_601, q_22, q_602, by decide +kernel⟩
theorem kv_X8_233 : kV RX8 RX3 233 yX3_startAnew cX3_startAnew 4 none 2 := ⟨q_625, q_626, q_627, q_14, q_628, by decide +kernel⟩
set_option maxHeartbeats 4000000 in
set_option maxRecDepth 100000 in
theorem c_X8_tick {l : Launch} {D : va_G} {cI cJ cZ cH cR : ClassId} {b : Nat} {n : Nat} {M : Nat → va_E}  {mm : Nat} {sl : Int32} {ct : Nat → Int32} {su : Nat → Int64} {ts : Nat} {tr : Int32} {tk : Nat → Int32} {tt : Nat → Int32} {lx : Nat} {lz : Nat} {lk : Nat → Int32} {lt : Nat → Int32} {lc : Nat → Int32} {ly : Nat → Int64} {t : Int32} (hn : 42 ≤ n) (h0 : M 0 = .inr (8, [.ref (b + 1), .ref (b + 6), .ref (b + 22), .ref (b + 33), .ref (b + 37), .ref (b + 42), .int (nI mm), .int sl])) (h22 : M 22 = .inr (0, [.ref (b + 23), .ref (b + 26), .ref (b + 30)])) (h23 : M 23 = .inr (6, [.ref (b + 24), .ref (b + 25)])) (h24 : M 24 = .inl (cI, 100, .inl ct)) (h25 : M 25 = .inl (cJ, 100, .inr (.inl su))) (h30 : M 30 = .inr (7, [.ref (b + 31), .ref (b + 32), .int (nI ts), .int tr])) (h31 : M 31 = .inl (cI, 40, .inl tk)) (h32 : M 32 = .inl (cI, 40, .inl tt)) (h37 : M 37 = .inr (1, [.ref (b + 38), .ref (b + 39), .ref (b + 40), .ref (b + 41), .int (nI lx), .int (nI lz)])) (h38 : M 38 = .inl (cI, 32, .inl lk)) (h39 : M 39 = .inl (cI, 32, .inl lt)) (h40 : M 40 = .inl (cI, 32, .inl lc)) (h41 : M 41 = .inl (cJ, 32, .inr (.inl ly)))  (hts : ts ≤ 40) (hx : lx < 32) (hz : lz ≤ 32) (htk : ∀ q, q < ts → ∃ k, k < 100 ∧ tk q = nI k) : Met l yX8_tick (kw yX8_tick cX8_tick 5 (some .int)) ({ frames := 2, cells := 0, slots := 0, locals := 61 }) (va_Pc [.ref (b + 0), .int t] (kPre D (kT cI cJ cZ cH cR) b M n)) (va_Qi (fun (r : Int32) (u : (Nat → va_E) × Nat) => u.2 = n ∧ (((¬ (¬ t < tr ∧ t ≤ nI 1000000)) ∧ r = -102 ∧ u.1 = M) ∨ (((¬ t < tr ∧ t ≤ nI 1000000)) ∧ r = nI (fst (fun j => decide (t < tt j)) ts) ∧ kF [24, 25, 37, 38, 39, 40, 41, 30, 31, 32] M u.1 ∧ u.1 24 = .inl (cI, 100, .inl (tC tk ct (fst (fun j => decide (t < tt j)) ts))) ∧ u.1 25 = .inl (cJ, 100, .inr (.inl (tS tk su (fst (fun j => decide (t < tt j)) ts)))) ∧ u.1 37 = .inr (1, [.ref (b + 38), .ref (b + 39), .ref (b + 40), .ref (b + 41), .int (nI ((lx + (fst (fun j => decide (t < tt j)) ts)) % 32)), .int (nI (min (lz + (fst (fun j => decide (t < tt j)) ts)) 32))]) ∧ u.1 38 = .inl (cI, 32, .inl (lgI lx tk lk (fst (fun j => decide (t < tt j)) ts))) ∧ u.1 39 = .inl (cI, 32, .inl (lgI lx tt lt (fst (fun j => decide (t < tt j)) ts))) ∧ u.1 40 = .inl (cI, 32, .inl (lgI lx (fun j => tC tk ct j (kn (tk j))) lc (fst (fun j => decide (t < tt j)) ts))) ∧ u.1 41 = .inl (cJ, 32, .inr (.inl (lgJ lx (fun j => tS tk su j (kn (tk j))) ly (fst (fun j => decide (t < tt j)) ts)))) ∧ u.1 30 = .inr (7, [.ref (b + 31), .ref (b + 32), .int (nI (ts - (fst (fun j => decide (t < tt j)) ts))), .int (t)]) ∧ u.1 31 = .inl (cI, 40, .inl (va_cpy tk tk (fst (fun j => decide (t < tt j)) ts) 0 (ts - (fst (fun j => decide (t < tt j)) ts)))) ∧ u.1 32 = .inl (cI, 40, .inl (va_cpy tt tt (fst (fun j => decide (t < tt j)) ts) 0 (ts - (fst (fun j => decide (t < tt j)) ts))))))) (kB D (kT cI cJ cZ cH cR) b) (kA b)) 0 0 (kA b) := by
  refine k_metI (by decide +kernel) (Nat.le_of_ble_eq_true rfl) ?_
  intro p e s m below meth c ls Q C hw hret hnm hl
  have hl : lv_has ls 5 [(0, .ref (b + 0)), (1, .int t)] := hl
  have hFF : kF [24, 25, 37, 38, 39, 40, 41, 30, 31, 32] M M := kF_rf
  refine lv_iload_n C.1 C.2.1 dX8_tick_0 rfl (lv_at hl 1 rfl) ?_
  refine lv_aload_n C.1 C.2.1 dX8_tick_1 rfl (lv_at hl 0 rfl) ?_
  refine k_get C hw 0 (by omega) h0 rfl inlX8 2 (by decide) q_23 rfl dX8_tick_2 ?_
  refine k_get C hw 22 (by omega) h22 rfl inlX0 2 (by decide) q_179 rfl dX8_tick_5 ?_
  refine k_get C hw 30 (by omega) h30 rfl inlX7 3 (by decide) q_492 rfl dX8_tick_8 ?_
  refine lv_icmp_lt (tgt := 20) C.1 C.2.1 dX8_tick_11 (by decide) (fun c11 => ?_) (fun c11 => ?_)
  · refine lv_bipush (v := (-102)) C.1 C.2.1 dX8_tick_20 (by decide) ?_
    exact hret _ _ (Nat.le_of_ble_eq_true rfl) (Nat.le_of_ble_eq_true rfl) hw (⟨rfl, Or.inl ⟨fun z => z.1 c11, rfl, rfl⟩⟩) dX8_tick_22
  · refine lv_iload_n C.1 C.2.1 dX8_tick_14 rfl (lv_at hl 1 rfl) ?_
    refine lv_ldc C.1 C.2.1 C.2.2.2.1 (C.2.2.2.2.1 _ q_493) dX8_tick_15 ?_
    refine k_topi (y := nI 1000000) (by decide) ?_
    refine lv_icmp_le (tgt := 23) C.1 C.2.1 dX8_tick_17 (by decide) (fun c17 => ?_) (fun c17 => ?_)
    · refine lv_aload_n C.1 C.2.1 dX8_tick_23 rfl (lv_at hl 0 rfl) ?_
      refine k_get C hw 0 (by omega) h0 rfl inlX8 2 (by decide) q_23 rfl dX8_tick_24 ?_
      refine k_get C hw 22 (by omega) h22 rfl inlX0 2 (by decide) q_179 rfl dX8_tick_27 ?_
      refine lv_iload_n C.1 C.2.1 dX8_tick_30 rfl (lv_at hl 1 rfl) ?_
      refine k_vi C hw 30 (by omega) h30 rfl (c_X7_dueAt (by omega) h30 h31 h32  (by omega)) kv_X8_197 rfl hl.1 ⟨Nat.le_of_ble_eq_true rfl, Nat.le_of_ble_eq_true rfl⟩ (Nat.le_of_ble_eq_true rfl) ⟨Nat.le_of_ble_eq_true rfl, Nat.le_of_ble_eq_true rfl⟩ dX8_tick_31 (fun r31 M_1 n9 H locs hp hw => ?_)
      obtain ⟨er31, en9, eM9⟩ := hp
      have en9 : n9 = n := en9
      rw [en9] at hw
      have eM9 : M_1 = M := eM9
      rw [eM9] at hw
      have hdu := fst_le (fun j => decide (t < tt j)) ts
      subst er31
      refine lv_istore_n (lv' := [(2, .int (nI (fst (fun j => decide (t < tt j)) ts))), (0, .ref (b + 0)), (1, .int t)]) C.1 C.2.1 dX8_tick_34 rfl hl (by decide) rfl (fun ls hl => ?_)
      refine lv_iconst (v := nI 0) C.1 C.2.1 dX8_tick_35 (by decide) ?_
      have h37 : M 37 = .inr (1, [.ref (b + 38), .ref (b + 39), .ref (b + 40), .ref (b + 41), .int (nI ((lx + 0) % 32)), .int (nI (min (lz + 0) 32))]) := by rw [h37, show (lx + 0) % 32 = lx from Nat.mod_eq_of_lt hx, show min (lz + 0) 32 = lz from Nat.min_eq_left hz]
      refine lv_istore_n (lv' := [(3, .int (nI 0)), (2, .int (nI (fst (fun j => decide (t < tt j)) ts))), (0, .ref (b + 0)), (1, .int t)]) C.1 C.2.1 dX8_tick_36 rfl hl (by decide) rfl (fun ls hl => ?_)
      have L37 : ∀ (N37 : Nat) (i : Nat) (Mx37 : Nat → va_E), ((fst (fun j => decide (t < tt j)) ts) - i < N37) → (i ≤ (fst (fun j => decide (t < tt j)) ts)) → kF [24, 25, 37, 38, 39, 40, 41, 30, 31, 32] M Mx37 → Mx37 0 = .inr (8, [.ref (b + 1), .ref (b + 6), .ref (b + 22), .ref (b + 33), .ref (b + 37), .ref (b + 42), .int (nI mm), .int sl]) → Mx37 22 = .inr (0, [.ref (b + 23), .ref (b + 26), .ref (b + 30)]) → Mx37 23 = .inr (6, [.ref (b + 24), .ref (b + 25)]) → Mx37 24 = .inl (cI, 100, .inl (tC tk ct i)) → Mx37 25 = .inl (cJ, 100, .inr (.inl (tS tk su i))) → Mx37 30 = .inr (7, [.ref (b + 31), .ref (b + 32), .int (nI ts), .int tr]) → Mx37 31 = .inl (cI, 40, .inl tk) → Mx37 32 = .inl (cI, 40, .inl tt) → Mx37 37 = .inr (1, [.ref (b + 38), .ref (b + 39), .ref (b + 40), .ref (b + 41), .int (nI ((lx + i) % 32)), .int (nI (min (lz + i) 32))]) → Mx37 38 = .inl (cI, 32, .inl (lgI lx tk lk i)) → Mx37 39 = .inl (cI, 32, .inl (lgI lx tt lt i)) → Mx37 40 = .inl (cI, 32, .inl (lgI lx (fun j => tC tk ct j (kn (tk j))) lc i)) → Mx37 41 = .inl (cJ, 32, .inr (.inl (lgJ lx (fun j => tS tk su j (kn (tk j))) ly i))) → ∀ (ls : Array Slot) (H : Heap) (locs : List Loc), lv_has ls 5 [(3, .int (nI i)), (2, .int (nI (fst (fun j => decide (t < tt j)) ts))), (0, .ref (b + 0)), (1, .int t)] → kW D b Mx37 n s.heap H locs → W p l e ({ frames := 2, cells := 0, slots := 0, locals := 61 } : Room) s m ([.ref (b + 0), .int t] : List Value).toArray below meth c H locs 0 0 Q (F0 m 37 ls []) := by
        intro N37
        induction N37 with
        | zero => intro i Mx37 hm37 hi hFF h0 h22 h23 h24 h25 h30 h31 h32 h37 h38 h39 h40 h41 ls H locs hl hw; omega
        | succ N37 ih37 =>
          intro i Mx37 hm37 hi hFF h0 h22 h23 h24 h25 h30 h31 h32 h37 h38 h39 h40 h41 ls H locs hl hw
          refine lv_iload_n C.1 C.2.1 dX8_tick_37 rfl (lv_at hl 0 rfl) ?_
          refine lv_iload_n C.1 C.2.1 dX8_tick_38 rfl (lv_at hl 1 rfl) ?_
          refine lv_icmp_ge (tgt := 121) C.1 C.2.1 dX8_tick_39 (by decide) (fun c39 => ?_) (fun c39 => ?_)
          · have q := (nI_leI (by omega) (by omega)).mp c39
            have q : i = (fst (fun j => decide (t < tt j)) ts) := by omega
            rw [q] at h24 h25 h37 h38 h39 h40 h41
            refine lv_aload_n C.1 C.2.1 dX8_tick_121 rfl (lv_at hl 2 rfl) ?_
            refine k_get C hw 0 (by omega) h0 rfl inlX8 2 (by decide) q_23 rfl dX8_tick_122 ?_
            refine k_get C hw 22 (by omega) h22 rfl inlX0 2 (by decide) q_179 rfl dX8_tick_125 ?_
            refine lv_iload_n C.1 C.2.1 dX8_tick_128 rfl (lv_at hl 1 rfl) ?_
            refine k_vv C hw 30 (by omega) h30 rfl (c_X7_takeFirst (by omega) h30 h31 h32  (hdu) (hts)) kv_X8_210 rfl hl.1 ⟨Nat.le_of_ble_eq_true rfl, Nat.le_of_ble_eq_true rfl⟩ (Nat.le_of_ble_eq_true rfl) ⟨Nat.le_of_ble_eq_true rfl, Nat.le_of_ble_eq_true rfl⟩ dX8_tick_129 (fun M_2 n9 H locs hp hw => ?_)
            obtain ⟨en9, hF, h30, h31, h32⟩ := hp
            have en9 : n9 = n := en9
            rw [en9] at hw
            have h0 := (hF 0 (by decide)).trans h0
            have h22 := (hF 22 (by decide)).trans h22
            have h23 := (hF 23 (by decide)).trans h23
            have h24 := (hF 24 (by decide)).trans h24
            have h25 := (hF 25 (by decide)).trans h25
            have h37 := (hF 37 (by decide)).trans h37
            have h38 := (hF 38 (by decide)).trans h38
            have h39 := (hF 39 (by decide)).trans h39
            have h40 := (hF 40 (by decide)).trans h40
            have h41 := (hF 41 (by decide)).trans h41
            have hFF := kF_st hFF hF (by first | decide | simp)
            refine lv_aload_n C.1 C.2.1 dX8_tick_132 rfl (lv_at hl 2 rfl) ?_
            refine k_get C hw 0 (by omega) h0 rfl inlX8 2 (by decide) q_23 rfl dX8_tick_133 ?_
            refine k_get C hw 22 (by omega) h22 rfl inlX0 2 (by decide) q_179 rfl dX8_tick_136 ?_
            refine lv_iload_n C.1 C.2.1 dX8_tick_139 rfl (lv_at hl 3 rfl) ?_
            refine k_put (tf := .int) C hw 30 (by omega) h30 rfl inlX7 tyX7 tyX7_ok nmX7 3 (by decide) q_492 rfl (by decide +kernel) rfl rfl (Nat.le_of_ble_eq_true rfl) dX8_tick_140 (fun M_3 H locs hw h30 hF => ?_)
            have h30 : M_3 30 = .inr (7, [.ref (b + 31), .ref (b + 32), .int (nI (ts - (fst (fun j => decide (t < tt j)) ts))), .int t]) := h30
            have h0 := (hF 0 (by decide)).trans h0
            have h22 := (hF 22 (by decide)).trans h22
            have h23 := (hF 23 (by decide)).trans h23
            have h24 := (hF 24 (by decide)).trans h24
            have h25 := (hF 25 (by decide)).trans h25
            have h31 := (hF 31 (by decide)).trans h31
            have h32 := (hF 32 (by decide)).trans h32
            have h37 := (hF 37 (by decide)).trans h37
            have h38 := (hF 38 (by decide)).trans h38
            have h39 := (hF 39 (by decide)).trans h39
            have h40 := (hF 40 (by decide)).trans h40
            have h41 := (hF 41 (by decide)).trans h41
            have hFF := kF_st hFF hF (by first | decide | simp)
            refine lv_iload_n C.1 C.2.1 dX8_tick_143 rfl (lv_at hl 1 rfl) ?_
            exact hret _ _ (Nat.le_of_ble_eq_true rfl) (Nat.le_of_ble_eq_true rfl) hw (⟨rfl, Or.inr (⟨⟨c11, c17⟩, rfl, hFF, h24, h25, h37, h38, h39, h40, h41, h30, h31, h32⟩)⟩) dX8_tick_144
          · have q : ¬ (fst (fun j => decide (t < tt j)) ts) ≤ i := fun y => c39 ((nI_leI (by omega) (by omega)).mpr y)
            refine lv_aload_n C.1 C.2.1 dX8_tick_42 rfl (lv_at hl 2 rfl) ?_
            refine k_get C hw 0 (by omega) h0 rfl inlX8 2 (by decide) q_23 rfl dX8_tick_43 ?_
            refine k_get C hw 22 (by omega) h22 rfl inlX0 2 (by decide) q_179 rfl dX8_tick_46 ?_
            refine k_get C hw 30 (by omega) h30 rfl inlX7 0 (by decide) q_517 rfl dX8_tick_49 ?_
            refine lv_iload_n C.1 C.2.1 dX8_tick_52 rfl (lv_at hl 0 rfl) ?_
            refine k_iald C hw 31 (by omega) h31 (by omega) (by first | decide | omega) dX8_tick_53 ?_
            refine lv_topi (fun ky eky => ?_)
            obtain ⟨k, hk9, ek⟩ := htk i (by omega)
            have ekn : kn (tk i) = k := by rw [ek]; exact nI_clamp (by omega)
            refine lv_istore (lv' := [(4, .int ky), (3, .int (nI i)), (2, .int (nI (fst (fun j => decide (t < tt j)) ts))), (0, .ref (b + 0)), (1, .int t)]) C.1 C.2.1 dX8_tick_54 hl (by decide) rfl (fun ls hl => ?_)
            refine lv_aload_n C.1 C.2.1 dX8_tick_56 rfl (lv_at hl 3 rfl) ?_
            refine k_get C hw 0 (by omega) h0 rfl inlX8 4 (by decide) q_31 rfl dX8_tick_57 ?_
            refine lv_iload C.1 C.2.1 dX8_tick_60 (lv_at hl 0 rfl) ?_
            refine lv_aload_n C.1 C.2.1 dX8_tick_62 rfl (lv_at hl 3 rfl) ?_
            refine k_get C hw 0 (by omega) h0 rfl inlX8 2 (by decide) q_23 rfl dX8_tick_63 ?_
            refine k_get C hw 22 (by omega) h22 rfl inlX0 2 (by decide) q_179 rfl dX8_tick_66 ?_
            refine k_get C hw 30 (by omega) h30 rfl inlX7 1 (by decide) q_518 rfl dX8_tick_69 ?_
            refine lv_iload_n C.1 C.2.1 dX8_tick_72 rfl (lv_at hl 1 rfl) ?_
            refine k_iald C hw 32 (by omega) h32 (by omega) (by first | decide | omega) dX8_tick_73 ?_
            refine lv_aload_n C.1 C.2.1 dX8_tick_74 rfl (lv_at hl 3 rfl) ?_
            refine k_get C hw 0 (by omega) h0 rfl inlX8 2 (by decide) q_23 rfl dX8_tick_75 ?_
            refine k_get C hw 22 (by omega) h22 rfl inlX0 0 (by decide) q_253 rfl dX8_tick_78 ?_
            refine k_get C hw 23 (by omega) h23 rfl inlX6 0 (by decide) q_254 rfl dX8_tick_81 ?_
            refine lv_iload C.1 C.2.1 dX8_tick_84 (lv_at hl 0 rfl) ?_
            refine k_topi (y := nI k) (eky.trans ek) ?_
            refine k_iald C hw 24 (by omega) h24 (by omega) (by first | decide | omega) dX8_tick_86 ?_
            refine lv_aload_n C.1 C.2.1 dX8_tick_87 rfl (lv_at hl 3 rfl) ?_
            refine k_get C hw 0 (by omega) h0 rfl inlX8 2 (by decide) q_23 rfl dX8_tick_88 ?_
            refine k_get C hw 22 (by omega) h22 rfl inlX0 0 (by decide) q_253 rfl dX8_tick_91 ?_
            refine k_get C hw 23 (by omega) h23 rfl inlX6 1 (by decide) q_255 rfl dX8_tick_94 ?_
            refine lv_iload C.1 C.2.1 dX8_tick_97 (lv_at hl 0 rfl) ?_
            refine k_topi (y := nI k) (eky.trans ek) ?_
            refine k_lald C hw 25 (by omega) h25 (by omega) (by first | decide | omega) dX8_tick_99 ?_
            refine k_vv C hw 37 (by omega) h37 rfl (c_X1_put (by omega) h37 h38 h39 h40 h41  (Nat.mod_lt _ (by decide)) (Nat.min_le_right _ _)) kv_X8_204 rfl hl.1 ⟨Nat.le_of_ble_eq_true rfl, Nat.le_of_ble_eq_true rfl⟩ (Nat.le_of_ble_eq_true rfl) ⟨Nat.le_of_ble_eq_true rfl, Nat.le_of_ble_eq_true rfl⟩ dX8_tick_100 (fun M_4 n9 H locs hp hw => ?_)
            obtain ⟨en9, hF, h37, h38, h39, h40, h41⟩ := hp
            have en9 : n9 = n := en9
            rw [en9] at hw
            have h0 := (hF 0 (by decide)).trans h0
            have h22 := (hF 22 (by decide)).trans h22
            have h23 := (hF 23 (by decide)).trans h23
            have h24 := (hF 24 (by decide)).trans h24
            have h25 := (hF 25 (by decide)).trans h25
            have h30 := (hF 30 (by decide)).trans h30
            have h31 := (hF 31 (by decide)).trans h31
            have h32 := (hF 32 (by decide)).trans h32
            have hFF := kF_st hFF hF (by first | decide | simp)
            refine lv_aload_n C.1 C.2.1 dX8_tick_103 rfl (lv_at hl 3 rfl) ?_
            refine k_get C hw 0 (by omega) h0 rfl inlX8 2 (by decide) q_23 rfl dX8_tick_104 ?_
            refine k_get C hw 22 (by omega) h22 rfl inlX0 0 (by decide) q_253 rfl dX8_tick_107 ?_
            refine lv_iload C.1 C.2.1 dX8_tick_110 (lv_at hl 0 rfl) ?_
            refine k_topi (y := nI k) (eky.trans ek) ?_
            refine k_vv C hw 23 (by omega) h23 rfl (c_X6_forget (by omega) h23 h24 h25  (hk9)) kv_X8_207 rfl hl.1 ⟨Nat.le_of_ble_eq_true rfl, Nat.le_of_ble_eq_true rfl⟩ (Nat.le_of_ble_eq_true rfl) ⟨Nat.le_of_ble_eq_true rfl, Nat.le_of_ble_eq_true rfl⟩ dX8_tick_112 (fun M_5 n9 H locs hp hw => ?_)
            obtain ⟨en9, hF, h24, h25⟩ := hp
            have en9 : n9 = n := en9
            rw [en9] at hw
            have h0 := (hF 0 (by decide)).trans h0
            have h22 := (hF 22 (by decide)).trans h22
            have h23 := (hF 23 (by decide)).trans h23
            have h30 := (hF 30 (by decide)).trans h30
            have h31 := (hF 31 (by decide)).trans h31
            have h32 := (hF 32 (by decide)).trans h32
            have h37 := (hF 37 (by decide)).trans h37
            have h38 := (hF 38 (by decide)).trans h38
            have h39 := (hF 39 (by decide)).trans h39
            have h40 := (hF 40 (by decide)).trans h40
            have h41 := (hF 41 (by decide)).trans h41
            have hFF := kF_st hFF hF (by first | decide | simp)
            refine lv_iinc (v := (nI (i + 1))) (lv' := [(3, .int (nI (i + 1))), (4, .int ky), (2, .int (nI (fst (fun j => decide (t < tt j)) ts))), (0, .ref (b + 0)), (1, .int t)]) C.1 C.2.1 dX8_tick_115 hl (k := 1) rfl (k_inc _ 1) (by decide) rfl (fun ls hl => ?_)
            refine lv_goto (tgt := 37) C.1 C.2.1 dX8_tick_118 (by decide) ?_
            rw [eky] at h38
            rw [← ekn] at h24 h25 h40 h41
            rw [lx_s, lz_s] at h37
            exact ih37  (i + 1) M_5 (by omega) (by omega) hFF h0 h22 h23 h24 h25 h30 h31 h32 h37 h38 h39 h40 h41  ls _ _ (lv_sub hl [0, 2, 3, 4] rfl) hw
      exact L37 (_ + 1) (0) M (Nat.lt_succ_self _) (Nat.zero_le _) hFF h0 h22 h23 h24 h25 h30 h31 h32 h37 h38 h39 h40 h41  ls _ _ (lv_sub hl [0, 1, 2, 3] rfl) hw
    · refine lv_bipush (v := (-102)) C.1 C.2.1 dX8_tick_20 (by decide) ?_
      exact hret _ _ (Nat.le_of_ble_eq_true rfl) (Nat.le_of_ble_eq_true rfl) hw (⟨rfl, Or.inl ⟨fun z => c17 z.2, rfl, rfl⟩⟩) dX8_tick_22

set_option maxHeartbeats 4000000 in
set_option maxRecDepth 100000 in
theorem c_X8_mark_f {l : Launch} {D : va_G} {cI cJ cZ cH cR : ClassId} {b : Nat} {n : Nat} {M : Nat → va_E}  {mm : Nat} {sl : Int32}  (hn : 1 ≤ n) (h0 : M 0 = .inr (8, [.ref (b + 1), .ref (b + 6), .ref (b + 22), .ref (b + 33), .ref (b + 37), .ref (b + 42), .int (nI mm), .int sl]))  (hm : mm < 1000) (hm3 : ¬ mm < 3) : Met l yX8_mark (kw yX8_mark cX8_mark 2 (some .int)) ({ frames := 0, cells := 0, slots := 0, locals := 0 }) (va_Pc [.ref (b + 0)] (kPre D (kT cI cJ cZ cH cR) b M n)) (va_Qi (fun (r : Int32) (u : (Nat → va_E) × Nat) => r = (-107) ∧ u.2 = n ∧ u.1 = M) (kB D (kT cI cJ cZ cH cR) b) (kA b)) 0 0 (kA b) := by
  refine k_metI (by decide +kernel) (Nat.le_of_ble_eq_true rfl) ?_
  intro p e s m below meth c ls Q C hw hret hnm hl
  have hl : lv_has ls 2 [(0, .ref (b + 0))] := hl
  refine lv_aload_n C.1 C.2.1 dX8_mark_0 rfl (lv_at hl 0 rfl) ?_
  refine k_get C hw 0 (by omega) h0 rfl inlX8 6 (by decide) q_181 rfl dX8_mark_1 ?_
  refine lv_iconst (v := nI 3) C.1 C.2.1 dX8_mark_4 (by decide) ?_
  refine lv_icmp_lt (tgt := 11) C.1 C.2.1 dX8_mark_5 (by decide) (fun c5 => ?_) (fun c5 => ?_)
  · exact absurd ((nI_ltI (by omega) (by omega)).mp c5) hm3
  · refine lv_bipush (v := (-107)) C.1 C.2.1 dX8_mark_8 (by decide) ?_
    exact hret _ _ (Nat.le_of_ble_eq_true rfl) (Nat.le_of_ble_eq_true rfl) hw (⟨rfl, rfl, rfl⟩) dX8_mark_10

set_option maxHeartbeats 4000000 in
set_option maxRecDepth 100000 in
theorem c_X8_mark_n0 {l : Launch} {D : va_G} {cI cJ cZ cH cR : ClassId} {b : Nat} {M : Nat → va_E}  {sl : Int32} {ct : Nat → Int32} {su : Nat → Int64} {rs : Nat} {ca : Nat} {rn : Nat → Int32} {rk : Nat → Int32} {rv : Nat → Int32} {ts : Nat} {tr : Int32} {tk : Nat → Int32} {tt : Nat → Int32} {mk : Nat → Option Nat}   (h0 : M 0 = .inr (8, [.ref (b + 1), .ref (b + 6), .ref (b + 22), .ref (b + 33), .ref (b + 37), .ref (b + 42), .int (nI 0), .int sl])) (h22 : M 22 = .inr (0, [.ref (b + 23), .ref (b + 26), .ref (b + 30)])) (h23 : M 23 = .inr (6, [.ref (b + 24), .ref (b + 25)])) (h24 : M 24 = .inl (cI, 100, .inl ct)) (h25 : M 25 = .inl (cJ, 100, .inr (.inl su))) (h26 : M 26 = .inr (5, [.ref (b + 27), .ref (b + 28), .ref (b + 29), .int (nI rs), .int (nI ca)])) (h27 : M 27 = .inl (cI, 400, .inl rn)) (h28 : M 28 = .inl (cI, 400, .inl rk)) (h29 : M 29 = .inl (cI, 400, .inl rv)) (h30 : M 30 = .inr (7, [.ref (b + 31), .ref (b + 32), .int (nI ts), .int tr])) (h31 : M 31 = .inl (cI, 40, .inl tk)) (h32 : M 32 = .inl (cI, 40, .inl tt)) (h42 : M 42 = .inl (cH, 3, .inr (.inr (.inr (.inr mk)))))  (hmk : mk 0 = none) (hs : rs ≤ 400) (ht : ts ≤ 40) : Met l yX8_mark (kw yX8_mark cX8_mark 2 (some .int)) ({ frames := 3, cells := 11, slots := 1494, locals := 82 }) (va_Pc [.ref (b + 0)] (kPre D (kT cI cJ cZ cH cR) b M 74)) (va_Qi (fun (r : Int32) (u : (Nat → va_E) × Nat) => r = (nI 0) ∧ u.2 = 85 ∧ kF [0, 42, 74, 75, 76, 77, 78, 79, 80, 81, 82, 83, 84] M u.1 ∧ u.1 0 = .inr (8, [.ref (b + 1), .ref (b + 6), .ref (b + 22), .ref (b + 33), .ref (b + 37), .ref (b + 42), .int (nI 1), .int sl]) ∧ u.1 42 = .inl (cH, 3, .inr (.inr (.inr (.inr (va_up mk 0 (some (b + 74))))))) ∧ u.1 74 = .inr (0, [.ref (b + 75), .ref (b + 78), .ref (b + 82)]) ∧ u.1 75 = .inr (6, [.ref (b + 76), .ref (b + 77)]) ∧ u.1 76 = .inl (cI, 100, .inl ct) ∧ u.1 77 = .inl (cJ, 100, .inr (.inl su)) ∧ u.1 78 = .inr (5, [.ref (b + 79), .ref (b + 80), .ref (b + 81), .int (nI rs), .int (nI ca)]) ∧ u.1 79 = .inl (cI, 400, .inl (va_cpy rn (fun _ => 0) 0 0 rs)) ∧ u.1 80 = .inl (cI, 400, .inl (va_cpy rk (fun _ => 0) 0 0 rs)) ∧ u.1 81 = .inl (cI, 400, .inl (va_cpy rv (fun _ => 0) 0 0 rs)) ∧ u.1 82 = .inr (7, [.ref (b + 83), .ref (b + 84), .int (nI ts), .int (tr)]) ∧ u.1 83 = .inl (cI, 40, .inl (va_cpy tk (fun _ => 0) 0 0 ts)) ∧ u.1 84 = .inl (cI, 40, .inl (va_cpy tt (fun _ => 0) 0 0 ts))) (kB D (kT cI cJ cZ cH cR) b) (kA b)) 11 1494 (kA b) := by
  refine k_metI (by decide +kernel) (Nat.le_of_ble_eq_true rfl) ?_
  intro p e s m below meth c ls Q C hw hret hnm hl
  have hl : lv_has ls 2 [(0, .ref (b + 0))] := hl
  have hFF : kF [0, 42, 74, 75, 76, 77, 78, 79, 80, 81, 82, 83, 84] M M := kF_rf
  refine lv_aload_n C.1 C.2.1 dX8_mark_0 rfl (lv_at hl 0 rfl) ?_
  refine k_get C hw 0 (by decide) h0 rfl inlX8 6 (by decide) q_181 rfl dX8_mark_1 ?_
  refine lv_iconst (v := nI 3) C.1 C.2.1 dX8_mark_4 (by decide) ?_
  refine lv_icmp_lt (tgt := 11) C.1 C.2.1 dX8_mark_5 (by decide) (fun c5 => ?_) (fun c5 => ?_)
  · refine lv_aload_n C.1 C.2.1 dX8_mark_11 rfl (lv_at hl 0 rfl) ?_
    refine k_get C hw 0 (by decide) h0 rfl inlX8 6 (by decide) q_181 rfl dX8_mark_12 ?_
    refine lv_istore_n (lv' := [(1, .int (nI 0)), (0, .ref (b + 0))]) C.1 C.2.1 dX8_mark_15 rfl hl (by decide) rfl (fun ls hl => ?_)
    refine lv_aload_n C.1 C.2.1 dX8_mark_16 rfl (lv_at hl 1 rfl) ?_
    refine k_get C hw 0 (by decide) h0 rfl inlX8 5 (by decide) q_32 rfl dX8_mark_17 ?_
    refine lv_iload_n C.1 C.2.1 dX8_mark_20 rfl (lv_at hl 0 rfl) ?_
    refine k_qald (v := .null) C hw 42 (by decide) h42 (by omega) (by decide) (by rw [hmk]; rfl) dX8_mark_21 ?_
    refine lv_ifnonnullN C.1 C.2.1 dX8_mark_22 ?_
    refine lv_aload_n C.1 C.2.1 dX8_mark_25 rfl (lv_at hl 1 rfl) ?_
    refine k_get C hw 0 (by decide) h0 rfl inlX8 5 (by decide) q_32 rfl dX8_mark_26 ?_
    refine lv_iload_n C.1 C.2.1 dX8_mark_29 rfl (lv_at hl 0 rfl) ?_
    refine k_new (fs := [.null, .null, .null]) C hw (ci := 0) rfl inlX0 tyX0 tyX0_ok q_20 q_21 q_22 (by decide +kernel) (Nat.le_of_ble_eq_true rfl) (Nat.le_of_ble_eq_true rfl) dX8_mark_30 (fun M_1 H hw h74 hF => ?_)
    have h0 := (hF 0 (by decide)).trans h0
    have h22 := (hF 22 (by decide)).trans h22
    have h23 := (hF 23 (by decide)).trans h23
    have h24 := (hF 24 (by decide)).trans h24
    have h25 := (hF 25 (by decide)).trans h25
    have h26 := (hF 26 (by decide)).trans h26
    have h27 := (hF 27 (by decide)).trans h27
    have h28 := (hF 28 (by decide)).trans h28
    have h29 := (hF 29 (by decide)).trans h29
    have h30 := (hF 30 (by decide)).trans h30
    have h31 := (hF 31 (by decide)).trans h31
    have h32 := (hF 32 (by decide)).trans h32
    have h42 := (hF 42 (by decide)).trans h42
    have hFF := kF_st hFF hF (by first | decide | simp)
    refine lv_dup C.1 C.2.1 dX8_mark_33 rfl ?_
    refine k_cv C hw (c_X0_init_74 h74  ) kv_X8_25 rfl hl.1 ⟨Nat.le_of_ble_eq_true rfl, Nat.le_of_ble_eq_true rfl⟩ (Nat.le_of_ble_eq_true rfl) ⟨Nat.le_of_ble_eq_true rfl, Nat.le_of_ble_eq_true rfl⟩ dX8_mark_34 (fun M_2 n9 H locs hp hw => ?_)
    obtain ⟨en9, hF, h74, h75, h76, h77, h78, h79, h80, h81, h82, h83, h84⟩ := hp
    have en9 : n9 = 85 := en9
    rw [en9] at hw
    have h0 := (hF 0 (by decide)).trans h0
    have h22 := (hF 22 (by decide)).trans h22
    have h23 := (hF 23 (by decide)).trans h23
    have h24 := (hF 24 (by decide)).trans h24
    have h25 := (hF 25 (by decide)).trans h25
    have h26 := (hF 26 (by decide)).trans h26
    have h27 := (hF 27 (by decide)).trans h27
    have h28 := (hF 28 (by decide)).trans h28
    have h29 := (hF 29 (by decide)).trans h29
    have h30 := (hF 30 (by decide)).trans h30
    have h31 := (hF 31 (by decide)).trans h31
    have h32 := (hF 32 (by decide)).trans h32
    have h42 := (hF 42 (by decide)).trans h42
    have hFF := kF_st hFF hF (by first | decide | simp)
    refine k_qast C hw 42 (by decide) h42 74 (by decide) h74 (by omega) (by decide) dX8_mark_37 (fun M_3 H locs hw h42 hF => ?_)
    have h0 := (hF 0 (by decide)).trans h0
    have h22 := (hF 22 (by decide)).trans h22
    have h23 := (hF 23 (by decide)).trans h23
    have h24 := (hF 24 (by decide)).trans h24
    have h25 := (hF 25 (by decide)).trans h25
    have h26 := (hF 26 (by decide)).trans h26
    have h27 := (hF 27 (by decide)).trans h27
    have h28 := (hF 28 (by decide)).trans h28
    have h29 := (hF 29 (by decide)).trans h29
    have h30 := (hF 30 (by decide)).trans h30
    have h31 := (hF 31 (by decide)).trans h31
    have h32 := (hF 32 (by decide)).trans h32
    have h74 := (hF 74 (by decide)).trans h74
    have h75 := (hF 75 (by decide)).trans h75
    have h76 := (hF 76 (by decide)).trans h76
    have h77 := (hF 77 (by decide)).trans h77
    have h78 := (hF 78 (by decide)).trans h78
    have h79 := (hF 79 (by decide)).trans h79
    have h80 := (hF 80 (by decide)).trans h80
    have h81 := (hF 81 (by decide)).trans h81
    have h82 := (hF 82 (by decide)).trans h82
    have h83 := (hF 83 (by decide)).trans h83
    have h84 := (hF 84 (by decide)).trans h84
    have hFF := kF_st hFF hF (by first | decide | simp)
    refine lv_aload_n C.1 C.2.1 dX8_mark_38 rfl (lv_at hl 1 rfl) ?_
    refine k_get C hw 0 (by decide) h0 rfl inlX8 5 (by decide) q_32 rfl dX8_mark_39 ?_
    refine lv_iload_n C.1 C.2.1 dX8_mark_42 rfl (lv_at hl 0 rfl) ?_
    refine k_qald (v := .ref (b + 74)) C hw 42 (by decide) h42 (by omega) (by decide) (by show va_rf (va_up mk 0 (some (b + 74)) 0) = _; unfold va_up; rw [if_pos rfl]; rfl) dX8_mark_43 ?_
    refine lv_aload_n C.1 C.2.1 dX8_mark_44 rfl (lv_at hl 1 rfl) ?_
    refine k_get C hw 0 (by decide) h0 rfl inlX8 2 (by decide) q_23 rfl dX8_mark_45 ?_
    refine k_vv C hw 74 (by decide) h74 rfl (c_X0_copyFrom_74_22 (by decide) h74 h75 h76 h77 h78 h79 h80 h81 h82 h83 h84 h22 h23 h24 h25 h26 h27 h28 h29 h30 h31 h32  (hs) (ht)) kv_X8_229 rfl hl.1 ⟨Nat.le_of_ble_eq_true rfl, Nat.le_of_ble_eq_true rfl⟩ (Nat.le_of_ble_eq_true rfl) ⟨Nat.le_of_ble_eq_true rfl, Nat.le_of_ble_eq_true rfl⟩ dX8_mark_48 (fun M_4 n9 H locs hp hw => ?_)
    obtain ⟨en9, hF, h76, h77, h78, h79, h80, h81, h82, h83, h84⟩ := hp
    have en9 : n9 = 85 := en9
    rw [en9] at hw
    have h0 := (hF 0 (by decide)).trans h0
    have h22 := (hF 22 (by decide)).trans h22
    have h23 := (hF 23 (by decide)).trans h23
    have h24 := (hF 24 (by decide)).trans h24
    have h25 := (hF 25 (by decide)).trans h25
    have h26 := (hF 26 (by decide)).trans h26
    have h27 := (hF 27 (by decide)).trans h27
    have h28 := (hF 28 (by decide)).trans h28
    have h29 := (hF 29 (by decide)).trans h29
    have h30 := (hF 30 (by decide)).trans h30
    have h31 := (hF 31 (by decide)).trans h31
    have h32 := (hF 32 (by decide)).trans h32
    have h42 := (hF 42 (by decide)).trans h42
    have h74 := (hF 74 (by decide)).trans h74
    have h75 := (hF 75 (by decide)).trans h75
    have hFF := kF_st hFF hF (by first | decide | simp)
    refine lv_aload_n C.1 C.2.1 dX8_mark_51 rfl (lv_at hl 1 rfl) ?_
    refine lv_dup C.1 C.2.1 dX8_mark_52 rfl ?_
    refine k_get C hw 0 (by decide) h0 rfl inlX8 6 (by decide) q_181 rfl dX8_mark_53 ?_
    refine lv_iconst (v := nI 1) C.1 C.2.1 dX8_mark_56 (by decide) ?_
    refine lv_iadd C.1 C.2.1 dX8_mark_57 ?_
    refine k_topi (y := nI 1) (by decide) ?_
    refine k_put (tf := .int) C hw 0 (by decide) h0 rfl inlX8 tyX8 tyX8_ok nmX8 6 (by decide) q_181 rfl (by decide +kernel) rfl rfl (Nat.le_of_ble_eq_true rfl) dX8_mark_58 (fun M_5 H locs hw h0 hF => ?_)
    have h0 : M_5 0 = .inr (8, [.ref (b + 1), .ref (b + 6), .ref (b + 22), .ref (b + 33), .ref (b + 37), .ref (b + 42), .int (nI 1), .int sl]) := h0
    have h22 := (hF 22 (by decide)).trans h22
    have h23 := (hF 23 (by decide)).trans h23
    have h24 := (hF 24 (by decide)).trans h24
    have h25 := (hF 25 (by decide)).trans h25
    have h26 := (hF 26 (by decide)).trans h26
    have h27 := (hF 27 (by decide)).trans h27
    have h28 := (hF 28 (by decide)).trans h28
    have h29 := (hF 29 (by decide)).trans h29
    have h30 := (hF 30 (by decide)).trans h30
    have h31 := (hF 31 (by decide)).trans h31
    have h32 := (hF 32 (by decide)).trans h32
    have h42 := (hF 42 (by decide)).trans h42
    have h74 := (hF 74 (by decide)).trans h74
    have h75 := (hF 75 (by decide)).trans h75
    have h76 := (hF 76 (by decide)).trans h76
    have h77 := (hF 77 (by decide)).trans h77
    have h78 := (hF 78 (by decide)).trans h78
    have h79 := (hF 79 (by decide)).trans h79
    have h80 := (hF 80 (by decide)).trans h80
    have h81 := (hF 81 (by decide)).trans h81
    have h82 := (hF 82 (by decide)).trans h82
    have h83 := (hF 83 (by decide)).trans h83
    have h84 := (hF 84 (by decide)).trans h84
    have hFF := kF_st hFF hF (by first | decide | simp)
    refine lv_iload_n C.1 C.2.1 dX8_mark_61 rfl (lv_at hl 0 rfl) ?_
    exact hret _ _ (Nat.le_of_ble_eq_true rfl) (Nat.le_of_ble_eq_true rfl) hw (⟨rfl, rfl, hFF, h0, h42, h74, h75, h76, h77, h78, h79, h80, h81, h82, h83, h84⟩) dX8_mark_62
  · exact absurd (by decide) c5

set_option maxHeartbeats 4000000 in
set_option maxRecDepth 100000 in
theorem c_X8_mark_o0 {l : Launch} {D : va_G} {cI cJ cZ cH cR : ClassId} {b : Nat} {n : Nat} {M : Nat → va_E}  {sl : Int32} {ct : Nat → Int32} {su : Nat → Int64} {rs : Nat} {ca : Nat} {rn : Nat → Int32} {rk : Nat → Int32} {rv : Nat → Int32} {ts : Nat} {tr : Int32} {tk : Nat → Int32} {tt : Nat → Int32} {mk : Nat → Option Nat} {ct0 : Nat → Int32} {su0 : Nat → Int64} {rs0 : Nat} {ca0 : Nat} {rn0 : Nat → Int32} {rk0 : Nat → Int32} {rv0 : Nat → Int32} {ts0 : Nat} {tr0 : Int32} {tk0 : Nat → Int32} {tt0 : Nat → Int32}  (hn : 85 ≤ n) (h0 : M 0 = .inr (8, [.ref (b + 1), .ref (b + 6), .ref (b + 22), .ref (b + 33), .ref (b + 37), .ref (b + 42), .int (nI 0), .int sl])) (h22 : M 22 = .inr (0, [.ref (b + 23), .ref (b + 26), .ref (b + 30)])) (h23 : M 23 = .inr (6, [.ref (b + 24), .ref (b + 25)])) (h24 : M 24 = .inl (cI, 100, .inl ct)) (h25 : M 25 = .inl (cJ, 100, .inr (.inl su))) (h26 : M 26 = .inr (5, [.ref (b + 27), .ref (b + 28), .ref (b + 29), .int (nI rs), .int (nI ca)])) (h27 : M 27 = .inl (cI, 400, .inl rn)) (h28 : M 28 = .inl (cI, 400, .inl rk)) (h29 : M 29 = .inl (cI, 400, .inl rv)) (h30 : M 30 = .inr (7, [.ref (b + 31), .ref (b + 32), .int (nI ts), .int tr])) (h31 : M 31 = .inl (cI, 40, .inl tk)) (h32 : M 32 = .inl (cI, 40, .inl tt)) (h42 : M 42 = .inl (cH, 3, .inr (.inr (.inr (.inr mk))))) (h74 : M 74 = .inr (0, [.ref (b + 75), .ref (b + 78), .ref (b + 82)])) (h75 : M 75 = .inr (6, [.ref (b + 76), .ref (b + 77)])) (h76 : M 76 = .inl (cI, 100, .inl ct0)) (h77 : M 77 = .inl (cJ, 100, .inr (.inl su0))) (h78 : M 78 = .inr (5, [.ref (b + 79), .ref (b + 80), .ref (b + 81), .int (nI rs0), .int (nI ca0)])) (h79 : M 79 = .inl (cI, 400, .inl rn0)) (h80 : M 80 = .inl (cI, 400, .inl rk0)) (h81 : M 81 = .inl (cI, 400, .inl rv0)) (h82 : M 82 = .inr (7, [.ref (b + 83), .ref (b + 84), .int (nI ts0), .int tr0])) (h83 : M 83 = .inl (cI, 40, .inl tk0)) (h84 : M 84 = .inl (cI, 40, .inl tt0))  (hmk : mk 0 = some (b + 74)) (hs : rs ≤ 400) (ht : ts ≤ 40) : Met l yX8_mark (kw yX8_mark cX8_mark 2 (some .int)) ({ frames := 3, cells := 0, slots := 0, locals := 82 }) (va_Pc [.ref (b + 0)] (kPre D (kT cI cJ cZ cH cR) b M n)) (va_Qi (fun (r : Int32) (u : (Nat → va_E) × Nat) => r = (nI 0) ∧ u.2 = n ∧ kF [0, 76, 77, 78, 79, 80, 81, 82, 83, 84] M u.1 ∧ u.1 0 = .inr (8, [.ref (b + 1), .ref (b + 6), .ref (b + 22), .ref (b + 33), .ref (b + 37), .ref (b + 42), .int (nI 1), .int sl]) ∧ u.1 76 = .inl (cI, 100, .inl ct) ∧ u.1 77 = .inl (cJ, 100, .inr (.inl su)) ∧ u.1 78 = .inr (5, [.ref (b + 79), .ref (b + 80), .ref (b + 81), .int (nI rs), .int (nI ca)]) ∧ u.1 79 = .inl (cI, 400, .inl (va_cpy rn rn0 0 0 rs)) ∧ u.1 80 = .inl (cI, 400, .inl (va_cpy rk rk0 0 0 rs)) ∧ u.1 81 = .inl (cI, 400, .inl (va_cpy rv rv0 0 0 rs)) ∧ u.1 82 = .inr (7, [.ref (b + 83), .ref (b + 84), .int (nI ts), .int (tr)]) ∧ u.1 83 = .inl (cI, 40, .inl (va_cpy tk tk0 0 0 ts)) ∧ u.1 84 = .inl (cI, 40, .inl (va_cpy tt tt0 0 0 ts))) (kB D (kT cI cJ cZ cH cR) b) (kA b)) 0 0 (kA b) := by
  refine k_metI (by decide +kernel) (Nat.le_of_ble_eq_true rfl) ?_
  intro p e s m below meth c ls Q C hw hret hnm hl
  have hl : lv_has ls 2 [(0, .ref (b + 0))] := hl
  have hFF : kF [0, 76, 77, 78, 79, 80, 81, 82, 83, 84] M M := kF_rf
  refine lv_aload_n C.1 C.2.1 dX8_mark_0 rfl (lv_at hl 0 rfl) ?_
  refine k_get C hw 0 (by omega) h0 rfl inlX8 6 (by decide) q_181 rfl dX8_mark_1 ?_
  refine lv_iconst (v := nI 3) C.1 C.2.1 dX8_mark_4 (by decide) ?_
  refine lv_icmp_lt (tgt := 11) C.1 C.2.1 dX8_mark_5 (by decide) (fun c5 => ?_) (fun c5 => ?_)
  · refine lv_aload_n C.1 C.2.1 dX8_mark_11 rfl (lv_at hl 0 rfl) ?_
    refine k_get C hw 0 (by omega) h0 rfl inlX8 6 (by decide) q_181 rfl dX8_mark_12 ?_
    refine lv_istore_n (lv' := [(1, .int (nI 0)), (0, .ref (b + 0))]) C.1 C.2.1 dX8_mark_15 rfl hl (by decide) rfl (fun ls hl => ?_)
    refine lv_aload_n C.1 C.2.1 dX8_mark_16 rfl (lv_at hl 1 rfl) ?_
    refine k_get C hw 0 (by omega) h0 rfl inlX8 5 (by decide) q_32 rfl dX8_mark_17 ?_
    refine lv_iload_n C.1 C.2.1 dX8_mark_20 rfl (lv_at hl 0 rfl) ?_
    refine k_qald (v := .ref (b + 74)) C hw 42 (by omega) h42 (by omega) (by decide) (by rw [hmk]; rfl) dX8_mark_21 ?_
    refine lv_ifnonnull (tgt := 38) C.1 C.2.1 dX8_mark_22 (by decide) ?_
    refine lv_aload_n C.1 C.2.1 dX8_mark_38 rfl (lv_at hl 1 rfl) ?_
    refine k_get C hw 0 (by omega) h0 rfl inlX8 5 (by decide) q_32 rfl dX8_mark_39 ?_
    refine lv_iload_n C.1 C.2.1 dX8_mark_42 rfl (lv_at hl 0 rfl) ?_
    refine k_qald (v := .ref (b + 74)) C hw 42 (by omega) h42 (by omega) (by decide) (by rw [hmk]; rfl) dX8_mark_43 ?_
    refine lv_aload_n C.1 C.2.1 dX8_mark_44 rfl (lv_at hl 1 rfl) ?_
    refine k_get C hw 0 (by omega) h0 rfl inlX8 2 (by decide) q_23 rfl dX8_mark_45 ?_
    refine k_vv C hw 74 (by omega) h74 rfl (c_X0_copyFrom_74_22 (by omega) h74 h75 h76 h77 h78 h79 h80 h81 h82 h83 h84 h22 h23 h24 h25 h26 h27 h28 h29 h30 h31 h32  (hs) (ht)) kv_X8_229 rfl hl.1 ⟨Nat.le_of_ble_eq_true rfl, Nat.le_of_ble_eq_true rfl⟩ (Nat.le_of_ble_eq_true rfl) ⟨Nat.le_of_ble_eq_true rfl, Nat.le_of_ble_eq_true rfl⟩ dX8_mark_48 (fun M_1 n9 H locs hp hw => ?_)
    obtain ⟨en9, hF, h76, h77, h78, h79, h80, h81, h82, h83, h84⟩ := hp
    have en9 : n9 = n := en9
    rw [en9] at hw
    have h0 := (hF 0 (by decide)).trans h0
    have h22 := (hF 22 (by decide)).trans h22
    have h23 := (hF 23 (by decide)).trans h23
    have h24 := (hF 24 (by decide)).trans h24
    have h25 := (hF 25 (by decide)).trans h25
    have h26 := (hF 26 (by decide)).trans h26
    have h27 := (hF 27 (by decide)).trans h27
    have h28 := (hF 28 (by decide)).trans h28
    have h29 := (hF 29 (by decide)).trans h29
    have h30 := (hF 30 (by decide)).trans h30
    have h31 := (hF 31 (by decide)).trans h31
    have h32 := (hF 32 (by decide)).trans h32
    have h42 := (hF 42 (by decide)).trans h42
    have h74 := (hF 74 (by decide)).trans h74
    have h75 := (hF 75 (by decide)).trans h75
    have hFF := kF_st hFF hF (by first | decide | simp)
    refine lv_aload_n C.1 C.2.1 dX8_mark_51 rfl (lv_at hl 1 rfl) ?_
    refine lv_dup C.1 C.2.1 dX8_mark_52 rfl ?_
    refine k_get C hw 0 (by omega) h0 rfl inlX8 6 (by decide) q_181 rfl dX8_mark_53 ?_
    refine lv_iconst (v := nI 1) C.1 C.2.1 dX8_mark_56 (by decide) ?_
    refine lv_iadd C.1 C.2.1 dX8_mark_57 ?_
    refine k_topi (y := nI 1) (by decide) ?_
    refine k_put (tf := .int) C hw 0 (by omega) h0 rfl inlX8 tyX8 tyX8_ok nmX8 6 (by decide) q_181 rfl (by decide +kernel) rfl rfl (Nat.le_of_ble_eq_true rfl) dX8_mark_58 (fun M_2 H locs hw h0 hF => ?_)
    have h0 : M_2 0 = .inr (8, [.ref (b + 1), .ref (b + 6), .ref (b + 22), .ref (b + 33), .ref (b + 37), .ref (b + 42), .int (nI 1), .int sl]) := h0
    have h22 := (hF 22 (by decide)).trans h22
    have h23 := (hF 23 (by decide)).trans h23
    have h24 := (hF 24 (by decide)).trans h24
    have h25 := (hF 25 (by decide)).trans h25
    have h26 := (hF 26 (by decide)).trans h26
    have h27 := (hF 27 (by decide)).trans h27
    have h28 := (hF 28 (by decide)).trans h28
    have h29 := (hF 29 (by decide)).trans h29
    have h30 := (hF 30 (by decide)).trans h30
    have h31 := (hF 31 (by decide)).trans h31
    have h32 := (hF 32 (by decide)).trans h32
    have h42 := (hF 42 (by decide)).trans h42
    have h74 := (hF 74 (by decide)).trans h74
    have h75 := (hF 75 (by decide)).trans h75
    have h76 := (hF 76 (by decide)).trans h76
    have h77 := (hF 77 (by decide)).trans h77
    have h78 := (hF 78 (by decide)).trans h78
    have h79 := (hF 79 (by decide)).trans h79
    have h80 := (hF 80 (by decide)).trans h80
    have h81 := (hF 81 (by decide)).trans h81
    have h82 := (hF 82 (by decide)).trans h82
    have h83 := (hF 83 (by decide)).trans h83
    have h84 := (hF 84 (by decide)).trans h84
    have hFF := kF_st hFF hF (by first | decide | simp)
    refine lv_iload_n C.1 C.2.1 dX8_mark_61 rfl (lv_at hl 0 rfl) ?_
    exact hret _ _ (Nat.le_of_ble_eq_true rfl) (Nat.le_of_ble_eq_true rfl) hw (⟨rfl, rfl, hFF, h0, h76, h77, h78, h79, h80, h81, h82, h83, h84⟩) dX8_mark_62
  · exact absurd (by decide) c5

set_option maxHeartbeats 4000000 in
set_option maxRecDepth 100000 in
theorem c_X8_mark_n1 {l : Launch} {D : va_G} {cI cJ cZ cH cR : ClassId} {b : Nat} {M : Nat → va_E}  {sl : Int32} {ct : Nat → Int32} {su : Nat → Int64} {rs : Nat} {ca : Nat} {rn : Nat → Int32} {rk : Nat → Int32} {rv : Nat → Int32} {ts : Nat} {tr : Int32} {tk : Nat → Int32} {tt : Nat → Int32} {mk : Nat → Option Nat}   (h0 : M 0 = .inr (8, [.ref (b + 1), .ref (b + 6), .ref (b + 22), .ref (b + 33), .ref (b + 37), .ref (b + 42), .int (nI 1), .int sl])) (h22 : M 22 = .inr (0, [.ref (b + 23), .ref (b + 26), .ref (b + 30)])) (h23 : M 23 = .inr (6, [.ref (b + 24), .ref (b + 25)])) (h24 : M 24 = .inl (cI, 100, .inl ct)) (h25 : M 25 = .inl (cJ, 100, .inr (.inl su))) (h26 : M 26 = .inr (5, [.ref (b + 27), .ref (b + 28), .ref (b + 29), .int (nI rs), .int (nI ca)])) (h27 : M 27 = .inl (cI, 400, .inl rn)) (h28 : M 28 = .inl (cI, 400, .inl rk)) (h29 : M 29 = .inl (cI, 400, .inl rv)) (h30 : M 30 = .inr (7, [.ref (b + 31), .ref (b + 32), .int (nI ts), .int tr])) (h31 : M 31 = .inl (cI, 40, .inl tk)) (h32 : M 32 = .inl (cI, 40, .inl tt)) (h42 : M 42 = .inl (cH, 3, .inr (.inr (.inr (.inr mk)))))  (hmk : mk 1 = none) (hs : rs ≤ 400) (ht : ts ≤ 40) : Met l yX8_mark (kw yX8_mark cX8_mark 2 (some .int)) ({ frames := 3, cells := 11, slots := 1494, locals := 82 }) (va_Pc [.ref (b + 0)] (kPre D (kT cI cJ cZ cH cR) b M 85)) (va_Qi (fun (r : Int32) (u : (Nat → va_E) × Nat) => r = (nI 1) ∧ u.2 = 96 ∧ kF [0, 42, 85, 86, 87, 88, 89, 90, 91, 92, 93, 94, 95] M u.1 ∧ u.1 0 = .inr (8, [.ref (b + 1), .ref (b + 6), .ref (b + 22), .ref (b + 33), .ref (b + 37), .ref (b + 42), .int (nI 2), .int sl]) ∧ u.1 42 = .inl (cH, 3, .inr (.inr (.inr (.inr (va_up mk 1 (some (b + 85))))))) ∧ u.1 85 = .inr (0, [.ref (b + 86), .ref (b + 89), .ref (b + 93)]) ∧ u.1 86 = .inr (6, [.ref (b + 87), .ref (b + 88)]) ∧ u.1 87 = .inl (cI, 100, .inl ct) ∧ u.1 88 = .inl (cJ, 100, .inr (.inl su)) ∧ u.1 89 = .inr (5, [.ref (b + 90), .ref (b + 91), .ref (b + 92), .int (nI rs), .int (nI ca)]) ∧ u.1 90 = .inl (cI, 400, .inl (va_cpy rn (fun _ => 0) 0 0 rs)) ∧ u.1 91 = .inl (cI, 400, .inl (va_cpy rk (fun _ => 0) 0 0 rs)) ∧ u.1 92 = .inl (cI, 400, .inl (va_cpy rv (fun _ => 0) 0 0 rs)) ∧ u.1 93 = .inr (7, [.ref (b + 94), .ref (b + 95), .int (nI ts), .int (tr)]) ∧ u.1 94 = .inl (cI, 40, .inl (va_cpy tk (fun _ => 0) 0 0 ts)) ∧ u.1 95 = .inl (cI, 40, .inl (va_cpy tt (fun _ => 0) 0 0 ts))) (kB D (kT cI cJ cZ cH cR) b) (kA b)) 11 1494 (kA b) := by
  refine k_metI (by decide +kernel) (Nat.le_of_ble_eq_true rfl) ?_
  intro p e s m below meth c ls Q C hw hret hnm hl
  have hl : lv_has ls 2 [(0, .ref (b + 0))] := hl
  have hFF : kF [0, 42, 85, 86, 87, 88, 89, 90, 91, 92, 93, 94, 95] M M := kF_rf
  refine lv_aload_n C.1 C.2.1 dX8_mark_0 rfl (lv_at hl 0 rfl) ?_
  refine k_get C hw 0 (by decide) h0 rfl inlX8 6 (by decide) q_181 rfl dX8_mark_1 ?_
  refine lv_iconst (v := nI 3) C.1 C.2.1 dX8_mark_4 (by decide) ?_
  refine lv_icmp_lt (tgt := 11) C.1 C.2.1 dX8_mark_5 (by decide) (fun c5 => ?_) (fun c5 => ?_)
  · refine lv_aload_n C.1 C.2.1 dX8_mark_11 rfl (lv_at hl 0 rfl) ?_
    refine k_get C hw 0 (by decide) h0 rfl inlX8 6 (by decide) q_181 rfl dX8_mark_12 ?_
    refine lv_istore_n (lv' := [(1, .int (nI 1)), (0, .ref (b + 0))]) C.1 C.2.1 dX8_mark_15 rfl hl (by decide) rfl (fun ls hl => ?_)
    refine lv_aload_n C.1 C.2.1 dX8_mark_16 rfl (lv_at hl 1 rfl) ?_
    refine k_get C hw 0 (by decide) h0 rfl inlX8 5 (by decide) q_32 rfl dX8_mark_17 ?_
    refine lv_iload_n C.1 C.2.1 dX8_mark_20 rfl (lv_at hl 0 rfl) ?_
    refine k_qald (v := .null) C hw 42 (by decide) h42 (by omega) (by decide) (by rw [hmk]; rfl) dX8_mark_21 ?_
    refine lv_ifnonnullN C.1 C.2.1 dX8_mark_22 ?_
    refine lv_aload_n C.1 C.2.1 dX8_mark_25 rfl (lv_at hl 1 rfl) ?_
    refine k_get C hw 0 (by decide) h0 rfl inlX8 5 (by decide) q_32 rfl dX8_mark_26 ?_
    refine lv_iload_n C.1 C.2.1 dX8_mark_29 rfl (lv_at hl 0 rfl) ?_
    refine k_new (fs := [.null, .null, .null]) C hw (ci := 0) rfl inlX0 tyX0 tyX0_ok q_20 q_21 q_22 (by decide +kernel) (Nat.le_of_ble_eq_true rfl) (Nat.le_of_ble_eq_true rfl) dX8_mark_30 (fun M_1 H hw h85 hF => ?_)
    have h0 := (hF 0 (by decide)).trans h0
    have h22 := (hF 22 (by decide)).trans h22
    have h23 := (hF 23 (by decide)).trans h23
    have h24 := (hF 24 (by decide)).trans h24
    have h25 := (hF 25 (by decide)).trans h25
    have h26 := (hF 26 (by decide)).trans h26
    have h27 := (hF 27 (by decide)).trans h27
    have h28 := (hF 28 (by decide)).trans h28
    have h29 := (hF 29 (by decide)).trans h29
    have h30 := (hF 30 (by decide)).trans h30
    have h31 := (hF 31 (by decide)).trans h31
    have h32 := (hF 32 (by decide)).trans h32
    have h42 := (hF 42 (by decide)).trans h42
    have hFF := kF_st hFF hF (by first | decide | simp)
    refine lv_dup C.1 C.2.1 dX8_mark_33 rfl ?_
    refine k_cv C hw (c_X0_init_85 h85  ) kv_X8_25 rfl hl.1 ⟨Nat.le_of_ble_eq_true rfl, Nat.le_of_ble_eq_true rfl⟩ (Nat.le_of_ble_eq_true rfl) ⟨Nat.le_of_ble_eq_true rfl, Nat.le_of_ble_eq_true rfl⟩ dX8_mark_34 (fun M_2 n9 H locs hp hw => ?_)
    obtain ⟨en9, hF, h85, h86, h87, h88, h89, h90, h91, h92, h93, h94, h95⟩ := hp
    have en9 : n9 = 96 := en9
    rw [en9] at hw
    have h0 := (hF 0 (by decide)).trans h0
    have h22 := (hF 22 (by decide)).trans h22
    have h23 := (hF 23 (by decide)).trans h23
    have h24 := (hF 24 (by decide)).trans h24
    have h25 := (hF 25 (by decide)).trans h25
    have h26 := (hF 26 (by decide)).trans h26
    have h27 := (hF 27 (by decide)).trans h27
    have h28 := (hF 28 (by decide)).trans h28
    have h29 := (hF 29 (by decide)).trans h29
    have h30 := (hF 30 (by decide)).trans h30
    have h31 := (hF 31 (by decide)).trans h31
    have h32 := (hF 32 (by decide)).trans h32
    have h42 := (hF 42 (by decide)).trans h42
    have hFF := kF_st hFF hF (by first | decide | simp)
    refine k_qast C hw 42 (by decide) h42 85 (by decide) h85 (by omega) (by decide) dX8_mark_37 (fun M_3 H locs hw h42 hF => ?_)
    have h0 := (hF 0 (by decide)).trans h0
    have h22 := (hF 22 (by decide)).trans h22
    have h23 := (hF 23 (by decide)).trans h23
    have h24 := (hF 24 (by decide)).trans h24
    have h25 := (hF 25 (by decide)).trans h25
    have h26 := (hF 26 (by decide)).trans h26
    have h27 := (hF 27 (by decide)).trans h27
    have h28 := (hF 28 (by decide)).trans h28
    have h29 := (hF 29 (by decide)).trans h29
    have h30 := (hF 30 (by decide)).trans h30
    have h31 := (hF 31 (by decide)).trans h31
    have h32 := (hF 32 (by decide)).trans h32
    have h85 := (hF 85 (by decide)).trans h85
    have h86 := (hF 86 (by decide)).trans h86
    have h87 := (hF 87 (by decide)).trans h87
    have h88 := (hF 88 (by decide)).trans h88
    have h89 := (hF 89 (by decide)).trans h89
    have h90 := (hF 90 (by decide)).trans h90
    have h91 := (hF 91 (by decide)).trans h91
    have h92 := (hF 92 (by decide)).trans h92
    have h93 := (hF 93 (by decide)).trans h93
    have h94 := (hF 94 (by decide)).trans h94
    have h95 := (hF 95 (by decide)).trans h95
    have hFF := kF_st hFF hF (by first | decide | simp)
    refine lv_aload_n C.1 C.2.1 dX8_mark_38 rfl (lv_at hl 1 rfl) ?_
    refine k_get C hw 0 (by decide) h0 rfl inlX8 5 (by decide) q_32 rfl dX8_mark_39 ?_
    refine lv_iload_n C.1 C.2.1 dX8_mark_42 rfl (lv_at hl 0 rfl) ?_
    refine k_qald (v := .ref (b + 85)) C hw 42 (by decide) h42 (by omega) (by decide) (by show va_rf (va_up mk 1 (some (b + 85)) 1) = _; unfold va_up; rw [if_pos rfl]; rfl) dX8_mark_43 ?_
    refine lv_aload_n C.1 C.2.1 dX8_mark_44 rfl (lv_at hl 1 rfl) ?_
    refine k_get C hw 0 (by decide) h0 rfl inlX8 2 (by decide) q_23 rfl dX8_mark_45 ?_
    refine k_vv C hw 85 (by decide) h85 rfl (c_X0_copyFrom_85_22 (by decide) h85 h86 h87 h88 h89 h90 h91 h92 h93 h94 h95 h22 h23 h24 h25 h26 h27 h28 h29 h30 h31 h32  (hs) (ht)) kv_X8_229 rfl hl.1 ⟨Nat.le_of_ble_eq_true rfl, Nat.le_of_ble_eq_true rfl⟩ (Nat.le_of_ble_eq_true rfl) ⟨Nat.le_of_ble_eq_true rfl, Nat.le_of_ble_eq_true rfl⟩ dX8_mark_48 (fun M_4 n9 H locs hp hw => ?_)
    obtain ⟨en9, hF, h87, h88, h89, h90, h91, h92, h93, h94, h95⟩ := hp
    have en9 : n9 = 96 := en9
    rw [en9] at hw
    have h0 := (hF 0 (by decide)).trans h0
    have h22 := (hF 22 (by decide)).trans h22
    have h23 := (hF 23 (by decide)).trans h23
    have h24 := (hF 24 (by decide)).trans h24
    have h25 := (hF 25 (by decide)).trans h25
    have h26 := (hF 26 (by decide)).trans h26
    have h27 := (hF 27 (by decide)).trans h27
    have h28 := (hF 28 (by decide)).trans h28
    have h29 := (hF 29 (by decide)).trans h29
    have h30 := (hF 30 (by decide)).trans h30
    have h31 := (hF 31 (by decide)).trans h31
    have h32 := (hF 32 (by decide)).trans h32
    have h42 := (hF 42 (by decide)).trans h42
    have h85 := (hF 85 (by decide)).trans h85
    have h86 := (hF 86 (by decide)).trans h86
    have hFF := kF_st hFF hF (by first | decide | simp)
    refine lv_aload_n C.1 C.2.1 dX8_mark_51 rfl (lv_at hl 1 rfl) ?_
    refine lv_dup C.1 C.2.1 dX8_mark_52 rfl ?_
    refine k_get C hw 0 (by decide) h0 rfl inlX8 6 (by decide) q_181 rfl dX8_mark_53 ?_
    refine lv_iconst (v := nI 1) C.1 C.2.1 dX8_mark_56 (by decide) ?_
    refine lv_iadd C.1 C.2.1 dX8_mark_57 ?_
    refine k_topi (y := nI 2) (by decide) ?_
    refine k_put (tf := .int) C hw 0 (by decide) h0 rfl inlX8 tyX8 tyX8_ok nmX8 6 (by decide) q_181 rfl (by decide +kernel) rfl rfl (Nat.le_of_ble_eq_true rfl) dX8_mark_58 (fun M_5 H locs hw h0 hF => ?_)
    have h0 : M_5 0 = .inr (8, [.ref (b + 1), .ref (b + 6), .ref (b + 22), .ref (b + 33), .ref (b + 37), .ref (b + 42), .int (nI 2), .int sl]) := h0
    have h22 := (hF 22 (by decide)).trans h22
    have h23 := (hF 23 (by decide)).trans h23
    have h24 := (hF 24 (by decide)).trans h24
    have h25 := (hF 25 (by decide)).trans h25
    have h26 := (hF 26 (by decide)).trans h26
    have h27 := (hF 27 (by decide)).trans h27
    have h28 := (hF 28 (by decide)).trans h28
    have h29 := (hF 29 (by decide)).trans h29
    have h30 := (hF 30 (by decide)).trans h30
    have h31 := (hF 31 (by decide)).trans h31
    have h32 := (hF 32 (by decide)).trans h32
    have h42 := (hF 42 (by decide)).trans h42
    have h85 := (hF 85 (by decide)).trans h85
    have h86 := (hF 86 (by decide)).trans h86
    have h87 := (hF 87 (by decide)).trans h87
    have h88 := (hF 88 (by decide)).trans h88
    have h89 := (hF 89 (by decide)).trans h89
    have h90 := (hF 90 (by decide)).trans h90
    have h91 := (hF 91 (by decide)).trans h91
    have h92 := (hF 92 (by decide)).trans h92
    have h93 := (hF 93 (by decide)).trans h93
    have h94 := (hF 94 (by decide)).trans h94
    have h95 := (hF 95 (by decide)).trans h95
    have hFF := kF_st hFF hF (by first | decide | simp)
    refine lv_iload_n C.1 C.2.1 dX8_mark_61 rfl (lv_at hl 0 rfl) ?_
    exact hret _ _ (Nat.le_of_ble_eq_true rfl) (Nat.le_of_ble_eq_true rfl) hw (⟨rfl, rfl, hFF, h0, h42, h85, h86, h87, h88, h89, h90, h91, h92, h93, h94, h95⟩) dX8_mark_62
  · exact absurd (by decide) c5

set_option maxHeartbeats 4000000 in
set_option maxRecDepth 100000 in
theorem c_X8_mark_o1 {l : Launch} {D : va_G} {cI cJ cZ cH cR : ClassId} {b : Nat} {n : Nat} {M : Nat → va_E}  {sl : Int32} {ct : Nat → Int32} {su : Nat → Int64} {rs : Nat} {ca : Nat} {rn : Nat → Int32} {rk : Nat → Int32} {rv : Nat → Int32} {ts : Nat} {tr : Int32} {tk : Nat → Int32} {tt : Nat → Int32} {mk : Nat → Option Nat} {ct1 : Nat → Int32} {su1 : Nat → Int64} {rs1 : Nat} {ca1 : Nat} {rn1 : Nat → Int32} {rk1 : Nat → Int32} {rv1 : Nat → Int32} {ts1 : Nat} {tr1 : Int32} {tk1 : Nat → Int32} {tt1 : Nat → Int32}  (hn : 96 ≤ n) (h0 : M 0 = .inr (8, [.ref (b + 1), .ref (b + 6), .ref (b + 22), .ref (b + 33), .ref (b + 37), .ref (b + 42), .int (nI 1), .int sl])) (h22 : M 22 = .inr (0, [.ref (b + 23), .ref (b + 26), .ref (b + 30)])) (h23 : M 23 = .inr (6, [.ref (b + 24), .ref (b + 25)])) (h24 : M 24 = .inl (cI, 100, .inl ct)) (h25 : M 25 = .inl (cJ, 100, .inr (.inl su))) (h26 : M 26 = .inr (5, [.ref (b + 27), .ref (b + 28), .ref (b + 29), .int (nI rs), .int (nI ca)])) (h27 : M 27 = .inl (cI, 400, .inl rn)) (h28 : M 28 = .inl (cI, 400, .inl rk)) (h29 : M 29 = .inl (cI, 400, .inl rv)) (h30 : M 30 = .inr (7, [.ref (b + 31), .ref (b + 32), .int (nI ts), .int tr])) (h31 : M 31 = .inl (cI, 40, .inl tk)) (h32 : M 32 = .inl (cI, 40, .inl tt)) (h42 : M 42 = .inl (cH, 3, .inr (.inr (.inr (.inr mk))))) (h85 : M 85 = .inr (0, [.ref (b + 86), .ref (b + 89), .ref (b + 93)])) (h86 : M 86 = .inr (6, [.ref (b + 87), .ref (b + 88)])) (h87 : M 87 = .inl (cI, 100, .inl ct1)) (h88 : M 88 = .inl (cJ, 100, .inr (.inl su1))) (h89 : M 89 = .inr (5, [.ref (b + 90), .ref (b + 91), .ref (b + 92), .int (nI rs1), .int (nI ca1)])) (h90 : M 90 = .inl (cI, 400, .inl rn1)) (h91 : M 91 = .inl (cI, 400, .inl rk1)) (h92 : M 92 = .inl (cI, 400, .inl rv1)) (h93 : M 93 = .inr (7, [.ref (b + 94), .ref (b + 95), .int (nI ts1), .int tr1])) (h94 : M 94 = .inl (cI, 40, .inl tk1)) (h95 : M 95 = .inl (cI, 40, .inl tt1))  (hmk : mk 1 = some (b + 85)) (hs : rs ≤ 400) (ht : ts ≤ 40) : Met l yX8_mark (kw yX8_mark cX8_mark 2 (some .int)) ({ frames := 3, cells := 0, slots := 0, locals := 82 }) (va_Pc [.ref (b + 0)] (kPre D (kT cI cJ cZ cH cR) b M n)) (va_Qi (fun (r : Int32) (u : (Nat → va_E) × Nat) => r = (nI 1) ∧ u.2 = n ∧ kF [0, 87, 88, 89, 90, 91, 92, 93, 94, 95] M u.1 ∧ u.1 0 = .inr (8, [.ref (b + 1), .ref (b + 6), .ref (b + 22), .ref (b + 33), .ref (b + 37), .ref (b + 42), .int (nI 2), .int sl]) ∧ u.1 87 = .inl (cI, 100, .inl ct) ∧ u.1 88 = .inl (cJ, 100, .inr (.inl su)) ∧ u.1 89 = .inr (5, [.ref (b + 90), .ref (b + 91), .ref (b + 92), .int (nI rs), .int (nI ca)]) ∧ u.1 90 = .inl (cI, 400, .inl (va_cpy rn rn1 0 0 rs)) ∧ u.1 91 = .inl (cI, 400, .inl (va_cpy rk rk1 0 0 rs)) ∧ u.1 92 = .inl (cI, 400, .inl (va_cpy rv rv1 0 0 rs)) ∧ u.1 93 = .inr (7, [.ref (b + 94), .ref (b + 95), .int (nI ts), .int (tr)]) ∧ u.1 94 = .inl (cI, 40, .inl (va_cpy tk tk1 0 0 ts)) ∧ u.1 95 = .inl (cI, 40, .inl (va_cpy tt tt1 0 0 ts))) (kB D (kT cI cJ cZ cH cR) b) (kA b)) 0 0 (kA b) := by
  refine k_metI (by decide +kernel) (Nat.le_of_ble_eq_true rfl) ?_
  intro p e s m below meth c ls Q C hw hret hnm hl
  have hl : lv_has ls 2 [(0, .ref (b + 0))] := hl
  have hFF : kF [0, 87, 88, 89, 90, 91, 92, 93, 94, 95] M M := kF_rf
  refine lv_aload_n C.1 C.2.1 dX8_mark_0 rfl (lv_at hl 0 rfl) ?_
  refine k_get C hw 0 (by omega) h0 rfl inlX8 6 (by decide) q_181 rfl dX8_mark_1 ?_
  refine lv_iconst (v := nI 3) C.1 C.2.1 dX8_mark_4 (by decide) ?_
  refine lv_icmp_lt (tgt := 11) C.1 C.2.1 dX8_mark_5 (by decide) (fun c5 => ?_) (fun c5 => ?_)
  · refine lv_aload_n C.1 C.2.1 dX8_mark_11 rfl (lv_at hl 0 rfl) ?_
    refine k_get C hw 0 (by omega) h0 rfl inlX8 6 (by decide) q_181 rfl dX8_mark_12 ?_
    refine lv_istore_n (lv' := [(1, .int (nI 1)), (0, .ref (b + 0))]) C.1 C.2.1 dX8_mark_15 rfl hl (by decide) rfl (fun ls hl => ?_)
    refine lv_aload_n C.1 C.2.1 dX8_mark_16 rfl (lv_at hl 1 rfl) ?_
    refine k_get C hw 0 (by omega) h0 rfl inlX8 5 (by decide) q_32 rfl dX8_mark_17 ?_
    refine lv_iload_n C.1 C.2.1 dX8_mark_20 rfl (lv_at hl 0 rfl) ?_
    refine k_qald (v := .ref (b + 85)) C hw 42 (by omega) h42 (by omega) (by decide) (by rw [hmk]; rfl) dX8_mark_21 ?_
    refine lv_ifnonnull (tgt := 38) C.1 C.2.1 dX8_mark_22 (by decide) ?_
    refine lv_aload_n C.1 C.2.1 dX8_mark_38 rfl (lv_at hl 1 rfl) ?_
    refine k_get C hw 0 (by omega) h0 rfl inlX8 5 (by decide) q_32 rfl dX8_mark_39 ?_
    refine lv_iload_n C.1 C.2.1 dX8_mark_42 rfl (lv_at hl 0 rfl) ?_
    refine k_qald (v := .ref (b + 85)) C hw 42 (by omega) h42 (by omega) (by decide) (by rw [hmk]; rfl) dX8_mark_43 ?_
    refine lv_aload_n C.1 C.2.1 dX8_mark_44 rfl (lv_at hl 1 rfl) ?_
    refine k_get C hw 0 (by omega) h0 rfl inlX8 2 (by decide) q_23 rfl dX8_mark_45 ?_
    refine k_vv C hw 85 (by omega) h85 rfl (c_X0_copyFrom_85_22 (by omega) h85 h86 h87 h88 h89 h90 h91 h92 h93 h94 h95 h22 h23 h24 h25 h26 h27 h28 h29 h30 h31 h32  (hs) (ht)) kv_X8_229 rfl hl.1 ⟨Nat.le_of_ble_eq_true rfl, Nat.le_of_ble_eq_true rfl⟩ (Nat.le_of_ble_eq_true rfl) ⟨Nat.le_of_ble_eq_true rfl, Nat.le_of_ble_eq_true rfl⟩ dX8_mark_48 (fun M_1 n9 H locs hp hw => ?_)
    obtain ⟨en9, hF, h87, h88, h89, h90, h91, h92, h93, h94, h95⟩ := hp
    have en9 : n9 = n := en9
    rw [en9] at hw
    have h0 := (hF 0 (by decide)).trans h0
    have h22 := (hF 22 (by decide)).trans h22
    have h23 := (hF 23 (by decide)).trans h23
    have h24 := (hF 24 (by decide)).trans h24
    have h25 := (hF 25 (by decide)).trans h25
    have h26 := (hF 26 (by decide)).trans h26
    have h27 := (hF 27 (by decide)).trans h27
    have h28 := (hF 28 (by decide)).trans h28
    have h29 := (hF 29 (by decide)).trans h29
    have h30 := (hF 30 (by decide)).trans h30
    have h31 := (hF 31 (by decide)).trans h31
    have h32 := (hF 32 (by decide)).trans h32
    have h42 := (hF 42 (by decide)).trans h42
    have h85 := (hF 85 (by decide)).trans h85
    have h86 := (hF 86 (by decide)).trans h86
    have hFF := kF_st hFF hF (by first | decide | simp)
    refine lv_aload_n C.1 C.2.1 dX8_mark_51 rfl (lv_at hl 1 rfl) ?_
    refine lv_dup C.1 C.2.1 dX8_mark_52 rfl ?_
    refine k_get C hw 0 (by omega) h0 rfl inlX8 6 (by decide) q_181 rfl dX8_mark_53 ?_
    refine lv_iconst (v := nI 1) C.1 C.2.1 dX8_mark_56 (by decide) ?_
    refine lv_iadd C.1 C.2.1 dX8_mark_57 ?_
    refine k_topi (y := nI 2) (by decide) ?_
    refine k_put (tf := .int) C hw 0 (by omega) h0 rfl inlX8 tyX8 tyX8_ok nmX8 6 (by decide) q_181 rfl (by decide +kernel) rfl rfl (Nat.le_of_ble_eq_true rfl) dX8_mark_58 (fun M_2 H locs hw h0 hF => ?_)
    have h0 : M_2 0 = .inr (8, [.ref (b + 1), .ref (b + 6), .ref (b + 22), .ref (b + 33), .ref (b + 37), .ref (b + 42), .int (nI 2), .int sl]) := h0
    have h22 := (hF 22 (by decide)).trans h22
    have h23 := (hF 23 (by decide)).trans h23
    have h24 := (hF 24 (by decide)).trans h24
    have h25 := (hF 25 (by decide)).trans h25
    have h26 := (hF 26 (by decide)).trans h26
    have h27 := (hF 27 (by decide)).trans h27
    have h28 := (hF 28 (by decide)).trans h28
    have h29 := (hF 29 (by decide)).trans h29
    have h30 := (hF 30 (by decide)).trans h30
    have h31 := (hF 31 (by decide)).trans h31
    have h32 := (hF 32 (by decide)).trans h32
    have h42 := (hF 42 (by decide)).trans h42
    have h85 := (hF 85 (by decide)).trans h85
    have h86 := (hF 86 (by decide)).trans h86
    have h87 := (hF 87 (by decide)).trans h87
    have h88 := (hF 88 (by decide)).trans h88
    have h89 := (hF 89 (by decide)).trans h89
    have h90 := (hF 90 (by decide)).trans h90
    have h91 := (hF 91 (by decide)).trans h91
    have h92 := (hF 92 (by decide)).trans h92
    have h93 := (hF 93 (by decide)).trans h93
    have h94 := (hF 94 (by decide)).trans h94
    have h95 := (hF 95 (by decide)).trans h95
    have hFF := kF_st hFF hF (by first | decide | simp)
    refine lv_iload_n C.1 C.2.1 dX8_mark_61 rfl (lv_at hl 0 rfl) ?_
    exact hret _ _ (Nat.le_of_ble_eq_true rfl) (Nat.le_of_ble_eq_true rfl) hw (⟨rfl, rfl, hFF, h0, h87, h88, h89, h90, h91, h92, h93, h94, h95⟩) dX8_mark_62
  · exact absurd (by decide) c5

set_option maxHeartbeats 4000000 in
set_option maxRecDepth 100000 in
theorem c_X8_mark_n2 {l : Launch} {D : va_G} {cI cJ cZ cH cR : ClassId} {b : Nat} {M : Nat → va_E}  {sl : Int32} {ct : Nat → Int32} {su : Nat → Int64} {rs : Nat} {ca : Nat} {rn : Nat → Int32} {rk : Nat → Int32} {rv : Nat → Int32} {ts : Nat} {tr : Int32} {tk : Nat → Int32} {tt : Nat → Int32} {mk : Nat → Option Nat}   (h0 : M 0 = .inr (8, [.ref (b + 1), .ref (b + 6), .ref (b + 22), .ref (b + 33), .ref (b + 37), .ref (b + 42), .int (nI 2), .int sl])) (h22 : M 22 = .inr (0, [.ref (b + 23), .ref (b + 26), .ref (b + 30)])) (h23 : M 23 = .inr (6, [.ref (b + 24), .ref (b + 25)])) (h24 : M 24 = .inl (cI, 100, .inl ct)) (h25 : M 25 = .inl (cJ, 100, .inr (.inl su))) (h26 : M 26 = .inr (5, [.ref (b + 27), .ref (b + 28), .ref (b + 29), .int (nI rs), .int (nI ca)])) (h27 : M 27 = .inl (cI, 400, .inl rn)) (h28 : M 28 = .inl (cI, 400, .inl rk)) (h29 : M 29 = .inl (cI, 400, .inl rv)) (h30 : M 30 = .inr (7, [.ref (b + 31), .ref (b + 32), .int (nI ts), .int tr])) (h31 : M 31 = .inl (cI, 40, .inl tk)) (h32 : M 32 = .inl (cI, 40, .inl tt)) (h42 : M 42 = .inl (cH, 3, .inr (.inr (.inr (.inr mk)))))  (hmk : mk 2 = none) (hs : rs ≤ 400) (ht : ts ≤ 40) : Met l yX8_mark (kw yX8_mark cX8_mark 2 (some .int)) ({ frames := 3, cells := 11, slots := 1494, locals := 82 }) (va_Pc [.ref (b + 0)] (kPre D (kT cI cJ cZ cH cR) b M 96)) (va_Qi (fun (r : Int32) (u : (Nat → va_E) × Nat) => r = (nI 2) ∧ u.2 = 107 ∧ kF [0, 42, 96, 97, 98, 99, 100, 101, 102, 103, 104, 105, 106] M u.1 ∧ u.1 0 = .inr (8, [.ref (b + 1), .ref (b + 6), .ref (b + 22), .ref (b + 33), .ref (b + 37), .ref (b + 42), .int (nI 3), .int sl]) ∧ u.1 42 = .inl (cH, 3, .inr (.inr (.inr (.inr (va_up mk 2 (some (b + 96))))))) ∧ u.1 96 = .inr (0, [.ref (b + 97), .ref (b + 100), .ref (b + 104)]) ∧ u.1 97 = .inr (6, [.ref (b + 98), .ref (b + 99)]) ∧ u.1 98 = .inl (cI, 100, .inl ct) ∧ u.1 99 = .inl (cJ, 100, .inr (.inl su)) ∧ u.1 100 = .inr (5, [.ref (b + 101), .ref (b + 102), .ref (b + 103), .int (nI rs), .int (nI ca)]) ∧ u.1 101 = .inl (cI, 400, .inl (va_cpy rn (fun _ => 0) 0 0 rs)) ∧ u.1 102 = .inl (cI, 400, .inl (va_cpy rk (fun _ => 0) 0 0 rs)) ∧ u.1 103 = .inl (cI, 400, .inl (va_cpy rv (fun _ => 0) 0 0 rs)) ∧ u.1 104 = .inr (7, [.ref (b + 105), .ref (b + 106), .int (nI ts), .int (tr)]) ∧ u.1 105 = .inl (cI, 40, .inl (va_cpy tk (fun _ => 0) 0 0 ts)) ∧ u.1 106 = .inl (cI, 40, .inl (va_cpy tt (fun _ => 0) 0 0 ts))) (kB D (kT cI cJ cZ cH cR) b) (kA b)) 11 1494 (kA b) := by
  refine k_metI (by decide +kernel) (Nat.le_of_ble_eq_true rfl) ?_
  intro p e s m below meth c ls Q C hw hret hnm hl
  have hl : lv_has ls 2 [(0, .ref (b + 0))] := hl
  have hFF : kF [0, 42, 96, 97, 98, 99, 100, 101, 102, 103, 104, 105, 106] M M := kF_rf
  refine lv_aload_n C.1 C.2.1 dX8_mark_0 rfl (lv_at hl 0 rfl) ?_
  refine k_get C hw 0 (by decide) h0 rfl inlX8 6 (by decide) q_181 rfl dX8_mark_1 ?_
  refine lv_iconst (v := nI 3) C.1 C.2.1 dX8_mark_4 (by decide) ?_
  refine lv_icmp_lt (tgt := 11) C.1 C.2.1 dX8_mark_5 (by decide) (fun c5 => ?_) (fun c5 => ?_)
  · refine lv_aload_n C.1 C.2.1 dX8_mark_11 rfl (lv_at hl 0 rfl) ?_
    refine k_get C hw 0 (by decide) h0 rfl inlX8 6 (by decide) q_181 rfl dX8_mark_12 ?_
    refine lv_istore_n (lv' := [(1, .int (nI 2)), (0, .ref (b + 0))]) C.1 C.2.1 dX8_mark_15 rfl hl (by decide) rfl (fun ls hl => ?_)
    refine lv_aload_n C.1 C.2.1 dX8_mark_16 rfl (lv_at hl 1 rfl) ?_
    refine k_get C hw 0 (by decide) h0 rfl inlX8 5 (by decide) q_32 rfl dX8_mark_17 ?_
    refine lv_iload_n C.1 C.2.1 dX8_mark_20 rfl (lv_at hl 0 rfl) ?_
    refine k_qald (v := .null) C hw 42 (by decide) h42 (by omega) (by decide) (by rw [hmk]; rfl) dX8_mark_21 ?_
    refine lv_ifnonnullN C.1 C.2.1 dX8_mark_22 ?_
    refine lv_aload_n C.1 C.2.1 dX8_mark_25 rfl (lv_at hl 1 rfl) ?_
    refine k_get C hw 0 (by decide) h0 rfl inlX8 5 (by decide) q_32 rfl dX8_mark_26 ?_
    refine lv_iload_n C.1 C.2.1 dX8_mark_29 rfl (lv_at hl 0 rfl) ?_
    refine k_new (fs := [.null, .null, .null]) C hw (ci := 0) rfl inlX0 tyX0 tyX0_ok q_20 q_21 q_22 (by decide +kernel) (Nat.le_of_ble_eq_true rfl) (Nat.le_of_ble_eq_true rfl) dX8_mark_30 (fun M_1 H hw h96 hF => ?_)
    have h0 := (hF 0 (by decide)).trans h0
    have h22 := (hF 22 (by decide)).trans h22
    have h23 := (hF 23 (by decide)).trans h23
    have h24 := (hF 24 (by decide)).trans h24
    have h25 := (hF 25 (by decide)).trans h25
    have h26 := (hF 26 (by decide)).trans h26
    have h27 := (hF 27 (by decide)).trans h27
    have h28 := (hF 28 (by decide)).trans h28
    have h29 := (hF 29 (by decide)).trans h29
    have h30 := (hF 30 (by decide)).trans h30
    have h31 := (hF 31 (by decide)).trans h31
    have h32 := (hF 32 (by decide)).trans h32
    have h42 := (hF 42 (by decide)).trans h42
    have hFF := kF_st hFF hF (by first | decide | simp)
    refine lv_dup C.1 C.2.1 dX8_mark_33 rfl ?_
    refine k_cv C hw (c_X0_init_96 h96  ) kv_X8_25 rfl hl.1 ⟨Nat.le_of_ble_eq_true rfl, Nat.le_of_ble_eq_true rfl⟩ (Nat.le_of_ble_eq_true rfl) ⟨Nat.le_of_ble_eq_true rfl, Nat.le_of_ble_eq_true rfl⟩ dX8_mark_34 (fun M_2 n9 H locs hp hw => ?_)
    obtain ⟨en9, hF, h96, h97, h98, h99, h100, h101, h102, h103, h104, h105, h106⟩ := hp
    have en9 : n9 = 107 := en9
    rw [en9] at hw
    have h0 := (hF 0 (by decide)).trans h0
    have h22 := (hF 22 (by decide)).trans h22
    have h23 := (hF 23 (by decide)).trans h23
    have h24 := (hF 24 (by decide)).trans h24
    have h25 := (hF 25 (by decide)).trans h25
    have h26 := (hF 26 (by decide)).trans h26
    have h27 := (hF 27 (by decide)).trans h27
    have h28 := (hF 28 (by decide)).trans h28
    have h29 := (hF 29 (by decide)).trans h29
    have h30 := (hF 30 (by decide)).trans h30
    have h31 := (hF 31 (by decide)).trans h31
    have h32 := (hF 32 (by decide)).trans h32
    have h42 := (hF 42 (by decide)).trans h42
    have hFF := kF_st hFF hF (by first | decide | simp)
    refine k_qast C hw 42 (by decide) h42 96 (by decide) h96 (by omega) (by decide) dX8_mark_37 (fun M_3 H locs hw h42 hF => ?_)
    have h0 := (hF 0 (by decide)).trans h0
    have h22 := (hF 22 (by decide)).trans h22
    have h23 := (hF 23 (by decide)).trans h23
    have h24 := (hF 24 (by decide)).trans h24
    have h25 := (hF 25 (by decide)).trans h25
    have h26 := (hF 26 (by decide)).trans h26
    have h27 := (hF 27 (by decide)).trans h27
    have h28 := (hF 28 (by decide)).trans h28
    have h29 := (hF 29 (by decide)).trans h29
    have h30 := (hF 30 (by decide)).trans h30
    have h31 := (hF 31 (by decide)).trans h31
    have h32 := (hF 32 (by decide)).trans h32
    have h96 := (hF 96 (by decide)).trans h96
    have h97 := (hF 97 (by decide)).trans h97
    have h98 := (hF 98 (by decide)).trans h98
    have h99 := (hF 99 (by decide)).trans h99
    have h100 := (hF 100 (by decide)).trans h100
    have h101 := (hF 101 (by decide)).trans h101
    have h102 := (hF 102 (by decide)).trans h102
    have h103 := (hF 103 (by decide)).trans h103
    have h104 := (hF 104 (by decide)).trans h104
    have h105 := (hF 105 (by decide)).trans h105
    have h106 := (hF 106 (by decide)).trans h106
    have hFF := kF_st hFF hF (by first | decide | simp)
    refine lv_aload_n C.1 C.2.1 dX8_mark_38 rfl (lv_at hl 1 rfl) ?_
    refine k_get C hw 0 (by decide) h0 rfl inlX8 5 (by decide) q_32 rfl dX8_mark_39 ?_
    refine lv_iload_n C.1 C.2.1 dX8_mark_42 rfl (lv_at hl 0 rfl) ?_
    refine k_qald (v := .ref (b + 96)) C hw 42 (by decide) h42 (by omega) (by decide) (by show va_rf (va_up mk 2 (some (b + 96)) 2) = _; unfold va_up; rw [if_pos rfl]; rfl) dX8_mark_43 ?_
    refine lv_aload_n C.1 C.2.1 dX8_mark_44 rfl (lv_at hl 1 rfl) ?_
    refine k_get C hw 0 (by decide) h0 rfl inlX8 2 (by decide) q_23 rfl dX8_mark_45 ?_
    refine k_vv C hw 96 (by decide) h96 rfl (c_X0_copyFrom_96_22 (by decide) h96 h97 h98 h99 h100 h101 h102 h103 h104 h105 h106 h22 h23 h24 h25 h26 h27 h28 h29 h30 h31 h32  (hs) (ht)) kv_X8_229 rfl hl.1 ⟨Nat.le_of_ble_eq_true rfl, Nat.le_of_ble_eq_true rfl⟩ (Nat.le_of_ble_eq_true rfl) ⟨Nat.le_of_ble_eq_true rfl, Nat.le_of_ble_eq_true rfl⟩ dX8_mark_48 (fun M_4 n9 H locs hp hw => ?_)
    obtain ⟨en9, hF, h98, h99, h100, h101, h102, h103, h104, h105, h106⟩ := hp
    have en9 : n9 = 107 := en9
    rw [en9] at hw
    have h0 := (hF 0 (by decide)).trans h0
    have h22 := (hF 22 (by decide)).trans h22
    have h23 := (hF 23 (by decide)).trans h23
    have h24 := (hF 24 (by decide)).trans h24
    have h25 := (hF 25 (by decide)).trans h25
    have h26 := (hF 26 (by decide)).trans h26
    have h27 := (hF 27 (by decide)).trans h27
    have h28 := (hF 28 (by decide)).trans h28
    have h29 := (hF 29 (by decide)).trans h29
    have h30 := (hF 30 (by decide)).trans h30
    have h31 := (hF 31 (by decide)).trans h31
    have h32 := (hF 32 (by decide)).trans h32
    have h42 := (hF 42 (by decide)).trans h42
    have h96 := (hF 96 (by decide)).trans h96
    have h97 := (hF 97 (by decide)).trans h97
    have hFF := kF_st hFF hF (by first | decide | simp)
    refine lv_aload_n C.1 C.2.1 dX8_mark_51 rfl (lv_at hl 1 rfl) ?_
    refine lv_dup C.1 C.2.1 dX8_mark_52 rfl ?_
    refine k_get C hw 0 (by decide) h0 rfl inlX8 6 (by decide) q_181 rfl dX8_mark_53 ?_
    refine lv_iconst (v := nI 1) C.1 C.2.1 dX8_mark_56 (by decide) ?_
    refine lv_iadd C.1 C.2.1 dX8_mark_57 ?_
    refine k_topi (y := nI 3) (by decide) ?_
    refine k_put (tf := .int) C hw 0 (by decide) h0 rfl inlX8 tyX8 tyX8_ok nmX8 6 (by decide) q_181 rfl (by decide +kernel) rfl rfl (Nat.le_of_ble_eq_true rfl) dX8_mark_58 (fun M_5 H locs hw h0 hF => ?_)
    have h0 : M_5 0 = .inr (8, [.ref (b + 1), .ref (b + 6), .ref (b + 22), .ref (b + 33), .ref (b + 37), .ref (b + 42), .int (nI 3), .int sl]) := h0
    have h22 := (hF 22 (by decide)).trans h22
    have h23 := (hF 23 (by decide)).trans h23
    have h24 := (hF 24 (by decide)).trans h24
    have h25 := (hF 25 (by decide)).trans h25
    have h26 := (hF 26 (by decide)).trans h26
    have h27 := (hF 27 (by decide)).trans h27
    have h28 := (hF 28 (by decide)).trans h28
    have h29 := (hF 29 (by decide)).trans h29
    have h30 := (hF 30 (by decide)).trans h30
    have h31 := (hF 31 (by decide)).trans h31
    have h32 := (hF 32 (by decide)).trans h32
    have h42 := (hF 42 (by decide)).trans h42
    have h96 := (hF 96 (by decide)).trans h96
    have h97 := (hF 97 (by decide)).trans h97
    have h98 := (hF 98 (by decide)).trans h98
    have h99 := (hF 99 (by decide)).trans h99
    have h100 := (hF 100 (by decide)).trans h100
    have h101 := (hF 101 (by decide)).trans h101
    have h102 := (hF 102 (by decide)).trans h102
    have h103 := (hF 103 (by decide)).trans h103
    have h104 := (hF 104 (by decide)).trans h104
    have h105 := (hF 105 (by decide)).trans h105
    have h106 := (hF 106 (by decide)).trans h106
    have hFF := kF_st hFF hF (by first | decide | simp)
    refine lv_iload_n C.1 C.2.1 dX8_mark_61 rfl (lv_at hl 0 rfl) ?_
    exact hret _ _ (Nat.le_of_ble_eq_true rfl) (Nat.le_of_ble_eq_true rfl) hw (⟨rfl, rfl, hFF, h0, h42, h96, h97, h98, h99, h100, h101, h102, h103, h104, h105, h106⟩) dX8_mark_62
  · exact absurd (by decide) c5

set_option maxHeartbeats 4000000 in
set_option maxRecDepth 100000 in
theorem c_X8_mark_o2 {l : Launch} {D : va_G} {cI cJ cZ cH cR : ClassId} {b : Nat} {n : Nat} {M : Nat → va_E}  {sl : Int32} {ct : Nat → Int32} {su : Nat → Int64} {rs : Nat} {ca : Nat} {rn : Nat → Int32} {rk : Nat → Int32} {rv : Nat → Int32} {ts : Nat} {tr : Int32} {tk : Nat → Int32} {tt : Nat → Int32} {mk : Nat → Option Nat} {ct2 : Nat → Int32} {su2 : Nat → Int64} {rs2 : Nat} {ca2 : Nat} {rn2 : Nat → Int32} {rk2 : Nat → Int32} {rv2 : Nat → Int32} {ts2 : Nat} {tr2 : Int32} {tk2 : Nat → Int32} {tt2 : Nat → Int32}  (hn : 107 ≤ n) (h0 : M 0 = .inr (8, [.ref (b + 1), .ref (b + 6), .ref (b + 22), .ref (b + 33), .ref (b + 37), .ref (b + 42), .int (nI 2), .int sl])) (h22 : M 22 = .inr (0, [.ref (b + 23), .ref (b + 26), .ref (b + 30)])) (h23 : M 23 = .inr (6, [.ref (b + 24), .ref (b + 25)])) (h24 : M 24 = .inl (cI, 100, .inl ct)) (h25 : M 25 = .inl (cJ, 100, .inr (.inl su))) (h26 : M 26 = .inr (5, [.ref (b + 27), .ref (b + 28), .ref (b + 29), .int (nI rs), .int (nI ca)])) (h27 : M 27 = .inl (cI, 400, .inl rn)) (h28 : M 28 = .inl (cI, 400, .inl rk)) (h29 : M 29 = .inl (cI, 400, .inl rv)) (h30 : M 30 = .inr (7, [.ref (b + 31), .ref (b + 32), .int (nI ts), .int tr])) (h31 : M 31 = .inl (cI, 40, .inl tk)) (h32 : M 32 = .inl (cI, 40, .inl tt)) (h42 : M 42 = .inl (cH, 3, .inr (.inr (.inr (.inr mk))))) (h96 : M 96 = .inr (0, [.ref (b + 97), .ref (b + 100), .ref (b + 104)])) (h97 : M 97 = .inr (6, [.ref (b + 98), .ref (b + 99)])) (h98 : M 98 = .inl (cI, 100, .inl ct2)) (h99 : M 99 = .inl (cJ, 100, .inr (.inl su2))) (h100 : M 100 = .inr (5, [.ref (b + 101), .ref (b + 102), .ref (b + 103), .int (nI rs2), .int (nI ca2)])) (h101 : M 101 = .inl (cI, 400, .inl rn2)) (h102 : M 102 = .inl (cI, 400, .inl rk2)) (h103 : M 103 = .inl (cI, 400, .inl rv2)) (h104 : M 104 = .inr (7, [.ref (b + 105), .ref (b + 106), .int (nI ts2), .int tr2])) (h105 : M 105 = .inl (cI, 40, .inl tk2)) (h106 : M 106 = .inl (cI, 40, .inl tt2))  (hmk : mk 2 = some (b + 96)) (hs : rs ≤ 400) (ht : ts ≤ 40) : Met l yX8_mark (kw yX8_mark cX8_mark 2 (some .int)) ({ frames := 3, cells := 0, slots := 0, locals := 82 }) (va_Pc [.ref (b + 0)] (kPre D (kT cI cJ cZ cH cR) b M n)) (va_Qi (fun (r : Int32) (u : (Nat → va_E) × Nat) => r = (nI 2) ∧ u.2 = n ∧ kF [0, 98, 99, 100, 101, 102, 103, 104, 105, 106] M u.1 ∧ u.1 0 = .inr (8, [.ref (b + 1), .ref (b + 6), .ref (b + 22), .ref (b + 33), .ref (b + 37), .ref (b + 42), .int (nI 3), .int sl]) ∧ u.1 98 = .inl (cI, 100, .inl ct) ∧ u.1 99 = .inl (cJ, 100, .inr (.inl su)) ∧ u.1 100 = .inr (5, [.ref (b + 101), .ref (b + 102), .ref (b + 103), .int (nI rs), .int (nI ca)]) ∧ u.1 101 = .inl (cI, 400, .inl (va_cpy rn rn2 0 0 rs)) ∧ u.1 102 = .inl (cI, 400, .inl (va_cpy rk rk2 0 0 rs)) ∧ u.1 103 = .inl (cI, 400, .inl (va_cpy rv rv2 0 0 rs)) ∧ u.1 104 = .inr (7, [.ref (b + 105), .ref (b + 106), .int (nI ts), .int (tr)]) ∧ u.1 105 = .inl (cI, 40, .inl (va_cpy tk tk2 0 0 ts)) ∧ u.1 106 = .inl (cI, 40, .inl (va_cpy tt tt2 0 0 ts))) (kB D (kT cI cJ cZ cH cR) b) (kA b)) 0 0 (kA b) := by
  refine k_metI (by decide +kernel) (Nat.le_of_ble_eq_true rfl) ?_
  intro p e s m below meth c ls Q C hw hret hnm hl
  have hl : lv_has ls 2 [(0, .ref (b + 0))] := hl
  have hFF : kF [0, 98, 99, 100, 101, 102, 103, 104, 105, 106] M M := kF_rf
  refine lv_aload_n C.1 C.2.1 dX8_mark_0 rfl (lv_at hl 0 rfl) ?_
  refine k_get C hw 0 (by omega) h0 rfl inlX8 6 (by decide) q_181 rfl dX8_mark_1 ?_
  refine lv_iconst (v := nI 3) C.1 C.2.1 dX8_mark_4 (by decide) ?_
  refine lv_icmp_lt (tgt := 11) C.1 C.2.1 dX8_mark_5 (by decide) (fun c5 => ?_) (fun c5 => ?_)
  · refine lv_aload_n C.1 C.2.1 dX8_mark_11 rfl (lv_at hl 0 rfl) ?_
    refine k_get C hw 0 (by omega) h0 rfl inlX8 6 (by decide) q_181 rfl dX8_mark_12 ?_
    refine lv_istore_n (lv' := [(1, .int (nI 2)), (0, .ref (b + 0))]) C.1 C.2.1 dX8_mark_15 rfl hl (by decide) rfl (fun ls hl => ?_)
    refine lv_aload_n C.1 C.2.1 dX8_mark_16 rfl (lv_at hl 1 rfl) ?_
    refine k_get C hw 0 (by omega) h0 rfl inlX8 5 (by decide) q_32 rfl dX8_mark_17 ?_
    refine lv_iload_n C.1 C.2.1 dX8_mark_20 rfl (lv_at hl 0 rfl) ?_
    refine k_qald (v := .ref (b + 96)) C hw 42 (by omega) h42 (by omega) (by decide) (by rw [hmk]; rfl) dX8_mark_21 ?_
    refine lv_ifnonnull (tgt := 38) C.1 C.2.1 dX8_mark_22 (by decide) ?_
    refine lv_aload_n C.1 C.2.1 dX8_mark_38 rfl (lv_at hl 1 rfl) ?_
    refine k_get C hw 0 (by omega) h0 rfl inlX8 5 (by decide) q_32 rfl dX8_mark_39 ?_
    refine lv_iload_n C.1 C.2.1 dX8_mark_42 rfl (lv_at hl 0 rfl) ?_
    refine k_qald (v := .ref (b + 96)) C hw 42 (by omega) h42 (by omega) (by decide) (by rw [hmk]; rfl) dX8_mark_43 ?_
    refine lv_aload_n C.1 C.2.1 dX8_mark_44 rfl (lv_at hl 1 rfl) ?_
    refine k_get C hw 0 (by omega) h0 rfl inlX8 2 (by decide) q_23 rfl dX8_mark_45 ?_
    refine k_vv C hw 96 (by omega) h96 rfl (c_X0_copyFrom_96_22 (by omega) h96 h97 h98 h99 h100 h101 h102 h103 h104 h105 h106 h22 h23 h24 h25 h26 h27 h28 h29 h30 h31 h32  (hs) (ht)) kv_X8_229 rfl hl.1 ⟨Nat.le_of_ble_eq_true rfl, Nat.le_of_ble_eq_true rfl⟩ (Nat.le_of_ble_eq_true rfl) ⟨Nat.le_of_ble_eq_true rfl, Nat.le_of_ble_eq_true rfl⟩ dX8_mark_48 (fun M_1 n9 H locs hp hw => ?_)
    obtain ⟨en9, hF, h98, h99, h100, h101, h102, h103, h104, h105, h106⟩ := hp
    have en9 : n9 = n := en9
    rw [en9] at hw
    have h0 := (hF 0 (by decide)).trans h0
    have h22 := (hF 22 (by decide)).trans h22
    have h23 := (hF 23 (by decide)).trans h23
    have h24 := (hF 24 (by decide)).trans h24
    have h25 := (hF 25 (by decide)).trans h25
    have h26 := (hF 26 (by decide)).trans h26
    have h27 := (hF 27 (by decide)).trans h27
    have h28 := (hF 28 (by decide)).trans h28
    have h29 := (hF 29 (by decide)).trans h29
    have h30 := (hF 30 (by decide)).trans h30
    have h31 := (hF 31 (by decide)).trans h31
    have h32 := (hF 32 (by decide)).trans h32
    have h42 := (hF 42 (by decide)).trans h42
    have h96 := (hF 96 (by decide)).trans h96
    have h97 := (hF 97 (by decide)).trans h97
    have hFF := kF_st hFF hF (by first | decide | simp)
    refine lv_aload_n C.1 C.2.1 dX8_mark_51 rfl (lv_at hl 1 rfl) ?_
    refine lv_dup C.1 C.2.1 dX8_mark_52 rfl ?_
    refine k_get C hw 0 (by omega) h0 rfl inlX8 6 (by decide) q_181 rfl dX8_mark_53 ?_
    refine lv_iconst (v := nI 1) C.1 C.2.1 dX8_mark_56 (by decide) ?_
    refine lv_iadd C.1 C.2.1 dX8_mark_57 ?_
    refine k_topi (y := nI 3) (by decide) ?_
    refine k_put (tf := .int) C hw 0 (by omega) h0 rfl inlX8 tyX8 tyX8_ok nmX8 6 (by decide) q_181 rfl (by decide +kernel) rfl rfl (Nat.le_of_ble_eq_true rfl) dX8_mark_58 (fun M_2 H locs hw h0 hF => ?_)
    have h0 : M_2 0 = .inr (8, [.ref (b + 1), .ref (b + 6), .ref (b + 22), .ref (b + 33), .ref (b + 37), .ref (b + 42), .int (nI 3), .int sl]) := h0
    have h22 := (hF 22 (by decide)).trans h22
    have h23 := (hF 23 (by decide)).trans h23
    have h24 := (hF 24 (by decide)).trans h24
    have h25 := (hF 25 (by decide)).trans h25
    have h26 := (hF 26 (by decide)).trans h26
    have h27 := (hF 27 (by decide)).trans h27
    have h28 := (hF 28 (by decide)).trans h28
    have h29 := (hF 29 (by decide)).trans h29
    have h30 := (hF 30 (by decide)).trans h30
    have h31 := (hF 31 (by decide)).trans h31
    have h32 := (hF 32 (by decide)).trans h32
    have h42 := (hF 42 (by decide)).trans h42
    have h96 := (hF 96 (by decide)).trans h96
    have h97 := (hF 97 (by decide)).trans h97
    have h98 := (hF 98 (by decide)).trans h98
    have h99 := (hF 99 (by decide)).trans h99
    have h100 := (hF 100 (by decide)).trans h100
    have h101 := (hF 101 (by decide)).trans h101
    have h102 := (hF 102 (by decide)).trans h102
    have h103 := (hF 103 (by decide)).trans h103
    have h104 := (hF 104 (by decide)).trans h104
    have h105 := (hF 105 (by decide)).trans h105
    have h106 := (hF 106 (by decide)).trans h106
    have hFF := kF_st hFF hF (by first | decide | simp)
    refine lv_iload_n C.1 C.2.1 dX8_mark_61 rfl (lv_at hl 0 rfl) ?_
    exact hret _ _ (Nat.le_of_ble_eq_true rfl) (Nat.le_of_ble_eq_true rfl) hw (⟨rfl, rfl, hFF, h0, h98, h99, h100, h101, h102, h103, h104, h105, h106⟩) dX8_mark_62
  · exact absurd (by decide) c5

set_option maxHeartbeats 4000000 in
set_option maxRecDepth 100000 in
theorem c_X8_restore_b {l : Launch} {D : va_G} {cI cJ cZ cH cR : ClassId} {b : Nat} {n : Nat} {M : Nat → va_E}  {mm : Nat} {sl : Int32} {x tn : Int32} (hn : 1 ≤ n) (h0 : M 0 = .inr (8, [.ref (b + 1), .ref (b + 6), .ref (b + 22), .ref (b + 33), .ref (b + 37), .ref (b + 42), .int (nI mm), .int sl]))  (hx : ¬ isT x mm) : Met l yX8_restore (kw yX8_restore cX8_restore 3 (some .int)) ({ frames := 0, cells := 0, slots := 0, locals := 0 }) (va_Pc [.ref (b + 0), .int x, .int tn] (kPre D (kT cI cJ cZ cH cR) b M n)) (va_Qi (fun (r : Int32) (u : (Nat → va_E) × Nat) => r = (-101) ∧ u.2 = n ∧ u.1 = M) (kB D (kT cI cJ cZ cH cR) b) (kA b)) 0 0 (kA b) := by
  refine k_metI (by decide +kernel) (Nat.le_of_ble_eq_true rfl) ?_
  intro p e s m below meth c ls Q C hw hret hnm hl
  have hl : lv_has ls 3 [(0, .ref (b + 0)), (1, .int x), (2, .int tn)] := hl
  refine lv_iload_n C.1 C.2.1 dX8_restore_0 rfl (lv_at hl 1 rfl) ?_
  refine lv_if_lt (tgt := 21) C.1 C.2.1 dX8_restore_1 (by decide) (fun c1 => ?_) (fun c1 => ?_)
  · refine lv_bipush (v := (-101)) C.1 C.2.1 dX8_restore_21 (by decide) ?_
    exact hret _ _ (Nat.le_of_ble_eq_true rfl) (Nat.le_of_ble_eq_true rfl) hw (⟨rfl, rfl, rfl⟩) dX8_restore_23
  · refine lv_iload_n C.1 C.2.1 dX8_restore_4 rfl (lv_at hl 1 rfl) ?_
    refine lv_aload_n C.1 C.2.1 dX8_restore_5 rfl (lv_at hl 0 rfl) ?_
    refine k_get C hw 0 (by omega) h0 rfl inlX8 6 (by decide) q_181 rfl dX8_restore_6 ?_
    refine lv_icmp_ge (tgt := 21) C.1 C.2.1 dX8_restore_9 (by decide) (fun c9 => ?_) (fun c9 => ?_)
    · refine lv_bipush (v := (-101)) C.1 C.2.1 dX8_restore_21 (by decide) ?_
      exact hret _ _ (Nat.le_of_ble_eq_true rfl) (Nat.le_of_ble_eq_true rfl) hw (⟨rfl, rfl, rfl⟩) dX8_restore_23
    · exact absurd ⟨c1, c9⟩ hx

set_option maxHeartbeats 4000000 in
set_option maxRecDepth 100000 in
theorem c_X8_restore_0 {l : Launch} {D : va_G} {cI cJ cZ cH cR : ClassId} {b : Nat} {n : Nat} {M : Nat → va_E}  {mm : Nat} {sl : Int32} {G : Nat} {mo : Nat} {ta : Nat} {sc : Int32} {mv : Nat} {ow : Nat → Int32} {ep : Nat → Int32} {we : Nat → Int32} {po : Nat → Int32} {ct : Nat → Int32} {su : Nat → Int64} {rs : Nat} {ca : Nat} {rn : Nat → Int32} {rk : Nat → Int32} {rv : Nat → Int32} {ts : Nat} {tr : Int32} {tk : Nat → Int32} {tt : Nat → Int32} {os : Nat} {lx : Nat} {lz : Nat} {mk : Nat → Option Nat} {ct0 : Nat → Int32} {su0 : Nat → Int64} {rs0 : Nat} {ca0 : Nat} {rn0 : Nat → Int32} {rk0 : Nat → Int32} {rv0 : Nat → Int32} {ts0 : Nat} {tr0 : Int32} {tk0 : Nat → Int32} {tt0 : Nat → Int32} {tn : Int32} (hn : 85 ≤ n) (h0 : M 0 = .inr (8, [.ref (b + 1), .ref (b + 6), .ref (b + 22), .ref (b + 33), .ref (b + 37), .ref (b + 42), .int (nI mm), .int sl])) (h1 : M 1 = .inr (3, [.int (nI G), .int (nI mo), .int (nI ta), .int sc, .int (nI mv), .ref (b + 2), .ref (b + 3), .ref (b + 4), .ref (b + 5)])) (h2 : M 2 = .inl (cI, 32, .inl ow)) (h3 : M 3 = .inl (cI, 32, .inl ep)) (h4 : M 4 = .inl (cI, 32, .inl we)) (h6 : M 6 = .inr (4, [.ref (b + 7), .ref (b + 8), .ref (b + 9)])) (h7 : M 7 = .inl (cI, 32, .inl po)) (h22 : M 22 = .inr (0, [.ref (b + 23), .ref (b + 26), .ref (b + 30)])) (h23 : M 23 = .inr (6, [.ref (b + 24), .ref (b + 25)])) (h24 : M 24 = .inl (cI, 100, .inl ct)) (h25 : M 25 = .inl (cJ, 100, .inr (.inl su))) (h26 : M 26 = .inr (5, [.ref (b + 27), .ref (b + 28), .ref (b + 29), .int (nI rs), .int (nI ca)])) (h27 : M 27 = .inl (cI, 400, .inl rn)) (h28 : M 28 = .inl (cI, 400, .inl rk)) (h29 : M 29 = .inl (cI, 400, .inl rv)) (h30 : M 30 = .inr (7, [.ref (b + 31), .ref (b + 32), .int (nI ts), .int tr])) (h31 : M 31 = .inl (cI, 40, .inl tk)) (h32 : M 32 = .inl (cI, 40, .inl tt)) (h33 : M 33 = .inr (2, [.ref (b + 34), .ref (b + 35), .ref (b + 36), .int (nI os)])) (h37 : M 37 = .inr (1, [.ref (b + 38), .ref (b + 39), .ref (b + 40), .ref (b + 41), .int (nI lx), .int (nI lz)])) (h42 : M 42 = .inl (cH, 3, .inr (.inr (.inr (.inr mk))))) (h74 : M 74 = .inr (0, [.ref (b + 75), .ref (b + 78), .ref (b + 82)])) (h75 : M 75 = .inr (6, [.ref (b + 76), .ref (b + 77)])) (h76 : M 76 = .inl (cI, 100, .inl ct0)) (h77 : M 77 = .inl (cJ, 100, .inr (.inl su0))) (h78 : M 78 = .inr (5, [.ref (b + 79), .ref (b + 80), .ref (b + 81), .int (nI rs0), .int (nI ca0)])) (h79 : M 79 = .inl (cI, 400, .inl rn0)) (h80 : M 80 = .inl (cI, 400, .inl rk0)) (h81 : M 81 = .inl (cI, 400, .inl rv0)) (h82 : M 82 = .inr (7, [.ref (b + 83), .ref (b + 84), .int (nI ts0), .int tr0])) (h83 : M 83 = .inl (cI, 40, .inl tk0)) (h84 : M 84 = .inl (cI, 40, .inl tt0))  (hG0 : 0 < G) (hG : G ≤ 32) (hmo : mo ≤ 12) (hm : 0 < mm) (hm2 : mm ≤ 3) (hmk : mk 0 = some (b + 74)) (hs : rs0 ≤ 400) (ht : ts0 ≤ 40) : Met l yX8_restore (kw yX8_restore cX8_restore 3 (some .int)) ({ frames := 3, cells := 0, slots := 0, locals := 82 }) (va_Pc [.ref (b + 0), .int (nI 0), .int tn] (kPre D (kT cI cJ cZ cH cR) b M n)) (va_Qi (fun (r : Int32) (u : (Nat → va_E) × Nat) => u.2 = n ∧ (((tn < nI 1) ∧ r = -102 ∧ u.1 = M) ∨ ((¬ tn < nI 1 ∧ nI mo < tn) ∧ r = -105 ∧ u.1 = M) ∨ ((¬ tn < nI 1 ∧ ¬ nI mo < tn) ∧ r = nI rs0 ∧ kF [1, 2, 3, 4, 7, 24, 25, 26, 27, 28, 29, 30, 31, 32, 33, 37] M u.1 ∧ u.1 1 = .inr (3, [.int (nI G), .int (nI mo), .int (nI (kn tn)), .int (sc), .int (nI mv), .ref (b + 2), .ref (b + 3), .ref (b + 4), .ref (b + 5)]) ∧ u.1 2 = .inl (cI, 32, .inl (pfx (lay po (evF G (kn tn)) (kn tn)) ow G)) ∧ u.1 3 = .inl (cI, 32, .inl (pfx (fun g => ep g + nI 1) ep G)) ∧ u.1 4 = .inl (cI, 32, .inl (pfx (fun _ => nI 0) we G)) ∧ u.1 7 = .inl (cI, 32, .inl (lay po (evF G (kn tn)) (kn tn))) ∧ u.1 24 = .inl (cI, 100, .inl ct0) ∧ u.1 25 = .inl (cJ, 100, .inr (.inl su0)) ∧ u.1 26 = .inr (5, [.ref (b + 27), .ref (b + 28), .ref (b + 29), .int (nI rs0), .int (nI ca0)]) ∧ u.1 27 = .inl (cI, 400, .inl (va_cpy rn0 rn 0 0 rs0)) ∧ u.1 28 = .inl (cI, 400, .inl (va_cpy rk0 rk 0 0 rs0)) ∧ u.1 29 = .inl (cI, 400, .inl (va_cpy rv0 rv 0 0 rs0)) ∧ u.1 30 = .inr (7, [.ref (b + 31), .ref (b + 32), .int (nI ts0), .int (tr0)]) ∧ u.1 31 = .inl (cI, 40, .inl (va_cpy tk0 tk 0 0 ts0)) ∧ u.1 32 = .inl (cI, 40, .inl (va_cpy tt0 tt 0 0 ts0)) ∧ u.1 33 = .inr (2, [.ref (b + 34), .ref (b + 35), .ref (b + 36), .int (nI 0)]) ∧ u.1 37 = .inr (1, [.ref (b + 38), .ref (b + 39), .ref (b + 40), .ref (b + 41), .int (nI lx), .int (nI 0)])))) (kB D (kT cI cJ cZ cH cR) b) (kA b)) 0 0 (kA b) := by
  refine k_metI (by decide +kernel) (Nat.le_of_ble_eq_true rfl) ?_
  intro p e s m below meth c ls Q C hw hret hnm hl
  have hl : lv_has ls 3 [(0, .ref (b + 0)), (1, .int (nI 0)), (2, .int tn)] := hl
  have hFF : kF [1, 2, 3, 4, 7, 24, 25, 26, 27, 28, 29, 30, 31, 32, 33, 37] M M := kF_rf
  refine lv_iload_n C.1 C.2.1 dX8_restore_0 rfl (lv_at hl 1 rfl) ?_
  refine lv_if_lt (tgt := 21) C.1 C.2.1 dX8_restore_1 (by decide) (fun c1 => ?_) (fun c1 => ?_)
  · exact absurd c1 (by decide)
  · refine lv_iload_n C.1 C.2.1 dX8_restore_4 rfl (lv_at hl 1 rfl) ?_
    refine lv_aload_n C.1 C.2.1 dX8_restore_5 rfl (lv_at hl 0 rfl) ?_
    refine k_get C hw 0 (by omega) h0 rfl inlX8 6 (by decide) q_181 rfl dX8_restore_6 ?_
    refine lv_icmp_ge (tgt := 21) C.1 C.2.1 dX8_restore_9 (by decide) (fun c9 => ?_) (fun c9 => ?_)
    · exact absurd ((nI_leI (by omega) (by omega)).mp c9) (by omega)
    · refine lv_aload_n C.1 C.2.1 dX8_restore_12 rfl (lv_at hl 0 rfl) ?_
      refine k_get C hw 0 (by omega) h0 rfl inlX8 5 (by decide) q_32 rfl dX8_restore_13 ?_
      refine lv_iload_n C.1 C.2.1 dX8_restore_16 rfl (lv_at hl 1 rfl) ?_
      refine k_qald (v := .ref (b + 74)) C hw 42 (by omega) h42 (by omega) (by decide) (by rw [hmk]; rfl) dX8_restore_17 ?_
      refine lv_ifnonnull (tgt := 24) C.1 C.2.1 dX8_restore_18 (by decide) ?_
      refine lv_iload_n C.1 C.2.1 dX8_restore_24 rfl (lv_at hl 2 rfl) ?_
      refine lv_iconst (v := nI 1) C.1 C.2.1 dX8_restore_25 (by decide) ?_
      refine lv_icmp_ge (tgt := 32) C.1 C.2.1 dX8_restore_26 (by decide) (fun c26 => ?_) (fun c26 => ?_)
      · refine lv_iload_n C.1 C.2.1 dX8_restore_32 rfl (lv_at hl 2 rfl) ?_
        refine lv_aload_n C.1 C.2.1 dX8_restore_33 rfl (lv_at hl 0 rfl) ?_
        refine k_get C hw 0 (by omega) h0 rfl inlX8 0 (by decide) q_15 rfl dX8_restore_34 ?_
        refine k_get C hw 1 (by omega) h1 rfl inlX3 1 (by decide) q_305 rfl dX8_restore_37 ?_
        refine lv_icmp_le (tgt := 46) C.1 C.2.1 dX8_restore_40 (by decide) (fun c40 => ?_) (fun c40 => ?_)
        · obtain ⟨m1, hm0, hm1, em, ekn⟩ := tn_nI hmo c26 c40
          refine lv_aload_n C.1 C.2.1 dX8_restore_46 rfl (lv_at hl 0 rfl) ?_
          refine k_get C hw 0 (by omega) h0 rfl inlX8 2 (by decide) q_23 rfl dX8_restore_47 ?_
          refine lv_aload_n C.1 C.2.1 dX8_restore_50 rfl (lv_at hl 0 rfl) ?_
          refine k_get C hw 0 (by omega) h0 rfl inlX8 5 (by decide) q_32 rfl dX8_restore_51 ?_
          refine lv_iload_n C.1 C.2.1 dX8_restore_54 rfl (lv_at hl 1 rfl) ?_
          refine k_qald (v := .ref (b + 74)) C hw 42 (by omega) h42 (by omega) (by decide) (by rw [hmk]; rfl) dX8_restore_55 ?_
          refine k_vv C hw 22 (by omega) h22 rfl (c_X0_copyFrom_22_74 (by omega) h22 h23 h24 h25 h26 h27 h28 h29 h30 h31 h32 h74 h75 h76 h77 h78 h79 h80 h81 h82 h83 h84  (hs) (ht)) kv_X8_229 rfl hl.1 ⟨Nat.le_of_ble_eq_true rfl, Nat.le_of_ble_eq_true rfl⟩ (Nat.le_of_ble_eq_true rfl) ⟨Nat.le_of_ble_eq_true rfl, Nat.le_of_ble_eq_true rfl⟩ dX8_restore_56 (fun M_1 n9 H locs hp hw => ?_)
          obtain ⟨en9, hF, h24, h25, h26, h27, h28, h29, h30, h31, h32⟩ := hp
          have en9 : n9 = n := en9
          rw [en9] at hw
          have h0 := (hF 0 (by decide)).trans h0
          have h1 := (hF 1 (by decide)).trans h1
          have h2 := (hF 2 (by decide)).trans h2
          have h3 := (hF 3 (by decide)).trans h3
          have h4 := (hF 4 (by decide)).trans h4
          have h6 := (hF 6 (by decide)).trans h6
          have h7 := (hF 7 (by decide)).trans h7
          have h22 := (hF 22 (by decide)).trans h22
          have h23 := (hF 23 (by decide)).trans h23
          have h33 := (hF 33 (by decide)).trans h33
          have h37 := (hF 37 (by decide)).trans h37
          have h42 := (hF 42 (by decide)).trans h42
          have h74 := (hF 74 (by decide)).trans h74
          have h75 := (hF 75 (by decide)).trans h75
          have h76 := (hF 76 (by decide)).trans h76
          have h77 := (hF 77 (by decide)).trans h77
          have h78 := (hF 78 (by decide)).trans h78
          have h79 := (hF 79 (by decide)).trans h79
          have h80 := (hF 80 (by decide)).trans h80
          have h81 := (hF 81 (by decide)).trans h81
          have h82 := (hF 82 (by decide)).trans h82
          have h83 := (hF 83 (by decide)).trans h83
          have h84 := (hF 84 (by decide)).trans h84
          have hFF := kF_st hFF hF (by first | decide | simp)
          refine lv_aload_n C.1 C.2.1 dX8_restore_59 rfl (lv_at hl 0 rfl) ?_
          refine k_get C hw 0 (by omega) h0 rfl inlX8 1 (by decide) q_19 rfl dX8_restore_60 ?_
          refine lv_aload_n C.1 C.2.1 dX8_restore_63 rfl (lv_at hl 0 rfl) ?_
          refine k_get C hw 0 (by omega) h0 rfl inlX8 0 (by decide) q_15 rfl dX8_restore_64 ?_
          refine k_get C hw 1 (by omega) h1 rfl inlX3 0 (by decide) q_306 rfl dX8_restore_67 ?_
          refine lv_iload_n C.1 C.2.1 dX8_restore_70 rfl (lv_at hl 2 rfl) ?_
          refine k_topi (y := nI m1) (em) ?_
          refine k_vv C hw 6 (by omega) h6 rfl (c_X4_layEven (by omega) h6 h7  (hG) (hm0) (by omega)) kv_X8_143 rfl hl.1 ⟨Nat.le_of_ble_eq_true rfl, Nat.le_of_ble_eq_true rfl⟩ (Nat.le_of_ble_eq_true rfl) ⟨Nat.le_of_ble_eq_true rfl, Nat.le_of_ble_eq_true rfl⟩ dX8_restore_71 (fun M_2 n9 H locs hp hw => ?_)
          obtain ⟨en9, hF, h7⟩ := hp
          have en9 : n9 = n := en9
          rw [en9] at hw
          have h0 := (hF 0 (by decide)).trans h0
          have h1 := (hF 1 (by decide)).trans h1
          have h2 := (hF 2 (by decide)).trans h2
          have h3 := (hF 3 (by decide)).trans h3
          have h4 := (hF 4 (by decide)).trans h4
          have h6 := (hF 6 (by decide)).trans h6
          have h22 := (hF 22 (by decide)).trans h22
          have h23 := (hF 23 (by decide)).trans h23
          have h24 := (hF 24 (by decide)).trans h24
          have h25 := (hF 25 (by decide)).trans h25
          have h26 := (hF 26 (by decide)).trans h26
          have h27 := (hF 27 (by decide)).trans h27
          have h28 := (hF 28 (by decide)).trans h28
          have h29 := (hF 29 (by decide)).trans h29
          have h30 := (hF 30 (by decide)).trans h30
          have h31 := (hF 31 (by decide)).trans h31
          have h32 := (hF 32 (by decide)).trans h32
          have h33 := (hF 33 (by decide)).trans h33
          have h37 := (hF 37 (by decide)).trans h37
          have h42 := (hF 42 (by decide)).trans h42
          have h74 := (hF 74 (by decide)).trans h74
          have h75 := (hF 75 (by decide)).trans h75
          have h76 := (hF 76 (by decide)).trans h76
          have h77 := (hF 77 (by decide)).trans h77
          have h78 := (hF 78 (by decide)).trans h78
          have h79 := (hF 79 (by decide)).trans h79
          have h80 := (hF 80 (by decide)).trans h80
          have h81 := (hF 81 (by decide)).trans h81
          have h82 := (hF 82 (by decide)).trans h82
          have h83 := (hF 83 (by decide)).trans h83
          have h84 := (hF 84 (by decide)).trans h84
          have hFF := kF_st hFF hF (by first | decide | simp)
          refine lv_aload_n C.1 C.2.1 dX8_restore_74 rfl (lv_at hl 0 rfl) ?_
          refine k_get C hw 0 (by omega) h0 rfl inlX8 0 (by decide) q_15 rfl dX8_restore_75 ?_
          refine lv_aload_n C.1 C.2.1 dX8_restore_78 rfl (lv_at hl 0 rfl) ?_
          refine k_get C hw 0 (by omega) h0 rfl inlX8 1 (by decide) q_19 rfl dX8_restore_79 ?_
          refine k_get C hw 6 (by omega) h6 rfl inlX4 0 (by decide) q_307 rfl dX8_restore_82 ?_
          refine lv_iload_n C.1 C.2.1 dX8_restore_85 rfl (lv_at hl 2 rfl) ?_
          refine k_topi (y := nI m1) (em) ?_
          refine k_vv C hw 1 (by omega) h1 rfl (c_X3_startAnew (by omega) h1 h2 h3 h4 h7  (hG0) (hG)) kv_X8_233 rfl hl.1 ⟨Nat.le_of_ble_eq_true rfl, Nat.le_of_ble_eq_true rfl⟩ (Nat.le_of_ble_eq_true rfl) ⟨Nat.le_of_ble_eq_true rfl, Nat.le_of_ble_eq_true rfl⟩ dX8_restore_86 (fun M_3 n9 H locs hp hw => ?_)
          obtain ⟨en9, hF, h1, h2, h3, h4⟩ := hp
          have en9 : n9 = n := en9
          rw [en9] at hw
          have h0 := (hF 0 (by decide)).trans h0
          have h6 := (hF 6 (by decide)).trans h6
          have h7 := (hF 7 (by decide)).trans h7
          have h22 := (hF 22 (by decide)).trans h22
          have h23 := (hF 23 (by decide)).trans h23
          have h24 := (hF 24 (by decide)).trans h24
          have h25 := (hF 25 (by decide)).trans h25
          have h26 := (hF 26 (by decide)).trans h26
          have h27 := (hF 27 (by decide)).trans h27
          have h28 := (hF 28 (by decide)).trans h28
          have h29 := (hF 29 (by decide)).trans h29
          have h30 := (hF 30 (by decide)).trans h30
          have h31 := (hF 31 (by decide)).trans h31
          have h32 := (hF 32 (by decide)).trans h32
          have h33 := (hF 33 (by decide)).trans h33
          have h37 := (hF 37 (by decide)).trans h37
          have h42 := (hF 42 (by decide)).trans h42
          have h74 := (hF 74 (by decide)).trans h74
          have h75 := (hF 75 (by decide)).trans h75
          have h76 := (hF 76 (by decide)).trans h76
          have h77 := (hF 77 (by decide)).trans h77
          have h78 := (hF 78 (by decide)).trans h78
          have h79 := (hF 79 (by decide)).trans h79
          have h80 := (hF 80 (by decide)).trans h80
          have h81 := (hF 81 (by decide)).trans h81
          have h82 := (hF 82 (by decide)).trans h82
          have h83 := (hF 83 (by decide)).trans h83
          have h84 := (hF 84 (by decide)).trans h84
          have hFF := kF_st hFF hF (by first | decide | simp)
          refine lv_aload_n C.1 C.2.1 dX8_restore_89 rfl (lv_at hl 0 rfl) ?_
          refine k_get C hw 0 (by omega) h0 rfl inlX8 3 (by decide) q_27 rfl dX8_restore_90 ?_
          refine lv_iconst (v := nI 0) C.1 C.2.1 dX8_restore_93 (by decide) ?_
          refine k_put (tf := .int) C hw 33 (by omega) h33 rfl inlX2 tyX2 tyX2_ok nmX2 3 (by decide) q_558 rfl (by decide +kernel) rfl rfl (Nat.le_of_ble_eq_true rfl) dX8_restore_94 (fun M_4 H locs hw h33 hF => ?_)
          have h33 : M_4 33 = .inr (2, [.ref (b + 34), .ref (b + 35), .ref (b + 36), .int (nI 0)]) := h33
          have h0 := (hF 0 (by decide)).trans h0
          have h1 := (hF 1 (by decide)).trans h1
          have h2 := (hF 2 (by decide)).trans h2
          have h3 := (hF 3 (by decide)).trans h3
          have h4 := (hF 4 (by decide)).trans h4
          have h6 := (hF 6 (by decide)).trans h6
          have h7 := (hF 7 (by decide)).trans h7
          have h22 := (hF 22 (by decide)).trans h22
          have h23 := (hF 23 (by decide)).trans h23
          have h24 := (hF 24 (by decide)).trans h24
          have h25 := (hF 25 (by decide)).trans h25
          have h26 := (hF 26 (by decide)).trans h26
          have h27 := (hF 27 (by decide)).trans h27
          have h28 := (hF 28 (by decide)).trans h28
          have h29 := (hF 29 (by decide)).trans h29
          have h30 := (hF 30 (by decide)).trans h30
          have h31 := (hF 31 (by decide)).trans h31
          have h32 := (hF 32 (by decide)).trans h32
          have h37 := (hF 37 (by decide)).trans h37
          have h42 := (hF 42 (by decide)).trans h42
          have h74 := (hF 74 (by decide)).trans h74
          have h75 := (hF 75 (by decide)).trans h75
          have h76 := (hF 76 (by decide)).trans h76
          have h77 := (hF 77 (by decide)).trans h77
          have h78 := (hF 78 (by decide)).trans h78
          have h79 := (hF 79 (by decide)).trans h79
          have h80 := (hF 80 (by decide)).trans h80
          have h81 := (hF 81 (by decide)).trans h81
          have h82 := (hF 82 (by decide)).trans h82
          have h83 := (hF 83 (by decide)).trans h83
          have h84 := (hF 84 (by decide)).trans h84
          have hFF := kF_st hFF hF (by first | decide | simp)
          refine lv_aload_n C.1 C.2.1 dX8_restore_97 rfl (lv_at hl 0 rfl) ?_
          refine k_get C hw 0 (by omega) h0 rfl inlX8 4 (by decide) q_31 rfl dX8_restore_98 ?_
          refine lv_iconst (v := nI 0) C.1 C.2.1 dX8_restore_101 (by decide) ?_
          refine k_put (tf := .int) C hw 37 (by omega) h37 rfl inlX1 tyX1 tyX1_ok nmX1 5 (by decide) q_573 rfl (by decide +kernel) rfl rfl (Nat.le_of_ble_eq_true rfl) dX8_restore_102 (fun M_5 H locs hw h37 hF => ?_)
          have h37 : M_5 37 = .inr (1, [.ref (b + 38), .ref (b + 39), .ref (b + 40), .ref (b + 41), .int (nI lx), .int (nI 0)]) := h37
          have h0 := (hF 0 (by decide)).trans h0
          have h1 := (hF 1 (by decide)).trans h1
          have h2 := (hF 2 (by decide)).trans h2
          have h3 := (hF 3 (by decide)).trans h3
          have h4 := (hF 4 (by decide)).trans h4
          have h6 := (hF 6 (by decide)).trans h6
          have h7 := (hF 7 (by decide)).trans h7
          have h22 := (hF 22 (by decide)).trans h22
          have h23 := (hF 23 (by decide)).trans h23
          have h24 := (hF 24 (by decide)).trans h24
          have h25 := (hF 25 (by decide)).trans h25
          have h26 := (hF 26 (by decide)).trans h26
          have h27 := (hF 27 (by decide)).trans h27
          have h28 := (hF 28 (by decide)).trans h28
          have h29 := (hF 29 (by decide)).trans h29
          have h30 := (hF 30 (by decide)).trans h30
          have h31 := (hF 31 (by decide)).trans h31
          have h32 := (hF 32 (by decide)).trans h32
          have h33 := (hF 33 (by decide)).trans h33
          have h42 := (hF 42 (by decide)).trans h42
          have h74 := (hF 74 (by decide)).trans h74
          have h75 := (hF 75 (by decide)).trans h75
          have h76 := (hF 76 (by decide)).trans h76
          have h77 := (hF 77 (by decide)).trans h77
          have h78 := (hF 78 (by decide)).trans h78
          have h79 := (hF 79 (by decide)).trans h79
          have h80 := (hF 80 (by decide)).trans h80
          have h81 := (hF 81 (by decide)).trans h81
          have h82 := (hF 82 (by decide)).trans h82
          have h83 := (hF 83 (by decide)).trans h83
          have h84 := (hF 84 (by decide)).trans h84
          have hFF := kF_st hFF hF (by first | decide | simp)
          refine lv_aload_n C.1 C.2.1 dX8_restore_105 rfl (lv_at hl 0 rfl) ?_
          refine k_get C hw 0 (by omega) h0 rfl inlX8 2 (by decide) q_23 rfl dX8_restore_106 ?_
          refine k_get C hw 22 (by omega) h22 rfl inlX0 1 (by decide) q_177 rfl dX8_restore_109 ?_
          refine k_get C hw 26 (by omega) h26 rfl inlX5 3 (by decide) q_266 rfl dX8_restore_112 ?_
          rw [← ekn] at h1 h2 h7
          exact hret _ _ (Nat.le_of_ble_eq_true rfl) (Nat.le_of_ble_eq_true rfl) hw (⟨rfl, Or.inr (Or.inr (⟨⟨Int32.not_lt.mpr c26, Int32.not_lt.mpr c40⟩, rfl, hFF, h1, h2, h3, h4, h7, h24, h25, h26, h27, h28, h29, h30, h31, h32, h33, h37⟩))⟩) dX8_restore_115
        · refine lv_bipush (v := (-105)) C.1 C.2.1 dX8_restore_43 (by decide) ?_
          exact hret _ _ (Nat.le_of_ble_eq_true rfl) (Nat.le_of_ble_eq_true rfl) hw (⟨rfl, Or.inr (Or.inl ⟨⟨Int32.not_lt.mpr c26, Int32.not_le.mp c40⟩, rfl, rfl⟩)⟩) dX8_restore_45
      · refine lv_bipush (v := (-102)) C.1 C.2.1 dX8_restore_29 (by decide) ?_
        exact hret _ _ (Nat.le_of_ble_eq_true rfl) (Nat.le_of_ble_eq_true rfl) hw (⟨rfl, Or.inl ⟨Int32.not_le.mp c26, rfl, rfl⟩⟩) dX8_restore_31

set_option maxHeartbeats 4000000 in
set_option maxRecDepth 100000 in
theorem c_X8_restore_1 {l : Launch} {D : va_G} {cI cJ cZ cH cR : ClassId} {b : Nat} {n : Nat} {M : Nat → va_E}  {mm : Nat} {sl : Int32} {G : Nat} {mo : Nat} {ta : Nat} {sc : Int32} {mv : Nat} {ow : Nat → Int32} {ep : Nat → Int32} {we : Nat → Int32} {po : Nat → Int32} {ct : Nat → Int32} {su : Nat → Int64} {rs : Nat} {ca : Nat} {rn : Nat → Int32} {rk : Nat → Int32} {rv : Nat → Int32} {ts : Nat} {tr : Int32} {tk : Nat → Int32} {tt : Nat → Int32} {os : Nat} {lx : Nat} {lz : Nat} {mk : Nat → Option Nat} {ct1 : Nat → Int32} {su1 : Nat → Int64} {rs1 : Nat} {ca1 : Nat} {rn1 : Nat → Int32} {rk1 : Nat → Int32} {rv1 : Nat → Int32} {ts1 : Nat} {tr1 : Int32} {tk1 : Nat → Int32} {tt1 : Nat → Int32} {tn : Int32} (hn : 96 ≤ n) (h0 : M 0 = .inr (8, [.ref (b + 1), .ref (b + 6), .ref (b + 22), .ref (b + 33), .ref (b + 37), .ref (b + 42), .int (nI mm), .int sl])) (h1 : M 1 = .inr (3, [.int (nI G), .int (nI mo), .int (nI ta), .int sc, .int (nI mv), .ref (b + 2), .ref (b + 3), .ref (b + 4), .ref (b + 5)])) (h2 : M 2 = .inl (cI, 32, .inl ow)) (h3 : M 3 = .inl (cI, 32, .inl ep)) (h4 : M 4 = .inl (cI, 32, .inl we)) (h6 : M 6 = .inr (4, [.ref (b + 7), .ref (b + 8), .ref (b + 9)])) (h7 : M 7 = .inl (cI, 32, .inl po)) (h22 : M 22 = .inr (0, [.ref (b + 23), .ref (b + 26), .ref (b + 30)])) (h23 : M 23 = .inr (6, [.ref (b + 24), .ref (b + 25)])) (h24 : M 24 = .inl (cI, 100, .inl ct)) (h25 : M 25 = .inl (cJ, 100, .inr (.inl su))) (h26 : M 26 = .inr (5, [.ref (b + 27), .ref (b + 28), .ref (b + 29), .int (nI rs), .int (nI ca)])) (h27 : M 27 = .inl (cI, 400, .inl rn)) (h28 : M 28 = .inl (cI, 400, .inl rk)) (h29 : M 29 = .inl (cI, 400, .inl rv)) (h30 : M 30 = .inr (7, [.ref (b + 31), .ref (b + 32), .int (nI ts), .int tr])) (h31 : M 31 = .inl (cI, 40, .inl tk)) (h32 : M 32 = .inl (cI, 40, .inl tt)) (h33 : M 33 = .inr (2, [.ref (b + 34), .ref (b + 35), .ref (b + 36), .int (nI os)])) (h37 : M 37 = .inr (1, [.ref (b + 38), .ref (b + 39), .ref (b + 40), .ref (b + 41), .int (nI lx), .int (nI lz)])) (h42 : M 42 = .inl (cH, 3, .inr (.inr (.inr (.inr mk))))) (h85 : M 85 = .inr (0, [.ref (b + 86), .ref (b + 89), .ref (b + 93)])) (h86 : M 86 = .inr (6, [.ref (b + 87), .ref (b + 88)])) (h87 : M 87 = .inl (cI, 100, .inl ct1)) (h88 : M 88 = .inl (cJ, 100, .inr (.inl su1))) (h89 : M 89 = .inr (5, [.ref (b + 90), .ref (b + 91), .ref (b + 92), .int (nI rs1), .int (nI ca1)])) (h90 : M 90 = .inl (cI, 400, .inl rn1)) (h91 : M 91 = .inl (cI, 400, .inl rk1)) (h92 : M 92 = .inl (cI, 400, .inl rv1)) (h93 : M 93 = .inr (7, [.ref (b + 94), .ref (b + 95), .int (nI ts1), .int tr1])) (h94 : M 94 = .inl (cI, 40, .inl tk1)) (h95 : M 95 = .inl (cI, 40, .inl tt1))  (hG0 : 0 < G) (hG : G ≤ 32) (hmo : mo ≤ 12) (hm : 1 < mm) (hm2 : mm ≤ 3) (hmk : mk 1 = some (b + 85)) (hs : rs1 ≤ 400) (ht : ts1 ≤ 40) : Met l yX8_restore (kw yX8_restore cX8_restore 3 (some .int)) ({ frames := 3, cells := 0, slots := 0, locals := 82 }) (va_Pc [.ref (b + 0), .int (nI 1), .int tn] (kPre D (kT cI cJ cZ cH cR) b M n)) (va_Qi (fun (r : Int32) (u : (Nat → va_E) × Nat) => u.2 = n ∧ (((tn < nI 1) ∧ r = -102 ∧ u.1 = M) ∨ ((¬ tn < nI 1 ∧ nI mo < tn) ∧ r = -105 ∧ u.1 = M) ∨ ((¬ tn < nI 1 ∧ ¬ nI mo < tn) ∧ r = nI rs1 ∧ kF [1, 2, 3, 4, 7, 24, 25, 26, 27, 28, 29, 30, 31, 32, 33, 37] M u.1 ∧ u.1 1 = .inr (3, [.int (nI G), .int (nI mo), .int (nI (kn tn)), .int (sc), .int (nI mv), .ref (b + 2), .ref (b + 3), .ref (b + 4), .ref (b + 5)]) ∧ u.1 2 = .inl (cI, 32, .inl (pfx (lay po (evF G (kn tn)) (kn tn)) ow G)) ∧ u.1 3 = .inl (cI, 32, .inl (pfx (fun g => ep g + nI 1) ep G)) ∧ u.1 4 = .inl (cI, 32, .inl (pfx (fun _ => nI 0) we G)) ∧ u.1 7 = .inl (cI, 32, .inl (lay po (evF G (kn tn)) (kn tn))) ∧ u.1 24 = .inl (cI, 100, .inl ct1) ∧ u.1 25 = .inl (cJ, 100, .inr (.inl su1)) ∧ u.1 26 = .inr (5, [.ref (b + 27), .ref (b + 28), .ref (b + 29), .int (nI rs1), .int (nI ca1)]) ∧ u.1 27 = .inl (cI, 400, .inl (va_cpy rn1 rn 0 0 rs1)) ∧ u.1 28 = .inl (cI, 400, .inl (va_cpy rk1 rk 0 0 rs1)) ∧ u.1 29 = .inl (cI, 400, .inl (va_cpy rv1 rv 0 0 rs1)) ∧ u.1 30 = .inr (7, [.ref (b + 31), .ref (b + 32), .int (nI ts1), .int (tr1)]) ∧ u.1 31 = .inl (cI, 40, .inl (va_cpy tk1 tk 0 0 ts1)) ∧ u.1 32 = .inl (cI, 40, .inl (va_cpy tt1 tt 0 0 ts1)) ∧ u.1 33 = .inr (2, [.ref (b + 34), .ref (b + 35), .ref (b + 36), .int (nI 0)]) ∧ u.1 37 = .inr (1, [.ref (b + 38), .ref (b + 39), .ref (b + 40), .ref (b + 41), .int (nI lx), .int (nI 0)])))) (kB D (kT cI cJ cZ cH cR) b) (kA b)) 0 0 (kA b) := by
  refine k_metI (by decide +kernel) (Nat.le_of_ble_eq_true rfl) ?_
  intro p e s m below meth c ls Q C hw hret hnm hl
  have hl : lv_has ls 3 [(0, .ref (b + 0)), (1, .int (nI 1)), (2, .int tn)] := hl
  have hFF : kF [1, 2, 3, 4, 7, 24, 25, 26, 27, 28, 29, 30, 31, 32, 33, 37] M M := kF_rf
  refine lv_iload_n C.1 C.2.1 dX8_restore_0 rfl (lv_at hl 1 rfl) ?_
  refine lv_if_lt (tgt := 21) C.1 C.2.1 dX8_restore_1 (by decide) (fun c1 => ?_) (fun c1 => ?_)
  · exact absurd c1 (by decide)
  · refine lv_iload_n C.1 C.2.1 dX8_restore_4 rfl (lv_at hl 1 rfl) ?_
    refine lv_aload_n C.1 C.2.1 dX8_restore_5 rfl (lv_at hl 0 rfl) ?_
    refine k_get C hw 0 (by omega) h0 rfl inlX8 6 (by decide) q_181 rfl dX8_restore_6 ?_
    refine lv_icmp_ge (tgt := 21) C.1 C.2.1 dX8_restore_9 (by decide) (fun c9 => ?_) (fun c9 => ?_)
    · exact absurd ((nI_leI (by omega) (by omega)).mp c9) (by omega)
    · refine lv_aload_n C.1 C.2.1 dX8_restore_12 rfl (lv_at hl 0 rfl) ?_
      refine k_get C hw 0 (by omega) h0 rfl inlX8 5 (by decide) q_32 rfl dX8_restore_13 ?_
      refine lv_iload_n C.1 C.2.1 dX8_restore_16 rfl (lv_at hl 1 rfl) ?_
      refine k_qald (v := .ref (b + 85)) C hw 42 (by omega) h42 (by omega) (by decide) (by rw [hmk]; rfl) dX8_restore_17 ?_
      refine lv_ifnonnull (tgt := 24) C.1 C.2.1 dX8_restore_18 (by decide) ?_
      refine lv_iload_n C.1 C.2.1 dX8_restore_24 rfl (lv_at hl 2 rfl) ?_
      refine lv_iconst (v := nI 1) C.1 C.2.1 dX8_restore_25 (by decide) ?_
      refine lv_icmp_ge (tgt := 32) C.1 C.2.1 dX8_restore_26 (by decide) (fun c26 => ?_) (fun c26 => ?_)
      · refine lv_iload_n C.1 C.2.1 dX8_restore_32 rfl (lv_at hl 2 rfl) ?_
        refine lv_aload_n C.1 C.2.1 dX8_restore_33 rfl (lv_at hl 0 rfl) ?_
        refine k_get C hw 0 (by omega) h0 rfl inlX8 0 (by decide) q_15 rfl dX8_restore_34 ?_
        refine k_get C hw 1 (by omega) h1 rfl inlX3 1 (by decide) q_305 rfl dX8_restore_37 ?_
        refine lv_icmp_le (tgt := 46) C.1 C.2.1 dX8_restore_40 (by decide) (fun c40 => ?_) (fun c40 => ?_)
        · obtain ⟨m1, hm0, hm1, em, ekn⟩ := tn_nI hmo c26 c40
          refine lv_aload_n C.1 C.2.1 dX8_restore_46 rfl (lv_at hl 0 rfl) ?_
          refine k_get C hw 0 (by omega) h0 rfl inlX8 2 (by decide) q_23 rfl dX8_restore_47 ?_
          refine lv_aload_n C.1 C.2.1 dX8_restore_50 rfl (lv_at hl 0 rfl) ?_
          refine k_get C hw 0 (by omega) h0 rfl inlX8 5 (by decide) q_32 rfl dX8_restore_51 ?_
          refine lv_iload_n C.1 C.2.1 dX8_restore_54 rfl (lv_at hl 1 rfl) ?_
          refine k_qald (v := .ref (b + 85)) C hw 42 (by omega) h42 (by omega) (by decide) (by rw [hmk]; rfl) dX8_restore_55 ?_
          refine k_vv C hw 22 (by omega) h22 rfl (c_X0_copyFrom_22_85 (by omega) h22 h23 h24 h25 h26 h27 h28 h29 h30 h31 h32 h85 h86 h87 h88 h89 h90 h91 h92 h93 h94 h95  (hs) (ht)) kv_X8_229 rfl hl.1 ⟨Nat.le_of_ble_eq_true rfl, Nat.le_of_ble_eq_true rfl⟩ (Nat.le_of_ble_eq_true rfl) ⟨Nat.le_of_ble_eq_true rfl, Nat.le_of_ble_eq_true rfl⟩ dX8_restore_56 (fun M_1 n9 H locs hp hw => ?_)
          obtain ⟨en9, hF, h24, h25, h26, h27, h28, h29, h30, h31, h32⟩ := hp
          have en9 : n9 = n := en9
          rw [en9] at hw
          have h0 := (hF 0 (by decide)).trans h0
          have h1 := (hF 1 (by decide)).trans h1
          have h2 := (hF 2 (by decide)).trans h2
          have h3 := (hF 3 (by decide)).trans h3
          have h4 := (hF 4 (by decide)).trans h4
          have h6 := (hF 6 (by decide)).trans h6
          have h7 := (hF 7 (by decide)).trans h7
          have h22 := (hF 22 (by decide)).trans h22
          have h23 := (hF 23 (by decide)).trans h23
          have h33 := (hF 33 (by decide)).trans h33
          have h37 := (hF 37 (by decide)).trans h37
          have h42 := (hF 42 (by decide)).trans h42
          have h85 := (hF 85 (by decide)).trans h85
          have h86 := (hF 86 (by decide)).trans h86
          have h87 := (hF 87 (by decide)).trans h87
          have h88 := (hF 88 (by decide)).trans h88
          have h89 := (hF 89 (by decide)).trans h89
          have h90 := (hF 90 (by decide)).trans h90
          have h91 := (hF 91 (by decide)).trans h91
          have h92 := (hF 92 (by decide)).trans h92
          have h93 := (hF 93 (by decide)).trans h93
          have h94 := (hF 94 (by decide)).trans h94
          have h95 := (hF 95 (by decide)).trans h95
          have hFF := kF_st hFF hF (by first | decide | simp)
          refine lv_aload_n C.1 C.2.1 dX8_restore_59 rfl (lv_at hl 0 rfl) ?_
          refine k_get C hw 0 (by omega) h0 rfl inlX8 1 (by decide) q_19 rfl dX8_restore_60 ?_
          refine lv_aload_n C.1 C.2.1 dX8_restore_63 rfl (lv_at hl 0 rfl) ?_
          refine k_get C hw 0 (by omega) h0 rfl inlX8 0 (by decide) q_15 rfl dX8_restore_64 ?_
          refine k_get C hw 1 (by omega) h1 rfl inlX3 0 (by decide) q_306 rfl dX8_restore_67 ?_
          refine lv_iload_n C.1 C.2.1 dX8_restore_70 rfl (lv_at hl 2 rfl) ?_
          refine k_topi (y := nI m1) (em) ?_
          refine k_vv C hw 6 (by omega) h6 rfl (c_X4_layEven (by omega) h6 h7  (hG) (hm0) (by omega)) kv_X8_143 rfl hl.1 ⟨Nat.le_of_ble_eq_true rfl, Nat.le_of_ble_eq_true rfl⟩ (Nat.le_of_ble_eq_true rfl) ⟨Nat.le_of_ble_eq_true rfl, Nat.le_of_ble_eq_true rfl⟩ dX8_restore_71 (fun M_2 n9 H locs hp hw => ?_)
          obtain ⟨en9, hF, h7⟩ := hp
          have en9 : n9 = n := en9
          rw [en9] at hw
          have h0 := (hF 0 (by decide)).trans h0
          have h1 := (hF 1 (by decide)).trans h1
          have h2 := (hF 2 (by decide)).trans h2
          have h3 := (hF 3 (by decide)).trans h3
          have h4 := (hF 4 (by decide)).trans h4
          have h6 := (hF 6 (by decide)).trans h6
          have h22 := (hF 22 (by decide)).trans h22
          have h23 := (hF 23 (by decide)).trans h23
          have h24 := (hF 24 (by decide)).trans h24
          have h25 := (hF 25 (by decide)).trans h25
          have h26 := (hF 26 (by decide)).trans h26
          have h27 := (hF 27 (by decide)).trans h27
          have h28 := (hF 28 (by decide)).trans h28
          have h29 := (hF 29 (by decide)).trans h29
          have h30 := (hF 30 (by decide)).trans h30
          have h31 := (hF 31 (by decide)).trans h31
          have h32 := (hF 32 (by decide)).trans h32
          have h33 := (hF 33 (by decide)).trans h33
          have h37 := (hF 37 (by decide)).trans h37
          have h42 := (hF 42 (by decide)).trans h42
          have h85 := (hF 85 (by decide)).trans h85
          have h86 := (hF 86 (by decide)).trans h86
          have h87 := (hF 87 (by decide)).trans h87
          have h88 := (hF 88 (by decide)).trans h88
          have h89 := (hF 89 (by decide)).trans h89
          have h90 := (hF 90 (by decide)).trans h90
          have h91 := (hF 91 (by decide)).trans h91
          have h92 := (hF 92 (by decide)).trans h92
          have h93 := (hF 93 (by decide)).trans h93
          have h94 := (hF 94 (by decide)).trans h94
          have h95 := (hF 95 (by decide)).trans h95
          have hFF := kF_st hFF hF (by first | decide | simp)
          refine lv_aload_n C.1 C.2.1 dX8_restore_74 rfl (lv_at hl 0 rfl) ?_
          refine k_get C hw 0 (by omega) h0 rfl inlX8 0 (by decide) q_15 rfl dX8_restore_75 ?_
          refine lv_aload_n C.1 C.2.1 dX8_restore_78 rfl (lv_at hl 0 rfl) ?_
          refine k_get C hw 0 (by omega) h0 rfl inlX8 1 (by decide) q_19 rfl dX8_restore_79 ?_
          refine k_get C hw 6 (by omega) h6 rfl inlX4 0 (by decide) q_307 rfl dX8_restore_82 ?_
          refine lv_iload_n C.1 C.2.1 dX8_restore_85 rfl (lv_at hl 2 rfl) ?_
          refine k_topi (y := nI m1) (em) ?_
          refine k_vv C hw 1 (by omega) h1 rfl (c_X3_startAnew (by omega) h1 h2 h3 h4 h7  (hG0) (hG)) kv_X8_233 rfl hl.1 ⟨Nat.le_of_ble_eq_true rfl, Nat.le_of_ble_eq_true rfl⟩ (Nat.le_of_ble_eq_true rfl) ⟨Nat.le_of_ble_eq_true rfl, Nat.le_of_ble_eq_true rfl⟩ dX8_restore_86 (fun M_3 n9 H locs hp hw => ?_)
          obtain ⟨en9, hF, h1, h2, h3, h4⟩ := hp
          have en9 : n9 = n := en9
          rw [en9] at hw
          have h0 := (hF 0 (by decide)).trans h0
          have h6 := (hF 6 (by decide)).trans h6
          have h7 := (hF 7 (by decide)).trans h7
          have h22 := (hF 22 (by decide)).trans h22
          have h23 := (hF 23 (by decide)).trans h23
          have h24 := (hF 24 (by decide)).trans h24
          have h25 := (hF 25 (by decide)).trans h25
          have h26 := (hF 26 (by decide)).trans h26
          have h27 := (hF 27 (by decide)).trans h27
          have h28 := (hF 28 (by decide)).trans h28
          have h29 := (hF 29 (by decide)).trans h29
          have h30 := (hF 30 (by decide)).trans h30
          have h31 := (hF 31 (by decide)).trans h31
          have h32 := (hF 32 (by decide)).trans h32
          have h33 := (hF 33 (by decide)).trans h33
          have h37 := (hF 37 (by decide)).trans h37
          have h42 := (hF 42 (by decide)).trans h42
          have h85 := (hF 85 (by decide)).trans h85
          have h86 := (hF 86 (by decide)).trans h86
          have h87 := (hF 87 (by decide)).trans h87
          have h88 := (hF 88 (by decide)).trans h88
          have h89 := (hF 89 (by decide)).trans h89
          have h90 := (hF 90 (by decide)).trans h90
          have h91 := (hF 91 (by decide)).trans h91
          have h92 := (hF 92 (by decide)).trans h92
          have h93 := (hF 93 (by decide)).trans h93
          have h94 := (hF 94 (by decide)).trans h94
          have h95 := (hF 95 (by decide)).trans h95
          have hFF := kF_st hFF hF (by first | decide | simp)
          refine lv_aload_n C.1 C.2.1 dX8_restore_89 rfl (lv_at hl 0 rfl) ?_
          refine k_get C hw 0 (by omega) h0 rfl inlX8 3 (by decide) q_27 rfl dX8_restore_90 ?_
          refine lv_iconst (v := nI 0) C.1 C.2.1 dX8_restore_93 (by decide) ?_
          refine k_put (tf := .int) C hw 33 (by omega) h33 rfl inlX2 tyX2 tyX2_ok nmX2 3 (by decide) q_558 rfl (by decide +kernel) rfl rfl (Nat.le_of_ble_eq_true rfl) dX8_restore_94 (fun M_4 H locs hw h33 hF => ?_)
          have h33 : M_4 33 = .inr (2, [.ref (b + 34), .ref (b + 35), .ref (b + 36), .int (nI 0)]) := h33
          have h0 := (hF 0 (by decide)).trans h0
          have h1 := (hF 1 (by decide)).trans h1
          have h2 := (hF 2 (by decide)).trans h2
          have h3 := (hF 3 (by decide)).trans h3
          have h4 := (hF 4 (by decide)).trans h4
          have h6 := (hF 6 (by decide)).trans h6
          have h7 := (hF 7 (by decide)).trans h7
          have h22 := (hF 22 (by decide)).trans h22
          have h23 := (hF 23 (by decide)).trans h23
          have h24 := (hF 24 (by decide)).trans h24
          have h25 := (hF 25 (by decide)).trans h25
          have h26 := (hF 26 (by decide)).trans h26
          have h27 := (hF 27 (by decide)).trans h27
          have h28 := (hF 28 (by decide)).trans h28
          have h29 := (hF 29 (by decide)).trans h29
          have h30 := (hF 30 (by decide)).trans h30
          have h31 := (hF 31 (by decide)).trans h31
          have h32 := (hF 32 (by decide)).trans h32
          have h37 := (hF 37 (by decide)).trans h37
          have h42 := (hF 42 (by decide)).trans h42
          have h85 := (hF 85 (by decide)).trans h85
          have h86 := (hF 86 (by decide)).trans h86
          have h87 := (hF 87 (by decide)).trans h87
          have h88 := (hF 88 (by decide)).trans h88
          have h89 := (hF 89 (by decide)).trans h89
          have h90 := (hF 90 (by decide)).trans h90
          have h91 := (hF 91 (by decide)).trans h91
          have h92 := (hF 92 (by decide)).trans h92
          have h93 := (hF 93 (by decide)).trans h93
          have h94 := (hF 94 (by decide)).trans h94
          have h95 := (hF 95 (by decide)).trans h95
          have hFF := kF_st hFF hF (by first | decide | simp)
          refine lv_aload_n C.1 C.2.1 dX8_restore_97 rfl (lv_at hl 0 rfl) ?_
          refine k_get C hw 0 (by omega) h0 rfl inlX8 4 (by decide) q_31 rfl dX8_restore_98 ?_
          refine lv_iconst (v := nI 0) C.1 C.2.1 dX8_restore_101 (by decide) ?_
          refine k_put (tf := .int) C hw 37 (by omega) h37 rfl inlX1 tyX1 tyX1_ok nmX1 5 (by decide) q_573 rfl (by decide +kernel) rfl rfl (Nat.le_of_ble_eq_true rfl) dX8_restore_102 (fun M_5 H locs hw h37 hF => ?_)
          have h37 : M_5 37 = .inr (1, [.ref (b + 38), .ref (b + 39), .ref (b + 40), .ref (b + 41), .int (nI lx), .int (nI 0)]) := h37
          have h0 := (hF 0 (by decide)).trans h0
          have h1 := (hF 1 (by decide)).trans h1
          have h2 := (hF 2 (by decide)).trans h2
          have h3 := (hF 3 (by decide)).trans h3
          have h4 := (hF 4 (by decide)).trans h4
          have h6 := (hF 6 (by decide)).trans h6
          have h7 := (hF 7 (by decide)).trans h7
          have h22 := (hF 22 (by decide)).trans h22
          have h23 := (hF 23 (by decide)).trans h23
          have h24 := (hF 24 (by decide)).trans h24
          have h25 := (hF 25 (by decide)).trans h25
          have h26 := (hF 26 (by decide)).trans h26
          have h27 := (hF 27 (by decide)).trans h27
          have h28 := (hF 28 (by decide)).trans h28
          have h29 := (hF 29 (by decide)).trans h29
          have h30 := (hF 30 (by decide)).trans h30
          have h31 := (hF 31 (by decide)).trans h31
          have h32 := (hF 32 (by decide)).trans h32
          have h33 := (hF 33 (by decide)).trans h33
          have h42 := (hF 42 (by decide)).trans h42
          have h85 := (hF 85 (by decide)).trans h85
          have h86 := (hF 86 (by decide)).trans h86
          have h87 := (hF 87 (by decide)).trans h87
          have h88 := (hF 88 (by decide)).trans h88
          have h89 := (hF 89 (by decide)).trans h89
          have h90 := (hF 90 (by decide)).trans h90
          have h91 := (hF 91 (by decide)).trans h91
          have h92 := (hF 92 (by decide)).trans h92
          have h93 := (hF 93 (by decide)).trans h93
          have h94 := (hF 94 (by decide)).trans h94
          have h95 := (hF 95 (by decide)).trans h95
          have hFF := kF_st hFF hF (by first | decide | simp)
          refine lv_aload_n C.1 C.2.1 dX8_restore_105 rfl (lv_at hl 0 rfl) ?_
          refine k_get C hw 0 (by omega) h0 rfl inlX8 2 (by decide) q_23 rfl dX8_restore_106 ?_
          refine k_get C hw 22 (by omega) h22 rfl inlX0 1 (by decide) q_177 rfl dX8_restore_109 ?_
          refine k_get C hw 26 (by omega) h26 rfl inlX5 3 (by decide) q_266 rfl dX8_restore_112 ?_
          rw [← ekn] at h1 h2 h7
          exact hret _ _ (Nat.le_of_ble_eq_true rfl) (Nat.le_of_ble_eq_true rfl) hw (⟨rfl, Or.inr (Or.inr (⟨⟨Int32.not_lt.mpr c26, Int32.not_lt.mpr c40⟩, rfl, hFF, h1, h2, h3, h4, h7, h24, h25, h26, h27, h28, h29, h30, h31, h32, h33, h37⟩))⟩) dX8_restore_115
        · refine lv_bipush (v := (-105)) C.1 C.2.1 dX8_restore_43 (by decide) ?_
          exact hret _ _ (Nat.le_of_ble_eq_true rfl) (Nat.le_of_ble_eq_true rfl) hw (⟨rfl, Or.inr (Or.inl ⟨⟨Int32.not_lt.mpr c26, Int32.not_le.mp c40⟩, rfl, rfl⟩)⟩) dX8_restore_45
      · refine lv_bipush (v := (-102)) C.1 C.2.1 dX8_restore_29 (by decide) ?_
        exact hret _ _ (Nat.le_of_ble_eq_true rfl) (Nat.le_of_ble_eq_true rfl) hw (⟨rfl, Or.inl ⟨Int32.not_le.mp c26, rfl, rfl⟩⟩) dX8_restore_31

set_option maxHeartbeats 4000000 in
set_option maxRecDepth 100000 in
theorem c_X8_restore_2 {l : Launch} {D : va_G} {cI cJ cZ cH cR : ClassId} {b : Nat} {n : Nat} {M : Nat → va_E}  {mm : Nat} {sl : Int32} {G : Nat} {mo : Nat} {ta : Nat} {sc : Int32} {mv : Nat} {ow : Nat → Int32} {ep : Nat → Int32} {we : Nat → Int32} {po : Nat → Int32} {ct : Nat → Int32} {su : Nat → Int64} {rs : Nat} {ca : Nat} {rn : Nat → Int32} {rk : Nat → Int32} {rv : Nat → Int32} {ts : Nat} {tr : Int32} {tk : Nat → Int32} {tt : Nat → Int32} {os : Nat} {lx : Nat} {lz : Nat} {mk : Nat → Option Nat} {ct2 : Nat → Int32} {su2 : Nat → Int64} {rs2 : Nat} {ca2 : Nat} {rn2 : Nat → Int32} {rk2 : Nat → Int32} {rv2 : Nat → Int32} {ts2 : Nat} {tr2 : Int32} {tk2 : Nat → Int32} {tt2 : Nat → Int32} {tn : Int32} (hn : 107 ≤ n) (h0 : M 0 = .inr (8, [.ref (b + 1), .ref (b + 6), .ref (b + 22), .ref (b + 33), .ref (b + 37), .ref (b + 42), .int (nI mm), .int sl])) (h1 : M 1 = .inr (3, [.int (nI G), .int (nI mo), .int (nI ta), .int sc, .int (nI mv), .ref (b + 2), .ref (b + 3), .ref (b + 4), .ref (b + 5)])) (h2 : M 2 = .inl (cI, 32, .inl ow)) (h3 : M 3 = .inl (cI, 32, .inl ep)) (h4 : M 4 = .inl (cI, 32, .inl we)) (h6 : M 6 = .inr (4, [.ref (b + 7), .ref (b + 8), .ref (b + 9)])) (h7 : M 7 = .inl (cI, 32, .inl po)) (h22 : M 22 = .inr (0, [.ref (b + 23), .ref (b + 26), .ref (b + 30)])) (h23 : M 23 = .inr (6, [.ref (b + 24), .ref (b + 25)])) (h24 : M 24 = .inl (cI, 100, .inl ct)) (h25 : M 25 = .inl (cJ, 100, .inr (.inl su))) (h26 : M 26 = .inr (5, [.ref (b + 27), .ref (b + 28), .ref (b + 29), .int (nI rs), .int (nI ca)])) (h27 : M 27 = .inl (cI, 400, .inl rn)) (h28 : M 28 = .inl (cI, 400, .inl rk)) (h29 : M 29 = .inl (cI, 400, .inl rv)) (h30 : M 30 = .inr (7, [.ref (b + 31), .ref (b + 32), .int (nI ts), .int tr])) (h31 : M 31 = .inl (cI, 40, .inl tk)) (h32 : M 32 = .inl (cI, 40, .inl tt)) (h33 : M 33 = .inr (2, [.ref (b + 34), .ref (b + 35), .ref (b + 36), .int (nI os)])) (h37 : M 37 = .inr (1, [.ref (b + 38), .ref (b + 39), .ref (b + 40), .ref (b + 41), .int (nI lx), .int (nI lz)])) (h42 : M 42 = .inl (cH, 3, .inr (.inr (.inr (.inr mk))))) (h96 : M 96 = .inr (0, [.ref (b + 97), .ref (b + 100), .ref (b + 104)])) (h97 : M 97 = .inr (6, [.ref (b + 98), .ref (b + 99)])) (h98 : M 98 = .inl (cI, 100, .inl ct2)) (h99 : M 99 = .inl (cJ, 100, .inr (.inl su2))) (h100 : M 100 = .inr (5, [.ref (b + 101), .ref (b + 102), .ref (b + 103), .int (nI rs2), .int (nI ca2)])) (h101 : M 101 = .inl (cI, 400, .inl rn2)) (h102 : M 102 = .inl (cI, 400, .inl rk2)) (h103 : M 103 = .inl (cI, 400, .inl rv2)) (h104 : M 104 = .inr (7, [.ref (b + 105), .ref (b + 106), .int (nI ts2), .int tr2])) (h105 : M 105 = .inl (cI, 40, .inl tk2)) (h106 : M 106 = .inl (cI, 40, .inl tt2))  (hG0 : 0 < G) (hG : G ≤ 32) (hmo : mo ≤ 12) (hm : 2 < mm) (hm2 : mm ≤ 3) (hmk : mk 2 = some (b + 96)) (hs : rs2 ≤ 400) (ht : ts2 ≤ 40) : Met l yX8_restore (kw yX8_restore cX8_restore 3 (some .int)) ({ frames := 3, cells := 0, slots := 0, locals := 82 }) (va_Pc [.ref (b + 0), .int (nI 2), .int tn] (kPre D (kT cI cJ cZ cH cR) b M n)) (va_Qi (fun (r : Int32) (u : (Nat → va_E) × Nat) => u.2 = n ∧ (((tn < nI 1) ∧ r = -102 ∧ u.1 = M) ∨ ((¬ tn < nI 1 ∧ nI mo < tn) ∧ r = -105 ∧ u.1 = M) ∨ ((¬ tn < nI 1 ∧ ¬ nI mo < tn) ∧ r = nI rs2 ∧ kF [1, 2, 3, 4, 7, 24, 25, 26, 27, 28, 29, 30, 31, 32, 33, 37] M u.1 ∧ u.1 1 = .inr (3, [.int (nI G), .int (nI mo), .int (nI (kn tn)), .int (sc), .int (nI mv), .ref (b + 2), .ref (b + 3), .ref (b + 4), .ref (b + 5)]) ∧ u.1 2 = .inl (cI, 32, .inl (pfx (lay po (evF G (kn tn)) (kn tn)) ow G)) ∧ u.1 3 = .inl (cI, 32, .inl (pfx (fun g => ep g + nI 1) ep G)) ∧ u.1 4 = .inl (cI, 32, .inl (pfx (fun _ => nI 0) we G)) ∧ u.1 7 = .inl (cI, 32, .inl (lay po (evF G (kn tn)) (kn tn))) ∧ u.1 24 = .inl (cI, 100, .inl ct2) ∧ u.1 25 = .inl (cJ, 100, .inr (.inl su2)) ∧ u.1 26 = .inr (5, [.ref (b + 27), .ref (b + 28), .ref (b + 29), .int (nI rs2), .int (nI ca2)]) ∧ u.1 27 = .inl (cI, 400, .inl (va_cpy rn2 rn 0 0 rs2)) ∧ u.1 28 = .inl (cI, 400, .inl (va_cpy rk2 rk 0 0 rs2)) ∧ u.1 29 = .inl (cI, 400, .inl (va_cpy rv2 rv 0 0 rs2)) ∧ u.1 30 = .inr (7, [.ref (b + 31), .ref (b + 32), .int (nI ts2), .int (tr2)]) ∧ u.1 31 = .inl (cI, 40, .inl (va_cpy tk2 tk 0 0 ts2)) ∧ u.1 32 = .inl (cI, 40, .inl (va_cpy tt2 tt 0 0 ts2)) ∧ u.1 33 = .inr (2, [.ref (b + 34), .ref (b + 35), .ref (b + 36), .int (nI 0)]) ∧ u.1 37 = .inr (1, [.ref (b + 38), .ref (b + 39), .ref (b + 40), .ref (b + 41), .int (nI lx), .int (nI 0)])))) (kB D (kT cI cJ cZ cH cR) b) (kA b)) 0 0 (kA b) := by
  refine k_metI (by decide +kernel) (Nat.le_of_ble_eq_true rfl) ?_
  intro p e s m below meth c ls Q C hw hret hnm hl
  have hl : lv_has ls 3 [(0, .ref (b + 0)), (1, .int (nI 2)), (2, .int tn)] := hl
  have hFF : kF [1, 2, 3, 4, 7, 24, 25, 26, 27, 28, 29, 30, 31, 32, 33, 37] M M := kF_rf
  refine lv_iload_n C.1 C.2.1 dX8_restore_0 rfl (lv_at hl 1 rfl) ?_
  refine lv_if_lt (tgt := 21) C.1 C.2.1 dX8_restore_1 (by decide) (fun c1 => ?_) (fun c1 => ?_)
  · exact absurd c1 (by decide)
  · refine lv_iload_n C.1 C.2.1 dX8_restore_4 rfl (lv_at hl 1 rfl) ?_
    refine lv_aload_n C.1 C.2.1 dX8_restore_5 rfl (lv_at hl 0 rfl) ?_
    refine k_get C hw 0 (by omega) h0 rfl inlX8 6 (by decide) q_181 rfl dX8_restore_6 ?_
    refine lv_icmp_ge (tgt := 21) C.1 C.2.1 dX8_restore_9 (by decide) (fun c9 => ?_) (fun c9 => ?_)
    · exact absurd ((nI_leI (by omega) (by omega)).mp c9) (by omega)
    · refine lv_aload_n C.1 C.2.1 dX8_restore_12 rfl (lv_at hl 0 rfl) ?_
      refine k_get C hw 0 (by omega) h0 rfl inlX8 5 (by decide) q_32 rfl dX8_restore_13 ?_
      refine lv_iload_n C.1 C.2.1 dX8_restore_16 rfl (lv_at hl 1 rfl) ?_
      refine k_qald (v := .ref (b + 96)) C hw 42 (by omega) h42 (by omega) (by decide) (by rw [hmk]; rfl) dX8_restore_17 ?_
      refine lv_ifnonnull (tgt := 24) C.1 C.2.1 dX8_restore_18 (by decide) ?_
      refine lv_iload_n C.1 C.2.1 dX8_restore_24 rfl (lv_at hl 2 rfl) ?_
      refine lv_iconst (v := nI 1) C.1 C.2.1 dX8_restore_25 (by decide) ?_
      refine lv_icmp_ge (tgt := 32) C.1 C.2.1 dX8_restore_26 (by decide) (fun c26 => ?_) (fun c26 => ?_)
      · refine lv_iload_n C.1 C.2.1 dX8_restore_32 rfl (lv_at hl 2 rfl) ?_
        refine lv_aload_n C.1 C.2.1 dX8_restore_33 rfl (lv_at hl 0 rfl) ?_
        refine k_get C hw 0 (by omega) h0 rfl inlX8 0 (by decide) q_15 rfl dX8_restore_34 ?_
        refine k_get C hw 1 (by omega) h1 rfl inlX3 1 (by decide) q_305 rfl dX8_restore_37 ?_
        refine lv_icmp_le (tgt := 46) C.1 C.2.1 dX8_restore_40 (by decide) (fun c40 => ?_) (fun c40 => ?_)
        · obtain ⟨m1, hm0, hm1, em, ekn⟩ := tn_nI hmo c26 c40
          refine lv_aload_n C.1 C.2.1 dX8_restore_46 rfl (lv_at hl 0 rfl) ?_
          refine k_get C hw 0 (by omega) h0 rfl inlX8 2 (by decide) q_23 rfl dX8_restore_47 ?_
          refine lv_aload_n C.1 C.2.1 dX8_restore_50 rfl (lv_at hl 0 rfl) ?_
          refine k_get C hw 0 (by omega) h0 rfl inlX8 5 (by decide) q_32 rfl dX8_restore_51 ?_
          refine lv_iload_n C.1 C.2.1 dX8_restore_54 rfl (lv_at hl 1 rfl) ?_
          refine k_qald (v := .ref (b + 96)) C hw 42 (by omega) h42 (by omega) (by decide) (by rw [hmk]; rfl) dX8_restore_55 ?_
          refine k_vv C hw 22 (by omega) h22 rfl (c_X0_copyFrom_22_96 (by omega) h22 h23 h24 h25 h26 h27 h28 h29 h30 h31 h32 h96 h97 h98 h99 h100 h101 h102 h103 h104 h105 h106  (hs) (ht)) kv_X8_229 rfl hl.1 ⟨Nat.le_of_ble_eq_true rfl, Nat.le_of_ble_eq_true rfl⟩ (Nat.le_of_ble_eq_true rfl) ⟨Nat.le_of_ble_eq_true rfl, Nat.le_of_ble_eq_true rfl⟩ dX8_restore_56 (fun M_1 n9 H locs hp hw => ?_)
          obtain ⟨en9, hF, h24, h25, h26, h27, h28, h29, h30, h31, h32⟩ := hp
          have en9 : n9 = n := en9
          rw [en9] at hw
          have h0 := (hF 0 (by decide)).trans h0
          have h1 := (hF 1 (by decide)).trans h1
          have h2 := (hF 2 (by decide)).trans h2
          have h3 := (hF 3 (by decide)).trans h3
          have h4 := (hF 4 (by decide)).trans h4
          have h6 := (hF 6 (by decide)).trans h6
          have h7 := (hF 7 (by decide)).trans h7
          have h22 := (hF 22 (by decide)).trans h22
          have h23 := (hF 23 (by decide)).trans h23
          have h33 := (hF 33 (by decide)).trans h33
          have h37 := (hF 37 (by decide)).trans h37
          have h42 := (hF 42 (by decide)).trans h42
          have h96 := (hF 96 (by decide)).trans h96
          have h97 := (hF 97 (by decide)).trans h97
          have h98 := (hF 98 (by decide)).trans h98
          have h99 := (hF 99 (by decide)).trans h99
          have h100 := (hF 100 (by decide)).trans h100
          have h101 := (hF 101 (by decide)).trans h101
          have h102 := (hF 102 (by decide)).trans h102
          have h103 := (hF 103 (by decide)).trans h103
          have h104 := (hF 104 (by decide)).trans h104
          have h105 := (hF 105 (by decide)).trans h105
          have h106 := (hF 106 (by decide)).trans h106
          have hFF := kF_st hFF hF (by first | decide | simp)
          refine lv_aload_n C.1 C.2.1 dX8_restore_59 rfl (lv_at hl 0 rfl) ?_
          refine k_get C hw 0 (by omega) h0 rfl inlX8 1 (by decide) q_19 rfl dX8_restore_60 ?_
          refine lv_aload_n C.1 C.2.1 dX8_restore_63 rfl (lv_at hl 0 rfl) ?_
          refine k_get C hw 0 (by omega) h0 rfl inlX8 0 (by decide) q_15 rfl dX8_restore_64 ?_
          refine k_get C hw 1 (by omega) h1 rfl inlX3 0 (by decide) q_306 rfl dX8_restore_67 ?_
          refine lv_iload_n C.1 C.2.1 dX8_restore_70 rfl (lv_at hl 2 rfl) ?_
          refine k_topi (y := nI m1) (em) ?_
          refine k_vv C hw 6 (by omega) h6 rfl (c_X4_layEven (by omega) h6 h7  (hG) (hm0) (by omega)) kv_X8_143 rfl hl.1 ⟨Nat.le_of_ble_eq_true rfl, Nat.le_of_ble_eq_true rfl⟩ (Nat.le_of_ble_eq_true rfl) ⟨Nat.le_of_ble_eq_true rfl, Nat.le_of_ble_eq_true rfl⟩ dX8_restore_71 (fun M_2 n9 H locs hp hw => ?_)
          obtain ⟨en9, hF, h7⟩ := hp
          have en9 : n9 = n := en9
          rw [en9] at hw
          have h0 := (hF 0 (by decide)).trans h0
          have h1 := (hF 1 (by decide)).trans h1
          have h2 := (hF 2 (by decide)).trans h2
          have h3 := (hF 3 (by decide)).trans h3
          have h4 := (hF 4 (by decide)).trans h4
          have h6 := (hF 6 (by decide)).trans h6
          have h22 := (hF 22 (by decide)).trans h22
          have h23 := (hF 23 (by decide)).trans h23
          have h24 := (hF 24 (by decide)).trans h24
          have h25 := (hF 25 (by decide)).trans h25
          have h26 := (hF 26 (by decide)).trans h26
          have h27 := (hF 27 (by decide)).trans h27
          have h28 := (hF 28 (by decide)).trans h28
          have h29 := (hF 29 (by decide)).trans h29
          have h30 := (hF 30 (by decide)).trans h30
          have h31 := (hF 31 (by decide)).trans h31
          have h32 := (hF 32 (by decide)).trans h32
          have h33 := (hF 33 (by decide)).trans h33
          have h37 := (hF 37 (by decide)).trans h37
          have h42 := (hF 42 (by decide)).trans h42
          have h96 := (hF 96 (by decide)).trans h96
          have h97 := (hF 97 (by decide)).trans h97
          have h98 := (hF 98 (by decide)).trans h98
          have h99 := (hF 99 (by decide)).trans h99
          have h100 := (hF 100 (by decide)).trans h100
          have h101 := (hF 101 (by decide)).trans h101
          have h102 := (hF 102 (by decide)).trans h102
          have h103 := (hF 103 (by decide)).trans h103
          have h104 := (hF 104 (by decide)).trans h104
          have h105 := (hF 105 (by decide)).trans h105
          have h106 := (hF 106 (by decide)).trans h106
          have hFF := kF_st hFF hF (by first | decide | simp)
          refine lv_aload_n C.1 C.2.1 dX8_restore_74 rfl (lv_at hl 0 rfl) ?_
          refine k_get C hw 0 (by omega) h0 rfl inlX8 0 (by decide) q_15 rfl dX8_restore_75 ?_
          refine lv_aload_n C.1 C.2.1 dX8_restore_78 rfl (lv_at hl 0 rfl) ?_
          refine k_get C hw 0 (by omega) h0 rfl inlX8 1 (by decide) q_19 rfl dX8_restore_79 ?_
          refine k_get C hw 6 (by omega) h6 rfl inlX4 0 (by decide) q_307 rfl dX8_restore_82 ?_
          refine lv_iload_n C.1 C.2.1 dX8_restore_85 rfl (lv_at hl 2 rfl) ?_
          refine k_topi (y := nI m1) (em) ?_
          refine k_vv C hw 1 (by omega) h1 rfl (c_X3_startAnew (by omega) h1 h2 h3 h4 h7  (hG0) (hG)) kv_X8_233 rfl hl.1 ⟨Nat.le_of_ble_eq_true rfl, Nat.le_of_ble_eq_true rfl⟩ (Nat.le_of_ble_eq_true rfl) ⟨Nat.le_of_ble_eq_true rfl, Nat.le_of_ble_eq_true rfl⟩ dX8_restore_86 (fun M_3 n9 H locs hp hw => ?_)
          obtain ⟨en9, hF, h1, h2, h3, h4⟩ := hp
          have en9 : n9 = n := en9
          rw [en9] at hw
          have h0 := (hF 0 (by decide)).trans h0
          have h6 := (hF 6 (by decide)).trans h6
          have h7 := (hF 7 (by decide)).trans h7
          have h22 := (hF 22 (by decide)).trans h22
          have h23 := (hF 23 (by decide)).trans h23
          have h24 := (hF 24 (by decide)).trans h24
          have h25 := (hF 25 (by decide)).trans h25
          have h26 := (hF 26 (by decide)).trans h26
          have h27 := (hF 27 (by decide)).trans h27
          have h28 := (hF 28 (by decide)).trans h28
          have h29 := (hF 29 (by decide)).trans h29
          have h30 := (hF 30 (by decide)).trans h30
          have h31 := (hF 31 (by decide)).trans h31
          have h32 := (hF 32 (by decide)).trans h32
          have h33 := (hF 33 (by decide)).trans h33
          have h37 := (hF 37 (by decide)).trans h37
          have h42 := (hF 42 (by decide)).trans h42
          have h96 := (hF 96 (by decide)).trans h96
          have h97 := (hF 97 (by decide)).trans h97
          have h98 := (hF 98 (by decide)).trans h98
          have h99 := (hF 99 (by decide)).trans h99
          have h100 := (hF 100 (by decide)).trans h100
          have h101 := (hF 101 (by decide)).trans h101
          have h102 := (hF 102 (by decide)).trans h102
          have h103 := (hF 103 (by decide)).trans h103
          have h104 := (hF 104 (by decide)).trans h104
          have h105 := (hF 105 (by decide)).trans h105
          have h106 := (hF 106 (by decide)).trans h106
          have hFF := kF_st hFF hF (by first | decide | simp)
          refine lv_aload_n C.1 C.2.1 dX8_restore_89 rfl (lv_at hl 0 rfl) ?_
          refine k_get C hw 0 (by omega) h0 rfl inlX8 3 (by decide) q_27 rfl dX8_restore_90 ?_
          refine lv_iconst (v := nI 0) C.1 C.2.1 dX8_restore_93 (by decide) ?_
          refine k_put (tf := .int) C hw 33 (by omega) h33 rfl inlX2 tyX2 tyX2_ok nmX2 3 (by decide) q_558 rfl (by decide +kernel) rfl rfl (Nat.le_of_ble_eq_true rfl) dX8_restore_94 (fun M_4 H locs hw h33 hF => ?_)
          have h33 : M_4 33 = .inr (2, [.ref (b + 34), .ref (b + 35), .ref (b + 36), .int (nI 0)]) := h33
          have h0 := (hF 0 (by decide)).trans h0
          have h1 := (hF 1 (by decide)).trans h1
          have h2 := (hF 2 (by decide)).trans h2
          have h3 := (hF 3 (by decide)).trans h3
          have h4 := (hF 4 (by decide)).trans h4
          have h6 := (hF 6 (by decide)).trans h6
          have h7 := (hF 7 (by decide)).trans h7
          have h22 := (hF 22 (by decide)).trans h22
          have h23 := (hF 23 (by decide)).trans h23
          have h24 := (hF 24 (by decide)).trans h24
          have h25 := (hF 25 (by decide)).trans h25
          have h26 := (hF 26 (by decide)).trans h26
          have h27 := (hF 27 (by decide)).trans h27
          have h28 := (hF 28 (by decide)).trans h28
          have h29 := (hF 29 (by decide)).trans h29
          have h30 := (hF 30 (by decide)).trans h30
          have h31 := (hF 31 (by decide)).trans h31
          have h32 := (hF 32 (by decide)).trans h32
          have h37 := (hF 37 (by decide)).trans h37
          have h42 := (hF 42 (by decide)).trans h42
          have h96 := (hF 96 (by decide)).trans h96
          have h97 := (hF 97 (by decide)).trans h97
          have h98 := (hF 98 (by decide)).trans h98
          have h99 := (hF 99 (by decide)).trans h99
          have h100 := (hF 100 (by decide)).trans h100
          have h101 := (hF 101 (by decide)).trans h101
          have h102 := (hF 102 (by decide)).trans h102
          have h103 := (hF 103 (by decide)).trans h103
          have h104 := (hF 104 (by decide)).trans h104
          have h105 := (hF 105 (by decide)).trans h105
          have h106 := (hF 106 (by decide)).trans h106
          have hFF := kF_st hFF hF (by first | decide | simp)
          refine lv_aload_n C.1 C.2.1 dX8_restore_97 rfl (lv_at hl 0 rfl) ?_
          refine k_get C hw 0 (by omega) h0 rfl inlX8 4 (by decide) q_31 rfl dX8_restore_98 ?_
          refine lv_iconst (v := nI 0) C.1 C.2.1 dX8_restore_101 (by decide) ?_
          refine k_put (tf := .int) C hw 37 (by omega) h37 rfl inlX1 tyX1 tyX1_ok nmX1 5 (by decide) q_573 rfl (by decide +kernel) rfl rfl (Nat.le_of_ble_eq_true rfl) dX8_restore_102 (fun M_5 H locs hw h37 hF => ?_)
          have h37 : M_5 37 = .inr (1, [.ref (b + 38), .ref (b + 39), .ref (b + 40), .ref (b + 41), .int (nI lx), .int (nI 0)]) := h37
          have h0 := (hF 0 (by decide)).trans h0
          have h1 := (hF 1 (by decide)).trans h1
          have h2 := (hF 2 (by decide)).trans h2
          have h3 := (hF 3 (by decide)).trans h3
          have h4 := (hF 4 (by decide)).trans h4
          have h6 := (hF 6 (by decide)).trans h6
          have h7 := (hF 7 (by decide)).trans h7
          have h22 := (hF 22 (by decide)).trans h22
          have h23 := (hF 23 (by decide)).trans h23
          have h24 := (hF 24 (by decide)).trans h24
          have h25 := (hF 25 (by decide)).trans h25
          have h26 := (hF 26 (by decide)).trans h26
          have h27 := (hF 27 (by decide)).trans h27
          have h28 := (hF 28 (by decide)).trans h28
          have h29 := (hF 29 (by decide)).trans h29
          have h30 := (hF 30 (by decide)).trans h30
          have h31 := (hF 31 (by decide)).trans h31
          have h32 := (hF 32 (by decide)).trans h32
          have h33 := (hF 33 (by decide)).trans h33
          have h42 := (hF 42 (by decide)).trans h42
          have h96 := (hF 96 (by decide)).trans h96
          have h97 := (hF 97 (by decide)).trans h97
          have h98 := (hF 98 (by decide)).trans h98
          have h99 := (hF 99 (by decide)).trans h99
          have h100 := (hF 100 (by decide)).trans h100
          have h101 := (hF 101 (by decide)).trans h101
          have h102 := (hF 102 (by decide)).trans h102
          have h103 := (hF 103 (by decide)).trans h103
          have h104 := (hF 104 (by decide)).trans h104
          have h105 := (hF 105 (by decide)).trans h105
          have h106 := (hF 106 (by decide)).trans h106
          have hFF := kF_st hFF hF (by first | decide | simp)
          refine lv_aload_n C.1 C.2.1 dX8_restore_105 rfl (lv_at hl 0 rfl) ?_
          refine k_get C hw 0 (by omega) h0 rfl inlX8 2 (by decide) q_23 rfl dX8_restore_106 ?_
          refine k_get C hw 22 (by omega) h22 rfl inlX0 1 (by decide) q_177 rfl dX8_restore_109 ?_
          refine k_get C hw 26 (by omega) h26 rfl inlX5 3 (by decide) q_266 rfl dX8_restore_112 ?_
          rw [← ekn] at h1 h2 h7
          exact hret _ _ (Nat.le_of_ble_eq_true rfl) (Nat.le_of_ble_eq_true rfl) hw (⟨rfl, Or.inr (Or.inr (⟨⟨Int32.not_lt.mpr c26, Int32.not_lt.mpr c40⟩, rfl, hFF, h1, h2, h3, h4, h7, h24, h25, h26, h27, h28, h29, h30, h31, h32, h33, h37⟩))⟩) dX8_restore_115
        · refine lv_bipush (v := (-105)) C.1 C.2.1 dX8_restore_43 (by decide) ?_
          exact hret _ _ (Nat.le_of_ble_eq_true rfl) (Nat.le_of_ble_eq_true rfl) hw (⟨rfl, Or.inr (Or.inl ⟨⟨Int32.not_lt.mpr c26, Int32.not_le.mp c40⟩, rfl, rfl⟩)⟩) dX8_restore_45
      · refine lv_bipush (v := (-102)) C.1 C.2.1 dX8_restore_29 (by decide) ?_
        exact hret _ _ (Nat.le_of_ble_eq_true rfl) (Nat.le_of_ble_eq_true rfl) hw (⟨rfl, Or.inl ⟨Int32.not_le.mp c26, rfl, rfl⟩⟩) dX8_restore_31

set_option maxHeartbeats 4000000 in
set_option maxRecDepth 100000 in
theorem c_X8_scale {l : Launch} {D : va_G} {cI cJ cZ cH cR : ClassId} {b : Nat} {n : Nat} {M : Nat → va_E}  {mm : Nat} {sl : Int32} {G : Nat} {mo : Nat} {ta : Nat} {sc : Int32} {mv : Nat} {ow : Nat → Int32} {ep : Nat → Int32} {we : Nat → Int32} {mg : Nat → Int32} {po : Nat → Int32} {be : Nat → Int32} {tn rl : Int32} {s_ : Nat} {w : Nat → Nat} {eo : Nat → Nat → Int32} (hn : 10 ≤ n) (h0 : M 0 = .inr (8, [.ref (b + 1), .ref (b + 6), .ref (b + 22), .ref (b + 33), .ref (b + 37), .ref (b + 42), .int (nI mm), .int sl])) (h1 : M 1 = .inr (3, [.int (nI G), .int (nI mo), .int (nI ta), .int sc, .int (nI mv), .ref (b + 2), .ref (b + 3), .ref (b + 4), .ref (b + 5)])) (h2 : M 2 = .inl (cI, 32, .inl ow)) (h3 : M 3 = .inl (cI, 32, .inl ep)) (h4 : M 4 = .inl (cI, 32, .inl we)) (h5 : M 5 = .inl (cI, 32, .inl mg)) (h6 : M 6 = .inr (4, [.ref (b + 7), .ref (b + 8), .ref (b + 9)])) (h7 : M 7 = .inl (cI, 32, .inl po)) (h8 : M 8 = .inl (cI, 33, .inl be)) (h9 : M 9 = .inl (cR, 12, .inr (.inr (.inr (.inr (fun i => if i < 12 then some (b + 9 + 1 + i) else none)))))) (hE : ∀ i, i < 12 → M (10 + i) = .inl (cI, 33, .inl (eo i))) (hG0 : 0 < G) (hG : G ≤ 32) (hn22 : 22 ≤ n) (hmo : mo ≤ 12) (hs_ : s_ ≤ 100) (hsl : sl = nI s_) (hw9 : ∀ g, g < G → we g = nI (w g)) (hsum : sN w G ≤ 1000) : Met l yX8_scale (kw yX8_scale cX8_scale 3 (some .int)) ({ frames := 4, cells := 0, slots := 0, locals := 99 }) (va_Pc [.ref (b + 0), .int tn, .int rl] (kPre D (kT cI cJ cZ cH cR) b M n)) (va_Qi (fun (r : Int32) (u : (Nat → va_E) × Nat) => u.2 = n ∧ kF [1, 2, 3, 4, 5, 7, 8, 10, 11, 12, 13, 14, 15, 16, 17, 18, 19, 20, 21] M u.1 ∧ (∃ px : Nat → Int32, u.1 7 = .inl (cI, 32, .inl px)) ∧ (∃ bx : Nat → Int32, u.1 8 = .inl (cI, 33, .inl bx)) ∧ (∃ eo2 : Nat → Nat → Int32, ∀ i, i < 12 → u.1 (10 + i) = .inl (cI, 33, .inl (eo2 i))) ∧ ((¬ (¬ tn < nI 1 ∧ ¬ rl < 0 ∧ rl ≤ nI 1) ∧ r = -102 ∧ kF [] M u.1) ∨ ((¬ tn < nI 1 ∧ ¬ rl < 0 ∧ rl ≤ nI 1) ∧ nI mo < tn ∧ r = -105 ∧ kF [] M u.1) ∨ ((¬ tn < nI 1 ∧ ¬ rl < 0 ∧ rl ≤ nI 1) ∧ ¬ nI mo < tn ∧ rl = 0 ∧ r = nI (cnt (fun g => !(ow g == (lay po (evF G (kn tn)) (kn tn)) g)) G) ∧ u.1 1 = .inr (3, [.int (nI G), .int (nI mo), .int (nI (kn tn)), .int (sc + nI 1), .int (nI (cnt (fun g => !(ow g == (lay po (evF G (kn tn)) (kn tn)) g)) G)), .ref (b + 2), .ref (b + 3), .ref (b + 4), .ref (b + 5)]) ∧ u.1 2 = .inl (cI, 32, .inl (pfx (lay po (evF G (kn tn)) (kn tn)) ow G)) ∧ u.1 3 = .inl (cI, 32, .inl (pfx (fun g => if ow g = (lay po (evF G (kn tn)) (kn tn)) g then ep g else ep g + nI 1) ep G)) ∧ u.1 4 = .inl (cI, 32, .inl (pfx (fun g => we g / nI 2) we G)) ∧ u.1 5 = .inl (cI, 32, .inl (col (fun g => !(ow g == (lay po (evF G (kn tn)) (kn tn)) g)) mg G))) ∨ ((¬ tn < nI 1 ∧ ¬ rl < 0 ∧ rl ≤ nI 1) ∧ ¬ nI mo < tn ∧ ¬ rl = 0 ∧ ¬ (dpv w ow (lmN (sN w G) s_ (kn tn)) G (kn tn) (kn tn) 0) < 1000000 ∧ r = -106 ∧ kF [7, 8, 10, 11, 12, 13, 14, 15, 16, 17, 18, 19, 20, 21] M u.1) ∨ ((¬ tn < nI 1 ∧ ¬ rl < 0 ∧ rl ≤ nI 1) ∧ ¬ nI mo < tn ∧ ¬ rl = 0 ∧ (dpv w ow (lmN (sN w G) s_ (kn tn)) G (kn tn) (kn tn) 0) < 1000000 ∧ r = nI (cnt (fun g => !(ow g == (lay po (dpf w ow (lmN (sN w G) s_ (kn tn)) G (kn tn)) (kn tn)) g)) G) ∧ u.1 1 = .inr (3, [.int (nI G), .int (nI mo), .int (nI (kn tn)), .int (sc + nI 1), .int (nI (cnt (fun g => !(ow g == (lay po (dpf w ow (lmN (sN w G) s_ (kn tn)) G (kn tn)) (kn tn)) g)) G)), .ref (b + 2), .ref (b + 3), .ref (b + 4), .ref (b + 5)]) ∧ u.1 2 = .inl (cI, 32, .inl (pfx (lay po (dpf w ow (lmN (sN w G) s_ (kn tn)) G (kn tn)) (kn tn)) ow G)) ∧ u.1 3 = .inl (cI, 32, .inl (pfx (fun g => if ow g = (lay po (dpf w ow (lmN (sN w G) s_ (kn tn)) G (kn tn)) (kn tn)) g then ep g else ep g + nI 1) ep G)) ∧ u.1 4 = .inl (cI, 32, .inl (pfx (fun g => we g / nI 2) we G)) ∧ u.1 5 = .inl (cI, 32, .inl (col (fun g => !(ow g == (lay po (dpf w ow (lmN (sN w G) s_ (kn tn)) G (kn tn)) (kn tn)) g)) mg G))))) (kB D (kT cI cJ cZ cH cR) b) (kA b)) 0 0 (kA b) := by
  refine k_metI (by decide +kernel) (Nat.le_of_ble_eq_true rfl) ?_
  intro p e s m below meth c ls Q C hw hret hnm hl
  have hl : lv_has ls 3 [(0, .ref (b + 0)), (1, .int tn), (2, .int rl)] := hl
  have hFF : kF [1, 2, 3, 4, 5, 7, 8, 10, 11, 12, 13, 14, 15, 16, 17, 18, 19, 20, 21] M M := kF_rf
  refine lv_iload_n C.1 C.2.1 dX8_scale_0 rfl (lv_at hl 1 rfl) ?_
  refine lv_iconst (v := nI 1) C.1 C.2.1 dX8_scale_1 (by decide) ?_
  refine lv_icmp_lt (tgt := 14) C.1 C.2.1 dX8_scale_2 (by decide) (fun c2 => ?_) (fun c2 => ?_)
  · refine lv_bipush (v := (-102)) C.1 C.2.1 dX8_scale_14 (by decide) ?_
    exact hret _ _ (Nat.le_of_ble_eq_true rfl) (Nat.le_of_ble_eq_true rfl) hw (⟨rfl, kF_rf, ⟨_, h7⟩, ⟨_, h8⟩, ⟨_, hE⟩, Or.inl ⟨fun z => z.1 c2, rfl, kF_rf⟩⟩) dX8_scale_16
  · refine lv_iload_n C.1 C.2.1 dX8_scale_5 rfl (lv_at hl 2 rfl) ?_
    refine lv_if_lt (tgt := 14) C.1 C.2.1 dX8_scale_6 (by decide) (fun c6 => ?_) (fun c6 => ?_)
    · refine lv_bipush (v := (-102)) C.1 C.2.1 dX8_scale_14 (by decide) ?_
      exact hret _ _ (Nat.le_of_ble_eq_true rfl) (Nat.le_of_ble_eq_true rfl) hw (⟨rfl, kF_rf, ⟨_, h7⟩, ⟨_, h8⟩, ⟨_, hE⟩, Or.inl ⟨fun z => z.2.1 c6, rfl, kF_rf⟩⟩) dX8_scale_16
    · refine lv_iload_n C.1 C.2.1 dX8_scale_9 rfl (lv_at hl 2 rfl) ?_
      refine lv_iconst (v := nI 1) C.1 C.2.1 dX8_scale_10 (by decide) ?_
      refine lv_icmp_le (tgt := 17) C.1 C.2.1 dX8_scale_11 (by decide) (fun c11 => ?_) (fun c11 => ?_)
      · refine lv_iload_n C.1 C.2.1 dX8_scale_17 rfl (lv_at hl 1 rfl) ?_
        refine lv_aload_n C.1 C.2.1 dX8_scale_18 rfl (lv_at hl 0 rfl) ?_
        refine k_get C hw 0 (by omega) h0 rfl inlX8 0 (by decide) q_15 rfl dX8_scale_19 ?_
        refine k_get C hw 1 (by omega) h1 rfl inlX3 1 (by decide) q_305 rfl dX8_scale_22 ?_
        refine lv_icmp_le (tgt := 31) C.1 C.2.1 dX8_scale_25 (by decide) (fun c25 => ?_) (fun c25 => ?_)
        · obtain ⟨m1, hm0, hm1, em, ekn⟩ := tn_nI hmo (Int32.not_lt.mp c2) c25
          refine lv_iload_n C.1 C.2.1 dX8_scale_31 rfl (lv_at hl 2 rfl) ?_
          refine lv_if_ne (tgt := 53) C.1 C.2.1 dX8_scale_32 (by decide) (fun c32 => ?_) (fun c32 => ?_)
          · refine lv_aload_n C.1 C.2.1 dX8_scale_53 rfl (lv_at hl 0 rfl) ?_
            refine k_get C hw 0 (by omega) h0 rfl inlX8 1 (by decide) q_19 rfl dX8_scale_54 ?_
            refine lv_aload_n C.1 C.2.1 dX8_scale_57 rfl (lv_at hl 0 rfl) ?_
            refine k_get C hw 0 (by omega) h0 rfl inlX8 0 (by decide) q_15 rfl dX8_scale_58 ?_
            refine lv_iload_n C.1 C.2.1 dX8_scale_61 rfl (lv_at hl 1 rfl) ?_
            refine k_topi (y := nI m1) (em) ?_
            refine lv_aload_n C.1 C.2.1 dX8_scale_62 rfl (lv_at hl 0 rfl) ?_
            refine k_get C hw 0 (by omega) h0 rfl inlX8 7 (by decide) q_33 rfl dX8_scale_63 ?_
            refine k_vi C hw 6 (by omega) h6 rfl (c_X4_layLeast (k := m1) (s_ := s_) (w := w) (sl := sl) (by omega) h1 h2 h4 h6 h7 h8 h9 hE hG0 hG hn22 hm0 (by omega) hs_ hsl hw9 hsum) kv_X8_146 rfl hl.1 ⟨Nat.le_of_ble_eq_true rfl, Nat.le_of_ble_eq_true rfl⟩ (Nat.le_of_ble_eq_true rfl) ⟨Nat.le_of_ble_eq_true rfl, Nat.le_of_ble_eq_true rfl⟩ dX8_scale_66 (fun r66 M_1 n9 H locs hp hw => ?_)
            obtain ⟨en9, hF, ⟨bx, h8⟩, ⟨eo2, hE⟩, hcase⟩ := hp
            have en9 : n9 = n := en9
            rw [en9] at hw
            have h0 := (hF 0 (by first | decide | (simp <;> omega))).trans h0
            have h1 := (hF 1 (by first | decide | (simp <;> omega))).trans h1
            have h2 := (hF 2 (by first | decide | (simp <;> omega))).trans h2
            have h3 := (hF 3 (by first | decide | (simp <;> omega))).trans h3
            have h4 := (hF 4 (by first | decide | (simp <;> omega))).trans h4
            have h5 := (hF 5 (by first | decide | (simp <;> omega))).trans h5
            have h6 := (hF 6 (by first | decide | (simp <;> omega))).trans h6
            have h9 := (hF 9 (by first | decide | (simp <;> omega))).trans h9
            have hFF := kF_st hFF hF (by decide)
            refine lv_iconst (v := (-1)) C.1 C.2.1 dX8_scale_69 (by decide) ?_
            refine lv_icmp_ne (tgt := 76) C.1 C.2.1 dX8_scale_70 (by decide) (fun c70 => ?_) (fun c70 => ?_)
            · rcases hcase with ⟨hno, er66, h7⟩ | ⟨hyes, -, h7⟩
              exact absurd er66 c70
              refine lv_aload_n C.1 C.2.1 dX8_scale_76 rfl (lv_at hl 0 rfl) ?_
              refine k_get C hw 0 (by omega) h0 rfl inlX8 0 (by decide) q_15 rfl dX8_scale_77 ?_
              refine lv_aload_n C.1 C.2.1 dX8_scale_80 rfl (lv_at hl 0 rfl) ?_
              refine k_get C hw 0 (by omega) h0 rfl inlX8 1 (by decide) q_19 rfl dX8_scale_81 ?_
              refine k_get C hw 6 (by omega) h6 rfl inlX4 0 (by decide) q_307 rfl dX8_scale_84 ?_
              refine lv_iload_n C.1 C.2.1 dX8_scale_87 rfl (lv_at hl 1 rfl) ?_
              refine k_topi (y := nI m1) (em) ?_
              refine k_vi C hw 1 (by omega) h1 rfl (c_X3_follow (by omega) h1 h2 h3 h4 h5 h7  (hG0) (hG)) kv_X8_151 rfl hl.1 ⟨Nat.le_of_ble_eq_true rfl, Nat.le_of_ble_eq_true rfl⟩ (Nat.le_of_ble_eq_true rfl) ⟨Nat.le_of_ble_eq_true rfl, Nat.le_of_ble_eq_true rfl⟩ dX8_scale_88 (fun rr M_2 n9 H locs hp hw => ?_)
              obtain ⟨err, en9, hF, h1, h2, h3, h4, h5⟩ := hp
              have en9 : n9 = n := en9
              rw [en9] at hw
              have h0 := (hF 0 (by first | decide | (simp <;> omega))).trans h0
              have h6 := (hF 6 (by first | decide | (simp <;> omega))).trans h6
              have h7 := (hF 7 (by first | decide | (simp <;> omega))).trans h7
              have h8 := (hF 8 (by first | decide | (simp <;> omega))).trans h8
              have h9 := (hF 9 (by first | decide | (simp <;> omega))).trans h9
              have hE := fun i hi => (hF _ (by simp <;> omega)).trans (hE i hi)
              have hFF := kF_st hFF hF (by first | decide | simp)
              rw [← ekn] at err h1 h2 h3 h5 h7 hyes
              exact hret _ _ (Nat.le_of_ble_eq_true rfl) (Nat.le_of_ble_eq_true rfl) hw (⟨rfl, hFF, ⟨_, h7⟩, ⟨_, h8⟩, ⟨_, hE⟩, Or.inr (Or.inr (Or.inr (Or.inr ⟨⟨c2, c6, c11⟩, Int32.not_lt.mpr c25, c32, hyes, err, h1, h2, h3, h4, h5⟩)))⟩) dX8_scale_91
            · rcases hcase with ⟨hno, -, h7⟩ | ⟨hyes, er66, h7⟩
              rotate_left
              exact absurd c70 (by rw [er66]; exact nI_nm1 (by omega))
              refine lv_bipush (v := (-106)) C.1 C.2.1 dX8_scale_73 (by decide) ?_
              rw [← ekn] at hno
              exact hret _ _ (Nat.le_of_ble_eq_true rfl) (Nat.le_of_ble_eq_true rfl) hw (⟨rfl, hFF, ⟨_, h7⟩, ⟨_, h8⟩, ⟨_, hE⟩, Or.inr (Or.inr (Or.inr (Or.inl ⟨⟨c2, c6, c11⟩, Int32.not_lt.mpr c25, c32, hno, rfl, hF⟩)))⟩) dX8_scale_75
          · refine lv_aload_n C.1 C.2.1 dX8_scale_35 rfl (lv_at hl 0 rfl) ?_
            refine k_get C hw 0 (by omega) h0 rfl inlX8 1 (by decide) q_19 rfl dX8_scale_36 ?_
            refine lv_aload_n C.1 C.2.1 dX8_scale_39 rfl (lv_at hl 0 rfl) ?_
            refine k_get C hw 0 (by omega) h0 rfl inlX8 0 (by decide) q_15 rfl dX8_scale_40 ?_
            refine k_get C hw 1 (by omega) h1 rfl inlX3 0 (by decide) q_306 rfl dX8_scale_43 ?_
            refine lv_iload_n C.1 C.2.1 dX8_scale_46 rfl (lv_at hl 1 rfl) ?_
            refine k_topi (y := nI m1) (em) ?_
            refine k_vv C hw 6 (by omega) h6 rfl (c_X4_layEven (by omega) h6 h7  (hG) (hm0) (by omega)) kv_X8_143 rfl hl.1 ⟨Nat.le_of_ble_eq_true rfl, Nat.le_of_ble_eq_true rfl⟩ (Nat.le_of_ble_eq_true rfl) ⟨Nat.le_of_ble_eq_true rfl, Nat.le_of_ble_eq_true rfl⟩ dX8_scale_47 (fun M_3 n9 H locs hp hw => ?_)
            obtain ⟨en9, hF, h7⟩ := hp
            have en9 : n9 = n := en9
            rw [en9] at hw
            have h0 := (hF 0 (by first | decide | (simp <;> omega))).trans h0
            have h1 := (hF 1 (by first | decide | (simp <;> omega))).trans h1
            have h2 := (hF 2 (by first | decide | (simp <;> omega))).trans h2
            have h3 := (hF 3 (by first | decide | (simp <;> omega))).trans h3
            have h4 := (hF 4 (by first | decide | (simp <;> omega))).trans h4
            have h5 := (hF 5 (by first | decide | (simp <;> omega))).trans h5
            have h6 := (hF 6 (by first | decide | (simp <;> omega))).trans h6
            have h8 := (hF 8 (by first | decide | (simp <;> omega))).trans h8
            have h9 := (hF 9 (by first | decide | (simp <;> omega))).trans h9
            have hE := fun i hi => (hF _ (by simp <;> omega)).trans (hE i hi)
            have hFF := kF_st hFF hF (by first | decide | simp)
            refine lv_goto (tgt := 76) C.1 C.2.1 dX8_scale_50 (by decide) ?_
            refine lv_aload_n C.1 C.2.1 dX8_scale_76 rfl (lv_at hl 0 rfl) ?_
            refine k_get C hw 0 (by omega) h0 rfl inlX8 0 (by decide) q_15 rfl dX8_scale_77 ?_
            refine lv_aload_n C.1 C.2.1 dX8_scale_80 rfl (lv_at hl 0 rfl) ?_
            refine k_get C hw 0 (by omega) h0 rfl inlX8 1 (by decide) q_19 rfl dX8_scale_81 ?_
            refine k_get C hw 6 (by omega) h6 rfl inlX4 0 (by decide) q_307 rfl dX8_scale_84 ?_
            refine lv_iload_n C.1 C.2.1 dX8_scale_87 rfl (lv_at hl 1 rfl) ?_
            refine k_topi (y := nI m1) (em) ?_
            refine k_vi C hw 1 (by omega) h1 rfl (c_X3_follow (by omega) h1 h2 h3 h4 h5 h7  (hG0) (hG)) kv_X8_151 rfl hl.1 ⟨Nat.le_of_ble_eq_true rfl, Nat.le_of_ble_eq_true rfl⟩ (Nat.le_of_ble_eq_true rfl) ⟨Nat.le_of_ble_eq_true rfl, Nat.le_of_ble_eq_true rfl⟩ dX8_scale_88 (fun rr M_4 n9 H locs hp hw => ?_)
            obtain ⟨err, en9, hF, h1, h2, h3, h4, h5⟩ := hp
            have en9 : n9 = n := en9
            rw [en9] at hw
            have h0 := (hF 0 (by first | decide | (simp <;> omega))).trans h0
            have h6 := (hF 6 (by first | decide | (simp <;> omega))).trans h6
            have h7 := (hF 7 (by first | decide | (simp <;> omega))).trans h7
            have h8 := (hF 8 (by first | decide | (simp <;> omega))).trans h8
            have h9 := (hF 9 (by first | decide | (simp <;> omega))).trans h9
            have hE := fun i hi => (hF _ (by simp <;> omega)).trans (hE i hi)
            have hFF := kF_st hFF hF (by first | decide | simp)
            rw [← ekn] at err h1 h2 h3 h5 h7
            exact hret _ _ (Nat.le_of_ble_eq_true rfl) (Nat.le_of_ble_eq_true rfl) hw (⟨rfl, hFF, ⟨_, h7⟩, ⟨_, h8⟩, ⟨_, hE⟩, Or.inr (Or.inr (Or.inl ⟨⟨c2, c6, c11⟩, Int32.not_lt.mpr c25, c32, err, h1, h2, h3, h4, h5⟩))⟩) dX8_scale_91
        · refine lv_bipush (v := (-105)) C.1 C.2.1 dX8_scale_28 (by decide) ?_
          exact hret _ _ (Nat.le_of_ble_eq_true rfl) (Nat.le_of_ble_eq_true rfl) hw (⟨rfl, kF_rf, ⟨_, h7⟩, ⟨_, h8⟩, ⟨_, hE⟩, Or.inr (Or.inl ⟨⟨c2, c6, c11⟩, Int32.not_le.mp c25, rfl, kF_rf⟩)⟩) dX8_scale_30
      · refine lv_bipush (v := (-102)) C.1 C.2.1 dX8_scale_14 (by decide) ?_
        exact hret _ _ (Nat.le_of_ble_eq_true rfl) (Nat.le_of_ble_eq_true rfl) hw (⟨rfl, kF_rf, ⟨_, h7⟩, ⟨_, h8⟩, ⟨_, hE⟩, Or.inl ⟨fun z => c11 z.2.2, rfl, kF_rf⟩⟩) dX8_scale_16

set_option maxHeartbeats 4000000 in
set_option maxRecDepth 100000 in
theorem c_X8_least {l : Launch} {D : va_G} {cI cJ cZ cH cR : ClassId} {b : Nat} {n : Nat} {M : Nat → va_E}  {mm : Nat} {sl : Int32} {G : Nat} {mo : Nat} {ta : Nat} {sc : Int32} {mv : Nat} {ow : Nat → Int32} {we : Nat → Int32} {po : Nat → Int32} {be : Nat → Int32} {tn : Int32} {s_ : Nat} {w : Nat → Nat} {eo : Nat → Nat → Int32} (hn : 10 ≤ n) (h0 : M 0 = .inr (8, [.ref (b + 1), .ref (b + 6), .ref (b + 22), .ref (b + 33), .ref (b + 37), .ref (b + 42), .int (nI mm), .int sl])) (h1 : M 1 = .inr (3, [.int (nI G), .int (nI mo), .int (nI ta), .int sc, .int (nI mv), .ref (b + 2), .ref (b + 3), .ref (b + 4), .ref (b + 5)])) (h2 : M 2 = .inl (cI, 32, .inl ow)) (h4 : M 4 = .inl (cI, 32, .inl we)) (h6 : M 6 = .inr (4, [.ref (b + 7), .ref (b + 8), .ref (b + 9)])) (h7 : M 7 = .inl (cI, 32, .inl po)) (h8 : M 8 = .inl (cI, 33, .inl be)) (h9 : M 9 = .inl (cR, 12, .inr (.inr (.inr (.inr (fun i => if i < 12 then some (b + 9 + 1 + i) else none)))))) (hE : ∀ i, i < 12 → M (10 + i) = .inl (cI, 33, .inl (eo i))) (hG0 : 0 < G) (hG : G ≤ 32) (hn22 : 22 ≤ n) (hmo : mo ≤ 12) (hs_ : s_ ≤ 100) (hsl : sl = nI s_) (hw9 : ∀ g, g < G → we g = nI (w g)) (hsum : sN w G ≤ 1000) : Met l yX8_least (kw yX8_least cX8_least 3 (some .long)) ({ frames := 4, cells := 0, slots := 0, locals := 99 }) (va_Pc [.ref (b + 0), .int tn] (kPre D (kT cI cJ cZ cH cR) b M n)) (va_Ql (fun (r : Int64) (u : (Nat → va_E) × Nat) => u.2 = n ∧ kF [7, 8, 10, 11, 12, 13, 14, 15, 16, 17, 18, 19, 20, 21] M u.1 ∧ (∃ px : Nat → Int32, u.1 7 = .inl (cI, 32, .inl px)) ∧ (∃ bx : Nat → Int32, u.1 8 = .inl (cI, 33, .inl bx)) ∧ (∃ eo2 : Nat → Nat → Int32, ∀ i, i < 12 → u.1 (10 + i) = .inl (cI, 33, .inl (eo2 i))) ∧ ((¬ (¬ tn < nI 1 ∧ tn ≤ nI mo) ∧ r = -1) ∨ ((¬ tn < nI 1 ∧ tn ≤ nI mo) ∧ ¬ (dpv w ow (lmN (sN w G) s_ (kn tn)) G (kn tn) (kn tn) 0) < 1000000 ∧ r = -1) ∨ ((¬ tn < nI 1 ∧ tn ≤ nI mo) ∧ (dpv w ow (lmN (sN w G) s_ (kn tn)) G (kn tn) (kn tn) 0) < 1000000 ∧ r = lN (dpv w ow (lmN (sN w G) s_ (kn tn)) G (kn tn) (kn tn) 0)))) (kB D (kT cI cJ cZ cH cR) b) (kA b)) 0 0 (kA b) := by
  refine k_metL (by decide +kernel) (Nat.le_of_ble_eq_true rfl) ?_
  intro p e s m below meth c ls Q C hw hret hnm hl
  have hl : lv_has ls 3 [(0, .ref (b + 0)), (1, .int tn)] := hl
  have hFF : kF [7, 8, 10, 11, 12, 13, 14, 15, 16, 17, 18, 19, 20, 21] M M := kF_rf
  refine lv_iload_n C.1 C.2.1 dX8_least_0 rfl (lv_at hl 1 rfl) ?_
  refine lv_iconst (v := nI 1) C.1 C.2.1 dX8_least_1 (by decide) ?_
  refine lv_icmp_lt (tgt := 16) C.1 C.2.1 dX8_least_2 (by decide) (fun c2 => ?_) (fun c2 => ?_)
  · refine lv_ldc2 C.1 C.2.1 C.2.2.2.1 (C.2.2.2.2.1 _ q_402) dX8_least_16 ?_
    exact hret _ _ (Nat.le_of_ble_eq_true rfl) (Nat.le_of_ble_eq_true rfl) hw (⟨rfl, kF_rf, ⟨_, h7⟩, ⟨_, h8⟩, ⟨_, hE⟩, Or.inl ⟨fun z => z.1 c2, rfl⟩⟩) dX8_least_19
  · refine lv_iload_n C.1 C.2.1 dX8_least_5 rfl (lv_at hl 1 rfl) ?_
    refine lv_aload_n C.1 C.2.1 dX8_least_6 rfl (lv_at hl 0 rfl) ?_
    refine k_get C hw 0 (by omega) h0 rfl inlX8 0 (by decide) q_15 rfl dX8_least_7 ?_
    refine k_get C hw 1 (by omega) h1 rfl inlX3 1 (by decide) q_305 rfl dX8_least_10 ?_
    refine lv_icmp_le (tgt := 20) C.1 C.2.1 dX8_least_13 (by decide) (fun c13 => ?_) (fun c13 => ?_)
    · obtain ⟨m1, hm0, hm1, em, ekn⟩ := tn_nI hmo (Int32.not_lt.mp c2) c13
      refine lv_aload_n C.1 C.2.1 dX8_least_20 rfl (lv_at hl 0 rfl) ?_
      refine k_get C hw 0 (by omega) h0 rfl inlX8 1 (by decide) q_19 rfl dX8_least_21 ?_
      refine lv_aload_n C.1 C.2.1 dX8_least_24 rfl (lv_at hl 0 rfl) ?_
      refine k_get C hw 0 (by omega) h0 rfl inlX8 0 (by decide) q_15 rfl dX8_least_25 ?_
      refine lv_iload_n C.1 C.2.1 dX8_least_28 rfl (lv_at hl 1 rfl) ?_
      refine k_topi (y := nI m1) (em) ?_
      refine lv_aload_n C.1 C.2.1 dX8_least_29 rfl (lv_at hl 0 rfl) ?_
      refine k_get C hw 0 (by omega) h0 rfl inlX8 7 (by decide) q_33 rfl dX8_least_30 ?_
      refine k_vi C hw 6 (by omega) h6 rfl (c_X4_layLeast (k := m1) (s_ := s_) (w := w) (sl := sl) (by omega) h1 h2 h4 h6 h7 h8 h9 hE hG0 hG hn22 hm0 (by omega) hs_ hsl hw9 hsum) kv_X8_146 rfl hl.1 ⟨Nat.le_of_ble_eq_true rfl, Nat.le_of_ble_eq_true rfl⟩ (Nat.le_of_ble_eq_true rfl) ⟨Nat.le_of_ble_eq_true rfl, Nat.le_of_ble_eq_true rfl⟩ dX8_least_33 (fun rr M_1 n9 H locs hp hw => ?_)
      obtain ⟨en9, hF, ⟨bx, h8⟩, ⟨eo2, hE⟩, hcase⟩ := hp
      have en9 : n9 = n := en9
      rw [en9] at hw
      have h0 := (hF 0 (by first | decide | (simp <;> omega))).trans h0
      have h1 := (hF 1 (by first | decide | (simp <;> omega))).trans h1
      have h2 := (hF 2 (by first | decide | (simp <;> omega))).trans h2
      have h4 := (hF 4 (by first | decide | (simp <;> omega))).trans h4
      have h6 := (hF 6 (by first | decide | (simp <;> omega))).trans h6
      have h9 := (hF 9 (by first | decide | (simp <;> omega))).trans h9
      have hFF := kF_st hFF hF (by decide)
      have h7 : ∃ px : Nat → Int32, M_1 7 = .inl (cI, 32, .inl px) := by rcases hcase with ⟨-, -, h⟩ | ⟨-, -, h⟩ <;> exact ⟨_, h⟩
      refine lv_istore_n (lv' := [(2, .int rr), (0, .ref (b + 0)), (1, .int tn)]) C.1 C.2.1 dX8_least_36 rfl hl (by decide) rfl (fun ls hl => ?_)
      refine lv_iload_n C.1 C.2.1 dX8_least_37 rfl (lv_at hl 0 rfl) ?_
      refine lv_iconst (v := (-1)) C.1 C.2.1 dX8_least_38 (by decide) ?_
      refine lv_icmp_ne (tgt := 48) C.1 C.2.1 dX8_least_39 (by decide) (fun c39 => ?_) (fun c39 => ?_)
      · have hyes : dpv w ow (lmN (sN w G) s_ m1) G m1 m1 0 < 1000000 ∧ rr = nI (dpv w ow (lmN (sN w G) s_ m1) G m1 m1 0) := by rcases hcase with ⟨hno, er66, -⟩ | ⟨hyes, er66, -⟩; exact absurd er66 c39; exact ⟨hyes, er66⟩
        refine lv_iload_n C.1 C.2.1 dX8_least_48 rfl (lv_at hl 0 rfl) ?_
        refine k_topi (y := nI (dpv w ow (lmN (sN w G) s_ m1) G m1 m1 0)) (hyes.2) ?_
        refine lv_i2l C.1 C.2.1 dX8_least_49 rfl ?_
        refine k_topl (y := lN (dpv w ow (lmN (sN w G) s_ m1) G m1 m1 0)) (nI_l (by have := hyes.1; omega)) ?_
        rw [← ekn]; rw [← ekn] at hyes
        exact hret _ _ (Nat.le_of_ble_eq_true rfl) (Nat.le_of_ble_eq_true rfl) hw (⟨rfl, hFF, h7, ⟨_, h8⟩, ⟨_, hE⟩, Or.inr (Or.inr ⟨⟨c2, c13⟩, hyes.1, rfl⟩)⟩) dX8_least_50
      · have hno : ¬ dpv w ow (lmN (sN w G) s_ m1) G m1 m1 0 < 1000000 := by rcases hcase with ⟨hno, -, -⟩ | ⟨hyes, er66, -⟩; exact hno; exact absurd c39 (by rw [er66]; exact nI_nm1 (by omega))
        refine lv_ldc2 C.1 C.2.1 C.2.2.2.1 (C.2.2.2.2.1 _ q_402) dX8_least_42 ?_
        refine lv_goto (tgt := 50) C.1 C.2.1 dX8_least_45 (by decide) ?_
        rw [← ekn] at hno
        exact hret _ _ (Nat.le_of_ble_eq_true rfl) (Nat.le_of_ble_eq_true rfl) hw (⟨rfl, hFF, h7, ⟨_, h8⟩, ⟨_, hE⟩, Or.inr (Or.inl ⟨⟨c2, c13⟩, hno, rfl⟩)⟩) dX8_least_50
    · refine lv_ldc2 C.1 C.2.1 C.2.2.2.1 (C.2.2.2.2.1 _ q_402) dX8_least_16 ?_
      exact hret _ _ (Nat.le_of_ble_eq_true rfl) (Nat.le_of_ble_eq_true rfl) hw (⟨rfl, kF_rf, ⟨_, h7⟩, ⟨_, h8⟩, ⟨_, hE⟩, Or.inl ⟨fun z => c13 z.2, rfl⟩⟩) dX8_least_19

set_option maxHeartbeats 4000000 in
set_option maxRecDepth 100000 in
theorem c_X8_init {l : Launch} {D : va_G} {cI cJ cZ cH cR : ClassId} {b : Nat} {M : Nat → va_E}     (h0 : M 0 = .inr (8, [.null, .null, .null, .null, .null, .null, .int 0, .int 0]))   : Met l yX8_init (kw yX8_init cX8_init 1 none) ({ frames := 4, cells := 42, slots := 3448, locals := 85 }) (va_Pc [.ref (b + 0)] (kPre D (kT cI cJ cZ cH cR) b M 1)) (va_Qv (fun (u : (Nat → va_E) × Nat) => u.2 = 43 ∧ kF [0, 1, 2, 3, 4, 5, 6, 7, 8, 9, 10, 11, 12, 13, 14, 15, 16, 17, 18, 19, 20, 21, 22, 23, 24, 25, 26, 27, 28, 29, 30, 31, 32, 33, 34, 35, 36, 37, 38, 39, 40, 41, 42] M u.1 ∧ u.1 0 = .inr (8, [.ref (b + 1), .ref (b + 6), .ref (b + 22), .ref (b + 33), .ref (b + 37), .ref (b + 42), .int 0, .int (nI 20)]) ∧ u.1 1 = .inr (3, [.int (nI 8), .int (nI 4), .int (nI 1), .int (nI 0), .int (nI 0), .ref (b + 2), .ref (b + 3), .ref (b + 4), .ref (b + 5)]) ∧ u.1 2 = .inl (cI, 32, .inl (fun _ => 0)) ∧ u.1 3 = .inl (cI, 32, .inl (fun _ => 1)) ∧ u.1 4 = .inl (cI, 32, .inl (fun _ => 0)) ∧ u.1 5 = .inl (cI, 32, .inl (fun _ => 0)) ∧ u.1 6 = .inr (4, [.ref (b + 7), .ref (b + 8), .ref (b + 9)]) ∧ u.1 7 = .inl (cI, 32, .inl (fun _ => 0)) ∧ u.1 8 = .inl (cI, 33, .inl (fun _ => 0)) ∧ u.1 9 = .inl (cR, 12, .inr (.inr (.inr (.inr (fun i => if i < 12 then some (b + 9 + 1 + i) else none))))) ∧ u.1 22 = .inr (0, [.ref (b + 23), .ref (b + 26), .ref (b + 30)]) ∧ u.1 23 = .inr (6, [.ref (b + 24), .ref (b + 25)]) ∧ u.1 24 = .inl (cI, 100, .inl (fun _ => 0)) ∧ u.1 25 = .inl (cJ, 100, .inr (.inl (fun _ => 0))) ∧ u.1 26 = .inr (5, [.ref (b + 27), .ref (b + 28), .ref (b + 29), .int (nI 0), .int (nI 0)]) ∧ u.1 27 = .inl (cI, 400, .inl (fun _ => 0)) ∧ u.1 28 = .inl (cI, 400, .inl (fun _ => 0)) ∧ u.1 29 = .inl (cI, 400, .inl (fun _ => 0)) ∧ u.1 30 = .inr (7, [.ref (b + 31), .ref (b + 32), .int (nI 0), .int (0)]) ∧ u.1 31 = .inl (cI, 40, .inl (fun _ => 0)) ∧ u.1 32 = .inl (cI, 40, .inl (fun _ => 0)) ∧ u.1 33 = .inr (2, [.ref (b + 34), .ref (b + 35), .ref (b + 36), .int (nI 0)]) ∧ u.1 34 = .inl (cI, 400, .inl (fun _ => 0)) ∧ u.1 35 = .inl (cI, 400, .inl (fun _ => 0)) ∧ u.1 36 = .inl (cJ, 400, .inr (.inl (fun _ => 0))) ∧ u.1 37 = .inr (1, [.ref (b + 38), .ref (b + 39), .ref (b + 40), .ref (b + 41), .int (nI 0), .int (nI 0)]) ∧ u.1 38 = .inl (cI, 32, .inl (fun _ => 0)) ∧ u.1 39 = .inl (cI, 32, .inl (fun _ => 0)) ∧ u.1 40 = .inl (cI, 32, .inl (fun _ => 0)) ∧ u.1 41 = .inl (cJ, 32, .inr (.inl (fun _ => 0))) ∧ u.1 42 = .inl (cH, 3, .inr (.inr (.inr (.inr (fun _ => none))))) ∧ (∀ i, i < 12 → u.1 (10 + i) = .inl (cI, 33, .inl (fun _ => 0)))) (kB D (kT cI cJ cZ cH cR) b) (kA b)) 42 3448 (kA b) := by
  refine k_metV (by decide +kernel) (Nat.le_of_ble_eq_true rfl) ?_
  intro p e s m below meth c ls Q C hw hret hnm hl
  have hl : lv_has ls 1 [(0, .ref (b + 0))] := hl
  have hFF : kF [0, 1, 2, 3, 4, 5, 6, 7, 8, 9, 10, 11, 12, 13, 14, 15, 16, 17, 18, 19, 20, 21, 22, 23, 24, 25, 26, 27, 28, 29, 30, 31, 32, 33, 34, 35, 36, 37, 38, 39, 40, 41, 42] M M := kF_rf
  refine lv_aload_n C.1 C.2.1 dX8_init_0 rfl (lv_at hl 0 rfl) ?_
  refine W.objInit C.1 C.2.1 C.2.2.2.1 (C.2.2.2.2.1 _ q_9) (C.2.2.2.2.1 _ q_10) (C.2.2.2.2.1 _ q_11) rfl (by rw [C.2.2.1]; exact hl.1) rfl dX8_init_1 (Nat.le_of_ble_eq_true rfl) (Nat.le_of_ble_eq_true rfl) ?_
  refine W.eq (g2 := F0 m 4 ls []) rfl ?_
  refine lv_aload_n C.1 C.2.1 dX8_init_4 rfl (lv_at hl 0 rfl) ?_
  refine k_new (fs := [.int 0, .int 0, .int 0, .int 0, .int 0, .null, .null, .null, .null]) C hw (ci := 3) rfl inlX3 tyX3 tyX3_ok q_12 q_13 q_14 (by decide +kernel) (Nat.le_of_ble_eq_true rfl) (Nat.le_of_ble_eq_true rfl) dX8_init_5 (fun M_1 H hw h1 hF => ?_)
  have h0 := (hF 0 (by first | decide | (simp <;> omega))).trans h0
  have hFF := kF_st hFF hF (by first | decide | simp)
  refine lv_dup C.1 C.2.1 dX8_init_8 rfl ?_
  refine k_cv C hw (c_X3_init h1  ) kv_X8_9 rfl hl.1 ⟨Nat.le_of_ble_eq_true rfl, Nat.le_of_ble_eq_true rfl⟩ (Nat.le_of_ble_eq_true rfl) ⟨Nat.le_of_ble_eq_true rfl, Nat.le_of_ble_eq_true rfl⟩ dX8_init_9 (fun M_2 n9 H locs hp hw => ?_)
  obtain ⟨en9, hF, h1, h2, h3, h4, h5⟩ := hp
  have en9 : n9 = 6 := en9
  rw [en9] at hw
  have h0 := (hF 0 (by first | decide | (simp <;> omega))).trans h0
  have hFF := kF_st hFF hF (by first | decide | simp)
  refine k_putF (tf := .object "KeyGroups$Owners") C hw 0 (by decide) h0 rfl inlX8 tyX8 tyX8_ok nmX8 0 (by decide) q_15 rfl hnm rfl (by decide +kernel) rfl rfl (Nat.le_of_ble_eq_true rfl) dX8_init_12 (fun M_3 H locs hw h0 hF => ?_)
  have h0 : M_3 0 = .inr (8, [.ref (b + 1), .null, .null, .null, .null, .null, .int 0, .int 0]) := h0
  have h1 := (hF 1 (by first | decide | (simp <;> omega))).trans h1
  have h2 := (hF 2 (by first | decide | (simp <;> omega))).trans h2
  have h3 := (hF 3 (by first | decide | (simp <;> omega))).trans h3
  have h4 := (hF 4 (by first | decide | (simp <;> omega))).trans h4
  have h5 := (hF 5 (by first | decide | (simp <;> omega))).trans h5
  have hFF := kF_st hFF hF (by first | decide | simp)
  refine lv_aload_n C.1 C.2.1 dX8_init_15 rfl (lv_at hl 0 rfl) ?_
  refine k_new (fs := [.null, .null, .null]) C hw (ci := 4) rfl inlX4 tyX4 tyX4_ok q_16 q_17 q_18 (by decide +kernel) (Nat.le_of_ble_eq_true rfl) (Nat.le_of_ble_eq_true rfl) dX8_init_16 (fun M_4 H hw h6 hF => ?_)
  have h0 := (hF 0 (by first | decide | (simp <;> omega))).trans h0
  have h1 := (hF 1 (by first | decide | (simp <;> omega))).trans h1
  have h2 := (hF 2 (by first | decide | (simp <;> omega))).trans h2
  have h3 := (hF 3 (by first | decide | (simp <;> omega))).trans h3
  have h4 := (hF 4 (by first | decide | (simp <;> omega))).trans h4
  have h5 := (hF 5 (by first | decide | (simp <;> omega))).trans h5
  have hFF := kF_st hFF hF (by first | decide | simp)
  refine lv_dup C.1 C.2.1 dX8_init_19 rfl ?_
  refine k_cv C hw (c_X4_init h6  ) kv_X8_18 rfl hl.1 ⟨Nat.le_of_ble_eq_true rfl, Nat.le_of_ble_eq_true rfl⟩ (Nat.le_of_ble_eq_true rfl) ⟨Nat.le_of_ble_eq_true rfl, Nat.le_of_ble_eq_true rfl⟩ dX8_init_20 (fun M_5 n9 H locs hp hw => ?_)
  obtain ⟨en9, hF, h6, h7, h8, h9, hE⟩ := hp
  have en9 : n9 = 22 := en9
  rw [en9] at hw
  have h0 := (hF 0 (by first | decide | (simp <;> omega))).trans h0
  have h1 := (hF 1 (by first | decide | (simp <;> omega))).trans h1
  have h2 := (hF 2 (by first | decide | (simp <;> omega))).trans h2
  have h3 := (hF 3 (by first | decide | (simp <;> omega))).trans h3
  have h4 := (hF 4 (by first | decide | (simp <;> omega))).trans h4
  have h5 := (hF 5 (by first | decide | (simp <;> omega))).trans h5
  have hFF := kF_st hFF hF (by first | decide | simp)
  refine k_putF (tf := .object "KeyGroups$Plan") C hw 0 (by decide) h0 rfl inlX8 tyX8 tyX8_ok nmX8 1 (by decide) q_19 rfl hnm rfl (by decide +kernel) rfl rfl (Nat.le_of_ble_eq_true rfl) dX8_init_23 (fun M_6 H locs hw h0 hF => ?_)
  have h0 : M_6 0 = .inr (8, [.ref (b + 1), .ref (b + 6), .null, .null, .null, .null, .int 0, .int 0]) := h0
  have h1 := (hF 1 (by first | decide | (simp <;> omega))).trans h1
  have h2 := (hF 2 (by first | decide | (simp <;> omega))).trans h2
  have h3 := (hF 3 (by first | decide | (simp <;> omega))).trans h3
  have h4 := (hF 4 (by first | decide | (simp <;> omega))).trans h4
  have h5 := (hF 5 (by first | decide | (simp <;> omega))).trans h5
  have h6 := (hF 6 (by first | decide | (simp <;> omega))).trans h6
  have h7 := (hF 7 (by first | decide | (simp <;> omega))).trans h7
  have h8 := (hF 8 (by first | decide | (simp <;> omega))).trans h8
  have h9 := (hF 9 (by first | decide | (simp <;> omega))).trans h9
  have hE := fun i hi => (hF _ (by simp <;> omega)).trans (hE i hi)
  have hFF := kF_st hFF hF (by first | decide | simp)
  refine lv_aload_n C.1 C.2.1 dX8_init_26 rfl (lv_at hl 0 rfl) ?_
  refine k_new (fs := [.null, .null, .null]) C hw (ci := 0) rfl inlX0 tyX0 tyX0_ok q_20 q_21 q_22 (by decide +kernel) (Nat.le_of_ble_eq_true rfl) (Nat.le_of_ble_eq_true rfl) dX8_init_27 (fun M_7 H hw h22 hF => ?_)
  have h0 := (hF 0 (by first | decide | (simp <;> omega))).trans h0
  have h1 := (hF 1 (by first | decide | (simp <;> omega))).trans h1
  have h2 := (hF 2 (by first | decide | (simp <;> omega))).trans h2
  have h3 := (hF 3 (by first | decide | (simp <;> omega))).trans h3
  have h4 := (hF 4 (by first | decide | (simp <;> omega))).trans h4
  have h5 := (hF 5 (by first | decide | (simp <;> omega))).trans h5
  have h6 := (hF 6 (by first | decide | (simp <;> omega))).trans h6
  have h7 := (hF 7 (by first | decide | (simp <;> omega))).trans h7
  have h8 := (hF 8 (by first | decide | (simp <;> omega))).trans h8
  have h9 := (hF 9 (by first | decide | (simp <;> omega))).trans h9
  have hE := fun i hi => (hF _ (by simp <;> omega)).trans (hE i hi)
  have hFF := kF_st hFF hF (by first | decide | simp)
  refine lv_dup C.1 C.2.1 dX8_init_30 rfl ?_
  refine k_cv C hw (c_X0_init_22 h22  ) kv_X8_25 rfl hl.1 ⟨Nat.le_of_ble_eq_true rfl, Nat.le_of_ble_eq_true rfl⟩ (Nat.le_of_ble_eq_true rfl) ⟨Nat.le_of_ble_eq_true rfl, Nat.le_of_ble_eq_true rfl⟩ dX8_init_31 (fun M_8 n9 H locs hp hw => ?_)
  obtain ⟨en9, hF, h22, h23, h24, h25, h26, h27, h28, h29, h30, h31, h32⟩ := hp
  have en9 : n9 = 33 := en9
  rw [en9] at hw
  have h0 := (hF 0 (by first | decide | (simp <;> omega))).trans h0
  have h1 := (hF 1 (by first | decide | (simp <;> omega))).trans h1
  have h2 := (hF 2 (by first | decide | (simp <;> omega))).trans h2
  have h3 := (hF 3 (by first | decide | (simp <;> omega))).trans h3
  have h4 := (hF 4 (by first | decide | (simp <;> omega))).trans h4
  have h5 := (hF 5 (by first | decide | (simp <;> omega))).trans h5
  have h6 := (hF 6 (by first | decide | (simp <;> omega))).trans h6
  have h7 := (hF 7 (by first | decide | (simp <;> omega))).trans h7
  have h8 := (hF 8 (by first | decide | (simp <;> omega))).trans h8
  have h9 := (hF 9 (by first | decide | (simp <;> omega))).trans h9
  have hE := fun i hi => (hF _ (by simp <;> omega)).trans (hE i hi)
  have hFF := kF_st hFF hF (by first | decide | simp)
  refine k_putF (tf := .object "KeyGroups$Held") C hw 0 (by decide) h0 rfl inlX8 tyX8 tyX8_ok nmX8 2 (by decide) q_23 rfl hnm rfl (by decide +kernel) rfl rfl (Nat.le_of_ble_eq_true rfl) dX8_init_34 (fun M_9 H locs hw h0 hF => ?_)
  have h0 : M_9 0 = .inr (8, [.ref (b + 1), .ref (b + 6), .ref (b + 22), .null, .null, .null, .int 0, .int 0]) := h0
  have h1 := (hF 1 (by first | decide | (simp <;> omega))).trans h1
  have h2 := (hF 2 (by first | decide | (simp <;> omega))).trans h2
  have h3 := (hF 3 (by first | decide | (simp <;> omega))).trans h3
  have h4 := (hF 4 (by first | decide | (simp <;> omega))).trans h4
  have h5 := (hF 5 (by first | decide | (simp <;> omega))).trans h5
  have h6 := (hF 6 (by first | decide | (simp <;> omega))).trans h6
  have h7 := (hF 7 (by first | decide | (simp <;> omega))).trans h7
  have h8 := (hF 8 (by first | decide | (simp <;> omega))).trans h8
  have h9 := (hF 9 (by first | decide | (simp <;> omega))).trans h9
  have h22 := (hF 22 (by first | decide | (simp <;> omega))).trans h22
  have h23 := (hF 23 (by first | decide | (simp <;> omega))).trans h23
  have h24 := (hF 24 (by first | decide | (simp <;> omega))).trans h24
  have h25 := (hF 25 (by first | decide | (simp <;> omega))).trans h25
  have h26 := (hF 26 (by first | decide | (simp <;> omega))).trans h26
  have h27 := (hF 27 (by first | decide | (simp <;> omega))).trans h27
  have h28 := (hF 28 (by first | decide | (simp <;> omega))).trans h28
  have h29 := (hF 29 (by first | decide | (simp <;> omega))).trans h29
  have h30 := (hF 30 (by first | decide | (simp <;> omega))).trans h30
  have h31 := (hF 31 (by first | decide | (simp <;> omega))).trans h31
  have h32 := (hF 32 (by first | decide | (simp <;> omega))).trans h32
  have hE := fun i hi => (hF _ (by simp <;> omega)).trans (hE i hi)
  have hFF := kF_st hFF hF (by first | decide | simp)
  refine lv_aload_n C.1 C.2.1 dX8_init_37 rfl (lv_at hl 0 rfl) ?_
  refine k_new (fs := [.null, .null, .null, .int 0]) C hw (ci := 2) rfl inlX2 tyX2 tyX2_ok q_24 q_25 q_26 (by decide +kernel) (Nat.le_of_ble_eq_true rfl) (Nat.le_of_ble_eq_true rfl) dX8_init_38 (fun M_10 H hw h33 hF => ?_)
  have h0 := (hF 0 (by first | decide | (simp <;> omega))).trans h0
  have h1 := (hF 1 (by first | decide | (simp <;> omega))).trans h1
  have h2 := (hF 2 (by first | decide | (simp <;> omega))).trans h2
  have h3 := (hF 3 (by first | decide | (simp <;> omega))).trans h3
  have h4 := (hF 4 (by first | decide | (simp <;> omega))).trans h4
  have h5 := (hF 5 (by first | decide | (simp <;> omega))).trans h5
  have h6 := (hF 6 (by first | decide | (simp <;> omega))).trans h6
  have h7 := (hF 7 (by first | decide | (simp <;> omega))).trans h7
  have h8 := (hF 8 (by first | decide | (simp <;> omega))).trans h8
  have h9 := (hF 9 (by first | decide | (simp <;> omega))).trans h9
  have h22 := (hF 22 (by first | decide | (simp <;> omega))).trans h22
  have h23 := (hF 23 (by first | decide | (simp <;> omega))).trans h23
  have h24 := (hF 24 (by first | decide | (simp <;> omega))).trans h24
  have h25 := (hF 25 (by first | decide | (simp <;> omega))).trans h25
  have h26 := (hF 26 (by first | decide | (simp <;> omega))).trans h26
  have h27 := (hF 27 (by first | decide | (simp <;> omega))).trans h27
  have h28 := (hF 28 (by first | decide | (simp <;> omega))).trans h28
  have h29 := (hF 29 (by first | decide | (simp <;> omega))).trans h29
  have h30 := (hF 30 (by first | decide | (simp <;> omega))).trans h30
  have h31 := (hF 31 (by first | decide | (simp <;> omega))).trans h31
  have h32 := (hF 32 (by first | decide | (simp <;> omega))).trans h32
  have hE := fun i hi => (hF _ (by simp <;> omega)).trans (hE i hi)
  have hFF := kF_st hFF hF (by first | decide | simp)
  refine lv_dup C.1 C.2.1 dX8_init_41 rfl ?_
  refine k_cv C hw (c_X2_init h33  ) kv_X8_32 rfl hl.1 ⟨Nat.le_of_ble_eq_true rfl, Nat.le_of_ble_eq_true rfl⟩ (Nat.le_of_ble_eq_true rfl) ⟨Nat.le_of_ble_eq_true rfl, Nat.le_of_ble_eq_true rfl⟩ dX8_init_42 (fun M_11 n9 H locs hp hw => ?_)
  obtain ⟨en9, hF, h33, h34, h35, h36⟩ := hp
  have en9 : n9 = 37 := en9
  rw [en9] at hw
  have h0 := (hF 0 (by first | decide | (simp <;> omega))).trans h0
  have h1 := (hF 1 (by first | decide | (simp <;> omega))).trans h1
  have h2 := (hF 2 (by first | decide | (simp <;> omega))).trans h2
  have h3 := (hF 3 (by first | decide | (simp <;> omega))).trans h3
  have h4 := (hF 4 (by first | decide | (simp <;> omega))).trans h4
  have h5 := (hF 5 (by first | decide | (simp <;> omega))).trans h5
  have h6 := (hF 6 (by first | decide | (simp <;> omega))).trans h6
  have h7 := (hF 7 (by first | decide | (simp <;> omega))).trans h7
  have h8 := (hF 8 (by first | decide | (simp <;> omega))).trans h8
  have h9 := (hF 9 (by first | decide | (simp <;> omega))).trans h9
  have h22 := (hF 22 (by first | decide | (simp <;> omega))).trans h22
  have h23 := (hF 23 (by first | decide | (simp <;> omega))).trans h23
  have h24 := (hF 24 (by first | decide | (simp <;> omega))).trans h24
  have h25 := (hF 25 (by first | decide | (simp <;> omega))).trans h25
  have h26 := (hF 26 (by first | decide | (simp <;> omega))).trans h26
  have h27 := (hF 27 (by first | decide | (simp <;> omega))).trans h27
  have h28 := (hF 28 (by first | decide | (simp <;> omega))).trans h28
  have h29 := (hF 29 (by first | decide | (simp <;> omega))).trans h29
  have h30 := (hF 30 (by first | decide | (simp <;> omega))).trans h30
  have h31 := (hF 31 (by first | decide | (simp <;> omega))).trans h31
  have h32 := (hF 32 (by first | decide | (simp <;> omega))).trans h32
  have hE := fun i hi => (hF _ (by simp <;> omega)).trans (hE i hi)
  have hFF := kF_st hFF hF (by first | decide | simp)
  refine k_putF (tf := .object "KeyGroups$Out") C hw 0 (by decide) h0 rfl inlX8 tyX8 tyX8_ok nmX8 3 (by decide) q_27 rfl hnm rfl (by decide +kernel) rfl rfl (Nat.le_of_ble_eq_true rfl) dX8_init_45 (fun M_12 H locs hw h0 hF => ?_)
  have h0 : M_12 0 = .inr (8, [.ref (b + 1), .ref (b + 6), .ref (b + 22), .ref (b + 33), .null, .null, .int 0, .int 0]) := h0
  have h1 := (hF 1 (by first | decide | (simp <;> omega))).trans h1
  have h2 := (hF 2 (by first | decide | (simp <;> omega))).trans h2
  have h3 := (hF 3 (by first | decide | (simp <;> omega))).trans h3
  have h4 := (hF 4 (by first | decide | (simp <;> omega))).trans h4
  have h5 := (hF 5 (by first | decide | (simp <;> omega))).trans h5
  have h6 := (hF 6 (by first | decide | (simp <;> omega))).trans h6
  have h7 := (hF 7 (by first | decide | (simp <;> omega))).trans h7
  have h8 := (hF 8 (by first | decide | (simp <;> omega))).trans h8
  have h9 := (hF 9 (by first | decide | (simp <;> omega))).trans h9
  have h22 := (hF 22 (by first | decide | (simp <;> omega))).trans h22
  have h23 := (hF 23 (by first | decide | (simp <;> omega))).trans h23
  have h24 := (hF 24 (by first | decide | (simp <;> omega))).trans h24
  have h25 := (hF 25 (by first | decide | (simp <;> omega))).trans h25
  have h26 := (hF 26 (by first | decide | (simp <;> omega))).trans h26
  have h27 := (hF 27 (by first | decide | (simp <;> omega))).trans h27
  have h28 := (hF 28 (by first | decide | (simp <;> omega))).trans h28
  have h29 := (hF 29 (by first | decide | (simp <;> omega))).trans h29
  have h30 := (hF 30 (by first | decide | (simp <;> omega))).trans h30
  have h31 := (hF 31 (by first | decide | (simp <;> omega))).trans h31
  have h32 := (hF 32 (by first | decide | (simp <;> omega))).trans h32
  have h33 := (hF 33 (by first | decide | (simp <;> omega))).trans h33
  have h34 := (hF 34 (by first | decide | (simp <;> omega))).trans h34
  have h35 := (hF 35 (by first | decide | (simp <;> omega))).trans h35
  have h36 := (hF 36 (by first | decide | (simp <;> omega))).trans h36
  have hE := fun i hi => (hF _ (by simp <;> omega)).trans (hE i hi)
  have hFF := kF_st hFF hF (by first | decide | simp)
  refine lv_aload_n C.1 C.2.1 dX8_init_48 rfl (lv_at hl 0 rfl) ?_
  refine k_new (fs := [.null, .null, .null, .null, .int 0, .int 0]) C hw (ci := 1) rfl inlX1 tyX1 tyX1_ok q_28 q_29 q_30 (by decide +kernel) (Nat.le_of_ble_eq_true rfl) (Nat.le_of_ble_eq_true rfl) dX8_init_49 (fun M_13 H hw h37 hF => ?_)
  have h0 := (hF 0 (by first | decide | (simp <;> omega))).trans h0
  have h1 := (hF 1 (by first | decide | (simp <;> omega))).trans h1
  have h2 := (hF 2 (by first | decide | (simp <;> omega))).trans h2
  have h3 := (hF 3 (by first | decide | (simp <;> omega))).trans h3
  have h4 := (hF 4 (by first | decide | (simp <;> omega))).trans h4
  have h5 := (hF 5 (by first | decide | (simp <;> omega))).trans h5
  have h6 := (hF 6 (by first | decide | (simp <;> omega))).trans h6
  have h7 := (hF 7 (by first | decide | (simp <;> omega))).trans h7
  have h8 := (hF 8 (by first | decide | (simp <;> omega))).trans h8
  have h9 := (hF 9 (by first | decide | (simp <;> omega))).trans h9
  have h22 := (hF 22 (by first | decide | (simp <;> omega))).trans h22
  have h23 := (hF 23 (by first | decide | (simp <;> omega))).trans h23
  have h24 := (hF 24 (by first | decide | (simp <;> omega))).trans h24
  have h25 := (hF 25 (by first | decide | (simp <;> omega))).trans h25
  have h26 := (hF 26 (by first | decide | (simp <;> omega))).trans h26
  have h27 := (hF 27 (by first | decide | (simp <;> omega))).trans h27
  have h28 := (hF 28 (by first | decide | (simp <;> omega))).trans h28
  have h29 := (hF 29 (by first | decide | (simp <;> omega))).trans h29
  have h30 := (hF 30 (by first | decide | (simp <;> omega))).trans h30
  have h31 := (hF 31 (by first | decide | (simp <;> omega))).trans h31
  have h32 := (hF 32 (by first | decide | (simp <;> omega))).trans h32
  have h33 := (hF 33 (by first | decide | (simp <;> omega))).trans h33
  have h34 := (hF 34 (by first | decide | (simp <;> omega))).trans h34
  have h35 := (hF 35 (by first | decide | (simp <;> omega))).trans h35
  have h36 := (hF 36 (by first | decide | (simp <;> omega))).trans h36
  have hE := fun i hi => (hF _ (by simp <;> omega)).trans (hE i hi)
  have hFF := kF_st hFF hF (by first | decide | simp)
  refine lv_dup C.1 C.2.1 dX8_init_52 rfl ?_
  refine k_cv C hw (c_X1_init h37  ) kv_X8_39 rfl hl.1 ⟨Nat.le_of_ble_eq_true rfl, Nat.le_of_ble_eq_true rfl⟩ (Nat.le_of_ble_eq_true rfl) ⟨Nat.le_of_ble_eq_true rfl, Nat.le_of_ble_eq_true rfl⟩ dX8_init_53 (fun M_14 n9 H locs hp hw => ?_)
  obtain ⟨en9, hF, h37, h38, h39, h40, h41⟩ := hp
  have en9 : n9 = 42 := en9
  rw [en9] at hw
  have h0 := (hF 0 (by first | decide | (simp <;> omega))).trans h0
  have h1 := (hF 1 (by first | decide | (simp <;> omega))).trans h1
  have h2 := (hF 2 (by first | decide | (simp <;> omega))).trans h2
  have h3 := (hF 3 (by first | decide | (simp <;> omega))).trans h3
  have h4 := (hF 4 (by first | decide | (simp <;> omega))).trans h4
  have h5 := (hF 5 (by first | decide | (simp <;> omega))).trans h5
  have h6 := (hF 6 (by first | decide | (simp <;> omega))).trans h6
  have h7 := (hF 7 (by first | decide | (simp <;> omega))).trans h7
  have h8 := (hF 8 (by first | decide | (simp <;> omega))).trans h8
  have h9 := (hF 9 (by first | decide | (simp <;> omega))).trans h9
  have h22 := (hF 22 (by first | decide | (simp <;> omega))).trans h22
  have h23 := (hF 23 (by first | decide | (simp <;> omega))).trans h23
  have h24 := (hF 24 (by first | decide | (simp <;> omega))).trans h24
  have h25 := (hF 25 (by first | decide | (simp <;> omega))).trans h25
  have h26 := (hF 26 (by first | decide | (simp <;> omega))).trans h26
  have h27 := (hF 27 (by first | decide | (simp <;> omega))).trans h27
  have h28 := (hF 28 (by first | decide | (simp <;> omega))).trans h28
  have h29 := (hF 29 (by first | decide | (simp <;> omega))).trans h29
  have h30 := (hF 30 (by first | decide | (simp <;> omega))).trans h30
  have h31 := (hF 31 (by first | decide | (simp <;> omega))).trans h31
  have h32 := (hF 32 (by first | decide | (simp <;> omega))).trans h32
  have h33 := (hF 33 (by first | decide | (simp <;> omega))).trans h33
  have h34 := (hF 34 (by first | decide | (simp <;> omega))).trans h34
  have h35 := (hF 35 (by first | decide | (simp <;> omega))).trans h35
  have h36 := (hF 36 (by first | decide | (simp <;> omega))).trans h36
  have hE := fun i hi => (hF _ (by simp <;> omega)).trans (hE i hi)
  have hFF := kF_st hFF hF (by first | decide | simp)
  refine k_putF (tf := .object "KeyGroups$Log") C hw 0 (by decide) h0 rfl inlX8 tyX8 tyX8_ok nmX8 4 (by decide) q_31 rfl hnm rfl (by decide +kernel) rfl rfl (Nat.le_of_ble_eq_true rfl) dX8_init_56 (fun M_15 H locs hw h0 hF => ?_)
  have h0 : M_15 0 = .inr (8, [.ref (b + 1), .ref (b + 6), .ref (b + 22), .ref (b + 33), .ref (b + 37), .null, .int 0, .int 0]) := h0
  have h1 := (hF 1 (by first | decide | (simp <;> omega))).trans h1
  have h2 := (hF 2 (by first | decide | (simp <;> omega))).trans h2
  have h3 := (hF 3 (by first | decide | (simp <;> omega))).trans h3
  have h4 := (hF 4 (by first | decide | (simp <;> omega))).trans h4
  have h5 := (hF 5 (by first | decide | (simp <;> omega))).trans h5
  have h6 := (hF 6 (by first | decide | (simp <;> omega))).trans h6
  have h7 := (hF 7 (by first | decide | (simp <;> omega))).trans h7
  have h8 := (hF 8 (by first | decide | (simp <;> omega))).trans h8
  have h9 := (hF 9 (by first | decide | (simp <;> omega))).trans h9
  have h22 := (hF 22 (by first | decide | (simp <;> omega))).trans h22
  have h23 := (hF 23 (by first | decide | (simp <;> omega))).trans h23
  have h24 := (hF 24 (by first | decide | (simp <;> omega))).trans h24
  have h25 := (hF 25 (by first | decide | (simp <;> omega))).trans h25
  have h26 := (hF 26 (by first | decide | (simp <;> omega))).trans h26
  have h27 := (hF 27 (by first | decide | (simp <;> omega))).trans h27
  have h28 := (hF 28 (by first | decide | (simp <;> omega))).trans h28
  have h29 := (hF 29 (by first | decide | (simp <;> omega))).trans h29
  have h30 := (hF 30 (by first | decide | (simp <;> omega))).trans h30
  have h31 := (hF 31 (by first | decide | (simp <;> omega))).trans h31
  have h32 := (hF 32 (by first | decide | (simp <;> omega))).trans h32
  have h33 := (hF 33 (by first | decide | (simp <;> omega))).trans h33
  have h34 := (hF 34 (by first | decide | (simp <;> omega))).trans h34
  have h35 := (hF 35 (by first | decide | (simp <;> omega))).trans h35
  have h36 := (hF 36 (by first | decide | (simp <;> omega))).trans h36
  have h37 := (hF 37 (by first | decide | (simp <;> omega))).trans h37
  have h38 := (hF 38 (by first | decide | (simp <;> omega))).trans h38
  have h39 := (hF 39 (by first | decide | (simp <;> omega))).trans h39
  have h40 := (hF 40 (by first | decide | (simp <;> omega))).trans h40
  have h41 := (hF 41 (by first | decide | (simp <;> omega))).trans h41
  have hE := fun i hi => (hF _ (by simp <;> omega)).trans (hE i hi)
  have hFF := kF_st hFF hF (by first | decide | simp)
  refine lv_aload_n C.1 C.2.1 dX8_init_59 rfl (lv_at hl 0 rfl) ?_
  refine lv_iconst (v := nI 3) C.1 C.2.1 dX8_init_60 (by decide) ?_
  refine k_newq C hw q_20 3 rfl (by decide) (Nat.le_of_ble_eq_true rfl) (Nat.le_of_ble_eq_true rfl) dX8_init_61 (fun M_16 H hw h42 hF => ?_)
  have h0 := (hF 0 (by first | decide | (simp <;> omega))).trans h0
  have h1 := (hF 1 (by first | decide | (simp <;> omega))).trans h1
  have h2 := (hF 2 (by first | decide | (simp <;> omega))).trans h2
  have h3 := (hF 3 (by first | decide | (simp <;> omega))).trans h3
  have h4 := (hF 4 (by first | decide | (simp <;> omega))).trans h4
  have h5 := (hF 5 (by first | decide | (simp <;> omega))).trans h5
  have h6 := (hF 6 (by first | decide | (simp <;> omega))).trans h6
  have h7 := (hF 7 (by first | decide | (simp <;> omega))).trans h7
  have h8 := (hF 8 (by first | decide | (simp <;> omega))).trans h8
  have h9 := (hF 9 (by first | decide | (simp <;> omega))).trans h9
  have h22 := (hF 22 (by first | decide | (simp <;> omega))).trans h22
  have h23 := (hF 23 (by first | decide | (simp <;> omega))).trans h23
  have h24 := (hF 24 (by first | decide | (simp <;> omega))).trans h24
  have h25 := (hF 25 (by first | decide | (simp <;> omega))).trans h25
  have h26 := (hF 26 (by first | decide | (simp <;> omega))).trans h26
  have h27 := (hF 27 (by first | decide | (simp <;> omega))).trans h27
  have h28 := (hF 28 (by first | decide | (simp <;> omega))).trans h28
  have h29 := (hF 29 (by first | decide | (simp <;> omega))).trans h29
  have h30 := (hF 30 (by first | decide | (simp <;> omega))).trans h30
  have h31 := (hF 31 (by first | decide | (simp <;> omega))).trans h31
  have h32 := (hF 32 (by first | decide | (simp <;> omega))).trans h32
  have h33 := (hF 33 (by first | decide | (simp <;> omega))).trans h33
  have h34 := (hF 34 (by first | decide | (simp <;> omega))).trans h34
  have h35 := (hF 35 (by first | decide | (simp <;> omega))).trans h35
  have h36 := (hF 36 (by first | decide | (simp <;> omega))).trans h36
  have h37 := (hF 37 (by first | decide | (simp <;> omega))).trans h37
  have h38 := (hF 38 (by first | decide | (simp <;> omega))).trans h38
  have h39 := (hF 39 (by first | decide | (simp <;> omega))).trans h39
  have h40 := (hF 40 (by first | decide | (simp <;> omega))).trans h40
  have h41 := (hF 41 (by first | decide | (simp <;> omega))).trans h41
  have hE := fun i hi => (hF _ (by simp <;> omega)).trans (hE i hi)
  have hFF := kF_st hFF hF (by first | decide | simp)
  refine k_putF (tf := .array (.object "KeyGroups$Held")) C hw 0 (by decide) h0 rfl inlX8 tyX8 tyX8_ok nmX8 5 (by decide) q_32 rfl hnm rfl (by decide +kernel) rfl rfl (Nat.le_of_ble_eq_true rfl) dX8_init_64 (fun M_17 H locs hw h0 hF => ?_)
  have h0 : M_17 0 = .inr (8, [.ref (b + 1), .ref (b + 6), .ref (b + 22), .ref (b + 33), .ref (b + 37), .ref (b + 42), .int 0, .int 0]) := h0
  have h1 := (hF 1 (by first | decide | (simp <;> omega))).trans h1
  have h2 := (hF 2 (by first | decide | (simp <;> omega))).trans h2
  have h3 := (hF 3 (by first | decide | (simp <;> omega))).trans h3
  have h4 := (hF 4 (by first | decide | (simp <;> omega))).trans h4
  have h5 := (hF 5 (by first | decide | (simp <;> omega))).trans h5
  have h6 := (hF 6 (by first | decide | (simp <;> omega))).trans h6
  have h7 := (hF 7 (by first | decide | (simp <;> omega))).trans h7
  have h8 := (hF 8 (by first | decide | (simp <;> omega))).trans h8
  have h9 := (hF 9 (by first | decide | (simp <;> omega))).trans h9
  have h22 := (hF 22 (by first | decide | (simp <;> omega))).trans h22
  have h23 := (hF 23 (by first | decide | (simp <;> omega))).trans h23
  have h24 := (hF 24 (by first | decide | (simp <;> omega))).trans h24
  have h25 := (hF 25 (by first | decide | (simp <;> omega))).trans h25
  have h26 := (hF 26 (by first | decide | (simp <;> omega))).trans h26
  have h27 := (hF 27 (by first | decide | (simp <;> omega))).trans h27
  have h28 := (hF 28 (by first | decide | (simp <;> omega))).trans h28
  have h29 := (hF 29 (by first | decide | (simp <;> omega))).trans h29
  have h30 := (hF 30 (by first | decide | (simp <;> omega))).trans h30
  have h31 := (hF 31 (by first | decide | (simp <;> omega))).trans h31
  have h32 := (hF 32 (by first | decide | (simp <;> omega))).trans h32
  have h33 := (hF 33 (by first | decide | (simp <;> omega))).trans h33
  have h34 := (hF 34 (by first | decide | (simp <;> omega))).trans h34
  have h35 := (hF 35 (by first | decide | (simp <;> omega))).trans h35
  have h36 := (hF 36 (by first | decide | (simp <;> omega))).trans h36
  have h37 := (hF 37 (by first | decide | (simp <;> omega))).trans h37
  have h38 := (hF 38 (by first | decide | (simp <;> omega))).trans h38
  have h39 := (hF 39 (by first | decide | (simp <;> omega))).trans h39
  have h40 := (hF 40 (by first | decide | (simp <;> omega))).trans h40
  have h41 := (hF 41 (by first | decide | (simp <;> omega))).trans h41
  have h42 := (hF 42 (by first | decide | (simp <;> omega))).trans h42
  have hE := fun i hi => (hF _ (by simp <;> omega)).trans (hE i hi)
  have hFF := kF_st hFF hF (by first | decide | simp)
  refine lv_aload_n C.1 C.2.1 dX8_init_67 rfl (lv_at hl 0 rfl) ?_
  refine lv_bipush (v := nI 20) C.1 C.2.1 dX8_init_68 (by decide) ?_
  refine k_put (tf := .int) C hw 0 (by decide) h0 rfl inlX8 tyX8 tyX8_ok nmX8 7 (by decide) q_33 rfl (by decide +kernel) rfl rfl (Nat.le_of_ble_eq_true rfl) dX8_init_70 (fun M_18 H locs hw h0 hF => ?_)
  have h0 : M_18 0 = .inr (8, [.ref (b + 1), .ref (b + 6), .ref (b + 22), .ref (b + 33), .ref (b + 37), .ref (b + 42), .int 0, .int (nI 20)]) := h0
  have h1 := (hF 1 (by first | decide | (simp <;> omega))).trans h1
  have h2 := (hF 2 (by first | decide | (simp <;> omega))).trans h2
  have h3 := (hF 3 (by first | decide | (simp <;> omega))).trans h3
  have h4 := (hF 4 (by first | decide | (simp <;> omega))).trans h4
  have h5 := (hF 5 (by first | decide | (simp <;> omega))).trans h5
  have h6 := (hF 6 (by first | decide | (simp <;> omega))).trans h6
  have h7 := (hF 7 (by first | decide | (simp <;> omega))).trans h7
  have h8 := (hF 8 (by first | decide | (simp <;> omega))).trans h8
  have h9 := (hF 9 (by first | decide | (simp <;> omega))).trans h9
  have h22 := (hF 22 (by first | decide | (simp <;> omega))).trans h22
  have h23 := (hF 23 (by first | decide | (simp <;> omega))).trans h23
  have h24 := (hF 24 (by first | decide | (simp <;> omega))).trans h24
  have h25 := (hF 25 (by first | decide | (simp <;> omega))).trans h25
  have h26 := (hF 26 (by first | decide | (simp <;> omega))).trans h26
  have h27 := (hF 27 (by first | decide | (simp <;> omega))).trans h27
  have h28 := (hF 28 (by first | decide | (simp <;> omega))).trans h28
  have h29 := (hF 29 (by first | decide | (simp <;> omega))).trans h29
  have h30 := (hF 30 (by first | decide | (simp <;> omega))).trans h30
  have h31 := (hF 31 (by first | decide | (simp <;> omega))).trans h31
  have h32 := (hF 32 (by first | decide | (simp <;> omega))).trans h32
  have h33 := (hF 33 (by first | decide | (simp <;> omega))).trans h33
  have h34 := (hF 34 (by first | decide | (simp <;> omega))).trans h34
  have h35 := (hF 35 (by first | decide | (simp <;> omega))).trans h35
  have h36 := (hF 36 (by first | decide | (simp <;> omega))).trans h36
  have h37 := (hF 37 (by first | decide | (simp <;> omega))).trans h37
  have h38 := (hF 38 (by first | decide | (simp <;> omega))).trans h38
  have h39 := (hF 39 (by first | decide | (simp <;> omega))).trans h39
  have h40 := (hF 40 (by first | decide | (simp <;> omega))).trans h40
  have h41 := (hF 41 (by first | decide | (simp <;> omega))).trans h41
  have h42 := (hF 42 (by first | decide | (simp <;> omega))).trans h42
  have hE := fun i hi => (hF _ (by simp <;> omega)).trans (hE i hi)
  have hFF := kF_st hFF hF (by first | decide | simp)
  exact hret _ _ (Nat.le_of_ble_eq_true rfl) (Nat.le_of_ble_eq_true rfl) hw (⟨rfl, hFF, h0, h1, h2, h3, h4, h5, h6, h7, h8, h9, h22, h23, h24, h25, h26, h27, h28, h29, h30, h31, h32, h33, h34, h35, h36, h37, h38, h39, h40, h41, h42, hE⟩) dX8_init_73
