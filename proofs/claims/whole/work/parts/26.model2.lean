theorem kv_X9_175 : kV RX9 RX9 175 yX9_weightOf cX9_weightOf 5 (some .int) 2 := ⟨q_376, q_377, q_378, q_5, q_379, by decide +kernel⟩
theorem kv_X9_181 : kV RX9 RX9 181 yX9_movedOf cX9_movedOf 7 (some .long) 3 := ⟨q_380, q_381, q_382, q_5, q_383, by decide +kernel⟩
theorem kv_X9_185 : kV RX9 RX9 185 yX9_limit cX9_limit 3 (some .int) 1 := ⟨q_364, q_365, q_366, q_5, q_367, by decide +kernel⟩
theorem kv_X9_188 : kV RX9 RX9 188 yX9_tryRange cX9_tryRange 7 (some .long) 4 := ⟨q_372, q_373, q_374, q_5, q_375, by decide +kernel⟩
set_option maxHeartbeats 4000000 in
set_option maxRecDepth 100000 in
theorem c_X9_tryRange {l : Launch} {D : va_G} {cI cJ cZ cH cR : ClassId} {b : Nat} {n : Nat} {M : Nat → va_E}  {G : Nat} {mo : Nat} {ta : Nat} {sl : Int32} {ca : Nat} {os : Nat} {tr : Int32} {ts : Nat} {lg : Nat} {mm : Nat} {sc : Int32} {mow : Nat → Int32} {mwe : Nat → Int32} {mlf : Nat → Int64} {t a z lim : Nat} {w B : Nat → Nat} (hn : 74 ≤ n) (h43 : M 43 = .inr (9, [.int (nI G), .int (nI mo), .int (nI ta), .int sl, .ref (b + 44), .ref (b + 45), .ref (b + 46), .ref (b + 47), .int (nI ca), .ref (b + 48), .ref (b + 49), .ref (b + 50), .ref (b + 51), .ref (b + 52), .int (nI os), .ref (b + 53), .ref (b + 54), .ref (b + 55), .int tr, .int (nI ts), .ref (b + 56), .ref (b + 57), .int (nI lg), .ref (b + 58), .ref (b + 59), .ref (b + 60), .ref (b + 61), .int (nI mm), .int sc, .ref (b + 62), .ref (b + 63), .ref (b + 64), .ref (b + 65), .ref (b + 66), .ref (b + 67), .ref (b + 68), .ref (b + 69), .ref (b + 70), .ref (b + 71), .ref (b + 72), .ref (b + 73)])) (h44 : M 44 = .inl (cI, 32, .inl mow)) (h46 : M 46 = .inl (cI, 32, .inl mwe)) (h73 : M 73 = .inl (cJ, 429, .inr (.inl mlf)))  (hG0 : 0 < G) (hG : G ≤ 32) (hw9 : ∀ g, g < G → mwe g = nI (w g)) (hsum : sN w G ≤ 1000) (hz : a + z ≤ G) (ht : t < 12) (hlim : lim ≤ 300000) (hlf : mlf (33 * (t + 1) + (a + z)) = enc (B (a + z))) (hb : B (a + z) < 1000000 → sN (fun j => cg w mow t (a + j)) z + B (a + z) < 1000000) : Met l yX9_tryRange (kw yX9_tryRange cX9_tryRange 7 (some .long)) ({ frames := 1, cells := 0, slots := 0, locals := 26 }) (va_Pc [.ref (b + 43), .int (nI t), .int (nI a), .int (nI (a + z)), .int (nI lim)] (kPre D (kT cI cJ cZ cH cR) b M n)) (va_Ql (fun (r : Int64) (u : (Nat → va_E) × Nat) => r = (trv w (cg w mow t) B lim a z) ∧ u.2 = n ∧ u.1 = M) (kB D (kT cI cJ cZ cH cR) b) (kA b)) 0 0 (kA b) := by
  refine k_metL (by decide +kernel) (Nat.le_of_ble_eq_true rfl) ?_
  intro p e s m below meth c ls Q C hw hret hnm hl
  have hl : lv_has ls 7 [(0, .ref (b + 43)), (1, .int (nI t)), (2, .int (nI a)), (3, .int (nI (a + z))), (4, .int (nI lim))] := hl
  have hws : ∀ k, a + k ≤ G → sN (fun j => w (a + j)) k ≤ 1000 := fun k hk => by have e1 := sN_split w a k; have e2 := sN_mono w hk; omega
  have hcs : ∀ k, a + k ≤ G → sN (fun j => cg w mow t (a + j)) k ≤ 1032 := fun k hk => by have e1 := sN_le (f := fun j => cg w mow t (a + j)) (g := fun j => w (a + j) + 1) (fun j => cg_le w mow t (a + j)) k; have e2 := sN_p1 (fun j => w (a + j)) k; have e3 := hws k hk; omega
  refine lv_aload_n C.1 C.2.1 dX9_tryRange_0 rfl (lv_at hl 0 rfl) ?_
  refine k_get C hw 43 (by omega) h43 rfl inlX9 40 (by decide) q_153 rfl dX9_tryRange_1 ?_
  refine lv_bipush (v := nI 33) C.1 C.2.1 dX9_tryRange_4 (by decide) ?_
  refine lv_iload_n C.1 C.2.1 dX9_tryRange_6 rfl (lv_at hl 1 rfl) ?_
  refine lv_iconst (v := nI 1) C.1 C.2.1 dX9_tryRange_7 (by decide) ?_
  refine lv_iadd C.1 C.2.1 dX9_tryRange_8 ?_
  refine k_topi (y := nI (t + 1)) (nI_add _ _) ?_
  refine lv_imul C.1 C.2.1 dX9_tryRange_9 ?_
  refine k_topi (y := nI (33 * (t + 1))) (pk_mul _ _) ?_
  refine lv_iload_n C.1 C.2.1 dX9_tryRange_10 rfl (lv_at hl 3 rfl) ?_
  refine lv_iadd C.1 C.2.1 dX9_tryRange_11 ?_
  refine k_topi (y := nI (33 * (t + 1) + (a + z))) (nI_add _ _) ?_
  refine k_lald C hw 73 (by omega) h73 (by omega) (by first | decide | omega) dX9_tryRange_12 ?_
  refine lv_topl (fun bh ebh => ?_)
  refine lv_lstore (lv' := [(5, .long bh), (0, .ref (b + 43)), (1, .int (nI t)), (2, .int (nI a)), (3, .int (nI (a + z))), (4, .int (nI lim))]) C.1 C.2.1 dX9_tryRange_13 hl (by decide) rfl (fun ls hl => ?_)
  refine lv_lload C.1 C.2.1 dX9_tryRange_15 (lv_at hl 0 rfl) ?_
  refine lv_lconst (v := 0) C.1 C.2.1 dX9_tryRange_17 rfl ?_
  refine W.lcmp C.1 C.2.1 dX9_tryRange_18 ?_
  refine lv_if_lt (tgt := 33) C.1 C.2.1 dX9_tryRange_19 (by decide) (fun c19 => ?_) (fun c19 => ?_)
  · have q : ¬ B (a + z) < 1000000 := enc_neg.mp (by rw [← hlf, ← ebh]; exact (lg_cmp_lt _ _).mp c19)
    refine lv_ldc2 C.1 C.2.1 C.2.2.2.1 (C.2.2.2.2.1 _ q_363) dX9_tryRange_33 ?_
    refine lv_goto (tgt := 49) C.1 C.2.1 dX9_tryRange_36 (by decide) ?_
    exact hret _ _ (Nat.le_of_ble_eq_true rfl) (Nat.le_of_ble_eq_true rfl) hw (⟨(trv_f (fun y => q y.1)).symm, rfl, rfl⟩) dX9_tryRange_49
  · have q : B (a + z) < 1000000 := Classical.byContradiction (fun y => c19 ((lg_cmp_lt _ _).mpr (by rw [ebh, hlf]; exact enc_neg.mpr y)))
    have hb := hb q
    refine lv_aload_n C.1 C.2.1 dX9_tryRange_22 rfl (lv_at hl 1 rfl) ?_
    refine lv_iload_n C.1 C.2.1 dX9_tryRange_23 rfl (lv_at hl 3 rfl) ?_
    refine lv_iload_n C.1 C.2.1 dX9_tryRange_24 rfl (lv_at hl 4 rfl) ?_
    refine k_vi C hw 43 (by omega) h43 rfl (c_X9_weightOf (by omega) h43 h46  (hG0) (hG) (hw9) (hsum) (hz)) kv_X9_175 rfl hl.1 ⟨Nat.le_of_ble_eq_true rfl, Nat.le_of_ble_eq_true rfl⟩ (Nat.le_of_ble_eq_true rfl) ⟨Nat.le_of_ble_eq_true rfl, Nat.le_of_ble_eq_true rfl⟩ dX9_tryRange_25 (fun r25 M_1 n9 H locs hp hw => ?_)
    obtain ⟨er25, en9, eM9⟩ := hp
    have en9 : n9 = n := en9
    rw [en9] at hw
    have eM9 : M_1 = M := eM9
    rw [eM9] at hw
    refine lv_iload C.1 C.2.1 dX9_tryRange_28 (lv_at hl 5 rfl) ?_
    refine lv_icmp_le (tgt := 39) C.1 C.2.1 dX9_tryRange_30 (by decide) (fun c30 => ?_) (fun c30 => ?_)
    · have q2 : sN (fun j => w (a + j)) z ≤ lim := (nI_leI (by have := hws z hz; omega) (by omega)).mp (by rw [← er25]; exact c30)
      refine lv_lload C.1 C.2.1 dX9_tryRange_39 (lv_at hl 0 rfl) ?_
      refine lv_aload_n C.1 C.2.1 dX9_tryRange_41 rfl (lv_at hl 1 rfl) ?_
      refine lv_iload_n C.1 C.2.1 dX9_tryRange_42 rfl (lv_at hl 2 rfl) ?_
      refine lv_iload_n C.1 C.2.1 dX9_tryRange_43 rfl (lv_at hl 3 rfl) ?_
      refine lv_iload_n C.1 C.2.1 dX9_tryRange_44 rfl (lv_at hl 4 rfl) ?_
      refine k_vl C hw 43 (by omega) h43 rfl (c_X9_movedOf (by omega) h43 h44 h46  (hG0) (hG) (hw9) (hsum) (hz)) kv_X9_181 rfl hl.1 ⟨Nat.le_of_ble_eq_true rfl, Nat.le_of_ble_eq_true rfl⟩ (Nat.le_of_ble_eq_true rfl) ⟨Nat.le_of_ble_eq_true rfl, Nat.le_of_ble_eq_true rfl⟩ dX9_tryRange_45 (fun r45 M_2 n9 H locs hp hw => ?_)
      obtain ⟨er45, en9, eM9⟩ := hp
      have en9 : n9 = n := en9
      rw [en9] at hw
      have eM9 : M_2 = M := eM9
      rw [eM9] at hw
      refine lv_ladd C.1 C.2.1 dX9_tryRange_48 ?_
      exact hret _ _ (Nat.le_of_ble_eq_true rfl) (Nat.le_of_ble_eq_true rfl) hw (⟨by rw [trv_t q q2, ebh, hlf, er45, enc_t q, enc_t hb, lN_add, Nat.add_comm], rfl, rfl⟩) dX9_tryRange_49
    · have q2 : ¬ sN (fun j => w (a + j)) z ≤ lim := fun y => c30 (by rw [er25]; exact (nI_leI (by have := hws z hz; omega) (by omega)).mpr y)
      refine lv_ldc2 C.1 C.2.1 C.2.2.2.1 (C.2.2.2.2.1 _ q_363) dX9_tryRange_33 ?_
      refine lv_goto (tgt := 49) C.1 C.2.1 dX9_tryRange_36 (by decide) ?_
      exact hret _ _ (Nat.le_of_ble_eq_true rfl) (Nat.le_of_ble_eq_true rfl) hw (⟨(trv_f (fun y => q2 y.2)).symm, rfl, rfl⟩) dX9_tryRange_49

set_option maxHeartbeats 4000000 in
set_option maxRecDepth 100000 in
theorem c_X9_findLeast {l : Launch} {D : va_G} {cI cJ cZ cH cR : ClassId} {b : Nat} {n : Nat} {M : Nat → va_E}  {G : Nat} {mo : Nat} {ta : Nat} {sl : Int32} {ca : Nat} {os : Nat} {tr : Int32} {ts : Nat} {lg : Nat} {mm : Nat} {sc : Int32} {mow : Nat → Int32} {mwe : Nat → Int32} {mlf : Nat → Int64} {k s_ : Nat} {w : Nat → Nat} (hn : 74 ≤ n) (h43 : M 43 = .inr (9, [.int (nI G), .int (nI mo), .int (nI ta), .int sl, .ref (b + 44), .ref (b + 45), .ref (b + 46), .ref (b + 47), .int (nI ca), .ref (b + 48), .ref (b + 49), .ref (b + 50), .ref (b + 51), .ref (b + 52), .int (nI os), .ref (b + 53), .ref (b + 54), .ref (b + 55), .int tr, .int (nI ts), .ref (b + 56), .ref (b + 57), .int (nI lg), .ref (b + 58), .ref (b + 59), .ref (b + 60), .ref (b + 61), .int (nI mm), .int sc, .ref (b + 62), .ref (b + 63), .ref (b + 64), .ref (b + 65), .ref (b + 66), .ref (b + 67), .ref (b + 68), .ref (b + 69), .ref (b + 70), .ref (b + 71), .ref (b + 72), .ref (b + 73)])) (h44 : M 44 = .inl (cI, 32, .inl mow)) (h46 : M 46 = .inl (cI, 32, .inl mwe)) (h73 : M 73 = .inl (cJ, 429, .inr (.inl mlf)))  (hG0 : 0 < G) (hG : G ≤ 32) (hw9 : ∀ g, g < G → mwe g = nI (w g)) (hsum : sN w G ≤ 1000) (hs_ : s_ ≤ 100) (hsl : sl = nI s_) (hk0 : 0 < k) (hk : k ≤ 12) : Met l yX9_findLeast (kw yX9_findLeast cX9_findLeast 10 none) ({ frames := 2, cells := 0, slots := 0, locals := 52 }) (va_Pc [.ref (b + 43), .int (nI k)] (kPre D (kT cI cJ cZ cH cR) b M n)) (va_Qv (fun (u : (Nat → va_E) × Nat) => u.2 = n ∧ kF [73] M u.1 ∧ ∃ lf : Nat → Int64, u.1 73 = .inl (cJ, 429, .inr (.inl lf)) ∧ ∀ r, r ≤ k → ∀ a, a ≤ G → lf (33 * (k - r) + a) = enc (dpv w mow (lmN (sN w G) s_ k) G k r a)) (kB D (kT cI cJ cZ cH cR) b) (kA b)) 0 0 (kA b) := by
  refine k_metV (by decide +kernel) (Nat.le_of_ble_eq_true rfl) ?_
  intro p e s m below meth c ls Q C hw hret hnm hl
  have hl : lv_has ls 10 [(0, .ref (b + 43)), (1, .int (nI k))] := hl
  have hFF : kF [73] M M := kF_rf
  have hlim := lmN_le (sl := s_) hsum hs_ hk
  refine lv_aload_n C.1 C.2.1 dX9_findLeast_0 rfl (lv_at hl 0 rfl) ?_
  refine lv_iload_n C.1 C.2.1 dX9_findLeast_1 rfl (lv_at hl 1 rfl) ?_
  refine k_vi C hw 43 (by omega) h43 rfl (c_X9_limit (by omega) h43 h46  (hG0) (hG) (hw9) (hsum) (hs_) (hsl) (hk0) (hk)) kv_X9_185 rfl hl.1 ⟨Nat.le_of_ble_eq_true rfl, Nat.le_of_ble_eq_true rfl⟩ (Nat.le_of_ble_eq_true rfl) ⟨Nat.le_of_ble_eq_true rfl, Nat.le_of_ble_eq_true rfl⟩ dX9_findLeast_2 (fun r2 M_1 n9 H locs hp hw => ?_)
  obtain ⟨er2, en9, eM9⟩ := hp
  have en9 : n9 = n := en9
  rw [en9] at hw
  have eM9 : M_1 = M := eM9
  rw [eM9] at hw
  subst er2
  refine lv_istore_n (lv' := [(2, .int (nI (lmN (sN w G) s_ k))), (0, .ref (b + 43)), (1, .int (nI k))]) C.1 C.2.1 dX9_findLeast_5 rfl hl (by decide) rfl (fun ls hl => ?_)
  refine lv_iconst (v := nI 0) C.1 C.2.1 dX9_findLeast_6 (by decide) ?_
  refine lv_istore_n (lv' := [(3, .int (nI 0)), (2, .int (nI (lmN (sN w G) s_ k))), (0, .ref (b + 43)), (1, .int (nI k))]) C.1 C.2.1 dX9_findLeast_7 rfl hl (by decide) rfl (fun ls hl => ?_)
  have L8 : ∀ (N8 : Nat) (i : Nat) (lf : Nat → Int64) (Mx8 : Nat → va_E), (G + 1 - i < N8) → (i ≤ G + 1) → (∀ a, a < i → lf (33 * k + a) = enc (dpv w mow (lmN (sN w G) s_ k) G k 0 a)) → kF [73] M Mx8 → Mx8 43 = .inr (9, [.int (nI G), .int (nI mo), .int (nI ta), .int sl, .ref (b + 44), .ref (b + 45), .ref (b + 46), .ref (b + 47), .int (nI ca), .ref (b + 48), .ref (b + 49), .ref (b + 50), .ref (b + 51), .ref (b + 52), .int (nI os), .ref (b + 53), .ref (b + 54), .ref (b + 55), .int tr, .int (nI ts), .ref (b + 56), .ref (b + 57), .int (nI lg), .ref (b + 58), .ref (b + 59), .ref (b + 60), .ref (b + 61), .int (nI mm), .int sc, .ref (b + 62), .ref (b + 63), .ref (b + 64), .ref (b + 65), .ref (b + 66), .ref (b + 67), .ref (b + 68), .ref (b + 69), .ref (b + 70), .ref (b + 71), .ref (b + 72), .ref (b + 73)]) → Mx8 44 = .inl (cI, 32, .inl mow) → Mx8 46 = .inl (cI, 32, .inl mwe) → Mx8 73 = .inl (cJ, 429, .inr (.inl lf)) → ∀ (ls : Array Slot) (H : Heap) (locs : List Loc), lv_has ls 10 [(3, .int (nI i)), (2, .int (nI (lmN (sN w G) s_ k))), (0, .ref (b + 43)), (1, .int (nI k))] → kW D b Mx8 n s.heap H locs → W p l e ({ frames := 2, cells := 0, slots := 0, locals := 52 } : Room) s m ([.ref (b + 43), .int (nI k)] : List Value).toArray below meth c H locs 0 0 Q (F0 m 8 ls []) := by
    intro N8
    induction N8 with
    | zero => intro i lf Mx8 hm8 hi hlf hFF h43 h44 h46 h73 ls H locs hl hw; omega
    | succ N8 ih8 =>
      intro i lf Mx8 hm8 hi hlf hFF h43 h44 h46 h73 ls H locs hl hw
      refine lv_iload_n C.1 C.2.1 dX9_findLeast_8 rfl (lv_at hl 0 rfl) ?_
      refine lv_aload_n C.1 C.2.1 dX9_findLeast_9 rfl (lv_at hl 2 rfl) ?_
      refine k_get C hw 43 (by omega) h43 rfl inlX9 0 (by decide) q_170 rfl dX9_findLeast_10 ?_
      refine lv_icmp_gt (tgt := 48) C.1 C.2.1 dX9_findLeast_13 (by decide) (fun c13 => ?_) (fun c13 => ?_)
      · have q13 := (nI_ltI (by omega) (by omega)).mp c13
        refine lv_iload_n C.1 C.2.1 dX9_findLeast_48 rfl (lv_at hl 3 rfl) ?_
        refine lv_iconst (v := nI 1) C.1 C.2.1 dX9_findLeast_49 (by decide) ?_
        refine lv_isub C.1 C.2.1 dX9_findLeast_50 ?_
        refine k_topi (y := nI (k - 0) - nI 1) (rfl) ?_
        refine lv_istore_n (lv' := [(3, .int (nI (k - 0) - nI 1)), (2, .int (nI (lmN (sN w G) s_ k))), (0, .ref (b + 43)), (1, .int (nI k))]) C.1 C.2.1 dX9_findLeast_51 rfl hl (by decide) rfl (fun ls hl => ?_)
        have L52 : ∀ (N52 : Nat) (r : Nat) (v : Int32) (lf2 : Nat → Int64) (Mx52 : Nat → va_E), (k - r < N52) → (r ≤ k) → (v = nI (k - r) - nI 1) → (∀ r2, r2 ≤ r → ∀ a, a ≤ G → lf2 (33 * (k - r2) + a) = enc (dpv w mow (lmN (sN w G) s_ k) G k r2 a)) → kF [73] M Mx52 → Mx52 43 = .inr (9, [.int (nI G), .int (nI mo), .int (nI ta), .int sl, .ref (b + 44), .ref (b + 45), .ref (b + 46), .ref (b + 47), .int (nI ca), .ref (b + 48), .ref (b + 49), .ref (b + 50), .ref (b + 51), .ref (b + 52), .int (nI os), .ref (b + 53), .ref (b + 54), .ref (b + 55), .int tr, .int (nI ts), .ref (b + 56), .ref (b + 57), .int (nI lg), .ref (b + 58), .ref (b + 59), .ref (b + 60), .ref (b + 61), .int (nI mm), .int sc, .ref (b + 62), .ref (b + 63), .ref (b + 64), .ref (b + 65), .ref (b + 66), .ref (b + 67), .ref (b + 68), .ref (b + 69), .ref (b + 70), .ref (b + 71), .ref (b + 72), .ref (b + 73)]) → Mx52 44 = .inl (cI, 32, .inl mow) → Mx52 46 = .inl (cI, 32, .inl mwe) → Mx52 73 = .inl (cJ, 429, .inr (.inl lf2)) → ∀ (ls : Array Slot) (H : Heap) (locs : List Loc), lv_has ls 10 [(3, .int v), (2, .int (nI (lmN (sN w G) s_ k))), (0, .ref (b + 43)), (1, .int (nI k))] → kW D b Mx52 n s.heap H locs → W p l e ({ frames := 2, cells := 0, slots := 0, locals := 52 } : Room) s m ([.ref (b + 43), .int (nI k)] : List Value).toArray below meth c H locs 0 0 Q (F0 m 52 ls []) := by
          intro N52
          induction N52 with
          | zero => intro r v lf2 Mx52 hm52 hr hv hlf2 hFF h43 h44 h46 h73 ls H locs hl hw; omega
          | succ N52 ih52 =>
            intro r v lf2 Mx52 hm52 hr hv hlf2 hFF h43 h44 h46 h73 ls H locs hl hw
            refine lv_iload_n C.1 C.2.1 dX9_findLeast_52 rfl (lv_at hl 0 rfl) ?_
            refine lv_if_lt (tgt := 163) C.1 C.2.1 dX9_findLeast_53 (by decide) (fun c53 => ?_) (fun c53 => ?_)
            · have q53 : r = k := by rcases Nat.lt_or_ge r k with z | z; rw [hv, pk_sub (by omega)] at c53; exact absurd c53 (nI_pos (by omega)); omega
              exact hret _ _ (Nat.le_of_ble_eq_true rfl) (Nat.le_of_ble_eq_true rfl) hw (⟨rfl, hFF, lf2, h73, fun r2 h2 a ha => hlf2 r2 (by omega) a ha⟩) dX9_findLeast_163
            · have q53 : r < k := by rcases Nat.lt_or_ge r k with z | z; exact z; exact absurd (by rw [hv, show k - r = 0 by omega]; decide) c53
              have hv2 : v = nI (k - 1 - r) := by rw [hv, pk_sub (by omega)]; congr 1; omega
              refine lv_iconst (v := nI 0) C.1 C.2.1 dX9_findLeast_56 (by decide) ?_
              refine lv_istore (lv' := [(4, .int (nI 0)), (3, .int v), (2, .int (nI (lmN (sN w G) s_ k))), (0, .ref (b + 43)), (1, .int (nI k))]) C.1 C.2.1 dX9_findLeast_57 hl (by decide) rfl (fun ls hl => ?_)
              have L59 : ∀ (N59 : Nat) (a : Nat) (lf3 : Nat → Int64) (Mx59 : Nat → va_E), (G + 1 - a < N59) → (a ≤ G + 1) → (∀ r2, r2 ≤ r → ∀ a, a ≤ G → lf3 (33 * (k - r2) + a) = enc (dpv w mow (lmN (sN w G) s_ k) G k r2 a)) → (∀ a2, a2 < a → lf3 (33 * (k - 1 - r) + a2) = enc (dpv w mow (lmN (sN w G) s_ k) G k (r + 1) a2)) → kF [73] M Mx59 → Mx59 43 = .inr (9, [.int (nI G), .int (nI mo), .int (nI ta), .int sl, .ref (b + 44), .ref (b + 45), .ref (b + 46), .ref (b + 47), .int (nI ca), .ref (b + 48), .ref (b + 49), .ref (b + 50), .ref (b + 51), .ref (b + 52), .int (nI os), .ref (b + 53), .ref (b + 54), .ref (b + 55), .int tr, .int (nI ts), .ref (b + 56), .ref (b + 57), .int (nI lg), .ref (b + 58), .ref (b + 59), .ref (b + 60), .ref (b + 61), .int (nI mm), .int sc, .ref (b + 62), .ref (b + 63), .ref (b + 64), .ref (b + 65), .ref (b + 66), .ref (b + 67), .ref (b + 68), .ref (b + 69), .ref (b + 70), .ref (b + 71), .ref (b + 72), .ref (b + 73)]) → Mx59 44 = .inl (cI, 32, .inl mow) → Mx59 46 = .inl (cI, 32, .inl mwe) → Mx59 73 = .inl (cJ, 429, .inr (.inl lf3)) → ∀ (ls : Array Slot) (H : Heap) (locs : List Loc), lv_has ls 10 [(4, .int (nI a)), (3, .int v), (2, .int (nI (lmN (sN w G) s_ k))), (0, .ref (b + 43)), (1, .int (nI k))] → kW D b Mx59 n s.heap H locs → W p l e ({ frames := 2, cells := 0, slots := 0, locals := 52 } : Room) s m ([.ref (b + 43), .int (nI k)] : List Value).toArray below meth c H locs 0 0 Q (F0 m 59 ls []) := by
                intro N59
                induction N59 with
                | zero => intro a lf3 Mx59 hm59 ha hlf3 hlf4 hFF h43 h44 h46 h73 ls H locs hl hw; omega
                | succ N59 ih59 =>
                  intro a lf3 Mx59 hm59 ha hlf3 hlf4 hFF h43 h44 h46 h73 ls H locs hl hw
                  refine lv_iload C.1 C.2.1 dX9_findLeast_59 (lv_at hl 0 rfl) ?_
                  refine lv_aload_n C.1 C.2.1 dX9_findLeast_61 rfl (lv_at hl 3 rfl) ?_
                  refine k_get C hw 43 (by omega) h43 rfl inlX9 0 (by decide) q_170 rfl dX9_findLeast_62 ?_
                  refine lv_icmp_gt (tgt := 157) C.1 C.2.1 dX9_findLeast_65 (by decide) (fun c65 => ?_) (fun c65 => ?_)
                  · have q65 := (nI_ltI (by omega) (by omega)).mp c65
                    refine lv_iinc (v := (nI (k - (r + 1)) - nI 1)) (lv' := [(3, .int (nI (k - (r + 1)) - nI 1)), (4, .int (nI a)), (2, .int (nI (lmN (sN w G) s_ k))), (0, .ref (b + 43)), (1, .int (nI k))]) C.1 C.2.1 dX9_findLeast_157 hl (k := 1) rfl (by rw [hv]; exact nI_dn (by omega)) (by decide) rfl (fun ls hl => ?_)
                    refine lv_goto (tgt := 52) C.1 C.2.1 dX9_findLeast_160 (by decide) ?_
                    exact ih52  (r + 1) (_) (_) Mx59 (by omega) (by omega) (rfl) (fun r2 h2 a2 ha => by by_cases y : r2 = r + 1; rw [y, show k - (r + 1) = (k - 1 - r) by omega]; exact hlf4 a2 (by omega); exact hlf3 r2 (by omega) a2 ha) hFF h43 h44 h46 h73  ls _ _ (lv_sub hl [0, 2, 3, 4] rfl) hw
                  · have q65 : ¬ G < a := fun y => c65 ((nI_ltI (by omega) (by omega)).mpr y)
                    refine lv_ldc2 C.1 C.2.1 C.2.2.2.1 (C.2.2.2.2.1 _ q_363) dX9_findLeast_68 ?_
                    refine lv_lstore (lv' := [(5, .long (-1)), (4, .int (nI a)), (3, .int v), (2, .int (nI (lmN (sN w G) s_ k))), (0, .ref (b + 43)), (1, .int (nI k))]) C.1 C.2.1 dX9_findLeast_71 hl (by decide) rfl (fun ls hl => ?_)
                    refine lv_iload C.1 C.2.1 dX9_findLeast_73 (lv_at hl 1 rfl) ?_
                    refine lv_iconst (v := nI 1) C.1 C.2.1 dX9_findLeast_75 (by decide) ?_
                    refine lv_iadd C.1 C.2.1 dX9_findLeast_76 ?_
                    refine k_topi (y := nI (a + 1 + 0)) (nI_add _ _) ?_
                    refine lv_istore (lv' := [(7, .int (nI (a + 1 + 0))), (5, .long (-1)), (4, .int (nI a)), (3, .int v), (2, .int (nI (lmN (sN w G) s_ k))), (0, .ref (b + 43)), (1, .int (nI k))]) C.1 C.2.1 dX9_findLeast_77 hl (by decide) rfl (fun ls hl => ?_)
                    have L79 : ∀ (N79 : Nat) (j : Nat) (bs : Int64), (G - (a + j) < N79) → (a + j ≤ G) → (bs = enc (chs w (cg w mow (k - 1 - r)) (dpv w mow (lmN (sN w G) s_ k) G k r) (lmN (sN w G) s_ k) a j).1) → ∀ (ls : Array Slot) (H : Heap) (locs : List Loc), lv_has ls 10 [(7, .int (nI (a + 1 + j))), (5, .long bs), (4, .int (nI a)), (3, .int v), (2, .int (nI (lmN (sN w G) s_ k))), (0, .ref (b + 43)), (1, .int (nI k))] → kW D b Mx59 n s.heap H locs → W p l e ({ frames := 2, cells := 0, slots := 0, locals := 52 } : Room) s m ([.ref (b + 43), .int (nI k)] : List Value).toArray below meth c H locs 0 0 Q (F0 m 79 ls []) := by
                      intro N79
                      induction N79 with
                      | zero => intro j bs hm79 hj hbs ls H locs hl hw; omega
                      | succ N79 ih79 =>
                        intro j bs hm79 hj hbs ls H locs hl hw
                        refine lv_iload C.1 C.2.1 dX9_findLeast_79 (lv_at hl 0 rfl) ?_
                        refine lv_aload_n C.1 C.2.1 dX9_findLeast_81 rfl (lv_at hl 5 rfl) ?_
                        refine k_get C hw 43 (by omega) h43 rfl inlX9 0 (by decide) q_170 rfl dX9_findLeast_82 ?_
                        refine lv_icmp_gt (tgt := 137) C.1 C.2.1 dX9_findLeast_85 (by decide) (fun c85 => ?_) (fun c85 => ?_)
                        · have q85 := (nI_ltI (by omega) (by omega)).mp c85
                          have q85 : j = G - a := by omega
                          refine lv_aload_n C.1 C.2.1 dX9_findLeast_137 rfl (lv_at hl 5 rfl) ?_
                          refine k_get C hw 43 (by omega) h43 rfl inlX9 40 (by decide) q_153 rfl dX9_findLeast_138 ?_
                          refine lv_bipush (v := nI 33) C.1 C.2.1 dX9_findLeast_141 (by decide) ?_
                          refine lv_iload_n C.1 C.2.1 dX9_findLeast_143 rfl (lv_at hl 3 rfl) ?_
                          refine k_topi (y := nI (k - 1 - r)) (hv2) ?_
                          refine lv_imul C.1 C.2.1 dX9_findLeast_144 ?_
                          refine k_topi (y := nI (33 * (k - 1 - r))) (pk_mul _ _) ?_
                          refine lv_iload C.1 C.2.1 dX9_findLeast_145 (lv_at hl 2 rfl) ?_
                          refine lv_iadd C.1 C.2.1 dX9_findLeast_147 ?_
                          refine k_topi (y := nI (33 * (k - 1 - r) + a)) (nI_add _ _) ?_
                          refine lv_lload C.1 C.2.1 dX9_findLeast_148 (lv_at hl 1 rfl) ?_
                          refine k_last C hw 73 (by omega) h73 (by omega) (by first | decide | omega) dX9_findLeast_150 (fun M_2 H locs hw h73 hF => ?_)
                          have h43 := (hF 43 (by decide)).trans h43
                          have h44 := (hF 44 (by decide)).trans h44
                          have h46 := (hF 46 (by decide)).trans h46
                          have hFF := kF_st hFF hF (by first | decide | simp)
                          refine lv_iinc (v := (nI (a + 1))) (lv' := [(4, .int (nI (a + 1))), (7, .int (nI (a + 1 + j))), (5, .long bs), (3, .int v), (2, .int (nI (lmN (sN w G) s_ k))), (0, .ref (b + 43)), (1, .int (nI k))]) C.1 C.2.1 dX9_findLeast_151 hl (k := 2) rfl (k_inc _ 1) (by decide) rfl (fun ls hl => ?_)
                          refine lv_goto (tgt := 59) C.1 C.2.1 dX9_findLeast_154 (by decide) ?_
                          exact ih59  (a + 1) (_) M_2 (by omega) (by omega) (fun r2 h2 a2 ha2 => by unfold vp_updL; rw [if_neg (by omega)]; exact hlf3 r2 h2 a2 ha2) (fun a2 ha2 => by unfold vp_updL; by_cases y : a2 = a; rw [if_pos (by omega), y, hbs, q85]; rfl; rw [if_neg (by omega)]; exact hlf4 a2 (by omega)) hFF h43 h44 h46 h73  ls _ _ (lv_sub hl [0, 3, 4, 5, 6] rfl) hw
                        · have q85 : ¬ G < a + 1 + j := fun y => c85 ((nI_ltI (by omega) (by omega)).mpr y)
                          refine lv_aload_n C.1 C.2.1 dX9_findLeast_88 rfl (lv_at hl 5 rfl) ?_
                          refine lv_iload_n C.1 C.2.1 dX9_findLeast_89 rfl (lv_at hl 3 rfl) ?_
                          refine k_topi (y := nI (k - 1 - r)) (hv2) ?_
                          refine lv_iload C.1 C.2.1 dX9_findLeast_90 (lv_at hl 2 rfl) ?_
                          refine lv_iload C.1 C.2.1 dX9_findLeast_92 (lv_at hl 0 rfl) ?_
                          refine k_topi (y := nI (a + (j + 1))) (by congr 1; omega) ?_
                          refine lv_iload_n C.1 C.2.1 dX9_findLeast_94 rfl (lv_at hl 4 rfl) ?_
                          refine k_vl C hw 43 (by omega) h43 rfl (c_X9_tryRange (B := dpv w mow (lmN (sN w G) s_ k) G k r) (by omega) h43 h44 h46 h73  (hG0) (hG) (hw9) (hsum) (by omega) (by omega) (hlim) (by rw [show 33 * ((k - 1 - r) + 1) + (a + (j + 1)) = 33 * (k - r) + (a + (j + 1)) by omega]; exact hlf3 r (Nat.le_refl _) _ (by omega)) (dp_fit (by omega) hsum hG)) kv_X9_188 rfl hl.1 ⟨Nat.le_of_ble_eq_true rfl, Nat.le_of_ble_eq_true rfl⟩ (Nat.le_of_ble_eq_true rfl) ⟨Nat.le_of_ble_eq_true rfl, Nat.le_of_ble_eq_true rfl⟩ dX9_findLeast_95 (fun r95 M_3 n9 H locs hp hw => ?_)
                          obtain ⟨er95, en9, eM9⟩ := hp
                          have en9 : n9 = n := en9
                          rw [en9] at hw
                          have eM9 : M_3 = Mx59 := eM9
                          rw [eM9] at hw
                          refine lv_lstore (lv' := [(8, .long r95), (7, .int (nI (a + 1 + j))), (5, .long bs), (4, .int (nI a)), (3, .int v), (2, .int (nI (lmN (sN w G) s_ k))), (0, .ref (b + 43)), (1, .int (nI k))]) C.1 C.2.1 dX9_findLeast_98 hl (by decide) rfl (fun ls hl => ?_)
                          refine lv_lload C.1 C.2.1 dX9_findLeast_100 (lv_at hl 0 rfl) ?_
                          refine lv_lconst (v := 0) C.1 C.2.1 dX9_findLeast_102 rfl ?_
                          refine W.lcmp C.1 C.2.1 dX9_findLeast_103 ?_
                          refine lv_if_lt (tgt := 127) C.1 C.2.1 dX9_findLeast_104 (by decide) (fun c104 => ?_) (fun c104 => ?_)
                          · refine lv_lload C.1 C.2.1 dX9_findLeast_127 (lv_at hl 2 rfl) ?_
                            refine lv_lstore (lv' := [(5, .long bs), (8, .long r95), (7, .int (nI (a + 1 + j))), (4, .int (nI a)), (3, .int v), (2, .int (nI (lmN (sN w G) s_ k))), (0, .ref (b + 43)), (1, .int (nI k))]) C.1 C.2.1 dX9_findLeast_129 hl (by decide) rfl (fun ls hl => ?_)
                            refine lv_iinc (v := (nI ((a + 1 + j) + 1))) (lv' := [(7, .int (nI ((a + 1 + j) + 1))), (5, .long bs), (8, .long r95), (4, .int (nI a)), (3, .int v), (2, .int (nI (lmN (sN w G) s_ k))), (0, .ref (b + 43)), (1, .int (nI k))]) C.1 C.2.1 dX9_findLeast_131 hl (k := 2) rfl (k_inc _ 1) (by decide) rfl (fun ls hl => ?_)
                            refine lv_goto (tgt := 79) C.1 C.2.1 dX9_findLeast_134 (by decide) ?_
                            exact ih79  (j + 1) (_) (by omega) (by omega) (by rw [trv_step (dp_fit (by omega) hsum hG), if_neg (fun y => y.1 (by rw [← er95]; exact (lg_cmp_lt _ _).mp c104))]; exact hbs) ls _ _ (lv_sub hl [0, 1, 3, 4, 5, 6, 7] rfl) hw
                          · refine lv_lload C.1 C.2.1 dX9_findLeast_107 (lv_at hl 2 rfl) ?_
                            refine lv_lconst (v := 0) C.1 C.2.1 dX9_findLeast_109 rfl ?_
                            refine W.lcmp C.1 C.2.1 dX9_findLeast_110 ?_
                            refine lv_if_lt (tgt := 122) C.1 C.2.1 dX9_findLeast_111 (by decide) (fun c111 => ?_) (fun c111 => ?_)
                            · refine lv_lload C.1 C.2.1 dX9_findLeast_122 (lv_at hl 0 rfl) ?_
                              refine lv_goto (tgt := 129) C.1 C.2.1 dX9_findLeast_124 (by decide) ?_
                              refine lv_lstore (lv' := [(5, .long r95), (8, .long r95), (7, .int (nI (a + 1 + j))), (4, .int (nI a)), (3, .int v), (2, .int (nI (lmN (sN w G) s_ k))), (0, .ref (b + 43)), (1, .int (nI k))]) C.1 C.2.1 dX9_findLeast_129 hl (by decide) rfl (fun ls hl => ?_)
                              refine lv_iinc (v := (nI ((a + 1 + j) + 1))) (lv' := [(7, .int (nI ((a + 1 + j) + 1))), (5, .long r95), (8, .long r95), (4, .int (nI a)), (3, .int v), (2, .int (nI (lmN (sN w G) s_ k))), (0, .ref (b + 43)), (1, .int (nI k))]) C.1 C.2.1 dX9_findLeast_131 hl (k := 2) rfl (k_inc _ 1) (by decide) rfl (fun ls hl => ?_)
                              refine lv_goto (tgt := 79) C.1 C.2.1 dX9_findLeast_134 (by decide) ?_
                              exact ih79  (j + 1) (_) (by omega) (by omega) (by rw [trv_step (dp_fit (by omega) hsum hG), if_pos ⟨fun y => c104 ((lg_cmp_lt _ _).mpr (by rw [er95]; exact y)), Or.inl (by rw [← hbs]; exact (lg_cmp_lt _ _).mp c111)⟩]; exact er95) ls _ _ (lv_sub hl [0, 1, 3, 4, 5, 6, 7] rfl) hw
                            · refine lv_lload C.1 C.2.1 dX9_findLeast_114 (lv_at hl 0 rfl) ?_
                              refine lv_lload C.1 C.2.1 dX9_findLeast_116 (lv_at hl 2 rfl) ?_
                              refine W.lcmp C.1 C.2.1 dX9_findLeast_118 ?_
                              refine lv_if_ge (tgt := 127) C.1 C.2.1 dX9_findLeast_119 (by decide) (fun c119 => ?_) (fun c119 => ?_)
                              · refine lv_lload C.1 C.2.1 dX9_findLeast_127 (lv_at hl 2 rfl) ?_
                                refine lv_lstore (lv' := [(5, .long bs), (8, .long r95), (7, .int (nI (a + 1 + j))), (4, .int (nI a)), (3, .int v), (2, .int (nI (lmN (sN w G) s_ k))), (0, .ref (b + 43)), (1, .int (nI k))]) C.1 C.2.1 dX9_findLeast_129 hl (by decide) rfl (fun ls hl => ?_)
                                refine lv_iinc (v := (nI ((a + 1 + j) + 1))) (lv' := [(7, .int (nI ((a + 1 + j) + 1))), (5, .long bs), (8, .long r95), (4, .int (nI a)), (3, .int v), (2, .int (nI (lmN (sN w G) s_ k))), (0, .ref (b + 43)), (1, .int (nI k))]) C.1 C.2.1 dX9_findLeast_131 hl (k := 2) rfl (k_inc _ 1) (by decide) rfl (fun ls hl => ?_)
                                refine lv_goto (tgt := 79) C.1 C.2.1 dX9_findLeast_134 (by decide) ?_
                                exact ih79  (j + 1) (_) (by omega) (by omega) (by rw [trv_step (dp_fit (by omega) hsum hG), if_neg (fun y => y.2.elim (fun z => c111 ((lg_cmp_lt _ _).mpr (by rw [hbs]; exact z))) (fun z => absurd ((lg_cmp_ge _ _).mp c119) (by rw [hbs, er95]; exact Int64.not_le.mpr z)))]; exact hbs) ls _ _ (lv_sub hl [0, 1, 3, 4, 5, 6, 7] rfl) hw
                              · refine lv_lload C.1 C.2.1 dX9_findLeast_122 (lv_at hl 0 rfl) ?_
                                refine lv_goto (tgt := 129) C.1 C.2.1 dX9_findLeast_124 (by decide) ?_
                                refine lv_lstore (lv' := [(5, .long r95), (8, .long r95), (7, .int (nI (a + 1 + j))), (4, .int (nI a)), (3, .int v), (2, .int (nI (lmN (sN w G) s_ k))), (0, .ref (b + 43)), (1, .int (nI k))]) C.1 C.2.1 dX9_findLeast_129 hl (by decide) rfl (fun ls hl => ?_)
                                refine lv_iinc (v := (nI ((a + 1 + j) + 1))) (lv' := [(7, .int (nI ((a + 1 + j) + 1))), (5, .long r95), (8, .long r95), (4, .int (nI a)), (3, .int v), (2, .int (nI (lmN (sN w G) s_ k))), (0, .ref (b + 43)), (1, .int (nI k))]) C.1 C.2.1 dX9_findLeast_131 hl (k := 2) rfl (k_inc _ 1) (by decide) rfl (fun ls hl => ?_)
                                refine lv_goto (tgt := 79) C.1 C.2.1 dX9_findLeast_134 (by decide) ?_
                                exact ih79  (j + 1) (_) (by omega) (by omega) (by rw [trv_step (dp_fit (by omega) hsum hG), if_pos ⟨fun y => c104 ((lg_cmp_lt _ _).mpr (by rw [er95]; exact y)), Or.inr (by rw [← hbs, ← er95]; exact Int64.not_le.mp (fun y => c119 ((lg_cmp_ge _ _).mpr y)))⟩]; exact er95) ls _ _ (lv_sub hl [0, 1, 3, 4, 5, 6, 7] rfl) hw
                    exact L79 (_ + 1) (0) (_) (Nat.lt_succ_self _) (by omega) (rfl) ls _ _ (lv_sub hl [0, 1, 2, 3, 4, 5, 6] rfl) hw
              exact L59 (_ + 1) (0) (_) Mx52 (Nat.lt_succ_self _) (Nat.zero_le _) (hlf2) (fun a ha => absurd ha (Nat.not_lt_zero a)) hFF h43 h44 h46 h73  ls _ _ (lv_sub hl [0, 1, 2, 3, 4] rfl) hw
        exact L52 (_ + 1) (0) (_) (_) Mx8 (Nat.lt_succ_self _) (Nat.zero_le _) (rfl) (fun r2 h2 a ha => by rw [show r2 = 0 by omega, Nat.sub_zero]; exact hlf a (by omega)) hFF h43 h44 h46 h73  ls _ _ (lv_sub hl [0, 1, 2, 3] rfl) hw
      · have q13 : ¬ G < i := fun y => c13 ((nI_ltI (by omega) (by omega)).mpr y)
        refine lv_aload_n C.1 C.2.1 dX9_findLeast_16 rfl (lv_at hl 2 rfl) ?_
        refine k_get C hw 43 (by omega) h43 rfl inlX9 40 (by decide) q_153 rfl dX9_findLeast_17 ?_
        refine lv_bipush (v := nI 33) C.1 C.2.1 dX9_findLeast_20 (by decide) ?_
        refine lv_iload_n C.1 C.2.1 dX9_findLeast_22 rfl (lv_at hl 3 rfl) ?_
        refine lv_imul C.1 C.2.1 dX9_findLeast_23 ?_
        refine k_topi (y := nI (33 * k)) (pk_mul _ _) ?_
        refine lv_iload_n C.1 C.2.1 dX9_findLeast_24 rfl (lv_at hl 0 rfl) ?_
        refine lv_iadd C.1 C.2.1 dX9_findLeast_25 ?_
        refine k_topi (y := nI (33 * k + i)) (nI_add _ _) ?_
        refine lv_iload_n C.1 C.2.1 dX9_findLeast_26 rfl (lv_at hl 0 rfl) ?_
        refine lv_aload_n C.1 C.2.1 dX9_findLeast_27 rfl (lv_at hl 2 rfl) ?_
        refine k_get C hw 43 (by omega) h43 rfl inlX9 0 (by decide) q_170 rfl dX9_findLeast_28 ?_
        refine lv_icmp_ne (tgt := 38) C.1 C.2.1 dX9_findLeast_31 (by decide) (fun c31 => ?_) (fun c31 => ?_)
        · refine lv_ldc2 C.1 C.2.1 C.2.2.2.1 (C.2.2.2.2.1 _ q_363) dX9_findLeast_38 ?_
          refine k_last C hw 73 (by omega) h73 (by omega) (by first | decide | omega) dX9_findLeast_41 (fun M_4 H locs hw h73 hF => ?_)
          have h43 := (hF 43 (by decide)).trans h43
          have h44 := (hF 44 (by decide)).trans h44
          have h46 := (hF 46 (by decide)).trans h46
          have hFF := kF_st hFF hF (by first | decide | simp)
          refine lv_iinc (v := (nI (i + 1))) (lv' := [(3, .int (nI (i + 1))), (2, .int (nI (lmN (sN w G) s_ k))), (0, .ref (b + 43)), (1, .int (nI k))]) C.1 C.2.1 dX9_findLeast_42 hl (k := 0) rfl (k_inc _ 1) (by decide) rfl (fun ls hl => ?_)
          refine lv_goto (tgt := 8) C.1 C.2.1 dX9_findLeast_45 (by decide) ?_
          exact ih8  (i + 1) (_) M_4 (by omega) (by omega) (fun a ha => by unfold vp_updL; by_cases y : a = i; rw [if_pos (by omega), y]; show _ = enc (if i = G then 0 else 1000000); rw [if_neg (fun z => c31 (by rw [z]))]; rfl; rw [if_neg (by omega)]; exact hlf a (by omega)) hFF h43 h44 h46 h73  ls _ _ (lv_sub hl [0, 1, 2, 3] rfl) hw
        · refine lv_lconst (v := 0) C.1 C.2.1 dX9_findLeast_34 rfl ?_
          refine lv_goto (tgt := 41) C.1 C.2.1 dX9_findLeast_35 (by decide) ?_
          refine k_last C hw 73 (by omega) h73 (by omega) (by first | decide | omega) dX9_findLeast_41 (fun M_5 H locs hw h73 hF => ?_)
          have h43 := (hF 43 (by decide)).trans h43
          have h44 := (hF 44 (by decide)).trans h44
          have h46 := (hF 46 (by decide)).trans h46
          have hFF := kF_st hFF hF (by first | decide | simp)
          refine lv_iinc (v := (nI (i + 1))) (lv' := [(3, .int (nI (i + 1))), (2, .int (nI (lmN (sN w G) s_ k))), (0, .ref (b + 43)), (1, .int (nI k))]) C.1 C.2.1 dX9_findLeast_42 hl (k := 0) rfl (k_inc _ 1) (by decide) rfl (fun ls hl => ?_)
          refine lv_goto (tgt := 8) C.1 C.2.1 dX9_findLeast_45 (by decide) ?_
          exact ih8  (i + 1) (_) M_5 (by omega) (by omega) (fun a ha => by unfold vp_updL; by_cases y : a = i; rw [if_pos (by omega), y]; show _ = enc (if i = G then 0 else 1000000); rw [if_pos ((nI_eq (by omega) (by omega)).mp c31)]; rfl; rw [if_neg (by omega)]; exact hlf a (by omega)) hFF h43 h44 h46 h73  ls _ _ (lv_sub hl [0, 1, 2, 3] rfl) hw
  exact L8 (_ + 1) (0) (_) M (Nat.lt_succ_self _) (Nat.zero_le _) (fun a ha => absurd ha (Nat.not_lt_zero a)) hFF h43 h44 h46 h73  ls _ _ (lv_sub hl [0, 1, 2, 3] rfl) hw

set_option maxHeartbeats 4000000 in
set_option maxRecDepth 100000 in
theorem c_X9_planLeast {l : Launch} {D : va_G} {cI cJ cZ cH cR : ClassId} {b : Nat} {n : Nat} {M : Nat → va_E}  {G : Nat} {mo : Nat} {ta : Nat} {sl : Int32} {ca : Nat} {os : Nat} {tr : Int32} {ts : Nat} {lg : Nat} {mm : Nat} {sc : Int32} {mow : Nat → Int32} {mwe : Nat → Int32} {mpl : Nat → Int32} {mlf : Nat → Int64} {k s_ : Nat} {w : Nat → Nat} (hn : 74 ≤ n) (h43 : M 43 = .inr (9, [.int (nI G), .int (nI mo), .int (nI ta), .int sl, .ref (b + 44), .ref (b + 45), .ref (b + 46), .ref (b + 47), .int (nI ca), .ref (b + 48), .ref (b + 49), .ref (b + 50), .ref (b + 51), .ref (b + 52), .int (nI os), .ref (b + 53), .ref (b + 54), .ref (b + 55), .int tr, .int (nI ts), .ref (b + 56), .ref (b + 57), .int (nI lg), .ref (b + 58), .ref (b + 59), .ref (b + 60), .ref (b + 61), .int (nI mm), .int sc, .ref (b + 62), .ref (b + 63), .ref (b + 64), .ref (b + 65), .ref (b + 66), .ref (b + 67), .ref (b + 68), .ref (b + 69), .ref (b + 70), .ref (b + 71), .ref (b + 72), .ref (b + 73)])) (h44 : M 44 = .inl (cI, 32, .inl mow)) (h46 : M 46 = .inl (cI, 32, .inl mwe)) (h72 : M 72 = .inl (cI, 32, .inl mpl)) (h73 : M 73 = .inl (cJ, 429, .inr (.inl mlf)))  (hG0 : 0 < G) (hG : G ≤ 32) (hw9 : ∀ g, g < G → mwe g = nI (w g)) (hsum : sN w G ≤ 1000) (hs_ : s_ ≤ 100) (hsl : sl = nI s_) (hk0 : 0 < k) (hk : k ≤ 12) (hlf : ∀ r, r ≤ k → ∀ a, a ≤ G → mlf (33 * (k - r) + a) = enc (dpv w mow (lmN (sN w G) s_ k) G k r a)) (hlt : dpv w mow (lmN (sN w G) s_ k) G k k 0 < 1000000) : Met l yX9_planLeast (kw yX9_planLeast cX9_planLeast 7 none) ({ frames := 2, cells := 0, slots := 0, locals := 52 }) (va_Pc [.ref (b + 43), .int (nI k)] (kPre D (kT cI cJ cZ cH cR) b M n)) (va_Qv (fun (u : (Nat → va_E) × Nat) => u.2 = n ∧ kF [72] M u.1 ∧ u.1 72 = .inl (cI, 32, .inl (lay mpl (dpf w mow (lmN (sN w G) s_ k) G k) k))) (kB D (kT cI cJ cZ cH cR) b) (kA b)) 0 0 (kA b) := by
  refine k_metV (by decide +kernel) (Nat.le_of_ble_eq_true rfl) ?_
  intro p e s m below meth c ls Q C hw hret hnm hl
  have hl : lv_has ls 7 [(0, .ref (b + 43)), (1, .int (nI k))] := hl
  have hFF : kF [72] M M := kF_rf
  have hlim := lmN_le (sl := s_) hsum hs_ hk
  refine lv_aload_n C.1 C.2.1 dX9_planLeast_0 rfl (lv_at hl 0 rfl) ?_
  refine lv_iload_n C.1 C.2.1 dX9_planLeast_1 rfl (lv_at hl 1 rfl) ?_
  refine k_vi C hw 43 (by omega) h43 rfl (c_X9_limit (by omega) h43 h46  (hG0) (hG) (hw9) (hsum) (hs_) (hsl) (hk0) (hk)) kv_X9_185 rfl hl.1 ⟨Nat.le_of_ble_eq_true rfl, Nat.le_of_ble_eq_true rfl⟩ (Nat.le_of_ble_eq_true rfl) ⟨Nat.le_of_ble_eq_true rfl, Nat.le_of_ble_eq_true rfl⟩ dX9_planLeast_2 (fun r2 M_1 n9 H locs hp hw => ?_)
  obtain ⟨er2, en9, eM9⟩ := hp
  have en9 : n9 = n := en9
  rw [en9] at hw
  have eM9 : M_1 = M := eM9
  rw [eM9] at hw
  subst er2
  refine lv_istore_n (lv' := [(2, .int (nI (lmN (sN w G) s_ k))), (0, .ref (b + 43)), (1, .int (nI k))]) C.1 C.2.1 dX9_planLeast_5 rfl hl (by decide) rfl (fun ls hl => ?_)
  refine lv_iconst (v := nI 0) C.1 C.2.1 dX9_planLeast_6 (by decide) ?_
  refine k_topi (y := nI ((dpf w mow (lmN (sN w G) s_ k) G k) 0)) (rfl) ?_
  refine lv_istore_n (lv' := [(3, .int (nI ((dpf w mow (lmN (sN w G) s_ k) G k) 0))), (2, .int (nI (lmN (sN w G) s_ k))), (0, .ref (b + 43)), (1, .int (nI k))]) C.1 C.2.1 dX9_planLeast_7 rfl hl (by decide) rfl (fun ls hl => ?_)
  refine lv_iconst (v := nI 0) C.1 C.2.1 dX9_planLeast_8 (by decide) ?_
  refine lv_istore (lv' := [(4, .int (nI 0)), (3, .int (nI ((dpf w mow (lmN (sN w G) s_ k) G k) 0))), (2, .int (nI (lmN (sN w G) s_ k))), (0, .ref (b + 43)), (1, .int (nI k))]) C.1 C.2.1 dX9_planLeast_9 hl (by decide) rfl (fun ls hl => ?_)
  have L11 : ∀ (N11 : Nat) (i : Nat) (Mx11 : Nat → va_E), (k - i < N11) → (i ≤ k) → kF [72] M Mx11 → Mx11 43 = .inr (9, [.int (nI G), .int (nI mo), .int (nI ta), .int sl, .ref (b + 44), .ref (b + 45), .ref (b + 46), .ref (b + 47), .int (nI ca), .ref (b + 48), .ref (b + 49), .ref (b + 50), .ref (b + 51), .ref (b + 52), .int (nI os), .ref (b + 53), .ref (b + 54), .ref (b + 55), .int tr, .int (nI ts), .ref (b + 56), .ref (b + 57), .int (nI lg), .ref (b + 58), .ref (b + 59), .ref (b + 60), .ref (b + 61), .int (nI mm), .int sc, .ref (b + 62), .ref (b + 63), .ref (b + 64), .ref (b + 65), .ref (b + 66), .ref (b + 67), .ref (b + 68), .ref (b + 69), .ref (b + 70), .ref (b + 71), .ref (b + 72), .ref (b + 73)]) → Mx11 44 = .inl (cI, 32, .inl mow) → Mx11 46 = .inl (cI, 32, .inl mwe) → Mx11 72 = .inl (cI, 32, .inl (lay mpl (dpf w mow (lmN (sN w G) s_ k) G k) i)) → Mx11 73 = .inl (cJ, 429, .inr (.inl mlf)) → ∀ (ls : Array Slot) (H : Heap) (locs : List Loc), lv_has ls 7 [(4, .int (nI i)), (3, .int (nI ((dpf w mow (lmN (sN w G) s_ k) G k) i))), (2, .int (nI (lmN (sN w G) s_ k))), (0, .ref (b + 43)), (1, .int (nI k))] → kW D b Mx11 n s.heap H locs → W p l e ({ frames := 2, cells := 0, slots := 0, locals := 52 } : Room) s m ([.ref (b + 43), .int (nI k)] : List Value).toArray below meth c H locs 0 0 Q (F0 m 11 ls []) := by
    intro N11
    induction N11 with
    | zero => intro i Mx11 hm11 hi hFF h43 h44 h46 h72 h73 ls H locs hl hw; omega
    | succ N11 ih11 =>
      intro i Mx11 hm11 hi hFF h43 h44 h46 h72 h73 ls H locs hl hw
      refine lv_iload C.1 C.2.1 dX9_planLeast_11 (lv_at hl 0 rfl) ?_
      refine lv_iload_n C.1 C.2.1 dX9_planLeast_13 rfl (lv_at hl 4 rfl) ?_
      refine lv_icmp_ge (tgt := 88) C.1 C.2.1 dX9_planLeast_14 (by decide) (fun c14 => ?_) (fun c14 => ?_)
      · have q := (nI_leI (by omega) (by omega)).mp c14
        have q : i = k := by omega
        rw [q] at h72
        exact hret _ _ (Nat.le_of_ble_eq_true rfl) (Nat.le_of_ble_eq_true rfl) hw (⟨rfl, hFF, h72⟩) dX9_planLeast_88
      · have q : ¬ k ≤ i := fun y => c14 ((nI_leI (by omega) (by omega)).mpr y)
        have f1 := dpf_ok hlt i (by omega)
        have f2 := dpf_ok hlt (i + 1) (by omega)
        have f3 := dpf_mono hlt (show i < k by omega)
        have hv0 : (chs w (cg w mow i) (dpv w mow (lmN (sN w G) s_ k) G k (k - 1 - i)) (lmN (sN w G) s_ k) ((dpf w mow (lmN (sN w G) s_ k) G k) i) (G - (dpf w mow (lmN (sN w G) s_ k) G k) i)).1 < 1000000 := by have := f1.1; rw [show k - i = (k - 1 - i) + 1 by omega] at this; unfold dpv at this; rw [show k - 1 - (k - 1 - i) = i by omega] at this; exact this
        obtain ⟨j0, hj0, ej0, et0, en0⟩ := trv_first (fun j hj => (dp_fit (by omega) hsum hG)) hv0
        have ej1 : (dpf w mow (lmN (sN w G) s_ k) G k) (i + 1) = (dpf w mow (lmN (sN w G) s_ k) G k) i + j0 + 1 := ej0
        have ev0 : mlf (33 * i + (dpf w mow (lmN (sN w G) s_ k) G k) i) = enc (chs w (cg w mow i) (dpv w mow (lmN (sN w G) s_ k) G k (k - 1 - i)) (lmN (sN w G) s_ k) ((dpf w mow (lmN (sN w G) s_ k) G k) i) (G - (dpf w mow (lmN (sN w G) s_ k) G k) i)).1 := by rw [show 33 * i + (dpf w mow (lmN (sN w G) s_ k) G k) i = 33 * (k - (k - i)) + (dpf w mow (lmN (sN w G) s_ k) G k) i by omega, hlf _ (by omega) _ f1.2, show k - i = (k - 1 - i) + 1 by omega]; conv => lhs; unfold dpv; rw [show k - 1 - (k - 1 - i) = i by omega]
        refine lv_iload_n C.1 C.2.1 dX9_planLeast_17 rfl (lv_at hl 1 rfl) ?_
        refine lv_iconst (v := nI 1) C.1 C.2.1 dX9_planLeast_18 (by decide) ?_
        refine lv_iadd C.1 C.2.1 dX9_planLeast_19 ?_
        refine k_topi (y := nI ((dpf w mow (lmN (sN w G) s_ k) G k) i + 1 + 0)) (nI_add _ _) ?_
        refine lv_istore (lv' := [(5, .int (nI ((dpf w mow (lmN (sN w G) s_ k) G k) i + 1 + 0))), (4, .int (nI i)), (3, .int (nI ((dpf w mow (lmN (sN w G) s_ k) G k) i))), (2, .int (nI (lmN (sN w G) s_ k))), (0, .ref (b + 43)), (1, .int (nI k))]) C.1 C.2.1 dX9_planLeast_20 hl (by decide) rfl (fun ls hl => ?_)
        have L22 : ∀ (N22 : Nat) (j : Nat), (j0 - j < N22) → (j ≤ j0) → ∀ (ls : Array Slot) (H : Heap) (locs : List Loc), lv_has ls 7 [(5, .int (nI ((dpf w mow (lmN (sN w G) s_ k) G k) i + 1 + j))), (4, .int (nI i)), (3, .int (nI ((dpf w mow (lmN (sN w G) s_ k) G k) i))), (2, .int (nI (lmN (sN w G) s_ k))), (0, .ref (b + 43)), (1, .int (nI k))] → kW D b Mx11 n s.heap H locs → W p l e ({ frames := 2, cells := 0, slots := 0, locals := 52 } : Room) s m ([.ref (b + 43), .int (nI k)] : List Value).toArray below meth c H locs 0 0 Q (F0 m 22 ls []) := by
          intro N22
          induction N22 with
          | zero => intro j hm22 hj ls H locs hl hw; omega
          | succ N22 ih22 =>
            intro j hm22 hj ls H locs hl hw
            refine lv_aload_n C.1 C.2.1 dX9_planLeast_22 rfl (lv_at hl 4 rfl) ?_
            refine lv_iload C.1 C.2.1 dX9_planLeast_23 (lv_at hl 1 rfl) ?_
            refine lv_iload_n C.1 C.2.1 dX9_planLeast_25 rfl (lv_at hl 2 rfl) ?_
            refine lv_iload C.1 C.2.1 dX9_planLeast_26 (lv_at hl 0 rfl) ?_
            refine k_topi (y := nI ((dpf w mow (lmN (sN w G) s_ k) G k) i + (j + 1))) (by congr 1; omega) ?_
            refine lv_iload_n C.1 C.2.1 dX9_planLeast_28 rfl (lv_at hl 3 rfl) ?_
            refine k_vl C hw 43 (by omega) h43 rfl (c_X9_tryRange (B := dpv w mow (lmN (sN w G) s_ k) G k (k - 1 - i)) (by omega) h43 h44 h46 h73  (hG0) (hG) (hw9) (hsum) (by omega) (by omega) (hlim) (by rw [show 33 * (i + 1) + ((dpf w mow (lmN (sN w G) s_ k) G k) i + (j + 1)) = 33 * (k - (k - 1 - i)) + ((dpf w mow (lmN (sN w G) s_ k) G k) i + (j + 1)) by omega]; exact hlf _ (by omega) _ (by omega)) (dp_fit (by omega) hsum hG)) kv_X9_188 rfl hl.1 ⟨Nat.le_of_ble_eq_true rfl, Nat.le_of_ble_eq_true rfl⟩ (Nat.le_of_ble_eq_true rfl) ⟨Nat.le_of_ble_eq_true rfl, Nat.le_of_ble_eq_true rfl⟩ dX9_planLeast_29 (fun r29 M_2 n9 H locs hp hw => ?_)
            obtain ⟨er29, en9, eM9⟩ := hp
            have en9 : n9 = n := en9
            rw [en9] at hw
            have eM9 : M_2 = Mx11 := eM9
            rw [eM9] at hw
            refine lv_aload_n C.1 C.2.1 dX9_planLeast_32 rfl (lv_at hl 4 rfl) ?_
            refine k_get C hw 43 (by omega) h43 rfl inlX9 40 (by decide) q_153 rfl dX9_planLeast_33 ?_
            refine lv_bipush (v := nI 33) C.1 C.2.1 dX9_planLeast_36 (by decide) ?_
            refine lv_iload C.1 C.2.1 dX9_planLeast_38 (lv_at hl 1 rfl) ?_
            refine lv_imul C.1 C.2.1 dX9_planLeast_40 ?_
            refine k_topi (y := nI (33 * i)) (pk_mul _ _) ?_
            refine lv_iload_n C.1 C.2.1 dX9_planLeast_41 rfl (lv_at hl 2 rfl) ?_
            refine lv_iadd C.1 C.2.1 dX9_planLeast_42 ?_
            refine k_topi (y := nI (33 * i + (dpf w mow (lmN (sN w G) s_ k) G k) i)) (nI_add _ _) ?_
            refine k_lald C hw 73 (by omega) h73 (by omega) (by first | decide | omega) dX9_planLeast_43 ?_
            refine W.lcmp C.1 C.2.1 dX9_planLeast_44 ?_
            refine lv_if_eq (tgt := 54) C.1 C.2.1 dX9_planLeast_45 (by decide) (fun c45 => ?_) (fun c45 => ?_)
            · have q45 := (lg_cmp_eq _ _).mp c45
              have q45 : j = j0 := by rcases Nat.lt_or_ge j j0 with y | y; exact absurd (by rw [← er29, q45, ev0]) (en0 j y); omega
              subst q45
              refine lv_iload_n C.1 C.2.1 dX9_planLeast_54 rfl (lv_at hl 2 rfl) ?_
              rw [← rng_0 (lay mpl (dpf w mow (lmN (sN w G) s_ k) G k) i) (nI i) ((dpf w mow (lmN (sN w G) s_ k) G k) i)] at h72
              refine lv_istore (lv' := [(6, .int (nI ((dpf w mow (lmN (sN w G) s_ k) G k) i))), (5, .int (nI ((dpf w mow (lmN (sN w G) s_ k) G k) i + 1 + j))), (4, .int (nI i)), (3, .int (nI ((dpf w mow (lmN (sN w G) s_ k) G k) i))), (2, .int (nI (lmN (sN w G) s_ k))), (0, .ref (b + 43)), (1, .int (nI k))]) C.1 C.2.1 dX9_planLeast_55 hl (by decide) rfl (fun ls hl => ?_)
              have L57 : ∀ (N57 : Nat) (x : Nat) (Mx57 : Nat → va_E), ((dpf w mow (lmN (sN w G) s_ k) G k) (i + 1) - x < N57) → ((dpf w mow (lmN (sN w G) s_ k) G k) i ≤ x) → (x ≤ (dpf w mow (lmN (sN w G) s_ k) G k) (i + 1)) → kF [72] M Mx57 → Mx57 43 = .inr (9, [.int (nI G), .int (nI mo), .int (nI ta), .int sl, .ref (b + 44), .ref (b + 45), .ref (b + 46), .ref (b + 47), .int (nI ca), .ref (b + 48), .ref (b + 49), .ref (b + 50), .ref (b + 51), .ref (b + 52), .int (nI os), .ref (b + 53), .ref (b + 54), .ref (b + 55), .int tr, .int (nI ts), .ref (b + 56), .ref (b + 57), .int (nI lg), .ref (b + 58), .ref (b + 59), .ref (b + 60), .ref (b + 61), .int (nI mm), .int sc, .ref (b + 62), .ref (b + 63), .ref (b + 64), .ref (b + 65), .ref (b + 66), .ref (b + 67), .ref (b + 68), .ref (b + 69), .ref (b + 70), .ref (b + 71), .ref (b + 72), .ref (b + 73)]) → Mx57 44 = .inl (cI, 32, .inl mow) → Mx57 46 = .inl (cI, 32, .inl mwe) → Mx57 72 = .inl (cI, 32, .inl (rng (lay mpl (dpf w mow (lmN (sN w G) s_ k) G k) i) (nI i) ((dpf w mow (lmN (sN w G) s_ k) G k) i) x)) → Mx57 73 = .inl (cJ, 429, .inr (.inl mlf)) → ∀ (ls : Array Slot) (H : Heap) (locs : List Loc), lv_has ls 7 [(6, .int (nI x)), (5, .int (nI ((dpf w mow (lmN (sN w G) s_ k) G k) i + 1 + j))), (4, .int (nI i)), (3, .int (nI ((dpf w mow (lmN (sN w G) s_ k) G k) i))), (2, .int (nI (lmN (sN w G) s_ k))), (0, .ref (b + 43)), (1, .int (nI k))] → kW D b Mx57 n s.heap H locs → W p l e ({ frames := 2, cells := 0, slots := 0, locals := 52 } : Room) s m ([.ref (b + 43), .int (nI k)] : List Value).toArray below meth c H locs 0 0 Q (F0 m 57 ls []) := by
                intro N57
                induction N57 with
                | zero => intro x Mx57 hm57 hx1 hx2 hFF h43 h44 h46 h72 h73 ls H locs hl hw; omega
                | succ N57 ih57 =>
                  intro x Mx57 hm57 hx1 hx2 hFF h43 h44 h46 h72 h73 ls H locs hl hw
                  refine lv_iload C.1 C.2.1 dX9_planLeast_57 (lv_at hl 0 rfl) ?_
                  refine lv_iload C.1 C.2.1 dX9_planLeast_59 (lv_at hl 1 rfl) ?_
                  refine k_topi (y := nI ((dpf w mow (lmN (sN w G) s_ k) G k) (i + 1))) (by rw [ej1]; congr 1; omega) ?_
                  refine lv_icmp_ge (tgt := 79) C.1 C.2.1 dX9_planLeast_61 (by decide) (fun c61 => ?_) (fun c61 => ?_)
                  · have q61 := (nI_leI (by omega) (by omega)).mp c61
                    have q61 : x = (dpf w mow (lmN (sN w G) s_ k) G k) (i + 1) := by omega
                    rw [q61] at h72
                    refine lv_iload C.1 C.2.1 dX9_planLeast_79 (lv_at hl 1 rfl) ?_
                    refine k_topi (y := nI ((dpf w mow (lmN (sN w G) s_ k) G k) (i + 1))) (by rw [ej1]; congr 1; omega) ?_
                    refine lv_istore_n (lv' := [(3, .int (nI ((dpf w mow (lmN (sN w G) s_ k) G k) (i + 1)))), (6, .int (nI x)), (5, .int (nI ((dpf w mow (lmN (sN w G) s_ k) G k) i + 1 + j))), (4, .int (nI i)), (2, .int (nI (lmN (sN w G) s_ k))), (0, .ref (b + 43)), (1, .int (nI k))]) C.1 C.2.1 dX9_planLeast_81 rfl hl (by decide) rfl (fun ls hl => ?_)
                    refine lv_iinc (v := (nI (i + 1))) (lv' := [(4, .int (nI (i + 1))), (3, .int (nI ((dpf w mow (lmN (sN w G) s_ k) G k) (i + 1)))), (6, .int (nI x)), (5, .int (nI ((dpf w mow (lmN (sN w G) s_ k) G k) i + 1 + j))), (2, .int (nI (lmN (sN w G) s_ k))), (0, .ref (b + 43)), (1, .int (nI k))]) C.1 C.2.1 dX9_planLeast_82 hl (k := 3) rfl (k_inc _ 1) (by decide) rfl (fun ls hl => ?_)
                    refine lv_goto (tgt := 11) C.1 C.2.1 dX9_planLeast_85 (by decide) ?_
                    exact ih11  (i + 1) Mx57 (by omega) (by omega) hFF h43 h44 h46 h72 h73  ls _ _ (lv_sub hl [0, 1, 4, 5, 6] rfl) hw
                  · have q61 : ¬ (dpf w mow (lmN (sN w G) s_ k) G k) (i + 1) ≤ x := fun y => c61 ((nI_leI (by omega) (by omega)).mpr y)
                    refine lv_aload_n C.1 C.2.1 dX9_planLeast_64 rfl (lv_at hl 5 rfl) ?_
                    refine k_get C hw 43 (by omega) h43 rfl inlX9 39 (by decide) q_152 rfl dX9_planLeast_65 ?_
                    refine lv_iload C.1 C.2.1 dX9_planLeast_68 (lv_at hl 0 rfl) ?_
                    refine lv_iload C.1 C.2.1 dX9_planLeast_70 (lv_at hl 2 rfl) ?_
                    refine k_iast C hw 72 (by omega) h72 (by omega) (by first | decide | omega) dX9_planLeast_72 (fun M_3 H locs hw h72 hF => ?_)
                    have h43 := (hF 43 (by decide)).trans h43
                    have h44 := (hF 44 (by decide)).trans h44
                    have h46 := (hF 46 (by decide)).trans h46
                    have h73 := (hF 73 (by decide)).trans h73
                    have hFF := kF_st hFF hF (by first | decide | simp)
                    rw [rng_s hx1] at h72
                    refine lv_iinc (v := (nI (x + 1))) (lv' := [(6, .int (nI (x + 1))), (5, .int (nI ((dpf w mow (lmN (sN w G) s_ k) G k) i + 1 + j))), (4, .int (nI i)), (3, .int (nI ((dpf w mow (lmN (sN w G) s_ k) G k) i))), (2, .int (nI (lmN (sN w G) s_ k))), (0, .ref (b + 43)), (1, .int (nI k))]) C.1 C.2.1 dX9_planLeast_73 hl (k := 0) rfl (k_inc _ 1) (by decide) rfl (fun ls hl => ?_)
                    refine lv_goto (tgt := 57) C.1 C.2.1 dX9_planLeast_76 (by decide) ?_
                    exact ih57  (x + 1) M_3 (by omega) (by omega) (by omega) hFF h43 h44 h46 h72 h73  ls _ _ (lv_sub hl [0, 1, 2, 3, 4, 5, 6] rfl) hw
              exact L57 (_ + 1) ((dpf w mow (lmN (sN w G) s_ k) G k) i) Mx11 (Nat.lt_succ_self _) (Nat.le_refl _) (by omega) hFF h43 h44 h46 h72 h73  ls _ _ (lv_sub hl [0, 1, 2, 3, 4, 5, 6] rfl) hw
            · have q45 : j < j0 := by rcases Nat.lt_or_ge j j0 with y | y; exact y; exact absurd ((lg_cmp_eq _ _).mpr (by rw [er29, ev0, show j = j0 by omega]; exact et0)) c45
              refine lv_iinc (v := (nI (((dpf w mow (lmN (sN w G) s_ k) G k) i + 1 + j) + 1))) (lv' := [(5, .int (nI (((dpf w mow (lmN (sN w G) s_ k) G k) i + 1 + j) + 1))), (4, .int (nI i)), (3, .int (nI ((dpf w mow (lmN (sN w G) s_ k) G k) i))), (2, .int (nI (lmN (sN w G) s_ k))), (0, .ref (b + 43)), (1, .int (nI k))]) C.1 C.2.1 dX9_planLeast_48 hl (k := 0) rfl (k_inc _ 1) (by decide) rfl (fun ls hl => ?_)
              refine lv_goto (tgt := 22) C.1 C.2.1 dX9_planLeast_51 (by decide) ?_
              exact ih22  (j + 1) (by omega) (by omega) ls _ _ (lv_sub hl [0, 1, 2, 3, 4, 5] rfl) hw
        exact L22 (_ + 1) (0) (Nat.lt_succ_self _) (Nat.zero_le _) ls _ _ (lv_sub hl [0, 1, 2, 3, 4, 5] rfl) hw
  exact L11 (_ + 1) (0) M (Nat.lt_succ_self _) (Nat.zero_le _) hFF h43 h44 h46 h72 h73  ls _ _ (lv_sub hl [0, 1, 2, 3, 4] rfl) hw
