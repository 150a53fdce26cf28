theorem kv_X9_102 : kV RX9 RX9 102 yX9_begin cX9_begin 2 none 0 := ⟨q_154, q_155, q_156, q_5, q_157, by decide +kernel⟩
theorem kv_X9_192 : kV RX9 RX9 192 yX9_planEven cX9_planEven 4 none 1 := ⟨q_355, q_356, q_357, q_5, q_358, by decide +kernel⟩
theorem kv_X9_196 : kV RX9 RX9 196 yX9_findLeast cX9_findLeast 10 none 1 := ⟨q_359, q_360, q_361, q_5, q_362, by decide +kernel⟩
theorem kv_X9_199 : kV RX9 RX9 199 yX9_planLeast cX9_planLeast 7 none 1 := ⟨q_384, q_385, q_386, q_5, q_387, by decide +kernel⟩
theorem kv_X9_202 : kV RX9 RX9 202 yX9_waitingOf cX9_waitingOf 4 (some .int) 1 := ⟨q_419, q_420, q_421, q_5, q_422, by decide +kernel⟩
theorem kv_X9_205 : kV RX9 RX9 205 yX9_before cX9_before 6 (some .int) 2 := ⟨q_484, q_485, q_486, q_5, q_487, by decide +kernel⟩
theorem kv_X9_221 : kV RX9 RX9 221 yX9_keptLogs cX9_keptLogs 1 (some .int) 0 := ⟨q_591, q_592, q_593, q_5, q_594, by decide +kernel⟩
theorem kv_X9_224 : kV RX9 RX9 224 yX9_waiting cX9_waiting 3 (some .int) 0 := ⟨q_633, q_634, q_635, q_5, q_636, by decide +kernel⟩
set_option maxHeartbeats 4000000 in
set_option maxRecDepth 100000 in
theorem c_X9_scale {l : Launch} {D : va_G} {cI cJ cZ cH cR : ClassId} {b : Nat} {n : Nat} {M : Nat → va_E}  {G : Nat} {mo : Nat} {ta : Nat} {sl : Int32} {ca : Nat} {os : Nat} {tr : Int32} {ts : Nat} {lg : Nat} {mm : Nat} {sc : Int32} {mow : Nat → Int32} {mep : Nat → Int32} {mwe : Nat → Int32} {mmv : Nat → Int32} {mpl : Nat → Int32} {mlf : Nat → Int64} {tn rl : Int32} {s_ : Nat} {w : Nat → Nat} (hn : 74 ≤ n) (h43 : M 43 = .inr (9, [.int (nI G), .int (nI mo), .int (nI ta), .int sl, .ref (b + 44), .ref (b + 45), .ref (b + 46), .ref (b + 47), .int (nI ca), .ref (b + 48), .ref (b + 49), .ref (b + 50), .ref (b + 51), .ref (b + 52), .int (nI os), .ref (b + 53), .ref (b + 54), .ref (b + 55), .int tr, .int (nI ts), .ref (b + 56), .ref (b + 57), .int (nI lg), .ref (b + 58), .ref (b + 59), .ref (b + 60), .ref (b + 61), .int (nI mm), .int sc, .ref (b + 62), .ref (b + 63), .ref (b + 64), .ref (b + 65), .ref (b + 66), .ref (b + 67), .ref (b + 68), .ref (b + 69), .ref (b + 70), .ref (b + 71), .ref (b + 72), .ref (b + 73)])) (h44 : M 44 = .inl (cI, 32, .inl mow)) (h45 : M 45 = .inl (cI, 32, .inl mep)) (h46 : M 46 = .inl (cI, 32, .inl mwe)) (h47 : M 47 = .inl (cZ, 32, .inl mmv)) (h72 : M 72 = .inl (cI, 32, .inl mpl)) (h73 : M 73 = .inl (cJ, 429, .inr (.inl mlf)))  (hG0 : 0 < G) (hG : G ≤ 32) (hw9 : ∀ g, g < G → mwe g = nI (w g)) (hsum : sN w G ≤ 1000) (hs_ : s_ ≤ 100) (hsl : sl = nI s_) (hmo : mo ≤ 12) : Met l yX9_scale (kw yX9_scale cX9_scale 5 (some .int)) ({ frames := 3, cells := 0, slots := 0, locals := 81 }) (va_Pc [.ref (b + 43), .int tn, .int rl] (kPre D (kT cI cJ cZ cH cR) b M n)) (va_Qi (fun (r : Int32) (u : (Nat → va_E) × Nat) => u.2 = n ∧ kF [43, 44, 45, 46, 47, 72, 73] M u.1 ∧ (∃ px : Nat → Int32, u.1 72 = .inl (cI, 32, .inl px)) ∧ (∃ lf : Nat → Int64, u.1 73 = .inl (cJ, 429, .inr (.inl lf))) ∧ ((¬ (¬ tn < nI 1 ∧ ¬ rl < 0 ∧ rl ≤ nI 1) ∧ r = -102 ∧ kF [] M u.1) ∨ ((¬ tn < nI 1 ∧ ¬ rl < 0 ∧ rl ≤ nI 1) ∧ nI mo < tn ∧ r = -105 ∧ kF [] M u.1) ∨ ((¬ tn < nI 1 ∧ ¬ rl < 0 ∧ rl ≤ nI 1) ∧ ¬ nI mo < tn ∧ rl = 0 ∧ r = nI (cnt (fun g => decide (g < G) && !((lay mpl (evF G (kn tn)) (kn tn)) g == mow g)) 32) ∧ u.1 43 = .inr (9, [.int (nI G), .int (nI mo), .int (nI (kn tn)), .int sl, .ref (b + 44), .ref (b + 45), .ref (b + 46), .ref (b + 47), .int (nI ca), .ref (b + 48), .ref (b + 49), .ref (b + 50), .ref (b + 51), .ref (b + 52), .int (nI os), .ref (b + 53), .ref (b + 54), .ref (b + 55), .int tr, .int (nI ts), .ref (b + 56), .ref (b + 57), .int (nI lg), .ref (b + 58), .ref (b + 59), .ref (b + 60), .ref (b + 61), .int (nI mm), .int (sc + nI 1), .ref (b + 62), .ref (b + 63), .ref (b + 64), .ref (b + 65), .ref (b + 66), .ref (b + 67), .ref (b + 68), .ref (b + 69), .ref (b + 70), .ref (b + 71), .ref (b + 72), .ref (b + 73)]) ∧ u.1 47 = .inl (cZ, 32, .inl (pfx (fun g => if g < G ∧ ¬ (lay mpl (evF G (kn tn)) (kn tn)) g = mow g then nI 1 else nI 0) mmv 32)) ∧ u.1 45 = .inl (cI, 32, .inl (pfx (fun g => if g < G ∧ ¬ (lay mpl (evF G (kn tn)) (kn tn)) g = mow g then mep g + nI 1 else mep g + nI 0) mep 32)) ∧ u.1 44 = .inl (cI, 32, .inl (pfx (fun g => if g < G then (lay mpl (evF G (kn tn)) (kn tn)) g else nI 0) mow 32)) ∧ u.1 46 = .inl (cI, 32, .inl (pfx (fun g => mwe g / nI 2) mwe 32))) ∨ ((¬ tn < nI 1 ∧ ¬ rl < 0 ∧ rl ≤ nI 1) ∧ ¬ nI mo < tn ∧ ¬ rl = 0 ∧ ¬ (dpv w mow (lmN (sN w G) s_ (kn tn)) G (kn tn) (kn tn) 0) < 1000000 ∧ r = -106 ∧ kF [73] M u.1) ∨ ((¬ tn < nI 1 ∧ ¬ rl < 0 ∧ rl ≤ nI 1) ∧ ¬ nI mo < tn ∧ ¬ rl = 0 ∧ (dpv w mow (lmN (sN w G) s_ (kn tn)) G (kn tn) (kn tn) 0) < 1000000 ∧ r = nI (cnt (fun g => decide (g < G) && !((lay mpl (dpf w mow (lmN (sN w G) s_ (kn tn)) G (kn tn)) (kn tn)) g == mow g)) 32) ∧ u.1 43 = .inr (9, [.int (nI G), .int (nI mo), .int (nI (kn tn)), .int sl, .ref (b + 44), .ref (b + 45), .ref (b + 46), .ref (b + 47), .int (nI ca), .ref (b + 48), .ref (b + 49), .ref (b + 50), .ref (b + 51), .ref (b + 52), .int (nI os), .ref (b + 53), .ref (b + 54), .ref (b + 55), .int tr, .int (nI ts), .ref (b + 56), .ref (b + 57), .int (nI lg), .ref (b + 58), .ref (b + 59), .ref (b + 60), .ref (b + 61), .int (nI mm), .int (sc + nI 1), .ref (b + 62), .ref (b + 63), .ref (b + 64), .ref (b + 65), .ref (b + 66), .ref (b + 67), .ref (b + 68), .ref (b + 69), .ref (b + 70), .ref (b + 71), .ref (b + 72), .ref (b + 73)]) ∧ u.1 47 = .inl (cZ, 32, .inl (pfx (fun g => if g < G ∧ ¬ (lay mpl (dpf w mow (lmN (sN w G) s_ (kn tn)) G (kn tn)) (kn tn)) g = mow g then nI 1 else nI 0) mmv 32)) ∧ u.1 45 = .inl (cI, 32, .inl (pfx (fun g => if g < G ∧ ¬ (lay mpl (dpf w mow (lmN (sN w G) s_ (kn tn)) G (kn tn)) (kn tn)) g = mow g then mep g + nI 1 else mep g + nI 0) mep 32)) ∧ u.1 44 = .inl (cI, 32, .inl (pfx (fun g => if g < G then (lay mpl (dpf w mow (lmN (sN w G) s_ (kn tn)) G (kn tn)) (kn tn)) g else nI 0) mow 32)) ∧ u.1 46 = .inl (cI, 32, .inl (pfx (fun g => mwe g / nI 2) mwe 32))))) (kB D (kT cI cJ cZ cH cR) b) (kA b)) 0 0 (kA b) := by
  refine k_metI (by decide +kernel) (Nat.le_of_ble_eq_true rfl) ?_
  intro p e s m below meth c ls Q C hw hret hnm hl
  have hl : lv_has ls 5 [(0, .ref (b + 43)), (1, .int tn), (2, .int rl)] := hl
  have hFF : kF [43, 44, 45, 46, 47, 72, 73] M M := kF_rf
  refine lv_iload_n C.1 C.2.1 dX9_scale_0 rfl (lv_at hl 1 rfl) ?_
  refine lv_iconst (v := nI 1) C.1 C.2.1 dX9_scale_1 (by decide) ?_
  refine lv_icmp_lt (tgt := 15) C.1 C.2.1 dX9_scale_2 (by decide) (fun c2 => ?_) (fun c2 => ?_)
  · refine lv_bipush (v := (-102)) C.1 C.2.1 dX9_scale_15 (by decide) ?_
    exact hret _ _ (Nat.le_of_ble_eq_true rfl) (Nat.le_of_ble_eq_true rfl) hw (⟨rfl, kF_rf, ⟨_, h72⟩, ⟨_, h73⟩, Or.inl ⟨fun z => z.1 c2, rfl, kF_rf⟩⟩) dX9_scale_17
  · refine lv_iload_n C.1 C.2.1 dX9_scale_5 rfl (lv_at hl 2 rfl) ?_
    refine lv_i2l C.1 C.2.1 dX9_scale_6 rfl ?_
    refine lv_lconst (v := 0) C.1 C.2.1 dX9_scale_7 rfl ?_
    refine lv_lconst (v := 1) C.1 C.2.1 dX9_scale_8 rfl ?_
    refine k_si C hw (c_X9_in   ) kv_X9_147 rfl hl.1 ⟨Nat.le_of_ble_eq_true rfl, Nat.le_of_ble_eq_true rfl⟩ (Nat.le_of_ble_eq_true rfl) ⟨Nat.le_of_ble_eq_true rfl, Nat.le_of_ble_eq_true rfl⟩ dX9_scale_9 (fun r9 M_1 n9 H locs hp hw => ?_)
    obtain ⟨er9, en9, eM9⟩ := hp
    have en9 : n9 = n := en9
    rw [en9] at hw
    have eM9 : M_1 = M := eM9
    rw [eM9] at hw
    refine lv_if_ne (tgt := 18) C.1 C.2.1 dX9_scale_12 (by decide) (fun c12 => ?_) (fun c12 => ?_)
    · have h12_ : ¬ rl < 0 ∧ rl ≤ nI 1 := (inL_i (lo := 0) (hi := 1) 0 (nI 1) (by decide) (by decide)).mp (Classical.byContradiction (fun z => c12 (by rw [er9, if_neg z])))
      refine lv_iload_n C.1 C.2.1 dX9_scale_18 rfl (lv_at hl 1 rfl) ?_
      refine lv_aload_n C.1 C.2.1 dX9_scale_19 rfl (lv_at hl 0 rfl) ?_
      refine k_get C hw 43 (by omega) h43 rfl inlX9 1 (by decide) q_171 rfl dX9_scale_20 ?_
      refine lv_icmp_le (tgt := 29) C.1 C.2.1 dX9_scale_23 (by decide) (fun c23 => ?_) (fun c23 => ?_)
      · obtain ⟨m1, hm0, hm1, em, ekn⟩ := tn_nI hmo (Int32.not_lt.mp c2) c23
        refine lv_iload_n C.1 C.2.1 dX9_scale_29 rfl (lv_at hl 2 rfl) ?_
        refine lv_if_ne (tgt := 41) C.1 C.2.1 dX9_scale_30 (by decide) (fun c30 => ?_) (fun c30 => ?_)
        · refine lv_aload_n C.1 C.2.1 dX9_scale_41 rfl (lv_at hl 0 rfl) ?_
          refine lv_iload_n C.1 C.2.1 dX9_scale_42 rfl (lv_at hl 1 rfl) ?_
          refine k_topi (y := nI m1) (em) ?_
          refine k_vv C hw 43 (by omega) h43 rfl (c_X9_findLeast (k := m1) (s_ := s_) (w := w) (by omega) h43 h44 h46 h73 hG0 hG hw9 hsum hs_ hsl hm0 (by omega)) kv_X9_196 rfl hl.1 ⟨Nat.le_of_ble_eq_true rfl, Nat.le_of_ble_eq_true rfl⟩ (Nat.le_of_ble_eq_true rfl) ⟨Nat.le_of_ble_eq_true rfl, Nat.le_of_ble_eq_true rfl⟩ dX9_scale_43 (fun M_2 n9 H locs hp hw => ?_)
          obtain ⟨en9, hF, lf, h73, hlf⟩ := hp
          have en9 : n9 = n := en9
          rw [en9] at hw
          have h43 := (hF 43 (by decide)).trans h43
          have h44 := (hF 44 (by decide)).trans h44
          have h45 := (hF 45 (by decide)).trans h45
          have h46 := (hF 46 (by decide)).trans h46
          have h47 := (hF 47 (by decide)).trans h47
          have h72 := (hF 72 (by decide)).trans h72
          have hFF := kF_st hFF hF (by first | decide | simp)
          refine lv_aload_n C.1 C.2.1 dX9_scale_46 rfl (lv_at hl 0 rfl) ?_
          refine k_get C hw 43 (by omega) h43 rfl inlX9 40 (by decide) q_153 rfl dX9_scale_47 ?_
          refine lv_iconst (v := nI 0) C.1 C.2.1 dX9_scale_50 (by decide) ?_
          refine k_lald C hw 73 (by omega) h73 (by omega) (by first | decide | omega) dX9_scale_51 ?_
          refine lv_lconst (v := 0) C.1 C.2.1 dX9_scale_52 rfl ?_
          refine W.lcmp C.1 C.2.1 dX9_scale_53 ?_
          refine lv_if_ge (tgt := 60) C.1 C.2.1 dX9_scale_54 (by decide) (fun c54 => ?_) (fun c54 => ?_)
          · have hyes : dpv w mow (lmN (sN w G) s_ m1) G m1 m1 0 < 1000000 := Classical.byContradiction (fun y => by have e9 := hlf m1 (Nat.le_refl _) 0 (Nat.zero_le _); rw [Nat.sub_self] at e9; have e8 := (lg_cmp_ge _ _).mp c54; have e7 := enc_neg.mpr y; rw [← e9] at e7; exact absurd e7 (Int64.not_lt.mpr e8))
            refine lv_aload_n C.1 C.2.1 dX9_scale_60 rfl (lv_at hl 0 rfl) ?_
            refine lv_iload_n C.1 C.2.1 dX9_scale_61 rfl (lv_at hl 1 rfl) ?_
            refine k_topi (y := nI m1) (em) ?_
            refine k_vv C hw 43 (by omega) h43 rfl (c_X9_planLeast (k := m1) (s_ := s_) (w := w) (by omega) h43 h44 h46 h72 h73 hG0 hG hw9 hsum hs_ hsl hm0 (by omega) hlf hyes) kv_X9_199 rfl hl.1 ⟨Nat.le_of_ble_eq_true rfl, Nat.le_of_ble_eq_true rfl⟩ (Nat.le_of_ble_eq_true rfl) ⟨Nat.le_of_ble_eq_true rfl, Nat.le_of_ble_eq_true rfl⟩ dX9_scale_62 (fun M_3 n9 H locs hp hw => ?_)
            obtain ⟨en9, hF, h72⟩ := hp
            have en9 : n9 = n := en9
            rw [en9] at hw
            have h43 := (hF 43 (by decide)).trans h43
            have h44 := (hF 44 (by decide)).trans h44
            have h45 := (hF 45 (by decide)).trans h45
            have h46 := (hF 46 (by decide)).trans h46
            have h47 := (hF 47 (by decide)).trans h47
            have h73 := (hF 73 (by decide)).trans h73
            have hFF := kF_st hFF hF (by first | decide | simp)
            obtain ⟨pp, epp⟩ : ∃ pp, pp = lay mpl (dpf w mow (lmN (sN w G) s_ m1) G m1) m1 := ⟨_, rfl⟩
            rw [← epp] at h72
            refine lv_iconst (v := nI 0) C.1 C.2.1 dX9_scale_65 (by decide) ?_
            refine lv_istore_n (lv' := [(3, .int (nI 0)), (0, .ref (b + 43)), (1, .int tn), (2, .int rl)]) C.1 C.2.1 dX9_scale_66 rfl hl (by decide) rfl (fun ls hl => ?_)
            refine lv_iconst (v := nI 0) C.1 C.2.1 dX9_scale_67 (by decide) ?_
            refine lv_istore (lv' := [(4, .int (nI 0)), (3, .int (nI 0)), (0, .ref (b + 43)), (1, .int tn), (2, .int rl)]) C.1 C.2.1 dX9_scale_68 hl (by decide) rfl (fun ls hl => ?_)
            have L70 : ∀ (N70 : Nat) (i : Nat) (Mx70 : Nat → va_E), (32 - i < N70) → (i ≤ 32) → kF [43, 44, 45, 46, 47, 72, 73] M Mx70 → Mx70 43 = .inr (9, [.int (nI G), .int (nI mo), .int (nI ta), .int sl, .ref (b + 44), .ref (b + 45), .ref (b + 46), .ref (b + 47), .int (nI ca), .ref (b + 48), .ref (b + 49), .ref (b + 50), .ref (b + 51), .ref (b + 52), .int (nI os), .ref (b + 53), .ref (b + 54), .ref (b + 55), .int tr, .int (nI ts), .ref (b + 56), .ref (b + 57), .int (nI lg), .ref (b + 58), .ref (b + 59), .ref (b + 60), .ref (b + 61), .int (nI mm), .int sc, .ref (b + 62), .ref (b + 63), .ref (b + 64), .ref (b + 65), .ref (b + 66), .ref (b + 67), .ref (b + 68), .ref (b + 69), .ref (b + 70), .ref (b + 71), .ref (b + 72), .ref (b + 73)]) → Mx70 44 = .inl (cI, 32, .inl (pfx (fun g => if g < G then pp g else nI 0) mow i)) → Mx70 45 = .inl (cI, 32, .inl (pfx (fun g => if g < G ∧ ¬ pp g = mow g then mep g + nI 1 else mep g + nI 0) mep i)) → Mx70 46 = .inl (cI, 32, .inl (pfx (fun g => mwe g / nI 2) mwe i)) → Mx70 47 = .inl (cZ, 32, .inl (pfx (fun g => if g < G ∧ ¬ pp g = mow g then nI 1 else nI 0) mmv i)) → Mx70 72 = .inl (cI, 32, .inl pp) → Mx70 73 = .inl (cJ, 429, .inr (.inl lf)) → ∀ (ls : Array Slot) (H : Heap) (locs : List Loc), lv_has ls 5 [(4, .int (nI i)), (3, .int (nI (cnt (fun g => decide (g < G) && !(pp g == mow g)) i))), (0, .ref (b + 43)), (1, .int tn), (2, .int rl)] → kW D b Mx70 n s.heap H locs → W p l e ({ frames := 3, cells := 0, slots := 0, locals := 81 } : Room) s m ([.ref (b + 43), .int tn, .int rl] : List Value).toArray below meth c H locs 0 0 Q (F0 m 70 ls []) := by
              intro N70
              induction N70 with
              | zero => intro i Mx70 hm70 hi hFF h43 h44 h45 h46 h47 h72 h73 ls H locs hl hw; omega
              | succ N70 ih70 =>
                intro i Mx70 hm70 hi hFF h43 h44 h45 h46 h47 h72 h73 ls H locs hl hw
                refine lv_iload C.1 C.2.1 dX9_scale_70 (lv_at hl 0 rfl) ?_
                refine lv_bipush (v := nI 32) C.1 C.2.1 dX9_scale_72 (by decide) ?_
                refine lv_icmp_ge (tgt := 207) C.1 C.2.1 dX9_scale_74 (by decide) (fun c74 => ?_) (fun c74 => ?_)
                · have q74 := (nI_leI (by omega) (by omega)).mp c74
                  have q74 : i = 32 := by omega
                  rw [q74] at h47 h45 h44 h46
                  refine lv_aload_n C.1 C.2.1 dX9_scale_207 rfl (lv_at hl 2 rfl) ?_
                  refine lv_iload_n C.1 C.2.1 dX9_scale_208 rfl (lv_at hl 3 rfl) ?_
                  refine k_topi (y := nI m1) (em) ?_
                  refine k_put (tf := .int) C hw 43 (by omega) h43 rfl inlX9 tyX9 tyX9_ok nmX9 2 (by decide) q_172 rfl (by decide +kernel) rfl rfl (Nat.le_of_ble_eq_true rfl) dX9_scale_209 (fun M_4 H locs hw h43 hF => ?_)
                  have h43 : M_4 43 = .inr (9, [.int (nI G), .int (nI mo), .int (nI m1), .int sl, .ref (b + 44), .ref (b + 45), .ref (b + 46), .ref (b + 47), .int (nI ca), .ref (b + 48), .ref (b + 49), .ref (b + 50), .ref (b + 51), .ref (b + 52), .int (nI os), .ref (b + 53), .ref (b + 54), .ref (b + 55), .int tr, .int (nI ts), .ref (b + 56), .ref (b + 57), .int (nI lg), .ref (b + 58), .ref (b + 59), .ref (b + 60), .ref (b + 61), .int (nI mm), .int sc, .ref (b + 62), .ref (b + 63), .ref (b + 64), .ref (b + 65), .ref (b + 66), .ref (b + 67), .ref (b + 68), .ref (b + 69), .ref (b + 70), .ref (b + 71), .ref (b + 72), .ref (b + 73)]) := h43
                  have h44 := (hF 44 (by decide)).trans h44
                  have h45 := (hF 45 (by decide)).trans h45
                  have h46 := (hF 46 (by decide)).trans h46
                  have h47 := (hF 47 (by decide)).trans h47
                  have h72 := (hF 72 (by decide)).trans h72
                  have h73 := (hF 73 (by decide)).trans h73
                  have hFF := kF_st hFF hF (by first | decide | simp)
                  refine lv_aload_n C.1 C.2.1 dX9_scale_212 rfl (lv_at hl 2 rfl) ?_
                  refine lv_dup C.1 C.2.1 dX9_scale_213 rfl ?_
                  refine k_get C hw 43 (by omega) h43 rfl inlX9 28 (by decide) q_165 rfl dX9_scale_214 ?_
                  refine lv_iconst (v := nI 1) C.1 C.2.1 dX9_scale_217 (by decide) ?_
                  refine lv_iadd C.1 C.2.1 dX9_scale_218 ?_
                  refine k_put (tf := .int) C hw 43 (by omega) h43 rfl inlX9 tyX9 tyX9_ok nmX9 28 (by decide) q_165 rfl (by decide +kernel) rfl rfl (Nat.le_of_ble_eq_true rfl) dX9_scale_219 (fun M_5 H locs hw h43 hF => ?_)
                  have h43 : M_5 43 = .inr (9, [.int (nI G), .int (nI mo), .int (nI m1), .int sl, .ref (b + 44), .ref (b + 45), .ref (b + 46), .ref (b + 47), .int (nI ca), .ref (b + 48), .ref (b + 49), .ref (b + 50), .ref (b + 51), .ref (b + 52), .int (nI os), .ref (b + 53), .ref (b + 54), .ref (b + 55), .int tr, .int (nI ts), .ref (b + 56), .ref (b + 57), .int (nI lg), .ref (b + 58), .ref (b + 59), .ref (b + 60), .ref (b + 61), .int (nI mm), .int (sc + (nI 1)), .ref (b + 62), .ref (b + 63), .ref (b + 64), .ref (b + 65), .ref (b + 66), .ref (b + 67), .ref (b + 68), .ref (b + 69), .ref (b + 70), .ref (b + 71), .ref (b + 72), .ref (b + 73)]) := h43
                  have h44 := (hF 44 (by decide)).trans h44
                  have h45 := (hF 45 (by decide)).trans h45
                  have h46 := (hF 46 (by decide)).trans h46
                  have h47 := (hF 47 (by decide)).trans h47
                  have h72 := (hF 72 (by decide)).trans h72
                  have h73 := (hF 73 (by decide)).trans h73
                  have hFF := kF_st hFF hF (by first | decide | simp)
                  refine lv_iload_n C.1 C.2.1 dX9_scale_222 rfl (lv_at hl 1 rfl) ?_
                  rw [← ekn] at h43 epp hyes
                  rw [epp] at h47 h45 h44
                  exact hret _ _ (Nat.le_of_ble_eq_true rfl) (Nat.le_of_ble_eq_true rfl) hw (⟨rfl, hFF, ⟨_, h72⟩, ⟨_, h73⟩, Or.inr (Or.inr (Or.inr (Or.inr ⟨⟨c2, h12_⟩, Int32.not_lt.mpr c23, c30, hyes, by rw [q74, epp], h43, h47, h45, h44, h46⟩)))⟩) dX9_scale_223
                · have q74 : ¬ 32 ≤ i := fun z => c74 ((nI_leI (by omega) (by omega)).mpr z)
                  refine lv_aload_n C.1 C.2.1 dX9_scale_77 rfl (lv_at hl 2 rfl) ?_
                  refine k_get C hw 43 (by omega) h43 rfl inlX9 7 (by decide) q_127 rfl dX9_scale_78 ?_
                  refine lv_iload C.1 C.2.1 dX9_scale_81 (lv_at hl 0 rfl) ?_
                  refine lv_iload C.1 C.2.1 dX9_scale_83 (lv_at hl 0 rfl) ?_
                  refine lv_aload_n C.1 C.2.1 dX9_scale_85 rfl (lv_at hl 2 rfl) ?_
                  refine k_get C hw 43 (by omega) h43 rfl inlX9 0 (by decide) q_170 rfl dX9_scale_86 ?_
                  refine lv_icmp_ge (tgt := 113) C.1 C.2.1 dX9_scale_89 (by decide) (fun c89 => ?_) (fun c89 => ?_)
                  · have q89 : G ≤ i := (nI_leI (by omega) (by omega)).mp c89
                    have hmv : ¬ (i < G ∧ ¬ pp i = mow i) := fun z => by omega
                    refine lv_iconst (v := nI 0) C.1 C.2.1 dX9_scale_113 (by decide) ?_
                    refine k_zast C hw 47 (by omega) h47 (by first | exact Or.inl rfl | exact Or.inr rfl) (by omega) (by first | decide | omega) dX9_scale_114 (fun M_6 H locs hw h47 hF => ?_)
                    have h43 := (hF 43 (by decide)).trans h43
                    have h44 := (hF 44 (by decide)).trans h44
                    have h45 := (hF 45 (by decide)).trans h45
                    have h46 := (hF 46 (by decide)).trans h46
                    have h72 := (hF 72 (by decide)).trans h72
                    have h73 := (hF 73 (by decide)).trans h73
                    have hFF := kF_st hFF hF (by first | decide | simp)
                    rw [pfx_s (by rw [if_neg hmv])] at h47
                    have hct : nI (cnt (fun g => decide (g < G) && !(pp g == mow g)) i) + nI 0 = nI (cnt (fun g => decide (g < G) && !(pp g == mow g)) (i + 1)) := by rw [nI_add, cnt_f (by simpa using hmv), Nat.add_zero]
                    refine lv_iload_n C.1 C.2.1 dX9_scale_115 rfl (lv_at hl 1 rfl) ?_
                    refine lv_aload_n C.1 C.2.1 dX9_scale_116 rfl (lv_at hl 2 rfl) ?_
                    refine k_get C hw 43 (by omega) h43 rfl inlX9 7 (by decide) q_127 rfl dX9_scale_117 ?_
                    refine lv_iload C.1 C.2.1 dX9_scale_120 (lv_at hl 0 rfl) ?_
                    refine k_zald C hw 47 (by omega) h47 (by omega) (by first | decide | omega) dX9_scale_122 ?_
                    refine lv_if_eq (tgt := 130) C.1 C.2.1 dX9_scale_123 (by decide) (fun c123 => ?_) (fun c123 => ?_)
                    · refine lv_iconst (v := nI 0) C.1 C.2.1 dX9_scale_130 (by decide) ?_
                      refine lv_iadd C.1 C.2.1 dX9_scale_131 ?_
                      refine k_topi (y := nI (cnt (fun g => decide (g < G) && !(pp g == mow g)) (i + 1))) (hct) ?_
                      refine lv_istore_n (lv' := [(3, .int (nI (cnt (fun g => decide (g < G) && !(pp g == mow g)) (i + 1)))), (4, .int (nI i)), (0, .ref (b + 43)), (1, .int tn), (2, .int rl)]) C.1 C.2.1 dX9_scale_132 rfl hl (by decide) rfl (fun ls hl => ?_)
                      refine lv_aload_n C.1 C.2.1 dX9_scale_133 rfl (lv_at hl 2 rfl) ?_
                      refine k_get C hw 43 (by omega) h43 rfl inlX9 5 (by decide) q_124 rfl dX9_scale_134 ?_
                      refine lv_iload C.1 C.2.1 dX9_scale_137 (lv_at hl 1 rfl) ?_
                      refine lv_dup2_11 C.1 C.2.1 dX9_scale_139 rfl rfl ?_
                      refine k_iald C hw 45 (by omega) h45 (by omega) (by first | decide | omega) dX9_scale_140 ?_
                      refine lv_aload_n C.1 C.2.1 dX9_scale_141 rfl (lv_at hl 2 rfl) ?_
                      refine k_get C hw 43 (by omega) h43 rfl inlX9 7 (by decide) q_127 rfl dX9_scale_142 ?_
                      refine lv_iload C.1 C.2.1 dX9_scale_145 (lv_at hl 1 rfl) ?_
                      refine k_zald C hw 47 (by omega) h47 (by omega) (by first | decide | omega) dX9_scale_147 ?_
                      refine lv_if_eq (tgt := 155) C.1 C.2.1 dX9_scale_148 (by decide) (fun c148 => ?_) (fun c148 => ?_)
                      · refine lv_iconst (v := nI 0) C.1 C.2.1 dX9_scale_155 (by decide) ?_
                        refine lv_iadd C.1 C.2.1 dX9_scale_156 ?_
                        refine k_iast C hw 45 (by omega) h45 (by omega) (by first | decide | omega) dX9_scale_157 (fun M_7 H locs hw h45 hF => ?_)
                        have h43 := (hF 43 (by decide)).trans h43
                        have h44 := (hF 44 (by decide)).trans h44
                        have h46 := (hF 46 (by decide)).trans h46
                        have h47 := (hF 47 (by decide)).trans h47
                        have h72 := (hF 72 (by decide)).trans h72
                        have h73 := (hF 73 (by decide)).trans h73
                        have hFF := kF_st hFF hF (by first | decide | simp)
                        rw [pfx_s (by rw [pfx_at, if_neg hmv])] at h45
                        refine lv_aload_n C.1 C.2.1 dX9_scale_158 rfl (lv_at hl 2 rfl) ?_
                        refine k_get C hw 43 (by omega) h43 rfl inlX9 4 (by decide) q_123 rfl dX9_scale_159 ?_
                        refine lv_iload C.1 C.2.1 dX9_scale_162 (lv_at hl 1 rfl) ?_
                        refine lv_iload C.1 C.2.1 dX9_scale_164 (lv_at hl 1 rfl) ?_
                        refine lv_aload_n C.1 C.2.1 dX9_scale_166 rfl (lv_at hl 2 rfl) ?_
                        refine k_get C hw 43 (by omega) h43 rfl inlX9 0 (by decide) q_170 rfl dX9_scale_167 ?_
                        refine lv_icmp_ge (tgt := 183) C.1 C.2.1 dX9_scale_170 (by decide) (fun c170 => ?_) (fun c170 => ?_)
                        · refine lv_iconst (v := nI 0) C.1 C.2.1 dX9_scale_183 (by decide) ?_
                          refine k_iast C hw 44 (by omega) h44 (by omega) (by first | decide | omega) dX9_scale_184 (fun M_8 H locs hw h44 hF => ?_)
                          have h43 := (hF 43 (by decide)).trans h43
                          have h45 := (hF 45 (by decide)).trans h45
                          have h46 := (hF 46 (by decide)).trans h46
                          have h47 := (hF 47 (by decide)).trans h47
                          have h72 := (hF 72 (by decide)).trans h72
                          have h73 := (hF 73 (by decide)).trans h73
                          have hFF := kF_st hFF hF (by first | decide | simp)
                          rw [pfx_s (if_neg (by omega)).symm] at h44
                          refine lv_aload_n C.1 C.2.1 dX9_scale_185 rfl (lv_at hl 2 rfl) ?_
                          refine k_get C hw 43 (by omega) h43 rfl inlX9 6 (by decide) q_125 rfl dX9_scale_186 ?_
                          refine lv_iload C.1 C.2.1 dX9_scale_189 (lv_at hl 1 rfl) ?_
                          refine lv_aload_n C.1 C.2.1 dX9_scale_191 rfl (lv_at hl 2 rfl) ?_
                          refine k_get C hw 43 (by omega) h43 rfl inlX9 6 (by decide) q_125 rfl dX9_scale_192 ?_
                          refine lv_iload C.1 C.2.1 dX9_scale_195 (lv_at hl 1 rfl) ?_
                          refine k_iald C hw 46 (by omega) h46 (by omega) (by first | decide | omega) dX9_scale_197 ?_
                          refine lv_iconst (v := nI 2) C.1 C.2.1 dX9_scale_198 (by decide) ?_
                          refine lv_idiv C.1 C.2.1 dX9_scale_199 (by decide) ?_
                          refine k_iast C hw 46 (by omega) h46 (by omega) (by first | decide | omega) dX9_scale_200 (fun M_9 H locs hw h46 hF => ?_)
                          have h43 := (hF 43 (by decide)).trans h43
                          have h44 := (hF 44 (by decide)).trans h44
                          have h45 := (hF 45 (by decide)).trans h45
                          have h47 := (hF 47 (by decide)).trans h47
                          have h72 := (hF 72 (by decide)).trans h72
                          have h73 := (hF 73 (by decide)).trans h73
                          have hFF := kF_st hFF hF (by first | decide | simp)
                          rw [pfx_s (by rw [pfx_at])] at h46
                          refine lv_iinc (v := (nI (i + 1))) (lv' := [(4, .int (nI (i + 1))), (3, .int (nI (cnt (fun g => decide (g < G) && !(pp g == mow g)) (i + 1)))), (0, .ref (b + 43)), (1, .int tn), (2, .int rl)]) C.1 C.2.1 dX9_scale_201 hl (k := 1) rfl (k_inc _ 1) (by decide) rfl (fun ls hl => ?_)
                          refine lv_goto (tgt := 70) C.1 C.2.1 dX9_scale_204 (by decide) ?_
                          exact ih70  (i + 1) M_9 (by omega) (by omega) hFF h43 h44 h45 h46 h47 h72 h73  ls _ _ (lv_sub hl [0, 1, 2, 3, 4] rfl) hw
                        · exact absurd c89 c170
                      · exact absurd ((pfx_in (f := (fun g => if g < G ∧ ¬ pp g = mow g then nI 1 else nI 0)) (h := mmv) (Nat.lt_succ_self i)).trans (if_neg hmv)) c148
                    · exact absurd ((pfx_in (f := (fun g => if g < G ∧ ¬ pp g = mow g then nI 1 else nI 0)) (h := mmv) (Nat.lt_succ_self i)).trans (if_neg hmv)) c123
                  · have q89 : ¬ G ≤ i := fun z => c89 ((nI_leI (by omega) (by omega)).mpr z)
                    refine lv_aload_n C.1 C.2.1 dX9_scale_92 rfl (lv_at hl 2 rfl) ?_
                    refine k_get C hw 43 (by omega) h43 rfl inlX9 39 (by decide) q_152 rfl dX9_scale_93 ?_
                    refine lv_iload C.1 C.2.1 dX9_scale_96 (lv_at hl 0 rfl) ?_
                    refine k_iald C hw 72 (by omega) h72 (by omega) (by first | decide | omega) dX9_scale_98 ?_
                    refine lv_aload_n C.1 C.2.1 dX9_scale_99 rfl (lv_at hl 2 rfl) ?_
                    refine k_get C hw 43 (by omega) h43 rfl inlX9 4 (by decide) q_123 rfl dX9_scale_100 ?_
                    refine lv_iload C.1 C.2.1 dX9_scale_103 (lv_at hl 0 rfl) ?_
                    refine k_iald C hw 44 (by omega) h44 (by omega) (by first | decide | omega) dX9_scale_105 ?_
                    refine lv_icmp_eq (tgt := 113) C.1 C.2.1 dX9_scale_106 (by decide) (fun c106 => ?_) (fun c106 => ?_)
                    · rw [pfx_at] at c106
                      have hmv : ¬ (i < G ∧ ¬ pp i = mow i) := fun z => z.2 c106
                      refine lv_iconst (v := nI 0) C.1 C.2.1 dX9_scale_113 (by decide) ?_
                      refine k_zast C hw 47 (by omega) h47 (by first | exact Or.inl rfl | exact Or.inr rfl) (by omega) (by first | decide | omega) dX9_scale_114 (fun M_10 H locs hw h47 hF => ?_)
                      have h43 := (hF 43 (by decide)).trans h43
                      have h44 := (hF 44 (by decide)).trans h44
                      have h45 := (hF 45 (by decide)).trans h45
                      have h46 := (hF 46 (by decide)).trans h46
                      have h72 := (hF 72 (by decide)).trans h72
                      have h73 := (hF 73 (by decide)).trans h73
                      have hFF := kF_st hFF hF (by first | decide | simp)
                      rw [pfx_s (by rw [if_neg hmv])] at h47
                      have hct : nI (cnt (fun g => decide (g < G) && !(pp g == mow g)) i) + nI 0 = nI (cnt (fun g => decide (g < G) && !(pp g == mow g)) (i + 1)) := by rw [nI_add, cnt_f (by simpa using hmv), Nat.add_zero]
                      refine lv_iload_n C.1 C.2.1 dX9_scale_115 rfl (lv_at hl 1 rfl) ?_
                      refine lv_aload_n C.1 C.2.1 dX9_scale_116 rfl (lv_at hl 2 rfl) ?_
                      refine k_get C hw 43 (by omega) h43 rfl inlX9 7 (by decide) q_127 rfl dX9_scale_117 ?_
                      refine lv_iload C.1 C.2.1 dX9_scale_120 (lv_at hl 0 rfl) ?_
                      refine k_zald C hw 47 (by omega) h47 (by omega) (by first | decide | omega) dX9_scale_122 ?_
                      refine lv_if_eq (tgt := 130) C.1 C.2.1 dX9_scale_123 (by decide) (fun c123 => ?_) (fun c123 => ?_)
                      · refine lv_iconst (v := nI 0) C.1 C.2.1 dX9_scale_130 (by decide) ?_
                        refine lv_iadd C.1 C.2.1 dX9_scale_131 ?_
                        refine k_topi (y := nI (cnt (fun g => decide (g < G) && !(pp g == mow g)) (i + 1))) (hct) ?_
                        refine lv_istore_n (lv' := [(3, .int (nI (cnt (fun g => decide (g < G) && !(pp g == mow g)) (i + 1)))), (4, .int (nI i)), (0, .ref (b + 43)), (1, .int tn), (2, .int rl)]) C.1 C.2.1 dX9_scale_132 rfl hl (by decide) rfl (fun ls hl => ?_)
                        refine lv_aload_n C.1 C.2.1 dX9_scale_133 rfl (lv_at hl 2 rfl) ?_
                        refine k_get C hw 43 (by omega) h43 rfl inlX9 5 (by decide) q_124 rfl dX9_scale_134 ?_
                        refine lv_iload C.1 C.2.1 dX9_scale_137 (lv_at hl 1 rfl) ?_
                        refine lv_dup2_11 C.1 C.2.1 dX9_scale_139 rfl rfl ?_
                        refine k_iald C hw 45 (by omega) h45 (by omega) (by first | decide | omega) dX9_scale_140 ?_
                        refine lv_aload_n C.1 C.2.1 dX9_scale_141 rfl (lv_at hl 2 rfl) ?_
                        refine k_get C hw 43 (by omega) h43 rfl inlX9 7 (by decide) q_127 rfl dX9_scale_142 ?_
                        refine lv_iload C.1 C.2.1 dX9_scale_145 (lv_at hl 1 rfl) ?_
                        refine k_zald C hw 47 (by omega) h47 (by omega) (by first | decide | omega) dX9_scale_147 ?_
                        refine lv_if_eq (tgt := 155) C.1 C.2.1 dX9_scale_148 (by decide) (fun c148 => ?_) (fun c148 => ?_)
                        · refine lv_iconst (v := nI 0) C.1 C.2.1 dX9_scale_155 (by decide) ?_
                          refine lv_iadd C.1 C.2.1 dX9_scale_156 ?_
                          refine k_iast C hw 45 (by omega) h45 (by omega) (by first | decide | omega) dX9_scale_157 (fun M_11 H locs hw h45 hF => ?_)
                          have h43 := (hF 43 (by decide)).trans h43
                          have h44 := (hF 44 (by decide)).trans h44
                          have h46 := (hF 46 (by decide)).trans h46
                          have h47 := (hF 47 (by decide)).trans h47
                          have h72 := (hF 72 (by decide)).trans h72
                          have h73 := (hF 73 (by decide)).trans h73
                          have hFF := kF_st hFF hF (by first | decide | simp)
                          rw [pfx_s (by rw [pfx_at, if_neg hmv])] at h45
                          refine lv_aload_n C.1 C.2.1 dX9_scale_158 rfl (lv_at hl 2 rfl) ?_
                          refine k_get C hw 43 (by omega) h43 rfl inlX9 4 (by decide) q_123 rfl dX9_scale_159 ?_
                          refine lv_iload C.1 C.2.1 dX9_scale_162 (lv_at hl 1 rfl) ?_
                          refine lv_iload C.1 C.2.1 dX9_scale_164 (lv_at hl 1 rfl) ?_
                          refine lv_aload_n C.1 C.2.1 dX9_scale_166 rfl (lv_at hl 2 rfl) ?_
                          refine k_get C hw 43 (by omega) h43 rfl inlX9 0 (by decide) q_170 rfl dX9_scale_167 ?_
                          refine lv_icmp_ge (tgt := 183) C.1 C.2.1 dX9_scale_170 (by decide) (fun c170 => ?_) (fun c170 => ?_)
                          · exact absurd ((nI_leI (by omega) (by omega)).mp c170) q89
                          · refine lv_aload_n C.1 C.2.1 dX9_scale_173 rfl (lv_at hl 2 rfl) ?_
                            refine k_get C hw 43 (by omega) h43 rfl inlX9 39 (by decide) q_152 rfl dX9_scale_174 ?_
                            refine lv_iload C.1 C.2.1 dX9_scale_177 (lv_at hl 1 rfl) ?_
                            refine k_iald C hw 72 (by omega) h72 (by omega) (by first | decide | omega) dX9_scale_179 ?_
                            refine lv_goto (tgt := 184) C.1 C.2.1 dX9_scale_180 (by decide) ?_
                            refine k_iast C hw 44 (by omega) h44 (by omega) (by first | decide | omega) dX9_scale_184 (fun M_12 H locs hw h44 hF => ?_)
                            have h43 := (hF 43 (by decide)).trans h43
                            have h45 := (hF 45 (by decide)).trans h45
                            have h46 := (hF 46 (by decide)).trans h46
                            have h47 := (hF 47 (by decide)).trans h47
                            have h72 := (hF 72 (by decide)).trans h72
                            have h73 := (hF 73 (by decide)).trans h73
                            have hFF := kF_st hFF hF (by first | decide | simp)
                            rw [pfx_s (if_pos (by omega)).symm] at h44
                            refine lv_aload_n C.1 C.2.1 dX9_scale_185 rfl (lv_at hl 2 rfl) ?_
                            refine k_get C hw 43 (by omega) h43 rfl inlX9 6 (by decide) q_125 rfl dX9_scale_186 ?_
                            refine lv_iload C.1 C.2.1 dX9_scale_189 (lv_at hl 1 rfl) ?_
                            refine lv_aload_n C.1 C.2.1 dX9_scale_191 rfl (lv_at hl 2 rfl) ?_
                            refine k_get C hw 43 (by omega) h43 rfl inlX9 6 (by decide) q_125 rfl dX9_scale_192 ?_
                            refine lv_iload C.1 C.2.1 dX9_scale_195 (lv_at hl 1 rfl) ?_
                            refine k_iald C hw 46 (by omega) h46 (by omega) (by first | decide | omega) dX9_scale_197 ?_
                            refine lv_iconst (v := nI 2) C.1 C.2.1 dX9_scale_198 (by decide) ?_
                            refine lv_idiv C.1 C.2.1 dX9_scale_199 (by decide) ?_
                            refine k_iast C hw 46 (by omega) h46 (by omega) (by first | decide | omega) dX9_scale_200 (fun M_13 H locs hw h46 hF => ?_)
                            have h43 := (hF 43 (by decide)).trans h43
                            have h44 := (hF 44 (by decide)).trans h44
                            have h45 := (hF 45 (by decide)).trans h45
                            have h47 := (hF 47 (by decide)).trans h47
                            have h72 := (hF 72 (by decide)).trans h72
                            have h73 := (hF 73 (by decide)).trans h73
                            have hFF := kF_st hFF hF (by first | decide | simp)
                            rw [pfx_s (by rw [pfx_at])] at h46
                            refine lv_iinc (v := (nI (i + 1))) (lv' := [(4, .int (nI (i + 1))), (3, .int (nI (cnt (fun g => decide (g < G) && !(pp g == mow g)) (i + 1)))), (0, .ref (b + 43)), (1, .int tn), (2, .int rl)]) C.1 C.2.1 dX9_scale_201 hl (k := 1) rfl (k_inc _ 1) (by decide) rfl (fun ls hl => ?_)
                            refine lv_goto (tgt := 70) C.1 C.2.1 dX9_scale_204 (by decide) ?_
                            exact ih70  (i + 1) M_13 (by omega) (by omega) hFF h43 h44 h45 h46 h47 h72 h73  ls _ _ (lv_sub hl [0, 1, 2, 3, 4] rfl) hw
                        · exact absurd ((pfx_in (f := (fun g => if g < G ∧ ¬ pp g = mow g then nI 1 else nI 0)) (h := mmv) (Nat.lt_succ_self i)).trans (if_neg hmv)) c148
                      · exact absurd ((pfx_in (f := (fun g => if g < G ∧ ¬ pp g = mow g then nI 1 else nI 0)) (h := mmv) (Nat.lt_succ_self i)).trans (if_neg hmv)) c123
                    · rw [pfx_at] at c106
                      have hmv : i < G ∧ ¬ pp i = mow i := ⟨by omega, c106⟩
                      refine lv_iconst (v := nI 1) C.1 C.2.1 dX9_scale_109 (by decide) ?_
                      refine lv_goto (tgt := 114) C.1 C.2.1 dX9_scale_110 (by decide) ?_
                      refine k_zast C hw 47 (by omega) h47 (by first | exact Or.inl rfl | exact Or.inr rfl) (by omega) (by first | decide | omega) dX9_scale_114 (fun M_14 H locs hw h47 hF => ?_)
                      have h43 := (hF 43 (by decide)).trans h43
                      have h44 := (hF 44 (by decide)).trans h44
                      have h45 := (hF 45 (by decide)).trans h45
                      have h46 := (hF 46 (by decide)).trans h46
                      have h72 := (hF 72 (by decide)).trans h72
                      have h73 := (hF 73 (by decide)).trans h73
                      have hFF := kF_st hFF hF (by first | decide | simp)
                      rw [pfx_s (by rw [if_pos hmv])] at h47
                      have hct : nI (cnt (fun g => decide (g < G) && !(pp g == mow g)) i) + nI 1 = nI (cnt (fun g => decide (g < G) && !(pp g == mow g)) (i + 1)) := by rw [nI_add, cnt_t (by simp [hmv])]
                      refine lv_iload_n C.1 C.2.1 dX9_scale_115 rfl (lv_at hl 1 rfl) ?_
                      refine lv_aload_n C.1 C.2.1 dX9_scale_116 rfl (lv_at hl 2 rfl) ?_
                      refine k_get C hw 43 (by omega) h43 rfl inlX9 7 (by decide) q_127 rfl dX9_scale_117 ?_
                      refine lv_iload C.1 C.2.1 dX9_scale_120 (lv_at hl 0 rfl) ?_
                      refine k_zald C hw 47 (by omega) h47 (by omega) (by first | decide | omega) dX9_scale_122 ?_
                      refine lv_if_eq (tgt := 130) C.1 C.2.1 dX9_scale_123 (by decide) (fun c123 => ?_) (fun c123 => ?_)
                      · exact absurd (c123.symm.trans ((pfx_in (f := (fun g => if g < G ∧ ¬ pp g = mow g then nI 1 else nI 0)) (h := mmv) (Nat.lt_succ_self i)).trans (if_pos hmv))) (by decide)
                      · refine lv_iconst (v := nI 1) C.1 C.2.1 dX9_scale_126 (by decide) ?_
                        refine lv_goto (tgt := 131) C.1 C.2.1 dX9_scale_127 (by decide) ?_
                        refine lv_iadd C.1 C.2.1 dX9_scale_131 ?_
                        refine k_topi (y := nI (cnt (fun g => decide (g < G) && !(pp g == mow g)) (i + 1))) (hct) ?_
                        refine lv_istore_n (lv' := [(3, .int (nI (cnt (fun g => decide (g < G) && !(pp g == mow g)) (i + 1)))), (4, .int (nI i)), (0, .ref (b + 43)), (1, .int tn), (2, .int rl)]) C.1 C.2.1 dX9_scale_132 rfl hl (by decide) rfl (fun ls hl => ?_)
                        refine lv_aload_n C.1 C.2.1 dX9_scale_133 rfl (lv_at hl 2 rfl) ?_
                        refine k_get C hw 43 (by omega) h43 rfl inlX9 5 (by decide) q_124 rfl dX9_scale_134 ?_
                        refine lv_iload C.1 C.2.1 dX9_scale_137 (lv_at hl 1 rfl) ?_
                        refine lv_dup2_11 C.1 C.2.1 dX9_scale_139 rfl rfl ?_
                        refine k_iald C hw 45 (by omega) h45 (by omega) (by first | decide | omega) dX9_scale_140 ?_
                        refine lv_aload_n C.1 C.2.1 dX9_scale_141 rfl (lv_at hl 2 rfl) ?_
                        refine k_get C hw 43 (by omega) h43 rfl inlX9 7 (by decide) q_127 rfl dX9_scale_142 ?_
                        refine lv_iload C.1 C.2.1 dX9_scale_145 (lv_at hl 1 rfl) ?_
                        refine k_zald C hw 47 (by omega) h47 (by omega) (by first | decide | omega) dX9_scale_147 ?_
                        refine lv_if_eq (tgt := 155) C.1 C.2.1 dX9_scale_148 (by decide) (fun c148 => ?_) (fun c148 => ?_)
                        · exact absurd (c148.symm.trans ((pfx_in (f := (fun g => if g < G ∧ ¬ pp g = mow g then nI 1 else nI 0)) (h := mmv) (Nat.lt_succ_self i)).trans (if_pos hmv))) (by decide)
                        · refine lv_iconst (v := nI 1) C.1 C.2.1 dX9_scale_151 (by decide) ?_
                          refine lv_goto (tgt := 156) C.1 C.2.1 dX9_scale_152 (by decide) ?_
                          refine lv_iadd C.1 C.2.1 dX9_scale_156 ?_
                          refine k_iast C hw 45 (by omega) h45 (by omega) (by first | decide | omega) dX9_scale_157 (fun M_15 H locs hw h45 hF => ?_)
                          have h43 := (hF 43 (by decide)).trans h43
                          have h44 := (hF 44 (by decide)).trans h44
                          have h46 := (hF 46 (by decide)).trans h46
                          have h47 := (hF 47 (by decide)).trans h47
                          have h72 := (hF 72 (by decide)).trans h72
                          have h73 := (hF 73 (by decide)).trans h73
                          have hFF := kF_st hFF hF (by first | decide | simp)
                          rw [pfx_s (by rw [pfx_at, if_pos hmv])] at h45
                          refine lv_aload_n C.1 C.2.1 dX9_scale_158 rfl (lv_at hl 2 rfl) ?_
                          refine k_get C hw 43 (by omega) h43 rfl inlX9 4 (by decide) q_123 rfl dX9_scale_159 ?_
                          refine lv_iload C.1 C.2.1 dX9_scale_162 (lv_at hl 1 rfl) ?_
                          refine lv_iload C.1 C.2.1 dX9_scale_164 (lv_at hl 1 rfl) ?_
                          refine lv_aload_n C.1 C.2.1 dX9_scale_166 rfl (lv_at hl 2 rfl) ?_
                          refine k_get C hw 43 (by omega) h43 rfl inlX9 0 (by decide) q_170 rfl dX9_scale_167 ?_
                          refine lv_icmp_ge (tgt := 183) C.1 C.2.1 dX9_scale_170 (by decide) (fun c170 => ?_) (fun c170 => ?_)
                          · exact absurd ((nI_leI (by omega) (by omega)).mp c170) q89
                          · refine lv_aload_n C.1 C.2.1 dX9_scale_173 rfl (lv_at hl 2 rfl) ?_
                            refine k_get C hw 43 (by omega) h43 rfl inlX9 39 (by decide) q_152 rfl dX9_scale_174 ?_
                            refine lv_iload C.1 C.2.1 dX9_scale_177 (lv_at hl 1 rfl) ?_
                            refine k_iald C hw 72 (by omega) h72 (by omega) (by first | decide | omega) dX9_scale_179 ?_
                            refine lv_goto (tgt := 184) C.1 C.2.1 dX9_scale_180 (by decide) ?_
                            refine k_iast C hw 44 (by omega) h44 (by omega) (by first | decide | omega) dX9_scale_184 (fun M_16 H locs hw h44 hF => ?_)
                            have h43 := (hF 43 (by decide)).trans h43
                            have h45 := (hF 45 (by decide)).trans h45
                            have h46 := (hF 46 (by decide)).trans h46
                            have h47 := (hF 47 (by decide)).trans h47
                            have h72 := (hF 72 (by decide)).trans h72
                            have h73 := (hF 73 (by decide)).trans h73
                            have hFF := kF_st hFF hF (by first | decide | simp)
                            rw [pfx_s (if_pos (by omega)).symm] at h44
                            refine lv_aload_n C.1 C.2.1 dX9_scale_185 rfl (lv_at hl 2 rfl) ?_
                            refine k_get C hw 43 (by omega) h43 rfl inlX9 6 (by decide) q_125 rfl dX9_scale_186 ?_
                            refine lv_iload C.1 C.2.1 dX9_scale_189 (lv_at hl 1 rfl) ?_
                            refine lv_aload_n C.1 C.2.1 dX9_scale_191 rfl (lv_at hl 2 rfl) ?_
                            refine k_get C hw 43 (by omega) h43 rfl inlX9 6 (by decide) q_125 rfl dX9_scale_192 ?_
                            refine lv_iload C.1 C.2.1 dX9_scale_195 (lv_at hl 1 rfl) ?_
                            refine k_iald C hw 46 (by omega) h46 (by omega) (by first | decide | omega) dX9_scale_197 ?_
                            refine lv_iconst (v := nI 2) C.1 C.2.1 dX9_scale_198 (by decide) ?_
                            refine lv_idiv C.1 C.2.1 dX9_scale_199 (by decide) ?_
                            refine k_iast C hw 46 (by omega) h46 (by omega) (by first | decide | omega) dX9_scale_200 (fun M_17 H locs hw h46 hF => ?_)
                            have h43 := (hF 43 (by decide)).trans h43
                            have h44 := (hF 44 (by decide)).trans h44
                            have h45 := (hF 45 (by decide)).trans h45
                            have h47 := (hF 47 (by decide)).trans h47
                            have h72 := (hF 72 (by decide)).trans h72
                            have h73 := (hF 73 (by decide)).trans h73
                            have hFF := kF_st hFF hF (by first | decide | simp)
                            rw [pfx_s (by rw [pfx_at])] at h46
                            refine lv_iinc (v := (nI (i + 1))) (lv' := [(4, .int (nI (i + 1))), (3, .int (nI (cnt (fun g => decide (g < G) && !(pp g == mow g)) (i + 1)))), (0, .ref (b + 43)), (1, .int tn), (2, .int rl)]) C.1 C.2.1 dX9_scale_201 hl (k := 1) rfl (k_inc _ 1) (by decide) rfl (fun ls hl => ?_)
                            refine lv_goto (tgt := 70) C.1 C.2.1 dX9_scale_204 (by decide) ?_
                            exact ih70  (i + 1) M_17 (by omega) (by omega) hFF h43 h44 h45 h46 h47 h72 h73  ls _ _ (lv_sub hl [0, 1, 2, 3, 4] rfl) hw
            exact L70 (_ + 1) (0) M_3 (Nat.lt_succ_self _) (Nat.zero_le _) hFF h43 h44 h45 h46 h47 h72 h73  ls _ _ (lv_sub hl [0, 1, 2, 3, 4] rfl) hw
          · have hno : ¬ dpv w mow (lmN (sN w G) s_ m1) G m1 m1 0 < 1000000 := fun y => c54 ((lg_cmp_ge _ _).mpr (by have e9 := hlf m1 (Nat.le_refl _) 0 (Nat.zero_le _); rw [Nat.sub_self] at e9; exact Int64.not_lt.mp (fun z => enc_neg.mp (by rw [← e9]; exact z) y)))
            refine lv_bipush (v := (-106)) C.1 C.2.1 dX9_scale_57 (by decide) ?_
            rw [← ekn] at hno
            exact hret _ _ (Nat.le_of_ble_eq_true rfl) (Nat.le_of_ble_eq_true rfl) hw (⟨rfl, hFF, ⟨_, h72⟩, ⟨_, h73⟩, Or.inr (Or.inr (Or.inr (Or.inl ⟨⟨c2, h12_⟩, Int32.not_lt.mpr c23, c30, hno, rfl, hF⟩)))⟩) dX9_scale_59
        · refine lv_aload_n C.1 C.2.1 dX9_scale_33 rfl (lv_at hl 0 rfl) ?_
          refine lv_iload_n C.1 C.2.1 dX9_scale_34 rfl (lv_at hl 1 rfl) ?_
          refine k_topi (y := nI m1) (em) ?_
          refine k_vv C hw 43 (by omega) h43 rfl (c_X9_planEven (by omega) h43 h72  (hG) (hm0) (by omega)) kv_X9_192 rfl hl.1 ⟨Nat.le_of_ble_eq_true rfl, Nat.le_of_ble_eq_true rfl⟩ (Nat.le_of_ble_eq_true rfl) ⟨Nat.le_of_ble_eq_true rfl, Nat.le_of_ble_eq_true rfl⟩ dX9_scale_35 (fun M_18 n9 H locs hp hw => ?_)
          obtain ⟨en9, hF, h72⟩ := hp
          have en9 : n9 = n := en9
          rw [en9] at hw
          have h43 := (hF 43 (by decide)).trans h43
          have h44 := (hF 44 (by decide)).trans h44
          have h45 := (hF 45 (by decide)).trans h45
          have h46 := (hF 46 (by decide)).trans h46
          have h47 := (hF 47 (by decide)).trans h47
          have h73 := (hF 73 (by decide)).trans h73
          have hFF := kF_st hFF hF (by first | decide | simp)
          refine lv_goto (tgt := 65) C.1 C.2.1 dX9_scale_38 (by decide) ?_
          obtain ⟨pp, epp⟩ : ∃ pp, pp = lay mpl (evF G m1) m1 := ⟨_, rfl⟩
          rw [← epp] at h72
          refine lv_iconst (v := nI 0) C.1 C.2.1 dX9_scale_65 (by decide) ?_
          refine lv_istore_n (lv' := [(3, .int (nI 0)), (0, .ref (b + 43)), (1, .int tn), (2, .int rl)]) C.1 C.2.1 dX9_scale_66 rfl hl (by decide) rfl (fun ls hl => ?_)
          refine lv_iconst (v := nI 0) C.1 C.2.1 dX9_scale_67 (by decide) ?_
          refine lv_istore (lv' := [(4, .int (nI 0)), (3, .int (nI 0)), (0, .ref (b + 43)), (1, .int tn), (2, .int rl)]) C.1 C.2.1 dX9_scale_68 hl (by decide) rfl (fun ls hl => ?_)
          have L70 : ∀ (N70 : Nat) (i : Nat) (Mx70 : Nat → va_E), (32 - i < N70) → (i ≤ 32) → kF [43, 44, 45, 46, 47, 72, 73] M Mx70 → Mx70 43 = .inr (9, [.int (nI G), .int (nI mo), .int (nI ta), .int sl, .ref (b + 44), .ref (b + 45), .ref (b + 46), .ref (b + 47), .int (nI ca), .ref (b + 48), .ref (b + 49), .ref (b + 50), .ref (b + 51), .ref (b + 52), .int (nI os), .ref (b + 53), .ref (b + 54), .ref (b + 55), .int tr, .int (nI ts), .ref (b + 56), .ref (b + 57), .int (nI lg), .ref (b + 58), .ref (b + 59), .ref (b + 60), .ref (b + 61), .int (nI mm), .int sc, .ref (b + 62), .ref (b + 63), .ref (b + 64), .ref (b + 65), .ref (b + 66), .ref (b + 67), .ref (b + 68), .ref (b + 69), .ref (b + 70), .ref (b + 71), .ref (b + 72), .ref (b + 73)]) → Mx70 44 = .inl (cI, 32, .inl (pfx (fun g => if g < G then pp g else nI 0) mow i)) → Mx70 45 = .inl (cI, 32, .inl (pfx (fun g => if g < G ∧ ¬ pp g = mow g then mep g + nI 1 else mep g + nI 0) mep i)) → Mx70 46 = .inl (cI, 32, .inl (pfx (fun g => mwe g / nI 2) mwe i)) → Mx70 47 = .inl (cZ, 32, .inl (pfx (fun g => if g < G ∧ ¬ pp g = mow g then nI 1 else nI 0) mmv i)) → Mx70 72 = .inl (cI, 32, .inl pp) → Mx70 73 = .inl (cJ, 429, .inr (.inl mlf)) → ∀ (ls : Array Slot) (H : Heap) (locs : List Loc), lv_has ls 5 [(4, .int (nI i)), (3, .int (nI (cnt (fun g => decide (g < G) && !(pp g == mow g)) i))), (0, .ref (b + 43)), (1, .int tn), (2, .int rl)] → kW D b Mx70 n s.heap H locs → W p l e ({ frames := 3, cells := 0, slots := 0, locals := 81 } : Room) s m ([.ref (b + 43), .int tn, .int rl] : List Value).toArray below meth c H locs 0 0 Q (F0 m 70 ls []) := by
            intro N70
            induction N70 with
            | zero => intro i Mx70 hm70 hi hFF h43 h44 h45 h46 h47 h72 h73 ls H locs hl hw; omega
            | succ N70 ih70 =>
              intro i Mx70 hm70 hi hFF h43 h44 h45 h46 h47 h72 h73 ls H locs hl hw
              refine lv_iload C.1 C.2.1 dX9_scale_70 (lv_at hl 0 rfl) ?_
              refine lv_bipush (v := nI 32) C.1 C.2.1 dX9_scale_72 (by decide) ?_
              refine lv_icmp_ge (tgt := 207) C.1 C.2.1 dX9_scale_74 (by decide) (fun c74 => ?_) (fun c74 => ?_)
              · have q74 := (nI_leI (by omega) (by omega)).mp c74
                have q74 : i = 32 := by omega
                rw [q74] at h47 h45 h44 h46
                refine lv_aload_n C.1 C.2.1 dX9_scale_207 rfl (lv_at hl 2 rfl) ?_
                refine lv_iload_n C.1 C.2.1 dX9_scale_208 rfl (lv_at hl 3 rfl) ?_
                refine k_topi (y := nI m1) (em) ?_
                refine k_put (tf := .int) C hw 43 (by omega) h43 rfl inlX9 tyX9 tyX9_ok nmX9 2 (by decide) q_172 rfl (by decide +kernel) rfl rfl (Nat.le_of_ble_eq_true rfl) dX9_scale_209 (fun M_19 H locs hw h43 hF => ?_)
                have h43 : M_19 43 = .inr (9, [.int (nI G), .int (nI mo), .int (nI m1), .int sl, .ref (b + 44), .ref (b + 45), .ref (b + 46), .ref (b + 47), .int (nI ca), .ref (b + 48), .ref (b + 49), .ref (b + 50), .ref (b + 51), .ref (b + 52), .int (nI os), .ref (b + 53), .ref (b + 54), .ref (b + 55), .int tr, .int (nI ts), .ref (b + 56), .ref (b + 57), .int (nI lg), .ref (b + 58), .ref (b + 59), .ref (b + 60), .ref (b + 61), .int (nI mm), .int sc, .ref (b + 62), .ref (b + 63), .ref (b + 64), .ref (b + 65), .ref (b + 66), .ref (b + 67), .ref (b + 68), .ref (b + 69), .ref (b + 70), .ref (b + 71), .ref (b + 72), .ref (b + 73)]) := h43
                have h44 := (hF 44 (by decide)).trans h44
                have h45 := (hF 45 (by decide)).trans h45
                have h46 := (hF 46 (by decide)).trans h46
                have h47 := (hF 47 (by decide)).trans h47
                have h72 := (hF 72 (by decide)).trans h72
                have h73 := (hF 73 (by decide)).trans h73
                have hFF := kF_st hFF hF (by first | decide | simp)
                refine lv_aload_n C.1 C.2.1 dX9_scale_212 rfl (lv_at hl 2 rfl) ?_
                refine lv_dup C.1 C.2.1 dX9_scale_213 rfl ?_
                refine k_get C hw 43 (by omega) h43 rfl inlX9 28 (by decide) q_165 rfl dX9_scale_214 ?_
                refine lv_iconst (v := nI 1) C.1 C.2.1 dX9_scale_217 (by decide) ?_
                refine lv_iadd C.1 C.2.1 dX9_scale_218 ?_
                refine k_put (tf := .int) C hw 43 (by omega) h43 rfl inlX9 tyX9 tyX9_ok nmX9 28 (by decide) q_165 rfl (by decide +kernel) rfl rfl (Nat.le_of_ble_eq_true rfl) dX9_scale_219 (fun M_20 H locs hw h43 hF => ?_)
                have h43 : M_20 43 = .inr (9, [.int (nI G), .int (nI mo), .int (nI m1), .int sl, .ref (b + 44), .ref (b + 45), .ref (b + 46), .ref (b + 47), .int (nI ca), .ref (b + 48), .ref (b + 49), .ref (b + 50), .ref (b + 51), .ref (b + 52), .int (nI os), .ref (b + 53), .ref (b + 54), .ref (b + 55), .int tr, .int (nI ts), .ref (b + 56), .ref (b + 57), .int (nI lg), .ref (b + 58), .ref (b + 59), .ref (b + 60), .ref (b + 61), .int (nI mm), .int (sc + (nI 1)), .ref (b + 62), .ref (b + 63), .ref (b + 64), .ref (b + 65), .ref (b + 66), .ref (b + 67), .ref (b + 68), .ref (b + 69), .ref (b + 70), .ref (b + 71), .ref (b + 72), .ref (b + 73)]) := h43
                have h44 := (hF 44 (by decide)).trans h44
                have h45 := (hF 45 (by decide)).trans h45
                have h46 := (hF 46 (by decide)).trans h46
                have h47 := (hF 47 (by decide)).trans h47
                have h72 := (hF 72 (by decide)).trans h72
                have h73 := (hF 73 (by decide)).trans h73
                have hFF := kF_st hFF hF (by first | decide | simp)
                refine lv_iload_n C.1 C.2.1 dX9_scale_222 rfl (lv_at hl 1 rfl) ?_
                rw [← ekn] at h43 epp
                rw [epp] at h47 h45 h44
                exact hret _ _ (Nat.le_of_ble_eq_true rfl) (Nat.le_of_ble_eq_true rfl) hw (⟨rfl, hFF, ⟨_, h72⟩, ⟨_, h73⟩, Or.inr (Or.inr (Or.inl ⟨⟨c2, h12_⟩, Int32.not_lt.mpr c23, c30, by rw [q74, epp], h43, h47, h45, h44, h46⟩))⟩) dX9_scale_223
              · have q74 : ¬ 32 ≤ i := fun z => c74 ((nI_leI (by omega) (by omega)).mpr z)
                refine lv_aload_n C.1 C.2.1 dX9_scale_77 rfl (lv_at hl 2 rfl) ?_
                refine k_get C hw 43 (by omega) h43 rfl inlX9 7 (by decide) q_127 rfl dX9_scale_78 ?_
                refine lv_iload C.1 C.2.1 dX9_scale_81 (lv_at hl 0 rfl) ?_
                refine lv_iload C.1 C.2.1 dX9_scale_83 (lv_at hl 0 rfl) ?_
                refine lv_aload_n C.1 C.2.1 dX9_scale_85 rfl (lv_at hl 2 rfl) ?_
                refine k_get C hw 43 (by omega) h43 rfl inlX9 0 (by decide) q_170 rfl dX9_scale_86 ?_
                refine lv_icmp_ge (tgt := 113) C.1 C.2.1 dX9_scale_89 (by decide) (fun c89 => ?_) (fun c89 => ?_)
                · have q89 : G ≤ i := (nI_leI (by omega) (by omega)).mp c89
                  have hmv : ¬ (i < G ∧ ¬ pp i = mow i) := fun z => by omega
                  refine lv_iconst (v := nI 0) C.1 C.2.1 dX9_scale_113 (by decide) ?_
                  refine k_zast C hw 47 (by omega) h47 (by first | exact Or.inl rfl | exact Or.inr rfl) (by omega) (by first | decide | omega) dX9_scale_114 (fun M_21 H locs hw h47 hF => ?_)
                  have h43 := (hF 43 (by decide)).trans h43
                  have h44 := (hF 44 (by decide)).trans h44
                  have h45 := (hF 45 (by decide)).trans h45
                  have h46 := (hF 46 (by decide)).trans h46
                  have h72 := (hF 72 (by decide)).trans h72
                  have h73 := (hF 73 (by decide)).trans h73
                  have hFF := kF_st hFF hF (by first | decide | simp)
                  rw [pfx_s (by rw [if_neg hmv])] at h47
                  have hct : nI (cnt (fun g => decide (g < G) && !(pp g == mow g)) i) + nI 0 = nI (cnt (fun g => decide (g < G) && !(pp g == mow g)) (i + 1)) := by rw [nI_add, cnt_f (by simpa using hmv), Nat.add_zero]
                  refine lv_iload_n C.1 C.2.1 dX9_scale_115 rfl (lv_at hl 1 rfl) ?_
                  refine lv_aload_n C.1 C.2.1 dX9_scale_116 rfl (lv_at hl 2 rfl) ?_
                  refine k_get C hw 43 (by omega) h43 rfl inlX9 7 (by decide) q_127 rfl dX9_scale_117 ?_
                  refine lv_iload C.1 C.2.1 dX9_scale_120 (lv_at hl 0 rfl) ?_
                  refine k_zald C hw 47 (by omega) h47 (by omega) (by first | decide | omega) dX9_scale_122 ?_
                  refine lv_if_eq (tgt := 130) C.1 C.2.1 dX9_scale_123 (by decide) (fun c123 => ?_) (fun c123 => ?_)
                  · refine lv_iconst (v := nI 0) C.1 C.2.1 dX9_scale_130 (by decide) ?_
                    refine lv_iadd C.1 C.2.1 dX9_scale_131 ?_
                    refine k_topi (y := nI (cnt (fun g => decide (g < G) && !(pp g == mow g)) (i + 1))) (hct) ?_
                    refine lv_istore_n (lv' := [(3, .int (nI (cnt (fun g => decide (g < G) && !(pp g == mow g)) (i + 1)))), (4, .int (nI i)), (0, .ref (b + 43)), (1, .int tn), (2, .int rl)]) C.1 C.2.1 dX9_scale_132 rfl hl (by decide) rfl (fun ls hl => ?_)
                    refine lv_aload_n C.1 C.2.1 dX9_scale_133 rfl (lv_at hl 2 rfl) ?_
                    refine k_get C hw 43 (by omega) h43 rfl inlX9 5 (by decide) q_124 rfl dX9_scale_134 ?_
                    refine lv_iload C.1 C.2.1 dX9_scale_137 (lv_at hl 1 rfl) ?_
                    refine lv_dup2_11 C.1 C.2.1 dX9_scale_139 rfl rfl ?_
                    refine k_iald C hw 45 (by omega) h45 (by omega) (by first | decide | omega) dX9_scale_140 ?_
                    refine lv_aload_n C.1 C.2.1 dX9_scale_141 rfl (lv_at hl 2 rfl) ?_
                    refine k_get C hw 43 (by omega) h43 rfl inlX9 7 (by decide) q_127 rfl dX9_scale_142 ?_
                    refine lv_iload C.1 C.2.1 dX9_scale_145 (lv_at hl 1 rfl) ?_
                    refine k_zald C hw 47 (by omega) h47 (by omega) (by first | decide | omega) dX9_scale_147 ?_
                    refine lv_if_eq (tgt := 155) C.1 C.2.1 dX9_scale_148 (by decide) (fun c148 => ?_) (fun c148 => ?_)
                    · refine lv_iconst (v := nI 0) C.1 C.2.1 dX9_scale_155 (by decide) ?_
                      refine lv_iadd C.1 C.2.1 dX9_scale_156 ?_
                      refine k_iast C hw 45 (by omega) h45 (by omega) (by first | decide | omega) dX9_scale_157 (fun M_22 H locs hw h45 hF => ?_)
                      have h43 := (hF 43 (by decide)).trans h43
                      have h44 := (hF 44 (by decide)).trans h44
                      have h46 := (hF 46 (by decide)).trans h46
                      have h47 := (hF 47 (by decide)).trans h47
                      have h72 := (hF 72 (by decide)).trans h72
                      have h73 := (hF 73 (by decide)).trans h73
                      have hFF := kF_st hFF hF (by first | decide | simp)
                      rw [pfx_s (by rw [pfx_at, if_neg hmv])] at h45
                      refine lv_aload_n C.1 C.2.1 dX9_scale_158 rfl (lv_at hl 2 rfl) ?_
                      refine k_get C hw 43 (by omega) h43 rfl inlX9 4 (by decide) q_123 rfl dX9_scale_159 ?_
                      refine lv_iload C.1 C.2.1 dX9_scale_162 (lv_at hl 1 rfl) ?_
                      refine lv_iload C.1 C.2.1 dX9_scale_164 (lv_at hl 1 rfl) ?_
                      refine lv_aload_n C.1 C.2.1 dX9_scale_166 rfl (lv_at hl 2 rfl) ?_
                      refine k_get C hw 43 (by omega) h43 rfl inlX9 0 (by decide) q_170 rfl dX9_scale_167 ?_
                      refine lv_icmp_ge (tgt := 183) C.1 C.2.1 dX9_scale_170 (by decide) (fun c170 => ?_) (fun c170 => ?_)
                      · refine lv_iconst (v := nI 0) C.1 C.2.1 dX9_scale_183 (by decide) ?_
                        refine k_iast C hw 44 (by omega) h44 (by omega) (by first | decide | omega) dX9_scale_184 (fun M_23 H locs hw h44 hF => ?_)
                        have h43 := (hF 43 (by decide)).trans h43
                        have h45 := (hF 45 (by decide)).trans h45
                        have h46 := (hF 46 (by decide)).trans h46
                        have h47 := (hF 47 (by decide)).trans h47
                        have h72 := (hF 72 (by decide)).trans h72
                        have h73 := (hF 73 (by decide)).trans h73
                        have hFF := kF_st hFF hF (by first | decide | simp)
                        rw [pfx_s (if_neg (by omega)).symm] at h44
                        refine lv_aload_n C.1 C.2.1 dX9_scale_185 rfl (lv_at hl 2 rfl) ?_
                        refine k_get C hw 43 (by omega) h43 rfl inlX9 6 (by decide) q_125 rfl dX9_scale_186 ?_
                        refine lv_iload C.1 C.2.1 dX9_scale_189 (lv_at hl 1 rfl) ?_
                        refine lv_aload_n C.1 C.2.1 dX9_scale_191 rfl (lv_at hl 2 rfl) ?_
                        refine k_get C hw 43 (by omega) h43 rfl inlX9 6 (by decide) q_125 rfl dX9_scale_192 ?_
                        refine lv_iload C.1 C.2.1 dX9_scale_195 (lv_at hl 1 rfl) ?_
                        refine k_iald C hw 46 (by omega) h46 (by omega) (by first | decide | omega) dX9_scale_197 ?_
                        refine lv_iconst (v := nI 2) C.1 C.2.1 dX9_scale_198 (by decide) ?_
                        refine lv_idiv C.1 C.2.1 dX9_scale_199 (by decide) ?_
                        refine k_iast C hw 46 (by omega) h46 (by omega) (by first | decide | omega) dX9_scale_200 (fun M_24 H locs hw h46 hF => ?_)
                        have h43 := (hF 43 (by decide)).trans h43
                        have h44 := (hF 44 (by decide)).trans h44
                        have h45 := (hF 45 (by decide)).trans h45
                        have h47 := (hF 47 (by decide)).trans h47
                        have h72 := (hF 72 (by decide)).trans h72
                        have h73 := (hF 73 (by decide)).trans h73
                        have hFF := kF_st hFF hF (by first | decide | simp)
                        rw [pfx_s (by rw [pfx_at])] at h46
                        refine lv_iinc (v := (nI (i + 1))) (lv' := [(4, .int (nI (i + 1))), (3, .int (nI (cnt (fun g => decide (g < G) && !(pp g == mow g)) (i + 1)))), (0, .ref (b + 43)), (1, .int tn), (2, .int rl)]) C.1 C.2.1 dX9_scale_201 hl (k := 1) rfl (k_inc _ 1) (by decide) rfl (fun ls hl => ?_)
                        refine lv_goto (tgt := 70) C.1 C.2.1 dX9_scale_204 (by decide) ?_
                        exact ih70  (i + 1) M_24 (by omega) (by omega) hFF h43 h44 h45 h46 h47 h72 h73  ls _ _ (lv_sub hl [0, 1, 2, 3, 4] rfl) hw
                      · exact absurd c89 c170
                    · exact absurd ((pfx_in (f := (fun g => if g < G ∧ ¬ pp g = mow g then nI 1 else nI 0)) (h := mmv) (Nat.lt_succ_self i)).trans (if_neg hmv)) c148
                  · exact absurd ((pfx_in (f := (fun g => if g < G ∧ ¬ pp g = mow g then nI 1 else nI 0)) (h := mmv) (Nat.lt_succ_self i)).trans (if_neg hmv)) c123
                · have q89 : ¬ G ≤ i := fun z => c89 ((nI_leI (by omega) (by omega)).mpr z)
                  refine lv_aload_n C.1 C.2.1 dX9_scale_92 rfl (lv_at hl 2 rfl) ?_
                  refine k_get C hw 43 (by omega) h43 rfl inlX9 39 (by decide) q_152 rfl dX9_scale_93 ?_
                  refine lv_iload C.1 C.2.1 dX9_scale_96 (lv_at hl 0 rfl) ?_
                  refine k_iald C hw 72 (by omega) h72 (by omega) (by first | decide | omega) dX9_scale_98 ?_
                  refine lv_aload_n C.1 C.2.1 dX9_scale_99 rfl (lv_at hl 2 rfl) ?_
                  refine k_get C hw 43 (by omega) h43 rfl inlX9 4 (by decide) q_123 rfl dX9_scale_100 ?_
                  refine lv_iload C.1 C.2.1 dX9_scale_103 (lv_at hl 0 rfl) ?_
                  refine k_iald C hw 44 (by omega) h44 (by omega) (by first | decide | omega) dX9_scale_105 ?_
                  refine lv_icmp_eq (tgt := 113) C.1 C.2.1 dX9_scale_106 (by decide) (fun c106 => ?_) (fun c106 => ?_)
                  · rw [pfx_at] at c106
                    have hmv : ¬ (i < G ∧ ¬ pp i = mow i) := fun z => z.2 c106
                    refine lv_iconst (v := nI 0) C.1 C.2.1 dX9_scale_113 (by decide) ?_
                    refine k_zast C hw 47 (by omega) h47 (by first | exact Or.inl rfl | exact Or.inr rfl) (by omega) (by first | decide | omega) dX9_scale_114 (fun M_25 H locs hw h47 hF => ?_)
                    have h43 := (hF 43 (by decide)).trans h43
                    have h44 := (hF 44 (by decide)).trans h44
                    have h45 := (hF 45 (by decide)).trans h45
                    have h46 := (hF 46 (by decide)).trans h46
                    have h72 := (hF 72 (by decide)).trans h72
                    have h73 := (hF 73 (by decide)).trans h73
                    have hFF := kF_st hFF hF (by first | decide | simp)
                    rw [pfx_s (by rw [if_neg hmv])] at h47
                    have hct : nI (cnt (fun g => decide (g < G) && !(pp g == mow g)) i) + nI 0 = nI (cnt (fun g => decide (g < G) && !(pp g == mow g)) (i + 1)) := by rw [nI_add, cnt_f (by simpa using hmv), Nat.add_zero]
                    refine lv_iload_n C.1 C.2.1 dX9_scale_115 rfl (lv_at hl 1 rfl) ?_
                    refine lv_aload_n C.1 C.2.1 dX9_scale_116 rfl (lv_at hl 2 rfl) ?_
                    refine k_get C hw 43 (by omega) h43 rfl inlX9 7 (by decide) q_127 rfl dX9_scale_117 ?_
                    refine lv_iload C.1 C.2.1 dX9_scale_120 (lv_at hl 0 rfl) ?_
                    refine k_zald C hw 47 (by omega) h47 (by omega) (by first | decide | omega) dX9_scale_122 ?_
                    refine lv_if_eq (tgt := 130) C.1 C.2.1 dX9_scale_123 (by decide) (fun c123 => ?_) (fun c123 => ?_)
                    · refine lv_iconst (v := nI 0) C.1 C.2.1 dX9_scale_130 (by decide) ?_
                      refine lv_iadd C.1 C.2.1 dX9_scale_131 ?_
                      refine k_topi (y := nI (cnt (fun g => decide (g < G) && !(pp g == mow g)) (i + 1))) (hct) ?_
                      refine lv_istore_n (lv' := [(3, .int (nI (cnt (fun g => decide (g < G) && !(pp g == mow g)) (i + 1)))), (4, .int (nI i)), (0, .ref (b + 43)), (1, .int tn), (2, .int rl)]) C.1 C.2.1 dX9_scale_132 rfl hl (by decide) rfl (fun ls hl => ?_)
                      refine lv_aload_n C.1 C.2.1 dX9_scale_133 rfl (lv_at hl 2 rfl) ?_
                      refine k_get C hw 43 (by omega) h43 rfl inlX9 5 (by decide) q_124 rfl dX9_scale_134 ?_
                      refine lv_iload C.1 C.2.1 dX9_scale_137 (lv_at hl 1 rfl) ?_
                      refine lv_dup2_11 C.1 C.2.1 dX9_scale_139 rfl rfl ?_
                      refine k_iald C hw 45 (by omega) h45 (by omega) (by first | decide | omega) dX9_scale_140 ?_
                      refine lv_aload_n C.1 C.2.1 dX9_scale_141 rfl (lv_at hl 2 rfl) ?_
                      refine k_get C hw 43 (by omega) h43 rfl inlX9 7 (by decide) q_127 rfl dX9_scale_142 ?_
                      refine lv_iload C.1 C.2.1 dX9_scale_145 (lv_at hl 1 rfl) ?_
                      refine k_zald C hw 47 (by omega) h47 (by omega) (by first | decide | omega) dX9_scale_147 ?_
                      refine lv_if_eq (tgt := 155) C.1 C.2.1 dX9_scale_148 (by decide) (fun c148 => ?_) (fun c148 => ?_)
                      · refine lv_iconst (v := nI 0) C.1 C.2.1 dX9_scale_155 (by decide) ?_
                        refine lv_iadd C.1 C.2.1 dX9_scale_156 ?_
                        refine k_iast C hw 45 (by omega) h45 (by omega) (by first | decide | omega) dX9_scale_157 (fun M_26 H locs hw h45 hF => ?_)
                        have h43 := (hF 43 (by decide)).trans h43
                        have h44 := (hF 44 (by decide)).trans h44
                        have h46 := (hF 46 (by decide)).trans h46
                        have h47 := (hF 47 (by decide)).trans h47
                        have h72 := (hF 72 (by decide)).trans h72
                        have h73 := (hF 73 (by decide)).trans h73
                        have hFF := kF_st hFF hF (by first | decide | simp)
                        rw [pfx_s (by rw [pfx_at, if_neg hmv])] at h45
                        refine lv_aload_n C.1 C.2.1 dX9_scale_158 rfl (lv_at hl 2 rfl) ?_
                        refine k_get C hw 43 (by omega) h43 rfl inlX9 4 (by decide) q_123 rfl dX9_scale_159 ?_
                        refine lv_iload C.1 C.2.1 dX9_scale_162 (lv_at hl 1 rfl) ?_
                        refine lv_iload C.1 C.2.1 dX9_scale_164 (lv_at hl 1 rfl) ?_
                        refine lv_aload_n C.1 C.2.1 dX9_scale_166 rfl (lv_at hl 2 rfl) ?_
                        refine k_get C hw 43 (by omega) h43 rfl inlX9 0 (by decide) q_170 rfl dX9_scale_167 ?_
                        refine lv_icmp_ge (tgt := 183) C.1 C.2.1 dX9_scale_170 (by decide) (fun c170 => ?_) (fun c170 => ?_)
                        · exact absurd ((nI_leI (by omega) (by omega)).mp c170) q89
                        · refine lv_aload_n C.1 C.2.1 dX9_scale_173 rfl (lv_at hl 2 rfl) ?_
                          refine k_get C hw 43 (by omega) h43 rfl inlX9 39 (by decide) q_152 rfl dX9_scale_174 ?_
                          refine lv_iload C.1 C.2.1 dX9_scale_177 (lv_at hl 1 rfl) ?_
                          refine k_iald C hw 72 (by omega) h72 (by omega) (by first | decide | omega) dX9_scale_179 ?_
                          refine lv_goto (tgt := 184) C.1 C.2.1 dX9_scale_180 (by decide) ?_
                          refine k_iast C hw 44 (by omega) h44 (by omega) (by first | decide | omega) dX9_scale_184 (fun M_27 H locs hw h44 hF => ?_)
                          have h43 := (hF 43 (by decide)).trans h43
                          have h45 := (hF 45 (by decide)).trans h45
                          have h46 := (hF 46 (by decide)).trans h46
                          have h47 := (hF 47 (by decide)).trans h47
                          have h72 := (hF 72 (by decide)).trans h72
                          have h73 := (hF 73 (by decide)).trans h73
                          have hFF := kF_st hFF hF (by first | decide | simp)
                          rw [pfx_s (if_pos (by omega)).symm] at h44
                          refine lv_aload_n C.1 C.2.1 dX9_scale_185 rfl (lv_at hl 2 rfl) ?_
                          refine k_get C hw 43 (by omega) h43 rfl inlX9 6 (by decide) q_125 rfl dX9_scale_186 ?_
                          refine lv_iload C.1 C.2.1 dX9_scale_189 (lv_at hl 1 rfl) ?_
                          refine lv_aload_n C.1 C.2.1 dX9_scale_191 rfl (lv_at hl 2 rfl) ?_
                          refine k_get C hw 43 (by omega) h43 rfl inlX9 6 (by decide) q_125 rfl dX9_scale_192 ?_
                          refine lv_iload C.1 C.2.1 dX9_scale_195 (lv_at hl 1 rfl) ?_
                          refine k_iald C hw 46 (by omega) h46 (by omega) (by first | decide | omega) dX9_scale_197 ?_
                          refine lv_iconst (v := nI 2) C.1 C.2.1 dX9_scale_198 (by decide) ?_
                          refine lv_idiv C.1 C.2.1 dX9_scale_199 (by decide) ?_
                          refine k_iast C hw 46 (by omega) h46 (by omega) (by first | decide | omega) dX9_scale_200 (fun M_28 H locs hw h46 hF => ?_)
                          have h43 := (hF 43 (by decide)).trans h43
                          have h44 := (hF 44 (by decide)).trans h44
                          have h45 := (hF 45 (by decide)).trans h45
                          have h47 := (hF 47 (by decide)).trans h47
                          have h72 := (hF 72 (by decide)).trans h72
                          have h73 := (hF 73 (by decide)).trans h73
                          have hFF := kF_st hFF hF (by first | decide | simp)
                          rw [pfx_s (by rw [pfx_at])] at h46
                          refine lv_iinc (v := (nI (i + 1))) (lv' := [(4, .int (nI (i + 1))), (3, .int (nI (cnt (fun g => decide (g < G) && !(pp g == mow g)) (i + 1)))), (0, .ref (b + 43)), (1, .int tn), (2, .int rl)]) C.1 C.2.1 dX9_scale_201 hl (k := 1) rfl (k_inc _ 1) (by decide) rfl (fun ls hl => ?_)
                          refine lv_goto (tgt := 70) C.1 C.2.1 dX9_scale_204 (by decide) ?_
                          exact ih70  (i + 1) M_28 (by omega) (by omega) hFF h43 h44 h45 h46 h47 h72 h73  ls _ _ (lv_sub hl [0, 1, 2, 3, 4] rfl) hw
                      · exact absurd ((pfx_in (f := (fun g => if g < G ∧ ¬ pp g = mow g then nI 1 else nI 0)) (h := mmv) (Nat.lt_succ_self i)).trans (if_neg hmv)) c148
                    · exact absurd ((pfx_in (f := (fun g => if g < G ∧ ¬ pp g = mow g then nI 1 else nI 0)) (h := mmv) (Nat.lt_succ_self i)).trans (if_neg hmv)) c123
                  · rw [pfx_at] at c106
                    have hmv : i < G ∧ ¬ pp i = mow i := ⟨by omega, c106⟩
                    refine lv_iconst (v := nI 1) C.1 C.2.1 dX9_scale_109 (by decide) ?_
                    refine lv_goto (tgt := 114) C.1 C.2.1 dX9_scale_110 (by decide) ?_
                    refine k_zast C hw 47 (by omega) h47 (by first | exact Or.inl rfl | exact Or.inr rfl) (by omega) (by first | decide | omega) dX9_scale_114 (fun M_29 H locs hw h47 hF => ?_)
                    have h43 := (hF 43 (by decide)).trans h43
                    have h44 := (hF 44 (by decide)).trans h44
                    have h45 := (hF 45 (by decide)).trans h45
                    have h46 := (hF 46 (by decide)).trans h46
                    have h72 := (hF 72 (by decide)).trans h72
                    have h73 := (hF 73 (by decide)).trans h73
                    have hFF := kF_st hFF hF (by first | decide | simp)
                    rw [pfx_s (by rw [if_pos hmv])] at h47
                    have hct : nI (cnt (fun g => decide (g < G) && !(pp g == mow g)) i) + nI 1 = nI (cnt (fun g => decide (g < G) && !(pp g == mow g)) (i + 1)) := by rw [nI_add, cnt_t (by simp [hmv])]
                    refine lv_iload_n C.1 C.2.1 dX9_scale_115 rfl (lv_at hl 1 rfl) ?_
                    refine lv_aload_n C.1 C.2.1 dX9_scale_116 rfl (lv_at hl 2 rfl) ?_
                    refine k_get C hw 43 (by omega) h43 rfl inlX9 7 (by decide) q_127 rfl dX9_scale_117 ?_
                    refine lv_iload C.1 C.2.1 dX9_scale_120 (lv_at hl 0 rfl) ?_
                    refine k_zald C hw 47 (by omega) h47 (by omega) (by first | decide | omega) dX9_scale_122 ?_
                    refine lv_if_eq (tgt := 130) C.1 C.2.1 dX9_scale_123 (by decide) (fun c123 => ?_) (fun c123 => ?_)
                    · exact absurd (c123.symm.trans ((pfx_in (f := (fun g => if g < G ∧ ¬ pp g = mow g then nI 1 else nI 0)) (h := mmv) (Nat.lt_succ_self i)).trans (if_pos hmv))) (by decide)
                    · refine lv_iconst (v := nI 1) C.1 C.2.1 dX9_scale_126 (by decide) ?_
                      refine lv_goto (tgt := 131) C.1 C.2.1 dX9_scale_127 (by decide) ?_
                      refine lv_iadd C.1 C.2.1 dX9_scale_131 ?_
                      refine k_topi (y := nI (cnt (fun g => decide (g < G) && !(pp g == mow g)) (i + 1))) (hct) ?_
                      refine lv_istore_n (lv' := [(3, .int (nI (cnt (fun g => decide (g < G) && !(pp g == mow g)) (i + 1)))), (4, .int (nI i)), (0, .ref (b + 43)), (1, .int tn), (2, .int rl)]) C.1 C.2.1 dX9_scale_132 rfl hl (by decide) rfl (fun ls hl => ?_)
                      refine lv_aload_n C.1 C.2.1 dX9_scale_133 rfl (lv_at hl 2 rfl) ?_
                      refine k_get C hw 43 (by omega) h43 rfl inlX9 5 (by decide) q_124 rfl dX9_scale_134 ?_
                      refine lv_iload C.1 C.2.1 dX9_scale_137 (lv_at hl 1 rfl) ?_
                      refine lv_dup2_11 C.1 C.2.1 dX9_scale_139 rfl rfl ?_
                      refine k_iald C hw 45 (by omega) h45 (by omega) (by first | decide | omega) dX9_scale_140 ?_
                      refine lv_aload_n C.1 C.2.1 dX9_scale_141 rfl (lv_at hl 2 rfl) ?_
                      refine k_get C hw 43 (by omega) h43 rfl inlX9 7 (by decide) q_127 rfl dX9_scale_142 ?_
                      refine lv_iload C.1 C.2.1 dX9_scale_145 (lv_at hl 1 rfl) ?_
                      refine k_zald C hw 47 (by omega) h47 (by omega) (by first | decide | omega) dX9_scale_147 ?_
                      refine lv_if_eq (tgt := 155) C.1 C.2.1 dX9_scale_148 (by decide) (fun c148 => ?_) (fun c148 => ?_)
                      · exact absurd (c148.symm.trans ((pfx_in (f := (fun g => if g < G ∧ ¬ pp g = mow g then nI 1 else nI 0)) (h := mmv) (Nat.lt_succ_self i)).trans (if_pos hmv))) (by decide)
                      · refine lv_iconst (v := nI 1) C.1 C.2.1 dX9_scale_151 (by decide) ?_
                        refine lv_goto (tgt := 156) C.1 C.2.1 dX9_scale_152 (by decide) ?_
                        refine lv_iadd C.1 C.2.1 dX9_scale_156 ?_
                        refine k_iast C hw 45 (by omega) h45 (by omega) (by first | decide | omega) dX9_scale_157 (fun M_30 H locs hw h45 hF => ?_)
                        have h43 := (hF 43 (by decide)).trans h43
                        have h44 := (hF 44 (by decide)).trans h44
                        have h46 := (hF 46 (by decide)).trans h46
                        have h47 := (hF 47 (by decide)).trans h47
                        have h72 := (hF 72 (by decide)).trans h72
                        have h73 := (hF 73 (by decide)).trans h73
                        have hFF := kF_st hFF hF (by first | decide | simp)
                        rw [pfx_s (by rw [pfx_at, if_pos hmv])] at h45
                        refine lv_aload_n C.1 C.2.1 dX9_scale_158 rfl (lv_at hl 2 rfl) ?_
                        refine k_get C hw 43 (by omega) h43 rfl inlX9 4 (by decide) q_123 rfl dX9_scale_159 ?_
                        refine lv_iload C.1 C.2.1 dX9_scale_162 (lv_at hl 1 rfl) ?_
                        refine lv_iload C.1 C.2.1 dX9_scale_164 (lv_at hl 1 rfl) ?_
                        refine lv_aload_n C.1 C.2.1 dX9_scale_166 rfl (lv_at hl 2 rfl) ?_
                        refine k_get C hw 43 (by omega) h43 rfl inlX9 0 (by decide) q_170 rfl dX9_scale_167 ?_
                        refine lv_icmp_ge (tgt := 183) C.1 C.2.1 dX9_scale_170 (by decide) (fun c170 => ?_) (fun c170 => ?_)
                        · exact absurd ((nI_leI (by omega) (by omega)).mp c170) q89
                        · refine lv_aload_n C.1 C.2.1 dX9_scale_173 rfl (lv_at hl 2 rfl) ?_
                          refine k_get C hw 43 (by omega) h43 rfl inlX9 39 (by decide) q_152 rfl dX9_scale_174 ?_
                          refine lv_iload C.1 C.2.1 dX9_scale_177 (lv_at hl 1 rfl) ?_
                          refine k_iald C hw 72 (by omega) h72 (by omega) (by first | decide | omega) dX9_scale_179 ?_
                          refine lv_goto (tgt := 184) C.1 C.2.1 dX9_scale_180 (by decide) ?_
                          refine k_iast C hw 44 (by omega) h44 (by omega) (by first | decide | omega) dX9_scale_184 (fun M_31 H locs hw h44 hF => ?_)
                          have h43 := (hF 43 (by decide)).trans h43
                          have h45 := (hF 45 (by decide)).trans h45
                          have h46 := (hF 46 (by decide)).trans h46
                          have h47 := (hF 47 (by decide)).trans h47
                          have h72 := (hF 72 (by decide)).trans h72
                          have h73 := (hF 73 (by decide)).trans h73
                          have hFF := kF_st hFF hF (by first | decide | simp)
                          rw [pfx_s (if_pos (by omega)).symm] at h44
                          refine lv_aload_n C.1 C.2.1 dX9_scale_185 rfl (lv_at hl 2 rfl) ?_
                          refine k_get C hw 43 (by omega) h43 rfl inlX9 6 (by decide) q_125 rfl dX9_scale_186 ?_
                          refine lv_iload C.1 C.2.1 dX9_scale_189 (lv_at hl 1 rfl) ?_
                          refine lv_aload_n C.1 C.2.1 dX9_scale_191 rfl (lv_at hl 2 rfl) ?_
                          refine k_get C hw 43 (by omega) h43 rfl inlX9 6 (by decide) q_125 rfl dX9_scale_192 ?_
                          refine lv_iload C.1 C.2.1 dX9_scale_195 (lv_at hl 1 rfl) ?_
                          refine k_iald C hw 46 (by omega) h46 (by omega) (by first | decide | omega) dX9_scale_197 ?_
                          refine lv_iconst (v := nI 2) C.1 C.2.1 dX9_scale_198 (by decide) ?_
                          refine lv_idiv C.1 C.2.1 dX9_scale_199 (by decide) ?_
                          refine k_iast C hw 46 (by omega) h46 (by omega) (by first | decide | omega) dX9_scale_200 (fun M_32 H locs hw h46 hF => ?_)
                          have h43 := (hF 43 (by decide)).trans h43
                          have h44 := (hF 44 (by decide)).trans h44
                          have h45 := (hF 45 (by decide)).trans h45
                          have h47 := (hF 47 (by decide)).trans h47
                          have h72 := (hF 72 (by decide)).trans h72
                          have h73 := (hF 73 (by decide)).trans h73
                          have hFF := kF_st hFF hF (by first | decide | simp)
                          rw [pfx_s (by rw [pfx_at])] at h46
                          refine lv_iinc (v := (nI (i + 1))) (lv' := [(4, .int (nI (i + 1))), (3, .int (nI (cnt (fun g => decide (g < G) && !(pp g == mow g)) (i + 1)))), (0, .ref (b + 43)), (1, .int tn), (2, .int rl)]) C.1 C.2.1 dX9_scale_201 hl (k := 1) rfl (k_inc _ 1) (by decide) rfl (fun ls hl => ?_)
                          refine lv_goto (tgt := 70) C.1 C.2.1 dX9_scale_204 (by decide) ?_
                          exact ih70  (i + 1) M_32 (by omega) (by omega) hFF h43 h44 h45 h46 h47 h72 h73  ls _ _ (lv_sub hl [0, 1, 2, 3, 4] rfl) hw
          exact L70 (_ + 1) (0) M_18 (Nat.lt_succ_self _) (Nat.zero_le _) hFF h43 h44 h45 h46 h47 h72 h73  ls _ _ (lv_sub hl [0, 1, 2, 3, 4] rfl) hw
      · refine lv_bipush (v := (-105)) C.1 C.2.1 dX9_scale_26 (by decide) ?_
        exact hret _ _ (Nat.le_of_ble_eq_true rfl) (Nat.le_of_ble_eq_true rfl) hw (⟨rfl, kF_rf, ⟨_, h72⟩, ⟨_, h73⟩, Or.inr (Or.inl ⟨⟨c2, h12_⟩, Int32.not_le.mp c23, rfl, kF_rf⟩)⟩) dX9_scale_28
    · have h12_ : ¬ (¬ rl < 0 ∧ rl ≤ nI 1) := fun z => by rw [er9, if_pos ((inL_i (lo := 0) (hi := 1) 0 (nI 1) (by decide) (by decide)).mpr z)] at c12; exact absurd c12 (by decide)
      refine lv_bipush (v := (-102)) C.1 C.2.1 dX9_scale_15 (by decide) ?_
      exact hret _ _ (Nat.le_of_ble_eq_true rfl) (Nat.le_of_ble_eq_true rfl) hw (⟨rfl, kF_rf, ⟨_, h72⟩, ⟨_, h73⟩, Or.inl ⟨fun z => h12_ z.2, rfl, kF_rf⟩⟩) dX9_scale_17

set_option maxHeartbeats 4000000 in
set_option maxRecDepth 100000 in
theorem c_X9_least {l : Launch} {D : va_G} {cI cJ cZ cH cR : ClassId} {b : Nat} {n : Nat} {M : Nat → va_E}  {G : Nat} {mo : Nat} {ta : Nat} {sl : Int32} {ca : Nat} {os : Nat} {tr : Int32} {ts : Nat} {lg : Nat} {mm : Nat} {sc : Int32} {mow : Nat → Int32} {mwe : Nat → Int32} {mlf : Nat → Int64} {tn : Int32} {s_ : Nat} {w : Nat → Nat} (hn : 74 ≤ n) (h43 : M 43 = .inr (9, [.int (nI G), .int (nI mo), .int (nI ta), .int sl, .ref (b + 44), .ref (b + 45), .ref (b + 46), .ref (b + 47), .int (nI ca), .ref (b + 48), .ref (b + 49), .ref (b + 50), .ref (b + 51), .ref (b + 52), .int (nI os), .ref (b + 53), .ref (b + 54), .ref (b + 55), .int tr, .int (nI ts), .ref (b + 56), .ref (b + 57), .int (nI lg), .ref (b + 58), .ref (b + 59), .ref (b + 60), .ref (b + 61), .int (nI mm), .int sc, .ref (b + 62), .ref (b + 63), .ref (b + 64), .ref (b + 65), .ref (b + 66), .ref (b + 67), .ref (b + 68), .ref (b + 69), .ref (b + 70), .ref (b + 71), .ref (b + 72), .ref (b + 73)])) (h44 : M 44 = .inl (cI, 32, .inl mow)) (h46 : M 46 = .inl (cI, 32, .inl mwe)) (h73 : M 73 = .inl (cJ, 429, .inr (.inl mlf)))  (hG0 : 0 < G) (hG : G ≤ 32) (hw9 : ∀ g, g < G → mwe g = nI (w g)) (hsum : sN w G ≤ 1000) (hs_ : s_ ≤ 100) (hsl : sl = nI s_) (hmo : mo ≤ 12) : Met l yX9_least (kw yX9_least cX9_least 2 (some .long)) ({ frames := 3, cells := 0, slots := 0, locals := 81 }) (va_Pc [.ref (b + 43), .int tn] (kPre D (kT cI cJ cZ cH cR) b M n)) (va_Ql (fun (r : Int64) (u : (Nat → va_E) × Nat) => u.2 = n ∧ kF [73] M u.1 ∧ (∃ lf : Nat → Int64, u.1 73 = .inl (cJ, 429, .inr (.inl lf))) ∧ ((¬ (¬ tn < nI 1 ∧ tn ≤ nI mo) ∧ r = -1) ∨ ((¬ tn < nI 1 ∧ tn ≤ nI mo) ∧ r = enc (dpv w mow (lmN (sN w G) s_ (kn tn)) G (kn tn) (kn tn) 0)))) (kB D (kT cI cJ cZ cH cR) b) (kA b)) 0 0 (kA b) := by
  refine k_metL (by decide +kernel) (Nat.le_of_ble_eq_true rfl) ?_
  intro p e s m below meth c ls Q C hw hret hnm hl
  have hl : lv_has ls 2 [(0, .ref (b + 43)), (1, .int tn)] := hl
  have hFF : kF [73] M M := kF_rf
  refine lv_iload_n C.1 C.2.1 dX9_least_0 rfl (lv_at hl 1 rfl) ?_
  refine lv_i2l C.1 C.2.1 dX9_least_1 rfl ?_
  refine lv_lconst (v := 1) C.1 C.2.1 dX9_least_2 rfl ?_
  refine lv_aload_n C.1 C.2.1 dX9_least_3 rfl (lv_at hl 0 rfl) ?_
  refine k_get C hw 43 (by omega) h43 rfl inlX9 1 (by decide) q_171 rfl dX9_least_4 ?_
  refine lv_i2l C.1 C.2.1 dX9_least_7 rfl ?_
  refine k_si C hw (c_X9_in   ) kv_X9_147 rfl hl.1 ⟨Nat.le_of_ble_eq_true rfl, Nat.le_of_ble_eq_true rfl⟩ (Nat.le_of_ble_eq_true rfl) ⟨Nat.le_of_ble_eq_true rfl, Nat.le_of_ble_eq_true rfl⟩ dX9_least_8 (fun r8 M_1 n9 H locs hp hw => ?_)
  obtain ⟨er8, en9, eM9⟩ := hp
  have en9 : n9 = n := en9
  rw [en9] at hw
  have eM9 : M_1 = M := eM9
  rw [eM9] at hw
  refine lv_if_ne (tgt := 18) C.1 C.2.1 dX9_least_11 (by decide) (fun c11 => ?_) (fun c11 => ?_)
  · have h11_ : ¬ tn < nI 1 ∧ tn ≤ nI mo := (inL_i (lo := 1) (hi := (nI mo).toInt64) (nI 1) (nI mo) (by decide) rfl).mp (Classical.byContradiction (fun z => c11 (by rw [er8, if_neg z])))
    obtain ⟨m1, hm0, hm1, em, ekn⟩ := tn_nI hmo (Int32.not_lt.mp h11_.1) h11_.2
    refine lv_aload_n C.1 C.2.1 dX9_least_18 rfl (lv_at hl 0 rfl) ?_
    refine lv_iload_n C.1 C.2.1 dX9_least_19 rfl (lv_at hl 1 rfl) ?_
    refine k_topi (y := nI m1) (em) ?_
    refine k_vv C hw 43 (by omega) h43 rfl (c_X9_findLeast (k := m1) (s_ := s_) (w := w) (by omega) h43 h44 h46 h73 hG0 hG hw9 hsum hs_ hsl hm0 (by omega)) kv_X9_196 rfl hl.1 ⟨Nat.le_of_ble_eq_true rfl, Nat.le_of_ble_eq_true rfl⟩ (Nat.le_of_ble_eq_true rfl) ⟨Nat.le_of_ble_eq_true rfl, Nat.le_of_ble_eq_true rfl⟩ dX9_least_20 (fun M_2 n9 H locs hp hw => ?_)
    obtain ⟨en9, hF, lf, h73, hlf⟩ := hp
    have en9 : n9 = n := en9
    rw [en9] at hw
    have h43 := (hF 43 (by decide)).trans h43
    have h44 := (hF 44 (by decide)).trans h44
    have h46 := (hF 46 (by decide)).trans h46
    have hFF := kF_st hFF hF (by first | decide | simp)
    refine lv_aload_n C.1 C.2.1 dX9_least_23 rfl (lv_at hl 0 rfl) ?_
    refine k_get C hw 43 (by omega) h43 rfl inlX9 40 (by decide) q_153 rfl dX9_least_24 ?_
    refine lv_iconst (v := nI 0) C.1 C.2.1 dX9_least_27 (by decide) ?_
    refine k_lald C hw 73 (by omega) h73 (by omega) (by first | decide | omega) dX9_least_28 ?_
    have e9 := hlf m1 (Nat.le_refl _) 0 (Nat.zero_le _)
    rw [Nat.sub_self, ← ekn] at e9
    exact hret _ _ (Nat.le_of_ble_eq_true rfl) (Nat.le_of_ble_eq_true rfl) hw (⟨rfl, hFF, ⟨_, h73⟩, Or.inr ⟨h11_, e9⟩⟩) dX9_least_29
  · have h11_ : ¬ (¬ tn < nI 1 ∧ tn ≤ nI mo) := fun z => by rw [er8, if_pos ((inL_i (lo := 1) (hi := (nI mo).toInt64) (nI 1) (nI mo) (by decide) rfl).mpr z)] at c11; exact absurd c11 (by decide)
    refine lv_ldc2 C.1 C.2.1 C.2.2.2.1 (C.2.2.2.2.1 _ q_363) dX9_least_14 ?_
    exact hret _ _ (Nat.le_of_ble_eq_true rfl) (Nat.le_of_ble_eq_true rfl) hw (⟨rfl, kF_rf, ⟨_, h73⟩, Or.inl ⟨h11_, rfl⟩⟩) dX9_least_17

set_option maxHeartbeats 4000000 in
set_option maxRecDepth 100000 in
theorem c_X9_moved {l : Launch} {D : va_G} {cI cJ cZ cH cR : ClassId} {b : Nat} {n : Nat} {M : Nat → va_E}  {G : Nat} {mo : Nat} {ta : Nat} {sl : Int32} {ca : Nat} {os : Nat} {tr : Int32} {ts : Nat} {lg : Nat} {mm : Nat} {sc : Int32} {mmv : Nat → Int32} {k : Int32} (hn : 48 ≤ n) (h43 : M 43 = .inr (9, [.int (nI G), .int (nI mo), .int (nI ta), .int sl, .ref (b + 44), .ref (b + 45), .ref (b + 46), .ref (b + 47), .int (nI ca), .ref (b + 48), .ref (b + 49), .ref (b + 50), .ref (b + 51), .ref (b + 52), .int (nI os), .ref (b + 53), .ref (b + 54), .ref (b + 55), .int tr, .int (nI ts), .ref (b + 56), .ref (b + 57), .int (nI lg), .ref (b + 58), .ref (b + 59), .ref (b + 60), .ref (b + 61), .int (nI mm), .int sc, .ref (b + 62), .ref (b + 63), .ref (b + 64), .ref (b + 65), .ref (b + 66), .ref (b + 67), .ref (b + 68), .ref (b + 69), .ref (b + 70), .ref (b + 71), .ref (b + 72), .ref (b + 73)])) (h47 : M 47 = .inl (cZ, 32, .inl mmv))   : Met l yX9_moved (kw yX9_moved cX9_moved 4 (some .int)) ({ frames := 0, cells := 0, slots := 0, locals := 0 }) (va_Pc [.ref (b + 43), .int k] (kPre D (kT cI cJ cZ cH cR) b M n)) (va_Qi (fun (r : Int32) (u : (Nat → va_E) × Nat) => r = (fI (fun x => (mvz mmv) x && (nI (cnt (mvz mmv) x) == k)) 32) ∧ u.2 = n ∧ u.1 = M) (kB D (kT cI cJ cZ cH cR) b) (kA b)) 0 0 (kA b) := by
  refine k_metI (by decide +kernel) (Nat.le_of_ble_eq_true rfl) ?_
  intro p e s m below meth c ls Q C hw hret hnm hl
  have hl : lv_has ls 4 [(0, .ref (b + 43)), (1, .int k)] := hl
  refine lv_iconst (v := nI 0) C.1 C.2.1 dX9_moved_0 (by decide) ?_
  refine lv_istore_n (lv' := [(2, .int (nI 0)), (0, .ref (b + 43)), (1, .int k)]) C.1 C.2.1 dX9_moved_1 rfl hl (by decide) rfl (fun ls hl => ?_)
  refine lv_iconst (v := nI 0) C.1 C.2.1 dX9_moved_2 (by decide) ?_
  refine lv_istore_n (lv' := [(3, .int (nI 0)), (2, .int (nI 0)), (0, .ref (b + 43)), (1, .int k)]) C.1 C.2.1 dX9_moved_3 rfl hl (by decide) rfl (fun ls hl => ?_)
  have L4 : ∀ (N4 : Nat) (i : Nat) (a : Nat), (32 - i < N4) → (i ≤ 32) → (a = cnt (mvz mmv) i) → (∀ j, j < i → ((mvz mmv) j && (nI (cnt (mvz mmv) j) == k)) = false) → ∀ (ls : Array Slot) (H : Heap) (locs : List Loc), lv_has ls 4 [(3, .int (nI i)), (2, .int (nI a)), (0, .ref (b + 43)), (1, .int k)] → kW D b M n s.heap H locs → W p l e ({ frames := 0, cells := 0, slots := 0, locals := 0 } : Room) s m ([.ref (b + 43), .int k] : List Value).toArray below meth c H locs 0 0 Q (F0 m 4 ls []) := by
    intro N4
    induction N4 with
    | zero => intro i a hm4 hi ha hno ls H locs hl hw; omega
    | succ N4 ih4 =>
      intro i a hm4 hi ha hno ls H locs hl hw
      refine lv_iload_n C.1 C.2.1 dX9_moved_4 rfl (lv_at hl 0 rfl) ?_
      refine lv_bipush (v := nI 32) C.1 C.2.1 dX9_moved_5 (by decide) ?_
      refine lv_icmp_ge (tgt := 35) C.1 C.2.1 dX9_moved_7 (by decide) (fun c7 => ?_) (fun c7 => ?_)
      · have q7 := (nI_leI (by omega) (by omega)).mp c7
        have q7 : i = 32 := by omega
        refine lv_bipush (v := (-106)) C.1 C.2.1 dX9_moved_35 (by decide) ?_
        exact hret _ _ (Nat.le_of_ble_eq_true rfl) (Nat.le_of_ble_eq_true rfl) hw (⟨(fI_none (fun j hj => hno j (by omega))).symm, rfl, rfl⟩) dX9_moved_37
      · have q7 : ¬ 32 ≤ i := fun z => c7 ((nI_leI (by omega) (by omega)).mpr z)
        refine lv_aload_n C.1 C.2.1 dX9_moved_10 rfl (lv_at hl 2 rfl) ?_
        refine k_get C hw 43 (by omega) h43 rfl inlX9 7 (by decide) q_127 rfl dX9_moved_11 ?_
        refine lv_iload_n C.1 C.2.1 dX9_moved_14 rfl (lv_at hl 0 rfl) ?_
        refine k_zald C hw 47 (by omega) h47 (by omega) (by first | decide | omega) dX9_moved_15 ?_
        refine lv_if_eq (tgt := 29) C.1 C.2.1 dX9_moved_16 (by decide) (fun c16 => ?_) (fun c16 => ?_)
        · refine lv_iinc (v := (nI (i + 1))) (lv' := [(3, .int (nI (i + 1))), (2, .int (nI a)), (0, .ref (b + 43)), (1, .int k)]) C.1 C.2.1 dX9_moved_29 hl (k := 0) rfl (k_inc _ 1) (by decide) rfl (fun ls hl => ?_)
          refine lv_goto (tgt := 4) C.1 C.2.1 dX9_moved_32 (by decide) ?_
          exact ih4  (i + 1) (a) (by omega) (by omega) (by rw [ha, cnt_f (by simp [c16])]) (fun j hj => by rcases Nat.lt_succ_iff_lt_or_eq.mp hj with h | h; exact hno j h; rw [h]; exact by simp [c16]) ls _ _ (lv_sub hl [0, 1, 2, 3] rfl) hw
        · refine lv_iload_n C.1 C.2.1 dX9_moved_19 rfl (lv_at hl 1 rfl) ?_
          refine lv_iload_n C.1 C.2.1 dX9_moved_20 rfl (lv_at hl 3 rfl) ?_
          refine lv_icmp_ne (tgt := 26) C.1 C.2.1 dX9_moved_21 (by decide) (fun c21 => ?_) (fun c21 => ?_)
          · refine lv_iinc (v := (nI (a + 1))) (lv' := [(2, .int (nI (a + 1))), (3, .int (nI i)), (0, .ref (b + 43)), (1, .int k)]) C.1 C.2.1 dX9_moved_26 hl (k := 1) rfl (k_inc _ 1) (by decide) rfl (fun ls hl => ?_)
            refine lv_iinc (v := (nI (i + 1))) (lv' := [(3, .int (nI (i + 1))), (2, .int (nI (a + 1))), (0, .ref (b + 43)), (1, .int k)]) C.1 C.2.1 dX9_moved_29 hl (k := 1) rfl (k_inc _ 1) (by decide) rfl (fun ls hl => ?_)
            refine lv_goto (tgt := 4) C.1 C.2.1 dX9_moved_32 (by decide) ?_
            exact ih4  (i + 1) (a + 1) (by omega) (by omega) (by rw [ha, cnt_t (by simp [c16])]) (fun j hj => by rcases Nat.lt_succ_iff_lt_or_eq.mp hj with h | h; exact hno j h; rw [h]; exact by rw [← ha]; simp [c21]) ls _ _ (lv_sub hl [0, 1, 2, 3] rfl) hw
          · refine lv_iload_n C.1 C.2.1 dX9_moved_24 rfl (lv_at hl 0 rfl) ?_
            exact hret _ _ (Nat.le_of_ble_eq_true rfl) (Nat.le_of_ble_eq_true rfl) hw (⟨by rw [fI_at (i := i) hno (by rw [← ha]; simp [c16, c21]) (by omega)], rfl, rfl⟩) dX9_moved_25
  exact L4 (_ + 1) (0) (0) (Nat.lt_succ_self _) (Nat.zero_le _) (rfl) (fun j hj => absurd hj (Nat.not_lt_zero j)) ls _ _ (lv_sub hl [0, 1, 2, 3] rfl) hw

set_option maxHeartbeats 4000000 in
set_option maxRecDepth 100000 in
theorem c_X9_waitingOf {l : Launch} {D : va_G} {cI cJ cZ cH cR : ClassId} {b : Nat} {n : Nat} {M : Nat → va_E}  {G : Nat} {mo : Nat} {ta : Nat} {sl : Int32} {ca : Nat} {os : Nat} {tr : Int32} {ts : Nat} {lg : Nat} {mm : Nat} {sc : Int32} {mrk : Nat → Int32} {mwa : Nat → Int32} {t : Int32} (hn : 51 ≤ n) (h43 : M 43 = .inr (9, [.int (nI G), .int (nI mo), .int (nI ta), .int sl, .ref (b + 44), .ref (b + 45), .ref (b + 46), .ref (b + 47), .int (nI ca), .ref (b + 48), .ref (b + 49), .ref (b + 50), .ref (b + 51), .ref (b + 52), .int (nI os), .ref (b + 53), .ref (b + 54), .ref (b + 55), .int tr, .int (nI ts), .ref (b + 56), .ref (b + 57), .int (nI lg), .ref (b + 58), .ref (b + 59), .ref (b + 60), .ref (b + 61), .int (nI mm), .int sc, .ref (b + 62), .ref (b + 63), .ref (b + 64), .ref (b + 65), .ref (b + 66), .ref (b + 67), .ref (b + 68), .ref (b + 69), .ref (b + 70), .ref (b + 71), .ref (b + 72), .ref (b + 73)])) (h48 : M 48 = .inl (cI, 400, .inl mrk)) (h50 : M 50 = .inl (cZ, 400, .inl mwa))  (hG0 : 0 < G) (hG : G ≤ 32) (hca : ca ≤ 400) : Met l yX9_waitingOf (kw yX9_waitingOf cX9_waitingOf 4 (some .int)) ({ frames := 1, cells := 0, slots := 0, locals := 23 }) (va_Pc [.ref (b + 43), .int t] (kPre D (kT cI cJ cZ cH cR) b M n)) (va_Qi (fun (r : Int32) (u : (Nat → va_E) × Nat) => r = (nI (cnt (wgQ G mrk mwa t) ca)) ∧ u.2 = n ∧ u.1 = M) (kB D (kT cI cJ cZ cH cR) b) (kA b)) 0 0 (kA b) := by
  refine k_metI (by decide +kernel) (Nat.le_of_ble_eq_true rfl) ?_
  intro p e s m below meth c ls Q C hw hret hnm hl
  have hl : lv_has ls 4 [(0, .ref (b + 43)), (1, .int t)] := hl
  refine lv_iconst (v := nI 0) C.1 C.2.1 dX9_waitingOf_0 (by decide) ?_
  refine lv_istore_n (lv' := [(2, .int (nI 0)), (0, .ref (b + 43)), (1, .int t)]) C.1 C.2.1 dX9_waitingOf_1 rfl hl (by decide) rfl (fun ls hl => ?_)
  refine lv_iconst (v := nI 0) C.1 C.2.1 dX9_waitingOf_2 (by decide) ?_
  refine lv_istore_n (lv' := [(3, .int (nI 0)), (2, .int (nI 0)), (0, .ref (b + 43)), (1, .int t)]) C.1 C.2.1 dX9_waitingOf_3 rfl hl (by decide) rfl (fun ls hl => ?_)
  have L4 : ∀ (N4 : Nat) (i : Nat) (a : Nat), (ca - i < N4) → (i ≤ ca) → (a = cnt (wgQ G mrk mwa t) i) → ∀ (ls : Array Slot) (H : Heap) (locs : List Loc), lv_has ls 4 [(3, .int (nI i)), (2, .int (nI a)), (0, .ref (b + 43)), (1, .int t)] → kW D b M n s.heap H locs → W p l e ({ frames := 1, cells := 0, slots := 0, locals := 23 } : Room) s m ([.ref (b + 43), .int t] : List Value).toArray below meth c H locs 0 0 Q (F0 m 4 ls []) := by
    intro N4
    induction N4 with
    | zero => intro i a hm4 hi ha ls H locs hl hw; omega
    | succ N4 ih4 =>
      intro i a hm4 hi ha ls H locs hl hw
      refine lv_iload_n C.1 C.2.1 dX9_waitingOf_4 rfl (lv_at hl 0 rfl) ?_
      refine lv_aload_n C.1 C.2.1 dX9_waitingOf_5 rfl (lv_at hl 2 rfl) ?_
      refine k_get C hw 43 (by omega) h43 rfl inlX9 8 (by decide) q_159 rfl dX9_waitingOf_6 ?_
      refine lv_icmp_ge (tgt := 49) C.1 C.2.1 dX9_waitingOf_9 (by decide) (fun c9 => ?_) (fun c9 => ?_)
      · have q9 := (nI_leI (by omega) (by omega)).mp c9
        have q9 : i = ca := by omega
        refine lv_iload_n C.1 C.2.1 dX9_waitingOf_49 rfl (lv_at hl 1 rfl) ?_
        exact hret _ _ (Nat.le_of_ble_eq_true rfl) (Nat.le_of_ble_eq_true rfl) hw (⟨by rw [ha, q9], rfl, rfl⟩) dX9_waitingOf_50
      · have q9 : ¬ ca ≤ i := fun z => c9 ((nI_leI (by omega) (by omega)).mpr z)
        refine lv_iload_n C.1 C.2.1 dX9_waitingOf_12 rfl (lv_at hl 1 rfl) ?_
        refine lv_aload_n C.1 C.2.1 dX9_waitingOf_13 rfl (lv_at hl 2 rfl) ?_
        refine k_get C hw 43 (by omega) h43 rfl inlX9 11 (by decide) q_130 rfl dX9_waitingOf_14 ?_
        refine lv_iload_n C.1 C.2.1 dX9_waitingOf_17 rfl (lv_at hl 0 rfl) ?_
        refine k_zald C hw 50 (by omega) h50 (by omega) (by first | decide | omega) dX9_waitingOf_18 ?_
        refine lv_if_eq (tgt := 40) C.1 C.2.1 dX9_waitingOf_19 (by decide) (fun c19 => ?_) (fun c19 => ?_)
        · refine lv_iconst (v := nI 0) C.1 C.2.1 dX9_waitingOf_40 (by decide) ?_
          refine lv_iadd C.1 C.2.1 dX9_waitingOf_41 ?_
          refine k_topi (y := nI (cnt (wgQ G mrk mwa t) (i + 1))) (by rw [nI_add, ha, cnt_f (by simp [c19]), Nat.add_zero]) ?_
          refine lv_istore_n (lv' := [(2, .int (nI (cnt (wgQ G mrk mwa t) (i + 1)))), (3, .int (nI i)), (0, .ref (b + 43)), (1, .int t)]) C.1 C.2.1 dX9_waitingOf_42 rfl hl (by decide) rfl (fun ls hl => ?_)
          refine lv_iinc (v := (nI (i + 1))) (lv' := [(3, .int (nI (i + 1))), (2, .int (nI (cnt (wgQ G mrk mwa t) (i + 1)))), (0, .ref (b + 43)), (1, .int t)]) C.1 C.2.1 dX9_waitingOf_43 hl (k := 1) rfl (k_inc _ 1) (by decide) rfl (fun ls hl => ?_)
          refine lv_goto (tgt := 4) C.1 C.2.1 dX9_waitingOf_46 (by decide) ?_
          exact ih4  (i + 1) (cnt (wgQ G mrk mwa t) (i + 1)) (by omega) (by omega) (rfl) ls _ _ (lv_sub hl [0, 1, 2, 3] rfl) hw
        · refine lv_aload_n C.1 C.2.1 dX9_waitingOf_22 rfl (lv_at hl 2 rfl) ?_
          refine lv_aload_n C.1 C.2.1 dX9_waitingOf_23 rfl (lv_at hl 2 rfl) ?_
          refine k_get C hw 43 (by omega) h43 rfl inlX9 9 (by decide) q_128 rfl dX9_waitingOf_24 ?_
          refine lv_iload_n C.1 C.2.1 dX9_waitingOf_27 rfl (lv_at hl 0 rfl) ?_
          refine k_iald C hw 48 (by omega) h48 (by omega) (by first | decide | omega) dX9_waitingOf_28 ?_
          refine k_vi C hw 43 (by omega) h43 rfl (c_X9_groupOf (by omega) h43  (by omega) (by omega)) kv_X9_160 rfl hl.1 ⟨Nat.le_of_ble_eq_true rfl, Nat.le_of_ble_eq_true rfl⟩ (Nat.le_of_ble_eq_true rfl) ⟨Nat.le_of_ble_eq_true rfl, Nat.le_of_ble_eq_true rfl⟩ dX9_waitingOf_29 (fun r29 M_1 n9 H locs hp hw => ?_)
          obtain ⟨er29, en9, eM9⟩ := hp
          have en9 : n9 = n := en9
          rw [en9] at hw
          have eM9 : M_1 = M := eM9
          rw [eM9] at hw
          subst er29
          refine lv_iload_n C.1 C.2.1 dX9_waitingOf_32 rfl (lv_at hl 3 rfl) ?_
          refine lv_icmp_ne (tgt := 40) C.1 C.2.1 dX9_waitingOf_33 (by decide) (fun c33 => ?_) (fun c33 => ?_)
          · refine lv_iconst (v := nI 0) C.1 C.2.1 dX9_waitingOf_40 (by decide) ?_
            refine lv_iadd C.1 C.2.1 dX9_waitingOf_41 ?_
            refine k_topi (y := nI (cnt (wgQ G mrk mwa t) (i + 1))) (by rw [nI_add, ha, cnt_f (by simp [c33]), Nat.add_zero]) ?_
            refine lv_istore_n (lv' := [(2, .int (nI (cnt (wgQ G mrk mwa t) (i + 1)))), (3, .int (nI i)), (0, .ref (b + 43)), (1, .int t)]) C.1 C.2.1 dX9_waitingOf_42 rfl hl (by decide) rfl (fun ls hl => ?_)
            refine lv_iinc (v := (nI (i + 1))) (lv' := [(3, .int (nI (i + 1))), (2, .int (nI (cnt (wgQ G mrk mwa t) (i + 1)))), (0, .ref (b + 43)), (1, .int t)]) C.1 C.2.1 dX9_waitingOf_43 hl (k := 1) rfl (k_inc _ 1) (by decide) rfl (fun ls hl => ?_)
            refine lv_goto (tgt := 4) C.1 C.2.1 dX9_waitingOf_46 (by decide) ?_
            exact ih4  (i + 1) (cnt (wgQ G mrk mwa t) (i + 1)) (by omega) (by omega) (rfl) ls _ _ (lv_sub hl [0, 1, 2, 3] rfl) hw
          · refine lv_iconst (v := nI 1) C.1 C.2.1 dX9_waitingOf_36 (by decide) ?_
            refine lv_goto (tgt := 41) C.1 C.2.1 dX9_waitingOf_37 (by decide) ?_
            refine lv_iadd C.1 C.2.1 dX9_waitingOf_41 ?_
            refine k_topi (y := nI (cnt (wgQ G mrk mwa t) (i + 1))) (by rw [nI_add, ha, cnt_t (by simp [c19, c33])]) ?_
            refine lv_istore_n (lv' := [(2, .int (nI (cnt (wgQ G mrk mwa t) (i + 1)))), (3, .int (nI i)), (0, .ref (b + 43)), (1, .int t)]) C.1 C.2.1 dX9_waitingOf_42 rfl hl (by decide) rfl (fun ls hl => ?_)
            refine lv_iinc (v := (nI (i + 1))) (lv' := [(3, .int (nI (i + 1))), (2, .int (nI (cnt (wgQ G mrk mwa t) (i + 1)))), (0, .ref (b + 43)), (1, .int t)]) C.1 C.2.1 dX9_waitingOf_43 hl (k := 1) rfl (k_inc _ 1) (by decide) rfl (fun ls hl => ?_)
            refine lv_goto (tgt := 4) C.1 C.2.1 dX9_waitingOf_46 (by decide) ?_
            exact ih4  (i + 1) (cnt (wgQ G mrk mwa t) (i + 1)) (by omega) (by omega) (rfl) ls _ _ (lv_sub hl [0, 1, 2, 3] rfl) hw
  exact L4 (_ + 1) (0) (0) (Nat.lt_succ_self _) (Nat.zero_le _) (rfl) ls _ _ (lv_sub hl [0, 1, 2, 3] rfl) hw

set_option maxHeartbeats 4000000 in
set_option maxRecDepth 100000 in
theorem c_X9_waiting {l : Launch} {D : va_G} {cI cJ cZ cH cR : ClassId} {b : Nat} {n : Nat} {M : Nat → va_E}  {G : Nat} {mo : Nat} {ta : Nat} {sl : Int32} {ca : Nat} {os : Nat} {tr : Int32} {ts : Nat} {lg : Nat} {mm : Nat} {sc : Int32} {mwa : Nat → Int32}  (hn : 51 ≤ n) (h43 : M 43 = .inr (9, [.int (nI G), .int (nI mo), .int (nI ta), .int sl, .ref (b + 44), .ref (b + 45), .ref (b + 46), .ref (b + 47), .int (nI ca), .ref (b + 48), .ref (b + 49), .ref (b + 50), .ref (b + 51), .ref (b + 52), .int (nI os), .ref (b + 53), .ref (b + 54), .ref (b + 55), .int tr, .int (nI ts), .ref (b + 56), .ref (b + 57), .int (nI lg), .ref (b + 58), .ref (b + 59), .ref (b + 60), .ref (b + 61), .int (nI mm), .int sc, .ref (b + 62), .ref (b + 63), .ref (b + 64), .ref (b + 65), .ref (b + 66), .ref (b + 67), .ref (b + 68), .ref (b + 69), .ref (b + 70), .ref (b + 71), .ref (b + 72), .ref (b + 73)])) (h50 : M 50 = .inl (cZ, 400, .inl mwa))  (hca : ca ≤ 400) : Met l yX9_waiting (kw yX9_waiting cX9_waiting 3 (some .int)) ({ frames := 0, cells := 0, slots := 0, locals := 0 }) (va_Pc [.ref (b + 43)] (kPre D (kT cI cJ cZ cH cR) b M n)) (va_Qi (fun (r : Int32) (u : (Nat → va_E) × Nat) => r = (nI (cnt (mvz mwa) ca)) ∧ u.2 = n ∧ u.1 = M) (kB D (kT cI cJ cZ cH cR) b) (kA b)) 0 0 (kA b) := by
  refine k_metI (by decide +kernel) (Nat.le_of_ble_eq_true rfl) ?_
  intro p e s m below meth c ls Q C hw hret hnm hl
  have hl : lv_has ls 3 [(0, .ref (b + 43))] := hl
  refine lv_iconst (v := nI 0) C.1 C.2.1 dX9_waiting_0 (by decide) ?_
  refine lv_istore_n (lv' := [(1, .int (nI 0)), (0, .ref (b + 43))]) C.1 C.2.1 dX9_waiting_1 rfl hl (by decide) rfl (fun ls hl => ?_)
  refine lv_iconst (v := nI 0) C.1 C.2.1 dX9_waiting_2 (by decide) ?_
  refine lv_istore_n (lv' := [(2, .int (nI 0)), (1, .int (nI 0)), (0, .ref (b + 43))]) C.1 C.2.1 dX9_waiting_3 rfl hl (by decide) rfl (fun ls hl => ?_)
  have L4 : ∀ (N4 : Nat) (i : Nat) (a : Nat), (ca - i < N4) → (i ≤ ca) → (a = cnt (mvz mwa) i) → ∀ (ls : Array Slot) (H : Heap) (locs : List Loc), lv_has ls 3 [(2, .int (nI i)), (1, .int (nI a)), (0, .ref (b + 43))] → kW D b M n s.heap H locs → W p l e ({ frames := 0, cells := 0, slots := 0, locals := 0 } : Room) s m ([.ref (b + 43)] : List Value).toArray below meth c H locs 0 0 Q (F0 m 4 ls []) := by
    intro N4
    induction N4 with
    | zero => intro i a hm4 hi ha ls H locs hl hw; omega
    | succ N4 ih4 =>
      intro i a hm4 hi ha ls H locs hl hw
      refine lv_iload_n C.1 C.2.1 dX9_waiting_4 rfl (lv_at hl 0 rfl) ?_
      refine lv_aload_n C.1 C.2.1 dX9_waiting_5 rfl (lv_at hl 2 rfl) ?_
      refine k_get C hw 43 (by omega) h43 rfl inlX9 8 (by decide) q_159 rfl dX9_waiting_6 ?_
      refine lv_icmp_ge (tgt := 35) C.1 C.2.1 dX9_waiting_9 (by decide) (fun c9 => ?_) (fun c9 => ?_)
      · have q9 := (nI_leI (by omega) (by omega)).mp c9
        have q9 : i = ca := by omega
        refine lv_iload_n C.1 C.2.1 dX9_waiting_35 rfl (lv_at hl 1 rfl) ?_
        exact hret _ _ (Nat.le_of_ble_eq_true rfl) (Nat.le_of_ble_eq_true rfl) hw (⟨by rw [ha, q9], rfl, rfl⟩) dX9_waiting_36
      · have q9 : ¬ ca ≤ i := fun z => c9 ((nI_leI (by omega) (by omega)).mpr z)
        refine lv_iload_n C.1 C.2.1 dX9_waiting_12 rfl (lv_at hl 1 rfl) ?_
        refine lv_aload_n C.1 C.2.1 dX9_waiting_13 rfl (lv_at hl 2 rfl) ?_
        refine k_get C hw 43 (by omega) h43 rfl inlX9 11 (by decide) q_130 rfl dX9_waiting_14 ?_
        refine lv_iload_n C.1 C.2.1 dX9_waiting_17 rfl (lv_at hl 0 rfl) ?_
        refine k_zald C hw 50 (by omega) h50 (by omega) (by first | decide | omega) dX9_waiting_18 ?_
        refine lv_if_eq (tgt := 26) C.1 C.2.1 dX9_waiting_19 (by decide) (fun c19 => ?_) (fun c19 => ?_)
        · refine lv_iconst (v := nI 0) C.1 C.2.1 dX9_waiting_26 (by decide) ?_
          refine lv_iadd C.1 C.2.1 dX9_waiting_27 ?_
          refine k_topi (y := nI (cnt (mvz mwa) (i + 1))) (by rw [nI_add, ha, cnt_f (by simp [c19]), Nat.add_zero]) ?_
          refine lv_istore_n (lv' := [(1, .int (nI (cnt (mvz mwa) (i + 1)))), (2, .int (nI i)), (0, .ref (b + 43))]) C.1 C.2.1 dX9_waiting_28 rfl hl (by decide) rfl (fun ls hl => ?_)
          refine lv_iinc (v := (nI (i + 1))) (lv' := [(2, .int (nI (i + 1))), (1, .int (nI (cnt (mvz mwa) (i + 1)))), (0, .ref (b + 43))]) C.1 C.2.1 dX9_waiting_29 hl (k := 1) rfl (k_inc _ 1) (by decide) rfl (fun ls hl => ?_)
          refine lv_goto (tgt := 4) C.1 C.2.1 dX9_waiting_32 (by decide) ?_
          exact ih4  (i + 1) (cnt (mvz mwa) (i + 1)) (by omega) (by omega) (rfl) ls _ _ (lv_sub hl [0, 1, 2] rfl) hw
        · refine lv_iconst (v := nI 1) C.1 C.2.1 dX9_waiting_22 (by decide) ?_
          refine lv_goto (tgt := 27) C.1 C.2.1 dX9_waiting_23 (by decide) ?_
          refine lv_iadd C.1 C.2.1 dX9_waiting_27 ?_
          refine k_topi (y := nI (cnt (mvz mwa) (i + 1))) (by rw [nI_add, ha, cnt_t (by simp [c19])]) ?_
          refine lv_istore_n (lv' := [(1, .int (nI (cnt (mvz mwa) (i + 1)))), (2, .int (nI i)), (0, .ref (b + 43))]) C.1 C.2.1 dX9_waiting_28 rfl hl (by decide) rfl (fun ls hl => ?_)
          refine lv_iinc (v := (nI (i + 1))) (lv' := [(2, .int (nI (i + 1))), (1, .int (nI (cnt (mvz mwa) (i + 1)))), (0, .ref (b + 43))]) C.1 C.2.1 dX9_waiting_29 hl (k := 1) rfl (k_inc _ 1) (by decide) rfl (fun ls hl => ?_)
          refine lv_goto (tgt := 4) C.1 C.2.1 dX9_waiting_32 (by decide) ?_
          exact ih4  (i + 1) (cnt (mvz mwa) (i + 1)) (by omega) (by omega) (rfl) ls _ _ (lv_sub hl [0, 1, 2] rfl) hw
  exact L4 (_ + 1) (0) (0) (Nat.lt_succ_self _) (Nat.zero_le _) (rfl) ls _ _ (lv_sub hl [0, 1, 2] rfl) hw

set_option maxHeartbeats 4000000 in
set_option maxRecDepth 100000 in
theorem c_X9_groupAt {l : Launch} {D : va_G} {cI cJ cZ cH cR : ClassId} {b : Nat} {n : Nat} {M : Nat → va_E}  {G : Nat} {mo : Nat} {ta : Nat} {sl : Int32} {ca : Nat} {os : Nat} {tr : Int32} {ts : Nat} {lg : Nat} {mm : Nat} {sc : Int32} {mow : Nat → Int32} {mep : Nat → Int32} {mwe : Nat → Int32} {mrk : Nat → Int32} {mwa : Nat → Int32} {g w : Int32} (hn : 51 ≤ n) (h43 : M 43 = .inr (9, [.int (nI G), .int (nI mo), .int (nI ta), .int sl, .ref (b + 44), .ref (b + 45), .ref (b + 46), .ref (b + 47), .int (nI ca), .ref (b + 48), .ref (b + 49), .ref (b + 50), .ref (b + 51), .ref (b + 52), .int (nI os), .ref (b + 53), .ref (b + 54), .ref (b + 55), .int tr, .int (nI ts), .ref (b + 56), .ref (b + 57), .int (nI lg), .ref (b + 58), .ref (b + 59), .ref (b + 60), .ref (b + 61), .int (nI mm), .int sc, .ref (b + 62), .ref (b + 63), .ref (b + 64), .ref (b + 65), .ref (b + 66), .ref (b + 67), .ref (b + 68), .ref (b + 69), .ref (b + 70), .ref (b + 71), .ref (b + 72), .ref (b + 73)])) (h44 : M 44 = .inl (cI, 32, .inl mow)) (h45 : M 45 = .inl (cI, 32, .inl mep)) (h46 : M 46 = .inl (cI, 32, .inl mwe)) (h48 : M 48 = .inl (cI, 400, .inl mrk)) (h50 : M 50 = .inl (cZ, 400, .inl mwa))  (hG0 : 0 < G) (hG : G ≤ 32) (hca : ca ≤ 400) : Met l yX9_groupAt (kw yX9_groupAt cX9_groupAt 3 (some .int)) ({ frames := 2, cells := 0, slots := 0, locals := 46 }) (va_Pc [.ref (b + 43), .int g, .int w] (kPre D (kT cI cJ cZ cH cR) b M n)) (va_Qi (fun (r : Int32) (u : (Nat → va_E) × Nat) => r = (if isT g G then selI w [mow (kn g), mep (kn g), mwe (kn g), nI (cnt (wgQ G mrk mwa g) ca)] else -101) ∧ u.2 = n ∧ u.1 = M) (kB D (kT cI cJ cZ cH cR) b) (kA b)) 0 0 (kA b) := by
  refine k_metI (by decide +kernel) (Nat.le_of_ble_eq_true rfl) ?_
  intro p e s m below meth c ls Q C hw hret hnm hl
  have hl : lv_has ls 3 [(0, .ref (b + 43)), (1, .int g), (2, .int w)] := hl
  refine lv_iload_n C.1 C.2.1 dX9_groupAt_0 rfl (lv_at hl 1 rfl) ?_
  refine lv_i2l C.1 C.2.1 dX9_groupAt_1 rfl ?_
  refine lv_lconst (v := 0) C.1 C.2.1 dX9_groupAt_2 rfl ?_
  refine lv_aload_n C.1 C.2.1 dX9_groupAt_3 rfl (lv_at hl 0 rfl) ?_
  refine k_get C hw 43 (by omega) h43 rfl inlX9 0 (by decide) q_170 rfl dX9_groupAt_4 ?_
  refine lv_iconst (v := nI 1) C.1 C.2.1 dX9_groupAt_7 (by decide) ?_
  refine lv_isub C.1 C.2.1 dX9_groupAt_8 ?_
  refine k_topi (y := nI (G - 1)) (pk_sub hG0) ?_
  refine lv_i2l C.1 C.2.1 dX9_groupAt_9 rfl ?_
  refine k_si C hw (c_X9_in   ) kv_X9_147 rfl hl.1 ⟨Nat.le_of_ble_eq_true rfl, Nat.le_of_ble_eq_true rfl⟩ (Nat.le_of_ble_eq_true rfl) ⟨Nat.le_of_ble_eq_true rfl, Nat.le_of_ble_eq_true rfl⟩ dX9_groupAt_10 (fun r10 M_1 n9 H locs hp hw => ?_)
  obtain ⟨er10, en9, eM9⟩ := hp
  have en9 : n9 = n := en9
  rw [en9] at hw
  have eM9 : M_1 = M := eM9
  rw [eM9] at hw
  refine lv_if_ne (tgt := 19) C.1 C.2.1 dX9_groupAt_13 (by decide) (fun c13 => ?_) (fun c13 => ?_)
  · have h13_ : isT g G := (inT hG0 (by omega)).mp (Classical.byContradiction (fun z => c13 (by rw [er10, if_neg z])))
    obtain ⟨j, hj, ej, ejn⟩ := isT_nI (by omega) h13_
    refine lv_iload_n C.1 C.2.1 dX9_groupAt_19 rfl (lv_at hl 2 rfl) ?_
    rcases k_sw (x := w) (lo := 0) (hi := 3) with hsw | ⟨k9, hk1, hk2, hsw⟩
    · refine lv_tableOut (tgt := 79) C.1 C.2.1 dX9_groupAt_20 hsw (by decide) ?_
      refine lv_bipush (v := (-102)) C.1 C.2.1 dX9_groupAt_79 (by decide) ?_
      exact hret _ _ (Nat.le_of_ble_eq_true rfl) (Nat.le_of_ble_eq_true rfl) hw (⟨by rw [if_pos h13_, selI_out hsw rfl], rfl, rfl⟩) dX9_groupAt_81
    · rcases (show k9 = 0 ∨ k9 = 1 ∨ k9 = 2 ∨ k9 = 3 by omega) with rfl | rfl | rfl | rfl
      · refine lv_tableIn (off := 32) (tgt := 52) C.1 C.2.1 dX9_groupAt_20 (by rw [hsw]; decide) (by rw [hsw]; decide) (by rw [hsw]; decide) (by decide) ?_
        refine lv_aload_n C.1 C.2.1 dX9_groupAt_52 rfl (lv_at hl 0 rfl) ?_
        refine k_get C hw 43 (by omega) h43 rfl inlX9 4 (by decide) q_123 rfl dX9_groupAt_53 ?_
        refine lv_iload_n C.1 C.2.1 dX9_groupAt_56 rfl (lv_at hl 1 rfl) ?_
        refine k_topi (y := nI j) (ej) ?_
        refine k_iald C hw 44 (by omega) h44 (by omega) (by first | decide | omega) dX9_groupAt_57 ?_
        exact hret _ _ (Nat.le_of_ble_eq_true rfl) (Nat.le_of_ble_eq_true rfl) hw (⟨by rw [if_pos h13_, selI_at 0 hsw rfl, ejn], rfl, rfl⟩) dX9_groupAt_58
      · refine lv_tableIn (off := 39) (tgt := 59) C.1 C.2.1 dX9_groupAt_20 (by rw [hsw]; decide) (by rw [hsw]; decide) (by rw [hsw]; decide) (by decide) ?_
        refine lv_aload_n C.1 C.2.1 dX9_groupAt_59 rfl (lv_at hl 0 rfl) ?_
        refine k_get C hw 43 (by omega) h43 rfl inlX9 5 (by decide) q_124 rfl dX9_groupAt_60 ?_
        refine lv_iload_n C.1 C.2.1 dX9_groupAt_63 rfl (lv_at hl 1 rfl) ?_
        refine k_topi (y := nI j) (ej) ?_
        refine k_iald C hw 45 (by omega) h45 (by omega) (by first | decide | omega) dX9_groupAt_64 ?_
        exact hret _ _ (Nat.le_of_ble_eq_true rfl) (Nat.le_of_ble_eq_true rfl) hw (⟨by rw [if_pos h13_, selI_at 1 hsw rfl, ejn], rfl, rfl⟩) dX9_groupAt_65
      · refine lv_tableIn (off := 46) (tgt := 66) C.1 C.2.1 dX9_groupAt_20 (by rw [hsw]; decide) (by rw [hsw]; decide) (by rw [hsw]; decide) (by decide) ?_
        refine lv_aload_n C.1 C.2.1 dX9_groupAt_66 rfl (lv_at hl 0 rfl) ?_
        refine k_get C hw 43 (by omega) h43 rfl inlX9 6 (by decide) q_125 rfl dX9_groupAt_67 ?_
        refine lv_iload_n C.1 C.2.1 dX9_groupAt_70 rfl (lv_at hl 1 rfl) ?_
        refine k_topi (y := nI j) (ej) ?_
        refine k_iald C hw 46 (by omega) h46 (by omega) (by first | decide | omega) dX9_groupAt_71 ?_
        exact hret _ _ (Nat.le_of_ble_eq_true rfl) (Nat.le_of_ble_eq_true rfl) hw (⟨by rw [if_pos h13_, selI_at 2 hsw rfl, ejn], rfl, rfl⟩) dX9_groupAt_72
      · refine lv_tableIn (off := 53) (tgt := 73) C.1 C.2.1 dX9_groupAt_20 (by rw [hsw]; decide) (by rw [hsw]; decide) (by rw [hsw]; decide) (by decide) ?_
        refine lv_aload_n C.1 C.2.1 dX9_groupAt_73 rfl (lv_at hl 0 rfl) ?_
        refine lv_iload_n C.1 C.2.1 dX9_groupAt_74 rfl (lv_at hl 1 rfl) ?_
        refine k_vi C hw 43 (by omega) h43 rfl (c_X9_waitingOf (by omega) h43 h48 h50  (by omega) (by omega) (by omega)) kv_X9_202 rfl hl.1 ⟨Nat.le_of_ble_eq_true rfl, Nat.le_of_ble_eq_true rfl⟩ (Nat.le_of_ble_eq_true rfl) ⟨Nat.le_of_ble_eq_true rfl, Nat.le_of_ble_eq_true rfl⟩ dX9_groupAt_75 (fun r75 M_2 n9 H locs hp hw => ?_)
        obtain ⟨er75, en9, eM9⟩ := hp
        have en9 : n9 = n := en9
        rw [en9] at hw
        have eM9 : M_2 = M := eM9
        rw [eM9] at hw
        exact hret _ _ (Nat.le_of_ble_eq_true rfl) (Nat.le_of_ble_eq_true rfl) hw (⟨by rw [if_pos h13_, selI_at 3 hsw rfl, er75], rfl, rfl⟩) dX9_groupAt_78
  · have h13_ : ¬ (isT g G) := fun z => by rw [er10, if_pos ((inT hG0 (by omega)).mpr z)] at c13; exact absurd c13 (by decide)
    refine lv_bipush (v := (-101)) C.1 C.2.1 dX9_groupAt_16 (by decide) ?_
    exact hret _ _ (Nat.le_of_ble_eq_true rfl) (Nat.le_of_ble_eq_true rfl) hw (⟨by rw [if_neg h13_], rfl, rfl⟩) dX9_groupAt_18

set_option maxHeartbeats 4000000 in
set_option maxRecDepth 100000 in
theorem c_X9_taskAt {l : Launch} {D : va_G} {cI cJ cZ cH cR : ClassId} {b : Nat} {n : Nat} {M : Nat → va_E}  {G : Nat} {mo : Nat} {ta : Nat} {sl : Int32} {ca : Nat} {os : Nat} {tr : Int32} {ts : Nat} {lg : Nat} {mm : Nat} {sc : Int32} {mow : Nat → Int32} {mwe : Nat → Int32} {mrk : Nat → Int32} {mwa : Nat → Int32} {t w : Int32} (hn : 51 ≤ n) (h43 : M 43 = .inr (9, [.int (nI G), .int (nI mo), .int (nI ta), .int sl, .ref (b + 44), .ref (b + 45), .ref (b + 46), .ref (b + 47), .int (nI ca), .ref (b + 48), .ref (b + 49), .ref (b + 50), .ref (b + 51), .ref (b + 52), .int (nI os), .ref (b + 53), .ref (b + 54), .ref (b + 55), .int tr, .int (nI ts), .ref (b + 56), .ref (b + 57), .int (nI lg), .ref (b + 58), .ref (b + 59), .ref (b + 60), .ref (b + 61), .int (nI mm), .int sc, .ref (b + 62), .ref (b + 63), .ref (b + 64), .ref (b + 65), .ref (b + 66), .ref (b + 67), .ref (b + 68), .ref (b + 69), .ref (b + 70), .ref (b + 71), .ref (b + 72), .ref (b + 73)])) (h44 : M 44 = .inl (cI, 32, .inl mow)) (h46 : M 46 = .inl (cI, 32, .inl mwe)) (h48 : M 48 = .inl (cI, 400, .inl mrk)) (h50 : M 50 = .inl (cZ, 400, .inl mwa))  (hG0 : 0 < G) (hG : G ≤ 32) (hca : ca ≤ 400) (hta0 : 0 < ta) (hta : ta ≤ 12) : Met l yX9_taskAt (kw yX9_taskAt cX9_taskAt 8 (some .int)) ({ frames := 2, cells := 0, slots := 0, locals := 46 }) (va_Pc [.ref (b + 43), .int t, .int w] (kPre D (kT cI cJ cZ cH cR) b M n)) (va_Qi (fun (r : Int32) (u : (Nat → va_E) × Nat) => r = (if isT t ta then selI w [dsF (fun g => mow g == t) G G, nI (dsC (fun g => mow g == t) G G), dsS (fun g => mow g == t) mwe G G, dsS (fun g => mow g == t) (fun g => nI (cnt (wgQ G mrk mwa (nI g)) ca)) G G, fI (wtP G mow mrk mwa t) ca] else -101) ∧ u.2 = n ∧ u.1 = M) (kB D (kT cI cJ cZ cH cR) b) (kA b)) 0 0 (kA b) := by
  refine k_metI (by decide +kernel) (Nat.le_of_ble_eq_true rfl) ?_
  intro p e s m below meth c ls Q C hw hret hnm hl
  have hl : lv_has ls 8 [(0, .ref (b + 43)), (1, .int t), (2, .int w)] := hl
  refine lv_iload_n C.1 C.2.1 dX9_taskAt_0 rfl (lv_at hl 1 rfl) ?_
  refine lv_i2l C.1 C.2.1 dX9_taskAt_1 rfl ?_
  refine lv_lconst (v := 0) C.1 C.2.1 dX9_taskAt_2 rfl ?_
  refine lv_aload_n C.1 C.2.1 dX9_taskAt_3 rfl (lv_at hl 0 rfl) ?_
  refine k_get C hw 43 (by omega) h43 rfl inlX9 2 (by decide) q_172 rfl dX9_taskAt_4 ?_
  refine lv_iconst (v := nI 1) C.1 C.2.1 dX9_taskAt_7 (by decide) ?_
  refine lv_isub C.1 C.2.1 dX9_taskAt_8 ?_
  refine k_topi (y := nI (ta - 1)) (pk_sub hta0) ?_
  refine lv_i2l C.1 C.2.1 dX9_taskAt_9 rfl ?_
  refine k_si C hw (c_X9_in   ) kv_X9_147 rfl hl.1 ⟨Nat.le_of_ble_eq_true rfl, Nat.le_of_ble_eq_true rfl⟩ (Nat.le_of_ble_eq_true rfl) ⟨Nat.le_of_ble_eq_true rfl, Nat.le_of_ble_eq_true rfl⟩ dX9_taskAt_10 (fun r10 M_1 n9 H locs hp hw => ?_)
  obtain ⟨er10, en9, eM9⟩ := hp
  have en9 : n9 = n := en9
  rw [en9] at hw
  have eM9 : M_1 = M := eM9
  rw [eM9] at hw
  refine lv_if_ne (tgt := 19) C.1 C.2.1 dX9_taskAt_13 (by decide) (fun c13 => ?_) (fun c13 => ?_)
  · have h13_ : isT t ta := (inT hta0 (by omega)).mp (Classical.byContradiction (fun z => c13 (by rw [er10, if_neg z])))
    refine lv_bipush (v := (-106)) C.1 C.2.1 dX9_taskAt_19 (by decide) ?_
    refine lv_istore_n (lv' := [(3, .int (-106)), (0, .ref (b + 43)), (1, .int t), (2, .int w)]) C.1 C.2.1 dX9_taskAt_21 rfl hl (by decide) rfl (fun ls hl => ?_)
    refine lv_iconst (v := nI 0) C.1 C.2.1 dX9_taskAt_22 (by decide) ?_
    refine lv_istore (lv' := [(4, .int (nI 0)), (3, .int (-106)), (0, .ref (b + 43)), (1, .int t), (2, .int w)]) C.1 C.2.1 dX9_taskAt_23 hl (by decide) rfl (fun ls hl => ?_)
    refine lv_iconst (v := nI 0) C.1 C.2.1 dX9_taskAt_25 (by decide) ?_
    refine lv_istore (lv' := [(5, .int (nI 0)), (4, .int (nI 0)), (3, .int (-106)), (0, .ref (b + 43)), (1, .int t), (2, .int w)]) C.1 C.2.1 dX9_taskAt_26 hl (by decide) rfl (fun ls hl => ?_)
    refine lv_iconst (v := nI 0) C.1 C.2.1 dX9_taskAt_28 (by decide) ?_
    refine lv_istore (lv' := [(6, .int (nI 0)), (5, .int (nI 0)), (4, .int (nI 0)), (3, .int (-106)), (0, .ref (b + 43)), (1, .int t), (2, .int w)]) C.1 C.2.1 dX9_taskAt_29 hl (by decide) rfl (fun ls hl => ?_)
    refine lv_aload_n C.1 C.2.1 dX9_taskAt_31 rfl (lv_at hl 4 rfl) ?_
    refine k_get C hw 43 (by omega) h43 rfl inlX9 0 (by decide) q_170 rfl dX9_taskAt_32 ?_
    refine lv_iconst (v := nI 1) C.1 C.2.1 dX9_taskAt_35 (by decide) ?_
    refine lv_isub C.1 C.2.1 dX9_taskAt_36 ?_
    refine k_topi (y := nI (G - 0) - nI 1) (rfl) ?_
    refine lv_istore (lv' := [(7, .int (nI (G - 0) - nI 1)), (6, .int (nI 0)), (5, .int (nI 0)), (4, .int (nI 0)), (3, .int (-106)), (0, .ref (b + 43)), (1, .int t), (2, .int w)]) C.1 C.2.1 dX9_taskAt_37 hl (by decide) rfl (fun ls hl => ?_)
    have L39 : ∀ (N39 : Nat) (r : Nat) (ma : Nat) (fi : Int32) (he : Int32) (li : Int32) (v : Int32), (G - r < N39) → (r ≤ G) → (fi = dsF (fun g => mow g == t) G r) → (ma = dsC (fun g => mow g == t) G r) → (he = dsS (fun g => mow g == t) mwe G r) → (li = dsS (fun g => mow g == t) (fun g => nI (cnt (wgQ G mrk mwa (nI g)) ca)) G r) → (v = nI (G - r) - nI 1) → ∀ (ls : Array Slot) (H : Heap) (locs : List Loc), lv_has ls 8 [(7, .int v), (6, .int li), (5, .int he), (4, .int (nI ma)), (3, .int fi), (0, .ref (b + 43)), (1, .int t), (2, .int w)] → kW D b M n s.heap H locs → W p l e ({ frames := 2, cells := 0, slots := 0, locals := 46 } : Room) s m ([.ref (b + 43), .int t, .int w] : List Value).toArray below meth c H locs 0 0 Q (F0 m 39 ls []) := by
      intro N39
      induction N39 with
      | zero => intro r ma fi he li v hm39 hr hfi hma hhe hli hv ls H locs hl hw; omega
      | succ N39 ih39 =>
        intro r ma fi he li v hm39 hr hfi hma hhe hli hv ls H locs hl hw
        refine lv_iload C.1 C.2.1 dX9_taskAt_39 (lv_at hl 0 rfl) ?_
        refine lv_if_lt (tgt := 90) C.1 C.2.1 dX9_taskAt_41 (by decide) (fun c41 => ?_) (fun c41 => ?_)
        · have q41 : r = G := by rcases Nat.lt_or_ge r G with z | z; rw [hv, pk_sub (by omega)] at c41; exact absurd c41 (nI_pos (by omega)); omega
          rw [q41] at hfi hma hhe hli
          refine lv_iload_n C.1 C.2.1 dX9_taskAt_90 rfl (lv_at hl 7 rfl) ?_
          rcases k_sw (x := w) (lo := 0) (hi := 4) with hsw | ⟨k9, hk1, hk2, hsw⟩
          · refine lv_tableOut (tgt := 141) C.1 C.2.1 dX9_taskAt_91 hsw (by decide) ?_
            refine lv_bipush (v := (-102)) C.1 C.2.1 dX9_taskAt_141 (by decide) ?_
            exact hret _ _ (Nat.le_of_ble_eq_true rfl) (Nat.le_of_ble_eq_true rfl) hw (⟨by rw [if_pos h13_, selI_out hsw rfl], rfl, rfl⟩) dX9_taskAt_143
          · rcases (show k9 = 0 ∨ k9 = 1 ∨ k9 = 2 ∨ k9 = 3 ∨ k9 = 4 by omega) with rfl | rfl | rfl | rfl | rfl
            · refine lv_tableIn (off := 33) (tgt := 124) C.1 C.2.1 dX9_taskAt_91 (by rw [hsw]; decide) (by rw [hsw]; decide) (by rw [hsw]; decide) (by decide) ?_
              refine lv_iload_n C.1 C.2.1 dX9_taskAt_124 rfl (lv_at hl 4 rfl) ?_
              exact hret _ _ (Nat.le_of_ble_eq_true rfl) (Nat.le_of_ble_eq_true rfl) hw (⟨by rw [if_pos h13_, selI_at 0 hsw rfl, hfi], rfl, rfl⟩) dX9_taskAt_125
            · refine lv_tableIn (off := 35) (tgt := 126) C.1 C.2.1 dX9_taskAt_91 (by rw [hsw]; decide) (by rw [hsw]; decide) (by rw [hsw]; decide) (by decide) ?_
              refine lv_iload C.1 C.2.1 dX9_taskAt_126 (lv_at hl 3 rfl) ?_
              exact hret _ _ (Nat.le_of_ble_eq_true rfl) (Nat.le_of_ble_eq_true rfl) hw (⟨by rw [if_pos h13_, selI_at 1 hsw rfl, hma], rfl, rfl⟩) dX9_taskAt_128
            · refine lv_tableIn (off := 38) (tgt := 129) C.1 C.2.1 dX9_taskAt_91 (by rw [hsw]; decide) (by rw [hsw]; decide) (by rw [hsw]; decide) (by decide) ?_
              refine lv_iload C.1 C.2.1 dX9_taskAt_129 (lv_at hl 2 rfl) ?_
              exact hret _ _ (Nat.le_of_ble_eq_true rfl) (Nat.le_of_ble_eq_true rfl) hw (⟨by rw [if_pos h13_, selI_at 2 hsw rfl, hhe], rfl, rfl⟩) dX9_taskAt_131
            · refine lv_tableIn (off := 41) (tgt := 132) C.1 C.2.1 dX9_taskAt_91 (by rw [hsw]; decide) (by rw [hsw]; decide) (by rw [hsw]; decide) (by decide) ?_
              refine lv_iload C.1 C.2.1 dX9_taskAt_132 (lv_at hl 1 rfl) ?_
              exact hret _ _ (Nat.le_of_ble_eq_true rfl) (Nat.le_of_ble_eq_true rfl) hw (⟨by rw [if_pos h13_, selI_at 3 hsw rfl, hli], rfl, rfl⟩) dX9_taskAt_134
            · refine lv_tableIn (off := 44) (tgt := 135) C.1 C.2.1 dX9_taskAt_91 (by rw [hsw]; decide) (by rw [hsw]; decide) (by rw [hsw]; decide) (by decide) ?_
              refine lv_aload_n C.1 C.2.1 dX9_taskAt_135 rfl (lv_at hl 5 rfl) ?_
              refine lv_iload_n C.1 C.2.1 dX9_taskAt_136 rfl (lv_at hl 6 rfl) ?_
              refine k_vi C hw 43 (by omega) h43 rfl (c_X9_firstOf (by omega) h43 h44 h48 h50  (by omega) (by omega) (by omega)) kv_X9_168 rfl hl.1 ⟨Nat.le_of_ble_eq_true rfl, Nat.le_of_ble_eq_true rfl⟩ (Nat.le_of_ble_eq_true rfl) ⟨Nat.le_of_ble_eq_true rfl, Nat.le_of_ble_eq_true rfl⟩ dX9_taskAt_137 (fun r137 M_2 n9 H locs hp hw => ?_)
              obtain ⟨er137, en9, eM9⟩ := hp
              have en9 : n9 = n := en9
              rw [en9] at hw
              have eM9 : M_2 = M := eM9
              rw [eM9] at hw
              exact hret _ _ (Nat.le_of_ble_eq_true rfl) (Nat.le_of_ble_eq_true rfl) hw (⟨by rw [if_pos h13_, selI_at 4 hsw rfl, er137], rfl, rfl⟩) dX9_taskAt_140
        · have q41 : r < G := by rcases Nat.lt_or_ge r G with z | z; exact z; exact absurd (by rw [hv, show G - r = 0 by omega]; decide) c41
          have hv2 : v = nI (G - 1 - r) := by rw [hv, pk_sub (by omega)]; congr 1; omega
          refine lv_aload_n C.1 C.2.1 dX9_taskAt_44 rfl (lv_at hl 5 rfl) ?_
          refine k_get C hw 43 (by omega) h43 rfl inlX9 4 (by decide) q_123 rfl dX9_taskAt_45 ?_
          refine lv_iload C.1 C.2.1 dX9_taskAt_48 (lv_at hl 0 rfl) ?_
          refine k_topi (y := nI (G - 1 - r)) (hv2) ?_
          refine k_iald C hw 44 (by omega) h44 (by omega) (by first | decide | omega) dX9_taskAt_50 ?_
          refine lv_iload_n C.1 C.2.1 dX9_taskAt_51 rfl (lv_at hl 6 rfl) ?_
          refine lv_icmp_ne (tgt := 84) C.1 C.2.1 dX9_taskAt_52 (by decide) (fun c52 => ?_) (fun c52 => ?_)
          · refine lv_iinc (v := (nI (G - (r + 1)) - nI 1)) (lv' := [(7, .int (nI (G - (r + 1)) - nI 1)), (6, .int li), (5, .int he), (4, .int (nI ma)), (3, .int fi), (0, .ref (b + 43)), (1, .int t), (2, .int w)]) C.1 C.2.1 dX9_taskAt_84 hl (k := 0) rfl (by rw [hv]; exact nI_dn (by omega)) (by decide) rfl (fun ls hl => ?_)
            refine lv_goto (tgt := 39) C.1 C.2.1 dX9_taskAt_87 (by decide) ?_
            exact ih39  (r + 1) (ma) (_) (_) (_) (_) (by omega) (by omega) (by rw [hfi]; show _ = if _ then _ else _; rw [if_neg (by simpa using c52)]) (by rw [hma]; show _ = if _ then _ else _; rw [if_neg (by simpa using c52)]) (by rw [hhe]; show _ = if _ then _ else _; rw [if_neg (by simpa using c52)]) (by rw [hli]; show _ = if _ then _ else _; rw [if_neg (by simpa using c52)]) (rfl) ls _ _ (lv_sub hl [0, 1, 2, 3, 4, 5, 6, 7] rfl) hw
          · refine lv_iload C.1 C.2.1 dX9_taskAt_55 (lv_at hl 0 rfl) ?_
            refine k_topi (y := nI (G - 1 - r)) (hv2) ?_
            refine lv_istore_n (lv' := [(3, .int (nI (G - 1 - r))), (7, .int v), (6, .int li), (5, .int he), (4, .int (nI ma)), (0, .ref (b + 43)), (1, .int t), (2, .int w)]) C.1 C.2.1 dX9_taskAt_57 rfl hl (by decide) rfl (fun ls hl => ?_)
            refine lv_iinc (v := (nI (ma + 1))) (lv' := [(4, .int (nI (ma + 1))), (3, .int (nI (G - 1 - r))), (7, .int v), (6, .int li), (5, .int he), (0, .ref (b + 43)), (1, .int t), (2, .int w)]) C.1 C.2.1 dX9_taskAt_58 hl (k := 4) rfl (k_inc _ 1) (by decide) rfl (fun ls hl => ?_)
            refine lv_iload C.1 C.2.1 dX9_taskAt_61 (lv_at hl 4 rfl) ?_
            refine lv_aload_n C.1 C.2.1 dX9_taskAt_63 rfl (lv_at hl 5 rfl) ?_
            refine k_get C hw 43 (by omega) h43 rfl inlX9 6 (by decide) q_125 rfl dX9_taskAt_64 ?_
            refine lv_iload C.1 C.2.1 dX9_taskAt_67 (lv_at hl 2 rfl) ?_
            refine k_topi (y := nI (G - 1 - r)) (hv2) ?_
            refine k_iald C hw 46 (by omega) h46 (by omega) (by first | decide | omega) dX9_taskAt_69 ?_
            refine lv_iadd C.1 C.2.1 dX9_taskAt_70 ?_
            refine lv_topi (fun he2 ehe2 => ?_)
            refine lv_istore (lv' := [(5, .int he2), (4, .int (nI (ma + 1))), (3, .int (nI (G - 1 - r))), (7, .int v), (6, .int li), (0, .ref (b + 43)), (1, .int t), (2, .int w)]) C.1 C.2.1 dX9_taskAt_71 hl (by decide) rfl (fun ls hl => ?_)
            refine lv_iload C.1 C.2.1 dX9_taskAt_73 (lv_at hl 4 rfl) ?_
            refine lv_aload_n C.1 C.2.1 dX9_taskAt_75 rfl (lv_at hl 5 rfl) ?_
            refine lv_iload C.1 C.2.1 dX9_taskAt_76 (lv_at hl 3 rfl) ?_
            refine k_topi (y := nI (G - 1 - r)) (hv2) ?_
            refine k_vi C hw 43 (by omega) h43 rfl (c_X9_waitingOf (by omega) h43 h48 h50  (by omega) (by omega) (by omega)) kv_X9_202 rfl hl.1 ⟨Nat.le_of_ble_eq_true rfl, Nat.le_of_ble_eq_true rfl⟩ (Nat.le_of_ble_eq_true rfl) ⟨Nat.le_of_ble_eq_true rfl, Nat.le_of_ble_eq_true rfl⟩ dX9_taskAt_78 (fun r78 M_3 n9 H locs hp hw => ?_)
            obtain ⟨er78, en9, eM9⟩ := hp
            have en9 : n9 = n := en9
            rw [en9] at hw
            have eM9 : M_3 = M := eM9
            rw [eM9] at hw
            refine lv_iadd C.1 C.2.1 dX9_taskAt_81 ?_
            refine lv_topi (fun li2 eli2 => ?_)
            refine lv_istore (lv' := [(6, .int li2), (5, .int he2), (4, .int (nI (ma + 1))), (3, .int (nI (G - 1 - r))), (7, .int v), (0, .ref (b + 43)), (1, .int t), (2, .int w)]) C.1 C.2.1 dX9_taskAt_82 hl (by decide) rfl (fun ls hl => ?_)
            refine lv_iinc (v := (nI (G - (r + 1)) - nI 1)) (lv' := [(7, .int (nI (G - (r + 1)) - nI 1)), (6, .int li2), (5, .int he2), (4, .int (nI (ma + 1))), (3, .int (nI (G - 1 - r))), (0, .ref (b + 43)), (1, .int t), (2, .int w)]) C.1 C.2.1 dX9_taskAt_84 hl (k := 4) rfl (by rw [hv]; exact nI_dn (by omega)) (by decide) rfl (fun ls hl => ?_)
            refine lv_goto (tgt := 39) C.1 C.2.1 dX9_taskAt_87 (by decide) ?_
            exact ih39  (r + 1) (ma + 1) (_) (_) (_) (_) (by omega) (by omega) (by show _ = if _ then _ else _; rw [if_pos (by simpa using c52)]) (by rw [hma]; show _ = if _ then _ else _; rw [if_pos (by simpa using c52)]) (by rw [ehe2, hhe]; show _ = if _ then _ else _; rw [if_pos (by simpa using c52)]) (by rw [eli2, er78, hli]; show _ = if _ then _ else _; rw [if_pos (by simpa using c52)]) (rfl) ls _ _ (lv_sub hl [0, 1, 2, 3, 4, 5, 6, 7] rfl) hw
    exact L39 (_ + 1) (0) (0) (_) (_) (_) (_) (Nat.lt_succ_self _) (Nat.zero_le _) (rfl) (rfl) (rfl) (rfl) (rfl) ls _ _ (lv_sub hl [0, 1, 2, 3, 4, 5, 6, 7] rfl) hw
  · have h13_ : ¬ (isT t ta) := fun z => by rw [er10, if_pos ((inT hta0 (by omega)).mpr z)] at c13; exact absurd c13 (by decide)
    refine lv_bipush (v := (-101)) C.1 C.2.1 dX9_taskAt_16 (by decide) ?_
    exact hret _ _ (Nat.le_of_ble_eq_true rfl) (Nat.le_of_ble_eq_true rfl) hw (⟨by rw [if_neg h13_], rfl, rfl⟩) dX9_taskAt_18

set_option maxHeartbeats 4000000 in
set_option maxRecDepth 100000 in
theorem c_X9_counted {l : Launch} {D : va_G} {cI cJ cZ cH cR : ClassId} {b : Nat} {n : Nat} {M : Nat → va_E}  {G : Nat} {mo : Nat} {ta : Nat} {sl : Int32} {ca : Nat} {os : Nat} {tr : Int32} {ts : Nat} {lg : Nat} {mm : Nat} {sc : Int32} {mct : Nat → Int32} {key : Int32} (hn : 52 ≤ n) (h43 : M 43 = .inr (9, [.int (nI G), .int (nI mo), .int (nI ta), .int sl, .ref (b + 44), .ref (b + 45), .ref (b + 46), .ref (b + 47), .int (nI ca), .ref (b + 48), .ref (b + 49), .ref (b + 50), .ref (b + 51), .ref (b + 52), .int (nI os), .ref (b + 53), .ref (b + 54), .ref (b + 55), .int tr, .int (nI ts), .ref (b + 56), .ref (b + 57), .int (nI lg), .ref (b + 58), .ref (b + 59), .ref (b + 60), .ref (b + 61), .int (nI mm), .int sc, .ref (b + 62), .ref (b + 63), .ref (b + 64), .ref (b + 65), .ref (b + 66), .ref (b + 67), .ref (b + 68), .ref (b + 69), .ref (b + 70), .ref (b + 71), .ref (b + 72), .ref (b + 73)])) (h51 : M 51 = .inl (cI, 100, .inl mct))   : Met l yX9_counted (kw yX9_counted cX9_counted 2 (some .int)) ({ frames := 1, cells := 0, slots := 0, locals := 20 }) (va_Pc [.ref (b + 43), .int key] (kPre D (kT cI cJ cZ cH cR) b M n)) (va_Qi (fun (r : Int32) (u : (Nat → va_E) × Nat) => r = (if isK key then mct (kn key) else -101) ∧ u.2 = n ∧ u.1 = M) (kB D (kT cI cJ cZ cH cR) b) (kA b)) 0 0 (kA b) := by
  refine k_metI (by decide +kernel) (Nat.le_of_ble_eq_true rfl) ?_
  intro p e s m below meth c ls Q C hw hret hnm hl
  have hl : lv_has ls 2 [(0, .ref (b + 43)), (1, .int key)] := hl
  refine lv_iload_n C.1 C.2.1 dX9_counted_0 rfl (lv_at hl 1 rfl) ?_
  refine k_si C hw (c_X9_noKey   ) kv_X9_156 rfl hl.1 ⟨Nat.le_of_ble_eq_true rfl, Nat.le_of_ble_eq_true rfl⟩ (Nat.le_of_ble_eq_true rfl) ⟨Nat.le_of_ble_eq_true rfl, Nat.le_of_ble_eq_true rfl⟩ dX9_counted_1 (fun r1 M_1 n9 H locs hp hw => ?_)
  obtain ⟨er1, en9, eM9⟩ := hp
  have en9 : n9 = n := en9
  rw [en9] at hw
  have eM9 : M_1 = M := eM9
  rw [eM9] at hw
  refine lv_if_eq (tgt := 12) C.1 C.2.1 dX9_counted_4 (by decide) (fun c4 => ?_) (fun c4 => ?_)
  · have h4_ : isK key := Classical.byContradiction (fun z => by rw [er1, if_neg z] at c4; exact absurd c4 (by decide))
    obtain ⟨k, hk9, ek, ekn⟩ := isK_nI h4_
    refine lv_aload_n C.1 C.2.1 dX9_counted_12 rfl (lv_at hl 0 rfl) ?_
    refine k_get C hw 43 (by omega) h43 rfl inlX9 12 (by decide) q_131 rfl dX9_counted_13 ?_
    refine lv_iload_n C.1 C.2.1 dX9_counted_16 rfl (lv_at hl 1 rfl) ?_
    refine k_topi (y := nI k) (ek) ?_
    refine k_iald C hw 51 (by omega) h51 (by omega) (by first | decide | omega) dX9_counted_17 ?_
    exact hret _ _ (Nat.le_of_ble_eq_true rfl) (Nat.le_of_ble_eq_true rfl) hw (⟨by rw [if_pos h4_, ekn], rfl, rfl⟩) dX9_counted_18
  · have h4_ : ¬ isK key := fun z => c4 (by rw [er1, if_pos z])
    refine lv_bipush (v := (-101)) C.1 C.2.1 dX9_counted_7 (by decide) ?_
    refine lv_goto (tgt := 18) C.1 C.2.1 dX9_counted_9 (by decide) ?_
    exact hret _ _ (Nat.le_of_ble_eq_true rfl) (Nat.le_of_ble_eq_true rfl) hw (⟨by rw [if_neg h4_], rfl, rfl⟩) dX9_counted_18

set_option maxHeartbeats 4000000 in
set_option maxRecDepth 100000 in
theorem c_X9_sum {l : Launch} {D : va_G} {cI cJ cZ cH cR : ClassId} {b : Nat} {n : Nat} {M : Nat → va_E}  {G : Nat} {mo : Nat} {ta : Nat} {sl : Int32} {ca : Nat} {os : Nat} {tr : Int32} {ts : Nat} {lg : Nat} {mm : Nat} {sc : Int32} {msu : Nat → Int64} {key : Int32} (hn : 53 ≤ n) (h43 : M 43 = .inr (9, [.int (nI G), .int (nI mo), .int (nI ta), .int sl, .ref (b + 44), .ref (b + 45), .ref (b + 46), .ref (b + 47), .int (nI ca), .ref (b + 48), .ref (b + 49), .ref (b + 50), .ref (b + 51), .ref (b + 52), .int (nI os), .ref (b + 53), .ref (b + 54), .ref (b + 55), .int tr, .int (nI ts), .ref (b + 56), .ref (b + 57), .int (nI lg), .ref (b + 58), .ref (b + 59), .ref (b + 60), .ref (b + 61), .int (nI mm), .int sc, .ref (b + 62), .ref (b + 63), .ref (b + 64), .ref (b + 65), .ref (b + 66), .ref (b + 67), .ref (b + 68), .ref (b + 69), .ref (b + 70), .ref (b + 71), .ref (b + 72), .ref (b + 73)])) (h52 : M 52 = .inl (cJ, 100, .inr (.inl msu)))   : Met l yX9_sum (kw yX9_sum cX9_sum 2 (some .long)) ({ frames := 1, cells := 0, slots := 0, locals := 20 }) (va_Pc [.ref (b + 43), .int key] (kPre D (kT cI cJ cZ cH cR) b M n)) (va_Ql (fun (r : Int64) (u : (Nat → va_E) × Nat) => r = (if isK key then msu (kn key) else 0) ∧ u.2 = n ∧ u.1 = M) (kB D (kT cI cJ cZ cH cR) b) (kA b)) 0 0 (kA b) := by
  refine k_metL (by decide +kernel) (Nat.le_of_ble_eq_true rfl) ?_
  intro p e s m below meth c ls Q C hw hret hnm hl
  have hl : lv_has ls 2 [(0, .ref (b + 43)), (1, .int key)] := hl
  refine lv_iload_n C.1 C.2.1 dX9_sum_0 rfl (lv_at hl 1 rfl) ?_
  refine k_si C hw (c_X9_noKey   ) kv_X9_156 rfl hl.1 ⟨Nat.le_of_ble_eq_true rfl, Nat.le_of_ble_eq_true rfl⟩ (Nat.le_of_ble_eq_true rfl) ⟨Nat.le_of_ble_eq_true rfl, Nat.le_of_ble_eq_true rfl⟩ dX9_sum_1 (fun r1 M_1 n9 H locs hp hw => ?_)
  obtain ⟨er1, en9, eM9⟩ := hp
  have en9 : n9 = n := en9
  rw [en9] at hw
  have eM9 : M_1 = M := eM9
  rw [eM9] at hw
  refine lv_if_eq (tgt := 11) C.1 C.2.1 dX9_sum_4 (by decide) (fun c4 => ?_) (fun c4 => ?_)
  · have h4_ : isK key := Classical.byContradiction (fun z => by rw [er1, if_neg z] at c4; exact absurd c4 (by decide))
    obtain ⟨k, hk9, ek, ekn⟩ := isK_nI h4_
    refine lv_aload_n C.1 C.2.1 dX9_sum_11 rfl (lv_at hl 0 rfl) ?_
    refine k_get C hw 43 (by omega) h43 rfl inlX9 13 (by decide) q_132 rfl dX9_sum_12 ?_
    refine lv_iload_n C.1 C.2.1 dX9_sum_15 rfl (lv_at hl 1 rfl) ?_
    refine k_topi (y := nI k) (ek) ?_
    refine k_lald C hw 52 (by omega) h52 (by omega) (by first | decide | omega) dX9_sum_16 ?_
    exact hret _ _ (Nat.le_of_ble_eq_true rfl) (Nat.le_of_ble_eq_true rfl) hw (⟨by rw [if_pos h4_, ekn], rfl, rfl⟩) dX9_sum_17
  · have h4_ : ¬ isK key := fun z => c4 (by rw [er1, if_pos z])
    refine lv_lconst (v := 0) C.1 C.2.1 dX9_sum_7 rfl ?_
    refine lv_goto (tgt := 17) C.1 C.2.1 dX9_sum_8 (by decide) ?_
    exact hret _ _ (Nat.le_of_ble_eq_true rfl) (Nat.le_of_ble_eq_true rfl) hw (⟨by rw [if_neg h4_], rfl, rfl⟩) dX9_sum_17

set_option maxHeartbeats 4000000 in
set_option maxRecDepth 100000 in
theorem c_X9_before {l : Launch} {D : va_G} {cI cJ cZ cH cR : ClassId} {b : Nat} {n : Nat} {M : Nat → va_E}  {G : Nat} {mo : Nat} {ta : Nat} {sl : Int32} {ca : Nat} {os : Nat} {tr : Int32} {ts : Nat} {lg : Nat} {mm : Nat} {sc : Int32} {mwe : Nat → Int32} {g : Nat} {al : Int32} (hn : 47 ≤ n) (h43 : M 43 = .inr (9, [.int (nI G), .int (nI mo), .int (nI ta), .int sl, .ref (b + 44), .ref (b + 45), .ref (b + 46), .ref (b + 47), .int (nI ca), .ref (b + 48), .ref (b + 49), .ref (b + 50), .ref (b + 51), .ref (b + 52), .int (nI os), .ref (b + 53), .ref (b + 54), .ref (b + 55), .int tr, .int (nI ts), .ref (b + 56), .ref (b + 57), .int (nI lg), .ref (b + 58), .ref (b + 59), .ref (b + 60), .ref (b + 61), .int (nI mm), .int sc, .ref (b + 62), .ref (b + 63), .ref (b + 64), .ref (b + 65), .ref (b + 66), .ref (b + 67), .ref (b + 68), .ref (b + 69), .ref (b + 70), .ref (b + 71), .ref (b + 72), .ref (b + 73)])) (h46 : M 46 = .inl (cI, 32, .inl mwe))  (hG0 : 0 < G) (hG : G ≤ 32) (hg : g < G) : Met l yX9_before (kw yX9_before cX9_before 6 (some .int)) ({ frames := 0, cells := 0, slots := 0, locals := 0 }) (va_Pc [.ref (b + 43), .int (nI g), .int al] (kPre D (kT cI cJ cZ cH cR) b M n)) (va_Qi (fun (r : Int32) (u : (Nat → va_E) × Nat) => r = (nI (cnt (bfP G mwe g al) G)) ∧ u.2 = n ∧ u.1 = M) (kB D (kT cI cJ cZ cH cR) b) (kA b)) 0 0 (kA b) := by
  refine k_metI (by decide +kernel) (Nat.le_of_ble_eq_true rfl) ?_
  intro p e s m below meth c ls Q C hw hret hnm hl
  have hl : lv_has ls 6 [(0, .ref (b + 43)), (1, .int (nI g)), (2, .int al)] := hl
  refine lv_iconst (v := nI 0) C.1 C.2.1 dX9_before_0 (by decide) ?_
  refine lv_istore_n (lv' := [(3, .int (nI 0)), (0, .ref (b + 43)), (1, .int (nI g)), (2, .int al)]) C.1 C.2.1 dX9_before_1 rfl hl (by decide) rfl (fun ls hl => ?_)
  refine lv_iconst (v := nI 0) C.1 C.2.1 dX9_before_2 (by decide) ?_
  refine lv_istore (lv' := [(4, .int (nI 0)), (3, .int (nI 0)), (0, .ref (b + 43)), (1, .int (nI g)), (2, .int al)]) C.1 C.2.1 dX9_before_3 hl (by decide) rfl (fun ls hl => ?_)
  have L5 : ∀ (N5 : Nat) (i : Nat) (a : Nat), (G - i < N5) → (i ≤ G) → (a = cnt (bfP G mwe g al) i) → ∀ (ls : Array Slot) (H : Heap) (locs : List Loc), lv_has ls 6 [(4, .int (nI i)), (3, .int (nI a)), (0, .ref (b + 43)), (1, .int (nI g)), (2, .int al)] → kW D b M n s.heap H locs → W p l e ({ frames := 0, cells := 0, slots := 0, locals := 0 } : Room) s m ([.ref (b + 43), .int (nI g), .int al] : List Value).toArray below meth c H locs 0 0 Q (F0 m 5 ls []) := by
    intro N5
    induction N5 with
    | zero => intro i a hm5 hi ha ls H locs hl hw; omega
    | succ N5 ih5 =>
      intro i a hm5 hi ha ls H locs hl hw
      refine lv_iload C.1 C.2.1 dX9_before_5 (lv_at hl 0 rfl) ?_
      refine lv_aload_n C.1 C.2.1 dX9_before_7 rfl (lv_at hl 2 rfl) ?_
      refine k_get C hw 43 (by omega) h43 rfl inlX9 0 (by decide) q_170 rfl dX9_before_8 ?_
      refine lv_icmp_ge (tgt := 96) C.1 C.2.1 dX9_before_11 (by decide) (fun c11 => ?_) (fun c11 => ?_)
      · have q11 := (nI_leI (by omega) (by omega)).mp c11
        have q11 : i = G := by omega
        refine lv_iload_n C.1 C.2.1 dX9_before_96 rfl (lv_at hl 1 rfl) ?_
        exact hret _ _ (Nat.le_of_ble_eq_true rfl) (Nat.le_of_ble_eq_true rfl) hw (⟨by rw [ha, q11], rfl, rfl⟩) dX9_before_97
      · have q11 : ¬ G ≤ i := fun z => c11 ((nI_leI (by omega) (by omega)).mpr z)
        refine lv_aload_n C.1 C.2.1 dX9_before_14 rfl (lv_at hl 2 rfl) ?_
        refine k_get C hw 43 (by omega) h43 rfl inlX9 6 (by decide) q_125 rfl dX9_before_15 ?_
        refine lv_iload C.1 C.2.1 dX9_before_18 (lv_at hl 0 rfl) ?_
        refine k_iald C hw 46 (by omega) h46 (by omega) (by first | decide | omega) dX9_before_20 ?_
        refine lv_aload_n C.1 C.2.1 dX9_before_21 rfl (lv_at hl 2 rfl) ?_
        refine k_get C hw 43 (by omega) h43 rfl inlX9 6 (by decide) q_125 rfl dX9_before_22 ?_
        refine lv_iload_n C.1 C.2.1 dX9_before_25 rfl (lv_at hl 3 rfl) ?_
        refine k_iald C hw 46 (by omega) h46 (by omega) (by first | decide | omega) dX9_before_26 ?_
        refine lv_icmp_gt (tgt := 52) C.1 C.2.1 dX9_before_27 (by decide) (fun c27 => ?_) (fun c27 => ?_)
        · refine lv_iconst (v := nI 1) C.1 C.2.1 dX9_before_52 (by decide) ?_
          refine lv_goto (tgt := 57) C.1 C.2.1 dX9_before_53 (by decide) ?_
          refine lv_istore (lv' := [(5, .int (nI 1)), (4, .int (nI i)), (3, .int (nI a)), (0, .ref (b + 43)), (1, .int (nI g)), (2, .int al)]) C.1 C.2.1 dX9_before_57 hl (by decide) rfl (fun ls hl => ?_)
          refine lv_iload_n C.1 C.2.1 dX9_before_59 rfl (lv_at hl 2 rfl) ?_
          refine lv_iload C.1 C.2.1 dX9_before_60 (lv_at hl 0 rfl) ?_
          refine lv_if_eq (tgt := 87) C.1 C.2.1 dX9_before_62 (by decide) (fun c62 => ?_) (fun c62 => ?_)
          · exact absurd c62 (by decide)
          · refine lv_aload_n C.1 C.2.1 dX9_before_65 rfl (lv_at hl 3 rfl) ?_
            refine k_get C hw 43 (by omega) h43 rfl inlX9 6 (by decide) q_125 rfl dX9_before_66 ?_
            refine lv_iload C.1 C.2.1 dX9_before_69 (lv_at hl 1 rfl) ?_
            refine k_iald C hw 46 (by omega) h46 (by omega) (by first | decide | omega) dX9_before_71 ?_
            refine lv_aload_n C.1 C.2.1 dX9_before_72 rfl (lv_at hl 3 rfl) ?_
            refine k_get C hw 43 (by omega) h43 rfl inlX9 0 (by decide) q_170 rfl dX9_before_73 ?_
            refine lv_imul C.1 C.2.1 dX9_before_76 ?_
            refine lv_iconst (v := nI 2) C.1 C.2.1 dX9_before_77 (by decide) ?_
            refine lv_iload_n C.1 C.2.1 dX9_before_78 rfl (lv_at hl 5 rfl) ?_
            refine lv_imul C.1 C.2.1 dX9_before_79 ?_
            refine lv_icmp_le (tgt := 87) C.1 C.2.1 dX9_before_80 (by decide) (fun c80 => ?_) (fun c80 => ?_)
            · refine lv_iconst (v := nI 0) C.1 C.2.1 dX9_before_87 (by decide) ?_
              refine lv_iadd C.1 C.2.1 dX9_before_88 ?_
              refine k_topi (y := nI (cnt (bfP G mwe g al) (i + 1))) (by have h9 : mwe g < mwe i := c27; rw [nI_add, ha, cnt_f (by simp [c80]), Nat.add_zero]) ?_
              refine lv_istore_n (lv' := [(3, .int (nI (cnt (bfP G mwe g al) (i + 1)))), (5, .int (nI 1)), (4, .int (nI i)), (0, .ref (b + 43)), (1, .int (nI g)), (2, .int al)]) C.1 C.2.1 dX9_before_89 rfl hl (by decide) rfl (fun ls hl => ?_)
              refine lv_iinc (v := (nI (i + 1))) (lv' := [(4, .int (nI (i + 1))), (3, .int (nI (cnt (bfP G mwe g al) (i + 1)))), (5, .int (nI 1)), (0, .ref (b + 43)), (1, .int (nI g)), (2, .int al)]) C.1 C.2.1 dX9_before_90 hl (k := 2) rfl (k_inc _ 1) (by decide) rfl (fun ls hl => ?_)
              refine lv_goto (tgt := 5) C.1 C.2.1 dX9_before_93 (by decide) ?_
              exact ih5  (i + 1) (cnt (bfP G mwe g al) (i + 1)) (by omega) (by omega) (rfl) ls _ _ (lv_sub hl [0, 1, 3, 4, 5] rfl) hw
            · refine lv_iconst (v := nI 1) C.1 C.2.1 dX9_before_83 (by decide) ?_
              refine lv_goto (tgt := 88) C.1 C.2.1 dX9_before_84 (by decide) ?_
              refine lv_iadd C.1 C.2.1 dX9_before_88 ?_
              refine k_topi (y := nI (cnt (bfP G mwe g al) (i + 1))) (by have h9 : mwe g < mwe i := c27; have c81 := c80; rw [nI_add, ha, cnt_t (by simp [h9, c81])]) ?_
              refine lv_istore_n (lv' := [(3, .int (nI (cnt (bfP G mwe g al) (i + 1)))), (5, .int (nI 1)), (4, .int (nI i)), (0, .ref (b + 43)), (1, .int (nI g)), (2, .int al)]) C.1 C.2.1 dX9_before_89 rfl hl (by decide) rfl (fun ls hl => ?_)
              refine lv_iinc (v := (nI (i + 1))) (lv' := [(4, .int (nI (i + 1))), (3, .int (nI (cnt (bfP G mwe g al) (i + 1)))), (5, .int (nI 1)), (0, .ref (b + 43)), (1, .int (nI g)), (2, .int al)]) C.1 C.2.1 dX9_before_90 hl (k := 2) rfl (k_inc _ 1) (by decide) rfl (fun ls hl => ?_)
              refine lv_goto (tgt := 5) C.1 C.2.1 dX9_before_93 (by decide) ?_
              exact ih5  (i + 1) (cnt (bfP G mwe g al) (i + 1)) (by omega) (by omega) (rfl) ls _ _ (lv_sub hl [0, 1, 3, 4, 5] rfl) hw
        · refine lv_aload_n C.1 C.2.1 dX9_before_30 rfl (lv_at hl 2 rfl) ?_
          refine k_get C hw 43 (by omega) h43 rfl inlX9 6 (by decide) q_125 rfl dX9_before_31 ?_
          refine lv_iload C.1 C.2.1 dX9_before_34 (lv_at hl 0 rfl) ?_
          refine k_iald C hw 46 (by omega) h46 (by omega) (by first | decide | omega) dX9_before_36 ?_
          refine lv_aload_n C.1 C.2.1 dX9_before_37 rfl (lv_at hl 2 rfl) ?_
          refine k_get C hw 43 (by omega) h43 rfl inlX9 6 (by decide) q_125 rfl dX9_before_38 ?_
          refine lv_iload_n C.1 C.2.1 dX9_before_41 rfl (lv_at hl 3 rfl) ?_
          refine k_iald C hw 46 (by omega) h46 (by omega) (by first | decide | omega) dX9_before_42 ?_
          refine lv_icmp_ne (tgt := 56) C.1 C.2.1 dX9_before_43 (by decide) (fun c43 => ?_) (fun c43 => ?_)
          · refine lv_iconst (v := nI 0) C.1 C.2.1 dX9_before_56 (by decide) ?_
            refine lv_istore (lv' := [(5, .int (nI 0)), (4, .int (nI i)), (3, .int (nI a)), (0, .ref (b + 43)), (1, .int (nI g)), (2, .int al)]) C.1 C.2.1 dX9_before_57 hl (by decide) rfl (fun ls hl => ?_)
            refine lv_iload_n C.1 C.2.1 dX9_before_59 rfl (lv_at hl 2 rfl) ?_
            refine lv_iload C.1 C.2.1 dX9_before_60 (lv_at hl 0 rfl) ?_
            refine lv_if_eq (tgt := 87) C.1 C.2.1 dX9_before_62 (by decide) (fun c62 => ?_) (fun c62 => ?_)
            · refine lv_iconst (v := nI 0) C.1 C.2.1 dX9_before_87 (by decide) ?_
              refine lv_iadd C.1 C.2.1 dX9_before_88 ?_
              refine k_topi (y := nI (cnt (bfP G mwe g al) (i + 1))) (by have h9 : ¬ mwe g < mwe i := c27; rw [nI_add, ha, cnt_f (by simp [h9, c43]), Nat.add_zero]) ?_
              refine lv_istore_n (lv' := [(3, .int (nI (cnt (bfP G mwe g al) (i + 1)))), (5, .int (nI 0)), (4, .int (nI i)), (0, .ref (b + 43)), (1, .int (nI g)), (2, .int al)]) C.1 C.2.1 dX9_before_89 rfl hl (by decide) rfl (fun ls hl => ?_)
              refine lv_iinc (v := (nI (i + 1))) (lv' := [(4, .int (nI (i + 1))), (3, .int (nI (cnt (bfP G mwe g al) (i + 1)))), (5, .int (nI 0)), (0, .ref (b + 43)), (1, .int (nI g)), (2, .int al)]) C.1 C.2.1 dX9_before_90 hl (k := 2) rfl (k_inc _ 1) (by decide) rfl (fun ls hl => ?_)
              refine lv_goto (tgt := 5) C.1 C.2.1 dX9_before_93 (by decide) ?_
              exact ih5  (i + 1) (cnt (bfP G mwe g al) (i + 1)) (by omega) (by omega) (rfl) ls _ _ (lv_sub hl [0, 1, 3, 4, 5] rfl) hw
            · exact absurd rfl c62
          · refine lv_iload C.1 C.2.1 dX9_before_46 (lv_at hl 0 rfl) ?_
            refine lv_iload_n C.1 C.2.1 dX9_before_48 rfl (lv_at hl 3 rfl) ?_
            refine lv_icmp_ge (tgt := 56) C.1 C.2.1 dX9_before_49 (by decide) (fun c49 => ?_) (fun c49 => ?_)
            · refine lv_iconst (v := nI 0) C.1 C.2.1 dX9_before_56 (by decide) ?_
              refine lv_istore (lv' := [(5, .int (nI 0)), (4, .int (nI i)), (3, .int (nI a)), (0, .ref (b + 43)), (1, .int (nI g)), (2, .int al)]) C.1 C.2.1 dX9_before_57 hl (by decide) rfl (fun ls hl => ?_)
              refine lv_iload_n C.1 C.2.1 dX9_before_59 rfl (lv_at hl 2 rfl) ?_
              refine lv_iload C.1 C.2.1 dX9_before_60 (lv_at hl 0 rfl) ?_
              refine lv_if_eq (tgt := 87) C.1 C.2.1 dX9_before_62 (by decide) (fun c62 => ?_) (fun c62 => ?_)
              · refine lv_iconst (v := nI 0) C.1 C.2.1 dX9_before_87 (by decide) ?_
                refine lv_iadd C.1 C.2.1 dX9_before_88 ?_
                refine k_topi (y := nI (cnt (bfP G mwe g al) (i + 1))) (by have h9 : ¬ mwe g < mwe i := c27; have h8 : ¬ i < g := fun z => absurd ((nI_leI (by omega) (by omega)).mp c49) (by omega); rw [nI_add, ha, cnt_f (by simp [h9, h8]), Nat.add_zero]) ?_
                refine lv_istore_n (lv' := [(3, .int (nI (cnt (bfP G mwe g al) (i + 1)))), (5, .int (nI 0)), (4, .int (nI i)), (0, .ref (b + 43)), (1, .int (nI g)), (2, .int al)]) C.1 C.2.1 dX9_before_89 rfl hl (by decide) rfl (fun ls hl => ?_)
                refine lv_iinc (v := (nI (i + 1))) (lv' := [(4, .int (nI (i + 1))), (3, .int (nI (cnt (bfP G mwe g al) (i + 1)))), (5, .int (nI 0)), (0, .ref (b + 43)), (1, .int (nI g)), (2, .int al)]) C.1 C.2.1 dX9_before_90 hl (k := 2) rfl (k_inc _ 1) (by decide) rfl (fun ls hl => ?_)
                refine lv_goto (tgt := 5) C.1 C.2.1 dX9_before_93 (by decide) ?_
                exact ih5  (i + 1) (cnt (bfP G mwe g al) (i + 1)) (by omega) (by omega) (rfl) ls _ _ (lv_sub hl [0, 1, 3, 4, 5] rfl) hw
              · exact absurd rfl c62
            · refine lv_iconst (v := nI 1) C.1 C.2.1 dX9_before_52 (by decide) ?_
              refine lv_goto (tgt := 57) C.1 C.2.1 dX9_before_53 (by decide) ?_
              refine lv_istore (lv' := [(5, .int (nI 1)), (4, .int (nI i)), (3, .int (nI a)), (0, .ref (b + 43)), (1, .int (nI g)), (2, .int al)]) C.1 C.2.1 dX9_before_57 hl (by decide) rfl (fun ls hl => ?_)
              refine lv_iload_n C.1 C.2.1 dX9_before_59 rfl (lv_at hl 2 rfl) ?_
              refine lv_iload C.1 C.2.1 dX9_before_60 (lv_at hl 0 rfl) ?_
              refine lv_if_eq (tgt := 87) C.1 C.2.1 dX9_before_62 (by decide) (fun c62 => ?_) (fun c62 => ?_)
              · exact absurd c62 (by decide)
              · refine lv_aload_n C.1 C.2.1 dX9_before_65 rfl (lv_at hl 3 rfl) ?_
                refine k_get C hw 43 (by omega) h43 rfl inlX9 6 (by decide) q_125 rfl dX9_before_66 ?_
                refine lv_iload C.1 C.2.1 dX9_before_69 (lv_at hl 1 rfl) ?_
                refine k_iald C hw 46 (by omega) h46 (by omega) (by first | decide | omega) dX9_before_71 ?_
                refine lv_aload_n C.1 C.2.1 dX9_before_72 rfl (lv_at hl 3 rfl) ?_
                refine k_get C hw 43 (by omega) h43 rfl inlX9 0 (by decide) q_170 rfl dX9_before_73 ?_
                refine lv_imul C.1 C.2.1 dX9_before_76 ?_
                refine lv_iconst (v := nI 2) C.1 C.2.1 dX9_before_77 (by decide) ?_
                refine lv_iload_n C.1 C.2.1 dX9_before_78 rfl (lv_at hl 5 rfl) ?_
                refine lv_imul C.1 C.2.1 dX9_before_79 ?_
                refine lv_icmp_le (tgt := 87) C.1 C.2.1 dX9_before_80 (by decide) (fun c80 => ?_) (fun c80 => ?_)
                · refine lv_iconst (v := nI 0) C.1 C.2.1 dX9_before_87 (by decide) ?_
                  refine lv_iadd C.1 C.2.1 dX9_before_88 ?_
                  refine k_topi (y := nI (cnt (bfP G mwe g al) (i + 1))) (by have h8 : i < g := Nat.not_le.mp (fun z => c49 ((nI_leI (by omega) (by omega)).mpr z)); rw [nI_add, ha, cnt_f (by simp [c80]), Nat.add_zero]) ?_
                  refine lv_istore_n (lv' := [(3, .int (nI (cnt (bfP G mwe g al) (i + 1)))), (5, .int (nI 1)), (4, .int (nI i)), (0, .ref (b + 43)), (1, .int (nI g)), (2, .int al)]) C.1 C.2.1 dX9_before_89 rfl hl (by decide) rfl (fun ls hl => ?_)
                  refine lv_iinc (v := (nI (i + 1))) (lv' := [(4, .int (nI (i + 1))), (3, .int (nI (cnt (bfP G mwe g al) (i + 1)))), (5, .int (nI 1)), (0, .ref (b + 43)), (1, .int (nI g)), (2, .int al)]) C.1 C.2.1 dX9_before_90 hl (k := 2) rfl (k_inc _ 1) (by decide) rfl (fun ls hl => ?_)
                  refine lv_goto (tgt := 5) C.1 C.2.1 dX9_before_93 (by decide) ?_
                  exact ih5  (i + 1) (cnt (bfP G mwe g al) (i + 1)) (by omega) (by omega) (rfl) ls _ _ (lv_sub hl [0, 1, 3, 4, 5] rfl) hw
                · refine lv_iconst (v := nI 1) C.1 C.2.1 dX9_before_83 (by decide) ?_
                  refine lv_goto (tgt := 88) C.1 C.2.1 dX9_before_84 (by decide) ?_
                  refine lv_iadd C.1 C.2.1 dX9_before_88 ?_
                  refine k_topi (y := nI (cnt (bfP G mwe g al) (i + 1))) (by have h8 : i < g := Nat.not_le.mp (fun z => c49 ((nI_leI (by omega) (by omega)).mpr z)); have c81 := c80; rw [c43] at c81; rw [nI_add, ha, cnt_t (by simp [c43, h8, c81])]) ?_
                  refine lv_istore_n (lv' := [(3, .int (nI (cnt (bfP G mwe g al) (i + 1)))), (5, .int (nI 1)), (4, .int (nI i)), (0, .ref (b + 43)), (1, .int (nI g)), (2, .int al)]) C.1 C.2.1 dX9_before_89 rfl hl (by decide) rfl (fun ls hl => ?_)
                  refine lv_iinc (v := (nI (i + 1))) (lv' := [(4, .int (nI (i + 1))), (3, .int (nI (cnt (bfP G mwe g al) (i + 1)))), (5, .int (nI 1)), (0, .ref (b + 43)), (1, .int (nI g)), (2, .int al)]) C.1 C.2.1 dX9_before_90 hl (k := 2) rfl (k_inc _ 1) (by decide) rfl (fun ls hl => ?_)
                  refine lv_goto (tgt := 5) C.1 C.2.1 dX9_before_93 (by decide) ?_
                  exact ih5  (i + 1) (cnt (bfP G mwe g al) (i + 1)) (by omega) (by omega) (rfl) ls _ _ (lv_sub hl [0, 1, 3, 4, 5] rfl) hw
  exact L5 (_ + 1) (0) (0) (Nat.lt_succ_self _) (Nat.zero_le _) (rfl) ls _ _ (lv_sub hl [0, 1, 2, 3, 4] rfl) hw

set_option maxHeartbeats 4000000 in
set_option maxRecDepth 100000 in
theorem c_X9_hot {l : Launch} {D : va_G} {cI cJ cZ cH cR : ClassId} {b : Nat} {n : Nat} {M : Nat → va_E}  {G : Nat} {mo : Nat} {ta : Nat} {sl : Int32} {ca : Nat} {os : Nat} {tr : Int32} {ts : Nat} {lg : Nat} {mm : Nat} {sc : Int32} {mwe : Nat → Int32} {k : Int32} (hn : 47 ≤ n) (h43 : M 43 = .inr (9, [.int (nI G), .int (nI mo), .int (nI ta), .int sl, .ref (b + 44), .ref (b + 45), .ref (b + 46), .ref (b + 47), .int (nI ca), .ref (b + 48), .ref (b + 49), .ref (b + 50), .ref (b + 51), .ref (b + 52), .int (nI os), .ref (b + 53), .ref (b + 54), .ref (b + 55), .int tr, .int (nI ts), .ref (b + 56), .ref (b + 57), .int (nI lg), .ref (b + 58), .ref (b + 59), .ref (b + 60), .ref (b + 61), .int (nI mm), .int sc, .ref (b + 62), .ref (b + 63), .ref (b + 64), .ref (b + 65), .ref (b + 66), .ref (b + 67), .ref (b + 68), .ref (b + 69), .ref (b + 70), .ref (b + 71), .ref (b + 72), .ref (b + 73)])) (h46 : M 46 = .inl (cI, 32, .inl mwe))  (hG0 : 0 < G) (hG : G ≤ 32) : Met l yX9_hot (kw yX9_hot cX9_hot 5 (some .int)) ({ frames := 1, cells := 0, slots := 0, locals := 25 }) (va_Pc [.ref (b + 43), .int k] (kPre D (kT cI cJ cZ cH cR) b M n)) (va_Qi (fun (r : Int32) (u : (Nat → va_E) × Nat) => r = (lst (htQ G mwe k) G) ∧ u.2 = n ∧ u.1 = M) (kB D (kT cI cJ cZ cH cR) b) (kA b)) 0 0 (kA b) := by
  refine k_metI (by decide +kernel) (Nat.le_of_ble_eq_true rfl) ?_
  intro p e s m below meth c ls Q C hw hret hnm hl
  have hl : lv_has ls 5 [(0, .ref (b + 43)), (1, .int k)] := hl
  refine lv_aload_n C.1 C.2.1 dX9_hot_0 rfl (lv_at hl 0 rfl) ?_
  refine k_vi C hw 43 (by omega) h43 rfl (c_X9_total (by omega) h43 h46  (by omega) (by omega)) kv_X9_171 rfl hl.1 ⟨Nat.le_of_ble_eq_true rfl, Nat.le_of_ble_eq_true rfl⟩ (Nat.le_of_ble_eq_true rfl) ⟨Nat.le_of_ble_eq_true rfl, Nat.le_of_ble_eq_true rfl⟩ dX9_hot_1 (fun tot M_1 n9 H locs hp hw => ?_)
  obtain ⟨etot, en9, eM9⟩ := hp
  have en9 : n9 = n := en9
  rw [en9] at hw
  have eM9 : M_1 = M := eM9
  rw [eM9] at hw
  refine lv_istore_n (lv' := [(2, .int tot), (0, .ref (b + 43)), (1, .int k)]) C.1 C.2.1 dX9_hot_4 rfl hl (by decide) rfl (fun ls hl => ?_)
  refine lv_bipush (v := (-106)) C.1 C.2.1 dX9_hot_5 (by decide) ?_
  refine lv_istore_n (lv' := [(3, .int (-106)), (2, .int tot), (0, .ref (b + 43)), (1, .int k)]) C.1 C.2.1 dX9_hot_7 rfl hl (by decide) rfl (fun ls hl => ?_)
  refine lv_iconst (v := nI 0) C.1 C.2.1 dX9_hot_8 (by decide) ?_
  refine lv_istore (lv' := [(4, .int (nI 0)), (3, .int (-106)), (2, .int tot), (0, .ref (b + 43)), (1, .int k)]) C.1 C.2.1 dX9_hot_9 hl (by decide) rfl (fun ls hl => ?_)
  have L11 : ∀ (N11 : Nat) (i : Nat) (fo : Int32), (G - i < N11) → (i ≤ G) → (fo = lst (htQ G mwe k) i) → ∀ (ls : Array Slot) (H : Heap) (locs : List Loc), lv_has ls 5 [(4, .int (nI i)), (3, .int fo), (2, .int tot), (0, .ref (b + 43)), (1, .int k)] → kW D b M n s.heap H locs → W p l e ({ frames := 1, cells := 0, slots := 0, locals := 25 } : Room) s m ([.ref (b + 43), .int k] : List Value).toArray below meth c H locs 0 0 Q (F0 m 11 ls []) := by
    intro N11
    induction N11 with
    | zero => intro i fo hm11 hi ha ls H locs hl hw; omega
    | succ N11 ih11 =>
      intro i fo hm11 hi ha ls H locs hl hw
      refine lv_iload C.1 C.2.1 dX9_hot_11 (lv_at hl 0 rfl) ?_
      refine lv_aload_n C.1 C.2.1 dX9_hot_13 rfl (lv_at hl 3 rfl) ?_
      refine k_get C hw 43 (by omega) h43 rfl inlX9 0 (by decide) q_170 rfl dX9_hot_14 ?_
      refine lv_icmp_ge (tgt := 62) C.1 C.2.1 dX9_hot_17 (by decide) (fun c17 => ?_) (fun c17 => ?_)
      · have q17 := (nI_leI (by omega) (by omega)).mp c17
        have q17 : i = G := by omega
        refine lv_iload_n C.1 C.2.1 dX9_hot_62 rfl (lv_at hl 1 rfl) ?_
        exact hret _ _ (Nat.le_of_ble_eq_true rfl) (Nat.le_of_ble_eq_true rfl) hw (⟨by rw [ha, q17], rfl, rfl⟩) dX9_hot_63
      · have q17 : ¬ G ≤ i := fun z => c17 ((nI_leI (by omega) (by omega)).mpr z)
        refine lv_aload_n C.1 C.2.1 dX9_hot_20 rfl (lv_at hl 3 rfl) ?_
        refine k_get C hw 43 (by omega) h43 rfl inlX9 6 (by decide) q_125 rfl dX9_hot_21 ?_
        refine lv_iload C.1 C.2.1 dX9_hot_24 (lv_at hl 0 rfl) ?_
        refine k_iald C hw 46 (by omega) h46 (by omega) (by first | decide | omega) dX9_hot_26 ?_
        refine lv_aload_n C.1 C.2.1 dX9_hot_27 rfl (lv_at hl 3 rfl) ?_
        refine k_get C hw 43 (by omega) h43 rfl inlX9 0 (by decide) q_170 rfl dX9_hot_28 ?_
        refine lv_imul C.1 C.2.1 dX9_hot_31 ?_
        refine lv_iconst (v := nI 2) C.1 C.2.1 dX9_hot_32 (by decide) ?_
        refine lv_iload_n C.1 C.2.1 dX9_hot_33 rfl (lv_at hl 2 rfl) ?_
        refine lv_imul C.1 C.2.1 dX9_hot_34 ?_
        refine lv_icmp_le (tgt := 54) C.1 C.2.1 dX9_hot_35 (by decide) (fun c35 => ?_) (fun c35 => ?_)
        · refine lv_iload_n C.1 C.2.1 dX9_hot_54 rfl (lv_at hl 1 rfl) ?_
          refine lv_istore_n (lv' := [(3, .int fo), (4, .int (nI i)), (2, .int tot), (0, .ref (b + 43)), (1, .int k)]) C.1 C.2.1 dX9_hot_55 rfl hl (by decide) rfl (fun ls hl => ?_)
          refine lv_iinc (v := (nI (i + 1))) (lv' := [(4, .int (nI (i + 1))), (3, .int fo), (2, .int tot), (0, .ref (b + 43)), (1, .int k)]) C.1 C.2.1 dX9_hot_56 hl (k := 1) rfl (k_inc _ 1) (by decide) rfl (fun ls hl => ?_)
          refine lv_goto (tgt := 11) C.1 C.2.1 dX9_hot_59 (by decide) ?_
          exact ih11  (i + 1) (_) (by omega) (by omega) (by rw [ha]; rw [etot] at c35; show _ = if _ then _ else _; rw [if_neg (by simp [c35])]) ls _ _ (lv_sub hl [0, 1, 2, 3, 4] rfl) hw
        · refine lv_aload_n C.1 C.2.1 dX9_hot_38 rfl (lv_at hl 3 rfl) ?_
          refine lv_iload C.1 C.2.1 dX9_hot_39 (lv_at hl 0 rfl) ?_
          refine lv_iload_n C.1 C.2.1 dX9_hot_41 rfl (lv_at hl 2 rfl) ?_
          refine k_vi C hw 43 (by omega) h43 rfl (c_X9_before (by omega) h43 h46  (by omega) (by omega) (by omega)) kv_X9_205 rfl hl.1 ⟨Nat.le_of_ble_eq_true rfl, Nat.le_of_ble_eq_true rfl⟩ (Nat.le_of_ble_eq_true rfl) ⟨Nat.le_of_ble_eq_true rfl, Nat.le_of_ble_eq_true rfl⟩ dX9_hot_42 (fun r42 M_2 n9 H locs hp hw => ?_)
          obtain ⟨er42, en9, eM9⟩ := hp
          have en9 : n9 = n := en9
          rw [en9] at hw
          have eM9 : M_2 = M := eM9
          rw [eM9] at hw
          refine lv_iload_n C.1 C.2.1 dX9_hot_45 rfl (lv_at hl 4 rfl) ?_
          refine lv_icmp_ne (tgt := 54) C.1 C.2.1 dX9_hot_46 (by decide) (fun c46 => ?_) (fun c46 => ?_)
          · refine lv_iload_n C.1 C.2.1 dX9_hot_54 rfl (lv_at hl 1 rfl) ?_
            refine lv_istore_n (lv' := [(3, .int fo), (4, .int (nI i)), (2, .int tot), (0, .ref (b + 43)), (1, .int k)]) C.1 C.2.1 dX9_hot_55 rfl hl (by decide) rfl (fun ls hl => ?_)
            refine lv_iinc (v := (nI (i + 1))) (lv' := [(4, .int (nI (i + 1))), (3, .int fo), (2, .int tot), (0, .ref (b + 43)), (1, .int k)]) C.1 C.2.1 dX9_hot_56 hl (k := 1) rfl (k_inc _ 1) (by decide) rfl (fun ls hl => ?_)
            refine lv_goto (tgt := 11) C.1 C.2.1 dX9_hot_59 (by decide) ?_
            exact ih11  (i + 1) (_) (by omega) (by omega) (by rw [ha]; rw [er42, etot] at c46; show _ = if _ then _ else _; rw [if_neg (by simp [c46])]) ls _ _ (lv_sub hl [0, 1, 2, 3, 4] rfl) hw
          · refine lv_iload C.1 C.2.1 dX9_hot_49 (lv_at hl 0 rfl) ?_
            refine lv_goto (tgt := 55) C.1 C.2.1 dX9_hot_51 (by decide) ?_
            refine lv_istore_n (lv' := [(3, .int (nI i)), (4, .int (nI i)), (2, .int tot), (0, .ref (b + 43)), (1, .int k)]) C.1 C.2.1 dX9_hot_55 rfl hl (by decide) rfl (fun ls hl => ?_)
            refine lv_iinc (v := (nI (i + 1))) (lv' := [(4, .int (nI (i + 1))), (3, .int (nI i)), (2, .int tot), (0, .ref (b + 43)), (1, .int k)]) C.1 C.2.1 dX9_hot_56 hl (k := 1) rfl (k_inc _ 1) (by decide) rfl (fun ls hl => ?_)
            refine lv_goto (tgt := 11) C.1 C.2.1 dX9_hot_59 (by decide) ?_
            exact ih11  (i + 1) (_) (by omega) (by omega) (by rw [er42, etot] at c46; rw [etot] at c35; show _ = if _ then _ else _; rw [if_pos (by simp [c35, c46])]) ls _ _ (lv_sub hl [0, 1, 2, 3, 4] rfl) hw
  exact L11 (_ + 1) (0) (_) (Nat.lt_succ_self _) (Nat.zero_le _) (rfl) ls _ _ (lv_sub hl [0, 1, 2, 3, 4] rfl) hw

set_option maxHeartbeats 4000000 in
set_option maxRecDepth 100000 in
theorem c_X9_digest {l : Launch} {D : va_G} {cI cJ cZ cH cR : ClassId} {b : Nat} {n : Nat} {M : Nat → va_E}  {G : Nat} {mo : Nat} {ta : Nat} {sl : Int32} {ca : Nat} {os : Nat} {tr : Int32} {ts : Nat} {lg : Nat} {mm : Nat} {sc : Int32} {mow : Nat → Int32} {mep : Nat → Int32}  (hn : 46 ≤ n) (h43 : M 43 = .inr (9, [.int (nI G), .int (nI mo), .int (nI ta), .int sl, .ref (b + 44), .ref (b + 45), .ref (b + 46), .ref (b + 47), .int (nI ca), .ref (b + 48), .ref (b + 49), .ref (b + 50), .ref (b + 51), .ref (b + 52), .int (nI os), .ref (b + 53), .ref (b + 54), .ref (b + 55), .int tr, .int (nI ts), .ref (b + 56), .ref (b + 57), .int (nI lg), .ref (b + 58), .ref (b + 59), .ref (b + 60), .ref (b + 61), .int (nI mm), .int sc, .ref (b + 62), .ref (b + 63), .ref (b + 64), .ref (b + 65), .ref (b + 66), .ref (b + 67), .ref (b + 68), .ref (b + 69), .ref (b + 70), .ref (b + 71), .ref (b + 72), .ref (b + 73)])) (h44 : M 44 = .inl (cI, 32, .inl mow)) (h45 : M 45 = .inl (cI, 32, .inl mep))  (hG0 : 0 < G) (hG : G ≤ 32) : Met l yX9_digest (kw yX9_digest cX9_digest 3 (some .int)) ({ frames := 0, cells := 0, slots := 0, locals := 0 }) (va_Pc [.ref (b + 43)] (kPre D (kT cI cJ cZ cH cR) b M n)) (va_Qi (fun (r : Int32) (u : (Nat → va_E) × Nat) => r = (dgs mow mep G) ∧ u.2 = n ∧ u.1 = M) (kB D (kT cI cJ cZ cH cR) b) (kA b)) 0 0 (kA b) := by
  refine k_metI (by decide +kernel) (Nat.le_of_ble_eq_true rfl) ?_
  intro p e s m below meth c ls Q C hw hret hnm hl
  have hl : lv_has ls 3 [(0, .ref (b + 43))] := hl
  refine lv_bipush (v := nI 17) C.1 C.2.1 dX9_digest_0 (by decide) ?_
  refine lv_istore_n (lv' := [(1, .int (nI 17)), (0, .ref (b + 43))]) C.1 C.2.1 dX9_digest_2 rfl hl (by decide) rfl (fun ls hl => ?_)
  refine lv_iconst (v := nI 0) C.1 C.2.1 dX9_digest_3 (by decide) ?_
  refine lv_istore_n (lv' := [(2, .int (nI 0)), (1, .int (nI 17)), (0, .ref (b + 43))]) C.1 C.2.1 dX9_digest_4 rfl hl (by decide) rfl (fun ls hl => ?_)
  have L5 : ∀ (N5 : Nat) (i : Nat) (a : Int32), (G - i < N5) → (i ≤ G) → (a = dgs mow mep i) → ∀ (ls : Array Slot) (H : Heap) (locs : List Loc), lv_has ls 3 [(2, .int (nI i)), (1, .int a), (0, .ref (b + 43))] → kW D b M n s.heap H locs → W p l e ({ frames := 0, cells := 0, slots := 0, locals := 0 } : Room) s m ([.ref (b + 43)] : List Value).toArray below meth c H locs 0 0 Q (F0 m 5 ls []) := by
    intro N5
    induction N5 with
    | zero => intro i a hm5 hi ha ls H locs hl hw; omega
    | succ N5 ih5 =>
      intro i a hm5 hi ha ls H locs hl hw
      refine lv_iload_n C.1 C.2.1 dX9_digest_5 rfl (lv_at hl 0 rfl) ?_
      refine lv_aload_n C.1 C.2.1 dX9_digest_6 rfl (lv_at hl 2 rfl) ?_
      refine k_get C hw 43 (by omega) h43 rfl inlX9 0 (by decide) q_170 rfl dX9_digest_7 ?_
      refine lv_icmp_ge (tgt := 41) C.1 C.2.1 dX9_digest_10 (by decide) (fun c10 => ?_) (fun c10 => ?_)
      · have q10 := (nI_leI (by omega) (by omega)).mp c10
        have q10 : i = G := by omega
        refine lv_iload_n C.1 C.2.1 dX9_digest_41 rfl (lv_at hl 1 rfl) ?_
        exact hret _ _ (Nat.le_of_ble_eq_true rfl) (Nat.le_of_ble_eq_true rfl) hw (⟨by rw [ha, q10], rfl, rfl⟩) dX9_digest_42
      · have q10 : ¬ G ≤ i := fun z => c10 ((nI_leI (by omega) (by omega)).mpr z)
        refine lv_bipush (v := nI 31) C.1 C.2.1 dX9_digest_13 (by decide) ?_
        refine lv_iload_n C.1 C.2.1 dX9_digest_15 rfl (lv_at hl 1 rfl) ?_
        refine lv_imul C.1 C.2.1 dX9_digest_16 ?_
        refine lv_bipush (v := nI 100) C.1 C.2.1 dX9_digest_17 (by decide) ?_
        refine lv_aload_n C.1 C.2.1 dX9_digest_19 rfl (lv_at hl 2 rfl) ?_
        refine k_get C hw 43 (by omega) h43 rfl inlX9 4 (by decide) q_123 rfl dX9_digest_20 ?_
        refine lv_iload_n C.1 C.2.1 dX9_digest_23 rfl (lv_at hl 0 rfl) ?_
        refine k_iald C hw 44 (by omega) h44 (by omega) (by first | decide | omega) dX9_digest_24 ?_
        refine lv_imul C.1 C.2.1 dX9_digest_25 ?_
        refine lv_iadd C.1 C.2.1 dX9_digest_26 ?_
        refine lv_aload_n C.1 C.2.1 dX9_digest_27 rfl (lv_at hl 2 rfl) ?_
        refine k_get C hw 43 (by omega) h43 rfl inlX9 5 (by decide) q_124 rfl dX9_digest_28 ?_
        refine lv_iload_n C.1 C.2.1 dX9_digest_31 rfl (lv_at hl 0 rfl) ?_
        refine k_iald C hw 45 (by omega) h45 (by omega) (by first | decide | omega) dX9_digest_32 ?_
        refine lv_iadd C.1 C.2.1 dX9_digest_33 ?_
        refine lv_topi (fun a2 ea2 => ?_)
        refine lv_istore_n (lv' := [(1, .int a2), (2, .int (nI i)), (0, .ref (b + 43))]) C.1 C.2.1 dX9_digest_34 rfl hl (by decide) rfl (fun ls hl => ?_)
        refine lv_iinc (v := (nI (i + 1))) (lv' := [(2, .int (nI (i + 1))), (1, .int a2), (0, .ref (b + 43))]) C.1 C.2.1 dX9_digest_35 hl (k := 1) rfl (k_inc _ 1) (by decide) rfl (fun ls hl => ?_)
        refine lv_goto (tgt := 5) C.1 C.2.1 dX9_digest_38 (by decide) ?_
        exact ih5  (i + 1) (a2) (by omega) (by omega) (by rw [ea2, ha]; rfl) ls _ _ (lv_sub hl [0, 1, 2] rfl) hw
  exact L5 (_ + 1) (0) (nI 17) (Nat.lt_succ_self _) (Nat.zero_le _) (rfl) ls _ _ (lv_sub hl [0, 1, 2] rfl) hw

set_option maxHeartbeats 4000000 in
set_option maxRecDepth 100000 in
theorem c_X9_keptLogs {l : Launch} {D : va_G} {cI cJ cZ cH cR : ClassId} {b : Nat} {n : Nat} {M : Nat → va_E}  {G : Nat} {mo : Nat} {ta : Nat} {sl : Int32} {ca : Nat} {os : Nat} {tr : Int32} {ts : Nat} {lg : Nat} {mm : Nat} {sc : Int32}  (hn : 44 ≤ n) (h43 : M 43 = .inr (9, [.int (nI G), .int (nI mo), .int (nI ta), .int sl, .ref (b + 44), .ref (b + 45), .ref (b + 46), .ref (b + 47), .int (nI ca), .ref (b + 48), .ref (b + 49), .ref (b + 50), .ref (b + 51), .ref (b + 52), .int (nI os), .ref (b + 53), .ref (b + 54), .ref (b + 55), .int tr, .int (nI ts), .ref (b + 56), .ref (b + 57), .int (nI lg), .ref (b + 58), .ref (b + 59), .ref (b + 60), .ref (b + 61), .int (nI mm), .int sc, .ref (b + 62), .ref (b + 63), .ref (b + 64), .ref (b + 65), .ref (b + 66), .ref (b + 67), .ref (b + 68), .ref (b + 69), .ref (b + 70), .ref (b + 71), .ref (b + 72), .ref (b + 73)]))  (hlg : lg < 100000) : Met l yX9_keptLogs (kw yX9_keptLogs cX9_keptLogs 1 (some .int)) ({ frames := 0, cells := 0, slots := 0, locals := 0 }) (va_Pc [.ref (b + 43)] (kPre D (kT cI cJ cZ cH cR) b M n)) (va_Qi (fun (r : Int32) (u : (Nat → va_E) × Nat) => r = (nI (min lg 32)) ∧ u.2 = n ∧ u.1 = M) (kB D (kT cI cJ cZ cH cR) b) (kA b)) 0 0 (kA b) := by
  refine k_metI (by decide +kernel) (Nat.le_of_ble_eq_true rfl) ?_
  intro p e s m below meth c ls Q C hw hret hnm hl
  have hl : lv_has ls 1 [(0, .ref (b + 43))] := hl
  refine lv_aload_n C.1 C.2.1 dX9_keptLogs_0 rfl (lv_at hl 0 rfl) ?_
  refine k_get C hw 43 (by omega) h43 rfl inlX9 22 (by decide) q_163 rfl dX9_keptLogs_1 ?_
  refine lv_bipush (v := nI 32) C.1 C.2.1 dX9_keptLogs_4 (by decide) ?_
  refine lv_icmp_ge (tgt := 16) C.1 C.2.1 dX9_keptLogs_6 (by decide) (fun c6 => ?_) (fun c6 => ?_)
  · have q := (nI_leI (by omega) (by omega)).mp c6
    refine lv_bipush (v := nI 32) C.1 C.2.1 dX9_keptLogs_16 (by decide) ?_
    exact hret _ _ (Nat.le_of_ble_eq_true rfl) (Nat.le_of_ble_eq_true rfl) hw (⟨by rw [Nat.min_eq_right q], rfl, rfl⟩) dX9_keptLogs_18
  · have q : ¬ 32 ≤ lg := fun z => c6 ((nI_leI (by omega) (by omega)).mpr z)
    refine lv_aload_n C.1 C.2.1 dX9_keptLogs_9 rfl (lv_at hl 0 rfl) ?_
    refine k_get C hw 43 (by omega) h43 rfl inlX9 22 (by decide) q_163 rfl dX9_keptLogs_10 ?_
    refine lv_goto (tgt := 18) C.1 C.2.1 dX9_keptLogs_13 (by decide) ?_
    exact hret _ _ (Nat.le_of_ble_eq_true rfl) (Nat.le_of_ble_eq_true rfl) hw (⟨by rw [Nat.min_eq_left (by omega)], rfl, rfl⟩) dX9_keptLogs_18

set_option maxHeartbeats 4000000 in
set_option maxRecDepth 100000 in
theorem c_X9_told {l : Launch} {D : va_G} {cI cJ cZ cH cR : ClassId} {b : Nat} {n : Nat} {M : Nat → va_E}  {G : Nat} {mo : Nat} {ta : Nat} {sl : Int32} {ca : Nat} {os : Nat} {tr : Int32} {ts : Nat} {lg : Nat} {mm : Nat} {sc : Int32} {mwe : Nat → Int32} {mwa : Nat → Int32} {w : Int32} (hn : 51 ≤ n) (h43 : M 43 = .inr (9, [.int (nI G), .int (nI mo), .int (nI ta), .int sl, .ref (b + 44), .ref (b + 45), .ref (b + 46), .ref (b + 47), .int (nI ca), .ref (b + 48), .ref (b + 49), .ref (b + 50), .ref (b + 51), .ref (b + 52), .int (nI os), .ref (b + 53), .ref (b + 54), .ref (b + 55), .int tr, .int (nI ts), .ref (b + 56), .ref (b + 57), .int (nI lg), .ref (b + 58), .ref (b + 59), .ref (b + 60), .ref (b + 61), .int (nI mm), .int sc, .ref (b + 62), .ref (b + 63), .ref (b + 64), .ref (b + 65), .ref (b + 66), .ref (b + 67), .ref (b + 68), .ref (b + 69), .ref (b + 70), .ref (b + 71), .ref (b + 72), .ref (b + 73)])) (h46 : M 46 = .inl (cI, 32, .inl mwe)) (h50 : M 50 = .inl (cZ, 400, .inl mwa))  (hG0 : 0 < G) (hG : G ≤ 32) (hca : ca ≤ 400) (hlg : lg < 100000) : Met l yX9_told (kw yX9_told cX9_told 2 (some .int)) ({ frames := 1, cells := 0, slots := 0, locals := 22 }) (va_Pc [.ref (b + 43), .int w] (kPre D (kT cI cJ cZ cH cR) b M n)) (va_Qi (fun (r : Int32) (u : (Nat → va_E) × Nat) => r = (selI w [nI G, nI mo, nI ta, nI ca, nI (cnt (mvz mwa) ca), nI os, sm mwe G, nI ts, tr, nI (min lg 32), nI mm, sc]) ∧ u.2 = n ∧ u.1 = M) (kB D (kT cI cJ cZ cH cR) b) (kA b)) 0 0 (kA b) := by
  refine k_metI (by decide +kernel) (Nat.le_of_ble_eq_true rfl) ?_
  intro p e s m below meth c ls Q C hw hret hnm hl
  have hl : lv_has ls 2 [(0, .ref (b + 43)), (1, .int w)] := hl
  refine lv_iload_n C.1 C.2.1 dX9_told_0 rfl (lv_at hl 1 rfl) ?_
  rcases k_sw (x := w) (lo := 0) (hi := 11) with hsw | ⟨k9, hk1, hk2, hsw⟩
  · refine lv_tableOut (tgt := 124) C.1 C.2.1 dX9_told_1 hsw (by decide) ?_
    refine lv_bipush (v := (-102)) C.1 C.2.1 dX9_told_124 (by decide) ?_
    exact hret _ _ (Nat.le_of_ble_eq_true rfl) (Nat.le_of_ble_eq_true rfl) hw (⟨(selI_out hsw rfl).symm, rfl, rfl⟩) dX9_told_126
  · rcases (show k9 = 0 ∨ k9 = 1 ∨ k9 = 2 ∨ k9 = 3 ∨ k9 = 4 ∨ k9 = 5 ∨ k9 = 6 ∨ k9 = 7 ∨ k9 = 8 ∨ k9 = 9 ∨ k9 = 10 ∨ k9 = 11 by omega) with rfl | rfl | rfl | rfl | rfl | rfl | rfl | rfl | rfl | rfl | rfl | rfl
    · refine lv_tableIn (off := 63) (tgt := 64) C.1 C.2.1 dX9_told_1 (by rw [hsw]; decide) (by rw [hsw]; decide) (by rw [hsw]; decide) (by decide) ?_
      refine lv_aload_n C.1 C.2.1 dX9_told_64 rfl (lv_at hl 0 rfl) ?_
      refine k_get C hw 43 (by omega) h43 rfl inlX9 0 (by decide) q_170 rfl dX9_told_65 ?_
      exact hret _ _ (Nat.le_of_ble_eq_true rfl) (Nat.le_of_ble_eq_true rfl) hw (⟨(selI_at 0 hsw rfl).symm, rfl, rfl⟩) dX9_told_68
    · refine lv_tableIn (off := 68) (tgt := 69) C.1 C.2.1 dX9_told_1 (by rw [hsw]; decide) (by rw [hsw]; decide) (by rw [hsw]; decide) (by decide) ?_
      refine lv_aload_n C.1 C.2.1 dX9_told_69 rfl (lv_at hl 0 rfl) ?_
      refine k_get C hw 43 (by omega) h43 rfl inlX9 1 (by decide) q_171 rfl dX9_told_70 ?_
      exact hret _ _ (Nat.le_of_ble_eq_true rfl) (Nat.le_of_ble_eq_true rfl) hw (⟨(selI_at 1 hsw rfl).symm, rfl, rfl⟩) dX9_told_73
    · refine lv_tableIn (off := 73) (tgt := 74) C.1 C.2.1 dX9_told_1 (by rw [hsw]; decide) (by rw [hsw]; decide) (by rw [hsw]; decide) (by decide) ?_
      refine lv_aload_n C.1 C.2.1 dX9_told_74 rfl (lv_at hl 0 rfl) ?_
      refine k_get C hw 43 (by omega) h43 rfl inlX9 2 (by decide) q_172 rfl dX9_told_75 ?_
      exact hret _ _ (Nat.le_of_ble_eq_true rfl) (Nat.le_of_ble_eq_true rfl) hw (⟨(selI_at 2 hsw rfl).symm, rfl, rfl⟩) dX9_told_78
    · refine lv_tableIn (off := 78) (tgt := 79) C.1 C.2.1 dX9_told_1 (by rw [hsw]; decide) (by rw [hsw]; decide) (by rw [hsw]; decide) (by decide) ?_
      refine lv_aload_n C.1 C.2.1 dX9_told_79 rfl (lv_at hl 0 rfl) ?_
      refine k_get C hw 43 (by omega) h43 rfl inlX9 8 (by decide) q_159 rfl dX9_told_80 ?_
      exact hret _ _ (Nat.le_of_ble_eq_true rfl) (Nat.le_of_ble_eq_true rfl) hw (⟨(selI_at 3 hsw rfl).symm, rfl, rfl⟩) dX9_told_83
    · refine lv_tableIn (off := 83) (tgt := 84) C.1 C.2.1 dX9_told_1 (by rw [hsw]; decide) (by rw [hsw]; decide) (by rw [hsw]; decide) (by decide) ?_
      refine lv_aload_n C.1 C.2.1 dX9_told_84 rfl (lv_at hl 0 rfl) ?_
      refine k_vi C hw 43 (by omega) h43 rfl (c_X9_waiting (by omega) h43 h50  (by omega)) kv_X9_224 rfl hl.1 ⟨Nat.le_of_ble_eq_true rfl, Nat.le_of_ble_eq_true rfl⟩ (Nat.le_of_ble_eq_true rfl) ⟨Nat.le_of_ble_eq_true rfl, Nat.le_of_ble_eq_true rfl⟩ dX9_told_85 (fun r85 M_1 n9 H locs hp hw => ?_)
      obtain ⟨er85, en9, eM9⟩ := hp
      have en9 : n9 = n := en9
      rw [en9] at hw
      have eM9 : M_1 = M := eM9
      rw [eM9] at hw
      exact hret _ _ (Nat.le_of_ble_eq_true rfl) (Nat.le_of_ble_eq_true rfl) hw (⟨by rw [er85]; exact (selI_at 4 hsw rfl).symm, rfl, rfl⟩) dX9_told_88
    · refine lv_tableIn (off := 88) (tgt := 89) C.1 C.2.1 dX9_told_1 (by rw [hsw]; decide) (by rw [hsw]; decide) (by rw [hsw]; decide) (by decide) ?_
      refine lv_aload_n C.1 C.2.1 dX9_told_89 rfl (lv_at hl 0 rfl) ?_
      refine k_get C hw 43 (by omega) h43 rfl inlX9 14 (by decide) q_160 rfl dX9_told_90 ?_
      exact hret _ _ (Nat.le_of_ble_eq_true rfl) (Nat.le_of_ble_eq_true rfl) hw (⟨(selI_at 5 hsw rfl).symm, rfl, rfl⟩) dX9_told_93
    · refine lv_tableIn (off := 93) (tgt := 94) C.1 C.2.1 dX9_told_1 (by rw [hsw]; decide) (by rw [hsw]; decide) (by rw [hsw]; decide) (by decide) ?_
      refine lv_aload_n C.1 C.2.1 dX9_told_94 rfl (lv_at hl 0 rfl) ?_
      refine k_vi C hw 43 (by omega) h43 rfl (c_X9_total (by omega) h43 h46  (by omega) (by omega)) kv_X9_171 rfl hl.1 ⟨Nat.le_of_ble_eq_true rfl, Nat.le_of_ble_eq_true rfl⟩ (Nat.le_of_ble_eq_true rfl) ⟨Nat.le_of_ble_eq_true rfl, Nat.le_of_ble_eq_true rfl⟩ dX9_told_95 (fun r95 M_2 n9 H locs hp hw => ?_)
      obtain ⟨er95, en9, eM9⟩ := hp
      have en9 : n9 = n := en9
      rw [en9] at hw
      have eM9 : M_2 = M := eM9
      rw [eM9] at hw
      exact hret _ _ (Nat.le_of_ble_eq_true rfl) (Nat.le_of_ble_eq_true rfl) hw (⟨by rw [er95]; exact (selI_at 6 hsw rfl).symm, rfl, rfl⟩) dX9_told_98
    · refine lv_tableIn (off := 98) (tgt := 99) C.1 C.2.1 dX9_told_1 (by rw [hsw]; decide) (by rw [hsw]; decide) (by rw [hsw]; decide) (by decide) ?_
      refine lv_aload_n C.1 C.2.1 dX9_told_99 rfl (lv_at hl 0 rfl) ?_
      refine k_get C hw 43 (by omega) h43 rfl inlX9 19 (by decide) q_162 rfl dX9_told_100 ?_
      exact hret _ _ (Nat.le_of_ble_eq_true rfl) (Nat.le_of_ble_eq_true rfl) hw (⟨(selI_at 7 hsw rfl).symm, rfl, rfl⟩) dX9_told_103
    · refine lv_tableIn (off := 103) (tgt := 104) C.1 C.2.1 dX9_told_1 (by rw [hsw]; decide) (by rw [hsw]; decide) (by rw [hsw]; decide) (by decide) ?_
      refine lv_aload_n C.1 C.2.1 dX9_told_104 rfl (lv_at hl 0 rfl) ?_
      refine k_get C hw 43 (by omega) h43 rfl inlX9 18 (by decide) q_161 rfl dX9_told_105 ?_
      exact hret _ _ (Nat.le_of_ble_eq_true rfl) (Nat.le_of_ble_eq_true rfl) hw (⟨(selI_at 8 hsw rfl).symm, rfl, rfl⟩) dX9_told_108
    · refine lv_tableIn (off := 108) (tgt := 109) C.1 C.2.1 dX9_told_1 (by rw [hsw]; decide) (by rw [hsw]; decide) (by rw [hsw]; decide) (by decide) ?_
      refine lv_aload_n C.1 C.2.1 dX9_told_109 rfl (lv_at hl 0 rfl) ?_
      refine k_vi C hw 43 (by omega) h43 rfl (c_X9_keptLogs (by omega) h43  (by omega)) kv_X9_221 rfl hl.1 ⟨Nat.le_of_ble_eq_true rfl, Nat.le_of_ble_eq_true rfl⟩ (Nat.le_of_ble_eq_true rfl) ⟨Nat.le_of_ble_eq_true rfl, Nat.le_of_ble_eq_true rfl⟩ dX9_told_110 (fun r110 M_3 n9 H locs hp hw => ?_)
      obtain ⟨er110, en9, eM9⟩ := hp
      have en9 : n9 = n := en9
      rw [en9] at hw
      have eM9 : M_3 = M := eM9
      rw [eM9] at hw
      exact hret _ _ (Nat.le_of_ble_eq_true rfl) (Nat.le_of_ble_eq_true rfl) hw (⟨by rw [er110]; exact (selI_at 9 hsw rfl).symm, rfl, rfl⟩) dX9_told_113
    · refine lv_tableIn (off := 113) (tgt := 114) C.1 C.2.1 dX9_told_1 (by rw [hsw]; decide) (by rw [hsw]; decide) (by rw [hsw]; decide) (by decide) ?_
      refine lv_aload_n C.1 C.2.1 dX9_told_114 rfl (lv_at hl 0 rfl) ?_
      refine k_get C hw 43 (by omega) h43 rfl inlX9 27 (by decide) q_164 rfl dX9_told_115 ?_
      exact hret _ _ (Nat.le_of_ble_eq_true rfl) (Nat.le_of_ble_eq_true rfl) hw (⟨(selI_at 10 hsw rfl).symm, rfl, rfl⟩) dX9_told_118
    · refine lv_tableIn (off := 118) (tgt := 119) C.1 C.2.1 dX9_told_1 (by rw [hsw]; decide) (by rw [hsw]; decide) (by rw [hsw]; decide) (by decide) ?_
      refine lv_aload_n C.1 C.2.1 dX9_told_119 rfl (lv_at hl 0 rfl) ?_
      refine k_get C hw 43 (by omega) h43 rfl inlX9 28 (by decide) q_165 rfl dX9_told_120 ?_
      exact hret _ _ (Nat.le_of_ble_eq_true rfl) (Nat.le_of_ble_eq_true rfl) hw (⟨(selI_at 11 hsw rfl).symm, rfl, rfl⟩) dX9_told_123

set_option maxHeartbeats 4000000 in
set_option maxRecDepth 100000 in
theorem c_X9_clear {l : Launch} {D : va_G} {cI cJ cZ cH cR : ClassId} {b : Nat} {n : Nat} {M : Nat → va_E}  {G : Nat} {mo : Nat} {ta : Nat} {sl : Int32} {ca : Nat} {os : Nat} {tr : Int32} {ts : Nat} {lg : Nat} {mm : Nat} {sc : Int32} {mow : Nat → Int32} {mep : Nat → Int32} {mwe : Nat → Int32} {mmv : Nat → Int32} {mct : Nat → Int32} {msu : Nat → Int64}  (hn : 53 ≤ n) (h43 : M 43 = .inr (9, [.int (nI G), .int (nI mo), .int (nI ta), .int sl, .ref (b + 44), .ref (b + 45), .ref (b + 46), .ref (b + 47), .int (nI ca), .ref (b + 48), .ref (b + 49), .ref (b + 50), .ref (b + 51), .ref (b + 52), .int (nI os), .ref (b + 53), .ref (b + 54), .ref (b + 55), .int tr, .int (nI ts), .ref (b + 56), .ref (b + 57), .int (nI lg), .ref (b + 58), .ref (b + 59), .ref (b + 60), .ref (b + 61), .int (nI mm), .int sc, .ref (b + 62), .ref (b + 63), .ref (b + 64), .ref (b + 65), .ref (b + 66), .ref (b + 67), .ref (b + 68), .ref (b + 69), .ref (b + 70), .ref (b + 71), .ref (b + 72), .ref (b + 73)])) (h44 : M 44 = .inl (cI, 32, .inl mow)) (h45 : M 45 = .inl (cI, 32, .inl mep)) (h46 : M 46 = .inl (cI, 32, .inl mwe)) (h47 : M 47 = .inl (cZ, 32, .inl mmv)) (h51 : M 51 = .inl (cI, 100, .inl mct)) (h52 : M 52 = .inl (cJ, 100, .inr (.inl msu)))   : Met l yX9_clear (kw yX9_clear cX9_clear 2 (some .int)) ({ frames := 2, cells := 0, slots := 0, locals := 44 }) (va_Pc [.ref (b + 43)] (kPre D (kT cI cJ cZ cH cR) b M n)) (va_Qi (fun (r : Int32) (u : (Nat → va_E) × Nat) => r = (nI ca) ∧ u.2 = n ∧ kF [43, 44, 45, 46, 47, 51, 52] M u.1 ∧ u.1 43 = .inr (9, [.int (nI 8), .int (nI 4), .int (nI 1), .int (nI 20), .ref (b + 44), .ref (b + 45), .ref (b + 46), .ref (b + 47), .int (nI 0), .ref (b + 48), .ref (b + 49), .ref (b + 50), .ref (b + 51), .ref (b + 52), .int (nI 0), .ref (b + 53), .ref (b + 54), .ref (b + 55), .int (nI 0), .int (nI 0), .ref (b + 56), .ref (b + 57), .int (nI 0), .ref (b + 58), .ref (b + 59), .ref (b + 60), .ref (b + 61), .int (nI 0), .int (nI 0), .ref (b + 62), .ref (b + 63), .ref (b + 64), .ref (b + 65), .ref (b + 66), .ref (b + 67), .ref (b + 68), .ref (b + 69), .ref (b + 70), .ref (b + 71), .ref (b + 72), .ref (b + 73)]) ∧ u.1 44 = .inl (cI, 32, .inl (fun _ => 0)) ∧ u.1 45 = .inl (cI, 32, .inl (fun _ => 1)) ∧ u.1 46 = .inl (cI, 32, .inl (fun _ => 0)) ∧ u.1 47 = .inl (cZ, 32, .inl (fun _ => 0)) ∧ u.1 51 = .inl (cI, 100, .inl (fun _ => 0)) ∧ u.1 52 = .inl (cJ, 100, .inr (.inl (fun _ => 0)))) (kB D (kT cI cJ cZ cH cR) b) (kA b)) 0 0 (kA b) := by
  refine k_metI (by decide +kernel) (Nat.le_of_ble_eq_true rfl) ?_
  intro p e s m below meth c ls Q C hw hret hnm hl
  have hl : lv_has ls 2 [(0, .ref (b + 43))] := hl
  have hFF : kF [43, 44, 45, 46, 47, 51, 52] M M := kF_rf
  refine lv_aload_n C.1 C.2.1 dX9_clear_0 rfl (lv_at hl 0 rfl) ?_
  refine k_get C hw 43 (by omega) h43 rfl inlX9 8 (by decide) q_159 rfl dX9_clear_1 ?_
  refine lv_istore_n (lv' := [(1, .int (nI ca)), (0, .ref (b + 43))]) C.1 C.2.1 dX9_clear_4 rfl hl (by decide) rfl (fun ls hl => ?_)
  refine lv_aload_n C.1 C.2.1 dX9_clear_5 rfl (lv_at hl 1 rfl) ?_
  refine k_vv C hw 43 (by omega) h43 rfl (c_X9_begin (by omega) h43 h44 h45 h46 h47 h51 h52  ) kv_X9_102 rfl hl.1 ⟨Nat.le_of_ble_eq_true rfl, Nat.le_of_ble_eq_true rfl⟩ (Nat.le_of_ble_eq_true rfl) ⟨Nat.le_of_ble_eq_true rfl, Nat.le_of_ble_eq_true rfl⟩ dX9_clear_6 (fun M_1 n9 H locs hp hw => ?_)
  obtain ⟨en9, hF, h43, h44, h45, h46, h47, h51, h52⟩ := hp
  have en9 : n9 = n := en9
  rw [en9] at hw
  have hFF := kF_st hFF hF (by first | decide | simp)
  refine lv_iload_n C.1 C.2.1 dX9_clear_9 rfl (lv_at hl 0 rfl) ?_
  exact hret _ _ (Nat.le_of_ble_eq_true rfl) (Nat.le_of_ble_eq_true rfl) hw (⟨rfl, rfl, hFF, h43, h44, h45, h46, h47, h51, h52⟩) dX9_clear_10
