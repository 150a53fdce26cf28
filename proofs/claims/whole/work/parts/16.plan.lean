theorem kv_X4_23 : kV RX4 RX4 23 yX4_layRange cX4_layRange 5 none 3 := ⟨q_312, q_313, q_314, q_18, q_315, by decide +kernel⟩
theorem kv_X4_63 : kV RX4 RX3 63 yX3_costToGive cX3_costToGive 3 (some .int) 2 := ⟨q_339, q_340, q_341, q_14, q_342, by decide +kernel⟩
set_option maxHeartbeats 4000000 in
set_option maxRecDepth 100000 in
theorem c_X3_follow {l : Launch} {D : va_G} {cI cJ cZ cH cR : ClassId} {b : Nat} {n : Nat} {M : Nat → va_E}  {G : Nat} {mo : Nat} {ta : Nat} {sc : Int32} {mv : Nat} {ow : Nat → Int32} {ep : Nat → Int32} {we : Nat → Int32} {mg : Nat → Int32} {po : Nat → Int32} {k : Nat} (hn : 8 ≤ n) (h1 : M 1 = .inr (3, [.int (nI G), .int (nI mo), .int (nI ta), .int sc, .int (nI mv), .ref (b + 2), .ref (b + 3), .ref (b + 4), .ref (b + 5)])) (h2 : M 2 = .inl (cI, 32, .inl ow)) (h3 : M 3 = .inl (cI, 32, .inl ep)) (h4 : M 4 = .inl (cI, 32, .inl we)) (h5 : M 5 = .inl (cI, 32, .inl mg)) (h7 : M 7 = .inl (cI, 32, .inl po))  (hG0 : 0 < G) (hG : G ≤ 32) : Met l yX3_follow (kw yX3_follow cX3_follow 4 (some .int)) ({ frames := 0, cells := 0, slots := 0, locals := 0 }) (va_Pc [.ref (b + 1), .ref (b + 7), .int (nI k)] (kPre D (kT cI cJ cZ cH cR) b M n)) (va_Qi (fun (r : Int32) (u : (Nat → va_E) × Nat) => r = (nI (cnt (fun g => !(ow g == po g)) G)) ∧ u.2 = n ∧ kF [1, 2, 3, 4, 5] M u.1 ∧ u.1 1 = .inr (3, [.int (nI G), .int (nI mo), .int (nI k), .int (sc + nI 1), .int (nI (cnt (fun g => !(ow g == po g)) G)), .ref (b + 2), .ref (b + 3), .ref (b + 4), .ref (b + 5)]) ∧ u.1 2 = .inl (cI, 32, .inl (pfx po ow G)) ∧ u.1 3 = .inl (cI, 32, .inl (pfx (fun g => if ow g = po g then ep g else ep g + nI 1) ep G)) ∧ u.1 4 = .inl (cI, 32, .inl (pfx (fun g => we g / nI 2) we G)) ∧ u.1 5 = .inl (cI, 32, .inl (col (fun g => !(ow g == po g)) mg G))) (kB D (kT cI cJ cZ cH cR) b) (kA b)) 0 0 (kA b) := by
  refine k_metI (by decide +kernel) (Nat.le_of_ble_eq_true rfl) ?_
  intro p e s m below meth c ls Q C hw hret hnm hl
  have hl : lv_has ls 4 [(0, .ref (b + 1)), (1, .ref (b + 7)), (2, .int (nI k))] := hl
  have hFF : kF [1, 2, 3, 4, 5] M M := kF_rf
  refine lv_aload_n C.1 C.2.1 dX3_follow_0 rfl (lv_at hl 0 rfl) ?_
  refine lv_iconst (v := nI 0) C.1 C.2.1 dX3_follow_1 (by decide) ?_
  refine k_put (tf := .int) C hw 1 (by omega) h1 rfl inlX3 tyX3 tyX3_ok nmX3 4 (by decide) q_48 rfl (by decide +kernel) rfl rfl (Nat.le_of_ble_eq_true rfl) dX3_follow_2 (fun M_1 H locs hw h1 hF => ?_)
  have h1 : M_1 1 = .inr (3, [.int (nI G), .int (nI mo), .int (nI ta), .int sc, .int (nI 0), .ref (b + 2), .ref (b + 3), .ref (b + 4), .ref (b + 5)]) := h1
  have h2 := (hF 2 (by decide)).trans h2
  have h3 := (hF 3 (by decide)).trans h3
  have h4 := (hF 4 (by decide)).trans h4
  have h5 := (hF 5 (by decide)).trans h5
  have h7 := (hF 7 (by decide)).trans h7
  have hFF := kF_st hFF hF (by first | decide | simp)
  refine lv_iconst (v := nI 0) C.1 C.2.1 dX3_follow_5 (by decide) ?_
  refine lv_istore_n (lv' := [(3, .int (nI 0)), (0, .ref (b + 1)), (1, .ref (b + 7)), (2, .int (nI k))]) C.1 C.2.1 dX3_follow_6 rfl hl (by decide) rfl (fun ls hl => ?_)
  have L7 : ∀ (N7 : Nat) (i : Nat) (Mx7 : Nat → va_E), (G - i < N7) → (i ≤ G) → kF [1, 2, 3, 4, 5] M Mx7 → Mx7 1 = .inr (3, [.int (nI G), .int (nI mo), .int (nI ta), .int (sc), .int (nI (cnt (fun g => !(ow g == po g)) i)), .ref (b + 2), .ref (b + 3), .ref (b + 4), .ref (b + 5)]) → Mx7 2 = .inl (cI, 32, .inl (pfx po ow i)) → Mx7 3 = .inl (cI, 32, .inl (pfx (fun g => if ow g = po g then ep g else ep g + nI 1) ep i)) → Mx7 4 = .inl (cI, 32, .inl (pfx (fun g => we g / nI 2) we i)) → Mx7 5 = .inl (cI, 32, .inl (col (fun g => !(ow g == po g)) mg i)) → Mx7 7 = .inl (cI, 32, .inl po) → ∀ (ls : Array Slot) (H : Heap) (locs : List Loc), lv_has ls 4 [(3, .int (nI i)), (0, .ref (b + 1)), (1, .ref (b + 7)), (2, .int (nI k))] → kW D b Mx7 n s.heap H locs → W p l e ({ frames := 0, cells := 0, slots := 0, locals := 0 } : Room) s m ([.ref (b + 1), .ref (b + 7), .int (nI k)] : List Value).toArray below meth c H locs 0 0 Q (F0 m 7 ls []) := by
    intro N7
    induction N7 with
    | zero => intro i Mx7 hm7 hi hFF h1 h2 h3 h4 h5 h7 ls H locs hl hw; omega
    | succ N7 ih7 =>
      intro i Mx7 hm7 hi hFF h1 h2 h3 h4 h5 h7 ls H locs hl hw
      refine lv_iload_n C.1 C.2.1 dX3_follow_7 rfl (lv_at hl 0 rfl) ?_
      refine lv_aload_n C.1 C.2.1 dX3_follow_8 rfl (lv_at hl 1 rfl) ?_
      refine k_get C hw 1 (by omega) h1 rfl inlX3 0 (by decide) q_53 rfl dX3_follow_9 ?_
      refine lv_icmp_ge (tgt := 82) C.1 C.2.1 dX3_follow_12 (by decide) (fun c12 => ?_) (fun c12 => ?_)
      · have q12 := (nI_leI (by omega) (by omega)).mp c12
        have q12 : i = G := by omega
        refine lv_aload_n C.1 C.2.1 dX3_follow_82 rfl (lv_at hl 1 rfl) ?_
        refine lv_iload_n C.1 C.2.1 dX3_follow_83 rfl (lv_at hl 3 rfl) ?_
        refine k_put (tf := .int) C hw 1 (by omega) h1 rfl inlX3 tyX3 tyX3_ok nmX3 2 (by decide) q_55 rfl (by decide +kernel) rfl rfl (Nat.le_of_ble_eq_true rfl) dX3_follow_84 (fun M_2 H locs hw h1 hF => ?_)
        have h1 : M_2 1 = .inr (3, [.int (nI G), .int (nI mo), .int (nI k), .int (sc), .int (nI (cnt (fun g => !(ow g == po g)) i)), .ref (b + 2), .ref (b + 3), .ref (b + 4), .ref (b + 5)]) := h1
        have h2 := (hF 2 (by decide)).trans h2
        have h3 := (hF 3 (by decide)).trans h3
        have h4 := (hF 4 (by decide)).trans h4
        have h5 := (hF 5 (by decide)).trans h5
        have h7 := (hF 7 (by decide)).trans h7
        have hFF := kF_st hFF hF (by first | decide | simp)
        refine lv_aload_n C.1 C.2.1 dX3_follow_87 rfl (lv_at hl 1 rfl) ?_
        refine lv_dup C.1 C.2.1 dX3_follow_88 rfl ?_
        refine k_get C hw 1 (by omega) h1 rfl inlX3 3 (by decide) q_47 rfl dX3_follow_89 ?_
        refine lv_iconst (v := nI 1) C.1 C.2.1 dX3_follow_92 (by decide) ?_
        refine lv_iadd C.1 C.2.1 dX3_follow_93 ?_
        refine k_put (tf := .int) C hw 1 (by omega) h1 rfl inlX3 tyX3 tyX3_ok nmX3 3 (by decide) q_47 rfl (by decide +kernel) rfl rfl (Nat.le_of_ble_eq_true rfl) dX3_follow_94 (fun M_3 H locs hw h1 hF => ?_)
        have h1 : M_3 1 = .inr (3, [.int (nI G), .int (nI mo), .int (nI k), .int ((sc) + (nI 1)), .int (nI (cnt (fun g => !(ow g == po g)) i)), .ref (b + 2), .ref (b + 3), .ref (b + 4), .ref (b + 5)]) := h1
        have h2 := (hF 2 (by decide)).trans h2
        have h3 := (hF 3 (by decide)).trans h3
        have h4 := (hF 4 (by decide)).trans h4
        have h5 := (hF 5 (by decide)).trans h5
        have h7 := (hF 7 (by decide)).trans h7
        have hFF := kF_st hFF hF (by first | decide | simp)
        refine lv_aload_n C.1 C.2.1 dX3_follow_97 rfl (lv_at hl 1 rfl) ?_
        refine k_get C hw 1 (by omega) h1 rfl inlX3 4 (by decide) q_48 rfl dX3_follow_98 ?_
        rw [q12] at h1 h2 h3 h4 h5
        exact hret _ _ (Nat.le_of_ble_eq_true rfl) (Nat.le_of_ble_eq_true rfl) hw (⟨by rw [q12], rfl, hFF, h1, h2, h3, h4, h5⟩) dX3_follow_101
      · have q12 : ¬ G ≤ i := fun z => c12 ((nI_leI (by omega) (by omega)).mpr z)
        have hcl := cnt_le (fun g => !(ow g == po g)) i
        refine lv_aload_n C.1 C.2.1 dX3_follow_15 rfl (lv_at hl 1 rfl) ?_
        refine k_get C hw 1 (by omega) h1 rfl inlX3 5 (by decide) q_39 rfl dX3_follow_16 ?_
        refine lv_iload_n C.1 C.2.1 dX3_follow_19 rfl (lv_at hl 0 rfl) ?_
        refine k_iald C hw 2 (by omega) h2 (by omega) (by first | decide | omega) dX3_follow_20 ?_
        refine lv_aload_n C.1 C.2.1 dX3_follow_21 rfl (lv_at hl 2 rfl) ?_
        refine lv_iload_n C.1 C.2.1 dX3_follow_22 rfl (lv_at hl 0 rfl) ?_
        refine k_iald C hw 7 (by omega) h7 (by omega) (by first | decide | omega) dX3_follow_23 ?_
        refine lv_icmp_eq (tgt := 66) C.1 C.2.1 dX3_follow_24 (by decide) (fun c24 => ?_) (fun c24 => ?_)
        · have hq : ow i = po i := by rw [← c24, pfx_at]
          refine lv_aload_n C.1 C.2.1 dX3_follow_66 rfl (lv_at hl 1 rfl) ?_
          refine k_get C hw 1 (by omega) h1 rfl inlX3 7 (by decide) q_41 rfl dX3_follow_67 ?_
          refine lv_iload_n C.1 C.2.1 dX3_follow_70 rfl (lv_at hl 0 rfl) ?_
          refine lv_dup2_11 C.1 C.2.1 dX3_follow_71 rfl rfl ?_
          refine k_iald C hw 4 (by omega) h4 (by omega) (by first | decide | omega) dX3_follow_72 ?_
          refine lv_iconst (v := nI 2) C.1 C.2.1 dX3_follow_73 (by decide) ?_
          refine lv_idiv C.1 C.2.1 dX3_follow_74 (by decide) ?_
          refine k_iast C hw 4 (by omega) h4 (by omega) (by first | decide | omega) dX3_follow_75 (fun M_4 H locs hw h4 hF => ?_)
          have h1 := (hF 1 (by decide)).trans h1
          have h2 := (hF 2 (by decide)).trans h2
          have h3 := (hF 3 (by decide)).trans h3
          have h5 := (hF 5 (by decide)).trans h5
          have h7 := (hF 7 (by decide)).trans h7
          have hFF := kF_st hFF hF (by first | decide | simp)
          rw [pfx_s (by rw [pfx_at])] at h4
          refine lv_iinc (v := (nI (i + 1))) (lv' := [(3, .int (nI (i + 1))), (0, .ref (b + 1)), (1, .ref (b + 7)), (2, .int (nI k))]) C.1 C.2.1 dX3_follow_76 hl (k := 0) rfl (k_inc _ 1) (by decide) rfl (fun ls hl => ?_)
          refine lv_goto (tgt := 7) C.1 C.2.1 dX3_follow_79 (by decide) ?_
          rw [pfx_k hq] at h2
          rw [pfx_k (show ep i = _ from (if_pos hq).symm)] at h3
          rw [col_f (by simp [hq])] at h5
          rw [← cnt_f (P := (fun g => !(ow g == po g))) (k := i) (by simp [hq])] at h1
          exact ih7  (i + 1) M_4 (by omega) (by omega) hFF h1 h2 h3 h4 h5 h7  ls _ _ (lv_sub hl [0, 1, 2, 3] rfl) hw
        · have hq : ¬ ow i = po i := fun z => c24 (by rw [pfx_at]; exact z)
          refine lv_aload_n C.1 C.2.1 dX3_follow_27 rfl (lv_at hl 1 rfl) ?_
          refine k_get C hw 1 (by omega) h1 rfl inlX3 5 (by decide) q_39 rfl dX3_follow_28 ?_
          refine lv_iload_n C.1 C.2.1 dX3_follow_31 rfl (lv_at hl 0 rfl) ?_
          refine lv_aload_n C.1 C.2.1 dX3_follow_32 rfl (lv_at hl 2 rfl) ?_
          refine lv_iload_n C.1 C.2.1 dX3_follow_33 rfl (lv_at hl 0 rfl) ?_
          refine k_iald C hw 7 (by omega) h7 (by omega) (by first | decide | omega) dX3_follow_34 ?_
          refine k_iast C hw 2 (by omega) h2 (by omega) (by first | decide | omega) dX3_follow_35 (fun M_5 H locs hw h2 hF => ?_)
          have h1 := (hF 1 (by decide)).trans h1
          have h3 := (hF 3 (by decide)).trans h3
          have h4 := (hF 4 (by decide)).trans h4
          have h5 := (hF 5 (by decide)).trans h5
          have h7 := (hF 7 (by decide)).trans h7
          have hFF := kF_st hFF hF (by first | decide | simp)
          rw [pfx_s rfl] at h2
          refine lv_aload_n C.1 C.2.1 dX3_follow_36 rfl (lv_at hl 1 rfl) ?_
          refine k_get C hw 1 (by omega) h1 rfl inlX3 6 (by decide) q_40 rfl dX3_follow_37 ?_
          refine lv_iload_n C.1 C.2.1 dX3_follow_40 rfl (lv_at hl 0 rfl) ?_
          refine lv_dup2_11 C.1 C.2.1 dX3_follow_41 rfl rfl ?_
          refine k_iald C hw 3 (by omega) h3 (by omega) (by first | decide | omega) dX3_follow_42 ?_
          refine lv_iconst (v := nI 1) C.1 C.2.1 dX3_follow_43 (by decide) ?_
          refine lv_iadd C.1 C.2.1 dX3_follow_44 ?_
          refine k_iast C hw 3 (by omega) h3 (by omega) (by first | decide | omega) dX3_follow_45 (fun M_6 H locs hw h3 hF => ?_)
          have h1 := (hF 1 (by decide)).trans h1
          have h2 := (hF 2 (by decide)).trans h2
          have h4 := (hF 4 (by decide)).trans h4
          have h5 := (hF 5 (by decide)).trans h5
          have h7 := (hF 7 (by decide)).trans h7
          have hFF := kF_st hFF hF (by first | decide | simp)
          rw [pfx_s (by rw [pfx_at]; exact (if_neg hq).symm)] at h3
          refine lv_aload_n C.1 C.2.1 dX3_follow_46 rfl (lv_at hl 1 rfl) ?_
          refine k_get C hw 1 (by omega) h1 rfl inlX3 8 (by decide) q_42 rfl dX3_follow_47 ?_
          refine lv_aload_n C.1 C.2.1 dX3_follow_50 rfl (lv_at hl 1 rfl) ?_
          refine k_get C hw 1 (by omega) h1 rfl inlX3 4 (by decide) q_48 rfl dX3_follow_51 ?_
          refine lv_iload_n C.1 C.2.1 dX3_follow_54 rfl (lv_at hl 0 rfl) ?_
          refine k_iast C hw 5 (by omega) h5 (by omega) (by first | decide | omega) dX3_follow_55 (fun M_7 H locs hw h5 hF => ?_)
          have h1 := (hF 1 (by decide)).trans h1
          have h2 := (hF 2 (by decide)).trans h2
          have h3 := (hF 3 (by decide)).trans h3
          have h4 := (hF 4 (by decide)).trans h4
          have h7 := (hF 7 (by decide)).trans h7
          have hFF := kF_st hFF hF (by first | decide | simp)
          rw [col_t (by simp [hq])] at h5
          refine lv_aload_n C.1 C.2.1 dX3_follow_56 rfl (lv_at hl 1 rfl) ?_
          refine lv_dup C.1 C.2.1 dX3_follow_57 rfl ?_
          refine k_get C hw 1 (by omega) h1 rfl inlX3 4 (by decide) q_48 rfl dX3_follow_58 ?_
          refine lv_iconst (v := nI 1) C.1 C.2.1 dX3_follow_61 (by decide) ?_
          refine lv_iadd C.1 C.2.1 dX3_follow_62 ?_
          refine k_topi (y := nI (cnt (fun g => !(ow g == po g)) i + 1)) (nI_add _ _) ?_
          refine k_put (tf := .int) C hw 1 (by omega) h1 rfl inlX3 tyX3 tyX3_ok nmX3 4 (by decide) q_48 rfl (by decide +kernel) rfl rfl (Nat.le_of_ble_eq_true rfl) dX3_follow_63 (fun M_8 H locs hw h1 hF => ?_)
          have h1 : M_8 1 = .inr (3, [.int (nI G), .int (nI mo), .int (nI ta), .int (sc), .int (nI (cnt (fun g => !(ow g == po g)) i + 1)), .ref (b + 2), .ref (b + 3), .ref (b + 4), .ref (b + 5)]) := h1
          have h2 := (hF 2 (by decide)).trans h2
          have h3 := (hF 3 (by decide)).trans h3
          have h4 := (hF 4 (by decide)).trans h4
          have h5 := (hF 5 (by decide)).trans h5
          have h7 := (hF 7 (by decide)).trans h7
          have hFF := kF_st hFF hF (by first | decide | simp)
          refine lv_aload_n C.1 C.2.1 dX3_follow_66 rfl (lv_at hl 1 rfl) ?_
          refine k_get C hw 1 (by omega) h1 rfl inlX3 7 (by decide) q_41 rfl dX3_follow_67 ?_
          refine lv_iload_n C.1 C.2.1 dX3_follow_70 rfl (lv_at hl 0 rfl) ?_
          refine lv_dup2_11 C.1 C.2.1 dX3_follow_71 rfl rfl ?_
          refine k_iald C hw 4 (by omega) h4 (by omega) (by first | decide | omega) dX3_follow_72 ?_
          refine lv_iconst (v := nI 2) C.1 C.2.1 dX3_follow_73 (by decide) ?_
          refine lv_idiv C.1 C.2.1 dX3_follow_74 (by decide) ?_
          refine k_iast C hw 4 (by omega) h4 (by omega) (by first | decide | omega) dX3_follow_75 (fun M_9 H locs hw h4 hF => ?_)
          have h1 := (hF 1 (by decide)).trans h1
          have h2 := (hF 2 (by decide)).trans h2
          have h3 := (hF 3 (by decide)).trans h3
          have h5 := (hF 5 (by decide)).trans h5
          have h7 := (hF 7 (by decide)).trans h7
          have hFF := kF_st hFF hF (by first | decide | simp)
          rw [pfx_s (by rw [pfx_at])] at h4
          refine lv_iinc (v := (nI (i + 1))) (lv' := [(3, .int (nI (i + 1))), (0, .ref (b + 1)), (1, .ref (b + 7)), (2, .int (nI k))]) C.1 C.2.1 dX3_follow_76 hl (k := 0) rfl (k_inc _ 1) (by decide) rfl (fun ls hl => ?_)
          refine lv_goto (tgt := 7) C.1 C.2.1 dX3_follow_79 (by decide) ?_
          rw [← cnt_t (P := (fun g => !(ow g == po g))) (k := i) (by simp [hq])] at h1
          exact ih7  (i + 1) M_9 (by omega) (by omega) hFF h1 h2 h3 h4 h5 h7  ls _ _ (lv_sub hl [0, 1, 2, 3] rfl) hw
  exact L7 (_ + 1) (0) M_1 (Nat.lt_succ_self _) (Nat.zero_le _) hFF h1 h2 h3 h4 h5 h7  ls _ _ (lv_sub hl [0, 1, 2, 3] rfl) hw

set_option maxHeartbeats 4000000 in
set_option maxRecDepth 100000 in
theorem c_X3_startAnew {l : Launch} {D : va_G} {cI cJ cZ cH cR : ClassId} {b : Nat} {n : Nat} {M : Nat → va_E}  {G : Nat} {mo : Nat} {ta : Nat} {sc : Int32} {mv : Nat} {ow : Nat → Int32} {ep : Nat → Int32} {we : Nat → Int32} {po : Nat → Int32} {k : Nat} (hn : 8 ≤ n) (h1 : M 1 = .inr (3, [.int (nI G), .int (nI mo), .int (nI ta), .int sc, .int (nI mv), .ref (b + 2), .ref (b + 3), .ref (b + 4), .ref (b + 5)])) (h2 : M 2 = .inl (cI, 32, .inl ow)) (h3 : M 3 = .inl (cI, 32, .inl ep)) (h4 : M 4 = .inl (cI, 32, .inl we)) (h7 : M 7 = .inl (cI, 32, .inl po))  (hG0 : 0 < G) (hG : G ≤ 32) : Met l yX3_startAnew (kw yX3_startAnew cX3_startAnew 4 none) ({ frames := 0, cells := 0, slots := 0, locals := 0 }) (va_Pc [.ref (b + 1), .ref (b + 7), .int (nI k)] (kPre D (kT cI cJ cZ cH cR) b M n)) (va_Qv (fun (u : (Nat → va_E) × Nat) => u.2 = n ∧ kF [1, 2, 3, 4] M u.1 ∧ u.1 1 = .inr (3, [.int (nI G), .int (nI mo), .int (nI k), .int (sc), .int (nI mv), .ref (b + 2), .ref (b + 3), .ref (b + 4), .ref (b + 5)]) ∧ u.1 2 = .inl (cI, 32, .inl (pfx po ow G)) ∧ u.1 3 = .inl (cI, 32, .inl (pfx (fun g => ep g + nI 1) ep G)) ∧ u.1 4 = .inl (cI, 32, .inl (pfx (fun _ => nI 0) we G))) (kB D (kT cI cJ cZ cH cR) b) (kA b)) 0 0 (kA b) := by
  refine k_metV (by decide +kernel) (Nat.le_of_ble_eq_true rfl) ?_
  intro p e s m below meth c ls Q C hw hret hnm hl
  have hl : lv_has ls 4 [(0, .ref (b + 1)), (1, .ref (b + 7)), (2, .int (nI k))] := hl
  have hFF : kF [1, 2, 3, 4] M M := kF_rf
  refine lv_iconst (v := nI 0) C.1 C.2.1 dX3_startAnew_0 (by decide) ?_
  refine lv_istore_n (lv' := [(3, .int (nI 0)), (0, .ref (b + 1)), (1, .ref (b + 7)), (2, .int (nI k))]) C.1 C.2.1 dX3_startAnew_1 rfl hl (by decide) rfl (fun ls hl => ?_)
  have L2 : ∀ (N2 : Nat) (i : Nat) (Mx2 : Nat → va_E), (G - i < N2) → (i ≤ G) → kF [1, 2, 3, 4] M Mx2 → Mx2 1 = .inr (3, [.int (nI G), .int (nI mo), .int (nI ta), .int sc, .int (nI mv), .ref (b + 2), .ref (b + 3), .ref (b + 4), .ref (b + 5)]) → Mx2 2 = .inl (cI, 32, .inl (pfx po ow i)) → Mx2 3 = .inl (cI, 32, .inl (pfx (fun g => ep g + nI 1) ep i)) → Mx2 4 = .inl (cI, 32, .inl (pfx (fun _ => nI 0) we i)) → Mx2 7 = .inl (cI, 32, .inl po) → ∀ (ls : Array Slot) (H : Heap) (locs : List Loc), lv_has ls 4 [(3, .int (nI i)), (0, .ref (b + 1)), (1, .ref (b + 7)), (2, .int (nI k))] → kW D b Mx2 n s.heap H locs → W p l e ({ frames := 0, cells := 0, slots := 0, locals := 0 } : Room) s m ([.ref (b + 1), .ref (b + 7), .int (nI k)] : List Value).toArray below meth c H locs 0 0 Q (F0 m 2 ls []) := by
    intro N2
    induction N2 with
    | zero => intro i Mx2 hm2 hi hFF h1 h2 h3 h4 h7 ls H locs hl hw; omega
    | succ N2 ih2 =>
      intro i Mx2 hm2 hi hFF h1 h2 h3 h4 h7 ls H locs hl hw
      refine lv_iload_n C.1 C.2.1 dX3_startAnew_2 rfl (lv_at hl 0 rfl) ?_
      refine lv_aload_n C.1 C.2.1 dX3_startAnew_3 rfl (lv_at hl 1 rfl) ?_
      refine k_get C hw 1 (by omega) h1 rfl inlX3 0 (by decide) q_53 rfl dX3_startAnew_4 ?_
      refine lv_icmp_ge (tgt := 42) C.1 C.2.1 dX3_startAnew_7 (by decide) (fun c7 => ?_) (fun c7 => ?_)
      · have q7 := (nI_leI (by omega) (by omega)).mp c7
        have q7 : i = G := by omega
        rw [q7] at h2 h3 h4
        refine lv_aload_n C.1 C.2.1 dX3_startAnew_42 rfl (lv_at hl 1 rfl) ?_
        refine lv_iload_n C.1 C.2.1 dX3_startAnew_43 rfl (lv_at hl 3 rfl) ?_
        refine k_put (tf := .int) C hw 1 (by omega) h1 rfl inlX3 tyX3 tyX3_ok nmX3 2 (by decide) q_55 rfl (by decide +kernel) rfl rfl (Nat.le_of_ble_eq_true rfl) dX3_startAnew_44 (fun M_1 H locs hw h1 hF => ?_)
        have h1 : M_1 1 = .inr (3, [.int (nI G), .int (nI mo), .int (nI k), .int sc, .int (nI mv), .ref (b + 2), .ref (b + 3), .ref (b + 4), .ref (b + 5)]) := h1
        have h2 := (hF 2 (by decide)).trans h2
        have h3 := (hF 3 (by decide)).trans h3
        have h4 := (hF 4 (by decide)).trans h4
        have h7 := (hF 7 (by decide)).trans h7
        have hFF := kF_st hFF hF (by first | decide | simp)
        exact hret _ _ (Nat.le_of_ble_eq_true rfl) (Nat.le_of_ble_eq_true rfl) hw (⟨rfl, hFF, h1, h2, h3, h4⟩) dX3_startAnew_47
      · have q7 : ¬ G ≤ i := fun z => c7 ((nI_leI (by omega) (by omega)).mpr z)
        refine lv_aload_n C.1 C.2.1 dX3_startAnew_10 rfl (lv_at hl 1 rfl) ?_
        refine k_get C hw 1 (by omega) h1 rfl inlX3 5 (by decide) q_39 rfl dX3_startAnew_11 ?_
        refine lv_iload_n C.1 C.2.1 dX3_startAnew_14 rfl (lv_at hl 0 rfl) ?_
        refine lv_aload_n C.1 C.2.1 dX3_startAnew_15 rfl (lv_at hl 2 rfl) ?_
        refine lv_iload_n C.1 C.2.1 dX3_startAnew_16 rfl (lv_at hl 0 rfl) ?_
        refine k_iald C hw 7 (by omega) h7 (by omega) (by first | decide | omega) dX3_startAnew_17 ?_
        refine k_iast C hw 2 (by omega) h2 (by omega) (by first | decide | omega) dX3_startAnew_18 (fun M_2 H locs hw h2 hF => ?_)
        have h1 := (hF 1 (by decide)).trans h1
        have h3 := (hF 3 (by decide)).trans h3
        have h4 := (hF 4 (by decide)).trans h4
        have h7 := (hF 7 (by decide)).trans h7
        have hFF := kF_st hFF hF (by first | decide | simp)
        rw [pfx_s rfl] at h2
        refine lv_aload_n C.1 C.2.1 dX3_startAnew_19 rfl (lv_at hl 1 rfl) ?_
        refine k_get C hw 1 (by omega) h1 rfl inlX3 6 (by decide) q_40 rfl dX3_startAnew_20 ?_
        refine lv_iload_n C.1 C.2.1 dX3_startAnew_23 rfl (lv_at hl 0 rfl) ?_
        refine lv_dup2_11 C.1 C.2.1 dX3_startAnew_24 rfl rfl ?_
        refine k_iald C hw 3 (by omega) h3 (by omega) (by first | decide | omega) dX3_startAnew_25 ?_
        refine lv_iconst (v := nI 1) C.1 C.2.1 dX3_startAnew_26 (by decide) ?_
        refine lv_iadd C.1 C.2.1 dX3_startAnew_27 ?_
        refine k_iast C hw 3 (by omega) h3 (by omega) (by first | decide | omega) dX3_startAnew_28 (fun M_3 H locs hw h3 hF => ?_)
        have h1 := (hF 1 (by decide)).trans h1
        have h2 := (hF 2 (by decide)).trans h2
        have h4 := (hF 4 (by decide)).trans h4
        have h7 := (hF 7 (by decide)).trans h7
        have hFF := kF_st hFF hF (by first | decide | simp)
        rw [pfx_s (by rw [pfx_at])] at h3
        refine lv_aload_n C.1 C.2.1 dX3_startAnew_29 rfl (lv_at hl 1 rfl) ?_
        refine k_get C hw 1 (by omega) h1 rfl inlX3 7 (by decide) q_41 rfl dX3_startAnew_30 ?_
        refine lv_iload_n C.1 C.2.1 dX3_startAnew_33 rfl (lv_at hl 0 rfl) ?_
        refine lv_iconst (v := nI 0) C.1 C.2.1 dX3_startAnew_34 (by decide) ?_
        refine k_iast C hw 4 (by omega) h4 (by omega) (by first | decide | omega) dX3_startAnew_35 (fun M_4 H locs hw h4 hF => ?_)
        have h1 := (hF 1 (by decide)).trans h1
        have h2 := (hF 2 (by decide)).trans h2
        have h3 := (hF 3 (by decide)).trans h3
        have h7 := (hF 7 (by decide)).trans h7
        have hFF := kF_st hFF hF (by first | decide | simp)
        rw [pfx_s rfl] at h4
        refine lv_iinc (v := (nI (i + 1))) (lv' := [(3, .int (nI (i + 1))), (0, .ref (b + 1)), (1, .ref (b + 7)), (2, .int (nI k))]) C.1 C.2.1 dX3_startAnew_36 hl (k := 0) rfl (k_inc _ 1) (by decide) rfl (fun ls hl => ?_)
        refine lv_goto (tgt := 2) C.1 C.2.1 dX3_startAnew_39 (by decide) ?_
        exact ih2  (i + 1) M_4 (by omega) (by omega) hFF h1 h2 h3 h4 h7  ls _ _ (lv_sub hl [0, 1, 2, 3] rfl) hw
  exact L2 (_ + 1) (0) M (Nat.lt_succ_self _) (Nat.zero_le _) hFF h1 h2 h3 h4 h7  ls _ _ (lv_sub hl [0, 1, 2, 3] rfl) hw

set_option maxHeartbeats 4000000 in
set_option maxRecDepth 100000 in
theorem c_X4_init {l : Launch} {D : va_G} {cI cJ cZ cH cR : ClassId} {b : Nat} {M : Nat → va_E}     (h6 : M 6 = .inr (4, [.null, .null, .null]))   : Met l yX4_init (kw yX4_init cX4_init 1 none) ({ frames := 1, cells := 15, slots := 473, locals := 12 }) (va_Pc [.ref (b + 6)] (kPre D (kT cI cJ cZ cH cR) b M 7)) (va_Qv (fun (u : (Nat → va_E) × Nat) => u.2 = 22 ∧ kF [6, 7, 8, 9, 10, 11, 12, 13, 14, 15, 16, 17, 18, 19, 20, 21] M u.1 ∧ u.1 6 = .inr (4, [.ref (b + 7), .ref (b + 8), .ref (b + 9)]) ∧ u.1 7 = .inl (cI, 32, .inl (fun _ => 0)) ∧ u.1 8 = .inl (cI, 33, .inl (fun _ => 0)) ∧ u.1 9 = .inl (cR, 12, .inr (.inr (.inr (.inr (fun i => if i < 12 then some (b + 9 + 1 + i) else none))))) ∧ (∀ i, i < 12 → u.1 (10 + i) = .inl (cI, 33, .inl (fun _ => 0)))) (kB D (kT cI cJ cZ cH cR) b) (kA b)) 15 473 (kA b) := by
  refine k_metV (by decide +kernel) (Nat.le_of_ble_eq_true rfl) ?_
  intro p e s m below meth c ls Q C hw hret hnm hl
  have hl : lv_has ls 1 [(0, .ref (b + 6))] := hl
  have hFF : kF [6, 7, 8, 9, 10, 11, 12, 13, 14, 15, 16, 17, 18, 19, 20, 21] M M := kF_rf
  refine lv_aload_n C.1 C.2.1 dX4_init_0 rfl (lv_at hl 0 rfl) ?_
  refine W.objInit C.1 C.2.1 C.2.2.2.1 (C.2.2.2.2.1 _ q_63) (C.2.2.2.2.1 _ q_10) (C.2.2.2.2.1 _ q_11) rfl (by rw [C.2.2.1]; exact hl.1) rfl dX4_init_1 (Nat.le_of_ble_eq_true rfl) (Nat.le_of_ble_eq_true rfl) ?_
  refine W.eq (g2 := F0 m 4 ls []) rfl ?_
  refine lv_aload_n C.1 C.2.1 dX4_init_4 rfl (lv_at hl 0 rfl) ?_
  refine lv_bipush (v := nI 32) C.1 C.2.1 dX4_init_5 (by decide) ?_
  refine k_newI C hw q_38 32 rfl (by decide) (Nat.le_of_ble_eq_true rfl) (Nat.le_of_ble_eq_true rfl) dX4_init_7 (fun M_1 H hw h7 hF => ?_)
  have h6 := (hF 6 (by decide)).trans h6
  have hFF := kF_st hFF hF (by first | decide | simp)
  refine k_putF (tf := .array .int) C hw 6 (by decide) h6 rfl inlX4 tyX4 tyX4_ok nmX4 0 (by decide) q_64 rfl hnm rfl (by decide +kernel) rfl rfl (Nat.le_of_ble_eq_true rfl) dX4_init_9 (fun M_2 H locs hw h6 hF => ?_)
  have h6 : M_2 6 = .inr (4, [.ref (b + 7), .null, .null]) := h6
  have h7 := (hF 7 (by decide)).trans h7
  have hFF := kF_st hFF hF (by first | decide | simp)
  refine lv_aload_n C.1 C.2.1 dX4_init_12 rfl (lv_at hl 0 rfl) ?_
  refine lv_bipush (v := nI 33) C.1 C.2.1 dX4_init_13 (by decide) ?_
  refine k_newI C hw q_38 33 rfl (by decide) (Nat.le_of_ble_eq_true rfl) (Nat.le_of_ble_eq_true rfl) dX4_init_15 (fun M_3 H hw h8 hF => ?_)
  have h6 := (hF 6 (by decide)).trans h6
  have h7 := (hF 7 (by decide)).trans h7
  have hFF := kF_st hFF hF (by first | decide | simp)
  refine k_putF (tf := .array .int) C hw 6 (by decide) h6 rfl inlX4 tyX4 tyX4_ok nmX4 1 (by decide) q_65 rfl hnm rfl (by decide +kernel) rfl rfl (Nat.le_of_ble_eq_true rfl) dX4_init_17 (fun M_4 H locs hw h6 hF => ?_)
  have h6 : M_4 6 = .inr (4, [.ref (b + 7), .ref (b + 8), .null]) := h6
  have h7 := (hF 7 (by decide)).trans h7
  have h8 := (hF 8 (by decide)).trans h8
  have hFF := kF_st hFF hF (by first | decide | simp)
  refine lv_aload_n C.1 C.2.1 dX4_init_20 rfl (lv_at hl 0 rfl) ?_
  refine lv_bipush (v := nI 12) C.1 C.2.1 dX4_init_21 (by decide) ?_
  refine lv_bipush (v := nI 33) C.1 C.2.1 dX4_init_23 (by decide) ?_
  refine k_mna C hw q_66 q_38 12 33 rfl rfl (by decide) (by decide) (Nat.le_of_ble_eq_true rfl) (Nat.le_of_ble_eq_true rfl) dX4_init_25 (fun M_5 H hw h9 hE hlow => ?_)
  have h6 := (hlow 6 (Or.inl (by decide))).trans h6
  have h7 := (hlow 7 (Or.inl (by decide))).trans h7
  have h8 := (hlow 8 (Or.inl (by decide))).trans h8
  have hFF : kF [6, 7, 8, 9, 10, 11, 12, 13, 14, 15, 16, 17, 18, 19, 20, 21] M M_5 := fun i hi => (hlow i (by simp at hi; omega)).trans (hFF i hi)
  refine k_putF (tf := .array (.array .int)) C hw 6 (by decide) h6 rfl inlX4 tyX4 tyX4_ok nmX4 2 (by decide) q_67 rfl hnm rfl (by decide +kernel) rfl rfl (Nat.le_of_ble_eq_true rfl) dX4_init_29 (fun M_6 H locs hw h6 hF => ?_)
  have h6 : M_6 6 = .inr (4, [.ref (b + 7), .ref (b + 8), .ref (b + 9)]) := h6
  have h7 := (hF 7 (by decide)).trans h7
  have h8 := (hF 8 (by decide)).trans h8
  have h9 := (hF 9 (by decide)).trans h9
  have hE := fun i hi => (hF _ (by simp <;> omega)).trans (hE i hi)
  have hFF := kF_st hFF hF (by first | decide | simp)
  exact hret _ _ (Nat.le_of_ble_eq_true rfl) (Nat.le_of_ble_eq_true rfl) hw (⟨rfl, hFF, h6, h7, h8, h9, hE⟩) dX4_init_32

set_option maxHeartbeats 4000000 in
set_option maxRecDepth 100000 in
theorem c_X4_limitOf {l : Launch} {D : va_G} {cI cJ cZ cH cR : ClassId} {b : Nat} {n : Nat} {M : Nat → va_E}   {a s_ k : Int32}    (hk : ¬ nI 100 * k = 0) : Met l yX4_limitOf (kw yX4_limitOf cX4_limitOf 4 (some .int)) ({ frames := 0, cells := 0, slots := 0, locals := 0 }) (va_Pc [.int a, .int s_, .int k] (kPre D (kT cI cJ cZ cH cR) b M n)) (va_Qi (fun (r : Int32) (u : (Nat → va_E) × Nat) => r = (lmt a s_ k) ∧ u.2 = n ∧ u.1 = M) (kB D (kT cI cJ cZ cH cR) b) (kA b)) 0 0 (kA b) := by
  refine k_metI (by decide +kernel) (Nat.le_of_ble_eq_true rfl) ?_
  intro p e s m below meth c ls Q C hw hret hnm hl
  have hl : lv_has ls 4 [(0, .int a), (1, .int s_), (2, .int k)] := hl
  refine lv_bipush (v := nI 100) C.1 C.2.1 dX4_limitOf_0 (by decide) ?_
  refine lv_iload_n C.1 C.2.1 dX4_limitOf_2 rfl (lv_at hl 2 rfl) ?_
  refine lv_imul C.1 C.2.1 dX4_limitOf_3 ?_
  refine lv_topi (fun dv edv => ?_)
  refine lv_istore_n (lv' := [(3, .int dv), (0, .int a), (1, .int s_), (2, .int k)]) C.1 C.2.1 dX4_limitOf_4 rfl hl (by decide) rfl (fun ls hl => ?_)
  refine lv_iload_n C.1 C.2.1 dX4_limitOf_5 rfl (lv_at hl 1 rfl) ?_
  refine lv_bipush (v := nI 100) C.1 C.2.1 dX4_limitOf_6 (by decide) ?_
  refine lv_iload_n C.1 C.2.1 dX4_limitOf_8 rfl (lv_at hl 2 rfl) ?_
  refine lv_iadd C.1 C.2.1 dX4_limitOf_9 ?_
  refine lv_imul C.1 C.2.1 dX4_limitOf_10 ?_
  refine lv_iload_n C.1 C.2.1 dX4_limitOf_11 rfl (lv_at hl 0 rfl) ?_
  refine lv_iadd C.1 C.2.1 dX4_limitOf_12 ?_
  refine lv_iconst (v := nI 1) C.1 C.2.1 dX4_limitOf_13 (by decide) ?_
  refine lv_isub C.1 C.2.1 dX4_limitOf_14 ?_
  refine lv_iload_n C.1 C.2.1 dX4_limitOf_15 rfl (lv_at hl 0 rfl) ?_
  refine lv_idiv C.1 C.2.1 dX4_limitOf_16 (by rw [edv]; exact hk) ?_
  exact hret _ _ (Nat.le_of_ble_eq_true rfl) (Nat.le_of_ble_eq_true rfl) hw (⟨by subst edv; rfl, rfl, rfl⟩) dX4_limitOf_17

set_option maxHeartbeats 4000000 in
set_option maxRecDepth 100000 in
theorem c_X4_layRange {l : Launch} {D : va_G} {cI cJ cZ cH cR : ClassId} {b : Nat} {n : Nat} {M : Nat → va_E}  {po : Nat → Int32} {t : Int32} {a z : Nat} (hn : 8 ≤ n) (h6 : M 6 = .inr (4, [.ref (b + 7), .ref (b + 8), .ref (b + 9)])) (h7 : M 7 = .inl (cI, 32, .inl po))  (h1_ : a ≤ z) (h2_ : z ≤ 32) : Met l yX4_layRange (kw yX4_layRange cX4_layRange 5 none) ({ frames := 0, cells := 0, slots := 0, locals := 0 }) (va_Pc [.ref (b + 6), .int t, .int (nI a), .int (nI z)] (kPre D (kT cI cJ cZ cH cR) b M n)) (va_Qv (fun (u : (Nat → va_E) × Nat) => u.2 = n ∧ kF [7] M u.1 ∧ u.1 7 = .inl (cI, 32, .inl (rng po t a z))) (kB D (kT cI cJ cZ cH cR) b) (kA b)) 0 0 (kA b) := by
  refine k_metV (by decide +kernel) (Nat.le_of_ble_eq_true rfl) ?_
  intro p e s m below meth c ls Q C hw hret hnm hl
  have hl : lv_has ls 5 [(0, .ref (b + 6)), (1, .int t), (2, .int (nI a)), (3, .int (nI z))] := hl
  have hFF : kF [7] M M := kF_rf
  refine lv_iload_n C.1 C.2.1 dX4_layRange_0 rfl (lv_at hl 2 rfl) ?_
  rw [← rng_0 po t a] at h7
  refine lv_istore (lv' := [(4, .int (nI a)), (0, .ref (b + 6)), (1, .int t), (2, .int (nI a)), (3, .int (nI z))]) C.1 C.2.1 dX4_layRange_1 hl (by decide) rfl (fun ls hl => ?_)
  have L3 : ∀ (N3 : Nat) (i : Nat) (Mx3 : Nat → va_E), (z - i < N3) → (a ≤ i) → (i ≤ z) → kF [7] M Mx3 → Mx3 6 = .inr (4, [.ref (b + 7), .ref (b + 8), .ref (b + 9)]) → Mx3 7 = .inl (cI, 32, .inl (rng po t a i)) → ∀ (ls : Array Slot) (H : Heap) (locs : List Loc), lv_has ls 5 [(4, .int (nI i)), (0, .ref (b + 6)), (1, .int t), (2, .int (nI a)), (3, .int (nI z))] → kW D b Mx3 n s.heap H locs → W p l e ({ frames := 0, cells := 0, slots := 0, locals := 0 } : Room) s m ([.ref (b + 6), .int t, .int (nI a), .int (nI z)] : List Value).toArray below meth c H locs 0 0 Q (F0 m 3 ls []) := by
    intro N3
    induction N3 with
    | zero => intro i Mx3 hm3 hi hi2 hFF h6 h7 ls H locs hl hw; omega
    | succ N3 ih3 =>
      intro i Mx3 hm3 hi hi2 hFF h6 h7 ls H locs hl hw
      refine lv_iload C.1 C.2.1 dX4_layRange_3 (lv_at hl 0 rfl) ?_
      refine lv_iload_n C.1 C.2.1 dX4_layRange_5 rfl (lv_at hl 4 rfl) ?_
      refine lv_icmp_ge (tgt := 23) C.1 C.2.1 dX4_layRange_6 (by decide) (fun c6 => ?_) (fun c6 => ?_)
      · have q := (nI_leI (by omega) (by omega)).mp c6
        have q : i = z := by omega
        rw [q] at h7
        exact hret _ _ (Nat.le_of_ble_eq_true rfl) (Nat.le_of_ble_eq_true rfl) hw (⟨rfl, hFF, h7⟩) dX4_layRange_23
      · have q : ¬ z ≤ i := fun y => c6 ((nI_leI (by omega) (by omega)).mpr y)
        refine lv_aload_n C.1 C.2.1 dX4_layRange_9 rfl (lv_at hl 1 rfl) ?_
        refine k_get C hw 6 (by omega) h6 rfl inlX4 0 (by decide) q_64 rfl dX4_layRange_10 ?_
        refine lv_iload C.1 C.2.1 dX4_layRange_13 (lv_at hl 0 rfl) ?_
        refine lv_iload_n C.1 C.2.1 dX4_layRange_15 rfl (lv_at hl 2 rfl) ?_
        refine k_iast C hw 7 (by omega) h7 (by omega) (by first | decide | omega) dX4_layRange_16 (fun M_1 H locs hw h7 hF => ?_)
        have h6 := (hF 6 (by decide)).trans h6
        have hFF := kF_st hFF hF (by first | decide | simp)
        rw [rng_s hi] at h7
        refine lv_iinc (v := (nI (i + 1))) (lv' := [(4, .int (nI (i + 1))), (0, .ref (b + 6)), (1, .int t), (2, .int (nI a)), (3, .int (nI z))]) C.1 C.2.1 dX4_layRange_17 hl (k := 0) rfl (k_inc _ 1) (by decide) rfl (fun ls hl => ?_)
        refine lv_goto (tgt := 3) C.1 C.2.1 dX4_layRange_20 (by decide) ?_
        exact ih3  (i + 1) M_1 (by omega) (by omega) (by omega) hFF h6 h7  ls _ _ (lv_sub hl [0, 1, 2, 3, 4] rfl) hw
  exact L3 (_ + 1) (a) M (Nat.lt_succ_self _) (Nat.le_refl _) (by omega) hFF h6 h7  ls _ _ (lv_sub hl [0, 1, 2, 3, 4] rfl) hw

set_option maxHeartbeats 4000000 in
set_option maxRecDepth 100000 in
theorem c_X4_layEven {l : Launch} {D : va_G} {cI cJ cZ cH cR : ClassId} {b : Nat} {n : Nat} {M : Nat → va_E}  {po : Nat → Int32} {G k : Nat} (hn : 8 ≤ n) (h6 : M 6 = .inr (4, [.ref (b + 7), .ref (b + 8), .ref (b + 9)])) (h7 : M 7 = .inl (cI, 32, .inl po))  (hG : G ≤ 32) (hk0 : 0 < k) (hk : k ≤ 12) : Met l yX4_layEven (kw yX4_layEven cX4_layEven 4 none) ({ frames := 1, cells := 0, slots := 0, locals := 24 }) (va_Pc [.ref (b + 6), .int (nI G), .int (nI k)] (kPre D (kT cI cJ cZ cH cR) b M n)) (va_Qv (fun (u : (Nat → va_E) × Nat) => u.2 = n ∧ kF [7] M u.1 ∧ u.1 7 = .inl (cI, 32, .inl (lay po (evF G k) k))) (kB D (kT cI cJ cZ cH cR) b) (kA b)) 0 0 (kA b) := by
  refine k_metV (by decide +kernel) (Nat.le_of_ble_eq_true rfl) ?_
  intro p e s m below meth c ls Q C hw hret hnm hl
  have hl : lv_has ls 4 [(0, .ref (b + 6)), (1, .int (nI G)), (2, .int (nI k))] := hl
  have hFF : kF [7] M M := kF_rf
  refine lv_iconst (v := nI 0) C.1 C.2.1 dX4_layEven_0 (by decide) ?_
  refine lv_istore_n (lv' := [(3, .int (nI 0)), (0, .ref (b + 6)), (1, .int (nI G)), (2, .int (nI k))]) C.1 C.2.1 dX4_layEven_1 rfl hl (by decide) rfl (fun ls hl => ?_)
  have L2 : ∀ (N2 : Nat) (i : Nat) (Mx2 : Nat → va_E), (k - i < N2) → (i ≤ k) → kF [7] M Mx2 → Mx2 6 = .inr (4, [.ref (b + 7), .ref (b + 8), .ref (b + 9)]) → Mx2 7 = .inl (cI, 32, .inl (lay po (evF G k) i)) → ∀ (ls : Array Slot) (H : Heap) (locs : List Loc), lv_has ls 4 [(3, .int (nI i)), (0, .ref (b + 6)), (1, .int (nI G)), (2, .int (nI k))] → kW D b Mx2 n s.heap H locs → W p l e ({ frames := 1, cells := 0, slots := 0, locals := 24 } : Room) s m ([.ref (b + 6), .int (nI G), .int (nI k)] : List Value).toArray below meth c H locs 0 0 Q (F0 m 2 ls []) := by
    intro N2
    induction N2 with
    | zero => intro i Mx2 hm2 hi hFF h6 h7 ls H locs hl hw; omega
    | succ N2 ih2 =>
      intro i Mx2 hm2 hi hFF h6 h7 ls H locs hl hw
      refine lv_iload_n C.1 C.2.1 dX4_layEven_2 rfl (lv_at hl 0 rfl) ?_
      refine lv_iload_n C.1 C.2.1 dX4_layEven_3 rfl (lv_at hl 3 rfl) ?_
      refine lv_icmp_ge (tgt := 30) C.1 C.2.1 dX4_layEven_4 (by decide) (fun c4 => ?_) (fun c4 => ?_)
      · have q := (nI_leI (by omega) (by omega)).mp c4
        have q : i = k := by omega
        rw [q] at h7
        exact hret _ _ (Nat.le_of_ble_eq_true rfl) (Nat.le_of_ble_eq_true rfl) hw (⟨rfl, hFF, h7⟩) dX4_layEven_30
      · have q : ¬ k ≤ i := fun y => c4 ((nI_leI (by omega) (by omega)).mpr y)
        have b1 : i * G ≤ 12 * 32 := Nat.mul_le_mul (by omega) hG
        have b2 : (i + 1) * G ≤ 12 * 32 := Nat.mul_le_mul (by omega) hG
        refine lv_aload_n C.1 C.2.1 dX4_layEven_7 rfl (lv_at hl 1 rfl) ?_
        refine lv_iload_n C.1 C.2.1 dX4_layEven_8 rfl (lv_at hl 0 rfl) ?_
        refine lv_iload_n C.1 C.2.1 dX4_layEven_9 rfl (lv_at hl 0 rfl) ?_
        refine lv_iload_n C.1 C.2.1 dX4_layEven_10 rfl (lv_at hl 2 rfl) ?_
        refine lv_imul C.1 C.2.1 dX4_layEven_11 ?_
        refine k_topi (y := nI (i * G)) (pk_mul _ _) ?_
        refine lv_iload_n C.1 C.2.1 dX4_layEven_12 rfl (lv_at hl 3 rfl) ?_
        refine lv_idiv C.1 C.2.1 dX4_layEven_13 (nI_ne0 hk0 (by omega)) ?_
        refine k_topi (y := nI (evF G k i)) (pk_div (by omega) hk0 (by omega)) ?_
        refine lv_iload_n C.1 C.2.1 dX4_layEven_14 rfl (lv_at hl 0 rfl) ?_
        refine lv_iconst (v := nI 1) C.1 C.2.1 dX4_layEven_15 (by decide) ?_
        refine lv_iadd C.1 C.2.1 dX4_layEven_16 ?_
        refine k_topi (y := nI (i + 1)) (nI_add _ _) ?_
        refine lv_iload_n C.1 C.2.1 dX4_layEven_17 rfl (lv_at hl 2 rfl) ?_
        refine lv_imul C.1 C.2.1 dX4_layEven_18 ?_
        refine k_topi (y := nI ((i + 1) * G)) (pk_mul _ _) ?_
        refine lv_iload_n C.1 C.2.1 dX4_layEven_19 rfl (lv_at hl 3 rfl) ?_
        refine lv_idiv C.1 C.2.1 dX4_layEven_20 (nI_ne0 hk0 (by omega)) ?_
        refine k_topi (y := nI (evF G k (i + 1))) (pk_div (by omega) hk0 (by omega)) ?_
        refine k_vv C hw 6 (by omega) h6 rfl (c_X4_layRange (by omega) h6 h7  (evF_mono G k i) (Nat.le_trans (evF_le hk0 (by omega)) hG)) kv_X4_23 rfl hl.1 ⟨Nat.le_of_ble_eq_true rfl, Nat.le_of_ble_eq_true rfl⟩ (Nat.le_of_ble_eq_true rfl) ⟨Nat.le_of_ble_eq_true rfl, Nat.le_of_ble_eq_true rfl⟩ dX4_layEven_21 (fun M_1 n9 H locs hp hw => ?_)
        obtain ⟨en9, hF, h7⟩ := hp
        have en9 : n9 = n := en9
        rw [en9] at hw
        have h6 := (hF 6 (by decide)).trans h6
        have hFF := kF_st hFF hF (by first | decide | simp)
        refine lv_iinc (v := (nI (i + 1))) (lv' := [(3, .int (nI (i + 1))), (0, .ref (b + 6)), (1, .int (nI G)), (2, .int (nI k))]) C.1 C.2.1 dX4_layEven_24 hl (k := 0) rfl (k_inc _ 1) (by decide) rfl (fun ls hl => ?_)
        refine lv_goto (tgt := 2) C.1 C.2.1 dX4_layEven_27 (by decide) ?_
        exact ih2  (i + 1) M_1 (by omega) (by omega) hFF h6 h7  ls _ _ (lv_sub hl [0, 1, 2, 3] rfl) hw
  exact L2 (_ + 1) (0) M (Nat.lt_succ_self _) (Nat.zero_le _) hFF h6 h7  ls _ _ (lv_sub hl [0, 1, 2, 3] rfl) hw

set_option maxHeartbeats 4000000 in
set_option maxRecDepth 100000 in
theorem c_X4_chooseEnd {l : Launch} {D : va_G} {cI cJ cZ cH cR : ClassId} {b : Nat} {n : Nat} {M : Nat → va_E}  {G : Nat} {mo : Nat} {ta : Nat} {sc : Int32} {mv : Nat} {ow : Nat → Int32} {we : Nat → Int32} {be : Nat → Int32} {P t a lim : Nat} {w B : Nat → Nat} {e0 : Nat → Int32} (hn : 10 ≤ n) (h1 : M 1 = .inr (3, [.int (nI G), .int (nI mo), .int (nI ta), .int sc, .int (nI mv), .ref (b + 2), .ref (b + 3), .ref (b + 4), .ref (b + 5)])) (h2 : M 2 = .inl (cI, 32, .inl ow)) (h4 : M 4 = .inl (cI, 32, .inl we)) (h6 : M 6 = .inr (4, [.ref (b + 7), .ref (b + 8), .ref (b + 9)])) (h8 : M 8 = .inl (cI, 33, .inl be)) (h9 : M 9 = .inl (cR, 12, .inr (.inr (.inr (.inr (fun i => if i < 12 then some (b + 9 + 1 + i) else none)))))) (hnP : P < n) (hP : M P = .inl (cI, 33, .inl e0))  (hG0 : 0 < G) (hG : G ≤ 32) (hPe : P = 10 + t) (ht : t < 12) (ha : a ≤ G) (hw9 : ∀ g, g < G → we g = nI (w g)) (hsum : sN w G ≤ 1000) (hB : ∀ j, a < j → j ≤ G → be j = nI (B j) ∧ B j ≤ 1000000) (hlim : lim ≤ 300000) : Met l yX4_chooseEnd (kw yX4_chooseEnd cX4_chooseEnd 9 (some .int)) ({ frames := 1, cells := 0, slots := 0, locals := 22 }) (va_Pc [.ref (b + 6), .ref (b + 1), .int (nI t), .int (nI a), .int (nI lim)] (kPre D (kT cI cJ cZ cH cR) b M n)) (va_Qi (fun (r : Int32) (u : (Nat → va_E) × Nat) => r = (nI (chs w (cg w ow t) B lim a (G - a)).1) ∧ u.2 = n ∧ kF [P] M u.1 ∧ u.1 P = .inl (cI, 33, .inl (eup e0 a (chs w (cg w ow t) B lim a (G - a)).2))) (kB D (kT cI cJ cZ cH cR) b) (kA b)) 0 0 (kA b) := by
  refine k_metI (by decide +kernel) (Nat.le_of_ble_eq_true rfl) ?_
  intro p e s m below meth c ls Q C hw hret hnm hl
  have hl : lv_has ls 9 [(0, .ref (b + 6)), (1, .ref (b + 1)), (2, .int (nI t)), (3, .int (nI a)), (4, .int (nI lim))] := hl
  have hFF : kF [P] M M := kF_rf
  have hws : ∀ k, a + k ≤ G → sN (fun j => w (a + j)) k ≤ 1000 := fun k hk => by have e1 := sN_split w a k; have e2 := sN_mono w hk; omega
  have hcs : ∀ k, a + k ≤ G → sN (fun j => cg w ow t (a + j)) k ≤ 1032 := fun k hk => by have e1 := sN_le (f := fun j => cg w ow t (a + j)) (g := fun j => w (a + j) + 1) (fun j => cg_le w ow t (a + j)) k; have e2 := sN_p1 (fun j => w (a + j)) k; have e3 := hws k hk; omega
  refine lv_ldc C.1 C.2.1 C.2.2.2.1 (C.2.2.2.2.1 _ q_320) dX4_chooseEnd_0 ?_
  refine k_topi (y := nI 1000000) (by decide) ?_
  refine lv_istore (lv' := [(5, .int (nI 1000000)), (0, .ref (b + 6)), (1, .ref (b + 1)), (2, .int (nI t)), (3, .int (nI a)), (4, .int (nI lim))]) C.1 C.2.1 dX4_chooseEnd_2 hl (by decide) rfl (fun ls hl => ?_)
  refine lv_iconst (v := nI 0) C.1 C.2.1 dX4_chooseEnd_4 (by decide) ?_
  refine lv_istore (lv' := [(6, .int (nI 0)), (5, .int (nI 1000000)), (0, .ref (b + 6)), (1, .ref (b + 1)), (2, .int (nI t)), (3, .int (nI a)), (4, .int (nI lim))]) C.1 C.2.1 dX4_chooseEnd_5 hl (by decide) rfl (fun ls hl => ?_)
  refine lv_iconst (v := nI 0) C.1 C.2.1 dX4_chooseEnd_7 (by decide) ?_
  refine lv_istore (lv' := [(7, .int (nI 0)), (6, .int (nI 0)), (5, .int (nI 1000000)), (0, .ref (b + 6)), (1, .ref (b + 1)), (2, .int (nI t)), (3, .int (nI a)), (4, .int (nI lim))]) C.1 C.2.1 dX4_chooseEnd_8 hl (by decide) rfl (fun ls hl => ?_)
  refine lv_iload_n C.1 C.2.1 dX4_chooseEnd_10 rfl (lv_at hl 6 rfl) ?_
  refine lv_istore (lv' := [(8, .int (nI a)), (7, .int (nI 0)), (6, .int (nI 0)), (5, .int (nI 1000000)), (0, .ref (b + 6)), (1, .ref (b + 1)), (2, .int (nI t)), (3, .int (nI a)), (4, .int (nI lim))]) C.1 C.2.1 dX4_chooseEnd_11 hl (by decide) rfl (fun ls hl => ?_)
  have L13 : ∀ (N13 : Nat) (k : Nat) (Mx13 : Nat → va_E), (G - (a + k) < N13) → (a + k ≤ G) → (sN (fun j => w (a + j)) k ≤ lim) → kF [P] M Mx13 → Mx13 1 = .inr (3, [.int (nI G), .int (nI mo), .int (nI ta), .int sc, .int (nI mv), .ref (b + 2), .ref (b + 3), .ref (b + 4), .ref (b + 5)]) → Mx13 2 = .inl (cI, 32, .inl ow) → Mx13 4 = .inl (cI, 32, .inl we) → Mx13 6 = .inr (4, [.ref (b + 7), .ref (b + 8), .ref (b + 9)]) → Mx13 8 = .inl (cI, 33, .inl be) → Mx13 9 = .inl (cR, 12, .inr (.inr (.inr (.inr (fun i => if i < 12 then some (b + 9 + 1 + i) else none))))) → Mx13 P = .inl (cI, 33, .inl (eup e0 a (chs w (cg w ow t) B lim a k).2)) → ∀ (ls : Array Slot) (H : Heap) (locs : List Loc), lv_has ls 9 [(8, .int (nI (a + k))), (7, .int (nI (sN (fun j => cg w ow t (a + j)) k))), (6, .int (nI (sN (fun j => w (a + j)) k))), (5, .int (nI (chs w (cg w ow t) B lim a k).1)), (0, .ref (b + 6)), (1, .ref (b + 1)), (2, .int (nI t)), (3, .int (nI a)), (4, .int (nI lim))] → kW D b Mx13 n s.heap H locs → W p l e ({ frames := 1, cells := 0, slots := 0, locals := 22 } : Room) s m ([.ref (b + 6), .ref (b + 1), .int (nI t), .int (nI a), .int (nI lim)] : List Value).toArray below meth c H locs 0 0 Q (F0 m 13 ls []) := by
    intro N13
    induction N13 with
    | zero => intro k Mx13 hm13 hk hlk hFF h1 h2 h4 h6 h8 h9 hP ls H locs hl hw; omega
    | succ N13 ih13 =>
      intro k Mx13 hm13 hk hlk hFF h1 h2 h4 h6 h8 h9 hP ls H locs hl hw
      refine lv_iload C.1 C.2.1 dX4_chooseEnd_13 (lv_at hl 0 rfl) ?_
      refine lv_aload_n C.1 C.2.1 dX4_chooseEnd_15 rfl (lv_at hl 5 rfl) ?_
      refine k_get C hw 1 (by omega) h1 rfl inlX3 0 (by decide) q_321 rfl dX4_chooseEnd_16 ?_
      refine lv_icmp_ge (tgt := 105) C.1 C.2.1 dX4_chooseEnd_19 (by decide) (fun c19 => ?_) (fun c19 => ?_)
      · have q := (nI_leI (by omega) (by omega)).mp c19
        have q : G - a = k := by omega
        refine lv_iload C.1 C.2.1 dX4_chooseEnd_105 (lv_at hl 3 rfl) ?_
        exact hret _ _ (Nat.le_of_ble_eq_true rfl) (Nat.le_of_ble_eq_true rfl) hw (⟨by rw [q], rfl, hFF, by rw [q]; exact hP⟩) dX4_chooseEnd_107
      · have q : ¬ G ≤ a + k := fun y => c19 ((nI_leI (by omega) (by omega)).mpr y)
        have b1 := hws (k + 1) (by omega)
        have b2 := hcs (k + 1) (by omega)
        have b3 := hws k (by omega)
        have b4 := hcs k (by omega)
        obtain ⟨hb1, hb2⟩ := hB (a + k + 1) (by omega) (by omega)
        have b5 := chs_le w (cg w ow t) B lim a k
        refine lv_iload C.1 C.2.1 dX4_chooseEnd_22 (lv_at hl 2 rfl) ?_
        refine lv_aload_n C.1 C.2.1 dX4_chooseEnd_24 rfl (lv_at hl 5 rfl) ?_
        refine k_get C hw 1 (by omega) h1 rfl inlX3 7 (by decide) q_338 rfl dX4_chooseEnd_25 ?_
        refine lv_iload C.1 C.2.1 dX4_chooseEnd_28 (lv_at hl 0 rfl) ?_
        refine k_iald C hw 4 (by omega) h4 (by omega) (by first | decide | omega) dX4_chooseEnd_30 ?_
        refine lv_iadd C.1 C.2.1 dX4_chooseEnd_31 ?_
        refine k_topi (y := nI (sN (fun j => w (a + j)) (k + 1))) (by rw [hw9 _ (by omega), nI_add]; rfl) ?_
        refine lv_istore (lv' := [(6, .int (nI (sN (fun j => w (a + j)) (k + 1)))), (8, .int (nI (a + k))), (7, .int (nI (sN (fun j => cg w ow t (a + j)) k))), (5, .int (nI (chs w (cg w ow t) B lim a k).1)), (0, .ref (b + 6)), (1, .ref (b + 1)), (2, .int (nI t)), (3, .int (nI a)), (4, .int (nI lim))]) C.1 C.2.1 dX4_chooseEnd_32 hl (by decide) rfl (fun ls hl => ?_)
        refine lv_iload C.1 C.2.1 dX4_chooseEnd_34 (lv_at hl 0 rfl) ?_
        refine lv_iload C.1 C.2.1 dX4_chooseEnd_36 (lv_at hl 8 rfl) ?_
        refine lv_icmp_le (tgt := 44) C.1 C.2.1 dX4_chooseEnd_38 (by decide) (fun c38 => ?_) (fun c38 => ?_)
        · have ql : sN (fun j => w (a + j)) (k + 1) ≤ lim := (nI_leI (by omega) (by omega)).mp c38
          refine lv_iload C.1 C.2.1 dX4_chooseEnd_44 (lv_at hl 2 rfl) ?_
          refine lv_aload_n C.1 C.2.1 dX4_chooseEnd_46 rfl (lv_at hl 5 rfl) ?_
          refine lv_iload C.1 C.2.1 dX4_chooseEnd_47 (lv_at hl 1 rfl) ?_
          refine lv_iload_n C.1 C.2.1 dX4_chooseEnd_49 rfl (lv_at hl 6 rfl) ?_
          refine k_vi C hw 1 (by omega) h1 rfl (c_X3_costToGive (by omega) h1 h2 h4  (by omega) (by omega) (by omega)) kv_X4_63 rfl hl.1 ⟨Nat.le_of_ble_eq_true rfl, Nat.le_of_ble_eq_true rfl⟩ (Nat.le_of_ble_eq_true rfl) ⟨Nat.le_of_ble_eq_true rfl, Nat.le_of_ble_eq_true rfl⟩ dX4_chooseEnd_50 (fun r50 M_1 n9 H locs hp hw => ?_)
          obtain ⟨er50, en9, eM9⟩ := hp
          have en9 : n9 = n := en9
          rw [en9] at hw
          have eM9 : M_1 = Mx13 := eM9
          rw [eM9] at hw
          refine lv_iadd C.1 C.2.1 dX4_chooseEnd_53 ?_
          refine k_topi (y := nI (sN (fun j => cg w ow t (a + j)) (k + 1))) (by rw [er50, hw9 _ (by omega)]; exact cg_nI) ?_
          refine lv_istore (lv' := [(7, .int (nI (sN (fun j => cg w ow t (a + j)) (k + 1)))), (6, .int (nI (sN (fun j => w (a + j)) (k + 1)))), (8, .int (nI (a + k))), (5, .int (nI (chs w (cg w ow t) B lim a k).1)), (0, .ref (b + 6)), (1, .ref (b + 1)), (2, .int (nI t)), (3, .int (nI a)), (4, .int (nI lim))]) C.1 C.2.1 dX4_chooseEnd_54 hl (by decide) rfl (fun ls hl => ?_)
          refine lv_iload C.1 C.2.1 dX4_chooseEnd_56 (lv_at hl 0 rfl) ?_
          refine lv_aload_n C.1 C.2.1 dX4_chooseEnd_58 rfl (lv_at hl 4 rfl) ?_
          refine k_get C hw 6 (by omega) h6 rfl inlX4 1 (by decide) q_65 rfl dX4_chooseEnd_59 ?_
          refine lv_iload C.1 C.2.1 dX4_chooseEnd_62 (lv_at hl 2 rfl) ?_
          refine lv_iconst (v := nI 1) C.1 C.2.1 dX4_chooseEnd_64 (by decide) ?_
          refine lv_iadd C.1 C.2.1 dX4_chooseEnd_65 ?_
          refine k_topi (y := nI (a + k + 1)) (nI_add _ _) ?_
          refine k_iald C hw 8 (by omega) h8 (by omega) (by first | decide | omega) dX4_chooseEnd_66 ?_
          refine lv_iadd C.1 C.2.1 dX4_chooseEnd_67 ?_
          refine k_topi (y := nI (sN (fun j => cg w ow t (a + j)) (k + 1) + B (a + k + 1))) (by rw [hb1, nI_add]) ?_
          refine lv_iload C.1 C.2.1 dX4_chooseEnd_68 (lv_at hl 3 rfl) ?_
          refine lv_icmp_ge (tgt := 99) C.1 C.2.1 dX4_chooseEnd_70 (by decide) (fun c70 => ?_) (fun c70 => ?_)
          · have q70 := (nI_leI (by omega) (by omega)).mp c70
            refine lv_iinc (v := (nI ((a + k) + 1))) (lv' := [(8, .int (nI ((a + k) + 1))), (7, .int (nI (sN (fun j => cg w ow t (a + j)) (k + 1)))), (6, .int (nI (sN (fun j => w (a + j)) (k + 1)))), (5, .int (nI (chs w (cg w ow t) B lim a k).1)), (0, .ref (b + 6)), (1, .ref (b + 1)), (2, .int (nI t)), (3, .int (nI a)), (4, .int (nI lim))]) C.1 C.2.1 dX4_chooseEnd_99 hl (k := 2) rfl (k_inc _ 1) (by decide) rfl (fun ls hl => ?_)
            refine lv_goto (tgt := 13) C.1 C.2.1 dX4_chooseEnd_102 (by decide) ?_
            have e9 : chs w (cg w ow t) B lim a (k + 1) = chs w (cg w ow t) B lim a k := if_neg (fun z => by omega)
            rw [← e9] at hP hl
            exact ih13  (k + 1) Mx13 (by omega) (by omega) (ql) hFF h1 h2 h4 h6 h8 h9 hP  ls _ _ (lv_sub hl [0, 1, 2, 3, 4, 5, 6, 7, 8] rfl) hw
          · have q70 : ¬ (chs w (cg w ow t) B lim a k).1 ≤ sN (fun j => cg w ow t (a + j)) (k + 1) + B (a + k + 1) := fun y => c70 ((nI_leI (by omega) (by omega)).mpr y)
            refine lv_iload C.1 C.2.1 dX4_chooseEnd_73 (lv_at hl 0 rfl) ?_
            refine lv_aload_n C.1 C.2.1 dX4_chooseEnd_75 rfl (lv_at hl 4 rfl) ?_
            refine k_get C hw 6 (by omega) h6 rfl inlX4 1 (by decide) q_65 rfl dX4_chooseEnd_76 ?_
            refine lv_iload C.1 C.2.1 dX4_chooseEnd_79 (lv_at hl 2 rfl) ?_
            refine lv_iconst (v := nI 1) C.1 C.2.1 dX4_chooseEnd_81 (by decide) ?_
            refine lv_iadd C.1 C.2.1 dX4_chooseEnd_82 ?_
            refine k_topi (y := nI (a + k + 1)) (nI_add _ _) ?_
            refine k_iald C hw 8 (by omega) h8 (by omega) (by first | decide | omega) dX4_chooseEnd_83 ?_
            refine lv_iadd C.1 C.2.1 dX4_chooseEnd_84 ?_
            refine k_topi (y := nI (sN (fun j => cg w ow t (a + j)) (k + 1) + B (a + k + 1))) (by rw [hb1, nI_add]) ?_
            refine lv_istore (lv' := [(5, .int (nI (sN (fun j => cg w ow t (a + j)) (k + 1) + B (a + k + 1)))), (7, .int (nI (sN (fun j => cg w ow t (a + j)) (k + 1)))), (6, .int (nI (sN (fun j => w (a + j)) (k + 1)))), (8, .int (nI (a + k))), (0, .ref (b + 6)), (1, .ref (b + 1)), (2, .int (nI t)), (3, .int (nI a)), (4, .int (nI lim))]) C.1 C.2.1 dX4_chooseEnd_85 hl (by decide) rfl (fun ls hl => ?_)
            refine lv_aload_n C.1 C.2.1 dX4_chooseEnd_87 rfl (lv_at hl 4 rfl) ?_
            refine k_get C hw 6 (by omega) h6 rfl inlX4 2 (by decide) q_67 rfl dX4_chooseEnd_88 ?_
            refine lv_iload_n C.1 C.2.1 dX4_chooseEnd_91 rfl (lv_at hl 6 rfl) ?_
            refine k_rald (v := .ref (b + P)) C hw 9 (by omega) h9 (by omega) (by decide) (by rw [if_pos ht, hPe]; show Value.ref (b + 9 + 1 + t) = Value.ref (b + (10 + t)); rw [show b + 9 + 1 + t = b + (10 + t) by omega]) dX4_chooseEnd_92 ?_
            refine lv_iload_n C.1 C.2.1 dX4_chooseEnd_93 rfl (lv_at hl 7 rfl) ?_
            refine lv_iload C.1 C.2.1 dX4_chooseEnd_94 (lv_at hl 3 rfl) ?_
            refine lv_iconst (v := nI 1) C.1 C.2.1 dX4_chooseEnd_96 (by decide) ?_
            refine lv_iadd C.1 C.2.1 dX4_chooseEnd_97 ?_
            refine k_topi (y := nI (a + k + 1)) (nI_add _ _) ?_
            refine k_iast C hw P hnP hP (by omega) (by first | decide | omega) dX4_chooseEnd_98 (fun M_2 H locs hw hP hF => ?_)
            have h1 := (hF 1 (by first | decide | (simp <;> omega))).trans h1
            have h2 := (hF 2 (by first | decide | (simp <;> omega))).trans h2
            have h4 := (hF 4 (by first | decide | (simp <;> omega))).trans h4
            have h6 := (hF 6 (by first | decide | (simp <;> omega))).trans h6
            have h8 := (hF 8 (by first | decide | (simp <;> omega))).trans h8
            have h9 := (hF 9 (by first | decide | (simp <;> omega))).trans h9
            have hFF := kF_st hFF hF (by first | decide | simp)
            rw [eup_s (by omega)] at hP
            refine lv_iinc (v := (nI ((a + k) + 1))) (lv' := [(8, .int (nI ((a + k) + 1))), (5, .int (nI (sN (fun j => cg w ow t (a + j)) (k + 1) + B (a + k + 1)))), (7, .int (nI (sN (fun j => cg w ow t (a + j)) (k + 1)))), (6, .int (nI (sN (fun j => w (a + j)) (k + 1)))), (0, .ref (b + 6)), (1, .ref (b + 1)), (2, .int (nI t)), (3, .int (nI a)), (4, .int (nI lim))]) C.1 C.2.1 dX4_chooseEnd_99 hl (k := 3) rfl (k_inc _ 1) (by decide) rfl (fun ls hl => ?_)
            refine lv_goto (tgt := 13) C.1 C.2.1 dX4_chooseEnd_102 (by decide) ?_
            have e9 : chs w (cg w ow t) B lim a (k + 1) = (sN (fun j => cg w ow t (a + j)) (k + 1) + B (a + k + 1), a + k + 1) := if_pos ⟨ql, by omega⟩
            have e8 : nI (sN (fun j => cg w ow t (a + j)) (k + 1) + B (a + k + 1)) = nI (chs w (cg w ow t) B lim a (k + 1)).1 := by rw [e9]
            rw [e8] at hl
            rw [show a + k + 1 = (chs w (cg w ow t) B lim a (k + 1)).2 by rw [e9]] at hP
            exact ih13  (k + 1) M_2 (by omega) (by omega) (ql) hFF h1 h2 h4 h6 h8 h9 hP  ls _ _ (lv_sub hl [0, 2, 3, 1, 4, 5, 6, 7, 8] rfl) hw
        · have ql : lim < sN (fun j => w (a + j)) (k + 1) := Nat.not_le.mp (fun y => c38 ((nI_leI (by omega) (by omega)).mpr y))
          have q : chs w (cg w ow t) B lim a (G - a) = chs w (cg w ow t) B lim a k := by rw [show G - a = k + (G - a - k) by omega]; exact chs_stop ql _
          refine lv_goto (tgt := 105) C.1 C.2.1 dX4_chooseEnd_41 (by decide) ?_
          refine lv_iload C.1 C.2.1 dX4_chooseEnd_105 (lv_at hl 3 rfl) ?_
          exact hret _ _ (Nat.le_of_ble_eq_true rfl) (Nat.le_of_ble_eq_true rfl) hw (⟨by rw [q], rfl, hFF, by rw [q]; exact hP⟩) dX4_chooseEnd_107
  exact L13 (_ + 1) (0) M (Nat.lt_succ_self _) (ha) (Nat.zero_le _) hFF h1 h2 h4 h6 h8 h9 hP  ls _ _ (lv_sub hl [0, 1, 2, 3, 4, 5, 6, 7, 8] rfl) hw
