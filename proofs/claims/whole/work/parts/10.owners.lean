theorem kv_X3_24 : kV RX3 RX3 24 yX3_begin cX3_begin 1 none 0 := ⟨q_43, q_44, q_45, q_14, q_46, by decide +kernel⟩
theorem kv_X3_34 : kV RX3 RX3 34 yX3_giveAllToOne cX3_giveAllToOne 3 none 2 := ⟨q_49, q_50, q_51, q_14, q_52, by decide +kernel⟩
theorem kv_X3_47 : kSt RX3 47 yJ7_fill_53178 cJ7_fill_53178 4 none 2 := ⟨q_56, q_57, q_58, q_59, by decide +kernel⟩
set_option maxHeartbeats 4000000 in
set_option maxRecDepth 100000 in
/-- Arrays.fill(int[], int) -/
theorem c_J7_fill_53178 {l : Launch} {D : va_G} {cI cJ cZ cH cR : ClassId} {b : Nat} {n : Nat} {M : Nat → va_E}   {P N : Nat} {f : Nat → Int32} {v : Int32}  (hnP : P < n) (hP : M P = .inl (cI, N, .inl f))  (hN : N < 1000) : Met l yJ7_fill_53178 (kw yJ7_fill_53178 cJ7_fill_53178 4 none) ({ frames := 0, cells := 0, slots := 0, locals := 0 }) (va_Pc [.ref (b + P), .int v] (kPre D (kT cI cJ cZ cH cR) b M n)) (va_Qv (fun (u : (Nat → va_E) × Nat) => u.2 = n ∧ kF [P] M u.1 ∧ u.1 P = .inl (cI, N, .inl (fil f v N))) (kB D (kT cI cJ cZ cH cR) b) (kA b)) 0 0 (kA b) := by
  refine k_metV (by decide +kernel) (Nat.le_of_ble_eq_true rfl) ?_
  intro p e s m below meth c ls Q C hw hret hnm hl
  have hl : lv_has ls 4 [(0, .ref (b + P)), (1, .int v)] := hl
  have hFF : kF [P] M M := kF_rf
  refine lv_iconst (v := nI 0) C.1 C.2.1 dJ7_fill_53178_0 (by decide) ?_
  refine lv_istore_n (lv' := [(2, .int (nI 0)), (0, .ref (b + P)), (1, .int v)]) C.1 C.2.1 dJ7_fill_53178_1 rfl hl (by decide) rfl (fun ls hl => ?_)
  refine lv_aload_n C.1 C.2.1 dJ7_fill_53178_2 rfl (lv_at hl 1 rfl) ?_
  refine k_alen C hw P hnP hP 0 rfl dJ7_fill_53178_3 ?_
  refine k_topi (y := nI N) rfl ?_
  refine lv_istore_n (lv' := [(3, .int (nI N)), (2, .int (nI 0)), (0, .ref (b + P)), (1, .int v)]) C.1 C.2.1 dJ7_fill_53178_4 rfl hl (by decide) rfl (fun ls hl => ?_)
  have L5 : ∀ (N5 : Nat) (i : Nat) (Mx5 : Nat → va_E), (N - i < N5) → (i ≤ N) → kF [P] M Mx5 → Mx5 P = .inl (cI, N, .inl (fil f v i)) → ∀ (ls : Array Slot) (H : Heap) (locs : List Loc), lv_has ls 4 [(3, .int (nI N)), (2, .int (nI i)), (0, .ref (b + P)), (1, .int v)] → kW D b Mx5 n s.heap H locs → W p l e ({ frames := 0, cells := 0, slots := 0, locals := 0 } : Room) s m ([.ref (b + P), .int v] : List Value).toArray below meth c H locs 0 0 Q (F0 m 5 ls []) := by
    intro N5
    induction N5 with
    | zero => intro i Mx5 hm5 hi hFF hP ls H locs hl hw; omega
    | succ N5 ih5 =>
      intro i Mx5 hm5 hi hFF hP ls H locs hl hw
      refine lv_iload_n C.1 C.2.1 dJ7_fill_53178_5 rfl (lv_at hl 1 rfl) ?_
      refine lv_iload_n C.1 C.2.1 dJ7_fill_53178_6 rfl (lv_at hl 0 rfl) ?_
      refine lv_icmp_ge (tgt := 20) C.1 C.2.1 dJ7_fill_53178_7 (by decide) (fun c7 => ?_) (fun c7 => ?_)
      · have q := (nI_leI (by omega) (by omega)).mp c7
        have q : i = N := by omega
        rw [q] at hP
        exact hret _ _ (Nat.le_of_ble_eq_true rfl) (Nat.le_of_ble_eq_true rfl) hw (⟨rfl, hFF, hP⟩) dJ7_fill_53178_20
      · have q : ¬ N ≤ i := fun z => c7 ((nI_leI (by omega) (by omega)).mpr z)
        refine lv_aload_n C.1 C.2.1 dJ7_fill_53178_10 rfl (lv_at hl 2 rfl) ?_
        refine lv_iload_n C.1 C.2.1 dJ7_fill_53178_11 rfl (lv_at hl 1 rfl) ?_
        refine lv_iload_n C.1 C.2.1 dJ7_fill_53178_12 rfl (lv_at hl 3 rfl) ?_
        refine k_iast C hw P hnP hP (by omega) (by first | decide | omega) dJ7_fill_53178_13 (fun M_1 H locs hw hP hF => ?_)
        have hFF := kF_st hFF hF (by first | decide | simp)
        rw [fil_s] at hP
        refine lv_iinc (v := (nI (i + 1))) (lv' := [(2, .int (nI (i + 1))), (3, .int (nI N)), (0, .ref (b + P)), (1, .int v)]) C.1 C.2.1 dJ7_fill_53178_14 hl (k := 1) rfl (k_inc _ 1) (by decide) rfl (fun ls hl => ?_)
        refine lv_goto (tgt := 5) C.1 C.2.1 dJ7_fill_53178_17 (by decide) ?_
        exact ih5  (i + 1) M_1 (by omega) (by omega) hFF hP  ls _ _ (lv_sub hl [1, 0, 2, 3] rfl) hw
  exact L5 (_ + 1) (0) M (Nat.lt_succ_self _) (Nat.zero_le _) hFF hP  ls _ _ (lv_sub hl [0, 1, 2, 3] rfl) hw

set_option maxHeartbeats 4000000 in
set_option maxRecDepth 100000 in
/-- Arrays.fill(long[], long) -/
theorem c_J7_fill_d0a16 {l : Launch} {D : va_G} {cI cJ cZ cH cR : ClassId} {b : Nat} {n : Nat} {M : Nat → va_E}   {P N : Nat} {f : Nat → Int64} {v : Int64}  (hnP : P < n) (hP : M P = .inl (cJ, N, .inr (.inl f)))  (hN : N < 1000) : Met l yJ7_fill_d0a16 (kw yJ7_fill_d0a16 cJ7_fill_d0a16 5 none) ({ frames := 0, cells := 0, slots := 0, locals := 0 }) (va_Pc [.ref (b + P), .long v] (kPre D (kT cI cJ cZ cH cR) b M n)) (va_Qv (fun (u : (Nat → va_E) × Nat) => u.2 = n ∧ kF [P] M u.1 ∧ u.1 P = .inl (cJ, N, .inr (.inl (fil f v N)))) (kB D (kT cI cJ cZ cH cR) b) (kA b)) 0 0 (kA b) := by
  refine k_metV (by decide +kernel) (Nat.le_of_ble_eq_true rfl) ?_
  intro p e s m below meth c ls Q C hw hret hnm hl
  have hl : lv_has ls 5 [(0, .ref (b + P)), (1, .long v)] := hl
  have hFF : kF [P] M M := kF_rf
  refine lv_iconst (v := nI 0) C.1 C.2.1 dJ7_fill_d0a16_0 (by decide) ?_
  refine lv_istore_n (lv' := [(3, .int (nI 0)), (0, .ref (b + P)), (1, .long v)]) C.1 C.2.1 dJ7_fill_d0a16_1 rfl hl (by decide) rfl (fun ls hl => ?_)
  refine lv_aload_n C.1 C.2.1 dJ7_fill_d0a16_2 rfl (lv_at hl 1 rfl) ?_
  refine k_alen C hw P hnP hP 1 rfl dJ7_fill_d0a16_3 ?_
  refine k_topi (y := nI N) rfl ?_
  refine lv_istore (lv' := [(4, .int (nI N)), (3, .int (nI 0)), (0, .ref (b + P)), (1, .long v)]) C.1 C.2.1 dJ7_fill_d0a16_4 hl (by decide) rfl (fun ls hl => ?_)
  have L6 : ∀ (N6 : Nat) (i : Nat) (Mx6 : Nat → va_E), (N - i < N6) → (i ≤ N) → kF [P] M Mx6 → Mx6 P = .inl (cJ, N, .inr (.inl (fil f v i))) → ∀ (ls : Array Slot) (H : Heap) (locs : List Loc), lv_has ls 5 [(4, .int (nI N)), (3, .int (nI i)), (0, .ref (b + P)), (1, .long v)] → kW D b Mx6 n s.heap H locs → W p l e ({ frames := 0, cells := 0, slots := 0, locals := 0 } : Room) s m ([.ref (b + P), .long v] : List Value).toArray below meth c H locs 0 0 Q (F0 m 6 ls []) := by
    intro N6
    induction N6 with
    | zero => intro i Mx6 hm6 hi hFF hP ls H locs hl hw; omega
    | succ N6 ih6 =>
      intro i Mx6 hm6 hi hFF hP ls H locs hl hw
      refine lv_iload_n C.1 C.2.1 dJ7_fill_d0a16_6 rfl (lv_at hl 1 rfl) ?_
      refine lv_iload C.1 C.2.1 dJ7_fill_d0a16_7 (lv_at hl 0 rfl) ?_
      refine lv_icmp_ge (tgt := 22) C.1 C.2.1 dJ7_fill_d0a16_9 (by decide) (fun c9 => ?_) (fun c9 => ?_)
      · have q := (nI_leI (by omega) (by omega)).mp c9
        have q : i = N := by omega
        rw [q] at hP
        exact hret _ _ (Nat.le_of_ble_eq_true rfl) (Nat.le_of_ble_eq_true rfl) hw (⟨rfl, hFF, hP⟩) dJ7_fill_d0a16_22
      · have q : ¬ N ≤ i := fun z => c9 ((nI_leI (by omega) (by omega)).mpr z)
        refine lv_aload_n C.1 C.2.1 dJ7_fill_d0a16_12 rfl (lv_at hl 2 rfl) ?_
        refine lv_iload_n C.1 C.2.1 dJ7_fill_d0a16_13 rfl (lv_at hl 1 rfl) ?_
        refine lv_lload_n C.1 C.2.1 dJ7_fill_d0a16_14 rfl (lv_at hl 3 rfl) ?_
        refine k_last C hw P hnP hP (by omega) (by first | decide | omega) dJ7_fill_d0a16_15 (fun M_1 H locs hw hP hF => ?_)
        have hFF := kF_st hFF hF (by first | decide | simp)
        rw [fil_sL] at hP
        refine lv_iinc (v := (nI (i + 1))) (lv' := [(3, .int (nI (i + 1))), (4, .int (nI N)), (0, .ref (b + P)), (1, .long v)]) C.1 C.2.1 dJ7_fill_d0a16_16 hl (k := 1) rfl (k_inc _ 1) (by decide) rfl (fun ls hl => ?_)
        refine lv_goto (tgt := 6) C.1 C.2.1 dJ7_fill_d0a16_19 (by decide) ?_
        exact ih6  (i + 1) M_1 (by omega) (by omega) hFF hP  ls _ _ (lv_sub hl [1, 0, 2, 3] rfl) hw
  exact L6 (_ + 1) (0) M (Nat.lt_succ_self _) (Nat.zero_le _) hFF hP  ls _ _ (lv_sub hl [0, 1, 2, 3] rfl) hw

set_option maxHeartbeats 4000000 in
set_option maxRecDepth 100000 in
theorem c_X3_groupOf {l : Launch} {D : va_G} {cI cJ cZ cH cR : ClassId} {b : Nat} {n : Nat} {M : Nat → va_E}  {G : Nat} {mo : Nat} {ta : Nat} {sc : Int32} {mv : Nat} {key : Int32} (hn : 2 ≤ n) (h1 : M 1 = .inr (3, [.int (nI G), .int (nI mo), .int (nI ta), .int sc, .int (nI mv), .ref (b + 2), .ref (b + 3), .ref (b + 4), .ref (b + 5)]))  (hG0 : 0 < G) (hG : G ≤ 32) : Met l yX3_groupOf (kw yX3_groupOf cX3_groupOf 4 (some .int)) ({ frames := 0, cells := 0, slots := 0, locals := 0 }) (va_Pc [.ref (b + 1), .int key] (kPre D (kT cI cJ cZ cH cR) b M n)) (va_Qi (fun (r : Int32) (u : (Nat → va_E) × Nat) => r = (nI (gof G key)) ∧ u.2 = n ∧ u.1 = M) (kB D (kT cI cJ cZ cH cR) b) (kA b)) 0 0 (kA b) := by
  refine k_metI (by decide +kernel) (Nat.le_of_ble_eq_true rfl) ?_
  intro p e s m below meth c ls Q C hw hret hnm hl
  have hl : lv_has ls 4 [(0, .ref (b + 1)), (1, .int key)] := hl
  refine lv_iload_n C.1 C.2.1 dX3_groupOf_0 rfl (lv_at hl 1 rfl) ?_
  refine lv_ldc C.1 C.2.1 C.2.2.2.1 (C.2.2.2.2.1 _ q_213) dX3_groupOf_1 ?_
  refine lv_imul C.1 C.2.1 dX3_groupOf_3 ?_
  refine lv_bipush (v := nI 7) C.1 C.2.1 dX3_groupOf_4 (by decide) ?_
  refine lv_iload_n C.1 C.2.1 dX3_groupOf_6 rfl (lv_at hl 1 rfl) ?_
  refine lv_imul C.1 C.2.1 dX3_groupOf_7 ?_
  refine lv_iadd C.1 C.2.1 dX3_groupOf_8 ?_
  refine lv_topi (fun x1 ex1 => ?_)
  refine lv_istore_n (lv' := [(2, .int x1), (0, .ref (b + 1)), (1, .int key)]) C.1 C.2.1 dX3_groupOf_9 rfl hl (by decide) rfl (fun ls hl => ?_)
  refine lv_iload_n C.1 C.2.1 dX3_groupOf_10 rfl (lv_at hl 0 rfl) ?_
  refine lv_iload_n C.1 C.2.1 dX3_groupOf_11 rfl (lv_at hl 0 rfl) ?_
  refine lv_bipush (v := nI 15) C.1 C.2.1 dX3_groupOf_12 (by decide) ?_
  refine lv_iushr C.1 C.2.1 dX3_groupOf_14 rfl ?_
  refine lv_ixor C.1 C.2.1 dX3_groupOf_15 ?_
  refine lv_topi (fun y1 ey1 => ?_)
  refine lv_istore_n (lv' := [(3, .int y1), (2, .int x1), (0, .ref (b + 1)), (1, .int key)]) C.1 C.2.1 dX3_groupOf_16 rfl hl (by decide) rfl (fun ls hl => ?_)
  refine lv_iload_n C.1 C.2.1 dX3_groupOf_17 rfl (lv_at hl 0 rfl) ?_
  refine lv_iconst (v := nI 1) C.1 C.2.1 dX3_groupOf_18 (by decide) ?_
  refine lv_iushr C.1 C.2.1 dX3_groupOf_19 rfl ?_
  refine lv_aload_n C.1 C.2.1 dX3_groupOf_20 rfl (lv_at hl 2 rfl) ?_
  refine k_get C hw 1 (by omega) h1 rfl inlX3 0 (by decide) q_53 rfl dX3_groupOf_21 ?_
  refine lv_irem C.1 C.2.1 dX3_groupOf_24 (nI_ne0 (by omega) (by omega)) ?_
  exact hret _ _ (Nat.le_of_ble_eq_true rfl) (Nat.le_of_ble_eq_true rfl) hw (⟨by subst ey1; subst ex1; exact gof_eq (by omega) (by omega) key, rfl, rfl⟩) dX3_groupOf_25

set_option maxHeartbeats 4000000 in
set_option maxRecDepth 100000 in
theorem c_X3_totalWeight {l : Launch} {D : va_G} {cI cJ cZ cH cR : ClassId} {b : Nat} {n : Nat} {M : Nat → va_E}  {G : Nat} {mo : Nat} {ta : Nat} {sc : Int32} {mv : Nat} {we : Nat → Int32}  (hn : 5 ≤ n) (h1 : M 1 = .inr (3, [.int (nI G), .int (nI mo), .int (nI ta), .int sc, .int (nI mv), .ref (b + 2), .ref (b + 3), .ref (b + 4), .ref (b + 5)])) (h4 : M 4 = .inl (cI, 32, .inl we))  (hG0 : 0 < G) (hG : G ≤ 32) : Met l yX3_totalWeight (kw yX3_totalWeight cX3_totalWeight 3 (some .int)) ({ frames := 0, cells := 0, slots := 0, locals := 0 }) (va_Pc [.ref (b + 1)] (kPre D (kT cI cJ cZ cH cR) b M n)) (va_Qi (fun (r : Int32) (u : (Nat → va_E) × Nat) => r = (sm we G) ∧ u.2 = n ∧ u.1 = M) (kB D (kT cI cJ cZ cH cR) b) (kA b)) 0 0 (kA b) := by
  refine k_metI (by decide +kernel) (Nat.le_of_ble_eq_true rfl) ?_
  intro p e s m below meth c ls Q C hw hret hnm hl
  have hl : lv_has ls 3 [(0, .ref (b + 1))] := hl
  refine lv_iconst (v := nI 0) C.1 C.2.1 dX3_totalWeight_0 (by decide) ?_
  refine lv_istore_n (lv' := [(1, .int (nI 0)), (0, .ref (b + 1))]) C.1 C.2.1 dX3_totalWeight_1 rfl hl (by decide) rfl (fun ls hl => ?_)
  refine lv_iconst (v := nI 0) C.1 C.2.1 dX3_totalWeight_2 (by decide) ?_
  refine lv_istore_n (lv' := [(2, .int (nI 0)), (1, .int (nI 0)), (0, .ref (b + 1))]) C.1 C.2.1 dX3_totalWeight_3 rfl hl (by decide) rfl (fun ls hl => ?_)
  have L4 : ∀ (N4 : Nat) (i : Nat) (a : Int32), (G - i < N4) → (i ≤ G) → (a = sm we i) → ∀ (ls : Array Slot) (H : Heap) (locs : List Loc), lv_has ls 3 [(2, .int (nI i)), (1, .int a), (0, .ref (b + 1))] → kW D b M n s.heap H locs → W p l e ({ frames := 0, cells := 0, slots := 0, locals := 0 } : Room) s m ([.ref (b + 1)] : List Value).toArray below meth c H locs 0 0 Q (F0 m 4 ls []) := by
    intro N4
    induction N4 with
    | zero => intro i a hm4 hi ha ls H locs hl hw; omega
    | succ N4 ih4 =>
      intro i a hm4 hi ha ls H locs hl hw
      refine lv_iload_n C.1 C.2.1 dX3_totalWeight_4 rfl (lv_at hl 0 rfl) ?_
      refine lv_aload_n C.1 C.2.1 dX3_totalWeight_5 rfl (lv_at hl 2 rfl) ?_
      refine k_get C hw 1 (by omega) h1 rfl inlX3 0 (by decide) q_53 rfl dX3_totalWeight_6 ?_
      refine lv_icmp_ge (tgt := 27) C.1 C.2.1 dX3_totalWeight_9 (by decide) (fun c9 => ?_) (fun c9 => ?_)
      · have q9 := (nI_leI (by omega) (by omega)).mp c9
        have q9 : i = G := by omega
        refine lv_iload_n C.1 C.2.1 dX3_totalWeight_27 rfl (lv_at hl 1 rfl) ?_
        exact hret _ _ (Nat.le_of_ble_eq_true rfl) (Nat.le_of_ble_eq_true rfl) hw (⟨by rw [ha, q9], rfl, rfl⟩) dX3_totalWeight_28
      · have q9 : ¬ G ≤ i := fun z => c9 ((nI_leI (by omega) (by omega)).mpr z)
        refine lv_iload_n C.1 C.2.1 dX3_totalWeight_12 rfl (lv_at hl 1 rfl) ?_
        refine lv_aload_n C.1 C.2.1 dX3_totalWeight_13 rfl (lv_at hl 2 rfl) ?_
        refine k_get C hw 1 (by omega) h1 rfl inlX3 7 (by decide) q_41 rfl dX3_totalWeight_14 ?_
        refine lv_iload_n C.1 C.2.1 dX3_totalWeight_17 rfl (lv_at hl 0 rfl) ?_
        refine k_iald C hw 4 (by omega) h4 (by omega) (by first | decide | omega) dX3_totalWeight_18 ?_
        refine lv_iadd C.1 C.2.1 dX3_totalWeight_19 ?_
        refine lv_topi (fun a2 ea2 => ?_)
        refine lv_istore_n (lv' := [(1, .int a2), (2, .int (nI i)), (0, .ref (b + 1))]) C.1 C.2.1 dX3_totalWeight_20 rfl hl (by decide) rfl (fun ls hl => ?_)
        refine lv_iinc (v := (nI (i + 1))) (lv' := [(2, .int (nI (i + 1))), (1, .int a2), (0, .ref (b + 1))]) C.1 C.2.1 dX3_totalWeight_21 hl (k := 1) rfl (k_inc _ 1) (by decide) rfl (fun ls hl => ?_)
        refine lv_goto (tgt := 4) C.1 C.2.1 dX3_totalWeight_24 (by decide) ?_
        exact ih4  (i + 1) (a2) (by omega) (by omega) (by rw [ea2, ha]; rfl) ls _ _ (lv_sub hl [0, 1, 2] rfl) hw
  exact L4 (_ + 1) (0) (nI 0) (Nat.lt_succ_self _) (Nat.zero_le _) (rfl) ls _ _ (lv_sub hl [0, 1, 2] rfl) hw

set_option maxHeartbeats 4000000 in
set_option maxRecDepth 100000 in
theorem c_X3_firstOf {l : Launch} {D : va_G} {cI cJ cZ cH cR : ClassId} {b : Nat} {n : Nat} {M : Nat → va_E}  {G : Nat} {mo : Nat} {ta : Nat} {sc : Int32} {mv : Nat} {ow : Nat → Int32} {t : Int32} (hn : 3 ≤ n) (h1 : M 1 = .inr (3, [.int (nI G), .int (nI mo), .int (nI ta), .int sc, .int (nI mv), .ref (b + 2), .ref (b + 3), .ref (b + 4), .ref (b + 5)])) (h2 : M 2 = .inl (cI, 32, .inl ow))  (hG0 : 0 < G) (hG : G ≤ 32) : Met l yX3_firstOf (kw yX3_firstOf cX3_firstOf 3 (some .int)) ({ frames := 0, cells := 0, slots := 0, locals := 0 }) (va_Pc [.ref (b + 1), .int t] (kPre D (kT cI cJ cZ cH cR) b M n)) (va_Qi (fun (r : Int32) (u : (Nat → va_E) × Nat) => r = (fI (fun g => ow g == t) G) ∧ u.2 = n ∧ u.1 = M) (kB D (kT cI cJ cZ cH cR) b) (kA b)) 0 0 (kA b) := by
  refine k_metI (by decide +kernel) (Nat.le_of_ble_eq_true rfl) ?_
  intro p e s m below meth c ls Q C hw hret hnm hl
  have hl : lv_has ls 3 [(0, .ref (b + 1)), (1, .int t)] := hl
  refine lv_iconst (v := nI 0) C.1 C.2.1 dX3_firstOf_0 (by decide) ?_
  refine lv_istore_n (lv' := [(2, .int (nI 0)), (0, .ref (b + 1)), (1, .int t)]) C.1 C.2.1 dX3_firstOf_1 rfl hl (by decide) rfl (fun ls hl => ?_)
  have L2 : ∀ (N2 : Nat) (i : Nat) , (G - i < N2) → (i ≤ G) → (∀ j, j < i → (ow j == t) = false) → ∀ (ls : Array Slot) (H : Heap) (locs : List Loc), lv_has ls 3 [(2, .int (nI i)), (0, .ref (b + 1)), (1, .int t)] → kW D b M n s.heap H locs → W p l e ({ frames := 0, cells := 0, slots := 0, locals := 0 } : Room) s m ([.ref (b + 1), .int t] : List Value).toArray below meth c H locs 0 0 Q (F0 m 2 ls []) := by
    intro N2
    induction N2 with
    | zero => intro i hm2 hi ha ls H locs hl hw; omega
    | succ N2 ih2 =>
      intro i hm2 hi ha ls H locs hl hw
      refine lv_iload_n C.1 C.2.1 dX3_firstOf_2 rfl (lv_at hl 0 rfl) ?_
      refine lv_aload_n C.1 C.2.1 dX3_firstOf_3 rfl (lv_at hl 1 rfl) ?_
      refine k_get C hw 1 (by omega) h1 rfl inlX3 0 (by decide) q_53 rfl dX3_firstOf_4 ?_
      refine lv_icmp_ge (tgt := 28) C.1 C.2.1 dX3_firstOf_7 (by decide) (fun c7 => ?_) (fun c7 => ?_)
      · have q7 := (nI_leI (by omega) (by omega)).mp c7
        have q7 : i = G := by omega
        refine lv_bipush (v := (-106)) C.1 C.2.1 dX3_firstOf_28 (by decide) ?_
        exact hret _ _ (Nat.le_of_ble_eq_true rfl) (Nat.le_of_ble_eq_true rfl) hw (⟨by rw [← q7, fI_none ha], rfl, rfl⟩) dX3_firstOf_30
      · have q7 : ¬ G ≤ i := fun z => c7 ((nI_leI (by omega) (by omega)).mpr z)
        refine lv_aload_n C.1 C.2.1 dX3_firstOf_10 rfl (lv_at hl 1 rfl) ?_
        refine k_get C hw 1 (by omega) h1 rfl inlX3 5 (by decide) q_39 rfl dX3_firstOf_11 ?_
        refine lv_iload_n C.1 C.2.1 dX3_firstOf_14 rfl (lv_at hl 0 rfl) ?_
        refine k_iald C hw 2 (by omega) h2 (by omega) (by first | decide | omega) dX3_firstOf_15 ?_
        refine lv_iload_n C.1 C.2.1 dX3_firstOf_16 rfl (lv_at hl 2 rfl) ?_
        refine lv_icmp_ne (tgt := 22) C.1 C.2.1 dX3_firstOf_17 (by decide) (fun c17 => ?_) (fun c17 => ?_)
        · refine lv_iinc (v := (nI (i + 1))) (lv' := [(2, .int (nI (i + 1))), (0, .ref (b + 1)), (1, .int t)]) C.1 C.2.1 dX3_firstOf_22 hl (k := 0) rfl (k_inc _ 1) (by decide) rfl (fun ls hl => ?_)
          refine lv_goto (tgt := 2) C.1 C.2.1 dX3_firstOf_25 (by decide) ?_
          exact ih2  (i + 1) (by omega) (by omega) (fun j hj => by rcases Nat.lt_succ_iff_lt_or_eq.mp hj with h | h; exact ha j h; rw [h]; simpa using c17) ls _ _ (lv_sub hl [0, 1, 2] rfl) hw
        · refine lv_iload_n C.1 C.2.1 dX3_firstOf_20 rfl (lv_at hl 0 rfl) ?_
          exact hret _ _ (Nat.le_of_ble_eq_true rfl) (Nat.le_of_ble_eq_true rfl) hw (⟨by rw [fI_at ha (by simpa using c17) (by omega)], rfl, rfl⟩) dX3_firstOf_21
  exact L2 (_ + 1) (0) (Nat.lt_succ_self _) (Nat.zero_le _) (fun j hj => absurd hj (Nat.not_lt_zero j)) ls _ _ (lv_sub hl [0, 1, 2] rfl) hw

set_option maxHeartbeats 4000000 in
set_option maxRecDepth 100000 in
theorem c_X3_countOf {l : Launch} {D : va_G} {cI cJ cZ cH cR : ClassId} {b : Nat} {n : Nat} {M : Nat → va_E}  {G : Nat} {mo : Nat} {ta : Nat} {sc : Int32} {mv : Nat} {ow : Nat → Int32} {t : Int32} (hn : 3 ≤ n) (h1 : M 1 = .inr (3, [.int (nI G), .int (nI mo), .int (nI ta), .int sc, .int (nI mv), .ref (b + 2), .ref (b + 3), .ref (b + 4), .ref (b + 5)])) (h2 : M 2 = .inl (cI, 32, .inl ow))  (hG0 : 0 < G) (hG : G ≤ 32) : Met l yX3_countOf (kw yX3_countOf cX3_countOf 4 (some .int)) ({ frames := 0, cells := 0, slots := 0, locals := 0 }) (va_Pc [.ref (b + 1), .int t] (kPre D (kT cI cJ cZ cH cR) b M n)) (va_Qi (fun (r : Int32) (u : (Nat → va_E) × Nat) => r = (nI (cnt (fun g => ow g == t) G)) ∧ u.2 = n ∧ u.1 = M) (kB D (kT cI cJ cZ cH cR) b) (kA b)) 0 0 (kA b) := by
  refine k_metI (by decide +kernel) (Nat.le_of_ble_eq_true rfl) ?_
  intro p e s m below meth c ls Q C hw hret hnm hl
  have hl : lv_has ls 4 [(0, .ref (b + 1)), (1, .int t)] := hl
  refine lv_iconst (v := nI 0) C.1 C.2.1 dX3_countOf_0 (by decide) ?_
  refine lv_istore_n (lv' := [(2, .int (nI 0)), (0, .ref (b + 1)), (1, .int t)]) C.1 C.2.1 dX3_countOf_1 rfl hl (by decide) rfl (fun ls hl => ?_)
  refine lv_iconst (v := nI 0) C.1 C.2.1 dX3_countOf_2 (by decide) ?_
  refine lv_istore_n (lv' := [(3, .int (nI 0)), (2, .int (nI 0)), (0, .ref (b + 1)), (1, .int t)]) C.1 C.2.1 dX3_countOf_3 rfl hl (by decide) rfl (fun ls hl => ?_)
  have L4 : ∀ (N4 : Nat) (i : Nat) (a : Nat), (G - i < N4) → (i ≤ G) → (a = cnt (fun g => ow g == t) i) → ∀ (ls : Array Slot) (H : Heap) (locs : List Loc), lv_has ls 4 [(3, .int (nI i)), (2, .int (nI a)), (0, .ref (b + 1)), (1, .int t)] → kW D b M n s.heap H locs → W p l e ({ frames := 0, cells := 0, slots := 0, locals := 0 } : Room) s m ([.ref (b + 1), .int t] : List Value).toArray below meth c H locs 0 0 Q (F0 m 4 ls []) := by
    intro N4
    induction N4 with
    | zero => intro i a hm4 hi ha ls H locs hl hw; omega
    | succ N4 ih4 =>
      intro i a hm4 hi ha ls H locs hl hw
      refine lv_iload_n C.1 C.2.1 dX3_countOf_4 rfl (lv_at hl 0 rfl) ?_
      refine lv_aload_n C.1 C.2.1 dX3_countOf_5 rfl (lv_at hl 2 rfl) ?_
      refine k_get C hw 1 (by omega) h1 rfl inlX3 0 (by decide) q_53 rfl dX3_countOf_6 ?_
      refine lv_icmp_ge (tgt := 31) C.1 C.2.1 dX3_countOf_9 (by decide) (fun c9 => ?_) (fun c9 => ?_)
      · have q9 := (nI_leI (by omega) (by omega)).mp c9
        have q9 : i = G := by omega
        refine lv_iload_n C.1 C.2.1 dX3_countOf_31 rfl (lv_at hl 1 rfl) ?_
        exact hret _ _ (Nat.le_of_ble_eq_true rfl) (Nat.le_of_ble_eq_true rfl) hw (⟨by rw [ha, q9], rfl, rfl⟩) dX3_countOf_32
      · have q9 : ¬ G ≤ i := fun z => c9 ((nI_leI (by omega) (by omega)).mpr z)
        refine lv_aload_n C.1 C.2.1 dX3_countOf_12 rfl (lv_at hl 2 rfl) ?_
        refine k_get C hw 1 (by omega) h1 rfl inlX3 5 (by decide) q_39 rfl dX3_countOf_13 ?_
        refine lv_iload_n C.1 C.2.1 dX3_countOf_16 rfl (lv_at hl 0 rfl) ?_
        refine k_iald C hw 2 (by omega) h2 (by omega) (by first | decide | omega) dX3_countOf_17 ?_
        refine lv_iload_n C.1 C.2.1 dX3_countOf_18 rfl (lv_at hl 3 rfl) ?_
        refine lv_icmp_ne (tgt := 25) C.1 C.2.1 dX3_countOf_19 (by decide) (fun c19 => ?_) (fun c19 => ?_)
        · refine lv_iinc (v := (nI (i + 1))) (lv' := [(3, .int (nI (i + 1))), (2, .int (nI a)), (0, .ref (b + 1)), (1, .int t)]) C.1 C.2.1 dX3_countOf_25 hl (k := 0) rfl (k_inc _ 1) (by decide) rfl (fun ls hl => ?_)
          refine lv_goto (tgt := 4) C.1 C.2.1 dX3_countOf_28 (by decide) ?_
          exact ih4  (i + 1) (a) (by omega) (by omega) (by rw [ha, cnt_f (by simpa using c19)]) ls _ _ (lv_sub hl [0, 1, 2, 3] rfl) hw
        · refine lv_iinc (v := (nI (a + 1))) (lv' := [(2, .int (nI (a + 1))), (3, .int (nI i)), (0, .ref (b + 1)), (1, .int t)]) C.1 C.2.1 dX3_countOf_22 hl (k := 1) rfl (k_inc _ 1) (by decide) rfl (fun ls hl => ?_)
          refine lv_iinc (v := (nI (i + 1))) (lv' := [(3, .int (nI (i + 1))), (2, .int (nI (a + 1))), (0, .ref (b + 1)), (1, .int t)]) C.1 C.2.1 dX3_countOf_25 hl (k := 1) rfl (k_inc _ 1) (by decide) rfl (fun ls hl => ?_)
          refine lv_goto (tgt := 4) C.1 C.2.1 dX3_countOf_28 (by decide) ?_
          exact ih4  (i + 1) (a + 1) (by omega) (by omega) (by rw [ha, cnt_t (by simpa using c19)]) ls _ _ (lv_sub hl [0, 1, 2, 3] rfl) hw
  exact L4 (_ + 1) (0) (0) (Nat.lt_succ_self _) (Nat.zero_le _) (rfl) ls _ _ (lv_sub hl [0, 1, 2, 3] rfl) hw

set_option maxHeartbeats 4000000 in
set_option maxRecDepth 100000 in
theorem c_X3_weightOf {l : Launch} {D : va_G} {cI cJ cZ cH cR : ClassId} {b : Nat} {n : Nat} {M : Nat → va_E}  {G : Nat} {mo : Nat} {ta : Nat} {sc : Int32} {mv : Nat} {ow : Nat → Int32} {we : Nat → Int32} {t : Int32} (hn : 5 ≤ n) (h1 : M 1 = .inr (3, [.int (nI G), .int (nI mo), .int (nI ta), .int sc, .int (nI mv), .ref (b + 2), .ref (b + 3), .ref (b + 4), .ref (b + 5)])) (h2 : M 2 = .inl (cI, 32, .inl ow)) (h4 : M 4 = .inl (cI, 32, .inl we))  (hG0 : 0 < G) (hG : G ≤ 32) : Met l yX3_weightOf (kw yX3_weightOf cX3_weightOf 4 (some .int)) ({ frames := 0, cells := 0, slots := 0, locals := 0 }) (va_Pc [.ref (b + 1), .int t] (kPre D (kT cI cJ cZ cH cR) b M n)) (va_Qi (fun (r : Int32) (u : (Nat → va_E) × Nat) => r = (sm (fun g => if ow g = t then we g else 0) G) ∧ u.2 = n ∧ u.1 = M) (kB D (kT cI cJ cZ cH cR) b) (kA b)) 0 0 (kA b) := by
  refine k_metI (by decide +kernel) (Nat.le_of_ble_eq_true rfl) ?_
  intro p e s m below meth c ls Q C hw hret hnm hl
  have hl : lv_has ls 4 [(0, .ref (b + 1)), (1, .int t)] := hl
  refine lv_iconst (v := nI 0) C.1 C.2.1 dX3_weightOf_0 (by decide) ?_
  refine lv_istore_n (lv' := [(2, .int (nI 0)), (0, .ref (b + 1)), (1, .int t)]) C.1 C.2.1 dX3_weightOf_1 rfl hl (by decide) rfl (fun ls hl => ?_)
  refine lv_iconst (v := nI 0) C.1 C.2.1 dX3_weightOf_2 (by decide) ?_
  refine lv_istore_n (lv' := [(3, .int (nI 0)), (2, .int (nI 0)), (0, .ref (b + 1)), (1, .int t)]) C.1 C.2.1 dX3_weightOf_3 rfl hl (by decide) rfl (fun ls hl => ?_)
  have L4 : ∀ (N4 : Nat) (i : Nat) (a : Int32), (G - i < N4) → (i ≤ G) → (a = sm (fun g => if ow g = t then we g else 0) i) → ∀ (ls : Array Slot) (H : Heap) (locs : List Loc), lv_has ls 4 [(3, .int (nI i)), (2, .int a), (0, .ref (b + 1)), (1, .int t)] → kW D b M n s.heap H locs → W p l e ({ frames := 0, cells := 0, slots := 0, locals := 0 } : Room) s m ([.ref (b + 1), .int t] : List Value).toArray below meth c H locs 0 0 Q (F0 m 4 ls []) := by
    intro N4
    induction N4 with
    | zero => intro i a hm4 hi ha ls H locs hl hw; omega
    | succ N4 ih4 =>
      intro i a hm4 hi ha ls H locs hl hw
      refine lv_iload_n C.1 C.2.1 dX3_weightOf_4 rfl (lv_at hl 0 rfl) ?_
      refine lv_aload_n C.1 C.2.1 dX3_weightOf_5 rfl (lv_at hl 2 rfl) ?_
      refine k_get C hw 1 (by omega) h1 rfl inlX3 0 (by decide) q_53 rfl dX3_weightOf_6 ?_
      refine lv_icmp_ge (tgt := 37) C.1 C.2.1 dX3_weightOf_9 (by decide) (fun c9 => ?_) (fun c9 => ?_)
      · have q9 := (nI_leI (by omega) (by omega)).mp c9
        have q9 : i = G := by omega
        refine lv_iload_n C.1 C.2.1 dX3_weightOf_37 rfl (lv_at hl 1 rfl) ?_
        exact hret _ _ (Nat.le_of_ble_eq_true rfl) (Nat.le_of_ble_eq_true rfl) hw (⟨by rw [ha, q9], rfl, rfl⟩) dX3_weightOf_38
      · have q9 : ¬ G ≤ i := fun z => c9 ((nI_leI (by omega) (by omega)).mpr z)
        refine lv_aload_n C.1 C.2.1 dX3_weightOf_12 rfl (lv_at hl 2 rfl) ?_
        refine k_get C hw 1 (by omega) h1 rfl inlX3 5 (by decide) q_39 rfl dX3_weightOf_13 ?_
        refine lv_iload_n C.1 C.2.1 dX3_weightOf_16 rfl (lv_at hl 0 rfl) ?_
        refine k_iald C hw 2 (by omega) h2 (by omega) (by first | decide | omega) dX3_weightOf_17 ?_
        refine lv_iload_n C.1 C.2.1 dX3_weightOf_18 rfl (lv_at hl 3 rfl) ?_
        refine lv_icmp_ne (tgt := 31) C.1 C.2.1 dX3_weightOf_19 (by decide) (fun c19 => ?_) (fun c19 => ?_)
        · refine lv_iinc (v := (nI (i + 1))) (lv' := [(3, .int (nI (i + 1))), (2, .int a), (0, .ref (b + 1)), (1, .int t)]) C.1 C.2.1 dX3_weightOf_31 hl (k := 0) rfl (k_inc _ 1) (by decide) rfl (fun ls hl => ?_)
          refine lv_goto (tgt := 4) C.1 C.2.1 dX3_weightOf_34 (by decide) ?_
          exact ih4  (i + 1) (a) (by omega) (by omega) (by rw [ha, sm_s]; simp [c19]) ls _ _ (lv_sub hl [0, 1, 2, 3] rfl) hw
        · refine lv_iload_n C.1 C.2.1 dX3_weightOf_22 rfl (lv_at hl 1 rfl) ?_
          refine lv_aload_n C.1 C.2.1 dX3_weightOf_23 rfl (lv_at hl 2 rfl) ?_
          refine k_get C hw 1 (by omega) h1 rfl inlX3 7 (by decide) q_41 rfl dX3_weightOf_24 ?_
          refine lv_iload_n C.1 C.2.1 dX3_weightOf_27 rfl (lv_at hl 0 rfl) ?_
          refine k_iald C hw 4 (by omega) h4 (by omega) (by first | decide | omega) dX3_weightOf_28 ?_
          refine lv_iadd C.1 C.2.1 dX3_weightOf_29 ?_
          refine lv_topi (fun a2 ea2 => ?_)
          refine lv_istore_n (lv' := [(2, .int a2), (3, .int (nI i)), (0, .ref (b + 1)), (1, .int t)]) C.1 C.2.1 dX3_weightOf_30 rfl hl (by decide) rfl (fun ls hl => ?_)
          refine lv_iinc (v := (nI (i + 1))) (lv' := [(3, .int (nI (i + 1))), (2, .int a2), (0, .ref (b + 1)), (1, .int t)]) C.1 C.2.1 dX3_weightOf_31 hl (k := 1) rfl (k_inc _ 1) (by decide) rfl (fun ls hl => ?_)
          refine lv_goto (tgt := 4) C.1 C.2.1 dX3_weightOf_34 (by decide) ?_
          exact ih4  (i + 1) (a2) (by omega) (by omega) (by rw [ea2, ha, sm_s]; simp [c19]) ls _ _ (lv_sub hl [0, 1, 2, 3] rfl) hw
  exact L4 (_ + 1) (0) (nI 0) (Nat.lt_succ_self _) (Nat.zero_le _) (rfl) ls _ _ (lv_sub hl [0, 1, 2, 3] rfl) hw

set_option maxHeartbeats 4000000 in
set_option maxRecDepth 100000 in
theorem c_X3_isHot {l : Launch} {D : va_G} {cI cJ cZ cH cR : ClassId} {b : Nat} {n : Nat} {M : Nat → va_E}  {G : Nat} {mo : Nat} {ta : Nat} {sc : Int32} {mv : Nat} {we : Nat → Int32} {g : Nat} {t : Int32} (hn : 5 ≤ n) (h1 : M 1 = .inr (3, [.int (nI G), .int (nI mo), .int (nI ta), .int sc, .int (nI mv), .ref (b + 2), .ref (b + 3), .ref (b + 4), .ref (b + 5)])) (h4 : M 4 = .inl (cI, 32, .inl we))  (hG0 : 0 < G) (hG : G ≤ 32) (hg : g < G) : Met l yX3_isHot (kw yX3_isHot cX3_isHot 3 (some .boolean)) ({ frames := 0, cells := 0, slots := 0, locals := 0 }) (va_Pc [.ref (b + 1), .int (nI g), .int t] (kPre D (kT cI cJ cZ cH cR) b M n)) (va_Qi (fun (r : Int32) (u : (Nat → va_E) × Nat) => r = (if we g * nI G ≤ nI 2 * t then 0 else 1) ∧ u.2 = n ∧ u.1 = M) (kB D (kT cI cJ cZ cH cR) b) (kA b)) 0 0 (kA b) := by
  refine k_metZ (by decide +kernel) (Nat.le_of_ble_eq_true rfl) ?_
  intro p e s m below meth c ls Q C hw hret hnm hl
  have hl : lv_has ls 3 [(0, .ref (b + 1)), (1, .int (nI g)), (2, .int t)] := hl
  refine lv_aload_n C.1 C.2.1 dX3_isHot_0 rfl (lv_at hl 0 rfl) ?_
  refine k_get C hw 1 (by omega) h1 rfl inlX3 7 (by decide) q_41 rfl dX3_isHot_1 ?_
  refine lv_iload_n C.1 C.2.1 dX3_isHot_4 rfl (lv_at hl 1 rfl) ?_
  refine k_iald C hw 4 (by omega) h4 (by omega) (by first | decide | omega) dX3_isHot_5 ?_
  refine lv_aload_n C.1 C.2.1 dX3_isHot_6 rfl (lv_at hl 0 rfl) ?_
  refine k_get C hw 1 (by omega) h1 rfl inlX3 0 (by decide) q_53 rfl dX3_isHot_7 ?_
  refine lv_imul C.1 C.2.1 dX3_isHot_10 ?_
  refine lv_iconst (v := nI 2) C.1 C.2.1 dX3_isHot_11 (by decide) ?_
  refine lv_iload_n C.1 C.2.1 dX3_isHot_12 rfl (lv_at hl 2 rfl) ?_
  refine lv_imul C.1 C.2.1 dX3_isHot_13 ?_
  refine lv_icmp_le (tgt := 21) C.1 C.2.1 dX3_isHot_14 (by decide) (fun c14 => ?_) (fun c14 => ?_)
  · refine lv_iconst (v := nI 0) C.1 C.2.1 dX3_isHot_21 (by decide) ?_
    exact hret _ _ (Nat.le_of_ble_eq_true rfl) (Nat.le_of_ble_eq_true rfl) hw (by first | exact Or.inl rfl | exact Or.inr rfl) (⟨by rw [if_pos c14]; rfl, rfl, rfl⟩) dX3_isHot_22
  · refine lv_iconst (v := nI 1) C.1 C.2.1 dX3_isHot_17 (by decide) ?_
    refine lv_goto (tgt := 22) C.1 C.2.1 dX3_isHot_18 (by decide) ?_
    exact hret _ _ (Nat.le_of_ble_eq_true rfl) (Nat.le_of_ble_eq_true rfl) hw (by first | exact Or.inl rfl | exact Or.inr rfl) (⟨by rw [if_neg c14]; rfl, rfl, rfl⟩) dX3_isHot_22

set_option maxHeartbeats 4000000 in
set_option maxRecDepth 100000 in
theorem c_X3_costToGive {l : Launch} {D : va_G} {cI cJ cZ cH cR : ClassId} {b : Nat} {n : Nat} {M : Nat → va_E}  {G : Nat} {mo : Nat} {ta : Nat} {sc : Int32} {mv : Nat} {ow : Nat → Int32} {we : Nat → Int32} {g : Nat} {t : Int32} (hn : 5 ≤ n) (h1 : M 1 = .inr (3, [.int (nI G), .int (nI mo), .int (nI ta), .int sc, .int (nI mv), .ref (b + 2), .ref (b + 3), .ref (b + 4), .ref (b + 5)])) (h2 : M 2 = .inl (cI, 32, .inl ow)) (h4 : M 4 = .inl (cI, 32, .inl we))  (hG0 : 0 < G) (hG : G ≤ 32) (hg : g < G) : Met l yX3_costToGive (kw yX3_costToGive cX3_costToGive 3 (some .int)) ({ frames := 0, cells := 0, slots := 0, locals := 0 }) (va_Pc [.ref (b + 1), .int (nI g), .int t] (kPre D (kT cI cJ cZ cH cR) b M n)) (va_Qi (fun (r : Int32) (u : (Nat → va_E) × Nat) => r = (if ow g = t then 0 else we g + nI 1) ∧ u.2 = n ∧ u.1 = M) (kB D (kT cI cJ cZ cH cR) b) (kA b)) 0 0 (kA b) := by
  refine k_metI (by decide +kernel) (Nat.le_of_ble_eq_true rfl) ?_
  intro p e s m below meth c ls Q C hw hret hnm hl
  have hl : lv_has ls 3 [(0, .ref (b + 1)), (1, .int (nI g)), (2, .int t)] := hl
  refine lv_aload_n C.1 C.2.1 dX3_costToGive_0 rfl (lv_at hl 0 rfl) ?_
  refine k_get C hw 1 (by omega) h1 rfl inlX3 5 (by decide) q_39 rfl dX3_costToGive_1 ?_
  refine lv_iload_n C.1 C.2.1 dX3_costToGive_4 rfl (lv_at hl 1 rfl) ?_
  refine k_iald C hw 2 (by omega) h2 (by omega) (by first | decide | omega) dX3_costToGive_5 ?_
  refine lv_iload_n C.1 C.2.1 dX3_costToGive_6 rfl (lv_at hl 2 rfl) ?_
  refine lv_icmp_ne (tgt := 14) C.1 C.2.1 dX3_costToGive_7 (by decide) (fun c7 => ?_) (fun c7 => ?_)
  · refine lv_aload_n C.1 C.2.1 dX3_costToGive_14 rfl (lv_at hl 0 rfl) ?_
    refine k_get C hw 1 (by omega) h1 rfl inlX3 7 (by decide) q_41 rfl dX3_costToGive_15 ?_
    refine lv_iload_n C.1 C.2.1 dX3_costToGive_18 rfl (lv_at hl 1 rfl) ?_
    refine k_iald C hw 4 (by omega) h4 (by omega) (by first | decide | omega) dX3_costToGive_19 ?_
    refine lv_iconst (v := nI 1) C.1 C.2.1 dX3_costToGive_20 (by decide) ?_
    refine lv_iadd C.1 C.2.1 dX3_costToGive_21 ?_
    exact hret _ _ (Nat.le_of_ble_eq_true rfl) (Nat.le_of_ble_eq_true rfl) hw (⟨by rw [if_neg c7], rfl, rfl⟩) dX3_costToGive_22
  · refine lv_iconst (v := nI 0) C.1 C.2.1 dX3_costToGive_10 (by decide) ?_
    refine lv_goto (tgt := 22) C.1 C.2.1 dX3_costToGive_11 (by decide) ?_
    exact hret _ _ (Nat.le_of_ble_eq_true rfl) (Nat.le_of_ble_eq_true rfl) hw (⟨by rw [if_pos c7]; rfl, rfl, rfl⟩) dX3_costToGive_22

set_option maxHeartbeats 4000000 in
set_option maxRecDepth 100000 in
theorem c_X3_aheadOf {l : Launch} {D : va_G} {cI cJ cZ cH cR : ClassId} {b : Nat} {n : Nat} {M : Nat → va_E}  {G : Nat} {mo : Nat} {ta : Nat} {sc : Int32} {mv : Nat} {we : Nat → Int32} {g : Nat} (hn : 5 ≤ n) (h1 : M 1 = .inr (3, [.int (nI G), .int (nI mo), .int (nI ta), .int sc, .int (nI mv), .ref (b + 2), .ref (b + 3), .ref (b + 4), .ref (b + 5)])) (h4 : M 4 = .inl (cI, 32, .inl we))  (hG0 : 0 < G) (hG : G ≤ 32) (hg : g < G) : Met l yX3_aheadOf (kw yX3_aheadOf cX3_aheadOf 6 (some .int)) ({ frames := 0, cells := 0, slots := 0, locals := 0 }) (va_Pc [.ref (b + 1), .int (nI g)] (kPre D (kT cI cJ cZ cH cR) b M n)) (va_Qi (fun (r : Int32) (u : (Nat → va_E) × Nat) => r = (nI (cnt (fun o => decide (we g < we o) || (we o == we g && decide (o < g))) G)) ∧ u.2 = n ∧ u.1 = M) (kB D (kT cI cJ cZ cH cR) b) (kA b)) 0 0 (kA b) := by
  refine k_metI (by decide +kernel) (Nat.le_of_ble_eq_true rfl) ?_
  intro p e s m below meth c ls Q C hw hret hnm hl
  have hl : lv_has ls 6 [(0, .ref (b + 1)), (1, .int (nI g))] := hl
  refine lv_iconst (v := nI 0) C.1 C.2.1 dX3_aheadOf_0 (by decide) ?_
  refine lv_istore_n (lv' := [(2, .int (nI 0)), (0, .ref (b + 1)), (1, .int (nI g))]) C.1 C.2.1 dX3_aheadOf_1 rfl hl (by decide) rfl (fun ls hl => ?_)
  refine lv_iconst (v := nI 0) C.1 C.2.1 dX3_aheadOf_2 (by decide) ?_
  refine lv_istore_n (lv' := [(3, .int (nI 0)), (2, .int (nI 0)), (0, .ref (b + 1)), (1, .int (nI g))]) C.1 C.2.1 dX3_aheadOf_3 rfl hl (by decide) rfl (fun ls hl => ?_)
  have L4 : ∀ (N4 : Nat) (i : Nat) (a : Nat), (G - i < N4) → (i ≤ G) → (a = cnt (fun o => decide (we g < we o) || (we o == we g && decide (o < g))) i) → ∀ (ls : Array Slot) (H : Heap) (locs : List Loc), lv_has ls 6 [(3, .int (nI i)), (2, .int (nI a)), (0, .ref (b + 1)), (1, .int (nI g))] → kW D b M n s.heap H locs → W p l e ({ frames := 0, cells := 0, slots := 0, locals := 0 } : Room) s m ([.ref (b + 1), .int (nI g)] : List Value).toArray below meth c H locs 0 0 Q (F0 m 4 ls []) := by
    intro N4
    induction N4 with
    | zero => intro i a hm4 hi ha ls H locs hl hw; omega
    | succ N4 ih4 =>
      intro i a hm4 hi ha ls H locs hl hw
      refine lv_iload_n C.1 C.2.1 dX3_aheadOf_4 rfl (lv_at hl 0 rfl) ?_
      refine lv_aload_n C.1 C.2.1 dX3_aheadOf_5 rfl (lv_at hl 2 rfl) ?_
      refine k_get C hw 1 (by omega) h1 rfl inlX3 0 (by decide) q_53 rfl dX3_aheadOf_6 ?_
      refine lv_icmp_ge (tgt := 80) C.1 C.2.1 dX3_aheadOf_9 (by decide) (fun c9 => ?_) (fun c9 => ?_)
      · have q9 := (nI_leI (by omega) (by omega)).mp c9
        have q9 : i = G := by omega
        refine lv_iload_n C.1 C.2.1 dX3_aheadOf_80 rfl (lv_at hl 1 rfl) ?_
        exact hret _ _ (Nat.le_of_ble_eq_true rfl) (Nat.le_of_ble_eq_true rfl) hw (⟨by rw [ha, q9], rfl, rfl⟩) dX3_aheadOf_81
      · have q9 : ¬ G ≤ i := fun z => c9 ((nI_leI (by omega) (by omega)).mpr z)
        refine lv_aload_n C.1 C.2.1 dX3_aheadOf_12 rfl (lv_at hl 2 rfl) ?_
        refine k_get C hw 1 (by omega) h1 rfl inlX3 7 (by decide) q_41 rfl dX3_aheadOf_13 ?_
        refine lv_iload_n C.1 C.2.1 dX3_aheadOf_16 rfl (lv_at hl 0 rfl) ?_
        refine k_iald C hw 4 (by omega) h4 (by omega) (by first | decide | omega) dX3_aheadOf_17 ?_
        refine lv_aload_n C.1 C.2.1 dX3_aheadOf_18 rfl (lv_at hl 2 rfl) ?_
        refine k_get C hw 1 (by omega) h1 rfl inlX3 7 (by decide) q_41 rfl dX3_aheadOf_19 ?_
        refine lv_iload_n C.1 C.2.1 dX3_aheadOf_22 rfl (lv_at hl 3 rfl) ?_
        refine k_iald C hw 4 (by omega) h4 (by omega) (by first | decide | omega) dX3_aheadOf_23 ?_
        refine lv_icmp_le (tgt := 31) C.1 C.2.1 dX3_aheadOf_24 (by decide) (fun c24 => ?_) (fun c24 => ?_)
        · refine lv_iconst (v := nI 0) C.1 C.2.1 dX3_aheadOf_31 (by decide) ?_
          refine lv_istore (lv' := [(4, .int (nI 0)), (3, .int (nI i)), (2, .int (nI a)), (0, .ref (b + 1)), (1, .int (nI g))]) C.1 C.2.1 dX3_aheadOf_32 hl (by decide) rfl (fun ls hl => ?_)
          refine lv_aload_n C.1 C.2.1 dX3_aheadOf_34 rfl (lv_at hl 3 rfl) ?_
          refine k_get C hw 1 (by omega) h1 rfl inlX3 7 (by decide) q_41 rfl dX3_aheadOf_35 ?_
          refine lv_iload_n C.1 C.2.1 dX3_aheadOf_38 rfl (lv_at hl 1 rfl) ?_
          refine k_iald C hw 4 (by omega) h4 (by omega) (by first | decide | omega) dX3_aheadOf_39 ?_
          refine lv_aload_n C.1 C.2.1 dX3_aheadOf_40 rfl (lv_at hl 3 rfl) ?_
          refine k_get C hw 1 (by omega) h1 rfl inlX3 7 (by decide) q_41 rfl dX3_aheadOf_41 ?_
          refine lv_iload_n C.1 C.2.1 dX3_aheadOf_44 rfl (lv_at hl 4 rfl) ?_
          refine k_iald C hw 4 (by omega) h4 (by omega) (by first | decide | omega) dX3_aheadOf_45 ?_
          refine lv_icmp_ne (tgt := 58) C.1 C.2.1 dX3_aheadOf_46 (by decide) (fun c46 => ?_) (fun c46 => ?_)
          · refine lv_iconst (v := nI 0) C.1 C.2.1 dX3_aheadOf_58 (by decide) ?_
            refine lv_istore (lv' := [(5, .int (nI 0)), (4, .int (nI 0)), (3, .int (nI i)), (2, .int (nI a)), (0, .ref (b + 1)), (1, .int (nI g))]) C.1 C.2.1 dX3_aheadOf_59 hl (by decide) rfl (fun ls hl => ?_)
            refine lv_iload C.1 C.2.1 dX3_aheadOf_61 (lv_at hl 1 rfl) ?_
            refine lv_if_ne (tgt := 71) C.1 C.2.1 dX3_aheadOf_63 (by decide) (fun c63 => ?_) (fun c63 => ?_)
            · exact absurd rfl c63
            · refine lv_iload C.1 C.2.1 dX3_aheadOf_66 (lv_at hl 0 rfl) ?_
              refine lv_if_eq (tgt := 74) C.1 C.2.1 dX3_aheadOf_68 (by decide) (fun c68 => ?_) (fun c68 => ?_)
              · refine lv_iinc (v := (nI (i + 1))) (lv' := [(3, .int (nI (i + 1))), (5, .int (nI 0)), (4, .int (nI 0)), (2, .int (nI a)), (0, .ref (b + 1)), (1, .int (nI g))]) C.1 C.2.1 dX3_aheadOf_74 hl (k := 2) rfl (k_inc _ 1) (by decide) rfl (fun ls hl => ?_)
                refine lv_goto (tgt := 4) C.1 C.2.1 dX3_aheadOf_77 (by decide) ?_
                exact ih4  (i + 1) (a) (by omega) (by omega) (by rw [ha, cnt_f (by have h9 : ¬ we g < we i := Int32.not_lt.mpr c24; simp [h9, c46])]) ls _ _ (lv_sub hl [0, 3, 4, 5] rfl) hw
              · exact absurd rfl c68
          · refine lv_iload_n C.1 C.2.1 dX3_aheadOf_49 rfl (lv_at hl 1 rfl) ?_
            refine lv_iload_n C.1 C.2.1 dX3_aheadOf_50 rfl (lv_at hl 4 rfl) ?_
            refine lv_icmp_ge (tgt := 58) C.1 C.2.1 dX3_aheadOf_51 (by decide) (fun c51 => ?_) (fun c51 => ?_)
            · refine lv_iconst (v := nI 0) C.1 C.2.1 dX3_aheadOf_58 (by decide) ?_
              refine lv_istore (lv' := [(5, .int (nI 0)), (4, .int (nI 0)), (3, .int (nI i)), (2, .int (nI a)), (0, .ref (b + 1)), (1, .int (nI g))]) C.1 C.2.1 dX3_aheadOf_59 hl (by decide) rfl (fun ls hl => ?_)
              refine lv_iload C.1 C.2.1 dX3_aheadOf_61 (lv_at hl 1 rfl) ?_
              refine lv_if_ne (tgt := 71) C.1 C.2.1 dX3_aheadOf_63 (by decide) (fun c63 => ?_) (fun c63 => ?_)
              · exact absurd rfl c63
              · refine lv_iload C.1 C.2.1 dX3_aheadOf_66 (lv_at hl 0 rfl) ?_
                refine lv_if_eq (tgt := 74) C.1 C.2.1 dX3_aheadOf_68 (by decide) (fun c68 => ?_) (fun c68 => ?_)
                · refine lv_iinc (v := (nI (i + 1))) (lv' := [(3, .int (nI (i + 1))), (5, .int (nI 0)), (4, .int (nI 0)), (2, .int (nI a)), (0, .ref (b + 1)), (1, .int (nI g))]) C.1 C.2.1 dX3_aheadOf_74 hl (k := 2) rfl (k_inc _ 1) (by decide) rfl (fun ls hl => ?_)
                  refine lv_goto (tgt := 4) C.1 C.2.1 dX3_aheadOf_77 (by decide) ?_
                  exact ih4  (i + 1) (a) (by omega) (by omega) (by rw [ha, cnt_f (by have h9 : ¬ we g < we i := Int32.not_lt.mpr c24; have h8 : ¬ i < g := fun z => absurd ((nI_leI (by omega) (by omega)).mp c51) (by omega); simp [h9, h8])]) ls _ _ (lv_sub hl [0, 3, 4, 5] rfl) hw
                · exact absurd rfl c68
            · refine lv_iconst (v := nI 1) C.1 C.2.1 dX3_aheadOf_54 (by decide) ?_
              refine lv_goto (tgt := 59) C.1 C.2.1 dX3_aheadOf_55 (by decide) ?_
              refine lv_istore (lv' := [(5, .int (nI 1)), (4, .int (nI 0)), (3, .int (nI i)), (2, .int (nI a)), (0, .ref (b + 1)), (1, .int (nI g))]) C.1 C.2.1 dX3_aheadOf_59 hl (by decide) rfl (fun ls hl => ?_)
              refine lv_iload C.1 C.2.1 dX3_aheadOf_61 (lv_at hl 1 rfl) ?_
              refine lv_if_ne (tgt := 71) C.1 C.2.1 dX3_aheadOf_63 (by decide) (fun c63 => ?_) (fun c63 => ?_)
              · exact absurd rfl c63
              · refine lv_iload C.1 C.2.1 dX3_aheadOf_66 (lv_at hl 0 rfl) ?_
                refine lv_if_eq (tgt := 74) C.1 C.2.1 dX3_aheadOf_68 (by decide) (fun c68 => ?_) (fun c68 => ?_)
                · exact absurd c68 (by decide)
                · refine lv_iinc (v := (nI (a + 1))) (lv' := [(2, .int (nI (a + 1))), (5, .int (nI 1)), (4, .int (nI 0)), (3, .int (nI i)), (0, .ref (b + 1)), (1, .int (nI g))]) C.1 C.2.1 dX3_aheadOf_71 hl (k := 3) rfl (k_inc _ 1) (by decide) rfl (fun ls hl => ?_)
                  refine lv_iinc (v := (nI (i + 1))) (lv' := [(3, .int (nI (i + 1))), (2, .int (nI (a + 1))), (5, .int (nI 1)), (4, .int (nI 0)), (0, .ref (b + 1)), (1, .int (nI g))]) C.1 C.2.1 dX3_aheadOf_74 hl (k := 3) rfl (k_inc _ 1) (by decide) rfl (fun ls hl => ?_)
                  refine lv_goto (tgt := 4) C.1 C.2.1 dX3_aheadOf_77 (by decide) ?_
                  exact ih4  (i + 1) (a + 1) (by omega) (by omega) (by rw [ha, cnt_t (by have h7 : we i = we g := c46; have h8 : i < g := Nat.not_le.mp (fun z => c51 ((nI_leI (by omega) (by omega)).mpr z)); simp [h7, h8])]) ls _ _ (lv_sub hl [0, 1, 4, 5] rfl) hw
        · refine lv_iconst (v := nI 1) C.1 C.2.1 dX3_aheadOf_27 (by decide) ?_
          refine lv_goto (tgt := 32) C.1 C.2.1 dX3_aheadOf_28 (by decide) ?_
          refine lv_istore (lv' := [(4, .int (nI 1)), (3, .int (nI i)), (2, .int (nI a)), (0, .ref (b + 1)), (1, .int (nI g))]) C.1 C.2.1 dX3_aheadOf_32 hl (by decide) rfl (fun ls hl => ?_)
          refine lv_aload_n C.1 C.2.1 dX3_aheadOf_34 rfl (lv_at hl 3 rfl) ?_
          refine k_get C hw 1 (by omega) h1 rfl inlX3 7 (by decide) q_41 rfl dX3_aheadOf_35 ?_
          refine lv_iload_n C.1 C.2.1 dX3_aheadOf_38 rfl (lv_at hl 1 rfl) ?_
          refine k_iald C hw 4 (by omega) h4 (by omega) (by first | decide | omega) dX3_aheadOf_39 ?_
          refine lv_aload_n C.1 C.2.1 dX3_aheadOf_40 rfl (lv_at hl 3 rfl) ?_
          refine k_get C hw 1 (by omega) h1 rfl inlX3 7 (by decide) q_41 rfl dX3_aheadOf_41 ?_
          refine lv_iload_n C.1 C.2.1 dX3_aheadOf_44 rfl (lv_at hl 4 rfl) ?_
          refine k_iald C hw 4 (by omega) h4 (by omega) (by first | decide | omega) dX3_aheadOf_45 ?_
          refine lv_icmp_ne (tgt := 58) C.1 C.2.1 dX3_aheadOf_46 (by decide) (fun c46 => ?_) (fun c46 => ?_)
          · refine lv_iconst (v := nI 0) C.1 C.2.1 dX3_aheadOf_58 (by decide) ?_
            refine lv_istore (lv' := [(5, .int (nI 0)), (4, .int (nI 1)), (3, .int (nI i)), (2, .int (nI a)), (0, .ref (b + 1)), (1, .int (nI g))]) C.1 C.2.1 dX3_aheadOf_59 hl (by decide) rfl (fun ls hl => ?_)
            refine lv_iload C.1 C.2.1 dX3_aheadOf_61 (lv_at hl 1 rfl) ?_
            refine lv_if_ne (tgt := 71) C.1 C.2.1 dX3_aheadOf_63 (by decide) (fun c63 => ?_) (fun c63 => ?_)
            · refine lv_iinc (v := (nI (a + 1))) (lv' := [(2, .int (nI (a + 1))), (5, .int (nI 0)), (4, .int (nI 1)), (3, .int (nI i)), (0, .ref (b + 1)), (1, .int (nI g))]) C.1 C.2.1 dX3_aheadOf_71 hl (k := 3) rfl (k_inc _ 1) (by decide) rfl (fun ls hl => ?_)
              refine lv_iinc (v := (nI (i + 1))) (lv' := [(3, .int (nI (i + 1))), (2, .int (nI (a + 1))), (5, .int (nI 0)), (4, .int (nI 1)), (0, .ref (b + 1)), (1, .int (nI g))]) C.1 C.2.1 dX3_aheadOf_74 hl (k := 3) rfl (k_inc _ 1) (by decide) rfl (fun ls hl => ?_)
              refine lv_goto (tgt := 4) C.1 C.2.1 dX3_aheadOf_77 (by decide) ?_
              exact ih4  (i + 1) (a + 1) (by omega) (by omega) (by rw [ha, cnt_t (by have h9 : we g < we i := Int32.not_le.mp c24; simp [h9])]) ls _ _ (lv_sub hl [0, 1, 4, 5] rfl) hw
            · exact absurd c63 (by decide)
          · refine lv_iload_n C.1 C.2.1 dX3_aheadOf_49 rfl (lv_at hl 1 rfl) ?_
            refine lv_iload_n C.1 C.2.1 dX3_aheadOf_50 rfl (lv_at hl 4 rfl) ?_
            refine lv_icmp_ge (tgt := 58) C.1 C.2.1 dX3_aheadOf_51 (by decide) (fun c51 => ?_) (fun c51 => ?_)
            · refine lv_iconst (v := nI 0) C.1 C.2.1 dX3_aheadOf_58 (by decide) ?_
              refine lv_istore (lv' := [(5, .int (nI 0)), (4, .int (nI 1)), (3, .int (nI i)), (2, .int (nI a)), (0, .ref (b + 1)), (1, .int (nI g))]) C.1 C.2.1 dX3_aheadOf_59 hl (by decide) rfl (fun ls hl => ?_)
              refine lv_iload C.1 C.2.1 dX3_aheadOf_61 (lv_at hl 1 rfl) ?_
              refine lv_if_ne (tgt := 71) C.1 C.2.1 dX3_aheadOf_63 (by decide) (fun c63 => ?_) (fun c63 => ?_)
              · refine lv_iinc (v := (nI (a + 1))) (lv' := [(2, .int (nI (a + 1))), (5, .int (nI 0)), (4, .int (nI 1)), (3, .int (nI i)), (0, .ref (b + 1)), (1, .int (nI g))]) C.1 C.2.1 dX3_aheadOf_71 hl (k := 3) rfl (k_inc _ 1) (by decide) rfl (fun ls hl => ?_)
                refine lv_iinc (v := (nI (i + 1))) (lv' := [(3, .int (nI (i + 1))), (2, .int (nI (a + 1))), (5, .int (nI 0)), (4, .int (nI 1)), (0, .ref (b + 1)), (1, .int (nI g))]) C.1 C.2.1 dX3_aheadOf_74 hl (k := 3) rfl (k_inc _ 1) (by decide) rfl (fun ls hl => ?_)
                refine lv_goto (tgt := 4) C.1 C.2.1 dX3_aheadOf_77 (by decide) ?_
                exact ih4  (i + 1) (a + 1) (by omega) (by omega) (by rw [ha, cnt_t (by have h9 : we g < we i := Int32.not_le.mp c24; simp [h9])]) ls _ _ (lv_sub hl [0, 1, 4, 5] rfl) hw
              · exact absurd c63 (by decide)
            · refine lv_iconst (v := nI 1) C.1 C.2.1 dX3_aheadOf_54 (by decide) ?_
              refine lv_goto (tgt := 59) C.1 C.2.1 dX3_aheadOf_55 (by decide) ?_
              refine lv_istore (lv' := [(5, .int (nI 1)), (4, .int (nI 1)), (3, .int (nI i)), (2, .int (nI a)), (0, .ref (b + 1)), (1, .int (nI g))]) C.1 C.2.1 dX3_aheadOf_59 hl (by decide) rfl (fun ls hl => ?_)
              refine lv_iload C.1 C.2.1 dX3_aheadOf_61 (lv_at hl 1 rfl) ?_
              refine lv_if_ne (tgt := 71) C.1 C.2.1 dX3_aheadOf_63 (by decide) (fun c63 => ?_) (fun c63 => ?_)
              · refine lv_iinc (v := (nI (a + 1))) (lv' := [(2, .int (nI (a + 1))), (5, .int (nI 1)), (4, .int (nI 1)), (3, .int (nI i)), (0, .ref (b + 1)), (1, .int (nI g))]) C.1 C.2.1 dX3_aheadOf_71 hl (k := 3) rfl (k_inc _ 1) (by decide) rfl (fun ls hl => ?_)
                refine lv_iinc (v := (nI (i + 1))) (lv' := [(3, .int (nI (i + 1))), (2, .int (nI (a + 1))), (5, .int (nI 1)), (4, .int (nI 1)), (0, .ref (b + 1)), (1, .int (nI g))]) C.1 C.2.1 dX3_aheadOf_74 hl (k := 3) rfl (k_inc _ 1) (by decide) rfl (fun ls hl => ?_)
                refine lv_goto (tgt := 4) C.1 C.2.1 dX3_aheadOf_77 (by decide) ?_
                exact ih4  (i + 1) (a + 1) (by omega) (by omega) (by rw [ha, cnt_t (by have h9 : we g < we i := Int32.not_le.mp c24; simp [h9])]) ls _ _ (lv_sub hl [0, 1, 4, 5] rfl) hw
              · exact absurd c63 (by decide)
  exact L4 (_ + 1) (0) (0) (Nat.lt_succ_self _) (Nat.zero_le _) (rfl) ls _ _ (lv_sub hl [0, 1, 2, 3] rfl) hw

set_option maxHeartbeats 4000000 in
set_option maxRecDepth 100000 in
theorem c_X3_giveAllToOne {l : Launch} {D : va_G} {cI cJ cZ cH cR : ClassId} {b : Nat} {n : Nat} {M : Nat → va_E}  {G : Nat} {mo : Nat} {ta : Nat} {sc : Int32} {mv : Nat} {ow : Nat → Int32} {ep : Nat → Int32} {we : Nat → Int32} {g1 m1 : Nat} (hn : 5 ≤ n) (h1 : M 1 = .inr (3, [.int (nI G), .int (nI mo), .int (nI ta), .int sc, .int (nI mv), .ref (b + 2), .ref (b + 3), .ref (b + 4), .ref (b + 5)])) (h2 : M 2 = .inl (cI, 32, .inl ow)) (h3 : M 3 = .inl (cI, 32, .inl ep)) (h4 : M 4 = .inl (cI, 32, .inl we))   : Met l yX3_giveAllToOne (kw yX3_giveAllToOne cX3_giveAllToOne 3 none) ({ frames := 1, cells := 0, slots := 0, locals := 23 }) (va_Pc [.ref (b + 1), .int (nI g1), .int (nI m1)] (kPre D (kT cI cJ cZ cH cR) b M n)) (va_Qv (fun (u : (Nat → va_E) × Nat) => u.2 = n ∧ kF [1, 2, 3, 4] M u.1 ∧ u.1 1 = .inr (3, [.int (nI g1), .int (nI m1), .int (nI 1), .int sc, .int (nI mv), .ref (b + 2), .ref (b + 3), .ref (b + 4), .ref (b + 5)]) ∧ u.1 2 = .inl (cI, 32, .inl (fun _ => 0)) ∧ u.1 3 = .inl (cI, 32, .inl (fun _ => 1)) ∧ u.1 4 = .inl (cI, 32, .inl (fun _ => 0))) (kB D (kT cI cJ cZ cH cR) b) (kA b)) 0 0 (kA b) := by
  refine k_metV (by decide +kernel) (Nat.le_of_ble_eq_true rfl) ?_
  intro p e s m below meth c ls Q C hw hret hnm hl
  have hl : lv_has ls 3 [(0, .ref (b + 1)), (1, .int (nI g1)), (2, .int (nI m1))] := hl
  have hFF : kF [1, 2, 3, 4] M M := kF_rf
  refine lv_aload_n C.1 C.2.1 dX3_giveAllToOne_0 rfl (lv_at hl 0 rfl) ?_
  refine lv_iload_n C.1 C.2.1 dX3_giveAllToOne_1 rfl (lv_at hl 1 rfl) ?_
  refine k_put (tf := .int) C hw 1 (by omega) h1 rfl inlX3 tyX3 tyX3_ok nmX3 0 (by decide) q_53 rfl (by decide +kernel) rfl rfl (Nat.le_of_ble_eq_true rfl) dX3_giveAllToOne_2 (fun M_1 H locs hw h1 hF => ?_)
  have h1 : M_1 1 = .inr (3, [.int (nI g1), .int (nI mo), .int (nI ta), .int sc, .int (nI mv), .ref (b + 2), .ref (b + 3), .ref (b + 4), .ref (b + 5)]) := h1
  have h2 := (hF 2 (by decide)).trans h2
  have h3 := (hF 3 (by decide)).trans h3
  have h4 := (hF 4 (by decide)).trans h4
  have hFF := kF_st hFF hF (by first | decide | simp)
  refine lv_aload_n C.1 C.2.1 dX3_giveAllToOne_5 rfl (lv_at hl 0 rfl) ?_
  refine lv_iload_n C.1 C.2.1 dX3_giveAllToOne_6 rfl (lv_at hl 2 rfl) ?_
  refine k_put (tf := .int) C hw 1 (by omega) h1 rfl inlX3 tyX3 tyX3_ok nmX3 1 (by decide) q_54 rfl (by decide +kernel) rfl rfl (Nat.le_of_ble_eq_true rfl) dX3_giveAllToOne_7 (fun M_2 H locs hw h1 hF => ?_)
  have h1 : M_2 1 = .inr (3, [.int (nI g1), .int (nI m1), .int (nI ta), .int sc, .int (nI mv), .ref (b + 2), .ref (b + 3), .ref (b + 4), .ref (b + 5)]) := h1
  have h2 := (hF 2 (by decide)).trans h2
  have h3 := (hF 3 (by decide)).trans h3
  have h4 := (hF 4 (by decide)).trans h4
  have hFF := kF_st hFF hF (by first | decide | simp)
  refine lv_aload_n C.1 C.2.1 dX3_giveAllToOne_10 rfl (lv_at hl 0 rfl) ?_
  refine lv_iconst (v := nI 1) C.1 C.2.1 dX3_giveAllToOne_11 (by decide) ?_
  refine k_put (tf := .int) C hw 1 (by omega) h1 rfl inlX3 tyX3 tyX3_ok nmX3 2 (by decide) q_55 rfl (by decide +kernel) rfl rfl (Nat.le_of_ble_eq_true rfl) dX3_giveAllToOne_12 (fun M_3 H locs hw h1 hF => ?_)
  have h1 : M_3 1 = .inr (3, [.int (nI g1), .int (nI m1), .int (nI 1), .int sc, .int (nI mv), .ref (b + 2), .ref (b + 3), .ref (b + 4), .ref (b + 5)]) := h1
  have h2 := (hF 2 (by decide)).trans h2
  have h3 := (hF 3 (by decide)).trans h3
  have h4 := (hF 4 (by decide)).trans h4
  have hFF := kF_st hFF hF (by first | decide | simp)
  refine lv_aload_n C.1 C.2.1 dX3_giveAllToOne_15 rfl (lv_at hl 0 rfl) ?_
  refine k_get C hw 1 (by omega) h1 rfl inlX3 5 (by decide) q_39 rfl dX3_giveAllToOne_16 ?_
  refine lv_iconst (v := nI 0) C.1 C.2.1 dX3_giveAllToOne_19 (by decide) ?_
  refine k_sv C hw (c_J7_fill_53178 (by omega) h2  (by omega)) kv_X3_47 rfl hl.1 ⟨Nat.le_of_ble_eq_true rfl, Nat.le_of_ble_eq_true rfl⟩ (Nat.le_of_ble_eq_true rfl) ⟨Nat.le_of_ble_eq_true rfl, Nat.le_of_ble_eq_true rfl⟩ dX3_giveAllToOne_20 (fun M_4 n9 H locs hp hw => ?_)
  obtain ⟨en9, hF, h2⟩ := hp
  have en9 : n9 = n := en9
  rw [en9] at hw
  have h1 := (hF 1 (by decide)).trans h1
  have h3 := (hF 3 (by decide)).trans h3
  have h4 := (hF 4 (by decide)).trans h4
  have hFF := kF_st hFF hF (by first | decide | simp)
  refine lv_aload_n C.1 C.2.1 dX3_giveAllToOne_23 rfl (lv_at hl 0 rfl) ?_
  refine k_get C hw 1 (by omega) h1 rfl inlX3 6 (by decide) q_40 rfl dX3_giveAllToOne_24 ?_
  refine lv_iconst (v := nI 1) C.1 C.2.1 dX3_giveAllToOne_27 (by decide) ?_
  refine k_sv C hw (c_J7_fill_53178 (by omega) h3  (by omega)) kv_X3_47 rfl hl.1 ⟨Nat.le_of_ble_eq_true rfl, Nat.le_of_ble_eq_true rfl⟩ (Nat.le_of_ble_eq_true rfl) ⟨Nat.le_of_ble_eq_true rfl, Nat.le_of_ble_eq_true rfl⟩ dX3_giveAllToOne_28 (fun M_5 n9 H locs hp hw => ?_)
  obtain ⟨en9, hF, h3⟩ := hp
  have en9 : n9 = n := en9
  rw [en9] at hw
  have h1 := (hF 1 (by decide)).trans h1
  have h2 := (hF 2 (by decide)).trans h2
  have h4 := (hF 4 (by decide)).trans h4
  have hFF := kF_st hFF hF (by first | decide | simp)
  refine lv_aload_n C.1 C.2.1 dX3_giveAllToOne_31 rfl (lv_at hl 0 rfl) ?_
  refine k_get C hw 1 (by omega) h1 rfl inlX3 7 (by decide) q_41 rfl dX3_giveAllToOne_32 ?_
  refine lv_iconst (v := nI 0) C.1 C.2.1 dX3_giveAllToOne_35 (by decide) ?_
  refine k_sv C hw (c_J7_fill_53178 (by omega) h4  (by omega)) kv_X3_47 rfl hl.1 ⟨Nat.le_of_ble_eq_true rfl, Nat.le_of_ble_eq_true rfl⟩ (Nat.le_of_ble_eq_true rfl) ⟨Nat.le_of_ble_eq_true rfl, Nat.le_of_ble_eq_true rfl⟩ dX3_giveAllToOne_36 (fun M_6 n9 H locs hp hw => ?_)
  obtain ⟨en9, hF, h4⟩ := hp
  have en9 : n9 = n := en9
  rw [en9] at hw
  have h1 := (hF 1 (by decide)).trans h1
  have h2 := (hF 2 (by decide)).trans h2
  have h3 := (hF 3 (by decide)).trans h3
  have hFF := kF_st hFF hF (by first | decide | simp)
  obtain ⟨M_7, hw, h2, hF⟩ := k_extI hw 2 (by omega) h2 (fun _ => 0) (fun j hj => if_pos hj)
  have h1 := (hF 1 (by decide)).trans h1
  have h3 := (hF 3 (by decide)).trans h3
  have h4 := (hF 4 (by decide)).trans h4
  have hFF := kF_st hFF hF (by first | decide | simp)
  obtain ⟨M_8, hw, h3, hF⟩ := k_extI hw 3 (by omega) h3 (fun _ => 1) (fun j hj => if_pos hj)
  have h1 := (hF 1 (by decide)).trans h1
  have h2 := (hF 2 (by decide)).trans h2
  have h4 := (hF 4 (by decide)).trans h4
  have hFF := kF_st hFF hF (by first | decide | simp)
  obtain ⟨M_9, hw, h4, hF⟩ := k_extI hw 4 (by omega) h4 (fun _ => 0) (fun j hj => if_pos hj)
  have h1 := (hF 1 (by decide)).trans h1
  have h2 := (hF 2 (by decide)).trans h2
  have h3 := (hF 3 (by decide)).trans h3
  have hFF := kF_st hFF hF (by first | decide | simp)
  exact hret _ _ (Nat.le_of_ble_eq_true rfl) (Nat.le_of_ble_eq_true rfl) hw (⟨rfl, hFF, h1, h2, h3, h4⟩) dX3_giveAllToOne_39

set_option maxHeartbeats 4000000 in
set_option maxRecDepth 100000 in
theorem c_X3_begin {l : Launch} {D : va_G} {cI cJ cZ cH cR : ClassId} {b : Nat} {n : Nat} {M : Nat → va_E}  {G : Nat} {mo : Nat} {ta : Nat} {sc : Int32} {mv : Nat} {ow : Nat → Int32} {ep : Nat → Int32} {we : Nat → Int32}  (hn : 5 ≤ n) (h1 : M 1 = .inr (3, [.int (nI G), .int (nI mo), .int (nI ta), .int sc, .int (nI mv), .ref (b + 2), .ref (b + 3), .ref (b + 4), .ref (b + 5)])) (h2 : M 2 = .inl (cI, 32, .inl ow)) (h3 : M 3 = .inl (cI, 32, .inl ep)) (h4 : M 4 = .inl (cI, 32, .inl we))   : Met l yX3_begin (kw yX3_begin cX3_begin 1 none) ({ frames := 2, cells := 0, slots := 0, locals := 45 }) (va_Pc [.ref (b + 1)] (kPre D (kT cI cJ cZ cH cR) b M n)) (va_Qv (fun (u : (Nat → va_E) × Nat) => u.2 = n ∧ kF [1, 2, 3, 4] M u.1 ∧ u.1 1 = .inr (3, [.int (nI 8), .int (nI 4), .int (nI 1), .int (nI 0), .int (nI 0), .ref (b + 2), .ref (b + 3), .ref (b + 4), .ref (b + 5)]) ∧ u.1 2 = .inl (cI, 32, .inl (fun _ => 0)) ∧ u.1 3 = .inl (cI, 32, .inl (fun _ => 1)) ∧ u.1 4 = .inl (cI, 32, .inl (fun _ => 0))) (kB D (kT cI cJ cZ cH cR) b) (kA b)) 0 0 (kA b) := by
  refine k_metV (by decide +kernel) (Nat.le_of_ble_eq_true rfl) ?_
  intro p e s m below meth c ls Q C hw hret hnm hl
  have hl : lv_has ls 1 [(0, .ref (b + 1))] := hl
  have hFF : kF [1, 2, 3, 4] M M := kF_rf
  refine lv_aload_n C.1 C.2.1 dX3_begin_0 rfl (lv_at hl 0 rfl) ?_
  refine lv_iconst (v := nI 0) C.1 C.2.1 dX3_begin_1 (by decide) ?_
  refine k_put (tf := .int) C hw 1 (by omega) h1 rfl inlX3 tyX3 tyX3_ok nmX3 3 (by decide) q_47 rfl (by decide +kernel) rfl rfl (Nat.le_of_ble_eq_true rfl) dX3_begin_2 (fun M_1 H locs hw h1 hF => ?_)
  have h1 : M_1 1 = .inr (3, [.int (nI G), .int (nI mo), .int (nI ta), .int (nI 0), .int (nI mv), .ref (b + 2), .ref (b + 3), .ref (b + 4), .ref (b + 5)]) := h1
  have h2 := (hF 2 (by decide)).trans h2
  have h3 := (hF 3 (by decide)).trans h3
  have h4 := (hF 4 (by decide)).trans h4
  have hFF := kF_st hFF hF (by first | decide | simp)
  refine lv_aload_n C.1 C.2.1 dX3_begin_5 rfl (lv_at hl 0 rfl) ?_
  refine lv_iconst (v := nI 0) C.1 C.2.1 dX3_begin_6 (by decide) ?_
  refine k_put (tf := .int) C hw 1 (by omega) h1 rfl inlX3 tyX3 tyX3_ok nmX3 4 (by decide) q_48 rfl (by decide +kernel) rfl rfl (Nat.le_of_ble_eq_true rfl) dX3_begin_7 (fun M_2 H locs hw h1 hF => ?_)
  have h1 : M_2 1 = .inr (3, [.int (nI G), .int (nI mo), .int (nI ta), .int (nI 0), .int (nI 0), .ref (b + 2), .ref (b + 3), .ref (b + 4), .ref (b + 5)]) := h1
  have h2 := (hF 2 (by decide)).trans h2
  have h3 := (hF 3 (by decide)).trans h3
  have h4 := (hF 4 (by decide)).trans h4
  have hFF := kF_st hFF hF (by first | decide | simp)
  refine lv_aload_n C.1 C.2.1 dX3_begin_10 rfl (lv_at hl 0 rfl) ?_
  refine lv_bipush (v := nI 8) C.1 C.2.1 dX3_begin_11 (by decide) ?_
  refine lv_iconst (v := nI 4) C.1 C.2.1 dX3_begin_13 (by decide) ?_
  refine k_vv C hw 1 (by omega) h1 rfl (c_X3_giveAllToOne (by omega) h1 h2 h3 h4  ) kv_X3_34 rfl hl.1 ⟨Nat.le_of_ble_eq_true rfl, Nat.le_of_ble_eq_true rfl⟩ (Nat.le_of_ble_eq_true rfl) ⟨Nat.le_of_ble_eq_true rfl, Nat.le_of_ble_eq_true rfl⟩ dX3_begin_14 (fun M_3 n9 H locs hp hw => ?_)
  obtain ⟨en9, hF, h1, h2, h3, h4⟩ := hp
  have en9 : n9 = n := en9
  rw [en9] at hw
  have hFF := kF_st hFF hF (by first | decide | simp)
  exact hret _ _ (Nat.le_of_ble_eq_true rfl) (Nat.le_of_ble_eq_true rfl) hw (⟨rfl, hFF, h1, h2, h3, h4⟩) dX3_begin_17

set_option maxHeartbeats 4000000 in
set_option maxRecDepth 100000 in
theorem c_X3_init {l : Launch} {D : va_G} {cI cJ cZ cH cR : ClassId} {b : Nat} {M : Nat → va_E}     (h1 : M 1 = .inr (3, [.int 0, .int 0, .int 0, .int 0, .int 0, .null, .null, .null, .null]))   : Met l yX3_init (kw yX3_init cX3_init 1 none) ({ frames := 3, cells := 4, slots := 128, locals := 65 }) (va_Pc [.ref (b + 1)] (kPre D (kT cI cJ cZ cH cR) b M 2)) (va_Qv (fun (u : (Nat → va_E) × Nat) => u.2 = 6 ∧ kF [1, 2, 3, 4, 5] M u.1 ∧ u.1 1 = .inr (3, [.int (nI 8), .int (nI 4), .int (nI 1), .int (nI 0), .int (nI 0), .ref (b + 2), .ref (b + 3), .ref (b + 4), .ref (b + 5)]) ∧ u.1 2 = .inl (cI, 32, .inl (fun _ => 0)) ∧ u.1 3 = .inl (cI, 32, .inl (fun _ => 1)) ∧ u.1 4 = .inl (cI, 32, .inl (fun _ => 0)) ∧ u.1 5 = .inl (cI, 32, .inl (fun _ => 0))) (kB D (kT cI cJ cZ cH cR) b) (kA b)) 4 128 (kA b) := by
  refine k_metV (by decide +kernel) (Nat.le_of_ble_eq_true rfl) ?_
  intro p e s m below meth c ls Q C hw hret hnm hl
  have hl : lv_has ls 1 [(0, .ref (b + 1))] := hl
  have hFF : kF [1, 2, 3, 4, 5] M M := kF_rf
  refine lv_aload_n C.1 C.2.1 dX3_init_0 rfl (lv_at hl 0 rfl) ?_
  refine W.objInit C.1 C.2.1 C.2.2.2.1 (C.2.2.2.2.1 _ q_37) (C.2.2.2.2.1 _ q_10) (C.2.2.2.2.1 _ q_11) rfl (by rw [C.2.2.1]; exact hl.1) rfl dX3_init_1 (Nat.le_of_ble_eq_true rfl) (Nat.le_of_ble_eq_true rfl) ?_
  refine W.eq (g2 := F0 m 4 ls []) rfl ?_
  refine lv_aload_n C.1 C.2.1 dX3_init_4 rfl (lv_at hl 0 rfl) ?_
  refine lv_bipush (v := nI 32) C.1 C.2.1 dX3_init_5 (by decide) ?_
  refine k_newI C hw q_38 32 rfl (by decide) (Nat.le_of_ble_eq_true rfl) (Nat.le_of_ble_eq_true rfl) dX3_init_7 (fun M_1 H hw h2 hF => ?_)
  have h1 := (hF 1 (by decide)).trans h1
  have hFF := kF_st hFF hF (by first | decide | simp)
  refine k_putF (tf := .array .int) C hw 1 (by decide) h1 rfl inlX3 tyX3 tyX3_ok nmX3 5 (by decide) q_39 rfl hnm rfl (by decide +kernel) rfl rfl (Nat.le_of_ble_eq_true rfl) dX3_init_9 (fun M_2 H locs hw h1 hF => ?_)
  have h1 : M_2 1 = .inr (3, [.int 0, .int 0, .int 0, .int 0, .int 0, .ref (b + 2), .null, .null, .null]) := h1
  have h2 := (hF 2 (by decide)).trans h2
  have hFF := kF_st hFF hF (by first | decide | simp)
  refine lv_aload_n C.1 C.2.1 dX3_init_12 rfl (lv_at hl 0 rfl) ?_
  refine lv_bipush (v := nI 32) C.1 C.2.1 dX3_init_13 (by decide) ?_
  refine k_newI C hw q_38 32 rfl (by decide) (Nat.le_of_ble_eq_true rfl) (Nat.le_of_ble_eq_true rfl) dX3_init_15 (fun M_3 H hw h3 hF => ?_)
  have h1 := (hF 1 (by decide)).trans h1
  have h2 := (hF 2 (by decide)).trans h2
  have hFF := kF_st hFF hF (by first | decide | simp)
  refine k_putF (tf := .array .int) C hw 1 (by decide) h1 rfl inlX3 tyX3 tyX3_ok nmX3 6 (by decide) q_40 rfl hnm rfl (by decide +kernel) rfl rfl (Nat.le_of_ble_eq_true rfl) dX3_init_17 (fun M_4 H locs hw h1 hF => ?_)
  have h1 : M_4 1 = .inr (3, [.int 0, .int 0, .int 0, .int 0, .int 0, .ref (b + 2), .ref (b + 3), .null, .null]) := h1
  have h2 := (hF 2 (by decide)).trans h2
  have h3 := (hF 3 (by decide)).trans h3
  have hFF := kF_st hFF hF (by first | decide | simp)
  refine lv_aload_n C.1 C.2.1 dX3_init_20 rfl (lv_at hl 0 rfl) ?_
  refine lv_bipush (v := nI 32) C.1 C.2.1 dX3_init_21 (by decide) ?_
  refine k_newI C hw q_38 32 rfl (by decide) (Nat.le_of_ble_eq_true rfl) (Nat.le_of_ble_eq_true rfl) dX3_init_23 (fun M_5 H hw h4 hF => ?_)
  have h1 := (hF 1 (by decide)).trans h1
  have h2 := (hF 2 (by decide)).trans h2
  have h3 := (hF 3 (by decide)).trans h3
  have hFF := kF_st hFF hF (by first | decide | simp)
  refine k_putF (tf := .array .int) C hw 1 (by decide) h1 rfl inlX3 tyX3 tyX3_ok nmX3 7 (by decide) q_41 rfl hnm rfl (by decide +kernel) rfl rfl (Nat.le_of_ble_eq_true rfl) dX3_init_25 (fun M_6 H locs hw h1 hF => ?_)
  have h1 : M_6 1 = .inr (3, [.int 0, .int 0, .int 0, .int 0, .int 0, .ref (b + 2), .ref (b + 3), .ref (b + 4), .null]) := h1
  have h2 := (hF 2 (by decide)).trans h2
  have h3 := (hF 3 (by decide)).trans h3
  have h4 := (hF 4 (by decide)).trans h4
  have hFF := kF_st hFF hF (by first | decide | simp)
  refine lv_aload_n C.1 C.2.1 dX3_init_28 rfl (lv_at hl 0 rfl) ?_
  refine lv_bipush (v := nI 32) C.1 C.2.1 dX3_init_29 (by decide) ?_
  refine k_newI C hw q_38 32 rfl (by decide) (Nat.le_of_ble_eq_true rfl) (Nat.le_of_ble_eq_true rfl) dX3_init_31 (fun M_7 H hw h5 hF => ?_)
  have h1 := (hF 1 (by decide)).trans h1
  have h2 := (hF 2 (by decide)).trans h2
  have h3 := (hF 3 (by decide)).trans h3
  have h4 := (hF 4 (by decide)).trans h4
  have hFF := kF_st hFF hF (by first | decide | simp)
  refine k_putF (tf := .array .int) C hw 1 (by decide) h1 rfl inlX3 tyX3 tyX3_ok nmX3 8 (by decide) q_42 rfl hnm rfl (by decide +kernel) rfl rfl (Nat.le_of_ble_eq_true rfl) dX3_init_33 (fun M_8 H locs hw h1 hF => ?_)
  have h1 : M_8 1 = .inr (3, [.int 0, .int 0, .int 0, .int 0, .int 0, .ref (b + 2), .ref (b + 3), .ref (b + 4), .ref (b + 5)]) := h1
  have h2 := (hF 2 (by decide)).trans h2
  have h3 := (hF 3 (by decide)).trans h3
  have h4 := (hF 4 (by decide)).trans h4
  have h5 := (hF 5 (by decide)).trans h5
  have hFF := kF_st hFF hF (by first | decide | simp)
  refine lv_aload_n C.1 C.2.1 dX3_init_36 rfl (lv_at hl 0 rfl) ?_
  refine k_vv C hw 1 (by decide) h1 rfl (c_X3_begin (by decide) h1 h2 h3 h4  ) kv_X3_24 rfl hl.1 ⟨Nat.le_of_ble_eq_true rfl, Nat.le_of_ble_eq_true rfl⟩ (Nat.le_of_ble_eq_true rfl) ⟨Nat.le_of_ble_eq_true rfl, Nat.le_of_ble_eq_true rfl⟩ dX3_init_37 (fun M_9 n9 H locs hp hw => ?_)
  obtain ⟨en9, hF, h1, h2, h3, h4⟩ := hp
  have en9 : n9 = 6 := en9
  rw [en9] at hw
  have h5 := (hF 5 (by decide)).trans h5
  have hFF := kF_st hFF hF (by first | decide | simp)
  exact hret _ _ (Nat.le_of_ble_eq_true rfl) (Nat.le_of_ble_eq_true rfl) hw (⟨rfl, hFF, h1, h2, h3, h4, h5⟩) dX3_init_40
