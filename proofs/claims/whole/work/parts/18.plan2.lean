theorem kv_X4_27 : kV RX4 RX3 27 yX3_totalWeight cX3_totalWeight 3 (some .int) 0 := ⟨q_322, q_323, q_324, q_14, q_325, by decide +kernel⟩
theorem kv_X4_33 : kSt RX4 33 yX4_limitOf cX4_limitOf 4 (some .int) 3 := ⟨q_326, q_327, q_18, q_328, by decide +kernel⟩
theorem kv_X4_38 : kSt RX4 38 yJ7_fill_53178 cJ7_fill_53178 4 none 2 := ⟨q_329, q_57, q_58, q_59, by decide +kernel⟩
theorem kv_X4_48 : kV RX4 RX4 48 yX4_putTaskAhead cX4_putTaskAhead 5 none 3 := ⟨q_330, q_331, q_332, q_18, q_333, by decide +kernel⟩
theorem kv_X4_52 : kV RX4 RX4 52 yX4_layChosen cX4_layChosen 5 none 1 := ⟨q_343, q_344, q_345, q_18, q_346, by decide +kernel⟩
theorem kv_X4_56 : kV RX4 RX4 56 yX4_chooseEnd cX4_chooseEnd 9 (some .int) 4 := ⟨q_334, q_335, q_336, q_18, q_337, by decide +kernel⟩
set_option maxHeartbeats 4000000 in
set_option maxRecDepth 100000 in
theorem c_X4_putTaskAhead {l : Launch} {D : va_G} {cI cJ cZ cH cR : ClassId} {b : Nat} {n : Nat} {M : Nat → va_E}  {G : Nat} {mo : Nat} {ta : Nat} {sc : Int32} {mv : Nat} {ow : Nat → Int32} {we : Nat → Int32} {be : Nat → Int32} {P t lim : Nat} {w B : Nat → Nat} {e0 : Nat → Int32} (hn : 10 ≤ n) (h1 : M 1 = .inr (3, [.int (nI G), .int (nI mo), .int (nI ta), .int sc, .int (nI mv), .ref (b + 2), .ref (b + 3), .ref (b + 4), .ref (b + 5)])) (h2 : M 2 = .inl (cI, 32, .inl ow)) (h4 : M 4 = .inl (cI, 32, .inl we)) (h6 : M 6 = .inr (4, [.ref (b + 7), .ref (b + 8), .ref (b + 9)])) (h8 : M 8 = .inl (cI, 33, .inl be)) (h9 : M 9 = .inl (cR, 12, .inr (.inr (.inr (.inr (fun i => if i < 12 then some (b + 9 + 1 + i) else none)))))) (hnP : P < n) (hP : M P = .inl (cI, 33, .inl e0))  (hG0 : 0 < G) (hG : G ≤ 32) (hPe : P = 10 + t) (ht : t < 12) (hw9 : ∀ g, g < G → we g = nI (w g)) (hsum : sN w G ≤ 1000) (hB : ∀ j, j ≤ G → be j = nI (B j) ∧ B j ≤ 1000000) (hlim : lim ≤ 300000) : Met l yX4_putTaskAhead (kw yX4_putTaskAhead cX4_putTaskAhead 5 none) ({ frames := 2, cells := 0, slots := 0, locals := 50 }) (va_Pc [.ref (b + 6), .ref (b + 1), .int (nI t), .int (nI lim)] (kPre D (kT cI cJ cZ cH cR) b M n)) (va_Qv (fun (u : (Nat → va_E) × Nat) => u.2 = n ∧ kF [8, P] M u.1 ∧ u.1 8 = .inl (cI, 33, .inl (pfx (fun a => nI (chs w (cg w ow t) B lim a (G - a)).1) be (G + 1))) ∧ u.1 P = .inl (cI, 33, .inl (rwt e0 (fun a => (chs w (cg w ow t) B lim a (G - a)).2) (G + 1)))) (kB D (kT cI cJ cZ cH cR) b) (kA b)) 0 0 (kA b) := by
  refine k_metV (by decide +kernel) (Nat.le_of_ble_eq_true rfl) ?_
  intro p e s m below meth c ls Q C hw hret hnm hl
  have hl : lv_has ls 5 [(0, .ref (b + 6)), (1, .ref (b + 1)), (2, .int (nI t)), (3, .int (nI lim))] := hl
  have hFF : kF [8, P] M M := kF_rf
  refine lv_iconst (v := nI 0) C.1 C.2.1 dX4_putTaskAhead_0 (by decide) ?_
  refine lv_istore (lv' := [(4, .int (nI 0)), (0, .ref (b + 6)), (1, .ref (b + 1)), (2, .int (nI t)), (3, .int (nI lim))]) C.1 C.2.1 dX4_putTaskAhead_1 hl (by decide) rfl (fun ls hl => ?_)
  have L3 : ∀ (N3 : Nat) (i : Nat) (Mx3 : Nat → va_E), (G + 1 - i < N3) → (i ≤ G + 1) → kF [8, P] M Mx3 → Mx3 1 = .inr (3, [.int (nI G), .int (nI mo), .int (nI ta), .int sc, .int (nI mv), .ref (b + 2), .ref (b + 3), .ref (b + 4), .ref (b + 5)]) → Mx3 2 = .inl (cI, 32, .inl ow) → Mx3 4 = .inl (cI, 32, .inl we) → Mx3 6 = .inr (4, [.ref (b + 7), .ref (b + 8), .ref (b + 9)]) → Mx3 8 = .inl (cI, 33, .inl (pfx (fun a => nI (chs w (cg w ow t) B lim a (G - a)).1) be i)) → Mx3 9 = .inl (cR, 12, .inr (.inr (.inr (.inr (fun i => if i < 12 then some (b + 9 + 1 + i) else none))))) → Mx3 P = .inl (cI, 33, .inl (rwt e0 (fun a => (chs w (cg w ow t) B lim a (G - a)).2) i)) → ∀ (ls : Array Slot) (H : Heap) (locs : List Loc), lv_has ls 5 [(4, .int (nI i)), (0, .ref (b + 6)), (1, .ref (b + 1)), (2, .int (nI t)), (3, .int (nI lim))] → kW D b Mx3 n s.heap H locs → W p l e ({ frames := 2, cells := 0, slots := 0, locals := 50 } : Room) s m ([.ref (b + 6), .ref (b + 1), .int (nI t), .int (nI lim)] : List Value).toArray below meth c H locs 0 0 Q (F0 m 3 ls []) := by
    intro N3
    induction N3 with
    | zero => intro i Mx3 hm3 hi hFF h1 h2 h4 h6 h8 h9 hP ls H locs hl hw; omega
    | succ N3 ih3 =>
      intro i Mx3 hm3 hi hFF h1 h2 h4 h6 h8 h9 hP ls H locs hl hw
      refine lv_iload C.1 C.2.1 dX4_putTaskAhead_3 (lv_at hl 0 rfl) ?_
      refine lv_aload_n C.1 C.2.1 dX4_putTaskAhead_5 rfl (lv_at hl 2 rfl) ?_
      refine k_get C hw 1 (by omega) h1 rfl inlX3 0 (by decide) q_321 rfl dX4_putTaskAhead_6 ?_
      refine lv_icmp_gt (tgt := 34) C.1 C.2.1 dX4_putTaskAhead_9 (by decide) (fun c9 => ?_) (fun c9 => ?_)
      · have q := (nI_ltI (by omega) (by omega)).mp c9
        have q : i = G + 1 := by omega
        rw [q] at h8 hP
        exact hret _ _ (Nat.le_of_ble_eq_true rfl) (Nat.le_of_ble_eq_true rfl) hw (⟨rfl, hFF, h8, hP⟩) dX4_putTaskAhead_34
      · have q : ¬ G < i := fun y => c9 ((nI_ltI (by omega) (by omega)).mpr y)
        refine lv_aload_n C.1 C.2.1 dX4_putTaskAhead_12 rfl (lv_at hl 1 rfl) ?_
        refine k_get C hw 6 (by omega) h6 rfl inlX4 1 (by decide) q_65 rfl dX4_putTaskAhead_13 ?_
        refine lv_iload C.1 C.2.1 dX4_putTaskAhead_16 (lv_at hl 0 rfl) ?_
        refine lv_aload_n C.1 C.2.1 dX4_putTaskAhead_18 rfl (lv_at hl 1 rfl) ?_
        refine lv_aload_n C.1 C.2.1 dX4_putTaskAhead_19 rfl (lv_at hl 2 rfl) ?_
        refine lv_iload_n C.1 C.2.1 dX4_putTaskAhead_20 rfl (lv_at hl 3 rfl) ?_
        refine lv_iload C.1 C.2.1 dX4_putTaskAhead_21 (lv_at hl 0 rfl) ?_
        refine lv_iload_n C.1 C.2.1 dX4_putTaskAhead_23 rfl (lv_at hl 4 rfl) ?_
        refine k_vi C hw 6 (by omega) h6 rfl (c_X4_chooseEnd (by omega) h1 h2 h4 h6 h8 h9 hnP hP  (hG0) (hG) (hPe) (ht) (by omega) (hw9) (hsum) (fun j h1 h2 => by rw [pfx_out (by omega)]; exact hB j h2) (hlim)) kv_X4_56 rfl hl.1 ⟨Nat.le_of_ble_eq_true rfl, Nat.le_of_ble_eq_true rfl⟩ (Nat.le_of_ble_eq_true rfl) ⟨Nat.le_of_ble_eq_true rfl, Nat.le_of_ble_eq_true rfl⟩ dX4_putTaskAhead_24 (fun r24 M_1 n9 H locs hp hw => ?_)
        obtain ⟨er24, en9, hF, hP⟩ := hp
        have en9 : n9 = n := en9
        rw [en9] at hw
        have h1 := (hF 1 (by first | decide | (simp <;> omega))).trans h1
        have h2 := (hF 2 (by first | decide | (simp <;> omega))).trans h2
        have h4 := (hF 4 (by first | decide | (simp <;> omega))).trans h4
        have h6 := (hF 6 (by first | decide | (simp <;> omega))).trans h6
        have h8 := (hF 8 (by first | decide | (simp <;> omega))).trans h8
        have h9 := (hF 9 (by first | decide | (simp <;> omega))).trans h9
        have hFF := kF_st hFF hF (by first | decide | simp)
        subst er24
        refine k_iast C hw 8 (by omega) h8 (by omega) (by first | decide | omega) dX4_putTaskAhead_27 (fun M_2 H locs hw h8 hF => ?_)
        have h1 := (hF 1 (by first | decide | (simp <;> omega))).trans h1
        have h2 := (hF 2 (by first | decide | (simp <;> omega))).trans h2
        have h4 := (hF 4 (by first | decide | (simp <;> omega))).trans h4
        have h6 := (hF 6 (by first | decide | (simp <;> omega))).trans h6
        have h9 := (hF 9 (by first | decide | (simp <;> omega))).trans h9
        have hP := (hF P (by first | decide | (simp <;> omega))).trans hP
        have hFF := kF_st hFF hF (by first | decide | simp)
        rw [pfx_s rfl] at h8
        refine lv_iinc (v := (nI (i + 1))) (lv' := [(4, .int (nI (i + 1))), (0, .ref (b + 6)), (1, .ref (b + 1)), (2, .int (nI t)), (3, .int (nI lim))]) C.1 C.2.1 dX4_putTaskAhead_28 hl (k := 0) rfl (k_inc _ 1) (by decide) rfl (fun ls hl => ?_)
        refine lv_goto (tgt := 3) C.1 C.2.1 dX4_putTaskAhead_31 (by decide) ?_
        exact ih3  (i + 1) M_2 (by omega) (by omega) hFF h1 h2 h4 h6 h8 h9 hP  ls _ _ (lv_sub hl [0, 1, 2, 3, 4] rfl) hw
  exact L3 (_ + 1) (0) M (Nat.lt_succ_self _) (Nat.zero_le _) hFF h1 h2 h4 h6 h8 h9 hP  ls _ _ (lv_sub hl [0, 1, 2, 3, 4] rfl) hw

set_option maxHeartbeats 4000000 in
set_option maxRecDepth 100000 in
theorem c_X4_layChosen {l : Launch} {D : va_G} {cI cJ cZ cH cR : ClassId} {b : Nat} {n : Nat} {M : Nat → va_E}  {po : Nat → Int32} {k : Nat} {F : Nat → Nat} {eo : Nat → Nat → Int32} (hn : 10 ≤ n) (h6 : M 6 = .inr (4, [.ref (b + 7), .ref (b + 8), .ref (b + 9)])) (h7 : M 7 = .inl (cI, 32, .inl po)) (h9 : M 9 = .inl (cR, 12, .inr (.inr (.inr (.inr (fun i => if i < 12 then some (b + 9 + 1 + i) else none)))))) (hE : ∀ i, i < 12 → M (10 + i) = .inl (cI, 33, .inl (eo i))) (hn22 : 22 ≤ n) (hk : k ≤ 12) (hF0 : F 0 = 0) (hFm : ∀ t, t < k → F t ≤ F (t + 1)) (hFG : ∀ t, t ≤ k → F t ≤ 32) (hrow : ∀ t, t < k → eo t (F t) = nI (F (t + 1))) : Met l yX4_layChosen (kw yX4_layChosen cX4_layChosen 5 none) ({ frames := 1, cells := 0, slots := 0, locals := 24 }) (va_Pc [.ref (b + 6), .int (nI k)] (kPre D (kT cI cJ cZ cH cR) b M n)) (va_Qv (fun (u : (Nat → va_E) × Nat) => u.2 = n ∧ kF [7] M u.1 ∧ u.1 7 = .inl (cI, 32, .inl (lay po F k))) (kB D (kT cI cJ cZ cH cR) b) (kA b)) 0 0 (kA b) := by
  refine k_metV (by decide +kernel) (Nat.le_of_ble_eq_true rfl) ?_
  intro p e s m below meth c ls Q C hw hret hnm hl
  have hl : lv_has ls 5 [(0, .ref (b + 6)), (1, .int (nI k))] := hl
  have hFF : kF [7] M M := kF_rf
  refine lv_iconst (v := nI 0) C.1 C.2.1 dX4_layChosen_0 (by decide) ?_
  refine k_topi (y := nI (F 0)) (by rw [hF0]) ?_
  refine lv_istore_n (lv' := [(2, .int (nI (F 0))), (0, .ref (b + 6)), (1, .int (nI k))]) C.1 C.2.1 dX4_layChosen_1 rfl hl (by decide) rfl (fun ls hl => ?_)
  refine lv_iconst (v := nI 0) C.1 C.2.1 dX4_layChosen_2 (by decide) ?_
  refine lv_istore_n (lv' := [(3, .int (nI 0)), (2, .int (nI (F 0))), (0, .ref (b + 6)), (1, .int (nI k))]) C.1 C.2.1 dX4_layChosen_3 rfl hl (by decide) rfl (fun ls hl => ?_)
  have L4 : ∀ (N4 : Nat) (i : Nat) (Mx4 : Nat → va_E), (k - i < N4) → (i ≤ k) → kF [7] M Mx4 → Mx4 6 = .inr (4, [.ref (b + 7), .ref (b + 8), .ref (b + 9)]) → Mx4 7 = .inl (cI, 32, .inl (lay po F i)) → Mx4 9 = .inl (cR, 12, .inr (.inr (.inr (.inr (fun i => if i < 12 then some (b + 9 + 1 + i) else none))))) → (∀ i, i < 12 → Mx4 (10 + i) = .inl (cI, 33, .inl (eo i))) → ∀ (ls : Array Slot) (H : Heap) (locs : List Loc), lv_has ls 5 [(3, .int (nI i)), (2, .int (nI (F i))), (0, .ref (b + 6)), (1, .int (nI k))] → kW D b Mx4 n s.heap H locs → W p l e ({ frames := 1, cells := 0, slots := 0, locals := 24 } : Room) s m ([.ref (b + 6), .int (nI k)] : List Value).toArray below meth c H locs 0 0 Q (F0 m 4 ls []) := by
    intro N4
    induction N4 with
    | zero => intro i Mx4 hm4 hi hFF h6 h7 h9 hE ls H locs hl hw; omega
    | succ N4 ih4 =>
      intro i Mx4 hm4 hi hFF h6 h7 h9 hE ls H locs hl hw
      refine lv_iload_n C.1 C.2.1 dX4_layChosen_4 rfl (lv_at hl 0 rfl) ?_
      refine lv_iload_n C.1 C.2.1 dX4_layChosen_5 rfl (lv_at hl 3 rfl) ?_
      refine lv_icmp_ge (tgt := 36) C.1 C.2.1 dX4_layChosen_6 (by decide) (fun c6 => ?_) (fun c6 => ?_)
      · have q := (nI_leI (by omega) (by omega)).mp c6
        have q : i = k := by omega
        rw [q] at h7
        exact hret _ _ (Nat.le_of_ble_eq_true rfl) (Nat.le_of_ble_eq_true rfl) hw (⟨rfl, hFF, h7⟩) dX4_layChosen_36
      · have q : ¬ k ≤ i := fun y => c6 ((nI_leI (by omega) (by omega)).mpr y)
        have f1 := hFG i (by omega)
        have f2 := hFG (i + 1) (by omega)
        have f3 := hFm i (by omega)
        obtain ⟨P, hPe⟩ : ∃ P, P = 10 + i := ⟨_, rfl⟩
        have hnP : P < n := by omega
        have hP : Mx4 P = _ := (congrArg _ hPe).trans (hE i (by omega))
        refine lv_aload_n C.1 C.2.1 dX4_layChosen_9 rfl (lv_at hl 2 rfl) ?_
        refine k_get C hw 6 (by omega) h6 rfl inlX4 2 (by decide) q_67 rfl dX4_layChosen_10 ?_
        refine lv_iload_n C.1 C.2.1 dX4_layChosen_13 rfl (lv_at hl 0 rfl) ?_
        refine k_rald (v := .ref (b + P)) C hw 9 (by omega) h9 (by omega) (by decide) (by rw [if_pos (by omega), hPe]; show Value.ref (b + 9 + 1 + i) = Value.ref (b + (10 + i)); rw [show b + 9 + 1 + i = b + (10 + i) by omega]) dX4_layChosen_14 ?_
        refine lv_iload_n C.1 C.2.1 dX4_layChosen_15 rfl (lv_at hl 1 rfl) ?_
        refine k_iald C hw P hnP hP (by omega) (by first | decide | omega) dX4_layChosen_16 ?_
        refine k_topi (y := nI (F (i + 1))) (hrow i (by omega)) ?_
        refine lv_istore (lv' := [(4, .int (nI (F (i + 1)))), (3, .int (nI i)), (2, .int (nI (F i))), (0, .ref (b + 6)), (1, .int (nI k))]) C.1 C.2.1 dX4_layChosen_17 hl (by decide) rfl (fun ls hl => ?_)
        refine lv_aload_n C.1 C.2.1 dX4_layChosen_19 rfl (lv_at hl 3 rfl) ?_
        refine lv_iload_n C.1 C.2.1 dX4_layChosen_20 rfl (lv_at hl 1 rfl) ?_
        refine lv_iload_n C.1 C.2.1 dX4_layChosen_21 rfl (lv_at hl 2 rfl) ?_
        refine lv_iload C.1 C.2.1 dX4_layChosen_22 (lv_at hl 0 rfl) ?_
        refine k_vv C hw 6 (by omega) h6 rfl (c_X4_layRange (by omega) h6 h7  (by omega) (by omega)) kv_X4_23 rfl hl.1 ⟨Nat.le_of_ble_eq_true rfl, Nat.le_of_ble_eq_true rfl⟩ (Nat.le_of_ble_eq_true rfl) ⟨Nat.le_of_ble_eq_true rfl, Nat.le_of_ble_eq_true rfl⟩ dX4_layChosen_24 (fun M_1 n9 H locs hp hw => ?_)
        obtain ⟨en9, hF, h7⟩ := hp
        have en9 : n9 = n := en9
        rw [en9] at hw
        have h6 := (hF 6 (by first | decide | (simp <;> omega))).trans h6
        have h9 := (hF 9 (by first | decide | (simp <;> omega))).trans h9
        have hP := (hF P (by first | decide | (simp <;> omega))).trans hP
        have hE := fun i hi => (hF _ (by simp <;> omega)).trans (hE i hi)
        have hFF := kF_st hFF hF (by first | decide | simp)
        refine lv_iload C.1 C.2.1 dX4_layChosen_27 (lv_at hl 0 rfl) ?_
        refine lv_istore_n (lv' := [(2, .int (nI (F (i + 1)))), (4, .int (nI (F (i + 1)))), (3, .int (nI i)), (0, .ref (b + 6)), (1, .int (nI k))]) C.1 C.2.1 dX4_layChosen_29 rfl hl (by decide) rfl (fun ls hl => ?_)
        refine lv_iinc (v := (nI (i + 1))) (lv' := [(3, .int (nI (i + 1))), (2, .int (nI (F (i + 1)))), (4, .int (nI (F (i + 1)))), (0, .ref (b + 6)), (1, .int (nI k))]) C.1 C.2.1 dX4_layChosen_30 hl (k := 2) rfl (k_inc _ 1) (by decide) rfl (fun ls hl => ?_)
        refine lv_goto (tgt := 4) C.1 C.2.1 dX4_layChosen_33 (by decide) ?_
        exact ih4  (i + 1) M_1 (by omega) (by omega) hFF h6 h7 h9 hE ls _ _ (lv_sub hl [0, 1, 3, 4] rfl) hw
  exact L4 (_ + 1) (0) M (Nat.lt_succ_self _) (Nat.zero_le _) hFF h6 h7 h9 hE ls _ _ (lv_sub hl [0, 1, 2, 3] rfl) hw

set_option maxHeartbeats 4000000 in
set_option maxRecDepth 100000 in
theorem c_X4_layLeast {l : Launch} {D : va_G} {cI cJ cZ cH cR : ClassId} {b : Nat} {n : Nat} {M : Nat → va_E} {sl : Int32} {G : Nat} {mo : Nat} {ta : Nat} {sc : Int32} {mv : Nat} {ow : Nat → Int32} {we : Nat → Int32} {po : Nat → Int32} {be : Nat → Int32} {k s_ : Nat} {w : Nat → Nat} {eo : Nat → Nat → Int32} (hn : 10 ≤ n) (h1 : M 1 = .inr (3, [.int (nI G), .int (nI mo), .int (nI ta), .int sc, .int (nI mv), .ref (b + 2), .ref (b + 3), .ref (b + 4), .ref (b + 5)])) (h2 : M 2 = .inl (cI, 32, .inl ow)) (h4 : M 4 = .inl (cI, 32, .inl we)) (h6 : M 6 = .inr (4, [.ref (b + 7), .ref (b + 8), .ref (b + 9)])) (h7 : M 7 = .inl (cI, 32, .inl po)) (h8 : M 8 = .inl (cI, 33, .inl be)) (h9 : M 9 = .inl (cR, 12, .inr (.inr (.inr (.inr (fun i => if i < 12 then some (b + 9 + 1 + i) else none)))))) (hE : ∀ i, i < 12 → M (10 + i) = .inl (cI, 33, .inl (eo i))) (hG0 : 0 < G) (hG : G ≤ 32) (hn22 : 22 ≤ n) (hk0 : 0 < k) (hk : k ≤ 12) (hs_ : s_ ≤ 100) (hsl : sl = nI s_) (hw9 : ∀ g, g < G → we g = nI (w g)) (hsum : sN w G ≤ 1000) : Met l yX4_layLeast (kw yX4_layLeast cX4_layLeast 6 (some .int)) ({ frames := 3, cells := 0, slots := 0, locals := 74 }) (va_Pc [.ref (b + 6), .ref (b + 1), .int (nI k), .int sl] (kPre D (kT cI cJ cZ cH cR) b M n)) (va_Qi (fun (r : Int32) (u : (Nat → va_E) × Nat) => u.2 = n ∧ kF [7, 8, 10, 11, 12, 13, 14, 15, 16, 17, 18, 19, 20, 21] M u.1 ∧ (∃ bx : Nat → Int32, u.1 8 = .inl (cI, 33, .inl bx)) ∧ (∃ eo2 : Nat → Nat → Int32, ∀ i, i < 12 → u.1 (10 + i) = .inl (cI, 33, .inl (eo2 i))) ∧ ((¬ dpv w ow (lmN (sN w G) s_ k) G k k 0 < 1000000 ∧ r = -1 ∧ u.1 7 = .inl (cI, 32, .inl po)) ∨ (dpv w ow (lmN (sN w G) s_ k) G k k 0 < 1000000 ∧ r = nI (dpv w ow (lmN (sN w G) s_ k) G k k 0) ∧ u.1 7 = .inl (cI, 32, .inl (lay po (dpf w ow (lmN (sN w G) s_ k) G k) k))))) (kB D (kT cI cJ cZ cH cR) b) (kA b)) 0 0 (kA b) := by
  refine k_metI (by decide +kernel) (Nat.le_of_ble_eq_true rfl) ?_
  intro p e s m below meth c ls Q C hw hret hnm hl
  have hl : lv_has ls 6 [(0, .ref (b + 6)), (1, .ref (b + 1)), (2, .int (nI k)), (3, .int sl)] := hl
  have hFF : kF [7, 8, 10, 11, 12, 13, 14, 15, 16, 17, 18, 19, 20, 21] M M := kF_rf
  have hlim := lmN_le (sl := s_) hsum hs_ hk
  have hd0 : dpv w ow (lmN (sN w G) s_ k) G k 0 G = 0 := if_pos rfl
  refine lv_aload_n C.1 C.2.1 dX4_layLeast_0 rfl (lv_at hl 1 rfl) ?_
  refine k_vi C hw 1 (by omega) h1 rfl (c_X3_totalWeight (by omega) h1 h4  (by omega) (by omega)) kv_X4_27 rfl hl.1 ⟨Nat.le_of_ble_eq_true rfl, Nat.le_of_ble_eq_true rfl⟩ (Nat.le_of_ble_eq_true rfl) ⟨Nat.le_of_ble_eq_true rfl, Nat.le_of_ble_eq_true rfl⟩ dX4_layLeast_1 (fun r1 M_1 n9 H locs hp hw => ?_)
  obtain ⟨er1, en9, eM9⟩ := hp
  have en9 : n9 = n := en9
  rw [en9] at hw
  have eM9 : M_1 = M := eM9
  rw [eM9] at hw
  refine lv_iload_n C.1 C.2.1 dX4_layLeast_4 rfl (lv_at hl 3 rfl) ?_
  refine lv_iload_n C.1 C.2.1 dX4_layLeast_5 rfl (lv_at hl 2 rfl) ?_
  refine k_si C hw (c_X4_limitOf   (nI_ne100 hk0 (by omega))) kv_X4_33 rfl hl.1 ⟨Nat.le_of_ble_eq_true rfl, Nat.le_of_ble_eq_true rfl⟩ (Nat.le_of_ble_eq_true rfl) ⟨Nat.le_of_ble_eq_true rfl, Nat.le_of_ble_eq_true rfl⟩ dX4_layLeast_6 (fun r6 M_2 n9 H locs hp hw => ?_)
  obtain ⟨er6, en9, eM9⟩ := hp
  have en9 : n9 = n := en9
  rw [en9] at hw
  have eM9 : M_2 = M := eM9
  rw [eM9] at hw
  refine k_topi (y := nI (lmN (sN w G) s_ k)) (by rw [er6, er1, sm_sN hw9, hsl]; exact lmt_nI hsum hs_ hk0 hk) ?_
  refine lv_istore (lv' := [(4, .int (nI (lmN (sN w G) s_ k))), (0, .ref (b + 6)), (1, .ref (b + 1)), (2, .int (nI k)), (3, .int sl)]) C.1 C.2.1 dX4_layLeast_9 hl (by decide) rfl (fun ls hl => ?_)
  refine lv_aload_n C.1 C.2.1 dX4_layLeast_11 rfl (lv_at hl 1 rfl) ?_
  refine k_get C hw 6 (by omega) h6 rfl inlX4 1 (by decide) q_65 rfl dX4_layLeast_12 ?_
  refine lv_ldc C.1 C.2.1 C.2.2.2.1 (C.2.2.2.2.1 _ q_320) dX4_layLeast_15 ?_
  refine k_topi (y := nI 1000000) (by decide) ?_
  refine k_sv C hw (c_J7_fill_53178 (by omega) h8  (by omega)) kv_X4_38 rfl hl.1 ⟨Nat.le_of_ble_eq_true rfl, Nat.le_of_ble_eq_true rfl⟩ (Nat.le_of_ble_eq_true rfl) ⟨Nat.le_of_ble_eq_true rfl, Nat.le_of_ble_eq_true rfl⟩ dX4_layLeast_17 (fun M_3 n9 H locs hp hw => ?_)
  obtain ⟨en9, hF, h8⟩ := hp
  have en9 : n9 = n := en9
  rw [en9] at hw
  have h1 := (hF 1 (by first | decide | (simp <;> omega))).trans h1
  have h2 := (hF 2 (by first | decide | (simp <;> omega))).trans h2
  have h4 := (hF 4 (by first | decide | (simp <;> omega))).trans h4
  have h6 := (hF 6 (by first | decide | (simp <;> omega))).trans h6
  have h7 := (hF 7 (by first | decide | (simp <;> omega))).trans h7
  have h9 := (hF 9 (by first | decide | (simp <;> omega))).trans h9
  have hE := fun i hi => (hF _ (by simp <;> omega)).trans (hE i hi)
  have hFF := kF_st hFF hF (by first | decide | simp)
  refine lv_aload_n C.1 C.2.1 dX4_layLeast_20 rfl (lv_at hl 1 rfl) ?_
  refine k_get C hw 6 (by omega) h6 rfl inlX4 1 (by decide) q_65 rfl dX4_layLeast_21 ?_
  refine lv_aload_n C.1 C.2.1 dX4_layLeast_24 rfl (lv_at hl 2 rfl) ?_
  refine k_get C hw 1 (by omega) h1 rfl inlX3 0 (by decide) q_321 rfl dX4_layLeast_25 ?_
  refine lv_iconst (v := nI 0) C.1 C.2.1 dX4_layLeast_28 (by decide) ?_
  refine k_iast C hw 8 (by omega) h8 (by omega) (by first | decide | omega) dX4_layLeast_29 (fun M_4 H locs hw h8 hF => ?_)
  have h1 := (hF 1 (by first | decide | (simp <;> omega))).trans h1
  have h2 := (hF 2 (by first | decide | (simp <;> omega))).trans h2
  have h4 := (hF 4 (by first | decide | (simp <;> omega))).trans h4
  have h6 := (hF 6 (by first | decide | (simp <;> omega))).trans h6
  have h7 := (hF 7 (by first | decide | (simp <;> omega))).trans h7
  have h9 := (hF 9 (by first | decide | (simp <;> omega))).trans h9
  have hE := fun i hi => (hF _ (by simp <;> omega)).trans (hE i hi)
  have hFF := kF_st hFF hF (by first | decide | simp)
  refine lv_iload_n C.1 C.2.1 dX4_layLeast_30 rfl (lv_at hl 3 rfl) ?_
  refine lv_iconst (v := nI 1) C.1 C.2.1 dX4_layLeast_31 (by decide) ?_
  refine lv_isub C.1 C.2.1 dX4_layLeast_32 ?_
  refine k_topi (y := nI (k - 0) - nI 1) (rfl) ?_
  have hE : ∀ i, i < 12 → M_4 (10 + i) = .inl (cI, 33, .inl ((fun i => if k - 0 ≤ i ∧ i < k then rwt (eo i) (fun a => dpe w ow (lmN (sN w G) s_ k) G k i a) (G + 1) else eo i) i)) := fun i hi => (hE i hi).trans (congrArg (fun z : Nat → Int32 => (Sum.inl (cI, 33, Sum.inl z) : va_E)) (if_neg (by omega)).symm)
  refine lv_istore (lv' := [(5, .int (nI (k - 0) - nI 1)), (4, .int (nI (lmN (sN w G) s_ k))), (0, .ref (b + 6)), (1, .ref (b + 1)), (2, .int (nI k)), (3, .int sl)]) C.1 C.2.1 dX4_layLeast_33 hl (by decide) rfl (fun ls hl => ?_)
  have L35 : ∀ (N35 : Nat) (r : Nat) (v : Int32) (bx : Nat → Int32) (Mx35 : Nat → va_E), (k - r < N35) → (r ≤ k) → (v = nI (k - r) - nI 1) → (∀ j, j ≤ G → bx j = nI (dpv w ow (lmN (sN w G) s_ k) G k r j)) → kF [7, 8, 10, 11, 12, 13, 14, 15, 16, 17, 18, 19, 20, 21] M Mx35 → Mx35 1 = .inr (3, [.int (nI G), .int (nI mo), .int (nI ta), .int sc, .int (nI mv), .ref (b + 2), .ref (b + 3), .ref (b + 4), .ref (b + 5)]) → Mx35 2 = .inl (cI, 32, .inl ow) → Mx35 4 = .inl (cI, 32, .inl we) → Mx35 6 = .inr (4, [.ref (b + 7), .ref (b + 8), .ref (b + 9)]) → Mx35 7 = .inl (cI, 32, .inl po) → Mx35 8 = .inl (cI, 33, .inl bx) → Mx35 9 = .inl (cR, 12, .inr (.inr (.inr (.inr (fun i => if i < 12 then some (b + 9 + 1 + i) else none))))) → (∀ i, i < 12 → Mx35 (10 + i) = .inl (cI, 33, .inl ((fun i => if k - r ≤ i ∧ i < k then rwt (eo i) (fun a => dpe w ow (lmN (sN w G) s_ k) G k i a) (G + 1) else eo i) i))) → ∀ (ls : Array Slot) (H : Heap) (locs : List Loc), lv_has ls 6 [(5, .int v), (4, .int (nI (lmN (sN w G) s_ k))), (0, .ref (b + 6)), (1, .ref (b + 1)), (2, .int (nI k)), (3, .int sl)] → kW D b Mx35 n s.heap H locs → W p l e ({ frames := 3, cells := 0, slots := 0, locals := 74 } : Room) s m ([.ref (b + 6), .ref (b + 1), .int (nI k), .int sl] : List Value).toArray below meth c H locs 0 0 Q (F0 m 35 ls []) := by
    intro N35
    induction N35 with
    | zero => intro r v bx Mx35 hm35 hr hv hbx hFF h1 h2 h4 h6 h7 h8 h9 hE ls H locs hl hw; omega
    | succ N35 ih35 =>
      intro r v bx Mx35 hm35 hr hv hbx hFF h1 h2 h4 h6 h7 h8 h9 hE ls H locs hl hw
      refine lv_iload C.1 C.2.1 dX4_layLeast_35 (lv_at hl 0 rfl) ?_
      refine lv_if_lt (tgt := 55) C.1 C.2.1 dX4_layLeast_37 (by decide) (fun c37 => ?_) (fun c37 => ?_)
      · have q : k = r := by rcases Nat.lt_or_ge r k with z | z; rw [hv, pk_sub (by omega)] at c37; exact absurd c37 (nI_pos (by omega)); omega
        subst q
        refine lv_aload_n C.1 C.2.1 dX4_layLeast_55 rfl (lv_at hl 2 rfl) ?_
        refine k_get C hw 6 (by omega) h6 rfl inlX4 1 (by decide) q_65 rfl dX4_layLeast_56 ?_
        refine lv_iconst (v := nI 0) C.1 C.2.1 dX4_layLeast_59 (by decide) ?_
        refine k_iald C hw 8 (by omega) h8 (by omega) (by first | decide | omega) dX4_layLeast_60 ?_
        refine k_topi (y := nI (dpv w ow (lmN (sN w G) s_ k) G k k 0)) (hbx 0 (Nat.zero_le _)) ?_
        refine lv_ldc C.1 C.2.1 C.2.2.2.1 (C.2.2.2.2.1 _ q_320) dX4_layLeast_61 ?_
        refine k_topi (y := nI 1000000) (by decide) ?_
        refine lv_icmp_lt (tgt := 68) C.1 C.2.1 dX4_layLeast_63 (by decide) (fun c63 => ?_) (fun c63 => ?_)
        · have hlt : dpv w ow (lmN (sN w G) s_ k) G k k 0 < 1000000 := (nI_ltI (by have := dpv_le w ow (lmN (sN w G) s_ k) G k k 0; omega) (by omega)).mp c63
          refine lv_aload_n C.1 C.2.1 dX4_layLeast_68 rfl (lv_at hl 2 rfl) ?_
          refine lv_iload_n C.1 C.2.1 dX4_layLeast_69 rfl (lv_at hl 4 rfl) ?_
          refine k_vv C hw 6 (by omega) h6 rfl (c_X4_layChosen (F := dpf w ow (lmN (sN w G) s_ k) G k) (by omega) h6 h7 h9 hE hn22 hk rfl (fun t ht => Nat.le_of_lt (dpf_mono hlt ht)) (fun t ht => Nat.le_trans (dpf_ok hlt t ht).2 hG) (fun t ht => by have f1 := (dpf_ok hlt t (by omega)).2; have f2 := dpf_mono hlt ht; rw [if_pos (by omega)]; exact rwt_at (by omega) (by show dpf w ow (lmN (sN w G) s_ k) G k (t + 1) ≠ 0; omega))) kv_X4_52 rfl hl.1 ⟨Nat.le_of_ble_eq_true rfl, Nat.le_of_ble_eq_true rfl⟩ (Nat.le_of_ble_eq_true rfl) ⟨Nat.le_of_ble_eq_true rfl, Nat.le_of_ble_eq_true rfl⟩ dX4_layLeast_70 (fun M_5 n9 H locs hp hw => ?_)
          obtain ⟨en9, hF, h7⟩ := hp
          have en9 : n9 = n := en9
          rw [en9] at hw
          have h1 := (hF 1 (by first | decide | (simp <;> omega))).trans h1
          have h2 := (hF 2 (by first | decide | (simp <;> omega))).trans h2
          have h4 := (hF 4 (by first | decide | (simp <;> omega))).trans h4
          have h6 := (hF 6 (by first | decide | (simp <;> omega))).trans h6
          have h8 := (hF 8 (by first | decide | (simp <;> omega))).trans h8
          have h9 := (hF 9 (by first | decide | (simp <;> omega))).trans h9
          have hFF := kF_st hFF hF (by first | decide | simp)
          have hE := fun i hi => (hF _ (by simp; omega)).trans (hE i hi)
          refine lv_aload_n C.1 C.2.1 dX4_layLeast_73 rfl (lv_at hl 2 rfl) ?_
          refine k_get C hw 6 (by omega) h6 rfl inlX4 1 (by decide) q_65 rfl dX4_layLeast_74 ?_
          refine lv_iconst (v := nI 0) C.1 C.2.1 dX4_layLeast_77 (by decide) ?_
          refine k_iald C hw 8 (by omega) h8 (by omega) (by first | decide | omega) dX4_layLeast_78 ?_
          refine k_topi (y := nI (dpv w ow (lmN (sN w G) s_ k) G k k 0)) (hbx 0 (Nat.zero_le _)) ?_
          exact hret _ _ (Nat.le_of_ble_eq_true rfl) (Nat.le_of_ble_eq_true rfl) hw (⟨rfl, hFF, ⟨_, h8⟩, ⟨_, hE⟩, Or.inr ⟨hlt, rfl, h7⟩⟩) dX4_layLeast_79
        · have hlt : ¬ dpv w ow (lmN (sN w G) s_ k) G k k 0 < 1000000 := fun y => c63 ((nI_ltI (by have := dpv_le w ow (lmN (sN w G) s_ k) G k k 0; omega) (by omega)).mpr y)
          refine lv_iconst (v := (-1)) C.1 C.2.1 dX4_layLeast_66 (by decide) ?_
          exact hret _ _ (Nat.le_of_ble_eq_true rfl) (Nat.le_of_ble_eq_true rfl) hw (⟨rfl, hFF, ⟨_, h8⟩, ⟨_, hE⟩, Or.inl ⟨hlt, rfl, h7⟩⟩) dX4_layLeast_67
      · have q : r < k := by rcases Nat.lt_or_ge r k with z | z; exact z; exact absurd (by rw [hv, show k - r = 0 by omega]; decide) c37
        have hE0 : Mx35 (10 + (k - 1 - r)) = .inl (cI, 33, .inl (eo (k - 1 - r))) := (hE _ (by omega)).trans (congrArg (fun z : Nat → Int32 => (Sum.inl (cI, 33, Sum.inl z) : va_E)) (if_neg (by omega)))
        refine lv_aload_n C.1 C.2.1 dX4_layLeast_40 rfl (lv_at hl 2 rfl) ?_
        refine lv_aload_n C.1 C.2.1 dX4_layLeast_41 rfl (lv_at hl 3 rfl) ?_
        refine lv_iload C.1 C.2.1 dX4_layLeast_42 (lv_at hl 0 rfl) ?_
        refine k_topi (y := nI (k - 1 - r)) (by rw [hv, pk_sub (by omega)]; congr 1; omega) ?_
        refine lv_iload C.1 C.2.1 dX4_layLeast_44 (lv_at hl 1 rfl) ?_
        refine k_vv C hw 6 (by omega) h6 rfl (c_X4_putTaskAhead (P := 10 + (k - 1 - r)) (t := k - 1 - r) (lim := (lmN (sN w G) s_ k)) (w := w) (B := dpv w ow (lmN (sN w G) s_ k) G k r) (by omega) h1 h2 h4 h6 h8 h9 (by omega) hE0 hG0 hG rfl (by omega) hw9 hsum (fun j hj => ⟨hbx j hj, dpv_le ..⟩) hlim) kv_X4_48 rfl hl.1 ⟨Nat.le_of_ble_eq_true rfl, Nat.le_of_ble_eq_true rfl⟩ (Nat.le_of_ble_eq_true rfl) ⟨Nat.le_of_ble_eq_true rfl, Nat.le_of_ble_eq_true rfl⟩ dX4_layLeast_46 (fun M_6 n9 H locs hp hw => ?_)
        obtain ⟨en9, hF, h8, hP⟩ := hp
        have en9 : n9 = n := en9
        rw [en9] at hw
        have h1 := (hF 1 (by first | decide | (simp <;> omega))).trans h1
        have h2 := (hF 2 (by first | decide | (simp <;> omega))).trans h2
        have h4 := (hF 4 (by first | decide | (simp <;> omega))).trans h4
        have h6 := (hF 6 (by first | decide | (simp <;> omega))).trans h6
        have h7 := (hF 7 (by first | decide | (simp <;> omega))).trans h7
        have h9 := (hF 9 (by first | decide | (simp <;> omega))).trans h9
        have hFF := kF_st hFF hF (by simp; omega)
        have hE : ∀ i, i < 12 → M_6 (10 + i) = .inl (cI, 33, .inl ((fun i => if k - (r + 1) ≤ i ∧ i < k then rwt (eo i) (fun a => dpe w ow (lmN (sN w G) s_ k) G k i a) (G + 1) else eo i) i)) := fun i hi => by
          by_cases z : i = k - 1 - r
          · subst z; exact hP.trans (congrArg (fun z : Nat → Int32 => (Sum.inl (cI, 33, Sum.inl z) : va_E)) (show _ = (if k - (r + 1) ≤ k - 1 - r ∧ k - 1 - r < k then rwt (eo (k - 1 - r)) (fun a => dpe w ow (lmN (sN w G) s_ k) G k (k - 1 - r) a) (G + 1) else eo (k - 1 - r)) by rw [if_pos (by omega)]; unfold dpe; rw [show k - 1 - (k - 1 - r) = r by omega]))
          · refine ((hF (10 + i) (by simp; omega)).trans (hE i hi)).trans (congrArg (fun z : Nat → Int32 => (Sum.inl (cI, 33, Sum.inl z) : va_E)) ?_); show (if k - r ≤ i ∧ i < k then _ else _) = (if k - (r + 1) ≤ i ∧ i < k then _ else _); by_cases z2 : k - r ≤ i ∧ i < k; rw [if_pos z2, if_pos (by omega)]; rw [if_neg z2, if_neg (by omega)]
        have hbx2 : ∀ j, j ≤ G → pfx (fun a => nI (chs w (cg w ow (k - 1 - r)) (dpv w ow (lmN (sN w G) s_ k) G k r) (lmN (sN w G) s_ k) a (G - a)).1) bx (G + 1) j = nI (dpv w ow (lmN (sN w G) s_ k) G k (r + 1) j) := fun j hj => pfx_in (by omega)
        refine lv_iinc (v := (nI (k - (r + 1)) - nI 1)) (lv' := [(5, .int (nI (k - (r + 1)) - nI 1)), (4, .int (nI (lmN (sN w G) s_ k))), (0, .ref (b + 6)), (1, .ref (b + 1)), (2, .int (nI k)), (3, .int sl)]) C.1 C.2.1 dX4_layLeast_49 hl (k := 0) rfl (by rw [hv]; exact nI_dn (by omega)) (by decide) rfl (fun ls hl => ?_)
        refine lv_goto (tgt := 35) C.1 C.2.1 dX4_layLeast_52 (by decide) ?_
        exact ih35  (r + 1) (_) (_) M_6 (by omega) (by omega) (rfl) (hbx2) hFF h1 h2 h4 h6 h7 h8 h9 hE ls _ _ (lv_sub hl [0, 1, 2, 3, 4, 5] rfl) hw
  exact L35 (_ + 1) (0) (_) (_) M_4 (Nat.lt_succ_self _) (Nat.zero_le _) (rfl) (fun j hj => by unfold upd fil; by_cases z : j = G; rw [if_pos z, z, hd0]; rw [if_neg z, if_pos (by omega)]; show _ = nI (if j = G then 0 else 1000000); rw [if_neg z]) hFF h1 h2 h4 h6 h7 h8 h9 hE ls _ _ (lv_sub hl [0, 1, 2, 3, 4, 5] rfl) hw
