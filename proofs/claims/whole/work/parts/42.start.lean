theorem kv_L_9 : kIn RL 9 yX8_init cX8_init 1 0 := ⟨q_6, q_7, q_2, q_8, by decide +kernel⟩
theorem kv_L_12 : kIn RL 12 yX9_init cX9_init 1 0 := ⟨q_119, q_120, q_5, q_121, by decide +kernel⟩
theorem arr_known {s : State} {args : Array Value} {ty : FieldType} (h : (Cond.arrayClass ty).before args s = true) : ∃ cA, ArrOfT s cA ty ∧ s.vm.findClass ("[" ++ ty.toString) = some cA := by
  obtain ⟨c, k, comp, h1, h2, h3⟩ := Cond.arrayClass_spec h
  exact ⟨c, fun N z => ⟨(fun k h => by cases h), k, h2, comp, h3⟩, h1⟩
/-- classes and array classes as the tables have them -/
theorem law_world {s : State} {args : Array Value} (hts : ∀ w ∈ lw_tbl, w.before args s = true) : ∃ (D : va_G) (cI cJ cZ cH cR : ClassId), kK D (kT cI cJ cZ cH cR) s := by
  have hkb : ∀ w ∈ kBig, w.before args s = true := fun w hw => hts w (kBig_lw w hw)
  obtain ⟨c0, i0, k0⟩ := u_known (C := RX0) (T := TX0) (N := 3) (n := 3) hkb inlX0 (hkb _ q_21)
  obtain ⟨c1, i1, k1⟩ := u_known (C := RX1) (T := TX1) (N := 6) (n := 6) hkb inlX1 (hkb _ q_29)
  obtain ⟨c2, i2, k2⟩ := u_known (C := RX2) (T := TX2) (N := 4) (n := 4) hkb inlX2 (hkb _ q_25)
  obtain ⟨c3, i3, k3⟩ := u_known (C := RX3) (T := TX3) (N := 9) (n := 9) hkb inlX3 (hkb _ q_13)
  obtain ⟨c4, i4, k4⟩ := u_known (C := RX4) (T := TX4) (N := 3) (n := 3) hkb inlX4 (hkb _ q_17)
  obtain ⟨c5, i5, k5⟩ := u_known (C := RX5) (T := TX5) (N := 5) (n := 5) hkb inlX5 (hkb _ q_77)
  obtain ⟨c6, i6, k6⟩ := u_known (C := RX6) (T := TX6) (N := 2) (n := 2) hkb inlX6 (hkb _ q_73)
  obtain ⟨c7, i7, k7⟩ := u_known (C := RX7) (T := TX7) (N := 4) (n := 4) hkb inlX7 (hkb _ q_81)
  obtain ⟨c8, i8, k8⟩ := u_known (C := RX8) (T := TX8) (N := 8) (n := 8) hkb inlX8 (hkb _ q_1)
  obtain ⟨c9, i9, k9⟩ := u_known (C := RX9) (T := TX9) (N := 41) (n := 41) hkb inlX9 (hkb _ q_4)
  obtain ⟨cI, aI, rI⟩ := arr_known (hkb _ q_38)
  obtain ⟨cJ, aJ, rJ⟩ := arr_known (hkb _ q_89)
  obtain ⟨cZ, aZ, rZ⟩ := arr_known (hkb _ q_126)
  have hoH : va_AO RX0 s := va_AO.of (A := args) (hts _ (by decide +kernel))
  have hoR : kAOA s := hts (Cond.arrayOver (.array .int)) (by decide +kernel)
  obtain ⟨comp, cH, kH, h1, h2, h3, h4, h5⟩ := Cond.arrayOver_spec hoH
  obtain ⟨comp2, cR, kR, j1, j2, j3, j4, j5⟩ := arrayOver_specB hoR
  refine ⟨(fun k => if k = 0 then c0 else if k = 1 then c1 else if k = 2 then c2 else if k = 3 then c3 else if k = 4 then c4 else if k = 5 then c5 else if k = 6 then c6 else if k = 7 then c7 else if k = 8 then c8 else c9, fun k => if k = 0 then i0 else if k = 1 then i1 else if k = 2 then i2 else if k = 3 then i3 else if k = 4 then i4 else if k = 5 then i5 else if k = 6 then i6 else if k = 7 then i7 else if k = 8 then i8 else i9), cI, cJ, cZ, cH, cR, ⟨fun k q hq => ?_, fun k q hq => ?_⟩, hoH, hoR⟩
  · match k, hq with
    | 0, hq => cases hq; exact k0
    | 1, hq => cases hq; exact k1
    | 2, hq => cases hq; exact k2
    | 3, hq => cases hq; exact k3
    | 4, hq => cases hq; exact k4
    | 5, hq => cases hq; exact k5
    | 6, hq => cases hq; exact k6
    | 7, hq => cases hq; exact k7
    | 8, hq => cases hq; exact k8
    | 9, hq => cases hq; exact k9
    | k + 10, hq => simp at hq
  · match k, hq with
    | 0, hq => cases hq; exact ⟨aI, rI⟩
    | 1, hq => cases hq; exact ⟨aJ, rJ⟩
    | 2, hq => cases hq; exact ⟨aZ, rZ⟩
    | 3, hq => cases hq; exact ⟨fun N z => ⟨(fun k h => by cases h), kH, h3, comp, h4⟩, kH, comp, h3, h4, h1, h5⟩
    | 4, hq => cases hq; exact ⟨fun N z => ⟨(fun k h => by cases h), kR, j3, comp2, j4⟩, j5⟩
    | k + 5, hq => simp at hq
set_option maxHeartbeats 4000000 in
set_option maxRecDepth 100000 in
/-- THE LAW, from its entry -/
theorem whole_start {p : Program} {e : Env} {s : State} {m : MethodId} {below : List Frame} {meth : Method} {c : Code} (l : Launch) {b L : Nat} {xs : Nat → Int32} (hL : L ≤ 2048) (C0 : lw_At p s m meth c b L xs) : W p l e room_1 s m #[Value.ref b] below meth c s.heap [] 0 0 (lw_Z below #[Value.ref b] s) (entryFrame m ([Value.ref b] : List Value).toArray 4) := by
  obtain ⟨hx, hb, hr, hml, hown, hts, hX, hbl, hlocks, hgv⟩ := id C0
  obtain ⟨D, cI, cJ, cZ, cH, cR, hK⟩ := law_world hts
  have C : kC p s m c #[Value.ref b] cL_law 4 RL D (kT cI cJ cZ cH cR) := ⟨hx, hb, hml, hown, fun w hw => hts w (kBig_lw w hw), hK⟩
  have hw : kW D s.heap.size (fun _ => .inr (0, [])) 0 s.heap s.heap [] := ⟨⟨rfl, fun i hi => absurd hi (Nat.not_lt_zero i)⟩, va_S.rf⟩
  have hl := lv_entry ([.ref b]) (n := 4) (Nat.le_of_ble_eq_true rfl)
  rw [lg_entry_eq]
  generalize (lg_sl ([.ref b]) ++ List.replicate (4 - (lg_sl ([.ref b])).length) Slot.unset).toArray = ls at hl ⊢
  have hl : lv_has ls 4 [(0, .ref b)] := hl
  refine k_new (fs := [.null, .null, .null, .null, .null, .null, .int 0, .int 0]) C hw (ci := 8) rfl inlX8 tyX8 tyX8_ok q_0 q_1 q_2 (by decide +kernel) (Nat.le_of_ble_eq_true rfl) (Nat.le_of_ble_eq_true rfl) dL_law_0 (fun M0 H hw h0 hF => ?_)
  refine lv_dup C.1 C.2.1 dL_law_3 rfl ?_
  refine k_cv C hw (c_X8_init h0) kv_L_9 rfl hl.1 ⟨Nat.le_of_ble_eq_true rfl, Nat.le_of_ble_eq_true rfl⟩ (Nat.le_of_ble_eq_true rfl) ⟨Nat.le_of_ble_eq_true rfl, Nat.le_of_ble_eq_true rfl⟩ dL_law_4 (fun M1 n1 H1 locs1 hp hw1 => ?_)
  dsimp only at hp
  obtain ⟨en, f1, g0, g1, g2, g3, g4, g5, g6, g7, g8, g9, g22, g23, g24, g25, g26, g27, g28, g29, g30, g31, g32, g33, g34, g35, g36, g37, g38, g39, g40, g41, g42, gE⟩ := hp
  subst en
  refine lv_astore_n (lv' := [(1, .ref (s.heap.size + 0)), (0, .ref b)]) C.1 C.2.1 dL_law_7 rfl hl (by decide) rfl (fun ls hl => ?_)
  refine k_new (fs := [.int 0, .int 0, .int 0, .int 0, .null, .null, .null, .null, .int 0, .null, .null, .null, .null, .null, .int 0, .null, .null, .null, .int 0, .int 0, .null, .null, .int 0, .null, .null, .null, .null, .int 0, .int 0, .null, .null, .null, .null, .null, .null, .null, .null, .null, .null, .null, .null]) C hw1 (ci := 9) rfl inlX9 tyX9 tyX9_ok q_3 q_4 q_5 (by decide +kernel) (Nat.le_of_ble_eq_true rfl) (Nat.le_of_ble_eq_true rfl) dL_law_8 (fun M2 H2 hw2 h43 f2 => ?_)
  refine lv_dup C.1 C.2.1 dL_law_11 rfl ?_
  refine k_cv C hw2 (c_X9_init h43) kv_L_12 rfl hl.1 ⟨Nat.le_of_ble_eq_true rfl, Nat.le_of_ble_eq_true rfl⟩ (Nat.le_of_ble_eq_true rfl) ⟨Nat.le_of_ble_eq_true rfl, Nat.le_of_ble_eq_true rfl⟩ dL_law_12 (fun M3 n3 H3 locs3 hp hw3 => ?_)
  dsimp only at hp
  obtain ⟨en3, f3, g43, g44, g45, g46, g47, g48, g49, g50, g51, g52, g53, g54, g55, g56, g57, g58, g59, g60, g61, g62, g63, g64, g65, g66, g67, g68, g69, g70, g71, g72, g73⟩ := hp
  subst en3
  refine lv_astore_n (lv' := [(2, .ref (s.heap.size + 43)), (1, .ref (s.heap.size + 0)), (0, .ref b)]) C.1 C.2.1 dL_law_15 rfl hl (by decide) rfl (fun ls hl => ?_)
  refine lv_iconst (v := nI 0) C.1 C.2.1 dL_law_16 (by decide) ?_
  refine lv_istore_n (lv' := [(3, .int (nI (4 * 0))), (2, .ref (s.heap.size + 43)), (1, .ref (s.heap.size + 0)), (0, .ref b)]) C.1 C.2.1 dL_law_17 rfl hl (by decide) rfl (fun ls hl => ?_)
  refine W.widen (k := 74) (n := slN 74) (by decide) (by decide) ?_
  refine law_loop hL C0 C (L + 1) 0 (Nat.zero_le _) (by omega) M3 74 _ _ ls hw3 ?_ hl
  refine ⟨0, 20, 8, 4, 1, nI 0, 0, 0, 0, 0, 0, 0, 0, 0, 0, 0, fun _ => 0, ⟨(f3 0 (by decide)).trans ((f2 0 (by decide)).trans g0), (f3 1 (by decide)).trans ((f2 1 (by decide)).trans g1), (f3 6 (by decide)).trans ((f2 6 (by decide)).trans g6), (f3 9 (by decide)).trans ((f2 9 (by decide)).trans g9), (f3 22 (by decide)).trans ((f2 22 (by decide)).trans g22), (f3 23 (by decide)).trans ((f2 23 (by decide)).trans g23), (f3 26 (by decide)).trans ((f2 26 (by decide)).trans g26), (f3 30 (by decide)).trans ((f2 30 (by decide)).trans g30), (f3 33 (by decide)).trans ((f2 33 (by decide)).trans g33), (f3 37 (by decide)).trans ((f2 37 (by decide)).trans g37), g43⟩, ⟨_, _, _, _, _, _, (f3 2 (by decide)).trans ((f2 2 (by decide)).trans g2), (f3 3 (by decide)).trans ((f2 3 (by decide)).trans g3), (f3 4 (by decide)).trans ((f2 4 (by decide)).trans g4), g44, g45, g46, fun _ _ => ⟨rfl, rfl, rfl, rfl⟩⟩, ⟨_, _, (f3 5 (by decide)).trans ((f2 5 (by decide)).trans g5), g47, RMv_zero⟩, ⟨_, _, _, _, fun _ => _, (f3 7 (by decide)).trans ((f2 7 (by decide)).trans g7), (f3 8 (by decide)).trans ((f2 8 (by decide)).trans g8), g72, g73, fun i hi => (f3 (10 + i) (by simp; omega)).trans ((f2 (10 + i) (by simp; omega)).trans (gE i hi))⟩, ⟨_, _, _, _, (f3 24 (by decide)).trans ((f2 24 (by decide)).trans g24), (f3 25 (by decide)).trans ((f2 25 (by decide)).trans g25), g51, g52, fun _ _ => ⟨rfl, rfl⟩⟩, ⟨_, _, _, _, _, _, (f3 27 (by decide)).trans ((f2 27 (by decide)).trans g27), (f3 28 (by decide)).trans ((f2 28 (by decide)).trans g28), (f3 29 (by decide)).trans ((f2 29 (by decide)).trans g29), g48, g49, g50, RR_zero⟩, ⟨_, _, _, _, _, _, (f3 34 (by decide)).trans ((f2 34 (by decide)).trans g34), (f3 35 (by decide)).trans ((f2 35 (by decide)).trans g35), (f3 36 (by decide)).trans ((f2 36 (by decide)).trans g36), g53, g54, g55, fun j hj => absurd hj (Nat.not_lt_zero j)⟩, ⟨_, _, _, _, (f3 31 (by decide)).trans ((f2 31 (by decide)).trans g31), (f3 32 (by decide)).trans ((f2 32 (by decide)).trans g32), g56, g57, RT_zero⟩, ⟨_, _, _, _, _, _, _, _, (f3 38 (by decide)).trans ((f2 38 (by decide)).trans g38), (f3 39 (by decide)).trans ((f2 39 (by decide)).trans g39), (f3 40 (by decide)).trans ((f2 40 (by decide)).trans g40), (f3 41 (by decide)).trans ((f2 41 (by decide)).trans g41), g58, g59, g60, g61, RLg_empty (by decide)⟩, ⟨_, _, _, _, _, _, _, _, _, _, _, (f3 42 (by decide)).trans ((f2 42 (by decide)).trans g42), fun i hi => (if_neg (Nat.not_lt_zero i)).symm, g62, g63, g64, g65, g66, g67, g68, g69, g70, g71, fun i hi => absurd hi (Nat.not_lt_zero i)⟩, ?_⟩
  have hz := sN_zero 8
  unfold iNu
  omega
