theorem kv_X9_209 : kV RX9 RX9 209 yX9_due cX9_due 6 (some .int) 1 := ⟨q_545, q_546, q_547, q_5, q_548, by decide +kernel⟩
theorem kv_X9_212 : kV RX9 RX9 212 yX9_ring cX9_ring 5 none 1 := ⟨q_549, q_550, q_551, q_5, q_552, by decide +kernel⟩
set_option maxHeartbeats 4000000 in
set_option maxRecDepth 100000 in
theorem c_X9_timer {l : Launch} {D : va_G} {cI cJ cZ cH cR : ClassId} {b : Nat} {n : Nat} {M : Nat → va_E}  {G : Nat} {mo : Nat} {ta : Nat} {sl : Int32} {ca : Nat} {os : Nat} {tr : Int32} {ts : Nat} {lg : Nat} {mm : Nat} {sc : Int32} {mtk : Nat → Int32} {mtt : Nat → Int32} {key t : Int32} (hn : 58 ≤ n) (h43 : M 43 = .inr (9, [.int (nI G), .int (nI mo), .int (nI ta), .int sl, .ref (b + 44), .ref (b + 45), .ref (b + 46), .ref (b + 47), .int (nI ca), .ref (b + 48), .ref (b + 49), .ref (b + 50), .ref (b + 51), .ref (b + 52), .int (nI os), .ref (b + 53), .ref (b + 54), .ref (b + 55), .int tr, .int (nI ts), .ref (b + 56), .ref (b + 57), .int (nI lg), .ref (b + 58), .ref (b + 59), .ref (b + 60), .ref (b + 61), .int (nI mm), .int sc, .ref (b + 62), .ref (b + 63), .ref (b + 64), .ref (b + 65), .ref (b + 66), .ref (b + 67), .ref (b + 68), .ref (b + 69), .ref (b + 70), .ref (b + 71), .ref (b + 72), .ref (b + 73)])) (h56 : M 56 = .inl (cI, 40, .inl mtk)) (h57 : M 57 = .inl (cI, 40, .inl mtt))  (hts : ts ≤ 40) : Met l yX9_timer (kw yX9_timer cX9_timer 3 (some .int)) ({ frames := 1, cells := 0, slots := 0, locals := 20 }) (va_Pc [.ref (b + 43), .int key, .int t] (kPre D (kT cI cJ cZ cH cR) b M n)) (va_Qi (fun (r : Int32) (u : (Nat → va_E) × Nat) => u.2 = n ∧ (((¬ isK key) ∧ r = -101 ∧ u.1 = M) ∨ ((isK key ∧ ¬ (¬ t ≤ tr ∧ t ≤ nI 1000000)) ∧ r = -102 ∧ u.1 = M) ∨ ((isK key ∧ (¬ t ≤ tr ∧ t ≤ nI 1000000) ∧ ¬ ts < 40) ∧ r = -107 ∧ u.1 = M) ∨ ((isK key ∧ (¬ t ≤ tr ∧ t ≤ nI 1000000) ∧ ts < 40) ∧ r = nI (ts + 1) ∧ kF [43, 56, 57] M u.1 ∧ u.1 43 = .inr (9, [.int (nI G), .int (nI mo), .int (nI ta), .int sl, .ref (b + 44), .ref (b + 45), .ref (b + 46), .ref (b + 47), .int (nI ca), .ref (b + 48), .ref (b + 49), .ref (b + 50), .ref (b + 51), .ref (b + 52), .int (nI os), .ref (b + 53), .ref (b + 54), .ref (b + 55), .int tr, .int (nI (ts + 1)), .ref (b + 56), .ref (b + 57), .int (nI lg), .ref (b + 58), .ref (b + 59), .ref (b + 60), .ref (b + 61), .int (nI mm), .int sc, .ref (b + 62), .ref (b + 63), .ref (b + 64), .ref (b + 65), .ref (b + 66), .ref (b + 67), .ref (b + 68), .ref (b + 69), .ref (b + 70), .ref (b + 71), .ref (b + 72), .ref (b + 73)]) ∧ u.1 56 = .inl (cI, 40, .inl (upd mtk ts key)) ∧ u.1 57 = .inl (cI, 40, .inl (upd mtt ts t))))) (kB D (kT cI cJ cZ cH cR) b) (kA b)) 0 0 (kA b) := by
  refine k_metI (by decide +kernel) (Nat.le_of_ble_eq_true rfl) ?_
  intro p e s m below meth c ls Q C hw hret hnm hl
  have hl : lv_has ls 3 [(0, .ref (b + 43)), (1, .int key), (2, .int t)] := hl
  have hFF : kF [43, 56, 57] M M := kF_rf
  refine lv_iload_n C.1 C.2.1 dX9_timer_0 rfl (lv_at hl 1 rfl) ?_
  refine k_si C hw (c_X9_noKey   ) kv_X9_156 rfl hl.1 ⟨Nat.le_of_ble_eq_true rfl, Nat.le_of_ble_eq_true rfl⟩ (Nat.le_of_ble_eq_true rfl) ⟨Nat.le_of_ble_eq_true rfl, Nat.le_of_ble_eq_true rfl⟩ dX9_timer_1 (fun r1 M_1 n9 H locs hp hw => ?_)
  obtain ⟨er1, en9, eM9⟩ := hp
  have en9 : n9 = n := en9
  rw [en9] at hw
  have eM9 : M_1 = M := eM9
  rw [eM9] at hw
  refine lv_if_eq (tgt := 10) C.1 C.2.1 dX9_timer_4 (by decide) (fun c4 => ?_) (fun c4 => ?_)
  · have h4_ : isK key := Classical.byContradiction (fun z => by rw [er1, if_neg z] at c4; exact absurd c4 (by decide))
    refine lv_iload_n C.1 C.2.1 dX9_timer_10 rfl (lv_at hl 2 rfl) ?_
    refine lv_aload_n C.1 C.2.1 dX9_timer_11 rfl (lv_at hl 0 rfl) ?_
    refine k_get C hw 43 (by omega) h43 rfl inlX9 18 (by decide) q_161 rfl dX9_timer_12 ?_
    refine lv_icmp_le (tgt := 24) C.1 C.2.1 dX9_timer_15 (by decide) (fun c15 => ?_) (fun c15 => ?_)
    · refine lv_bipush (v := (-102)) C.1 C.2.1 dX9_timer_24 (by decide) ?_
      exact hret _ _ (Nat.le_of_ble_eq_true rfl) (Nat.le_of_ble_eq_true rfl) hw (⟨rfl, Or.inr (Or.inl ⟨⟨h4_, fun z => z.1 c15⟩, rfl, rfl⟩)⟩) dX9_timer_26
    · refine lv_iload_n C.1 C.2.1 dX9_timer_18 rfl (lv_at hl 2 rfl) ?_
      refine lv_ldc C.1 C.2.1 C.2.2.2.1 (C.2.2.2.2.1 _ q_512) dX9_timer_19 ?_
      refine k_topi (y := nI 1000000) (by decide) ?_
      refine lv_icmp_le (tgt := 27) C.1 C.2.1 dX9_timer_21 (by decide) (fun c21 => ?_) (fun c21 => ?_)
      · refine lv_aload_n C.1 C.2.1 dX9_timer_27 rfl (lv_at hl 0 rfl) ?_
        refine k_get C hw 43 (by omega) h43 rfl inlX9 19 (by decide) q_162 rfl dX9_timer_28 ?_
        refine lv_bipush (v := nI 40) C.1 C.2.1 dX9_timer_31 (by decide) ?_
        refine lv_icmp_ne (tgt := 39) C.1 C.2.1 dX9_timer_33 (by decide) (fun c33 => ?_) (fun c33 => ?_)
        · have hc : ts < 40 := by rcases Nat.lt_or_ge ts 40 with z | z; exact z; exact absurd (by rw [show ts = 40 by omega]) c33
          refine lv_aload_n C.1 C.2.1 dX9_timer_39 rfl (lv_at hl 0 rfl) ?_
          refine k_get C hw 43 (by omega) h43 rfl inlX9 20 (by decide) q_136 rfl dX9_timer_40 ?_
          refine lv_aload_n C.1 C.2.1 dX9_timer_43 rfl (lv_at hl 0 rfl) ?_
          refine k_get C hw 43 (by omega) h43 rfl inlX9 19 (by decide) q_162 rfl dX9_timer_44 ?_
          refine lv_iload_n C.1 C.2.1 dX9_timer_47 rfl (lv_at hl 1 rfl) ?_
          refine k_iast C hw 56 (by omega) h56 (by omega) (by first | decide | omega) dX9_timer_48 (fun M_2 H locs hw h56 hF => ?_)
          have h43 := (hF 43 (by decide)).trans h43
          have h57 := (hF 57 (by decide)).trans h57
          have hFF := kF_st hFF hF (by first | decide | simp)
          refine lv_aload_n C.1 C.2.1 dX9_timer_49 rfl (lv_at hl 0 rfl) ?_
          refine k_get C hw 43 (by omega) h43 rfl inlX9 21 (by decide) q_137 rfl dX9_timer_50 ?_
          refine lv_aload_n C.1 C.2.1 dX9_timer_53 rfl (lv_at hl 0 rfl) ?_
          refine k_get C hw 43 (by omega) h43 rfl inlX9 19 (by decide) q_162 rfl dX9_timer_54 ?_
          refine lv_iload_n C.1 C.2.1 dX9_timer_57 rfl (lv_at hl 2 rfl) ?_
          refine k_iast C hw 57 (by omega) h57 (by omega) (by first | decide | omega) dX9_timer_58 (fun M_3 H locs hw h57 hF => ?_)
          have h43 := (hF 43 (by decide)).trans h43
          have h56 := (hF 56 (by decide)).trans h56
          have hFF := kF_st hFF hF (by first | decide | simp)
          refine lv_aload_n C.1 C.2.1 dX9_timer_59 rfl (lv_at hl 0 rfl) ?_
          refine lv_dup C.1 C.2.1 dX9_timer_60 rfl ?_
          refine k_get C hw 43 (by omega) h43 rfl inlX9 19 (by decide) q_162 rfl dX9_timer_61 ?_
          refine lv_iconst (v := nI 1) C.1 C.2.1 dX9_timer_64 (by decide) ?_
          refine lv_iadd C.1 C.2.1 dX9_timer_65 ?_
          refine k_topi (y := nI (ts + 1)) (nI_add _ _) ?_
          refine k_put (tf := .int) C hw 43 (by omega) h43 rfl inlX9 tyX9 tyX9_ok nmX9 19 (by decide) q_162 rfl (by decide +kernel) rfl rfl (Nat.le_of_ble_eq_true rfl) dX9_timer_66 (fun M_4 H locs hw h43 hF => ?_)
          have h43 : M_4 43 = .inr (9, [.int (nI G), .int (nI mo), .int (nI ta), .int sl, .ref (b + 44), .ref (b + 45), .ref (b + 46), .ref (b + 47), .int (nI ca), .ref (b + 48), .ref (b + 49), .ref (b + 50), .ref (b + 51), .ref (b + 52), .int (nI os), .ref (b + 53), .ref (b + 54), .ref (b + 55), .int tr, .int (nI (ts + 1)), .ref (b + 56), .ref (b + 57), .int (nI lg), .ref (b + 58), .ref (b + 59), .ref (b + 60), .ref (b + 61), .int (nI mm), .int sc, .ref (b + 62), .ref (b + 63), .ref (b + 64), .ref (b + 65), .ref (b + 66), .ref (b + 67), .ref (b + 68), .ref (b + 69), .ref (b + 70), .ref (b + 71), .ref (b + 72), .ref (b + 73)]) := h43
          have h56 := (hF 56 (by decide)).trans h56
          have h57 := (hF 57 (by decide)).trans h57
          have hFF := kF_st hFF hF (by first | decide | simp)
          refine lv_aload_n C.1 C.2.1 dX9_timer_69 rfl (lv_at hl 0 rfl) ?_
          refine k_get C hw 43 (by omega) h43 rfl inlX9 19 (by decide) q_162 rfl dX9_timer_70 ?_
          exact hret _ _ (Nat.le_of_ble_eq_true rfl) (Nat.le_of_ble_eq_true rfl) hw (⟨rfl, Or.inr (Or.inr (Or.inr (⟨⟨h4_, ⟨c15, c21⟩, hc⟩, rfl, hFF, h43, h56, h57⟩)))⟩) dX9_timer_73
        · have hc : ¬ ts < 40 := fun z => by have := (nI_eq (by omega) (by decide)).mp c33; omega
          refine lv_bipush (v := (-107)) C.1 C.2.1 dX9_timer_36 (by decide) ?_
          exact hret _ _ (Nat.le_of_ble_eq_true rfl) (Nat.le_of_ble_eq_true rfl) hw (⟨rfl, Or.inr (Or.inr (Or.inl ⟨⟨h4_, ⟨c15, c21⟩, hc⟩, rfl, rfl⟩))⟩) dX9_timer_38
      · refine lv_bipush (v := (-102)) C.1 C.2.1 dX9_timer_24 (by decide) ?_
        exact hret _ _ (Nat.le_of_ble_eq_true rfl) (Nat.le_of_ble_eq_true rfl) hw (⟨rfl, Or.inr (Or.inl ⟨⟨h4_, fun z => c21 z.2⟩, rfl, rfl⟩)⟩) dX9_timer_26
  · have h4_ : ¬ isK key := fun z => c4 (by rw [er1, if_pos z])
    refine lv_bipush (v := (-101)) C.1 C.2.1 dX9_timer_7 (by decide) ?_
    exact hret _ _ (Nat.le_of_ble_eq_true rfl) (Nat.le_of_ble_eq_true rfl) hw (⟨rfl, Or.inl ⟨h4_, rfl, rfl⟩⟩) dX9_timer_9

set_option maxHeartbeats 4000000 in
set_option maxRecDepth 100000 in
theorem c_X9_due {l : Launch} {D : va_G} {cI cJ cZ cH cR : ClassId} {b : Nat} {n : Nat} {M : Nat → va_E}  {G : Nat} {mo : Nat} {ta : Nat} {sl : Int32} {ca : Nat} {os : Nat} {tr : Int32} {ts : Nat} {lg : Nat} {mm : Nat} {sc : Int32} {mtk : Nat → Int32} {mtt : Nat → Int32} {tu : Int32} (hn : 58 ≤ n) (h43 : M 43 = .inr (9, [.int (nI G), .int (nI mo), .int (nI ta), .int sl, .ref (b + 44), .ref (b + 45), .ref (b + 46), .ref (b + 47), .int (nI ca), .ref (b + 48), .ref (b + 49), .ref (b + 50), .ref (b + 51), .ref (b + 52), .int (nI os), .ref (b + 53), .ref (b + 54), .ref (b + 55), .int tr, .int (nI ts), .ref (b + 56), .ref (b + 57), .int (nI lg), .ref (b + 58), .ref (b + 59), .ref (b + 60), .ref (b + 61), .int (nI mm), .int sc, .ref (b + 62), .ref (b + 63), .ref (b + 64), .ref (b + 65), .ref (b + 66), .ref (b + 67), .ref (b + 68), .ref (b + 69), .ref (b + 70), .ref (b + 71), .ref (b + 72), .ref (b + 73)])) (h56 : M 56 = .inl (cI, 40, .inl mtk)) (h57 : M 57 = .inl (cI, 40, .inl mtt))  (hts : ts ≤ 40) : Met l yX9_due (kw yX9_due cX9_due 6 (some .int)) ({ frames := 0, cells := 0, slots := 0, locals := 0 }) (va_Pc [.ref (b + 43), .int tu] (kPre D (kT cI cJ cZ cH cR) b M n)) (va_Qi (fun (r : Int32) (u : (Nat → va_E) × Nat) => r = (oI (dN tu mtk mtt ts)) ∧ u.2 = n ∧ u.1 = M) (kB D (kT cI cJ cZ cH cR) b) (kA b)) 0 0 (kA b) := by
  refine k_metI (by decide +kernel) (Nat.le_of_ble_eq_true rfl) ?_
  intro p e s m below meth c ls Q C hw hret hnm hl
  have hl : lv_has ls 6 [(0, .ref (b + 43)), (1, .int tu)] := hl
  refine lv_bipush (v := (-106)) C.1 C.2.1 dX9_due_0 (by decide) ?_
  refine lv_istore_n (lv' := [(2, .int (-106)), (0, .ref (b + 43)), (1, .int tu)]) C.1 C.2.1 dX9_due_2 rfl hl (by decide) rfl (fun ls hl => ?_)
  refine lv_iconst (v := nI 0) C.1 C.2.1 dX9_due_3 (by decide) ?_
  refine lv_istore_n (lv' := [(3, .int (nI 0)), (2, .int (-106)), (0, .ref (b + 43)), (1, .int tu)]) C.1 C.2.1 dX9_due_4 rfl hl (by decide) rfl (fun ls hl => ?_)
  have L5 : ∀ (N5 : Nat) (i : Nat) (at_ : Int32), (ts - i < N5) → (i ≤ ts) → (at_ = oI (dN tu mtk mtt i)) → ∀ (ls : Array Slot) (H : Heap) (locs : List Loc), lv_has ls 6 [(3, .int (nI i)), (2, .int at_), (0, .ref (b + 43)), (1, .int tu)] → kW D b M n s.heap H locs → W p l e ({ frames := 0, cells := 0, slots := 0, locals := 0 } : Room) s m ([.ref (b + 43), .int tu] : List Value).toArray below meth c H locs 0 0 Q (F0 m 5 ls []) := by
    intro N5
    induction N5 with
    | zero => intro i at_ hm5 hi hat ls H locs hl hw; omega
    | succ N5 ih5 =>
      intro i at_ hm5 hi hat ls H locs hl hw
      refine lv_iload_n C.1 C.2.1 dX9_due_5 rfl (lv_at hl 0 rfl) ?_
      refine lv_aload_n C.1 C.2.1 dX9_due_6 rfl (lv_at hl 2 rfl) ?_
      refine k_get C hw 43 (by omega) h43 rfl inlX9 19 (by decide) q_162 rfl dX9_due_7 ?_
      refine lv_icmp_ge (tgt := 110) C.1 C.2.1 dX9_due_10 (by decide) (fun c10 => ?_) (fun c10 => ?_)
      · have q10 := (nI_leI (by omega) (by omega)).mp c10
        have q10 : i = ts := by omega
        refine lv_iload_n C.1 C.2.1 dX9_due_110 rfl (lv_at hl 1 rfl) ?_
        exact hret _ _ (Nat.le_of_ble_eq_true rfl) (Nat.le_of_ble_eq_true rfl) hw (⟨by rw [hat, q10], rfl, rfl⟩) dX9_due_111
      · have q10 : ¬ ts ≤ i := fun z => c10 ((nI_leI (by omega) (by omega)).mpr z)
        have hdl : ∀ b, (dN tu mtk mtt i) = some b → b < 1000 := fun b h => by have := (dN_lt h).1; omega
        refine lv_iload_n C.1 C.2.1 dX9_due_13 rfl (lv_at hl 1 rfl) ?_
        refine lv_if_ge (tgt := 21) C.1 C.2.1 dX9_due_14 (by decide) (fun c14 => ?_) (fun c14 => ?_)
        · have hsb0 : ¬ (dN tu mtk mtt i) = none := fun z => absurd ((oI_neg hdl).mpr z) (by rw [← hat]; exact Int32.not_lt.mpr c14)
          obtain ⟨b9, hsb⟩ := Option.ne_none_iff_exists'.mp hsb0
          have hbl := (dN_lt hsb).1
          have eb : at_ = nI b9 := by rw [hat, hsb]; rfl
          refine lv_iload_n C.1 C.2.1 dX9_due_21 rfl (lv_at hl 1 rfl) ?_
          refine k_topi (y := nI b9) (eb) ?_
          refine lv_istore (lv' := [(4, .int (nI b9)), (3, .int (nI i)), (2, .int at_), (0, .ref (b + 43)), (1, .int tu)]) C.1 C.2.1 dX9_due_22 hl (by decide) rfl (fun ls hl => ?_)
          refine lv_aload_n C.1 C.2.1 dX9_due_24 rfl (lv_at hl 3 rfl) ?_
          refine k_get C hw 43 (by omega) h43 rfl inlX9 21 (by decide) q_137 rfl dX9_due_25 ?_
          refine lv_iload_n C.1 C.2.1 dX9_due_28 rfl (lv_at hl 1 rfl) ?_
          refine k_iald C hw 57 (by omega) h57 (by omega) (by first | decide | omega) dX9_due_29 ?_
          refine lv_aload_n C.1 C.2.1 dX9_due_30 rfl (lv_at hl 3 rfl) ?_
          refine k_get C hw 43 (by omega) h43 rfl inlX9 21 (by decide) q_137 rfl dX9_due_31 ?_
          refine lv_iload C.1 C.2.1 dX9_due_34 (lv_at hl 0 rfl) ?_
          refine k_iald C hw 57 (by omega) h57 (by omega) (by first | decide | omega) dX9_due_36 ?_
          refine lv_icmp_lt (tgt := 72) C.1 C.2.1 dX9_due_37 (by decide) (fun c37 => ?_) (fun c37 => ?_)
          · refine lv_iconst (v := nI 1) C.1 C.2.1 dX9_due_72 (by decide) ?_
            refine lv_goto (tgt := 77) C.1 C.2.1 dX9_due_73 (by decide) ?_
            refine lv_istore (lv' := [(5, .int (nI 1)), (4, .int (nI b9)), (3, .int (nI i)), (2, .int at_), (0, .ref (b + 43)), (1, .int tu)]) C.1 C.2.1 dX9_due_77 hl (by decide) rfl (fun ls hl => ?_)
            refine lv_aload_n C.1 C.2.1 dX9_due_79 rfl (lv_at hl 4 rfl) ?_
            refine k_get C hw 43 (by omega) h43 rfl inlX9 21 (by decide) q_137 rfl dX9_due_80 ?_
            refine lv_iload_n C.1 C.2.1 dX9_due_83 rfl (lv_at hl 2 rfl) ?_
            refine k_iald C hw 57 (by omega) h57 (by omega) (by first | decide | omega) dX9_due_84 ?_
            refine lv_iload_n C.1 C.2.1 dX9_due_85 rfl (lv_at hl 5 rfl) ?_
            refine lv_icmp_gt (tgt := 102) C.1 C.2.1 dX9_due_86 (by decide) (fun c86 => ?_) (fun c86 => ?_)
            · refine lv_iload_n C.1 C.2.1 dX9_due_102 rfl (lv_at hl 3 rfl) ?_
              refine lv_istore_n (lv' := [(2, .int at_), (5, .int (nI 1)), (4, .int (nI b9)), (3, .int (nI i)), (0, .ref (b + 43)), (1, .int tu)]) C.1 C.2.1 dX9_due_103 rfl hl (by decide) rfl (fun ls hl => ?_)
              refine lv_iinc (v := (nI (i + 1))) (lv' := [(3, .int (nI (i + 1))), (2, .int at_), (5, .int (nI 1)), (4, .int (nI b9)), (0, .ref (b + 43)), (1, .int tu)]) C.1 C.2.1 dX9_due_104 hl (k := 3) rfl (k_inc _ 1) (by decide) rfl (fun ls hl => ?_)
              refine lv_goto (tgt := 5) C.1 C.2.1 dX9_due_107 (by decide) ?_
              exact ih5  (i + 1) (_) (by omega) (by omega) (by rw [dN_s hsb, if_neg (fun z => absurd z.1 (Int32.not_le.mpr c86))]; rw [hat, hsb]) ls _ _ (lv_sub hl [0, 1, 4, 5] rfl) hw
            · refine lv_iload_n C.1 C.2.1 dX9_due_89 rfl (lv_at hl 3 rfl) ?_
              refine lv_if_lt (tgt := 98) C.1 C.2.1 dX9_due_90 (by decide) (fun c90 => ?_) (fun c90 => ?_)
              · exact absurd c90 (Int32.not_lt.mpr c14)
              · refine lv_iload C.1 C.2.1 dX9_due_93 (lv_at hl 0 rfl) ?_
                refine lv_if_eq (tgt := 102) C.1 C.2.1 dX9_due_95 (by decide) (fun c95 => ?_) (fun c95 => ?_)
                · exact absurd c95 (by decide)
                · refine lv_iload_n C.1 C.2.1 dX9_due_98 rfl (lv_at hl 2 rfl) ?_
                  refine lv_goto (tgt := 103) C.1 C.2.1 dX9_due_99 (by decide) ?_
                  refine lv_istore_n (lv' := [(2, .int (nI i)), (5, .int (nI 1)), (4, .int (nI b9)), (3, .int (nI i)), (0, .ref (b + 43)), (1, .int tu)]) C.1 C.2.1 dX9_due_103 rfl hl (by decide) rfl (fun ls hl => ?_)
                  refine lv_iinc (v := (nI (i + 1))) (lv' := [(3, .int (nI (i + 1))), (2, .int (nI i)), (5, .int (nI 1)), (4, .int (nI b9)), (0, .ref (b + 43)), (1, .int tu)]) C.1 C.2.1 dX9_due_104 hl (k := 3) rfl (k_inc _ 1) (by decide) rfl (fun ls hl => ?_)
                  refine lv_goto (tgt := 5) C.1 C.2.1 dX9_due_107 (by decide) ?_
                  exact ih5  (i + 1) (_) (by omega) (by omega) (by rw [dN_s hsb, if_pos ⟨Int32.not_lt.mp c86, Or.inl c37⟩]; rfl) ls _ _ (lv_sub hl [0, 1, 4, 5] rfl) hw
          · refine lv_aload_n C.1 C.2.1 dX9_due_40 rfl (lv_at hl 3 rfl) ?_
            refine k_get C hw 43 (by omega) h43 rfl inlX9 21 (by decide) q_137 rfl dX9_due_41 ?_
            refine lv_iload_n C.1 C.2.1 dX9_due_44 rfl (lv_at hl 1 rfl) ?_
            refine k_iald C hw 57 (by omega) h57 (by omega) (by first | decide | omega) dX9_due_45 ?_
            refine lv_aload_n C.1 C.2.1 dX9_due_46 rfl (lv_at hl 3 rfl) ?_
            refine k_get C hw 43 (by omega) h43 rfl inlX9 21 (by decide) q_137 rfl dX9_due_47 ?_
            refine lv_iload C.1 C.2.1 dX9_due_50 (lv_at hl 0 rfl) ?_
            refine k_iald C hw 57 (by omega) h57 (by omega) (by first | decide | omega) dX9_due_52 ?_
            refine lv_icmp_ne (tgt := 76) C.1 C.2.1 dX9_due_53 (by decide) (fun c53 => ?_) (fun c53 => ?_)
            · refine lv_iconst (v := nI 0) C.1 C.2.1 dX9_due_76 (by decide) ?_
              refine lv_istore (lv' := [(5, .int (nI 0)), (4, .int (nI b9)), (3, .int (nI i)), (2, .int at_), (0, .ref (b + 43)), (1, .int tu)]) C.1 C.2.1 dX9_due_77 hl (by decide) rfl (fun ls hl => ?_)
              refine lv_aload_n C.1 C.2.1 dX9_due_79 rfl (lv_at hl 4 rfl) ?_
              refine k_get C hw 43 (by omega) h43 rfl inlX9 21 (by decide) q_137 rfl dX9_due_80 ?_
              refine lv_iload_n C.1 C.2.1 dX9_due_83 rfl (lv_at hl 2 rfl) ?_
              refine k_iald C hw 57 (by omega) h57 (by omega) (by first | decide | omega) dX9_due_84 ?_
              refine lv_iload_n C.1 C.2.1 dX9_due_85 rfl (lv_at hl 5 rfl) ?_
              refine lv_icmp_gt (tgt := 102) C.1 C.2.1 dX9_due_86 (by decide) (fun c86 => ?_) (fun c86 => ?_)
              · refine lv_iload_n C.1 C.2.1 dX9_due_102 rfl (lv_at hl 3 rfl) ?_
                refine lv_istore_n (lv' := [(2, .int at_), (5, .int (nI 0)), (4, .int (nI b9)), (3, .int (nI i)), (0, .ref (b + 43)), (1, .int tu)]) C.1 C.2.1 dX9_due_103 rfl hl (by decide) rfl (fun ls hl => ?_)
                refine lv_iinc (v := (nI (i + 1))) (lv' := [(3, .int (nI (i + 1))), (2, .int at_), (5, .int (nI 0)), (4, .int (nI b9)), (0, .ref (b + 43)), (1, .int tu)]) C.1 C.2.1 dX9_due_104 hl (k := 3) rfl (k_inc _ 1) (by decide) rfl (fun ls hl => ?_)
                refine lv_goto (tgt := 5) C.1 C.2.1 dX9_due_107 (by decide) ?_
                exact ih5  (i + 1) (_) (by omega) (by omega) (by rw [dN_s hsb, if_neg (fun z => absurd z.1 (Int32.not_le.mpr c86))]; rw [hat, hsb]) ls _ _ (lv_sub hl [0, 1, 4, 5] rfl) hw
              · refine lv_iload_n C.1 C.2.1 dX9_due_89 rfl (lv_at hl 3 rfl) ?_
                refine lv_if_lt (tgt := 98) C.1 C.2.1 dX9_due_90 (by decide) (fun c90 => ?_) (fun c90 => ?_)
                · exact absurd c90 (Int32.not_lt.mpr c14)
                · refine lv_iload C.1 C.2.1 dX9_due_93 (lv_at hl 0 rfl) ?_
                  refine lv_if_eq (tgt := 102) C.1 C.2.1 dX9_due_95 (by decide) (fun c95 => ?_) (fun c95 => ?_)
                  · refine lv_iload_n C.1 C.2.1 dX9_due_102 rfl (lv_at hl 3 rfl) ?_
                    refine lv_istore_n (lv' := [(2, .int at_), (5, .int (nI 0)), (4, .int (nI b9)), (3, .int (nI i)), (0, .ref (b + 43)), (1, .int tu)]) C.1 C.2.1 dX9_due_103 rfl hl (by decide) rfl (fun ls hl => ?_)
                    refine lv_iinc (v := (nI (i + 1))) (lv' := [(3, .int (nI (i + 1))), (2, .int at_), (5, .int (nI 0)), (4, .int (nI b9)), (0, .ref (b + 43)), (1, .int tu)]) C.1 C.2.1 dX9_due_104 hl (k := 3) rfl (k_inc _ 1) (by decide) rfl (fun ls hl => ?_)
                    refine lv_goto (tgt := 5) C.1 C.2.1 dX9_due_107 (by decide) ?_
                    exact ih5  (i + 1) (_) (by omega) (by omega) (by rw [dN_s hsb, if_neg (fun z => (fun z => z.elim c37 (fun y => c53 y.1)) z.2)]; rw [hat, hsb]) ls _ _ (lv_sub hl [0, 1, 4, 5] rfl) hw
                  · exact absurd rfl c95
            · refine lv_aload_n C.1 C.2.1 dX9_due_56 rfl (lv_at hl 3 rfl) ?_
              refine k_get C hw 43 (by omega) h43 rfl inlX9 20 (by decide) q_136 rfl dX9_due_57 ?_
              refine lv_iload_n C.1 C.2.1 dX9_due_60 rfl (lv_at hl 1 rfl) ?_
              refine k_iald C hw 56 (by omega) h56 (by omega) (by first | decide | omega) dX9_due_61 ?_
              refine lv_aload_n C.1 C.2.1 dX9_due_62 rfl (lv_at hl 3 rfl) ?_
              refine k_get C hw 43 (by omega) h43 rfl inlX9 20 (by decide) q_136 rfl dX9_due_63 ?_
              refine lv_iload C.1 C.2.1 dX9_due_66 (lv_at hl 0 rfl) ?_
              refine k_iald C hw 56 (by omega) h56 (by omega) (by first | decide | omega) dX9_due_68 ?_
              refine lv_icmp_ge (tgt := 76) C.1 C.2.1 dX9_due_69 (by decide) (fun c69 => ?_) (fun c69 => ?_)
              · refine lv_iconst (v := nI 0) C.1 C.2.1 dX9_due_76 (by decide) ?_
                refine lv_istore (lv' := [(5, .int (nI 0)), (4, .int (nI b9)), (3, .int (nI i)), (2, .int at_), (0, .ref (b + 43)), (1, .int tu)]) C.1 C.2.1 dX9_due_77 hl (by decide) rfl (fun ls hl => ?_)
                refine lv_aload_n C.1 C.2.1 dX9_due_79 rfl (lv_at hl 4 rfl) ?_
                refine k_get C hw 43 (by omega) h43 rfl inlX9 21 (by decide) q_137 rfl dX9_due_80 ?_
                refine lv_iload_n C.1 C.2.1 dX9_due_83 rfl (lv_at hl 2 rfl) ?_
                refine k_iald C hw 57 (by omega) h57 (by omega) (by first | decide | omega) dX9_due_84 ?_
                refine lv_iload_n C.1 C.2.1 dX9_due_85 rfl (lv_at hl 5 rfl) ?_
                refine lv_icmp_gt (tgt := 102) C.1 C.2.1 dX9_due_86 (by decide) (fun c86 => ?_) (fun c86 => ?_)
                · refine lv_iload_n C.1 C.2.1 dX9_due_102 rfl (lv_at hl 3 rfl) ?_
                  refine lv_istore_n (lv' := [(2, .int at_), (5, .int (nI 0)), (4, .int (nI b9)), (3, .int (nI i)), (0, .ref (b + 43)), (1, .int tu)]) C.1 C.2.1 dX9_due_103 rfl hl (by decide) rfl (fun ls hl => ?_)
                  refine lv_iinc (v := (nI (i + 1))) (lv' := [(3, .int (nI (i + 1))), (2, .int at_), (5, .int (nI 0)), (4, .int (nI b9)), (0, .ref (b + 43)), (1, .int tu)]) C.1 C.2.1 dX9_due_104 hl (k := 3) rfl (k_inc _ 1) (by decide) rfl (fun ls hl => ?_)
                  refine lv_goto (tgt := 5) C.1 C.2.1 dX9_due_107 (by decide) ?_
                  exact ih5  (i + 1) (_) (by omega) (by omega) (by rw [dN_s hsb, if_neg (fun z => absurd z.1 (Int32.not_le.mpr c86))]; rw [hat, hsb]) ls _ _ (lv_sub hl [0, 1, 4, 5] rfl) hw
                · refine lv_iload_n C.1 C.2.1 dX9_due_89 rfl (lv_at hl 3 rfl) ?_
                  refine lv_if_lt (tgt := 98) C.1 C.2.1 dX9_due_90 (by decide) (fun c90 => ?_) (fun c90 => ?_)
                  · exact absurd c90 (Int32.not_lt.mpr c14)
                  · refine lv_iload C.1 C.2.1 dX9_due_93 (lv_at hl 0 rfl) ?_
                    refine lv_if_eq (tgt := 102) C.1 C.2.1 dX9_due_95 (by decide) (fun c95 => ?_) (fun c95 => ?_)
                    · refine lv_iload_n C.1 C.2.1 dX9_due_102 rfl (lv_at hl 3 rfl) ?_
                      refine lv_istore_n (lv' := [(2, .int at_), (5, .int (nI 0)), (4, .int (nI b9)), (3, .int (nI i)), (0, .ref (b + 43)), (1, .int tu)]) C.1 C.2.1 dX9_due_103 rfl hl (by decide) rfl (fun ls hl => ?_)
                      refine lv_iinc (v := (nI (i + 1))) (lv' := [(3, .int (nI (i + 1))), (2, .int at_), (5, .int (nI 0)), (4, .int (nI b9)), (0, .ref (b + 43)), (1, .int tu)]) C.1 C.2.1 dX9_due_104 hl (k := 3) rfl (k_inc _ 1) (by decide) rfl (fun ls hl => ?_)
                      refine lv_goto (tgt := 5) C.1 C.2.1 dX9_due_107 (by decide) ?_
                      exact ih5  (i + 1) (_) (by omega) (by omega) (by rw [dN_s hsb, if_neg (fun z => (fun z => z.elim c37 (fun y => absurd y.2 (Int32.not_lt.mpr c69))) z.2)]; rw [hat, hsb]) ls _ _ (lv_sub hl [0, 1, 4, 5] rfl) hw
                    · exact absurd rfl c95
              · refine lv_iconst (v := nI 1) C.1 C.2.1 dX9_due_72 (by decide) ?_
                refine lv_goto (tgt := 77) C.1 C.2.1 dX9_due_73 (by decide) ?_
                refine lv_istore (lv' := [(5, .int (nI 1)), (4, .int (nI b9)), (3, .int (nI i)), (2, .int at_), (0, .ref (b + 43)), (1, .int tu)]) C.1 C.2.1 dX9_due_77 hl (by decide) rfl (fun ls hl => ?_)
                refine lv_aload_n C.1 C.2.1 dX9_due_79 rfl (lv_at hl 4 rfl) ?_
                refine k_get C hw 43 (by omega) h43 rfl inlX9 21 (by decide) q_137 rfl dX9_due_80 ?_
                refine lv_iload_n C.1 C.2.1 dX9_due_83 rfl (lv_at hl 2 rfl) ?_
                refine k_iald C hw 57 (by omega) h57 (by omega) (by first | decide | omega) dX9_due_84 ?_
                refine lv_iload_n C.1 C.2.1 dX9_due_85 rfl (lv_at hl 5 rfl) ?_
                refine lv_icmp_gt (tgt := 102) C.1 C.2.1 dX9_due_86 (by decide) (fun c86 => ?_) (fun c86 => ?_)
                · refine lv_iload_n C.1 C.2.1 dX9_due_102 rfl (lv_at hl 3 rfl) ?_
                  refine lv_istore_n (lv' := [(2, .int at_), (5, .int (nI 1)), (4, .int (nI b9)), (3, .int (nI i)), (0, .ref (b + 43)), (1, .int tu)]) C.1 C.2.1 dX9_due_103 rfl hl (by decide) rfl (fun ls hl => ?_)
                  refine lv_iinc (v := (nI (i + 1))) (lv' := [(3, .int (nI (i + 1))), (2, .int at_), (5, .int (nI 1)), (4, .int (nI b9)), (0, .ref (b + 43)), (1, .int tu)]) C.1 C.2.1 dX9_due_104 hl (k := 3) rfl (k_inc _ 1) (by decide) rfl (fun ls hl => ?_)
                  refine lv_goto (tgt := 5) C.1 C.2.1 dX9_due_107 (by decide) ?_
                  exact ih5  (i + 1) (_) (by omega) (by omega) (by rw [dN_s hsb, if_neg (fun z => absurd z.1 (Int32.not_le.mpr c86))]; rw [hat, hsb]) ls _ _ (lv_sub hl [0, 1, 4, 5] rfl) hw
                · refine lv_iload_n C.1 C.2.1 dX9_due_89 rfl (lv_at hl 3 rfl) ?_
                  refine lv_if_lt (tgt := 98) C.1 C.2.1 dX9_due_90 (by decide) (fun c90 => ?_) (fun c90 => ?_)
                  · exact absurd c90 (Int32.not_lt.mpr c14)
                  · refine lv_iload C.1 C.2.1 dX9_due_93 (lv_at hl 0 rfl) ?_
                    refine lv_if_eq (tgt := 102) C.1 C.2.1 dX9_due_95 (by decide) (fun c95 => ?_) (fun c95 => ?_)
                    · exact absurd c95 (by decide)
                    · refine lv_iload_n C.1 C.2.1 dX9_due_98 rfl (lv_at hl 2 rfl) ?_
                      refine lv_goto (tgt := 103) C.1 C.2.1 dX9_due_99 (by decide) ?_
                      refine lv_istore_n (lv' := [(2, .int (nI i)), (5, .int (nI 1)), (4, .int (nI b9)), (3, .int (nI i)), (0, .ref (b + 43)), (1, .int tu)]) C.1 C.2.1 dX9_due_103 rfl hl (by decide) rfl (fun ls hl => ?_)
                      refine lv_iinc (v := (nI (i + 1))) (lv' := [(3, .int (nI (i + 1))), (2, .int (nI i)), (5, .int (nI 1)), (4, .int (nI b9)), (0, .ref (b + 43)), (1, .int tu)]) C.1 C.2.1 dX9_due_104 hl (k := 3) rfl (k_inc _ 1) (by decide) rfl (fun ls hl => ?_)
                      refine lv_goto (tgt := 5) C.1 C.2.1 dX9_due_107 (by decide) ?_
                      exact ih5  (i + 1) (_) (by omega) (by omega) (by rw [dN_s hsb, if_pos ⟨Int32.not_lt.mp c86, Or.inr ⟨c53, Int32.not_le.mp c69⟩⟩]; rfl) ls _ _ (lv_sub hl [0, 1, 4, 5] rfl) hw
        · have hno : (dN tu mtk mtt i) = none := (oI_neg hdl).mp (by rw [← hat]; exact Int32.not_le.mp c14)
          refine lv_iconst (v := nI 0) C.1 C.2.1 dX9_due_17 (by decide) ?_
          refine lv_goto (tgt := 22) C.1 C.2.1 dX9_due_18 (by decide) ?_
          refine lv_istore (lv' := [(4, .int (nI 0)), (3, .int (nI i)), (2, .int at_), (0, .ref (b + 43)), (1, .int tu)]) C.1 C.2.1 dX9_due_22 hl (by decide) rfl (fun ls hl => ?_)
          refine lv_aload_n C.1 C.2.1 dX9_due_24 rfl (lv_at hl 3 rfl) ?_
          refine k_get C hw 43 (by omega) h43 rfl inlX9 21 (by decide) q_137 rfl dX9_due_25 ?_
          refine lv_iload_n C.1 C.2.1 dX9_due_28 rfl (lv_at hl 1 rfl) ?_
          refine k_iald C hw 57 (by omega) h57 (by omega) (by first | decide | omega) dX9_due_29 ?_
          refine lv_aload_n C.1 C.2.1 dX9_due_30 rfl (lv_at hl 3 rfl) ?_
          refine k_get C hw 43 (by omega) h43 rfl inlX9 21 (by decide) q_137 rfl dX9_due_31 ?_
          refine lv_iload C.1 C.2.1 dX9_due_34 (lv_at hl 0 rfl) ?_
          refine k_iald C hw 57 (by omega) h57 (by omega) (by first | decide | omega) dX9_due_36 ?_
          refine lv_icmp_lt (tgt := 72) C.1 C.2.1 dX9_due_37 (by decide) (fun c37 => ?_) (fun c37 => ?_)
          · refine lv_iconst (v := nI 1) C.1 C.2.1 dX9_due_72 (by decide) ?_
            refine lv_goto (tgt := 77) C.1 C.2.1 dX9_due_73 (by decide) ?_
            refine lv_istore (lv' := [(5, .int (nI 1)), (4, .int (nI 0)), (3, .int (nI i)), (2, .int at_), (0, .ref (b + 43)), (1, .int tu)]) C.1 C.2.1 dX9_due_77 hl (by decide) rfl (fun ls hl => ?_)
            refine lv_aload_n C.1 C.2.1 dX9_due_79 rfl (lv_at hl 4 rfl) ?_
            refine k_get C hw 43 (by omega) h43 rfl inlX9 21 (by decide) q_137 rfl dX9_due_80 ?_
            refine lv_iload_n C.1 C.2.1 dX9_due_83 rfl (lv_at hl 2 rfl) ?_
            refine k_iald C hw 57 (by omega) h57 (by omega) (by first | decide | omega) dX9_due_84 ?_
            refine lv_iload_n C.1 C.2.1 dX9_due_85 rfl (lv_at hl 5 rfl) ?_
            refine lv_icmp_gt (tgt := 102) C.1 C.2.1 dX9_due_86 (by decide) (fun c86 => ?_) (fun c86 => ?_)
            · refine lv_iload_n C.1 C.2.1 dX9_due_102 rfl (lv_at hl 3 rfl) ?_
              refine lv_istore_n (lv' := [(2, .int at_), (5, .int (nI 1)), (4, .int (nI 0)), (3, .int (nI i)), (0, .ref (b + 43)), (1, .int tu)]) C.1 C.2.1 dX9_due_103 rfl hl (by decide) rfl (fun ls hl => ?_)
              refine lv_iinc (v := (nI (i + 1))) (lv' := [(3, .int (nI (i + 1))), (2, .int at_), (5, .int (nI 1)), (4, .int (nI 0)), (0, .ref (b + 43)), (1, .int tu)]) C.1 C.2.1 dX9_due_104 hl (k := 3) rfl (k_inc _ 1) (by decide) rfl (fun ls hl => ?_)
              refine lv_goto (tgt := 5) C.1 C.2.1 dX9_due_107 (by decide) ?_
              exact ih5  (i + 1) (_) (by omega) (by omega) (by rw [dN_n hno, if_neg (Int32.not_le.mpr c86)]; rw [hat, hno]) ls _ _ (lv_sub hl [0, 1, 4, 5] rfl) hw
            · refine lv_iload_n C.1 C.2.1 dX9_due_89 rfl (lv_at hl 3 rfl) ?_
              refine lv_if_lt (tgt := 98) C.1 C.2.1 dX9_due_90 (by decide) (fun c90 => ?_) (fun c90 => ?_)
              · refine lv_iload_n C.1 C.2.1 dX9_due_98 rfl (lv_at hl 2 rfl) ?_
                refine lv_goto (tgt := 103) C.1 C.2.1 dX9_due_99 (by decide) ?_
                refine lv_istore_n (lv' := [(2, .int (nI i)), (5, .int (nI 1)), (4, .int (nI 0)), (3, .int (nI i)), (0, .ref (b + 43)), (1, .int tu)]) C.1 C.2.1 dX9_due_103 rfl hl (by decide) rfl (fun ls hl => ?_)
                refine lv_iinc (v := (nI (i + 1))) (lv' := [(3, .int (nI (i + 1))), (2, .int (nI i)), (5, .int (nI 1)), (4, .int (nI 0)), (0, .ref (b + 43)), (1, .int tu)]) C.1 C.2.1 dX9_due_104 hl (k := 3) rfl (k_inc _ 1) (by decide) rfl (fun ls hl => ?_)
                refine lv_goto (tgt := 5) C.1 C.2.1 dX9_due_107 (by decide) ?_
                exact ih5  (i + 1) (_) (by omega) (by omega) (by rw [dN_n hno, if_pos (Int32.not_lt.mp c86)]; rfl) ls _ _ (lv_sub hl [0, 1, 4, 5] rfl) hw
              · exact absurd (Int32.not_le.mp c14) c90
          · refine lv_aload_n C.1 C.2.1 dX9_due_40 rfl (lv_at hl 3 rfl) ?_
            refine k_get C hw 43 (by omega) h43 rfl inlX9 21 (by decide) q_137 rfl dX9_due_41 ?_
            refine lv_iload_n C.1 C.2.1 dX9_due_44 rfl (lv_at hl 1 rfl) ?_
            refine k_iald C hw 57 (by omega) h57 (by omega) (by first | decide | omega) dX9_due_45 ?_
            refine lv_aload_n C.1 C.2.1 dX9_due_46 rfl (lv_at hl 3 rfl) ?_
            refine k_get C hw 43 (by omega) h43 rfl inlX9 21 (by decide) q_137 rfl dX9_due_47 ?_
            refine lv_iload C.1 C.2.1 dX9_due_50 (lv_at hl 0 rfl) ?_
            refine k_iald C hw 57 (by omega) h57 (by omega) (by first | decide | omega) dX9_due_52 ?_
            refine lv_icmp_ne (tgt := 76) C.1 C.2.1 dX9_due_53 (by decide) (fun c53 => ?_) (fun c53 => ?_)
            · refine lv_iconst (v := nI 0) C.1 C.2.1 dX9_due_76 (by decide) ?_
              refine lv_istore (lv' := [(5, .int (nI 0)), (4, .int (nI 0)), (3, .int (nI i)), (2, .int at_), (0, .ref (b + 43)), (1, .int tu)]) C.1 C.2.1 dX9_due_77 hl (by decide) rfl (fun ls hl => ?_)
              refine lv_aload_n C.1 C.2.1 dX9_due_79 rfl (lv_at hl 4 rfl) ?_
              refine k_get C hw 43 (by omega) h43 rfl inlX9 21 (by decide) q_137 rfl dX9_due_80 ?_
              refine lv_iload_n C.1 C.2.1 dX9_due_83 rfl (lv_at hl 2 rfl) ?_
              refine k_iald C hw 57 (by omega) h57 (by omega) (by first | decide | omega) dX9_due_84 ?_
              refine lv_iload_n C.1 C.2.1 dX9_due_85 rfl (lv_at hl 5 rfl) ?_
              refine lv_icmp_gt (tgt := 102) C.1 C.2.1 dX9_due_86 (by decide) (fun c86 => ?_) (fun c86 => ?_)
              · refine lv_iload_n C.1 C.2.1 dX9_due_102 rfl (lv_at hl 3 rfl) ?_
                refine lv_istore_n (lv' := [(2, .int at_), (5, .int (nI 0)), (4, .int (nI 0)), (3, .int (nI i)), (0, .ref (b + 43)), (1, .int tu)]) C.1 C.2.1 dX9_due_103 rfl hl (by decide) rfl (fun ls hl => ?_)
                refine lv_iinc (v := (nI (i + 1))) (lv' := [(3, .int (nI (i + 1))), (2, .int at_), (5, .int (nI 0)), (4, .int (nI 0)), (0, .ref (b + 43)), (1, .int tu)]) C.1 C.2.1 dX9_due_104 hl (k := 3) rfl (k_inc _ 1) (by decide) rfl (fun ls hl => ?_)
                refine lv_goto (tgt := 5) C.1 C.2.1 dX9_due_107 (by decide) ?_
                exact ih5  (i + 1) (_) (by omega) (by omega) (by rw [dN_n hno, if_neg (Int32.not_le.mpr c86)]; rw [hat, hno]) ls _ _ (lv_sub hl [0, 1, 4, 5] rfl) hw
              · refine lv_iload_n C.1 C.2.1 dX9_due_89 rfl (lv_at hl 3 rfl) ?_
                refine lv_if_lt (tgt := 98) C.1 C.2.1 dX9_due_90 (by decide) (fun c90 => ?_) (fun c90 => ?_)
                · refine lv_iload_n C.1 C.2.1 dX9_due_98 rfl (lv_at hl 2 rfl) ?_
                  refine lv_goto (tgt := 103) C.1 C.2.1 dX9_due_99 (by decide) ?_
                  refine lv_istore_n (lv' := [(2, .int (nI i)), (5, .int (nI 0)), (4, .int (nI 0)), (3, .int (nI i)), (0, .ref (b + 43)), (1, .int tu)]) C.1 C.2.1 dX9_due_103 rfl hl (by decide) rfl (fun ls hl => ?_)
                  refine lv_iinc (v := (nI (i + 1))) (lv' := [(3, .int (nI (i + 1))), (2, .int (nI i)), (5, .int (nI 0)), (4, .int (nI 0)), (0, .ref (b + 43)), (1, .int tu)]) C.1 C.2.1 dX9_due_104 hl (k := 3) rfl (k_inc _ 1) (by decide) rfl (fun ls hl => ?_)
                  refine lv_goto (tgt := 5) C.1 C.2.1 dX9_due_107 (by decide) ?_
                  exact ih5  (i + 1) (_) (by omega) (by omega) (by rw [dN_n hno, if_pos (Int32.not_lt.mp c86)]; rfl) ls _ _ (lv_sub hl [0, 1, 4, 5] rfl) hw
                · exact absurd (Int32.not_le.mp c14) c90
            · refine lv_aload_n C.1 C.2.1 dX9_due_56 rfl (lv_at hl 3 rfl) ?_
              refine k_get C hw 43 (by omega) h43 rfl inlX9 20 (by decide) q_136 rfl dX9_due_57 ?_
              refine lv_iload_n C.1 C.2.1 dX9_due_60 rfl (lv_at hl 1 rfl) ?_
              refine k_iald C hw 56 (by omega) h56 (by omega) (by first | decide | omega) dX9_due_61 ?_
              refine lv_aload_n C.1 C.2.1 dX9_due_62 rfl (lv_at hl 3 rfl) ?_
              refine k_get C hw 43 (by omega) h43 rfl inlX9 20 (by decide) q_136 rfl dX9_due_63 ?_
              refine lv_iload C.1 C.2.1 dX9_due_66 (lv_at hl 0 rfl) ?_
              refine k_iald C hw 56 (by omega) h56 (by omega) (by first | decide | omega) dX9_due_68 ?_
              refine lv_icmp_ge (tgt := 76) C.1 C.2.1 dX9_due_69 (by decide) (fun c69 => ?_) (fun c69 => ?_)
              · refine lv_iconst (v := nI 0) C.1 C.2.1 dX9_due_76 (by decide) ?_
                refine lv_istore (lv' := [(5, .int (nI 0)), (4, .int (nI 0)), (3, .int (nI i)), (2, .int at_), (0, .ref (b + 43)), (1, .int tu)]) C.1 C.2.1 dX9_due_77 hl (by decide) rfl (fun ls hl => ?_)
                refine lv_aload_n C.1 C.2.1 dX9_due_79 rfl (lv_at hl 4 rfl) ?_
                refine k_get C hw 43 (by omega) h43 rfl inlX9 21 (by decide) q_137 rfl dX9_due_80 ?_
                refine lv_iload_n C.1 C.2.1 dX9_due_83 rfl (lv_at hl 2 rfl) ?_
                refine k_iald C hw 57 (by omega) h57 (by omega) (by first | decide | omega) dX9_due_84 ?_
                refine lv_iload_n C.1 C.2.1 dX9_due_85 rfl (lv_at hl 5 rfl) ?_
                refine lv_icmp_gt (tgt := 102) C.1 C.2.1 dX9_due_86 (by decide) (fun c86 => ?_) (fun c86 => ?_)
                · refine lv_iload_n C.1 C.2.1 dX9_due_102 rfl (lv_at hl 3 rfl) ?_
                  refine lv_istore_n (lv' := [(2, .int at_), (5, .int (nI 0)), (4, .int (nI 0)), (3, .int (nI i)), (0, .ref (b + 43)), (1, .int tu)]) C.1 C.2.1 dX9_due_103 rfl hl (by decide) rfl (fun ls hl => ?_)
                  refine lv_iinc (v := (nI (i + 1))) (lv' := [(3, .int (nI (i + 1))), (2, .int at_), (5, .int (nI 0)), (4, .int (nI 0)), (0, .ref (b + 43)), (1, .int tu)]) C.1 C.2.1 dX9_due_104 hl (k := 3) rfl (k_inc _ 1) (by decide) rfl (fun ls hl => ?_)
                  refine lv_goto (tgt := 5) C.1 C.2.1 dX9_due_107 (by decide) ?_
                  exact ih5  (i + 1) (_) (by omega) (by omega) (by rw [dN_n hno, if_neg (Int32.not_le.mpr c86)]; rw [hat, hno]) ls _ _ (lv_sub hl [0, 1, 4, 5] rfl) hw
                · refine lv_iload_n C.1 C.2.1 dX9_due_89 rfl (lv_at hl 3 rfl) ?_
                  refine lv_if_lt (tgt := 98) C.1 C.2.1 dX9_due_90 (by decide) (fun c90 => ?_) (fun c90 => ?_)
                  · refine lv_iload_n C.1 C.2.1 dX9_due_98 rfl (lv_at hl 2 rfl) ?_
                    refine lv_goto (tgt := 103) C.1 C.2.1 dX9_due_99 (by decide) ?_
                    refine lv_istore_n (lv' := [(2, .int (nI i)), (5, .int (nI 0)), (4, .int (nI 0)), (3, .int (nI i)), (0, .ref (b + 43)), (1, .int tu)]) C.1 C.2.1 dX9_due_103 rfl hl (by decide) rfl (fun ls hl => ?_)
                    refine lv_iinc (v := (nI (i + 1))) (lv' := [(3, .int (nI (i + 1))), (2, .int (nI i)), (5, .int (nI 0)), (4, .int (nI 0)), (0, .ref (b + 43)), (1, .int tu)]) C.1 C.2.1 dX9_due_104 hl (k := 3) rfl (k_inc _ 1) (by decide) rfl (fun ls hl => ?_)
                    refine lv_goto (tgt := 5) C.1 C.2.1 dX9_due_107 (by decide) ?_
                    exact ih5  (i + 1) (_) (by omega) (by omega) (by rw [dN_n hno, if_pos (Int32.not_lt.mp c86)]; rfl) ls _ _ (lv_sub hl [0, 1, 4, 5] rfl) hw
                  · exact absurd (Int32.not_le.mp c14) c90
              · refine lv_iconst (v := nI 1) C.1 C.2.1 dX9_due_72 (by decide) ?_
                refine lv_goto (tgt := 77) C.1 C.2.1 dX9_due_73 (by decide) ?_
                refine lv_istore (lv' := [(5, .int (nI 1)), (4, .int (nI 0)), (3, .int (nI i)), (2, .int at_), (0, .ref (b + 43)), (1, .int tu)]) C.1 C.2.1 dX9_due_77 hl (by decide) rfl (fun ls hl => ?_)
                refine lv_aload_n C.1 C.2.1 dX9_due_79 rfl (lv_at hl 4 rfl) ?_
                refine k_get C hw 43 (by omega) h43 rfl inlX9 21 (by decide) q_137 rfl dX9_due_80 ?_
                refine lv_iload_n C.1 C.2.1 dX9_due_83 rfl (lv_at hl 2 rfl) ?_
                refine k_iald C hw 57 (by omega) h57 (by omega) (by first | decide | omega) dX9_due_84 ?_
                refine lv_iload_n C.1 C.2.1 dX9_due_85 rfl (lv_at hl 5 rfl) ?_
                refine lv_icmp_gt (tgt := 102) C.1 C.2.1 dX9_due_86 (by decide) (fun c86 => ?_) (fun c86 => ?_)
                · refine lv_iload_n C.1 C.2.1 dX9_due_102 rfl (lv_at hl 3 rfl) ?_
                  refine lv_istore_n (lv' := [(2, .int at_), (5, .int (nI 1)), (4, .int (nI 0)), (3, .int (nI i)), (0, .ref (b + 43)), (1, .int tu)]) C.1 C.2.1 dX9_due_103 rfl hl (by decide) rfl (fun ls hl => ?_)
                  refine lv_iinc (v := (nI (i + 1))) (lv' := [(3, .int (nI (i + 1))), (2, .int at_), (5, .int (nI 1)), (4, .int (nI 0)), (0, .ref (b + 43)), (1, .int tu)]) C.1 C.2.1 dX9_due_104 hl (k := 3) rfl (k_inc _ 1) (by decide) rfl (fun ls hl => ?_)
                  refine lv_goto (tgt := 5) C.1 C.2.1 dX9_due_107 (by decide) ?_
                  exact ih5  (i + 1) (_) (by omega) (by omega) (by rw [dN_n hno, if_neg (Int32.not_le.mpr c86)]; rw [hat, hno]) ls _ _ (lv_sub hl [0, 1, 4, 5] rfl) hw
                · refine lv_iload_n C.1 C.2.1 dX9_due_89 rfl (lv_at hl 3 rfl) ?_
                  refine lv_if_lt (tgt := 98) C.1 C.2.1 dX9_due_90 (by decide) (fun c90 => ?_) (fun c90 => ?_)
                  · refine lv_iload_n C.1 C.2.1 dX9_due_98 rfl (lv_at hl 2 rfl) ?_
                    refine lv_goto (tgt := 103) C.1 C.2.1 dX9_due_99 (by decide) ?_
                    refine lv_istore_n (lv' := [(2, .int (nI i)), (5, .int (nI 1)), (4, .int (nI 0)), (3, .int (nI i)), (0, .ref (b + 43)), (1, .int tu)]) C.1 C.2.1 dX9_due_103 rfl hl (by decide) rfl (fun ls hl => ?_)
                    refine lv_iinc (v := (nI (i + 1))) (lv' := [(3, .int (nI (i + 1))), (2, .int (nI i)), (5, .int (nI 1)), (4, .int (nI 0)), (0, .ref (b + 43)), (1, .int tu)]) C.1 C.2.1 dX9_due_104 hl (k := 3) rfl (k_inc _ 1) (by decide) rfl (fun ls hl => ?_)
                    refine lv_goto (tgt := 5) C.1 C.2.1 dX9_due_107 (by decide) ?_
                    exact ih5  (i + 1) (_) (by omega) (by omega) (by rw [dN_n hno, if_pos (Int32.not_lt.mp c86)]; rfl) ls _ _ (lv_sub hl [0, 1, 4, 5] rfl) hw
                  · exact absurd (Int32.not_le.mp c14) c90
  exact L5 (_ + 1) (0) (_) (Nat.lt_succ_self _) (Nat.zero_le _) (rfl) ls _ _ (lv_sub hl [0, 1, 2, 3] rfl) hw

set_option maxHeartbeats 4000000 in
set_option maxRecDepth 100000 in
theorem c_X9_ring {l : Launch} {D : va_G} {cI cJ cZ cH cR : ClassId} {b : Nat} {n : Nat} {M : Nat → va_E}  {G : Nat} {mo : Nat} {ta : Nat} {sl : Int32} {ca : Nat} {os : Nat} {tr : Int32} {ts : Nat} {lg : Nat} {mm : Nat} {sc : Int32} {mct : Nat → Int32} {msu : Nat → Int64} {mtk : Nat → Int32} {mtt : Nat → Int32} {mlk : Nat → Int32} {mlt : Nat → Int32} {mlc : Nat → Int32} {mly : Nat → Int64} {i : Nat} (hn : 62 ≤ n) (h43 : M 43 = .inr (9, [.int (nI G), .int (nI mo), .int (nI ta), .int sl, .ref (b + 44), .ref (b + 45), .ref (b + 46), .ref (b + 47), .int (nI ca), .ref (b + 48), .ref (b + 49), .ref (b + 50), .ref (b + 51), .ref (b + 52), .int (nI os), .ref (b + 53), .ref (b + 54), .ref (b + 55), .int tr, .int (nI ts), .ref (b + 56), .ref (b + 57), .int (nI lg), .ref (b + 58), .ref (b + 59), .ref (b + 60), .ref (b + 61), .int (nI mm), .int sc, .ref (b + 62), .ref (b + 63), .ref (b + 64), .ref (b + 65), .ref (b + 66), .ref (b + 67), .ref (b + 68), .ref (b + 69), .ref (b + 70), .ref (b + 71), .ref (b + 72), .ref (b + 73)])) (h51 : M 51 = .inl (cI, 100, .inl mct)) (h52 : M 52 = .inl (cJ, 100, .inr (.inl msu))) (h56 : M 56 = .inl (cI, 40, .inl mtk)) (h57 : M 57 = .inl (cI, 40, .inl mtt)) (h58 : M 58 = .inl (cI, 32, .inl mlk)) (h59 : M 59 = .inl (cI, 32, .inl mlt)) (h60 : M 60 = .inl (cI, 32, .inl mlc)) (h61 : M 61 = .inl (cJ, 32, .inr (.inl mly)))  (hi : i < ts) (hts : ts ≤ 40) (hlg : lg < 100000) (hkk : ∃ k, k < 100 ∧ mtk i = nI k) : Met l yX9_ring (kw yX9_ring cX9_ring 5 none) ({ frames := 0, cells := 0, slots := 0, locals := 0 }) (va_Pc [.ref (b + 43), .int (nI i)] (kPre D (kT cI cJ cZ cH cR) b M n)) (va_Qv (fun (u : (Nat → va_E) × Nat) => u.2 = n ∧ kF [43, 56, 57, 58, 59, 60, 61, 51, 52] M u.1 ∧ u.1 43 = .inr (9, [.int (nI G), .int (nI mo), .int (nI ta), .int sl, .ref (b + 44), .ref (b + 45), .ref (b + 46), .ref (b + 47), .int (nI ca), .ref (b + 48), .ref (b + 49), .ref (b + 50), .ref (b + 51), .ref (b + 52), .int (nI os), .ref (b + 53), .ref (b + 54), .ref (b + 55), .int tr, .int (nI (ts - 1)), .ref (b + 56), .ref (b + 57), .int (nI (lg + 1)), .ref (b + 58), .ref (b + 59), .ref (b + 60), .ref (b + 61), .int (nI mm), .int sc, .ref (b + 62), .ref (b + 63), .ref (b + 64), .ref (b + 65), .ref (b + 66), .ref (b + 67), .ref (b + 68), .ref (b + 69), .ref (b + 70), .ref (b + 71), .ref (b + 72), .ref (b + 73)]) ∧ u.1 56 = .inl (cI, 40, .inl (shl mtk i (ts - 1))) ∧ u.1 57 = .inl (cI, 40, .inl (shl mtt i (ts - 1))) ∧ u.1 58 = .inl (cI, 32, .inl (upd mlk (lg % 32) (mtk i))) ∧ u.1 59 = .inl (cI, 32, .inl (upd mlt (lg % 32) (mtt i))) ∧ u.1 60 = .inl (cI, 32, .inl (upd mlc (lg % 32) (mct (kn (mtk i))))) ∧ u.1 61 = .inl (cJ, 32, .inr (.inl (vp_updL mly (lg % 32) (msu (kn (mtk i)))))) ∧ u.1 51 = .inl (cI, 100, .inl (upd mct (kn (mtk i)) (nI 0))) ∧ u.1 52 = .inl (cJ, 100, .inr (.inl (vp_updL msu (kn (mtk i)) 0)))) (kB D (kT cI cJ cZ cH cR) b) (kA b)) 0 0 (kA b) := by
  refine k_metV (by decide +kernel) (Nat.le_of_ble_eq_true rfl) ?_
  intro p e s m below meth c ls Q C hw hret hnm hl
  have hl : lv_has ls 5 [(0, .ref (b + 43)), (1, .int (nI i))] := hl
  have hFF : kF [43, 56, 57, 58, 59, 60, 61, 51, 52] M M := kF_rf
  refine lv_aload_n C.1 C.2.1 dX9_ring_0 rfl (lv_at hl 0 rfl) ?_
  refine k_get C hw 43 (by omega) h43 rfl inlX9 20 (by decide) q_136 rfl dX9_ring_1 ?_
  refine lv_iload_n C.1 C.2.1 dX9_ring_4 rfl (lv_at hl 1 rfl) ?_
  refine k_iald C hw 56 (by omega) h56 (by omega) (by first | decide | omega) dX9_ring_5 ?_
  refine lv_topi (fun ky eky => ?_)
  obtain ⟨k, hk9, ek⟩ := hkk
  have ekn : kn (mtk i) = k := by rw [ek]; exact nI_clamp (by omega)
  have hmd : lg % 32 < 32 := Nat.mod_lt _ (by decide)
  refine lv_istore_n (lv' := [(2, .int ky), (0, .ref (b + 43)), (1, .int (nI i))]) C.1 C.2.1 dX9_ring_6 rfl hl (by decide) rfl (fun ls hl => ?_)
  refine lv_aload_n C.1 C.2.1 dX9_ring_7 rfl (lv_at hl 1 rfl) ?_
  refine k_get C hw 43 (by omega) h43 rfl inlX9 22 (by decide) q_163 rfl dX9_ring_8 ?_
  refine lv_bipush (v := nI 32) C.1 C.2.1 dX9_ring_11 (by decide) ?_
  refine lv_irem C.1 C.2.1 dX9_ring_13 (by decide) ?_
  refine k_topi (y := nI (lg % 32)) (pk_rem (by omega) (by decide) (by decide)) ?_
  refine lv_istore_n (lv' := [(3, .int (nI (lg % 32))), (2, .int ky), (0, .ref (b + 43)), (1, .int (nI i))]) C.1 C.2.1 dX9_ring_14 rfl hl (by decide) rfl (fun ls hl => ?_)
  refine lv_aload_n C.1 C.2.1 dX9_ring_15 rfl (lv_at hl 2 rfl) ?_
  refine k_get C hw 43 (by omega) h43 rfl inlX9 23 (by decide) q_138 rfl dX9_ring_16 ?_
  refine lv_iload_n C.1 C.2.1 dX9_ring_19 rfl (lv_at hl 0 rfl) ?_
  refine lv_iload_n C.1 C.2.1 dX9_ring_20 rfl (lv_at hl 1 rfl) ?_
  refine k_iast C hw 58 (by omega) h58 (by omega) (by first | decide | omega) dX9_ring_21 (fun M_1 H locs hw h58 hF => ?_)
  have h43 := (hF 43 (by decide)).trans h43
  have h51 := (hF 51 (by decide)).trans h51
  have h52 := (hF 52 (by decide)).trans h52
  have h56 := (hF 56 (by decide)).trans h56
  have h57 := (hF 57 (by decide)).trans h57
  have h59 := (hF 59 (by decide)).trans h59
  have h60 := (hF 60 (by decide)).trans h60
  have h61 := (hF 61 (by decide)).trans h61
  have hFF := kF_st hFF hF (by first | decide | simp)
  refine lv_aload_n C.1 C.2.1 dX9_ring_22 rfl (lv_at hl 2 rfl) ?_
  refine k_get C hw 43 (by omega) h43 rfl inlX9 24 (by decide) q_139 rfl dX9_ring_23 ?_
  refine lv_iload_n C.1 C.2.1 dX9_ring_26 rfl (lv_at hl 0 rfl) ?_
  refine lv_aload_n C.1 C.2.1 dX9_ring_27 rfl (lv_at hl 2 rfl) ?_
  refine k_get C hw 43 (by omega) h43 rfl inlX9 21 (by decide) q_137 rfl dX9_ring_28 ?_
  refine lv_iload_n C.1 C.2.1 dX9_ring_31 rfl (lv_at hl 3 rfl) ?_
  refine k_iald C hw 57 (by omega) h57 (by omega) (by first | decide | omega) dX9_ring_32 ?_
  refine k_iast C hw 59 (by omega) h59 (by omega) (by first | decide | omega) dX9_ring_33 (fun M_2 H locs hw h59 hF => ?_)
  have h43 := (hF 43 (by decide)).trans h43
  have h51 := (hF 51 (by decide)).trans h51
  have h52 := (hF 52 (by decide)).trans h52
  have h56 := (hF 56 (by decide)).trans h56
  have h57 := (hF 57 (by decide)).trans h57
  have h58 := (hF 58 (by decide)).trans h58
  have h60 := (hF 60 (by decide)).trans h60
  have h61 := (hF 61 (by decide)).trans h61
  have hFF := kF_st hFF hF (by first | decide | simp)
  refine lv_aload_n C.1 C.2.1 dX9_ring_34 rfl (lv_at hl 2 rfl) ?_
  refine k_get C hw 43 (by omega) h43 rfl inlX9 25 (by decide) q_140 rfl dX9_ring_35 ?_
  refine lv_iload_n C.1 C.2.1 dX9_ring_38 rfl (lv_at hl 0 rfl) ?_
  refine lv_aload_n C.1 C.2.1 dX9_ring_39 rfl (lv_at hl 2 rfl) ?_
  refine k_get C hw 43 (by omega) h43 rfl inlX9 12 (by decide) q_131 rfl dX9_ring_40 ?_
  refine lv_iload_n C.1 C.2.1 dX9_ring_43 rfl (lv_at hl 1 rfl) ?_
  refine k_topi (y := nI k) (eky.trans ek) ?_
  refine k_iald C hw 51 (by omega) h51 (by omega) (by first | decide | omega) dX9_ring_44 ?_
  refine k_iast C hw 60 (by omega) h60 (by omega) (by first | decide | omega) dX9_ring_45 (fun M_3 H locs hw h60 hF => ?_)
  have h43 := (hF 43 (by decide)).trans h43
  have h51 := (hF 51 (by decide)).trans h51
  have h52 := (hF 52 (by decide)).trans h52
  have h56 := (hF 56 (by decide)).trans h56
  have h57 := (hF 57 (by decide)).trans h57
  have h58 := (hF 58 (by decide)).trans h58
  have h59 := (hF 59 (by decide)).trans h59
  have h61 := (hF 61 (by decide)).trans h61
  have hFF := kF_st hFF hF (by first | decide | simp)
  refine lv_aload_n C.1 C.2.1 dX9_ring_46 rfl (lv_at hl 2 rfl) ?_
  refine k_get C hw 43 (by omega) h43 rfl inlX9 26 (by decide) q_141 rfl dX9_ring_47 ?_
  refine lv_iload_n C.1 C.2.1 dX9_ring_50 rfl (lv_at hl 0 rfl) ?_
  refine lv_aload_n C.1 C.2.1 dX9_ring_51 rfl (lv_at hl 2 rfl) ?_
  refine k_get C hw 43 (by omega) h43 rfl inlX9 13 (by decide) q_132 rfl dX9_ring_52 ?_
  refine lv_iload_n C.1 C.2.1 dX9_ring_55 rfl (lv_at hl 1 rfl) ?_
  refine k_topi (y := nI k) (eky.trans ek) ?_
  refine k_lald C hw 52 (by omega) h52 (by omega) (by first | decide | omega) dX9_ring_56 ?_
  refine k_last C hw 61 (by omega) h61 (by omega) (by first | decide | omega) dX9_ring_57 (fun M_4 H locs hw h61 hF => ?_)
  have h43 := (hF 43 (by decide)).trans h43
  have h51 := (hF 51 (by decide)).trans h51
  have h52 := (hF 52 (by decide)).trans h52
  have h56 := (hF 56 (by decide)).trans h56
  have h57 := (hF 57 (by decide)).trans h57
  have h58 := (hF 58 (by decide)).trans h58
  have h59 := (hF 59 (by decide)).trans h59
  have h60 := (hF 60 (by decide)).trans h60
  have hFF := kF_st hFF hF (by first | decide | simp)
  refine lv_aload_n C.1 C.2.1 dX9_ring_58 rfl (lv_at hl 2 rfl) ?_
  refine lv_dup C.1 C.2.1 dX9_ring_59 rfl ?_
  refine k_get C hw 43 (by omega) h43 rfl inlX9 22 (by decide) q_163 rfl dX9_ring_60 ?_
  refine lv_iconst (v := nI 1) C.1 C.2.1 dX9_ring_63 (by decide) ?_
  refine lv_iadd C.1 C.2.1 dX9_ring_64 ?_
  refine k_topi (y := nI (lg + 1)) (nI_add _ _) ?_
  refine k_put (tf := .int) C hw 43 (by omega) h43 rfl inlX9 tyX9 tyX9_ok nmX9 22 (by decide) q_163 rfl (by decide +kernel) rfl rfl (Nat.le_of_ble_eq_true rfl) dX9_ring_65 (fun M_5 H locs hw h43 hF => ?_)
  have h43 : M_5 43 = .inr (9, [.int (nI G), .int (nI mo), .int (nI ta), .int sl, .ref (b + 44), .ref (b + 45), .ref (b + 46), .ref (b + 47), .int (nI ca), .ref (b + 48), .ref (b + 49), .ref (b + 50), .ref (b + 51), .ref (b + 52), .int (nI os), .ref (b + 53), .ref (b + 54), .ref (b + 55), .int tr, .int (nI ts), .ref (b + 56), .ref (b + 57), .int (nI (lg + 1)), .ref (b + 58), .ref (b + 59), .ref (b + 60), .ref (b + 61), .int (nI mm), .int sc, .ref (b + 62), .ref (b + 63), .ref (b + 64), .ref (b + 65), .ref (b + 66), .ref (b + 67), .ref (b + 68), .ref (b + 69), .ref (b + 70), .ref (b + 71), .ref (b + 72), .ref (b + 73)]) := h43
  have h51 := (hF 51 (by decide)).trans h51
  have h52 := (hF 52 (by decide)).trans h52
  have h56 := (hF 56 (by decide)).trans h56
  have h57 := (hF 57 (by decide)).trans h57
  have h58 := (hF 58 (by decide)).trans h58
  have h59 := (hF 59 (by decide)).trans h59
  have h60 := (hF 60 (by decide)).trans h60
  have h61 := (hF 61 (by decide)).trans h61
  have hFF := kF_st hFF hF (by first | decide | simp)
  refine lv_aload_n C.1 C.2.1 dX9_ring_68 rfl (lv_at hl 2 rfl) ?_
  refine k_get C hw 43 (by omega) h43 rfl inlX9 12 (by decide) q_131 rfl dX9_ring_69 ?_
  refine lv_iload_n C.1 C.2.1 dX9_ring_72 rfl (lv_at hl 1 rfl) ?_
  refine k_topi (y := nI k) (eky.trans ek) ?_
  refine lv_iconst (v := nI 0) C.1 C.2.1 dX9_ring_73 (by decide) ?_
  refine k_iast C hw 51 (by omega) h51 (by omega) (by first | decide | omega) dX9_ring_74 (fun M_6 H locs hw h51 hF => ?_)
  have h43 := (hF 43 (by decide)).trans h43
  have h52 := (hF 52 (by decide)).trans h52
  have h56 := (hF 56 (by decide)).trans h56
  have h57 := (hF 57 (by decide)).trans h57
  have h58 := (hF 58 (by decide)).trans h58
  have h59 := (hF 59 (by decide)).trans h59
  have h60 := (hF 60 (by decide)).trans h60
  have h61 := (hF 61 (by decide)).trans h61
  have hFF := kF_st hFF hF (by first | decide | simp)
  refine lv_aload_n C.1 C.2.1 dX9_ring_75 rfl (lv_at hl 2 rfl) ?_
  refine k_get C hw 43 (by omega) h43 rfl inlX9 13 (by decide) q_132 rfl dX9_ring_76 ?_
  refine lv_iload_n C.1 C.2.1 dX9_ring_79 rfl (lv_at hl 1 rfl) ?_
  refine k_topi (y := nI k) (eky.trans ek) ?_
  refine lv_lconst (v := 0) C.1 C.2.1 dX9_ring_80 rfl ?_
  refine k_last C hw 52 (by omega) h52 (by omega) (by first | decide | omega) dX9_ring_81 (fun M_7 H locs hw h52 hF => ?_)
  have h43 := (hF 43 (by decide)).trans h43
  have h51 := (hF 51 (by decide)).trans h51
  have h56 := (hF 56 (by decide)).trans h56
  have h57 := (hF 57 (by decide)).trans h57
  have h58 := (hF 58 (by decide)).trans h58
  have h59 := (hF 59 (by decide)).trans h59
  have h60 := (hF 60 (by decide)).trans h60
  have h61 := (hF 61 (by decide)).trans h61
  have hFF := kF_st hFF hF (by first | decide | simp)
  refine lv_aload_n C.1 C.2.1 dX9_ring_82 rfl (lv_at hl 2 rfl) ?_
  refine lv_dup C.1 C.2.1 dX9_ring_83 rfl ?_
  refine k_get C hw 43 (by omega) h43 rfl inlX9 19 (by decide) q_162 rfl dX9_ring_84 ?_
  refine lv_iconst (v := nI 1) C.1 C.2.1 dX9_ring_87 (by decide) ?_
  refine lv_isub C.1 C.2.1 dX9_ring_88 ?_
  refine k_topi (y := nI (ts - 1)) (pk_sub (by omega)) ?_
  refine k_put (tf := .int) C hw 43 (by omega) h43 rfl inlX9 tyX9 tyX9_ok nmX9 19 (by decide) q_162 rfl (by decide +kernel) rfl rfl (Nat.le_of_ble_eq_true rfl) dX9_ring_89 (fun M_8 H locs hw h43 hF => ?_)
  have h43 : M_8 43 = .inr (9, [.int (nI G), .int (nI mo), .int (nI ta), .int sl, .ref (b + 44), .ref (b + 45), .ref (b + 46), .ref (b + 47), .int (nI ca), .ref (b + 48), .ref (b + 49), .ref (b + 50), .ref (b + 51), .ref (b + 52), .int (nI os), .ref (b + 53), .ref (b + 54), .ref (b + 55), .int tr, .int (nI (ts - 1)), .ref (b + 56), .ref (b + 57), .int (nI (lg + 1)), .ref (b + 58), .ref (b + 59), .ref (b + 60), .ref (b + 61), .int (nI mm), .int sc, .ref (b + 62), .ref (b + 63), .ref (b + 64), .ref (b + 65), .ref (b + 66), .ref (b + 67), .ref (b + 68), .ref (b + 69), .ref (b + 70), .ref (b + 71), .ref (b + 72), .ref (b + 73)]) := h43
  have h51 := (hF 51 (by decide)).trans h51
  have h52 := (hF 52 (by decide)).trans h52
  have h56 := (hF 56 (by decide)).trans h56
  have h57 := (hF 57 (by decide)).trans h57
  have h58 := (hF 58 (by decide)).trans h58
  have h59 := (hF 59 (by decide)).trans h59
  have h60 := (hF 60 (by decide)).trans h60
  have h61 := (hF 61 (by decide)).trans h61
  have hFF := kF_st hFF hF (by first | decide | simp)
  refine lv_iload_n C.1 C.2.1 dX9_ring_92 rfl (lv_at hl 3 rfl) ?_
  rw [← shl_0 mtk i] at h56
  rw [← shl_0 mtt i] at h57
  refine lv_istore (lv' := [(4, .int (nI i)), (3, .int (nI (lg % 32))), (2, .int ky), (0, .ref (b + 43)), (1, .int (nI i))]) C.1 C.2.1 dX9_ring_93 hl (by decide) rfl (fun ls hl => ?_)
  have L95 : ∀ (N95 : Nat) (j : Nat) (Mx95 : Nat → va_E), (ts - 1 - j < N95) → (i ≤ j) → (j ≤ ts - 1) → kF [43, 56, 57, 58, 59, 60, 61, 51, 52] M Mx95 → Mx95 43 = .inr (9, [.int (nI G), .int (nI mo), .int (nI ta), .int sl, .ref (b + 44), .ref (b + 45), .ref (b + 46), .ref (b + 47), .int (nI ca), .ref (b + 48), .ref (b + 49), .ref (b + 50), .ref (b + 51), .ref (b + 52), .int (nI os), .ref (b + 53), .ref (b + 54), .ref (b + 55), .int tr, .int (nI (ts - 1)), .ref (b + 56), .ref (b + 57), .int (nI (lg + 1)), .ref (b + 58), .ref (b + 59), .ref (b + 60), .ref (b + 61), .int (nI mm), .int sc, .ref (b + 62), .ref (b + 63), .ref (b + 64), .ref (b + 65), .ref (b + 66), .ref (b + 67), .ref (b + 68), .ref (b + 69), .ref (b + 70), .ref (b + 71), .ref (b + 72), .ref (b + 73)]) → Mx95 51 = .inl (cI, 100, .inl (upd mct (k) ((nI 0)))) → Mx95 52 = .inl (cJ, 100, .inr (.inl (vp_updL msu (k) ((0))))) → Mx95 56 = .inl (cI, 40, .inl (shl mtk i j)) → Mx95 57 = .inl (cI, 40, .inl (shl mtt i j)) → Mx95 58 = .inl (cI, 32, .inl (upd mlk ((lg % 32)) (ky))) → Mx95 59 = .inl (cI, 32, .inl (upd mlt ((lg % 32)) ((mtt (i))))) → Mx95 60 = .inl (cI, 32, .inl (upd mlc ((lg % 32)) ((mct (k))))) → Mx95 61 = .inl (cJ, 32, .inr (.inl (vp_updL mly ((lg % 32)) ((msu (k)))))) → ∀ (ls : Array Slot) (H : Heap) (locs : List Loc), lv_has ls 5 [(4, .int (nI j)), (3, .int (nI (lg % 32))), (2, .int ky), (0, .ref (b + 43)), (1, .int (nI i))] → kW D b Mx95 n s.heap H locs → W p l e ({ frames := 0, cells := 0, slots := 0, locals := 0 } : Room) s m ([.ref (b + 43), .int (nI i)] : List Value).toArray below meth c H locs 0 0 Q (F0 m 95 ls []) := by
    intro N95
    induction N95 with
    | zero => intro j Mx95 hm95 hj1 hj2 hFF h43 h51 h52 h56 h57 h58 h59 h60 h61 ls H locs hl hw; omega
    | succ N95 ih95 =>
      intro j Mx95 hm95 hj1 hj2 hFF h43 h51 h52 h56 h57 h58 h59 h60 h61 ls H locs hl hw
      refine lv_iload C.1 C.2.1 dX9_ring_95 (lv_at hl 0 rfl) ?_
      refine lv_aload_n C.1 C.2.1 dX9_ring_97 rfl (lv_at hl 3 rfl) ?_
      refine k_get C hw 43 (by omega) h43 rfl inlX9 19 (by decide) q_162 rfl dX9_ring_98 ?_
      refine lv_icmp_ge (tgt := 142) C.1 C.2.1 dX9_ring_101 (by decide) (fun c101 => ?_) (fun c101 => ?_)
      · have q := (nI_leI (by omega) (by omega)).mp c101
        have q : j = ts - 1 := by omega
        rw [q] at h56 h57
        rw [eky] at h58
        rw [← ekn] at h60 h61 h51 h52
        exact hret _ _ (Nat.le_of_ble_eq_true rfl) (Nat.le_of_ble_eq_true rfl) hw (⟨rfl, hFF, h43, h56, h57, h58, h59, h60, h61, h51, h52⟩) dX9_ring_142
      · have q : ¬ ts - 1 ≤ j := fun z => c101 ((nI_leI (by omega) (by omega)).mpr z)
        refine lv_aload_n C.1 C.2.1 dX9_ring_104 rfl (lv_at hl 3 rfl) ?_
        refine k_get C hw 43 (by omega) h43 rfl inlX9 20 (by decide) q_136 rfl dX9_ring_105 ?_
        refine lv_iload C.1 C.2.1 dX9_ring_108 (lv_at hl 0 rfl) ?_
        refine lv_aload_n C.1 C.2.1 dX9_ring_110 rfl (lv_at hl 3 rfl) ?_
        refine k_get C hw 43 (by omega) h43 rfl inlX9 20 (by decide) q_136 rfl dX9_ring_111 ?_
        refine lv_iload C.1 C.2.1 dX9_ring_114 (lv_at hl 0 rfl) ?_
        refine lv_iconst (v := nI 1) C.1 C.2.1 dX9_ring_116 (by decide) ?_
        refine lv_iadd C.1 C.2.1 dX9_ring_117 ?_
        refine k_topi (y := nI (j + 1)) (nI_add _ _) ?_
        refine k_iald C hw 56 (by omega) h56 (by omega) (by first | decide | omega) dX9_ring_118 ?_
        refine k_iast C hw 56 (by omega) h56 (by omega) (by first | decide | omega) dX9_ring_119 (fun M_9 H locs hw h56 hF => ?_)
        have h43 := (hF 43 (by decide)).trans h43
        have h51 := (hF 51 (by decide)).trans h51
        have h52 := (hF 52 (by decide)).trans h52
        have h57 := (hF 57 (by decide)).trans h57
        have h58 := (hF 58 (by decide)).trans h58
        have h59 := (hF 59 (by decide)).trans h59
        have h60 := (hF 60 (by decide)).trans h60
        have h61 := (hF 61 (by decide)).trans h61
        have hFF := kF_st hFF hF (by first | decide | simp)
        rw [shl_r, shl_s hj1] at h56
        refine lv_aload_n C.1 C.2.1 dX9_ring_120 rfl (lv_at hl 3 rfl) ?_
        refine k_get C hw 43 (by omega) h43 rfl inlX9 21 (by decide) q_137 rfl dX9_ring_121 ?_
        refine lv_iload C.1 C.2.1 dX9_ring_124 (lv_at hl 0 rfl) ?_
        refine lv_aload_n C.1 C.2.1 dX9_ring_126 rfl (lv_at hl 3 rfl) ?_
        refine k_get C hw 43 (by omega) h43 rfl inlX9 21 (by decide) q_137 rfl dX9_ring_127 ?_
        refine lv_iload C.1 C.2.1 dX9_ring_130 (lv_at hl 0 rfl) ?_
        refine lv_iconst (v := nI 1) C.1 C.2.1 dX9_ring_132 (by decide) ?_
        refine lv_iadd C.1 C.2.1 dX9_ring_133 ?_
        refine k_topi (y := nI (j + 1)) (nI_add _ _) ?_
        refine k_iald C hw 57 (by omega) h57 (by omega) (by first | decide | omega) dX9_ring_134 ?_
        refine k_iast C hw 57 (by omega) h57 (by omega) (by first | decide | omega) dX9_ring_135 (fun M_10 H locs hw h57 hF => ?_)
        have h43 := (hF 43 (by decide)).trans h43
        have h51 := (hF 51 (by decide)).trans h51
        have h52 := (hF 52 (by decide)).trans h52
        have h56 := (hF 56 (by decide)).trans h56
        have h58 := (hF 58 (by decide)).trans h58
        have h59 := (hF 59 (by decide)).trans h59
        have h60 := (hF 60 (by decide)).trans h60
        have h61 := (hF 61 (by decide)).trans h61
        have hFF := kF_st hFF hF (by first | decide | simp)
        rw [shl_r, shl_s hj1] at h57
        refine lv_iinc (v := (nI (j + 1))) (lv' := [(4, .int (nI (j + 1))), (3, .int (nI (lg % 32))), (2, .int ky), (0, .ref (b + 43)), (1, .int (nI i))]) C.1 C.2.1 dX9_ring_136 hl (k := 0) rfl (k_inc _ 1) (by decide) rfl (fun ls hl => ?_)
        refine lv_goto (tgt := 95) C.1 C.2.1 dX9_ring_139 (by decide) ?_
        exact ih95  (j + 1) M_10 (by omega) (by omega) (by omega) hFF h43 h51 h52 h56 h57 h58 h59 h60 h61  ls _ _ (lv_sub hl [0, 1, 2, 3, 4] rfl) hw
  exact L95 (_ + 1) (i) M_8 (Nat.lt_succ_self _) (Nat.le_refl _) (by omega) hFF h43 h51 h52 h56 h57 h58 h59 h60 h61  ls _ _ (lv_sub hl [0, 1, 2, 3, 4] rfl) hw

set_option maxHeartbeats 4000000 in
set_option maxRecDepth 100000 in
theorem c_X9_tick {l : Launch} {D : va_G} {cI cJ cZ cH cR : ClassId} {b : Nat} {n : Nat} {M : Nat → va_E}  {G : Nat} {mo : Nat} {ta : Nat} {sl : Int32} {ca : Nat} {os : Nat} {tr : Int32} {ts : Nat} {lg : Nat} {mm : Nat} {sc : Int32} {mtk : Nat → Int32} {mtt : Nat → Int32} {mct : Nat → Int32} {msu : Nat → Int64} {mlk : Nat → Int32} {mlt : Nat → Int32} {mlc : Nat → Int32} {mly : Nat → Int64} {t : Int32} (hn : 62 ≤ n) (h43 : M 43 = .inr (9, [.int (nI G), .int (nI mo), .int (nI ta), .int sl, .ref (b + 44), .ref (b + 45), .ref (b + 46), .ref (b + 47), .int (nI ca), .ref (b + 48), .ref (b + 49), .ref (b + 50), .ref (b + 51), .ref (b + 52), .int (nI os), .ref (b + 53), .ref (b + 54), .ref (b + 55), .int tr, .int (nI ts), .ref (b + 56), .ref (b + 57), .int (nI lg), .ref (b + 58), .ref (b + 59), .ref (b + 60), .ref (b + 61), .int (nI mm), .int sc, .ref (b + 62), .ref (b + 63), .ref (b + 64), .ref (b + 65), .ref (b + 66), .ref (b + 67), .ref (b + 68), .ref (b + 69), .ref (b + 70), .ref (b + 71), .ref (b + 72), .ref (b + 73)])) (h56 : M 56 = .inl (cI, 40, .inl mtk)) (h57 : M 57 = .inl (cI, 40, .inl mtt)) (h51 : M 51 = .inl (cI, 100, .inl mct)) (h52 : M 52 = .inl (cJ, 100, .inr (.inl msu))) (h58 : M 58 = .inl (cI, 32, .inl mlk)) (h59 : M 59 = .inl (cI, 32, .inl mlt)) (h60 : M 60 = .inl (cI, 32, .inl mlc)) (h61 : M 61 = .inl (cJ, 32, .inr (.inl mly)))  (hts : ts ≤ 40) (hlg : lg < 50000) (hkk : ∀ q, q < ts → ∃ k, k < 100 ∧ mtk q = nI k) : Met l yX9_tick (kw yX9_tick cX9_tick 4 (some .int)) ({ frames := 1, cells := 0, slots := 0, locals := 25 }) (va_Pc [.ref (b + 43), .int t] (kPre D (kT cI cJ cZ cH cR) b M n)) (va_Qi (fun (r : Int32) (u : (Nat → va_E) × Nat) => u.2 = n ∧ ((¬ (¬ t < tr ∧ t ≤ nI 1000000) ∧ r = -102 ∧ u.1 = M) ∨ ((¬ t < tr ∧ t ≤ nI 1000000) ∧ ∃ m, m ≤ ts ∧ (∀ j, j < m → ∃ q, rgD t mtk mtt ts j = some q) ∧ rgD t mtk mtt ts m = none ∧ r = nI m ∧ kF [43, 56, 57, 51, 52, 58, 59, 60, 61] M u.1 ∧ u.1 43 = .inr (9, [.int (nI G), .int (nI mo), .int (nI ta), .int sl, .ref (b + 44), .ref (b + 45), .ref (b + 46), .ref (b + 47), .int (nI ca), .ref (b + 48), .ref (b + 49), .ref (b + 50), .ref (b + 51), .ref (b + 52), .int (nI os), .ref (b + 53), .ref (b + 54), .ref (b + 55), .int t, .int (nI (rgN t mtk mtt ts m).2.2), .ref (b + 56), .ref (b + 57), .int (nI (lg + m)), .ref (b + 58), .ref (b + 59), .ref (b + 60), .ref (b + 61), .int (nI mm), .int sc, .ref (b + 62), .ref (b + 63), .ref (b + 64), .ref (b + 65), .ref (b + 66), .ref (b + 67), .ref (b + 68), .ref (b + 69), .ref (b + 70), .ref (b + 71), .ref (b + 72), .ref (b + 73)]) ∧ u.1 56 = .inl (cI, 40, .inl (rgN t mtk mtt ts m).1) ∧ u.1 57 = .inl (cI, 40, .inl (rgN t mtk mtt ts m).2.1) ∧ u.1 51 = .inl (cI, 100, .inl (tC (rgK t mtk mtt ts) mct m)) ∧ u.1 52 = .inl (cJ, 100, .inr (.inl (tS (rgK t mtk mtt ts) msu m))) ∧ u.1 58 = .inl (cI, 32, .inl (lgI lg (rgK t mtk mtt ts) mlk m)) ∧ u.1 59 = .inl (cI, 32, .inl (lgI lg (rgT t mtk mtt ts) mlt m)) ∧ u.1 60 = .inl (cI, 32, .inl (lgI lg (fun j => tC (rgK t mtk mtt ts) mct j (kn ((rgK t mtk mtt ts) j))) mlc m)) ∧ u.1 61 = .inl (cJ, 32, .inr (.inl (lgJ lg (fun j => tS (rgK t mtk mtt ts) msu j (kn ((rgK t mtk mtt ts) j))) mly m)))))) (kB D (kT cI cJ cZ cH cR) b) (kA b)) 0 0 (kA b) := by
  refine k_metI (by decide +kernel) (Nat.le_of_ble_eq_true rfl) ?_
  intro p e s m below meth c ls Q C hw hret hnm hl
  have hl : lv_has ls 4 [(0, .ref (b + 43)), (1, .int t)] := hl
  have hFF : kF [43, 56, 57, 51, 52, 58, 59, 60, 61] M M := kF_rf
  refine lv_iload_n C.1 C.2.1 dX9_tick_0 rfl (lv_at hl 1 rfl) ?_
  refine lv_aload_n C.1 C.2.1 dX9_tick_1 rfl (lv_at hl 0 rfl) ?_
  refine k_get C hw 43 (by omega) h43 rfl inlX9 18 (by decide) q_161 rfl dX9_tick_2 ?_
  refine lv_icmp_lt (tgt := 14) C.1 C.2.1 dX9_tick_5 (by decide) (fun c5 => ?_) (fun c5 => ?_)
  · refine lv_bipush (v := (-102)) C.1 C.2.1 dX9_tick_14 (by decide) ?_
    exact hret _ _ (Nat.le_of_ble_eq_true rfl) (Nat.le_of_ble_eq_true rfl) hw (⟨rfl, Or.inl ⟨fun z => z.1 c5, rfl, rfl⟩⟩) dX9_tick_16
  · refine lv_iload_n C.1 C.2.1 dX9_tick_8 rfl (lv_at hl 1 rfl) ?_
    refine lv_ldc C.1 C.2.1 C.2.2.2.1 (C.2.2.2.2.1 _ q_512) dX9_tick_9 ?_
    refine k_topi (y := nI 1000000) (by decide) ?_
    refine lv_icmp_le (tgt := 17) C.1 C.2.1 dX9_tick_11 (by decide) (fun c11 => ?_) (fun c11 => ?_)
    · refine lv_iconst (v := nI 0) C.1 C.2.1 dX9_tick_17 (by decide) ?_
      refine lv_istore_n (lv' := [(2, .int (nI 0)), (0, .ref (b + 43)), (1, .int t)]) C.1 C.2.1 dX9_tick_18 rfl hl (by decide) rfl (fun ls hl => ?_)
      refine lv_aload_n C.1 C.2.1 dX9_tick_19 rfl (lv_at hl 1 rfl) ?_
      refine lv_iload_n C.1 C.2.1 dX9_tick_20 rfl (lv_at hl 2 rfl) ?_
      refine k_vi C hw 43 (by omega) h43 rfl (c_X9_due (by omega) h43 h56 h57  (hts)) kv_X9_209 rfl hl.1 ⟨Nat.le_of_ble_eq_true rfl, Nat.le_of_ble_eq_true rfl⟩ (Nat.le_of_ble_eq_true rfl) ⟨Nat.le_of_ble_eq_true rfl, Nat.le_of_ble_eq_true rfl⟩ dX9_tick_21 (fun r21 M_1 n9 H locs hp hw => ?_)
      obtain ⟨er21, en9, eM9⟩ := hp
      have en9 : n9 = n := en9
      rw [en9] at hw
      have eM9 : M_1 = M := eM9
      rw [eM9] at hw
      have hl0 := hl
      refine lv_istore_n (lv' := [(3, .int r21), (2, .int (nI 0)), (0, .ref (b + 43)), (1, .int t)]) C.1 C.2.1 dX9_tick_24 rfl hl (by decide) rfl (fun ls hl => ?_)
      have L25 : ∀ (N25 : Nat) (mn : Nat) (dv : Int32) (Mx25 : Nat → va_E), ((rgN t mtk mtt ts mn).2.2 < N25) → (mn + (rgN t mtk mtt ts mn).2.2 = ts) → (∀ j, j < mn → ∃ q, rgD t mtk mtt ts j = some q) → (∀ q, q < (rgN t mtk mtt ts mn).2.2 → ∃ k, k < 100 ∧ (rgN t mtk mtt ts mn).1 q = nI k) → (dv = oI (rgD t mtk mtt ts mn)) → kF [43, 56, 57, 51, 52, 58, 59, 60, 61] M Mx25 → Mx25 43 = .inr (9, [.int (nI G), .int (nI mo), .int (nI ta), .int sl, .ref (b + 44), .ref (b + 45), .ref (b + 46), .ref (b + 47), .int (nI ca), .ref (b + 48), .ref (b + 49), .ref (b + 50), .ref (b + 51), .ref (b + 52), .int (nI os), .ref (b + 53), .ref (b + 54), .ref (b + 55), .int tr, .int (nI (rgN t mtk mtt ts mn).2.2), .ref (b + 56), .ref (b + 57), .int (nI (lg + mn)), .ref (b + 58), .ref (b + 59), .ref (b + 60), .ref (b + 61), .int (nI mm), .int sc, .ref (b + 62), .ref (b + 63), .ref (b + 64), .ref (b + 65), .ref (b + 66), .ref (b + 67), .ref (b + 68), .ref (b + 69), .ref (b + 70), .ref (b + 71), .ref (b + 72), .ref (b + 73)]) → Mx25 56 = .inl (cI, 40, .inl (rgN t mtk mtt ts mn).1) → Mx25 57 = .inl (cI, 40, .inl (rgN t mtk mtt ts mn).2.1) → Mx25 51 = .inl (cI, 100, .inl (tC (rgK t mtk mtt ts) mct mn)) → Mx25 52 = .inl (cJ, 100, .inr (.inl (tS (rgK t mtk mtt ts) msu mn))) → Mx25 58 = .inl (cI, 32, .inl (lgI lg (rgK t mtk mtt ts) mlk mn)) → Mx25 59 = .inl (cI, 32, .inl (lgI lg (rgT t mtk mtt ts) mlt mn)) → Mx25 60 = .inl (cI, 32, .inl (lgI lg (fun j => tC (rgK t mtk mtt ts) mct j (kn ((rgK t mtk mtt ts) j))) mlc mn)) → Mx25 61 = .inl (cJ, 32, .inr (.inl (lgJ lg (fun j => tS (rgK t mtk mtt ts) msu j (kn ((rgK t mtk mtt ts) j))) mly mn))) → ∀ (ls : Array Slot) (H : Heap) (locs : List Loc), lv_has ls 4 [(3, .int dv), (2, .int (nI mn)), (0, .ref (b + 43)), (1, .int t)] → kW D b Mx25 n s.heap H locs → W p l e ({ frames := 1, cells := 0, slots := 0, locals := 25 } : Room) s m ([.ref (b + 43), .int t] : List Value).toArray below meth c H locs 0 0 Q (F0 m 25 ls []) := by
        intro N25
        induction N25 with
        | zero => intro mn dv Mx25 hm25 hm hall hk2 hdv hFF h43 h56 h57 h51 h52 h58 h59 h60 h61 ls H locs hl hw; omega
        | succ N25 ih25 =>
          intro mn dv Mx25 hm25 hm hall hk2 hdv hFF h43 h56 h57 h51 h52 h58 h59 h60 h61 ls H locs hl hw
          refine lv_iload_n C.1 C.2.1 dX9_tick_25 rfl (lv_at hl 0 rfl) ?_
          refine lv_if_lt (tgt := 46) C.1 C.2.1 dX9_tick_26 (by decide) (fun c26 => ?_) (fun c26 => ?_)
          · have hno : rgD t mtk mtt ts mn = none := (oI_neg (fun b h => by have := (dN_lt h).1; omega)).mp (by rw [← hdv]; exact c26)
            refine lv_aload_n C.1 C.2.1 dX9_tick_46 rfl (lv_at hl 2 rfl) ?_
            refine lv_iload_n C.1 C.2.1 dX9_tick_47 rfl (lv_at hl 3 rfl) ?_
            refine k_put (tf := .int) C hw 43 (by omega) h43 rfl inlX9 tyX9 tyX9_ok nmX9 18 (by decide) q_161 rfl (by decide +kernel) rfl rfl (Nat.le_of_ble_eq_true rfl) dX9_tick_48 (fun M_2 H locs hw h43 hF => ?_)
            have h43 : M_2 43 = .inr (9, [.int (nI G), .int (nI mo), .int (nI ta), .int sl, .ref (b + 44), .ref (b + 45), .ref (b + 46), .ref (b + 47), .int (nI ca), .ref (b + 48), .ref (b + 49), .ref (b + 50), .ref (b + 51), .ref (b + 52), .int (nI os), .ref (b + 53), .ref (b + 54), .ref (b + 55), .int t, .int (nI (rgN t mtk mtt ts mn).2.2), .ref (b + 56), .ref (b + 57), .int (nI (lg + mn)), .ref (b + 58), .ref (b + 59), .ref (b + 60), .ref (b + 61), .int (nI mm), .int sc, .ref (b + 62), .ref (b + 63), .ref (b + 64), .ref (b + 65), .ref (b + 66), .ref (b + 67), .ref (b + 68), .ref (b + 69), .ref (b + 70), .ref (b + 71), .ref (b + 72), .ref (b + 73)]) := h43
            have h56 := (hF 56 (by decide)).trans h56
            have h57 := (hF 57 (by decide)).trans h57
            have h51 := (hF 51 (by decide)).trans h51
            have h52 := (hF 52 (by decide)).trans h52
            have h58 := (hF 58 (by decide)).trans h58
            have h59 := (hF 59 (by decide)).trans h59
            have h60 := (hF 60 (by decide)).trans h60
            have h61 := (hF 61 (by decide)).trans h61
            have hFF := kF_st hFF hF (by first | decide | simp)
            refine lv_iload_n C.1 C.2.1 dX9_tick_51 rfl (lv_at hl 1 rfl) ?_
            exact hret _ _ (Nat.le_of_ble_eq_true rfl) (Nat.le_of_ble_eq_true rfl) hw (⟨rfl, Or.inr ⟨⟨c5, c11⟩, mn, by omega, hall, hno, rfl, hFF, h43, h56, h57, h51, h52, h58, h59, h60, h61⟩⟩) dX9_tick_52
          · have hsb0 : ¬ rgD t mtk mtt ts mn = none := fun z => c26 (by rw [hdv]; exact (oI_neg (fun b h => by have := (dN_lt h).1; omega)).mpr z)
            obtain ⟨i9, hsi⟩ := Option.ne_none_iff_exists'.mp hsb0
            have hil := (dN_lt hsi).1
            have ei : dv = nI i9 := by rw [hdv, hsi]; rfl
            refine lv_aload_n C.1 C.2.1 dX9_tick_29 rfl (lv_at hl 2 rfl) ?_
            refine lv_iload_n C.1 C.2.1 dX9_tick_30 rfl (lv_at hl 0 rfl) ?_
            refine k_topi (y := nI i9) (ei) ?_
            refine k_vv C hw 43 (by omega) h43 rfl (c_X9_ring (by omega) h43 h51 h52 h56 h57 h58 h59 h60 h61  (hil) (by omega) (by omega) (hk2 _ hil)) kv_X9_212 rfl hl.1 ⟨Nat.le_of_ble_eq_true rfl, Nat.le_of_ble_eq_true rfl⟩ (Nat.le_of_ble_eq_true rfl) ⟨Nat.le_of_ble_eq_true rfl, Nat.le_of_ble_eq_true rfl⟩ dX9_tick_31 (fun M_3 n9 H locs hp hw => ?_)
            obtain ⟨en9, hF, h43, h56, h57, h58, h59, h60, h61, h51, h52⟩ := hp
            have en9 : n9 = n := en9
            rw [en9] at hw
            have hFF := kF_st hFF hF (by first | decide | simp)
            refine lv_iinc (v := (nI (mn + 1))) (lv' := [(2, .int (nI (mn + 1))), (3, .int dv), (0, .ref (b + 43)), (1, .int t)]) C.1 C.2.1 dX9_tick_34 hl (k := 1) rfl (k_inc _ 1) (by decide) rfl (fun ls hl => ?_)
            refine lv_aload_n C.1 C.2.1 dX9_tick_37 rfl (lv_at hl 2 rfl) ?_
            refine lv_iload_n C.1 C.2.1 dX9_tick_38 rfl (lv_at hl 3 rfl) ?_
            refine k_vi C hw 43 (by omega) h43 rfl (c_X9_due (by omega) h43 h56 h57  (by omega)) kv_X9_209 rfl hl.1 ⟨Nat.le_of_ble_eq_true rfl, Nat.le_of_ble_eq_true rfl⟩ (Nat.le_of_ble_eq_true rfl) ⟨Nat.le_of_ble_eq_true rfl, Nat.le_of_ble_eq_true rfl⟩ dX9_tick_39 (fun r39 M_4 n9 H locs hp hw => ?_)
            obtain ⟨er39, en9, eM9⟩ := hp
            have en9 : n9 = n := en9
            rw [en9] at hw
            have eM9 : M_4 = M_3 := eM9
            rw [eM9] at hw
            refine lv_istore_n (lv' := [(3, .int r39), (2, .int (nI (mn + 1))), (0, .ref (b + 43)), (1, .int t)]) C.1 C.2.1 dX9_tick_42 rfl hl (by decide) rfl (fun ls hl => ?_)
            refine lv_goto (tgt := 25) C.1 C.2.1 dX9_tick_43 (by decide) ?_
            have e1 : rgK t mtk mtt ts mn = (rgN t mtk mtt ts mn).1 i9 := by unfold rgK; rw [hsi]; rfl
            have e2 : rgT t mtk mtt ts mn = (rgN t mtk mtt ts mn).2.1 i9 := by unfold rgT; rw [hsi]; rfl
            rw [← e1] at h58 h60 h61 h51 h52
            rw [← e2] at h59
            have e3 := rgN_s hsi
            have e4 : shl (rgN t mtk mtt ts mn).1 i9 ((rgN t mtk mtt ts mn).2.2 - 1) = (rgN t mtk mtt ts (mn + 1)).1 := by rw [e3]
            have e5 : shl (rgN t mtk mtt ts mn).2.1 i9 ((rgN t mtk mtt ts mn).2.2 - 1) = (rgN t mtk mtt ts (mn + 1)).2.1 := by rw [e3]
            have e6 : (rgN t mtk mtt ts mn).2.2 - 1 = (rgN t mtk mtt ts (mn + 1)).2.2 := by rw [e3]
            rw [e4] at h56
            rw [e5] at h57
            rw [e6] at h43
            exact ih25  (mn + 1) (_) M_3 (by rw [rgN_s hsi]; show _ - 1 < _; omega) (by rw [rgN_s hsi]; show mn + 1 + (_ - 1) = ts; omega) (fun j hj => by rcases Nat.lt_succ_iff_lt_or_eq.mp hj with h | h; exact hall j h; rw [h]; exact ⟨_, hsi⟩) (fun q hq => by rw [rgN_s hsi] at hq ⊢; exact shl_k hk2 hil q hq) (by rw [er39, e4, e5, e6]) hFF h43 h56 h57 h51 h52 h58 h59 h60 h61  ls _ _ (lv_sub hl [0, 1, 2, 3] rfl) hw
      exact L25 (_ + 1) (0) (_) M (Nat.lt_succ_self _) (Nat.zero_add _) (fun j hj => absurd hj (Nat.not_lt_zero j)) (hkk) (er21) hFF h43 h56 h57 h51 h52 h58 h59 h60 h61  ls _ _ (lv_sub hl [0, 1, 2, 3] rfl) hw
    · refine lv_bipush (v := (-102)) C.1 C.2.1 dX9_tick_14 (by decide) ?_
      exact hret _ _ (Nat.le_of_ble_eq_true rfl) (Nat.le_of_ble_eq_true rfl) hw (⟨rfl, Or.inl ⟨fun z => c11 z.2, rfl, rfl⟩⟩) dX9_tick_16

set_option maxHeartbeats 4000000 in
set_option maxRecDepth 100000 in
theorem c_X9_out {l : Launch} {D : va_G} {cI cJ cZ cH cR : ClassId} {b : Nat} {n : Nat} {M : Nat → va_E}  {G : Nat} {mo : Nat} {ta : Nat} {sl : Int32} {ca : Nat} {os : Nat} {tr : Int32} {ts : Nat} {lg : Nat} {mm : Nat} {sc : Int32} {mon : Nat → Int32} {mok : Nat → Int32} {moz : Nat → Int64} {k w : Int32} (hn : 56 ≤ n) (h43 : M 43 = .inr (9, [.int (nI G), .int (nI mo), .int (nI ta), .int sl, .ref (b + 44), .ref (b + 45), .ref (b + 46), .ref (b + 47), .int (nI ca), .ref (b + 48), .ref (b + 49), .ref (b + 50), .ref (b + 51), .ref (b + 52), .int (nI os), .ref (b + 53), .ref (b + 54), .ref (b + 55), .int tr, .int (nI ts), .ref (b + 56), .ref (b + 57), .int (nI lg), .ref (b + 58), .ref (b + 59), .ref (b + 60), .ref (b + 61), .int (nI mm), .int sc, .ref (b + 62), .ref (b + 63), .ref (b + 64), .ref (b + 65), .ref (b + 66), .ref (b + 67), .ref (b + 68), .ref (b + 69), .ref (b + 70), .ref (b + 71), .ref (b + 72), .ref (b + 73)])) (h53 : M 53 = .inl (cI, 400, .inl mon)) (h54 : M 54 = .inl (cI, 400, .inl mok)) (h55 : M 55 = .inl (cJ, 400, .inr (.inl moz)))  (ho : os ≤ 400) : Met l yX9_out (kw yX9_out cX9_out 3 (some .long)) ({ frames := 1, cells := 0, slots := 0, locals := 25 }) (va_Pc [.ref (b + 43), .int k, .int w] (kPre D (kT cI cJ cZ cH cR) b M n)) (va_Ql (fun (r : Int64) (u : (Nat → va_E) × Nat) => r = (if ¬ w < 0 ∧ w ≤ nI 2 then (if isT k os then selL w [(mon (kn k)).toInt64, (mok (kn k)).toInt64, moz (kn k)] else -106) else -102) ∧ u.2 = n ∧ u.1 = M) (kB D (kT cI cJ cZ cH cR) b) (kA b)) 0 0 (kA b) := by
  refine k_metL (by decide +kernel) (Nat.le_of_ble_eq_true rfl) ?_
  intro p e s m below meth c ls Q C hw hret hnm hl
  have hl : lv_has ls 3 [(0, .ref (b + 43)), (1, .int k), (2, .int w)] := hl
  refine lv_iload_n C.1 C.2.1 dX9_out_0 rfl (lv_at hl 2 rfl) ?_
  refine lv_i2l C.1 C.2.1 dX9_out_1 rfl ?_
  refine lv_lconst (v := 0) C.1 C.2.1 dX9_out_2 rfl ?_
  refine lv_ldc2 C.1 C.2.1 C.2.2.2.1 (C.2.2.2.2.1 _ q_187) dX9_out_3 ?_
  refine k_si C hw (c_X9_in   ) kv_X9_147 rfl hl.1 ⟨Nat.le_of_ble_eq_true rfl, Nat.le_of_ble_eq_true rfl⟩ (Nat.le_of_ble_eq_true rfl) ⟨Nat.le_of_ble_eq_true rfl, Nat.le_of_ble_eq_true rfl⟩ dX9_out_6 (fun r6 M_1 n9 H locs hp hw => ?_)
  obtain ⟨er6, en9, eM9⟩ := hp
  have en9 : n9 = n := en9
  rw [en9] at hw
  have eM9 : M_1 = M := eM9
  rw [eM9] at hw
  refine lv_if_ne (tgt := 16) C.1 C.2.1 dX9_out_9 (by decide) (fun c9 => ?_) (fun c9 => ?_)
  · have h9_ : ¬ w < 0 ∧ w ≤ nI 2 := (inL_i (lo := 0) (hi := 2) 0 (nI 2) (by decide) (by decide)).mp (Classical.byContradiction (fun z => c9 (by rw [er6, if_neg z])))
    refine lv_iload_n C.1 C.2.1 dX9_out_16 rfl (lv_at hl 1 rfl) ?_
    refine lv_i2l C.1 C.2.1 dX9_out_17 rfl ?_
    refine lv_lconst (v := 0) C.1 C.2.1 dX9_out_18 rfl ?_
    refine lv_aload_n C.1 C.2.1 dX9_out_19 rfl (lv_at hl 0 rfl) ?_
    refine k_get C hw 43 (by omega) h43 rfl inlX9 14 (by decide) q_160 rfl dX9_out_20 ?_
    refine lv_iconst (v := nI 1) C.1 C.2.1 dX9_out_23 (by decide) ?_
    refine lv_isub C.1 C.2.1 dX9_out_24 ?_
    refine lv_i2l C.1 C.2.1 dX9_out_25 rfl ?_
    refine k_si C hw (c_X9_in   ) kv_X9_147 rfl hl.1 ⟨Nat.le_of_ble_eq_true rfl, Nat.le_of_ble_eq_true rfl⟩ (Nat.le_of_ble_eq_true rfl) ⟨Nat.le_of_ble_eq_true rfl, Nat.le_of_ble_eq_true rfl⟩ dX9_out_26 (fun r26 M_2 n9 H locs hp hw => ?_)
    obtain ⟨er26, en9, eM9⟩ := hp
    have en9 : n9 = n := en9
    rw [en9] at hw
    have eM9 : M_2 = M := eM9
    rw [eM9] at hw
    refine lv_if_ne (tgt := 36) C.1 C.2.1 dX9_out_29 (by decide) (fun c29 => ?_) (fun c29 => ?_)
    · have h29_ : isT k os := (inT' (by omega)).mp (Classical.byContradiction (fun z => c29 (by rw [er26, if_neg z])))
      obtain ⟨j, hj, ej, ejn⟩ := isT_nI (by omega) h29_
      refine lv_iload_n C.1 C.2.1 dX9_out_36 rfl (lv_at hl 2 rfl) ?_
      refine lv_if_ne (tgt := 50) C.1 C.2.1 dX9_out_37 (by decide) (fun c37 => ?_) (fun c37 => ?_)
      · refine lv_iload_n C.1 C.2.1 dX9_out_50 rfl (lv_at hl 2 rfl) ?_
        refine lv_iconst (v := nI 1) C.1 C.2.1 dX9_out_51 (by decide) ?_
        refine lv_icmp_ne (tgt := 65) C.1 C.2.1 dX9_out_52 (by decide) (fun c52 => ?_) (fun c52 => ?_)
        · have hsw : w.toInt = ((2 : Nat) : Int) := by have h1 := Int32.not_lt.mp h9_.1; have h2 := Int32.le_iff_toInt_le.mp h1; have h3 := Int32.le_iff_toInt_le.mp h9_.2; have h4 : (nI 2).toInt = 2 := (by decide); have h5 : (0 : Int32).toInt = 0 := (by decide); have h6 : ¬ w.toInt = 0 := fun z => c37 (Int32.toInt_inj.mp (by rw [z]; rfl)); have h7 : ¬ w.toInt = 1 := fun z => c52 (Int32.toInt_inj.mp (by rw [z]; rfl)); show w.toInt = 2; omega
          refine lv_aload_n C.1 C.2.1 dX9_out_65 rfl (lv_at hl 0 rfl) ?_
          refine k_get C hw 43 (by omega) h43 rfl inlX9 17 (by decide) q_135 rfl dX9_out_66 ?_
          refine lv_iload_n C.1 C.2.1 dX9_out_69 rfl (lv_at hl 1 rfl) ?_
          refine k_topi (y := nI j) (ej) ?_
          refine k_lald C hw 55 (by omega) h55 (by omega) (by first | decide | omega) dX9_out_70 ?_
          exact hret _ _ (Nat.le_of_ble_eq_true rfl) (Nat.le_of_ble_eq_true rfl) hw (⟨by rw [if_pos h9_, if_pos h29_, ejn]; exact (selL_at 2 hsw rfl).symm, rfl, rfl⟩) dX9_out_71
        · have hsw : w.toInt = ((1 : Nat) : Int) := by rw [c52]; rfl
          refine lv_aload_n C.1 C.2.1 dX9_out_55 rfl (lv_at hl 0 rfl) ?_
          refine k_get C hw 43 (by omega) h43 rfl inlX9 16 (by decide) q_134 rfl dX9_out_56 ?_
          refine lv_iload_n C.1 C.2.1 dX9_out_59 rfl (lv_at hl 1 rfl) ?_
          refine k_topi (y := nI j) (ej) ?_
          refine k_iald C hw 54 (by omega) h54 (by omega) (by first | decide | omega) dX9_out_60 ?_
          refine lv_i2l C.1 C.2.1 dX9_out_61 rfl ?_
          refine lv_goto (tgt := 71) C.1 C.2.1 dX9_out_62 (by decide) ?_
          exact hret _ _ (Nat.le_of_ble_eq_true rfl) (Nat.le_of_ble_eq_true rfl) hw (⟨by rw [if_pos h9_, if_pos h29_, ejn]; exact (selL_at 1 hsw rfl).symm, rfl, rfl⟩) dX9_out_71
      · have hsw : w.toInt = ((0 : Nat) : Int) := by rw [c37]; rfl
        refine lv_aload_n C.1 C.2.1 dX9_out_40 rfl (lv_at hl 0 rfl) ?_
        refine k_get C hw 43 (by omega) h43 rfl inlX9 15 (by decide) q_133 rfl dX9_out_41 ?_
        refine lv_iload_n C.1 C.2.1 dX9_out_44 rfl (lv_at hl 1 rfl) ?_
        refine k_topi (y := nI j) (ej) ?_
        refine k_iald C hw 53 (by omega) h53 (by omega) (by first | decide | omega) dX9_out_45 ?_
        refine lv_i2l C.1 C.2.1 dX9_out_46 rfl ?_
        refine lv_goto (tgt := 71) C.1 C.2.1 dX9_out_47 (by decide) ?_
        exact hret _ _ (Nat.le_of_ble_eq_true rfl) (Nat.le_of_ble_eq_true rfl) hw (⟨by rw [if_pos h9_, if_pos h29_, ejn]; exact (selL_at 0 hsw rfl).symm, rfl, rfl⟩) dX9_out_71
    · have h29_ : ¬ (isT k os) := fun z => by rw [er26, if_pos ((inT' (by omega)).mpr z)] at c29; exact absurd c29 (by decide)
      refine lv_ldc2 C.1 C.2.1 C.2.2.2.1 (C.2.2.2.2.1 _ q_568) dX9_out_32 ?_
      exact hret _ _ (Nat.le_of_ble_eq_true rfl) (Nat.le_of_ble_eq_true rfl) hw (⟨by rw [if_pos h9_, if_neg h29_], rfl, rfl⟩) dX9_out_35
  · have h9_ : ¬ (¬ w < 0 ∧ w ≤ nI 2) := fun z => by rw [er6, if_pos ((inL_i (lo := 0) (hi := 2) 0 (nI 2) (by decide) (by decide)).mpr z)] at c9; exact absurd c9 (by decide)
    refine lv_ldc2 C.1 C.2.1 C.2.2.2.1 (C.2.2.2.2.1 _ q_567) dX9_out_12 ?_
    exact hret _ _ (Nat.le_of_ble_eq_true rfl) (Nat.le_of_ble_eq_true rfl) hw (⟨by rw [if_neg h9_], rfl, rfl⟩) dX9_out_15

set_option maxHeartbeats 4000000 in
set_option maxRecDepth 100000 in
theorem c_X9_log {l : Launch} {D : va_G} {cI cJ cZ cH cR : ClassId} {b : Nat} {n : Nat} {M : Nat → va_E}  {G : Nat} {mo : Nat} {ta : Nat} {sl : Int32} {ca : Nat} {os : Nat} {tr : Int32} {ts : Nat} {lg : Nat} {mm : Nat} {sc : Int32} {mlk : Nat → Int32} {mlt : Nat → Int32} {mlc : Nat → Int32} {mly : Nat → Int64} {k w : Int32} (hn : 62 ≤ n) (h43 : M 43 = .inr (9, [.int (nI G), .int (nI mo), .int (nI ta), .int sl, .ref (b + 44), .ref (b + 45), .ref (b + 46), .ref (b + 47), .int (nI ca), .ref (b + 48), .ref (b + 49), .ref (b + 50), .ref (b + 51), .ref (b + 52), .int (nI os), .ref (b + 53), .ref (b + 54), .ref (b + 55), .int tr, .int (nI ts), .ref (b + 56), .ref (b + 57), .int (nI lg), .ref (b + 58), .ref (b + 59), .ref (b + 60), .ref (b + 61), .int (nI mm), .int sc, .ref (b + 62), .ref (b + 63), .ref (b + 64), .ref (b + 65), .ref (b + 66), .ref (b + 67), .ref (b + 68), .ref (b + 69), .ref (b + 70), .ref (b + 71), .ref (b + 72), .ref (b + 73)])) (h58 : M 58 = .inl (cI, 32, .inl mlk)) (h59 : M 59 = .inl (cI, 32, .inl mlt)) (h60 : M 60 = .inl (cI, 32, .inl mlc)) (h61 : M 61 = .inl (cJ, 32, .inr (.inl mly)))  (hlg : lg < 100000) : Met l yX9_log (kw yX9_log cX9_log 4 (some .long)) ({ frames := 1, cells := 0, slots := 0, locals := 25 }) (va_Pc [.ref (b + 43), .int k, .int w] (kPre D (kT cI cJ cZ cH cR) b M n)) (va_Ql (fun (r : Int64) (u : (Nat → va_E) × Nat) => r = (if ¬ w < 0 ∧ w ≤ nI 3 then (if isT k (min lg 32) then selL w [(mlk ((lg - 1 - kn k) % 32)).toInt64, (mlt ((lg - 1 - kn k) % 32)).toInt64, (mlc ((lg - 1 - kn k) % 32)).toInt64, mly ((lg - 1 - kn k) % 32)] else -106) else -102) ∧ u.2 = n ∧ u.1 = M) (kB D (kT cI cJ cZ cH cR) b) (kA b)) 0 0 (kA b) := by
  refine k_metL (by decide +kernel) (Nat.le_of_ble_eq_true rfl) ?_
  intro p e s m below meth c ls Q C hw hret hnm hl
  have hl : lv_has ls 4 [(0, .ref (b + 43)), (1, .int k), (2, .int w)] := hl
  refine lv_iload_n C.1 C.2.1 dX9_log_0 rfl (lv_at hl 2 rfl) ?_
  refine lv_i2l C.1 C.2.1 dX9_log_1 rfl ?_
  refine lv_lconst (v := 0) C.1 C.2.1 dX9_log_2 rfl ?_
  refine lv_ldc2 C.1 C.2.1 C.2.2.2.1 (C.2.2.2.2.1 _ q_590) dX9_log_3 ?_
  refine k_si C hw (c_X9_in   ) kv_X9_147 rfl hl.1 ⟨Nat.le_of_ble_eq_true rfl, Nat.le_of_ble_eq_true rfl⟩ (Nat.le_of_ble_eq_true rfl) ⟨Nat.le_of_ble_eq_true rfl, Nat.le_of_ble_eq_true rfl⟩ dX9_log_6 (fun r6 M_1 n9 H locs hp hw => ?_)
  obtain ⟨er6, en9, eM9⟩ := hp
  have en9 : n9 = n := en9
  rw [en9] at hw
  have eM9 : M_1 = M := eM9
  rw [eM9] at hw
  refine lv_if_ne (tgt := 16) C.1 C.2.1 dX9_log_9 (by decide) (fun c9 => ?_) (fun c9 => ?_)
  · have h9_ : ¬ w < 0 ∧ w ≤ nI 3 := (inL_i (lo := 0) (hi := 3) 0 (nI 3) (by decide) (by decide)).mp (Classical.byContradiction (fun z => c9 (by rw [er6, if_neg z])))
    refine lv_iload_n C.1 C.2.1 dX9_log_16 rfl (lv_at hl 1 rfl) ?_
    refine lv_i2l C.1 C.2.1 dX9_log_17 rfl ?_
    refine lv_lconst (v := 0) C.1 C.2.1 dX9_log_18 rfl ?_
    refine lv_aload_n C.1 C.2.1 dX9_log_19 rfl (lv_at hl 0 rfl) ?_
    refine k_vi C hw 43 (by omega) h43 rfl (c_X9_keptLogs (by omega) h43  (hlg)) kv_X9_221 rfl hl.1 ⟨Nat.le_of_ble_eq_true rfl, Nat.le_of_ble_eq_true rfl⟩ (Nat.le_of_ble_eq_true rfl) ⟨Nat.le_of_ble_eq_true rfl, Nat.le_of_ble_eq_true rfl⟩ dX9_log_20 (fun r20 M_2 n9 H locs hp hw => ?_)
    obtain ⟨er20, en9, eM9⟩ := hp
    have en9 : n9 = n := en9
    rw [en9] at hw
    have eM9 : M_2 = M := eM9
    rw [eM9] at hw
    subst er20
    refine lv_iconst (v := nI 1) C.1 C.2.1 dX9_log_23 (by decide) ?_
    refine lv_isub C.1 C.2.1 dX9_log_24 ?_
    refine lv_i2l C.1 C.2.1 dX9_log_25 rfl ?_
    refine k_si C hw (c_X9_in   ) kv_X9_147 rfl hl.1 ⟨Nat.le_of_ble_eq_true rfl, Nat.le_of_ble_eq_true rfl⟩ (Nat.le_of_ble_eq_true rfl) ⟨Nat.le_of_ble_eq_true rfl, Nat.le_of_ble_eq_true rfl⟩ dX9_log_26 (fun r26 M_3 n9 H locs hp hw => ?_)
    obtain ⟨er26, en9, eM9⟩ := hp
    have en9 : n9 = n := en9
    rw [en9] at hw
    have eM9 : M_3 = M := eM9
    rw [eM9] at hw
    refine lv_if_ne (tgt := 36) C.1 C.2.1 dX9_log_29 (by decide) (fun c29 => ?_) (fun c29 => ?_)
    · have h29_ : isT k (min lg 32) := (inT' (by omega)).mp (Classical.byContradiction (fun z => c29 (by rw [er26, if_neg z])))
      obtain ⟨j, hj, ej, ejn⟩ := isT_nI (by omega) h29_
      have hmd : ((lg - 1 - j) % 32) < 32 := Nat.mod_lt _ (by decide)
      refine lv_aload_n C.1 C.2.1 dX9_log_36 rfl (lv_at hl 0 rfl) ?_
      refine k_get C hw 43 (by omega) h43 rfl inlX9 22 (by decide) q_163 rfl dX9_log_37 ?_
      refine lv_iconst (v := nI 1) C.1 C.2.1 dX9_log_40 (by decide) ?_
      refine lv_isub C.1 C.2.1 dX9_log_41 ?_
      refine k_topi (y := nI (lg - 1)) (pk_sub (by omega)) ?_
      refine lv_iload_n C.1 C.2.1 dX9_log_42 rfl (lv_at hl 1 rfl) ?_
      refine k_topi (y := nI j) (ej) ?_
      refine lv_isub C.1 C.2.1 dX9_log_43 ?_
      refine k_topi (y := nI (lg - 1 - j)) (pk_sub (by omega)) ?_
      refine lv_bipush (v := nI 32) C.1 C.2.1 dX9_log_44 (by decide) ?_
      refine lv_irem C.1 C.2.1 dX9_log_46 (by decide) ?_
      refine k_topi (y := nI ((lg - 1 - j) % 32)) (pk_rem (by omega) (by decide) (by decide)) ?_
      refine lv_istore_n (lv' := [(3, .int (nI ((lg - 1 - j) % 32))), (0, .ref (b + 43)), (1, .int k), (2, .int w)]) C.1 C.2.1 dX9_log_47 rfl hl (by decide) rfl (fun ls hl => ?_)
      refine lv_iload_n C.1 C.2.1 dX9_log_48 rfl (lv_at hl 3 rfl) ?_
      refine lv_if_ne (tgt := 62) C.1 C.2.1 dX9_log_49 (by decide) (fun c49 => ?_) (fun c49 => ?_)
      · refine lv_iload_n C.1 C.2.1 dX9_log_62 rfl (lv_at hl 3 rfl) ?_
        refine lv_iconst (v := nI 1) C.1 C.2.1 dX9_log_63 (by decide) ?_
        refine lv_icmp_ne (tgt := 77) C.1 C.2.1 dX9_log_64 (by decide) (fun c64 => ?_) (fun c64 => ?_)
        · refine lv_iload_n C.1 C.2.1 dX9_log_77 rfl (lv_at hl 3 rfl) ?_
          refine lv_iconst (v := nI 2) C.1 C.2.1 dX9_log_78 (by decide) ?_
          refine lv_icmp_ne (tgt := 92) C.1 C.2.1 dX9_log_79 (by decide) (fun c79 => ?_) (fun c79 => ?_)
          · have hsw : w.toInt = ((3 : Nat) : Int) := by have h1 := Int32.not_lt.mp h9_.1; have h2 := Int32.le_iff_toInt_le.mp h1; have h3 := Int32.le_iff_toInt_le.mp h9_.2; have h4 : (nI 3).toInt = 3 := (by decide); have h5 : (0 : Int32).toInt = 0 := (by decide); have h6 : ¬ w.toInt = 0 := fun z => c49 (Int32.toInt_inj.mp (by rw [z]; rfl)); have h7 : ¬ w.toInt = 1 := fun z => c64 (Int32.toInt_inj.mp (by rw [z]; rfl)); have h8 : ¬ w.toInt = 2 := fun z => c79 (Int32.toInt_inj.mp (by rw [z]; rfl)); show w.toInt = 3; omega
            refine lv_aload_n C.1 C.2.1 dX9_log_92 rfl (lv_at hl 1 rfl) ?_
            refine k_get C hw 43 (by omega) h43 rfl inlX9 26 (by decide) q_141 rfl dX9_log_93 ?_
            refine lv_iload_n C.1 C.2.1 dX9_log_96 rfl (lv_at hl 0 rfl) ?_
            refine k_lald C hw 61 (by omega) h61 (by omega) (by first | decide | omega) dX9_log_97 ?_
            exact hret _ _ (Nat.le_of_ble_eq_true rfl) (Nat.le_of_ble_eq_true rfl) hw (⟨by rw [if_pos h9_, if_pos h29_, ejn]; exact (selL_at 3 hsw rfl).symm, rfl, rfl⟩) dX9_log_98
          · have hsw : w.toInt = ((2 : Nat) : Int) := by rw [c79]; rfl
            refine lv_aload_n C.1 C.2.1 dX9_log_82 rfl (lv_at hl 1 rfl) ?_
            refine k_get C hw 43 (by omega) h43 rfl inlX9 25 (by decide) q_140 rfl dX9_log_83 ?_
            refine lv_iload_n C.1 C.2.1 dX9_log_86 rfl (lv_at hl 0 rfl) ?_
            refine k_iald C hw 60 (by omega) h60 (by omega) (by first | decide | omega) dX9_log_87 ?_
            refine lv_i2l C.1 C.2.1 dX9_log_88 rfl ?_
            refine lv_goto (tgt := 98) C.1 C.2.1 dX9_log_89 (by decide) ?_
            exact hret _ _ (Nat.le_of_ble_eq_true rfl) (Nat.le_of_ble_eq_true rfl) hw (⟨by rw [if_pos h9_, if_pos h29_, ejn]; exact (selL_at 2 hsw rfl).symm, rfl, rfl⟩) dX9_log_98
        · have hsw : w.toInt = ((1 : Nat) : Int) := by rw [c64]; rfl
          refine lv_aload_n C.1 C.2.1 dX9_log_67 rfl (lv_at hl 1 rfl) ?_
          refine k_get C hw 43 (by omega) h43 rfl inlX9 24 (by decide) q_139 rfl dX9_log_68 ?_
          refine lv_iload_n C.1 C.2.1 dX9_log_71 rfl (lv_at hl 0 rfl) ?_
          refine k_iald C hw 59 (by omega) h59 (by omega) (by first | decide | omega) dX9_log_72 ?_
          refine lv_i2l C.1 C.2.1 dX9_log_73 rfl ?_
          refine lv_goto (tgt := 98) C.1 C.2.1 dX9_log_74 (by decide) ?_
          exact hret _ _ (Nat.le_of_ble_eq_true rfl) (Nat.le_of_ble_eq_true rfl) hw (⟨by rw [if_pos h9_, if_pos h29_, ejn]; exact (selL_at 1 hsw rfl).symm, rfl, rfl⟩) dX9_log_98
      · have hsw : w.toInt = ((0 : Nat) : Int) := by rw [c49]; rfl
        refine lv_aload_n C.1 C.2.1 dX9_log_52 rfl (lv_at hl 1 rfl) ?_
        refine k_get C hw 43 (by omega) h43 rfl inlX9 23 (by decide) q_138 rfl dX9_log_53 ?_
        refine lv_iload_n C.1 C.2.1 dX9_log_56 rfl (lv_at hl 0 rfl) ?_
        refine k_iald C hw 58 (by omega) h58 (by omega) (by first | decide | omega) dX9_log_57 ?_
        refine lv_i2l C.1 C.2.1 dX9_log_58 rfl ?_
        refine lv_goto (tgt := 98) C.1 C.2.1 dX9_log_59 (by decide) ?_
        exact hret _ _ (Nat.le_of_ble_eq_true rfl) (Nat.le_of_ble_eq_true rfl) hw (⟨by rw [if_pos h9_, if_pos h29_, ejn]; exact (selL_at 0 hsw rfl).symm, rfl, rfl⟩) dX9_log_98
    · have h29_ : ¬ (isT k (min lg 32)) := fun z => by rw [er26, if_pos ((inT' (by omega)).mpr z)] at c29; exact absurd c29 (by decide)
      refine lv_ldc2 C.1 C.2.1 C.2.2.2.1 (C.2.2.2.2.1 _ q_568) dX9_log_32 ?_
      exact hret _ _ (Nat.le_of_ble_eq_true rfl) (Nat.le_of_ble_eq_true rfl) hw (⟨by rw [if_pos h9_, if_neg h29_], rfl, rfl⟩) dX9_log_35
  · have h9_ : ¬ (¬ w < 0 ∧ w ≤ nI 3) := fun z => by rw [er6, if_pos ((inL_i (lo := 0) (hi := 3) 0 (nI 3) (by decide) (by decide)).mpr z)] at c9; exact absurd c9 (by decide)
    refine lv_ldc2 C.1 C.2.1 C.2.2.2.1 (C.2.2.2.2.1 _ q_567) dX9_log_12 ?_
    exact hret _ _ (Nat.le_of_ble_eq_true rfl) (Nat.le_of_ble_eq_true rfl) hw (⟨by rw [if_neg h9_], rfl, rfl⟩) dX9_log_15
