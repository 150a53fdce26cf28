theorem lw_head {L i : Nat} (hL : L ≤ 2048) (hi : i ≤ L) (h4 : ∃ k, i = 4 * k) (h : ¬ (Int32.ofNat L - nI 4) < nI i) : i + 4 ≤ L := by
  rcases Nat.lt_or_ge L 4 with q | q
  · obtain ⟨k, hk⟩ := h4
    have h0 : i = 0 := by omega
    subst h0
    rcases (show L = 0 ∨ L = 1 ∨ L = 2 ∨ L = 3 by omega) with rfl | rfl | rfl | rfl <;> exact absurd (by decide) h
  · have e1 : Int32.ofNat L - nI 4 = nI (L - 4) := by
      have z : nI (L - 4) + nI 4 = nI L := by rw [nI_add]; congr 1; omega
      show nI L - nI 4 = nI (L - 4)
      rw [← z, Int32.add_sub_cancel]
    rw [e1, Int32.lt_iff_toInt_lt, nI_toInt (by omega), nI_toInt (by omega)] at h
    omega
set_option maxHeartbeats 4000000 in
set_option maxRecDepth 100000 in
/-- the law's loop -/
theorem law_loop {p : Program} {l : Launch} {e : Env} {s : State} {m : MethodId} {below : List Frame} {meth : Method} {c : Code} {D : va_G} {cI cJ cZ cH cR : ClassId} {a L : Nat} {xs : Nat → Int32} (hL : L ≤ 2048) (C0 : lw_At p s m meth c a L xs) (C : kC p s m c #[Value.ref a] cL_law 4 RL D (kT cI cJ cZ cH cR)) :
    ∀ (fuel cc : Nat), 4 * cc ≤ L → L < 4 * cc + 4 * fuel → ∀ (M : Nat → va_E) (n : Nat) (H : Heap) (locs : List Loc) (ls : Array Slot), kW D s.heap.size M n s.heap H locs → iInv cI cJ cZ cH cR s.heap.size n M cc → lv_has ls 4 [(3, .int (nI (4 * cc))), (2, .ref (s.heap.size + 43)), (1, .ref (s.heap.size + 0)), (0, .ref a)] → W p l e room_1 s m #[Value.ref a] below meth c H locs n (slN n) (lw_Z below #[Value.ref a] s) (F0 m 18 ls []) := by
  obtain ⟨hx, hb, hr, hml, hown, hts, hX, hbl, hlocks, hgv⟩ := C0
  have hbA : ¬ kA s.heap.size a := Nat.not_le.mpr hbl
  intro fuel
  induction fuel with
  | zero =>
    intro cc h1 h2
    exact absurd h2 (by omega)
  | succ fuel ih =>
    intro cc h1 h2 M n H locs ls hw I hl
    have hn7 : n ≤ 107 := by
      obtain ⟨_, _, _, _, _, _, _, _, _, _, _, _, _, _, _, _, _, _, _, _, _, _, _, _, _, _, _, hNu⟩ := id I
      unfold iNu at hNu; omega
    refine lv_iload_n C.1 C.2.1 dL_law_18 rfl (lv_at hl 0 rfl) ?_
    refine lv_aload_n C.1 C.2.1 dL_law_19 rfl (lv_at hl 3 rfl) ?_
    refine va_slen C.1 C.2.1 hX hbl hbA hw.2 dL_law_20 ?_
    refine lv_iconst (v := nI 4) C.1 C.2.1 dL_law_21 (by decide) ?_
    refine lv_isub C.1 C.2.1 dL_law_22 ?_
    refine lv_icmp_gt (tgt := 759) C.1 C.2.1 dL_law_23 (by decide) (fun z => ?_) (fun z => ?_)
    · refine lv_iconst (v := 1) C.1 C.2.1 dL_law_759 (by decide) ?_
      refine va_forget (fun q hq => hw.2.2.2 q hq) ?_
      refine W.widen (k := 600000) (n := 7302250) (by omega) (by unfold slN; omega) ?_
      exact lw_ret hx hb hr hlocks dL_law_760
    · have hi : 4 * cc + 4 ≤ L := lw_head hL h1 ⟨cc, rfl⟩ z
      have hX9 : lwC p s m c D cI cJ cZ cH cR a L xs (4 * cc) cc ls := ⟨C, hX, hbl, hL, hi, by omega, hl⟩
      have K : lwK p l e s m below meth c (lw_Z below #[Value.ref a] s) ls D cI cJ cZ cH cR a cc := by
        intro M1 n1 H1 locs1 hw1 I1
        refine lv_iinc (v := nI (4 * (cc + 1))) (lv' := [(3, .int (nI (4 * (cc + 1)))), (2, .ref (s.heap.size + 43)), (1, .ref (s.heap.size + 0)), (0, .ref a)]) C.1 C.2.1 dL_law_753 hl (k := 0) rfl (k_inc (4 * cc) 4) (by decide) rfl (fun ls2 hl2 => ?_)
        refine lv_goto (tgt := 18) C.1 C.2.1 dL_law_756 (by decide) ?_
        exact ih (cc + 1) (by omega) (by omega) M1 n1 H1 locs1 ls2 hw1 I1 hl2
      refine lv_aload_n C.1 C.2.1 dL_law_26 rfl (lv_at hl 3 rfl) ?_
      refine lv_iload_n C.1 C.2.1 dL_law_27 rfl (lv_at hl 0 rfl) ?_
      refine va_sld C.1 C.2.1 hX hbl hbA hw.2 (vp_in_nI (show 4 * cc < L by omega) (by omega)) dL_law_28 ?_
      refine lv_bipush (v := nI 31) C.1 C.2.1 dL_law_29 (by decide) ?_
      refine lv_iand C.1 C.2.1 dL_law_31 ?_
      rcases k_sw (x := xs (nI (4 * cc)).toNatClampNeg &&& nI 31) (lo := 0) (hi := 22) with hsw | ⟨k9, hk1, hk2, hsw⟩
      · refine lv_tableOut (tgt := 753) C.1 C.2.1 dL_law_32 hsw (by decide) ?_
        exact K M n H locs hw (iInv_next I)
      · rcases (show k9 = 0 ∨ k9 = 1 ∨ k9 = 2 ∨ k9 = 3 ∨ k9 = 4 ∨ k9 = 5 ∨ k9 = 6 ∨ k9 = 7 ∨ k9 = 8 ∨ k9 = 9 ∨ k9 = 10 ∨ k9 = 11 ∨ k9 = 12 ∨ k9 = 13 ∨ k9 = 14 ∨ k9 = 15 ∨ k9 = 16 ∨ k9 = 17 ∨ k9 = 18 ∨ k9 = 19 ∨ k9 = 20 ∨ k9 = 21 ∨ k9 = 22 by omega) with rfl | rfl | rfl | rfl | rfl | rfl | rfl | rfl | rfl | rfl | rfl | rfl | rfl | rfl | rfl | rfl | rfl | rfl | rfl | rfl | rfl | rfl | rfl
        · refine lv_tableIn (off := 108) (tgt := 140) C.1 C.2.1 dL_law_32 (by rw [hsw]; decide) (by rw [hsw]; decide) (by rw [hsw]; decide) (by decide) ?_
          exact lw_shape hX9 hw I K
        · refine lv_tableIn (off := 141) (tgt := 173) C.1 C.2.1 dL_law_32 (by rw [hsw]; decide) (by rw [hsw]; decide) (by rw [hsw]; decide) (by decide) ?_
          exact lw_slack hX9 hw I K
        · refine lv_tableIn (off := 164) (tgt := 196) C.1 C.2.1 dL_law_32 (by rw [hsw]; decide) (by rw [hsw]; decide) (by rw [hsw]; decide) (by decide) ?_
          exact lw_group hX9 hw I K
        · refine lv_tableIn (off := 187) (tgt := 219) C.1 C.2.1 dL_law_32 (by rw [hsw]; decide) (by rw [hsw]; decide) (by rw [hsw]; decide) (by decide) ?_
          exact lw_row hX9 hw I K
        · refine lv_tableIn (off := 220) (tgt := 252) C.1 C.2.1 dL_law_32 (by rw [hsw]; decide) (by rw [hsw]; decide) (by rw [hsw]; decide) (by decide) ?_
          exact lw_step hX9 hw I K
        · refine lv_tableIn (off := 243) (tgt := 275) C.1 C.2.1 dL_law_32 (by rw [hsw]; decide) (by rw [hsw]; decide) (by rw [hsw]; decide) (by decide) ?_
          exact lw_add hX9 hw I K
        · refine lv_tableIn (off := 286) (tgt := 318) C.1 C.2.1 dL_law_32 (by rw [hsw]; decide) (by rw [hsw]; decide) (by rw [hsw]; decide) (by decide) ?_
          exact lw_scale hX9 hw I K
        · refine lv_tableIn (off := 319) (tgt := 351) C.1 C.2.1 dL_law_32 (by rw [hsw]; decide) (by rw [hsw]; decide) (by rw [hsw]; decide) (by decide) ?_
          exact lw_moved hX9 hw I K
        · refine lv_tableIn (off := 342) (tgt := 374) C.1 C.2.1 dL_law_32 (by rw [hsw]; decide) (by rw [hsw]; decide) (by rw [hsw]; decide) (by decide) ?_
          exact lw_least hX9 hw I K
        · refine lv_tableIn (off := 366) (tgt := 398) C.1 C.2.1 dL_law_32 (by rw [hsw]; decide) (by rw [hsw]; decide) (by rw [hsw]; decide) (by decide) ?_
          exact lw_groupAt hX9 hw I K
        · refine lv_tableIn (off := 399) (tgt := 431) C.1 C.2.1 dL_law_32 (by rw [hsw]; decide) (by rw [hsw]; decide) (by rw [hsw]; decide) (by decide) ?_
          exact lw_taskAt hX9 hw I K
        · refine lv_tableIn (off := 432) (tgt := 464) C.1 C.2.1 dL_law_32 (by rw [hsw]; decide) (by rw [hsw]; decide) (by rw [hsw]; decide) (by decide) ?_
          exact lw_counted hX9 hw I K
        · refine lv_tableIn (off := 455) (tgt := 487) C.1 C.2.1 dL_law_32 (by rw [hsw]; decide) (by rw [hsw]; decide) (by rw [hsw]; decide) (by decide) ?_
          exact lw_sum hX9 hw I K
        · refine lv_tableIn (off := 479) (tgt := 511) C.1 C.2.1 dL_law_32 (by rw [hsw]; decide) (by rw [hsw]; decide) (by rw [hsw]; decide) (by decide) ?_
          exact lw_hot hX9 hw I K
        · refine lv_tableIn (off := 502) (tgt := 534) C.1 C.2.1 dL_law_32 (by rw [hsw]; decide) (by rw [hsw]; decide) (by rw [hsw]; decide) (by decide) ?_
          exact lw_timer hX9 hw I K
        · refine lv_tableIn (off := 535) (tgt := 567) C.1 C.2.1 dL_law_32 (by rw [hsw]; decide) (by rw [hsw]; decide) (by rw [hsw]; decide) (by decide) ?_
          exact lw_tick hX9 hw I K
        · refine lv_tableIn (off := 558) (tgt := 590) C.1 C.2.1 dL_law_32 (by rw [hsw]; decide) (by rw [hsw]; decide) (by rw [hsw]; decide) (by decide) ?_
          exact lw_out hX9 hw I K
        · refine lv_tableIn (off := 592) (tgt := 624) C.1 C.2.1 dL_law_32 (by rw [hsw]; decide) (by rw [hsw]; decide) (by rw [hsw]; decide) (by decide) ?_
          exact lw_log hX9 hw I K
        · refine lv_tableIn (off := 626) (tgt := 658) C.1 C.2.1 dL_law_32 (by rw [hsw]; decide) (by rw [hsw]; decide) (by rw [hsw]; decide) (by decide) ?_
          exact lw_mark hX9 hw I K
        · refine lv_tableIn (off := 639) (tgt := 671) C.1 C.2.1 dL_law_32 (by rw [hsw]; decide) (by rw [hsw]; decide) (by rw [hsw]; decide) (by decide) ?_
          exact lw_restore hX9 hw I K
        · refine lv_tableIn (off := 672) (tgt := 704) C.1 C.2.1 dL_law_32 (by rw [hsw]; decide) (by rw [hsw]; decide) (by rw [hsw]; decide) (by decide) ?_
          exact lw_digest hX9 hw I K
        · refine lv_tableIn (off := 685) (tgt := 717) C.1 C.2.1 dL_law_32 (by rw [hsw]; decide) (by rw [hsw]; decide) (by rw [hsw]; decide) (by decide) ?_
          exact lw_told hX9 hw I K
        · refine lv_tableIn (off := 708) (tgt := 740) C.1 C.2.1 dL_law_32 (by rw [hsw]; decide) (by rw [hsw]; decide) (by rw [hsw]; decide) (by decide) ?_
          exact lw_clear hX9 hw I K
