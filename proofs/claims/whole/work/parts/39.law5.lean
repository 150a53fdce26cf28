theorem kv_L_95 : kV RL RX8 95 yX8_restore cX8_restore 3 (some .int) 2 := ⟨q_621, q_622, q_623, q_2, q_624, by decide +kernel⟩
theorem kv_L_98 : kV RL RX9 98 yX9_restore cX9_restore 4 (some .int) 2 := ⟨q_629, q_630, q_631, q_5, q_632, by decide +kernel⟩
theorem mg4s {A B C X1 X2 X3 X4 : Prop} (a : A) (h : (¬ A ∧ X1) ∨ ((A ∧ B) ∧ X2) ∨ ((A ∧ ¬ B ∧ C) ∧ X3) ∨ ((A ∧ ¬ B ∧ ¬ C) ∧ X4)) : (B ∧ X2) ∨ ((¬ B ∧ C) ∧ X3) ∨ ((¬ B ∧ ¬ C) ∧ X4) := by
  rcases h with ⟨z, -⟩ | ⟨z, y⟩ | ⟨z, y⟩ | ⟨z, y⟩
  · exact absurd a z
  · exact Or.inl ⟨z.2, y⟩
  · exact Or.inr (Or.inl ⟨z.2, y⟩)
  · exact Or.inr (Or.inr ⟨z.2, y⟩)
section KLC
variable {p : Program} {l : Launch} {e : Env} {s : State} {m : MethodId} {below : List Frame} {meth : Method} {c : Code} {H : Heap} {locs : List Loc} {Q : State → Prop} {ls : Array Slot} {D : va_G} {n a L i cc : Nat} {M : Nat → va_E} {xs : Nat → Int32} {cI cJ cZ cH cR : ClassId}
set_option maxHeartbeats 4000000 in
set_option maxRecDepth 100000 in
theorem lw_restore (X : lwC p s m c D cI cJ cZ cH cR a L xs i cc ls) (hw : kW D s.heap.size M n s.heap H locs) (I : iInv cI cJ cZ cH cR s.heap.size n M cc) (K : lwK p l e s m below meth c Q ls D cI cJ cZ cH cR a cc) : W p l e room_1 s m #[Value.ref a] below meth c H locs n (slN n) Q (F0 m 671 ls []) := by
  have I0 := I
  obtain ⟨C, hX, hbl, hL, hi, hcc, hl⟩ := X
  obtain ⟨mm, s_, G, mo, ta, sc, mv, rs, ca, ts, tr, os, lx, lz, lg, hc, w, hOb, hOw, hMv, hPl, hSt, hRw, hOu, hTm, hLg, hMk, hNu⟩ := I
  obtain ⟨hG0, hG, hmo, hta0, hta, hs_, hsum, hos, hlg, hc3, hmh, hn⟩ := id hNu
  obtain ⟨h0, h1, h6, h9, h22, h23, h26, h30, h33, h37, h43⟩ := id hOb
  obtain ⟨ow, ep, we, mow, mep, mwe, h2, h3, h4, h44, h45, h46, how⟩ := id hOw
  obtain ⟨mg, mmv, h5, h47, hmv⟩ := id hMv
  obtain ⟨po, be, mpl, mlf, eo, h7, h8, h72, h73, hE⟩ := id hPl
  obtain ⟨ct, su, mct, msu, h24, h25, h51, h52, hst_⟩ := id hSt
  obtain ⟨rn, rk, rv, mrk, mrv, mwa, h27, h28, h29, h48, h49, h50, hrr⟩ := id hRw
  obtain ⟨on_, ok_, oz, mon, mok, moz, h34, h35, h36, h53, h54, h55, hou⟩ := id hOu
  obtain ⟨tk, tt, mtk, mtt, h31, h32, h56, h57, htm⟩ := id hTm
  obtain ⟨lk, lt, lc, ly, mlk, mlt, mlc, mly, h38, h39, h40, h41, h58, h59, h60, h61, hlgr⟩ := id hLg
  obtain ⟨mk, mxr, mxk, mxv, mxw, mxc, mxt, mxn, mxa, mxb, mxs, h42, hmk, h62, h63, h64, h65, h66, h67, h68, h69, h70, h71, hM⟩ := id hMk
  have hxr : ∀ j, j < mm → mxr j = nI ((fun j => kn (mxr j)) j) ∧ (fun j => kn (mxr j)) j ≤ 400 := fun j hj => by
    obtain ⟨_, _, _, _, _, _, _, _, ca9, _, _, -, hr⟩ := hM j (by omega)
    obtain ⟨-, z2, -, z4, -, -⟩ := hr hj
    have z5 : kn (mxr j) = ca9 := by rw [z4]; exact nI_clamp (by have := z2.1; omega)
    exact ⟨by show mxr j = nI (kn (mxr j)); rw [z5]; exact z4, by show kn (mxr j) ≤ 400; rw [z5]; exact z2.1⟩
  have hxn : ∀ j, j < mm → mxn j = nI ((fun j => kn (mxn j)) j) ∧ (fun j => kn (mxn j)) j ≤ 40 := fun j hj => by
    obtain ⟨_, _, _, _, _, _, _, _, _, ts9, _, -, hr⟩ := hM j (by omega)
    obtain ⟨-, -, z3, -, z4, -⟩ := hr hj
    have z5 : kn (mxn j) = ts9 := by rw [z4]; exact nI_clamp (by have := z3.1; omega)
    exact ⟨by show mxn j = nI (kn (mxn j)); rw [z5]; exact z4, by show kn (mxn j) ≤ 40; rw [z5]; exact z3.1⟩
  have hxw : ∀ j, j < mm → ∀ q, q < (fun j => kn (mxr j)) j → mxw (400 * j + q) = 0 ∨ mxw (400 * j + q) = 1 := fun j hj q hq => by
    obtain ⟨_, _, _, _, _, _, _, _, ca9, _, _, -, hr⟩ := hM j (by omega)
    obtain ⟨-, z2, -, z4, -, -⟩ := hr hj
    have z5 : kn (mxr j) = ca9 := by rw [z4]; exact nI_clamp (by have := z2.1; omega)
    have hq : q < kn (mxr j) := hq
    exact z2.2.2.2.1 q (by omega)
  by_cases hb9 : isT (xs (i + 1)) mm
  · obtain ⟨k9, hk9, ek9, ek8⟩ := isT_nI (by omega) hb9
    rcases (show k9 = 0 ∨ k9 = 1 ∨ k9 = 2 by omega) with hz9 | hz9 | hz9
    · subst hz9
      obtain ⟨ct0, rn0, rk0, rv0, tk0, tt0, su0, rs0, ca0, ts0, tr0, ⟨b0, b1, b2, b3, b4, b5, b6, b7, b8, b9, b10⟩, hr0⟩ := hM 0 (by omega)
      obtain ⟨r1_, r2_, r3_, r4_, r5_, r6_⟩ := hr0 hk9
      have hrs9 : rs0 ≤ 400 := Nat.le_trans (RR_le r2_) r2_.1
      have ecz : kn (mxr 0) = ca0 := by rw [r4_]; exact nI_clamp (by have := r2_.1; omega)
      have enz : kn (mxn 0) = ts0 := by rw [r5_]; exact nI_clamp (by have := r3_.1; omega)
      refine lv_aload_n C.1 C.2.1 dL_law_671 rfl (lv_at hl 2 rfl) ?_
      refine lw_ld (k0 := 0) (k3 := 3) (i := i) C hX hbl hw 1 (by omega) hL (lv_at hl 3 rfl) (lv_at hl 0 rfl) dL_law_672 dL_law_673 dL_law_674 rfl dL_law_675 dL_law_676 ?_
      refine k_topi (nI 0) ek9 ?_
      refine lw_ld (k0 := 0) (k3 := 3) (i := i) C hX hbl hw 2 (by omega) hL (lv_at hl 3 rfl) (lv_at hl 0 rfl) dL_law_677 dL_law_678 dL_law_679 rfl dL_law_680 dL_law_681 ?_
      refine k_vi C hw 0 (by omega) h0 rfl (c_X8_restore_0 (by omega) h0 h1 h2 h3 h4 h6 h7 h22 h23 h24 h25 h26 h27 h28 h29 h30 h31 h32 h33 h37 h42 b0 b1 b2 b3 b4 b5 b6 b7 b8 b9 b10 hG0 hG hmo (by omega) (by omega) ((hmk 0 (by omega)).trans (if_pos (by omega))) hrs9 r3_.1) kv_L_95 rfl hl.1 ⟨Nat.le_of_ble_eq_true rfl, Nat.le_of_ble_eq_true rfl⟩ (Nat.le_of_ble_eq_true rfl) (slN_room (by omega) 0 0 (by omega) (by omega)) dL_law_682 (fun r1 M1 n1 H1 locs1 hp1 hw1 => ?_)
      clear hw
      dsimp only at hp1
      obtain ⟨en1, hp1⟩ := hp1
      subst en1
      have hF1 : kF [1, 2, 3, 4, 7, 24, 25, 26, 27, 28, 29, 30, 31, 32, 33, 37] M M1 := by
        rcases hp1 with ⟨-, -, e9⟩ | ⟨-, -, e9⟩ | ⟨-, -, hf9, -⟩
        · exact kF_of e9
        · exact kF_of e9
        · exact hf9
      have q43 := (hF1 43 (by decide)).trans h43
      have q44 := (hF1 44 (by decide)).trans h44
      have q45 := (hF1 45 (by decide)).trans h45
      have q46 := (hF1 46 (by decide)).trans h46
      have q48 := (hF1 48 (by decide)).trans h48
      have q49 := (hF1 49 (by decide)).trans h49
      have q50 := (hF1 50 (by decide)).trans h50
      have q51 := (hF1 51 (by decide)).trans h51
      have q52 := (hF1 52 (by decide)).trans h52
      have q56 := (hF1 56 (by decide)).trans h56
      have q57 := (hF1 57 (by decide)).trans h57
      have q62 := (hF1 62 (by decide)).trans h62
      have q63 := (hF1 63 (by decide)).trans h63
      have q64 := (hF1 64 (by decide)).trans h64
      have q65 := (hF1 65 (by decide)).trans h65
      have q66 := (hF1 66 (by decide)).trans h66
      have q67 := (hF1 67 (by decide)).trans h67
      have q68 := (hF1 68 (by decide)).trans h68
      have q69 := (hF1 69 (by decide)).trans h69
      have q70 := (hF1 70 (by decide)).trans h70
      have q71 := (hF1 71 (by decide)).trans h71
      have q72 := (hF1 72 (by decide)).trans h72
      have hw := hw1
      refine lv_aload_n C.1 C.2.1 dL_law_685 rfl (lv_at hl 1 rfl) ?_
      refine lw_ld (k0 := 0) (k3 := 3) (i := i) C hX hbl hw 1 (by omega) hL (lv_at hl 3 rfl) (lv_at hl 0 rfl) dL_law_686 dL_law_687 dL_law_688 rfl dL_law_689 dL_law_690 ?_
      refine lw_ld (k0 := 0) (k3 := 3) (i := i) C hX hbl hw 2 (by omega) hL (lv_at hl 3 rfl) (lv_at hl 0 rfl) dL_law_691 dL_law_692 dL_law_693 rfl dL_law_694 dL_law_695 ?_
      refine k_vi C hw 43 (by omega) q43 rfl (c_X9_restore (cz := fun j => kn (mxr j)) (nz := fun j => kn (mxn j)) (by omega) q43 q44 q45 q46 q48 q49 q50 q51 q52 q56 q57 q62 q63 q64 q65 q66 q67 q68 q69 q70 q71 q72 hG0 hG (by omega) hmo hxr hxn hxw) kv_L_98 rfl hl.1 ⟨Nat.le_of_ble_eq_true rfl, Nat.le_of_ble_eq_true rfl⟩ (Nat.le_of_ble_eq_true rfl) (slN_room2 (by omega) 0 0 (by omega) (by omega)) dL_law_696 (fun r2 M2 n2 H2 locs2 hp2 hw2 => ?_)
      clear hw
      dsimp only at hp2
      suffices hfin : r1 = r2 ∧ n2 = n1 ∧ iInv cI cJ cZ cH cR s.heap.size n1 M2 (cc + 1) from ?_
      · obtain ⟨er, en, I2⟩ := hfin
        subst en
        refine lv_icmp_eq (tgt := 753) C.1 C.2.1 dL_law_699 (by decide) (fun _ => ?_) (fun z => absurd er z)
        exact K _ _ _ _ hw2 I2
      obtain ⟨en2, hp2⟩ := hp2
      have hp2 := mg4s hb9 hp2
      rcases mg3 (fun x y => y.1 x) (fun x y => y.1 x) (fun x y => y.2 x.2) hp1 hp2 with ⟨cd, ⟨e1, m1⟩, e2, m2⟩ | ⟨cd, ⟨e1, m1⟩, e2, m2⟩ | ⟨cd, ⟨e1, f1, g1, g2, g3, g4, g7, g24, g25, g26, g27, g28, g29, g30, g31, g32, g33, g37⟩, e2, f2, g43, g51, g52, g48, g49, g50, g56, g57, g44, g45, g46, g72⟩
      · exact ⟨e1.trans e2.symm, en2, by rw [m2, m1]; exact iInv_next I0⟩
      · exact ⟨e1.trans e2.symm, en2, by rw [m2, m1]; exact iInv_next I0⟩
      · have hFF := kF_app f1 f2
        rw [ek8, ecz] at e2 g43 g48 g49 g50
        rw [ek8] at g51 g52
        rw [ek8, enz] at g56 g57
        rw [enz, r6_] at g43
        have hmm9 : 1 ≤ mo := by
          have z := cd.1; have z2 := cd.2; rw [Int32.lt_iff_toInt_lt] at z z2; have z3 : (nI mo).toInt = mo := nI_toInt (by omega); have z4 : (nI 1).toInt = 1 := rfl; omega
        obtain ⟨k, hk1, hk2, ek, ek2⟩ := rngI (lo := 1) (hi := mo) (by omega) hmm9 cd.1 cd.2
        have hpl : ∀ g, g < G → (lay po (evF G (kn (xs (i + 2)))) (kn (xs (i + 2)))) g = (lay mpl (evF G (kn (xs (i + 2)))) (kn (xs (i + 2)))) g := lay_even (by omega) po mpl
        have hO : ∀ g, g < G → pfx (lay po (evF G (kn (xs (i + 2)))) (kn (xs (i + 2)))) ow G g = pfx (lay mpl (evF G (kn (xs (i + 2)))) (kn (xs (i + 2)))) mow G g ∧ pfx (fun g => ep g + nI 1) ep G g = pfx (fun g => mep g + nI 1) mep G g ∧ pfx (fun _ => nI 0) we G g = pfx (fun _ => nI 0) mwe G g ∧ pfx (fun _ => nI 0) we G g = nI ((fun _ => 0) g) := by
          intro g hg
          have e1 : ∀ (α : Type) (f h : Nat → α), pfx f h G g = f g := fun α f h => if_pos hg
          rw [e1, e1, e1, e1, e1, e1]
          exact ⟨hpl g hg, by rw [(how g hg).2.1], rfl, rfl⟩
        have hz := sN_zero G
        have hrr2 : RR rs0 ca0 (va_cpy rn0 rn 0 0 rs0) (va_cpy rk0 rk 0 0 rs0) (va_cpy rv0 rv 0 0 rs0) (va_cpy mxk mrk (400 * 0) 0 ca0) (va_cpy mxv mrv (400 * 0) 0 ca0) (va_cpy mxw mwa (400 * 0) 0 ca0) := RR_congr r2_ (fun j hj => ⟨cpy_in hj |>.trans (by rw [Nat.zero_add]), cpy_in hj |>.trans (by rw [Nat.zero_add]), cpy_in hj |>.trans (by rw [Nat.zero_add])⟩) (fun q hq => ⟨cpy_in hq, cpy_in hq, cpy_in hq⟩)
        have htm2 : RT ts0 (va_cpy tk0 tk 0 0 ts0) (va_cpy tt0 tt 0 0 ts0) (va_cpy mxa mtk (40 * 0) 0 ts0) (va_cpy mxb mtt (40 * 0) 0 ts0) := RT_congr r3_ (fun j hj => ⟨cpy_in hj |>.trans (by rw [Nat.zero_add]), cpy_in hj |>.trans (by rw [Nat.zero_add])⟩) (fun q hq => ⟨cpy_in hq, cpy_in hq⟩)
        have hst2 : RS ct0 (va_cpy mxc mct (100 * 0) 0 100) su0 (va_cpy mxs msu (100 * 0) 0 100) := fun j hj => by rw [cpy_in hj, cpy_in hj]; exact r1_ j hj
        have hle := RR_le hrr2
        refine ⟨by rw [e1, e2, ← hrr2.2.1], en2, ⟨mm, s_, G, mo, (kn (xs (i + 2))), sc, mv, rs0, ca0, ts0, tr0, 0, lx, 0, 0, hc, (fun _ => 0), ⟨(hFF 0 (by decide)).trans h0, (f2 1 (by decide)).trans g1, (hFF 6 (by decide)).trans h6, (hFF 9 (by decide)).trans h9, (hFF 22 (by decide)).trans h22, (hFF 23 (by decide)).trans h23, (f2 26 (by decide)).trans g26, (f2 30 (by decide)).trans g30, (f2 33 (by decide)).trans g33, (f2 37 (by decide)).trans g37, g43⟩, ⟨_, _, _, _, _, _, (f2 2 (by decide)).trans g2, (f2 3 (by decide)).trans g3, (f2 4 (by decide)).trans g4, g44, g45, g46, hO⟩, iMv_fr hMv (kF_on hFF _ (by decide)), ⟨_, be, _, mlf, eo, (f2 7 (by decide)).trans g7, (hFF 8 (by decide)).trans h8, g72, (hFF 73 (by decide)).trans h73, fun i hi => (hFF (10 + i) (by simp; omega)).trans (hE i hi)⟩, ⟨_, _, _, _, (f2 24 (by decide)).trans g24, (f2 25 (by decide)).trans g25, g51, g52, hst2⟩, ⟨_, _, _, _, _, _, (f2 27 (by decide)).trans g27, (f2 28 (by decide)).trans g28, (f2 29 (by decide)).trans g29, g48, g49, g50, hrr2⟩, ⟨_, _, _, _, _, _, (hFF 34 (by decide)).trans h34, (hFF 35 (by decide)).trans h35, (hFF 36 (by decide)).trans h36, (hFF 53 (by decide)).trans h53, (hFF 54 (by decide)).trans h54, (hFF 55 (by decide)).trans h55, fun j hj => absurd hj (Nat.not_lt_zero j)⟩, ⟨_, _, _, _, (f2 31 (by decide)).trans g31, (f2 32 (by decide)).trans g32, g56, g57, htm2⟩, ⟨_, _, _, _, _, _, _, _, (hFF 38 (by decide)).trans h38, (hFF 39 (by decide)).trans h39, (hFF 40 (by decide)).trans h40, (hFF 41 (by decide)).trans h41, (hFF 58 (by decide)).trans h58, (hFF 59 (by decide)).trans h59, (hFF 60 (by decide)).trans h60, (hFF 61 (by decide)).trans h61, RLg_empty hlgr.1⟩, iMk_fr hMk hFF (by decide), by unfold iNu; omega⟩⟩
    · subst hz9
      obtain ⟨ct0, rn0, rk0, rv0, tk0, tt0, su0, rs0, ca0, ts0, tr0, ⟨b0, b1, b2, b3, b4, b5, b6, b7, b8, b9, b10⟩, hr0⟩ := hM 1 (by omega)
      obtain ⟨r1_, r2_, r3_, r4_, r5_, r6_⟩ := hr0 hk9
      have hrs9 : rs0 ≤ 400 := Nat.le_trans (RR_le r2_) r2_.1
      have ecz : kn (mxr 1) = ca0 := by rw [r4_]; exact nI_clamp (by have := r2_.1; omega)
      have enz : kn (mxn 1) = ts0 := by rw [r5_]; exact nI_clamp (by have := r3_.1; omega)
      refine lv_aload_n C.1 C.2.1 dL_law_671 rfl (lv_at hl 2 rfl) ?_
      refine lw_ld (k0 := 0) (k3 := 3) (i := i) C hX hbl hw 1 (by omega) hL (lv_at hl 3 rfl) (lv_at hl 0 rfl) dL_law_672 dL_law_673 dL_law_674 rfl dL_law_675 dL_law_676 ?_
      refine k_topi (nI 1) ek9 ?_
      refine lw_ld (k0 := 0) (k3 := 3) (i := i) C hX hbl hw 2 (by omega) hL (lv_at hl 3 rfl) (lv_at hl 0 rfl) dL_law_677 dL_law_678 dL_law_679 rfl dL_law_680 dL_law_681 ?_
      refine k_vi C hw 0 (by omega) h0 rfl (c_X8_restore_1 (by omega) h0 h1 h2 h3 h4 h6 h7 h22 h23 h24 h25 h26 h27 h28 h29 h30 h31 h32 h33 h37 h42 b0 b1 b2 b3 b4 b5 b6 b7 b8 b9 b10 hG0 hG hmo (by omega) (by omega) ((hmk 1 (by omega)).trans (if_pos (by omega))) hrs9 r3_.1) kv_L_95 rfl hl.1 ⟨Nat.le_of_ble_eq_true rfl, Nat.le_of_ble_eq_true rfl⟩ (Nat.le_of_ble_eq_true rfl) (slN_room (by omega) 0 0 (by omega) (by omega)) dL_law_682 (fun r1 M1 n1 H1 locs1 hp1 hw1 => ?_)
      clear hw
      dsimp only at hp1
      obtain ⟨en1, hp1⟩ := hp1
      subst en1
      have hF1 : kF [1, 2, 3, 4, 7, 24, 25, 26, 27, 28, 29, 30, 31, 32, 33, 37] M M1 := by
        rcases hp1 with ⟨-, -, e9⟩ | ⟨-, -, e9⟩ | ⟨-, -, hf9, -⟩
        · exact kF_of e9
        · exact kF_of e9
        · exact hf9
      have q43 := (hF1 43 (by decide)).trans h43
      have q44 := (hF1 44 (by decide)).trans h44
      have q45 := (hF1 45 (by decide)).trans h45
      have q46 := (hF1 46 (by decide)).trans h46
      have q48 := (hF1 48 (by decide)).trans h48
      have q49 := (hF1 49 (by decide)).trans h49
      have q50 := (hF1 50 (by decide)).trans h50
      have q51 := (hF1 51 (by decide)).trans h51
      have q52 := (hF1 52 (by decide)).trans h52
      have q56 := (hF1 56 (by decide)).trans h56
      have q57 := (hF1 57 (by decide)).trans h57
      have q62 := (hF1 62 (by decide)).trans h62
      have q63 := (hF1 63 (by decide)).trans h63
      have q64 := (hF1 64 (by decide)).trans h64
      have q65 := (hF1 65 (by decide)).trans h65
      have q66 := (hF1 66 (by decide)).trans h66
      have q67 := (hF1 67 (by decide)).trans h67
      have q68 := (hF1 68 (by decide)).trans h68
      have q69 := (hF1 69 (by decide)).trans h69
      have q70 := (hF1 70 (by decide)).trans h70
      have q71 := (hF1 71 (by decide)).trans h71
      have q72 := (hF1 72 (by decide)).trans h72
      have hw := hw1
      refine lv_aload_n C.1 C.2.1 dL_law_685 rfl (lv_at hl 1 rfl) ?_
      refine lw_ld (k0 := 0) (k3 := 3) (i := i) C hX hbl hw 1 (by omega) hL (lv_at hl 3 rfl) (lv_at hl 0 rfl) dL_law_686 dL_law_687 dL_law_688 rfl dL_law_689 dL_law_690 ?_
      refine lw_ld (k0 := 0) (k3 := 3) (i := i) C hX hbl hw 2 (by omega) hL (lv_at hl 3 rfl) (lv_at hl 0 rfl) dL_law_691 dL_law_692 dL_law_693 rfl dL_law_694 dL_law_695 ?_
      refine k_vi C hw 43 (by omega) q43 rfl (c_X9_restore (cz := fun j => kn (mxr j)) (nz := fun j => kn (mxn j)) (by omega) q43 q44 q45 q46 q48 q49 q50 q51 q52 q56 q57 q62 q63 q64 q65 q66 q67 q68 q69 q70 q71 q72 hG0 hG (by omega) hmo hxr hxn hxw) kv_L_98 rfl hl.1 ⟨Nat.le_of_ble_eq_true rfl, Nat.le_of_ble_eq_true rfl⟩ (Nat.le_of_ble_eq_true rfl) (slN_room2 (by omega) 0 0 (by omega) (by omega)) dL_law_696 (fun r2 M2 n2 H2 locs2 hp2 hw2 => ?_)
      clear hw
      dsimp only at hp2
      suffices hfin : r1 = r2 ∧ n2 = n1 ∧ iInv cI cJ cZ cH cR s.heap.size n1 M2 (cc + 1) from ?_
      · obtain ⟨er, en, I2⟩ := hfin
        subst en
        refine lv_icmp_eq (tgt := 753) C.1 C.2.1 dL_law_699 (by decide) (fun _ => ?_) (fun z => absurd er z)
        exact K _ _ _ _ hw2 I2
      obtain ⟨en2, hp2⟩ := hp2
      have hp2 := mg4s hb9 hp2
      rcases mg3 (fun x y => y.1 x) (fun x y => y.1 x) (fun x y => y.2 x.2) hp1 hp2 with ⟨cd, ⟨e1, m1⟩, e2, m2⟩ | ⟨cd, ⟨e1, m1⟩, e2, m2⟩ | ⟨cd, ⟨e1, f1, g1, g2, g3, g4, g7, g24, g25, g26, g27, g28, g29, g30, g31, g32, g33, g37⟩, e2, f2, g43, g51, g52, g48, g49, g50, g56, g57, g44, g45, g46, g72⟩
      · exact ⟨e1.trans e2.symm, en2, by rw [m2, m1]; exact iInv_next I0⟩
      · exact ⟨e1.trans e2.symm, en2, by rw [m2, m1]; exact iInv_next I0⟩
      · have hFF := kF_app f1 f2
        rw [ek8, ecz] at e2 g43 g48 g49 g50
        rw [ek8] at g51 g52
        rw [ek8, enz] at g56 g57
        rw [enz, r6_] at g43
        have hmm9 : 1 ≤ mo := by
          have z := cd.1; have z2 := cd.2; rw [Int32.lt_iff_toInt_lt] at z z2; have z3 : (nI mo).toInt = mo := nI_toInt (by omega); have z4 : (nI 1).toInt = 1 := rfl; omega
        obtain ⟨k, hk1, hk2, ek, ek2⟩ := rngI (lo := 1) (hi := mo) (by omega) hmm9 cd.1 cd.2
        have hpl : ∀ g, g < G → (lay po (evF G (kn (xs (i + 2)))) (kn (xs (i + 2)))) g = (lay mpl (evF G (kn (xs (i + 2)))) (kn (xs (i + 2)))) g := lay_even (by omega) po mpl
        have hO : ∀ g, g < G → pfx (lay po (evF G (kn (xs (i + 2)))) (kn (xs (i + 2)))) ow G g = pfx (lay mpl (evF G (kn (xs (i + 2)))) (kn (xs (i + 2)))) mow G g ∧ pfx (fun g => ep g + nI 1) ep G g = pfx (fun g => mep g + nI 1) mep G g ∧ pfx (fun _ => nI 0) we G g = pfx (fun _ => nI 0) mwe G g ∧ pfx (fun _ => nI 0) we G g = nI ((fun _ => 0) g) := by
          intro g hg
          have e1 : ∀ (α : Type) (f h : Nat → α), pfx f h G g = f g := fun α f h => if_pos hg
          rw [e1, e1, e1, e1, e1, e1]
          exact ⟨hpl g hg, by rw [(how g hg).2.1], rfl, rfl⟩
        have hz := sN_zero G
        have hrr2 : RR rs0 ca0 (va_cpy rn0 rn 0 0 rs0) (va_cpy rk0 rk 0 0 rs0) (va_cpy rv0 rv 0 0 rs0) (va_cpy mxk mrk (400 * 1) 0 ca0) (va_cpy mxv mrv (400 * 1) 0 ca0) (va_cpy mxw mwa (400 * 1) 0 ca0) := RR_congr r2_ (fun j hj => ⟨cpy_in hj |>.trans (by rw [Nat.zero_add]), cpy_in hj |>.trans (by rw [Nat.zero_add]), cpy_in hj |>.trans (by rw [Nat.zero_add])⟩) (fun q hq => ⟨cpy_in hq, cpy_in hq, cpy_in hq⟩)
        have htm2 : RT ts0 (va_cpy tk0 tk 0 0 ts0) (va_cpy tt0 tt 0 0 ts0) (va_cpy mxa mtk (40 * 1) 0 ts0) (va_cpy mxb mtt (40 * 1) 0 ts0) := RT_congr r3_ (fun j hj => ⟨cpy_in hj |>.trans (by rw [Nat.zero_add]), cpy_in hj |>.trans (by rw [Nat.zero_add])⟩) (fun q hq => ⟨cpy_in hq, cpy_in hq⟩)
        have hst2 : RS ct0 (va_cpy mxc mct (100 * 1) 0 100) su0 (va_cpy mxs msu (100 * 1) 0 100) := fun j hj => by rw [cpy_in hj, cpy_in hj]; exact r1_ j hj
        have hle := RR_le hrr2
        refine ⟨by rw [e1, e2, ← hrr2.2.1], en2, ⟨mm, s_, G, mo, (kn (xs (i + 2))), sc, mv, rs0, ca0, ts0, tr0, 0, lx, 0, 0, hc, (fun _ => 0), ⟨(hFF 0 (by decide)).trans h0, (f2 1 (by decide)).trans g1, (hFF 6 (by decide)).trans h6, (hFF 9 (by decide)).trans h9, (hFF 22 (by decide)).trans h22, (hFF 23 (by decide)).trans h23, (f2 26 (by decide)).trans g26, (f2 30 (by decide)).trans g30, (f2 33 (by decide)).trans g33, (f2 37 (by decide)).trans g37, g43⟩, ⟨_, _, _, _, _, _, (f2 2 (by decide)).trans g2, (f2 3 (by decide)).trans g3, (f2 4 (by decide)).trans g4, g44, g45, g46, hO⟩, iMv_fr hMv (kF_on hFF _ (by decide)), ⟨_, be, _, mlf, eo, (f2 7 (by decide)).trans g7, (hFF 8 (by decide)).trans h8, g72, (hFF 73 (by decide)).trans h73, fun i hi => (hFF (10 + i) (by simp; omega)).trans (hE i hi)⟩, ⟨_, _, _, _, (f2 24 (by decide)).trans g24, (f2 25 (by decide)).trans g25, g51, g52, hst2⟩, ⟨_, _, _, _, _, _, (f2 27 (by decide)).trans g27, (f2 28 (by decide)).trans g28, (f2 29 (by decide)).trans g29, g48, g49, g50, hrr2⟩, ⟨_, _, _, _, _, _, (hFF 34 (by decide)).trans h34, (hFF 35 (by decide)).trans h35, (hFF 36 (by decide)).trans h36, (hFF 53 (by decide)).trans h53, (hFF 54 (by decide)).trans h54, (hFF 55 (by decide)).trans h55, fun j hj => absurd hj (Nat.not_lt_zero j)⟩, ⟨_, _, _, _, (f2 31 (by decide)).trans g31, (f2 32 (by decide)).trans g32, g56, g57, htm2⟩, ⟨_, _, _, _, _, _, _, _, (hFF 38 (by decide)).trans h38, (hFF 39 (by decide)).trans h39, (hFF 40 (by decide)).trans h40, (hFF 41 (by decide)).trans h41, (hFF 58 (by decide)).trans h58, (hFF 59 (by decide)).trans h59, (hFF 60 (by decide)).trans h60, (hFF 61 (by decide)).trans h61, RLg_empty hlgr.1⟩, iMk_fr hMk hFF (by decide), by unfold iNu; omega⟩⟩
    · subst hz9
      obtain ⟨ct0, rn0, rk0, rv0, tk0, tt0, su0, rs0, ca0, ts0, tr0, ⟨b0, b1, b2, b3, b4, b5, b6, b7, b8, b9, b10⟩, hr0⟩ := hM 2 (by omega)
      obtain ⟨r1_, r2_, r3_, r4_, r5_, r6_⟩ := hr0 hk9
      have hrs9 : rs0 ≤ 400 := Nat.le_trans (RR_le r2_) r2_.1
      have ecz : kn (mxr 2) = ca0 := by rw [r4_]; exact nI_clamp (by have := r2_.1; omega)
      have enz : kn (mxn 2) = ts0 := by rw [r5_]; exact nI_clamp (by have := r3_.1; omega)
      refine lv_aload_n C.1 C.2.1 dL_law_671 rfl (lv_at hl 2 rfl) ?_
      refine lw_ld (k0 := 0) (k3 := 3) (i := i) C hX hbl hw 1 (by omega) hL (lv_at hl 3 rfl) (lv_at hl 0 rfl) dL_law_672 dL_law_673 dL_law_674 rfl dL_law_675 dL_law_676 ?_
      refine k_topi (nI 2) ek9 ?_
      refine lw_ld (k0 := 0) (k3 := 3) (i := i) C hX hbl hw 2 (by omega) hL (lv_at hl 3 rfl) (lv_at hl 0 rfl) dL_law_677 dL_law_678 dL_law_679 rfl dL_law_680 dL_law_681 ?_
      refine k_vi C hw 0 (by omega) h0 rfl (c_X8_restore_2 (by omega) h0 h1 h2 h3 h4 h6 h7 h22 h23 h24 h25 h26 h27 h28 h29 h30 h31 h32 h33 h37 h42 b0 b1 b2 b3 b4 b5 b6 b7 b8 b9 b10 hG0 hG hmo (by omega) (by omega) ((hmk 2 (by omega)).trans (if_pos (by omega))) hrs9 r3_.1) kv_L_95 rfl hl.1 ⟨Nat.le_of_ble_eq_true rfl, Nat.le_of_ble_eq_true rfl⟩ (Nat.le_of_ble_eq_true rfl) (slN_room (by omega) 0 0 (by omega) (by omega)) dL_law_682 (fun r1 M1 n1 H1 locs1 hp1 hw1 => ?_)
      clear hw
      dsimp only at hp1
      obtain ⟨en1, hp1⟩ := hp1
      subst en1
      have hF1 : kF [1, 2, 3, 4, 7, 24, 25, 26, 27, 28, 29, 30, 31, 32, 33, 37] M M1 := by
        rcases hp1 with ⟨-, -, e9⟩ | ⟨-, -, e9⟩ | ⟨-, -, hf9, -⟩
        · exact kF_of e9
        · exact kF_of e9
        · exact hf9
      have q43 := (hF1 43 (by decide)).trans h43
      have q44 := (hF1 44 (by decide)).trans h44
      have q45 := (hF1 45 (by decide)).trans h45
      have q46 := (hF1 46 (by decide)).trans h46
      have q48 := (hF1 48 (by decide)).trans h48
      have q49 := (hF1 49 (by decide)).trans h49
      have q50 := (hF1 50 (by decide)).trans h50
      have q51 := (hF1 51 (by decide)).trans h51
      have q52 := (hF1 52 (by decide)).trans h52
      have q56 := (hF1 56 (by decide)).trans h56
      have q57 := (hF1 57 (by decide)).trans h57
      have q62 := (hF1 62 (by decide)).trans h62
      have q63 := (hF1 63 (by decide)).trans h63
      have q64 := (hF1 64 (by decide)).trans h64
      have q65 := (hF1 65 (by decide)).trans h65
      have q66 := (hF1 66 (by decide)).trans h66
      have q67 := (hF1 67 (by decide)).trans h67
      have q68 := (hF1 68 (by decide)).trans h68
      have q69 := (hF1 69 (by decide)).trans h69
      have q70 := (hF1 70 (by decide)).trans h70
      have q71 := (hF1 71 (by decide)).trans h71
      have q72 := (hF1 72 (by decide)).trans h72
      have hw := hw1
      refine lv_aload_n C.1 C.2.1 dL_law_685 rfl (lv_at hl 1 rfl) ?_
      refine lw_ld (k0 := 0) (k3 := 3) (i := i) C hX hbl hw 1 (by omega) hL (lv_at hl 3 rfl) (lv_at hl 0 rfl) dL_law_686 dL_law_687 dL_law_688 rfl dL_law_689 dL_law_690 ?_
      refine lw_ld (k0 := 0) (k3 := 3) (i := i) C hX hbl hw 2 (by omega) hL (lv_at hl 3 rfl) (lv_at hl 0 rfl) dL_law_691 dL_law_692 dL_law_693 rfl dL_law_694 dL_law_695 ?_
      refine k_vi C hw 43 (by omega) q43 rfl (c_X9_restore (cz := fun j => kn (mxr j)) (nz := fun j => kn (mxn j)) (by omega) q43 q44 q45 q46 q48 q49 q50 q51 q52 q56 q57 q62 q63 q64 q65 q66 q67 q68 q69 q70 q71 q72 hG0 hG (by omega) hmo hxr hxn hxw) kv_L_98 rfl hl.1 ⟨Nat.le_of_ble_eq_true rfl, Nat.le_of_ble_eq_true rfl⟩ (Nat.le_of_ble_eq_true rfl) (slN_room2 (by omega) 0 0 (by omega) (by omega)) dL_law_696 (fun r2 M2 n2 H2 locs2 hp2 hw2 => ?_)
      clear hw
      dsimp only at hp2
      suffices hfin : r1 = r2 ∧ n2 = n1 ∧ iInv cI cJ cZ cH cR s.heap.size n1 M2 (cc + 1) from ?_
      · obtain ⟨er, en, I2⟩ := hfin
        subst en
        refine lv_icmp_eq (tgt := 753) C.1 C.2.1 dL_law_699 (by decide) (fun _ => ?_) (fun z => absurd er z)
        exact K _ _ _ _ hw2 I2
      obtain ⟨en2, hp2⟩ := hp2
      have hp2 := mg4s hb9 hp2
      rcases mg3 (fun x y => y.1 x) (fun x y => y.1 x) (fun x y => y.2 x.2) hp1 hp2 with ⟨cd, ⟨e1, m1⟩, e2, m2⟩ | ⟨cd, ⟨e1, m1⟩, e2, m2⟩ | ⟨cd, ⟨e1, f1, g1, g2, g3, g4, g7, g24, g25, g26, g27, g28, g29, g30, g31, g32, g33, g37⟩, e2, f2, g43, g51, g52, g48, g49, g50, g56, g57, g44, g45, g46, g72⟩
      · exact ⟨e1.trans e2.symm, en2, by rw [m2, m1]; exact iInv_next I0⟩
      · exact ⟨e1.trans e2.symm, en2, by rw [m2, m1]; exact iInv_next I0⟩
      · have hFF := kF_app f1 f2
        rw [ek8, ecz] at e2 g43 g48 g49 g50
        rw [ek8] at g51 g52
        rw [ek8, enz] at g56 g57
        rw [enz, r6_] at g43
        have hmm9 : 1 ≤ mo := by
          have z := cd.1; have z2 := cd.2; rw [Int32.lt_iff_toInt_lt] at z z2; have z3 : (nI mo).toInt = mo := nI_toInt (by omega); have z4 : (nI 1).toInt = 1 := rfl; omega
        obtain ⟨k, hk1, hk2, ek, ek2⟩ := rngI (lo := 1) (hi := mo) (by omega) hmm9 cd.1 cd.2
        have hpl : ∀ g, g < G → (lay po (evF G (kn (xs (i + 2)))) (kn (xs (i + 2)))) g = (lay mpl (evF G (kn (xs (i + 2)))) (kn (xs (i + 2)))) g := lay_even (by omega) po mpl
        have hO : ∀ g, g < G → pfx (lay po (evF G (kn (xs (i + 2)))) (kn (xs (i + 2)))) ow G g = pfx (lay mpl (evF G (kn (xs (i + 2)))) (kn (xs (i + 2)))) mow G g ∧ pfx (fun g => ep g + nI 1) ep G g = pfx (fun g => mep g + nI 1) mep G g ∧ pfx (fun _ => nI 0) we G g = pfx (fun _ => nI 0) mwe G g ∧ pfx (fun _ => nI 0) we G g = nI ((fun _ => 0) g) := by
          intro g hg
          have e1 : ∀ (α : Type) (f h : Nat → α), pfx f h G g = f g := fun α f h => if_pos hg
          rw [e1, e1, e1, e1, e1, e1]
          exact ⟨hpl g hg, by rw [(how g hg).2.1], rfl, rfl⟩
        have hz := sN_zero G
        have hrr2 : RR rs0 ca0 (va_cpy rn0 rn 0 0 rs0) (va_cpy rk0 rk 0 0 rs0) (va_cpy rv0 rv 0 0 rs0) (va_cpy mxk mrk (400 * 2) 0 ca0) (va_cpy mxv mrv (400 * 2) 0 ca0) (va_cpy mxw mwa (400 * 2) 0 ca0) := RR_congr r2_ (fun j hj => ⟨cpy_in hj |>.trans (by rw [Nat.zero_add]), cpy_in hj |>.trans (by rw [Nat.zero_add]), cpy_in hj |>.trans (by rw [Nat.zero_add])⟩) (fun q hq => ⟨cpy_in hq, cpy_in hq, cpy_in hq⟩)
        have htm2 : RT ts0 (va_cpy tk0 tk 0 0 ts0) (va_cpy tt0 tt 0 0 ts0) (va_cpy mxa mtk (40 * 2) 0 ts0) (va_cpy mxb mtt (40 * 2) 0 ts0) := RT_congr r3_ (fun j hj => ⟨cpy_in hj |>.trans (by rw [Nat.zero_add]), cpy_in hj |>.trans (by rw [Nat.zero_add])⟩) (fun q hq => ⟨cpy_in hq, cpy_in hq⟩)
        have hst2 : RS ct0 (va_cpy mxc mct (100 * 2) 0 100) su0 (va_cpy mxs msu (100 * 2) 0 100) := fun j hj => by rw [cpy_in hj, cpy_in hj]; exact r1_ j hj
        have hle := RR_le hrr2
        refine ⟨by rw [e1, e2, ← hrr2.2.1], en2, ⟨mm, s_, G, mo, (kn (xs (i + 2))), sc, mv, rs0, ca0, ts0, tr0, 0, lx, 0, 0, hc, (fun _ => 0), ⟨(hFF 0 (by decide)).trans h0, (f2 1 (by decide)).trans g1, (hFF 6 (by decide)).trans h6, (hFF 9 (by decide)).trans h9, (hFF 22 (by decide)).trans h22, (hFF 23 (by decide)).trans h23, (f2 26 (by decide)).trans g26, (f2 30 (by decide)).trans g30, (f2 33 (by decide)).trans g33, (f2 37 (by decide)).trans g37, g43⟩, ⟨_, _, _, _, _, _, (f2 2 (by decide)).trans g2, (f2 3 (by decide)).trans g3, (f2 4 (by decide)).trans g4, g44, g45, g46, hO⟩, iMv_fr hMv (kF_on hFF _ (by decide)), ⟨_, be, _, mlf, eo, (f2 7 (by decide)).trans g7, (hFF 8 (by decide)).trans h8, g72, (hFF 73 (by decide)).trans h73, fun i hi => (hFF (10 + i) (by simp; omega)).trans (hE i hi)⟩, ⟨_, _, _, _, (f2 24 (by decide)).trans g24, (f2 25 (by decide)).trans g25, g51, g52, hst2⟩, ⟨_, _, _, _, _, _, (f2 27 (by decide)).trans g27, (f2 28 (by decide)).trans g28, (f2 29 (by decide)).trans g29, g48, g49, g50, hrr2⟩, ⟨_, _, _, _, _, _, (hFF 34 (by decide)).trans h34, (hFF 35 (by decide)).trans h35, (hFF 36 (by decide)).trans h36, (hFF 53 (by decide)).trans h53, (hFF 54 (by decide)).trans h54, (hFF 55 (by decide)).trans h55, fun j hj => absurd hj (Nat.not_lt_zero j)⟩, ⟨_, _, _, _, (f2 31 (by decide)).trans g31, (f2 32 (by decide)).trans g32, g56, g57, htm2⟩, ⟨_, _, _, _, _, _, _, _, (hFF 38 (by decide)).trans h38, (hFF 39 (by decide)).trans h39, (hFF 40 (by decide)).trans h40, (hFF 41 (by decide)).trans h41, (hFF 58 (by decide)).trans h58, (hFF 59 (by decide)).trans h59, (hFF 60 (by decide)).trans h60, (hFF 61 (by decide)).trans h61, RLg_empty hlgr.1⟩, iMk_fr hMk hFF (by decide), by unfold iNu; omega⟩⟩
  · refine lv_aload_n C.1 C.2.1 dL_law_671 rfl (lv_at hl 2 rfl) ?_
    refine lw_ld (k0 := 0) (k3 := 3) (i := i) C hX hbl hw 1 (by omega) hL (lv_at hl 3 rfl) (lv_at hl 0 rfl) dL_law_672 dL_law_673 dL_law_674 rfl dL_law_675 dL_law_676 ?_
    refine lw_ld (k0 := 0) (k3 := 3) (i := i) C hX hbl hw 2 (by omega) hL (lv_at hl 3 rfl) (lv_at hl 0 rfl) dL_law_677 dL_law_678 dL_law_679 rfl dL_law_680 dL_law_681 ?_
    refine k_vi C hw 0 (by omega) h0 rfl (c_X8_restore_b (by omega) h0 hb9) kv_L_95 rfl hl.1 ⟨Nat.le_of_ble_eq_true rfl, Nat.le_of_ble_eq_true rfl⟩ (Nat.le_of_ble_eq_true rfl) (slN_room (by omega) 0 0 (by omega) (by omega)) dL_law_682 (fun r1 M1 n1 H1 locs1 hp1 hw1 => ?_)
    clear hw
    dsimp only at hp1
    obtain ⟨er1, en1, eM1⟩ := hp1
    subst en1
    have hF1 : kF [] M M1 := kF_of eM1
    have q43 := (hF1 43 (by decide)).trans h43
    have q44 := (hF1 44 (by decide)).trans h44
    have q45 := (hF1 45 (by decide)).trans h45
    have q46 := (hF1 46 (by decide)).trans h46
    have q48 := (hF1 48 (by decide)).trans h48
    have q49 := (hF1 49 (by decide)).trans h49
    have q50 := (hF1 50 (by decide)).trans h50
    have q51 := (hF1 51 (by decide)).trans h51
    have q52 := (hF1 52 (by decide)).trans h52
    have q56 := (hF1 56 (by decide)).trans h56
    have q57 := (hF1 57 (by decide)).trans h57
    have q62 := (hF1 62 (by decide)).trans h62
    have q63 := (hF1 63 (by decide)).trans h63
    have q64 := (hF1 64 (by decide)).trans h64
    have q65 := (hF1 65 (by decide)).trans h65
    have q66 := (hF1 66 (by decide)).trans h66
    have q67 := (hF1 67 (by decide)).trans h67
    have q68 := (hF1 68 (by decide)).trans h68
    have q69 := (hF1 69 (by decide)).trans h69
    have q70 := (hF1 70 (by decide)).trans h70
    have q71 := (hF1 71 (by decide)).trans h71
    have q72 := (hF1 72 (by decide)).trans h72
    have hw := hw1
    refine lv_aload_n C.1 C.2.1 dL_law_685 rfl (lv_at hl 1 rfl) ?_
    refine lw_ld (k0 := 0) (k3 := 3) (i := i) C hX hbl hw 1 (by omega) hL (lv_at hl 3 rfl) (lv_at hl 0 rfl) dL_law_686 dL_law_687 dL_law_688 rfl dL_law_689 dL_law_690 ?_
    refine lw_ld (k0 := 0) (k3 := 3) (i := i) C hX hbl hw 2 (by omega) hL (lv_at hl 3 rfl) (lv_at hl 0 rfl) dL_law_691 dL_law_692 dL_law_693 rfl dL_law_694 dL_law_695 ?_
    refine k_vi C hw 43 (by omega) q43 rfl (c_X9_restore (cz := fun j => kn (mxr j)) (nz := fun j => kn (mxn j)) (by omega) q43 q44 q45 q46 q48 q49 q50 q51 q52 q56 q57 q62 q63 q64 q65 q66 q67 q68 q69 q70 q71 q72 hG0 hG (by omega) hmo hxr hxn hxw) kv_L_98 rfl hl.1 ⟨Nat.le_of_ble_eq_true rfl, Nat.le_of_ble_eq_true rfl⟩ (Nat.le_of_ble_eq_true rfl) (slN_room2 (by omega) 0 0 (by omega) (by omega)) dL_law_696 (fun r2 M2 n2 H2 locs2 hp2 hw2 => ?_)
    clear hw
    dsimp only at hp2
    suffices hfin : r1 = r2 ∧ n2 = n1 ∧ iInv cI cJ cZ cH cR s.heap.size n1 M2 (cc + 1) from ?_
    · obtain ⟨er, en, I2⟩ := hfin
      subst en
      refine lv_icmp_eq (tgt := 753) C.1 C.2.1 dL_law_699 (by decide) (fun _ => ?_) (fun z => absurd er z)
      exact K _ _ _ _ hw2 I2
    obtain ⟨en2, hp2⟩ := hp2
    rcases hp2 with ⟨-, e2, m2⟩ | ⟨cd, -⟩ | ⟨cd, -⟩ | ⟨cd, -⟩
    · exact ⟨er1.trans e2.symm, en2, by rw [m2, eM1]; exact iInv_next I0⟩
    · exact absurd cd.1 hb9
    · exact absurd cd.1 hb9
    · exact absurd cd.1 hb9
end KLC
