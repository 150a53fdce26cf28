
set_option maxHeartbeats 4000000 in
set_option maxRecDepth 100000 in
theorem c_X9_mark {l : Launch} {D : va_G} {cI cJ cZ cH cR : ClassId} {b : Nat} {n : Nat} {M : Nat → va_E}  {G : Nat} {mo : Nat} {ta : Nat} {sl : Int32} {ca : Nat} {os : Nat} {tr : Int32} {ts : Nat} {lg : Nat} {mm : Nat} {sc : Int32} {mrk : Nat → Int32} {mrv : Nat → Int32} {mwa : Nat → Int32} {mct : Nat → Int32} {msu : Nat → Int64} {mtk : Nat → Int32} {mtt : Nat → Int32} {mxr : Nat → Int32} {mxk : Nat → Int32} {mxv : Nat → Int32} {mxw : Nat → Int32} {mxc : Nat → Int32} {mxs : Nat → Int64} {mxt : Nat → Int32} {mxn : Nat → Int32} {mxa : Nat → Int32} {mxb : Nat → Int32}  (hn : 72 ≤ n) (h43 : M 43 = .inr (9, [.int (nI G), .int (nI mo), .int (nI ta), .int sl, .ref (b + 44), .ref (b + 45), .ref (b + 46), .ref (b + 47), .int (nI ca), .ref (b + 48), .ref (b + 49), .ref (b + 50), .ref (b + 51), .ref (b + 52), .int (nI os), .ref (b + 53), .ref (b + 54), .ref (b + 55), .int tr, .int (nI ts), .ref (b + 56), .ref (b + 57), .int (nI lg), .ref (b + 58), .ref (b + 59), .ref (b + 60), .ref (b + 61), .int (nI mm), .int sc, .ref (b + 62), .ref (b + 63), .ref (b + 64), .ref (b + 65), .ref (b + 66), .ref (b + 67), .ref (b + 68), .ref (b + 69), .ref (b + 70), .ref (b + 71), .ref (b + 72), .ref (b + 73)])) (h48 : M 48 = .inl (cI, 400, .inl mrk)) (h49 : M 49 = .inl (cI, 400, .inl mrv)) (h50 : M 50 = .inl (cZ, 400, .inl mwa)) (h51 : M 51 = .inl (cI, 100, .inl mct)) (h52 : M 52 = .inl (cJ, 100, .inr (.inl msu))) (h56 : M 56 = .inl (cI, 40, .inl mtk)) (h57 : M 57 = .inl (cI, 40, .inl mtt)) (h62 : M 62 = .inl (cI, 3, .inl mxr)) (h63 : M 63 = .inl (cI, 1200, .inl mxk)) (h64 : M 64 = .inl (cI, 1200, .inl mxv)) (h65 : M 65 = .inl (cZ, 1200, .inl mxw)) (h66 : M 66 = .inl (cI, 300, .inl mxc)) (h67 : M 67 = .inl (cJ, 300, .inr (.inl mxs))) (h68 : M 68 = .inl (cI, 3, .inl mxt)) (h69 : M 69 = .inl (cI, 3, .inl mxn)) (h70 : M 70 = .inl (cI, 120, .inl mxa)) (h71 : M 71 = .inl (cI, 120, .inl mxb))  (hmm : mm ≤ 3) (hca : ca ≤ 400) (hts : ts ≤ 40) (hwa : ∀ q, q < ca → mwa q = 0 ∨ mwa q = 1) : Met l yX9_mark (kw yX9_mark cX9_mark 3 (some .int)) ({ frames := 0, cells := 0, slots := 0, locals := 0 }) (va_Pc [.ref (b + 43)] (kPre D (kT cI cJ cZ cH cR) b M n)) (va_Qi (fun (r : Int32) (u : (Nat → va_E) × Nat) => u.2 = n ∧ (((¬ mm < 3) ∧ r = -107 ∧ u.1 = M) ∨ ((mm < 3) ∧ r = nI mm ∧ kF [43, 66, 67, 63, 64, 65, 70, 71, 62, 69, 68] M u.1 ∧ u.1 43 = .inr (9, [.int (nI G), .int (nI mo), .int (nI ta), .int sl, .ref (b + 44), .ref (b + 45), .ref (b + 46), .ref (b + 47), .int (nI ca), .ref (b + 48), .ref (b + 49), .ref (b + 50), .ref (b + 51), .ref (b + 52), .int (nI os), .ref (b + 53), .ref (b + 54), .ref (b + 55), .int tr, .int (nI ts), .ref (b + 56), .ref (b + 57), .int (nI lg), .ref (b + 58), .ref (b + 59), .ref (b + 60), .ref (b + 61), .int (nI (mm + 1)), .int sc, .ref (b + 62), .ref (b + 63), .ref (b + 64), .ref (b + 65), .ref (b + 66), .ref (b + 67), .ref (b + 68), .ref (b + 69), .ref (b + 70), .ref (b + 71), .ref (b + 72), .ref (b + 73)]) ∧ u.1 66 = .inl (cI, 300, .inl (va_cpy mct mxc 0 (100 * mm) 100)) ∧ u.1 67 = .inl (cJ, 300, .inr (.inl (va_cpy msu mxs 0 (100 * mm) 100))) ∧ u.1 63 = .inl (cI, 1200, .inl (va_cpy mrk mxk 0 (400 * mm) ca)) ∧ u.1 64 = .inl (cI, 1200, .inl (va_cpy mrv mxv 0 (400 * mm) ca)) ∧ u.1 65 = .inl (cZ, 1200, .inl (va_cpy mwa mxw 0 (400 * mm) ca)) ∧ u.1 70 = .inl (cI, 120, .inl (va_cpy mtk mxa 0 (40 * mm) ts)) ∧ u.1 71 = .inl (cI, 120, .inl (va_cpy mtt mxb 0 (40 * mm) ts)) ∧ u.1 62 = .inl (cI, 3, .inl (upd mxr mm (nI ca))) ∧ u.1 69 = .inl (cI, 3, .inl (upd mxn mm (nI ts))) ∧ u.1 68 = .inl (cI, 3, .inl (upd mxt mm tr))))) (kB D (kT cI cJ cZ cH cR) b) (kA b)) 0 0 (kA b) := by
  refine k_metI (by decide +kernel) (Nat.le_of_ble_eq_true rfl) ?_
  intro p e s m below meth c ls Q C hw hret hnm hl
  have hl : lv_has ls 3 [(0, .ref (b + 43))] := hl
  have hFF : kF [43, 66, 67, 63, 64, 65, 70, 71, 62, 69, 68] M M := kF_rf
  refine lv_aload_n C.1 C.2.1 dX9_mark_0 rfl (lv_at hl 0 rfl) ?_
  refine k_get C hw 43 (by omega) h43 rfl inlX9 27 (by decide) q_164 rfl dX9_mark_1 ?_
  refine lv_iconst (v := nI 3) C.1 C.2.1 dX9_mark_4 (by decide) ?_
  refine lv_icmp_ne (tgt := 11) C.1 C.2.1 dX9_mark_5 (by decide) (fun c5 => ?_) (fun c5 => ?_)
  · have hm : mm < 3 := by rcases Nat.lt_or_ge mm 3 with z | z; exact z; exact absurd (by rw [show mm = 3 by omega]) c5
    refine lv_aload_n C.1 C.2.1 dX9_mark_11 rfl (lv_at hl 0 rfl) ?_
    refine k_get C hw 43 (by omega) h43 rfl inlX9 27 (by decide) q_164 rfl dX9_mark_12 ?_
    refine lv_istore_n (lv' := [(1, .int (nI mm)), (0, .ref (b + 43))]) C.1 C.2.1 dX9_mark_15 rfl hl (by decide) rfl (fun ls hl => ?_)
    refine lv_iconst (v := nI 0) C.1 C.2.1 dX9_mark_16 (by decide) ?_
    rw [← cpy0 (f := mct) (g := mxc) (s := 0) (d := 100 * mm)] at h66
    rw [← cpy0 (f := msu) (g := mxs) (s := 0) (d := 100 * mm)] at h67
    refine lv_istore_n (lv' := [(2, .int (nI 0)), (1, .int (nI mm)), (0, .ref (b + 43))]) C.1 C.2.1 dX9_mark_17 rfl hl (by decide) rfl (fun ls hl => ?_)
    have L18 : ∀ (N18 : Nat) (x : Nat) (Mx18 : Nat → va_E), (100 - x < N18) → (x ≤ 100) → kF [43, 66, 67, 63, 64, 65, 70, 71, 62, 69, 68] M Mx18 → Mx18 43 = .inr (9, [.int (nI G), .int (nI mo), .int (nI ta), .int sl, .ref (b + 44), .ref (b + 45), .ref (b + 46), .ref (b + 47), .int (nI ca), .ref (b + 48), .ref (b + 49), .ref (b + 50), .ref (b + 51), .ref (b + 52), .int (nI os), .ref (b + 53), .ref (b + 54), .ref (b + 55), .int tr, .int (nI ts), .ref (b + 56), .ref (b + 57), .int (nI lg), .ref (b + 58), .ref (b + 59), .ref (b + 60), .ref (b + 61), .int (nI mm), .int sc, .ref (b + 62), .ref (b + 63), .ref (b + 64), .ref (b + 65), .ref (b + 66), .ref (b + 67), .ref (b + 68), .ref (b + 69), .ref (b + 70), .ref (b + 71), .ref (b + 72), .ref (b + 73)]) → Mx18 48 = .inl (cI, 400, .inl mrk) → Mx18 49 = .inl (cI, 400, .inl mrv) → Mx18 50 = .inl (cZ, 400, .inl mwa) → Mx18 51 = .inl (cI, 100, .inl mct) → Mx18 52 = .inl (cJ, 100, .inr (.inl msu)) → Mx18 56 = .inl (cI, 40, .inl mtk) → Mx18 57 = .inl (cI, 40, .inl mtt) → Mx18 62 = .inl (cI, 3, .inl mxr) → Mx18 63 = .inl (cI, 1200, .inl mxk) → Mx18 64 = .inl (cI, 1200, .inl mxv) → Mx18 65 = .inl (cZ, 1200, .inl mxw) → Mx18 66 = .inl (cI, 300, .inl (va_cpy mct mxc 0 (100 * mm) x)) → Mx18 67 = .inl (cJ, 300, .inr (.inl (va_cpy msu mxs 0 (100 * mm) x))) → Mx18 68 = .inl (cI, 3, .inl mxt) → Mx18 69 = .inl (cI, 3, .inl mxn) → Mx18 70 = .inl (cI, 120, .inl mxa) → Mx18 71 = .inl (cI, 120, .inl mxb) → ∀ (ls : Array Slot) (H : Heap) (locs : List Loc), lv_has ls 3 [(2, .int (nI x)), (1, .int (nI mm)), (0, .ref (b + 43))] → kW D b Mx18 n s.heap H locs → W p l e ({ frames := 0, cells := 0, slots := 0, locals := 0 } : Room) s m ([.ref (b + 43)] : List Value).toArray below meth c H locs 0 0 Q (F0 m 18 ls []) := by
      intro N18
      induction N18 with
      | zero => intro x Mx18 hm18 hx_ hFF h43 h48 h49 h50 h51 h52 h56 h57 h62 h63 h64 h65 h66 h67 h68 h69 h70 h71 ls H locs hl hw; omega
      | succ N18 ih18 =>
        intro x Mx18 hm18 hx_ hFF h43 h48 h49 h50 h51 h52 h56 h57 h62 h63 h64 h65 h66 h67 h68 h69 h70 h71 ls H locs hl hw
        refine lv_iload_n C.1 C.2.1 dX9_mark_18 rfl (lv_at hl 0 rfl) ?_
        refine lv_bipush (v := nI 100) C.1 C.2.1 dX9_mark_19 (by decide) ?_
        refine lv_icmp_ge (tgt := 64) C.1 C.2.1 dX9_mark_21 (by decide) (fun c21 => ?_) (fun c21 => ?_)
        · have q21 := (nI_leI (by omega) (by omega)).mp c21
          have q21 : x = 100 := by omega
          rw [q21] at h66 h67
          refine lv_iconst (v := nI 0) C.1 C.2.1 dX9_mark_64 (by decide) ?_
          rw [← cpy0 (f := mrk) (g := mxk) (s := 0) (d := 400 * mm)] at h63
          rw [← cpy0 (f := mrv) (g := mxv) (s := 0) (d := 400 * mm)] at h64
          rw [← cpy0 (f := mwa) (g := mxw) (s := 0) (d := 400 * mm)] at h65
          refine lv_istore_n (lv' := [(2, .int (nI 0)), (1, .int (nI mm)), (0, .ref (b + 43))]) C.1 C.2.1 dX9_mark_65 rfl hl (by decide) rfl (fun ls hl => ?_)
          have L66 : ∀ (N66 : Nat) (y : Nat) (Mx66 : Nat → va_E), (ca - y < N66) → (y ≤ ca) → kF [43, 66, 67, 63, 64, 65, 70, 71, 62, 69, 68] M Mx66 → Mx66 43 = .inr (9, [.int (nI G), .int (nI mo), .int (nI ta), .int sl, .ref (b + 44), .ref (b + 45), .ref (b + 46), .ref (b + 47), .int (nI ca), .ref (b + 48), .ref (b + 49), .ref (b + 50), .ref (b + 51), .ref (b + 52), .int (nI os), .ref (b + 53), .ref (b + 54), .ref (b + 55), .int tr, .int (nI ts), .ref (b + 56), .ref (b + 57), .int (nI lg), .ref (b + 58), .ref (b + 59), .ref (b + 60), .ref (b + 61), .int (nI mm), .int sc, .ref (b + 62), .ref (b + 63), .ref (b + 64), .ref (b + 65), .ref (b + 66), .ref (b + 67), .ref (b + 68), .ref (b + 69), .ref (b + 70), .ref (b + 71), .ref (b + 72), .ref (b + 73)]) → Mx66 48 = .inl (cI, 400, .inl mrk) → Mx66 49 = .inl (cI, 400, .inl mrv) → Mx66 50 = .inl (cZ, 400, .inl mwa) → Mx66 51 = .inl (cI, 100, .inl mct) → Mx66 52 = .inl (cJ, 100, .inr (.inl msu)) → Mx66 56 = .inl (cI, 40, .inl mtk) → Mx66 57 = .inl (cI, 40, .inl mtt) → Mx66 62 = .inl (cI, 3, .inl mxr) → Mx66 63 = .inl (cI, 1200, .inl (va_cpy mrk mxk 0 (400 * mm) y)) → Mx66 64 = .inl (cI, 1200, .inl (va_cpy mrv mxv 0 (400 * mm) y)) → Mx66 65 = .inl (cZ, 1200, .inl (va_cpy mwa mxw 0 (400 * mm) y)) → Mx66 66 = .inl (cI, 300, .inl (va_cpy mct mxc 0 (100 * mm) 100)) → Mx66 67 = .inl (cJ, 300, .inr (.inl (va_cpy msu mxs 0 (100 * mm) 100))) → Mx66 68 = .inl (cI, 3, .inl mxt) → Mx66 69 = .inl (cI, 3, .inl mxn) → Mx66 70 = .inl (cI, 120, .inl mxa) → Mx66 71 = .inl (cI, 120, .inl mxb) → ∀ (ls : Array Slot) (H : Heap) (locs : List Loc), lv_has ls 3 [(2, .int (nI y)), (1, .int (nI mm)), (0, .ref (b + 43))] → kW D b Mx66 n s.heap H locs → W p l e ({ frames := 0, cells := 0, slots := 0, locals := 0 } : Room) s m ([.ref (b + 43)] : List Value).toArray below meth c H locs 0 0 Q (F0 m 66 ls []) := by
            intro N66
            induction N66 with
            | zero => intro y Mx66 hm66 hy_ hFF h43 h48 h49 h50 h51 h52 h56 h57 h62 h63 h64 h65 h66 h67 h68 h69 h70 h71 ls H locs hl hw; omega
            | succ N66 ih66 =>
              intro y Mx66 hm66 hy_ hFF h43 h48 h49 h50 h51 h52 h56 h57 h62 h63 h64 h65 h66 h67 h68 h69 h70 h71 ls H locs hl hw
              refine lv_iload_n C.1 C.2.1 dX9_mark_66 rfl (lv_at hl 0 rfl) ?_
              refine lv_aload_n C.1 C.2.1 dX9_mark_67 rfl (lv_at hl 2 rfl) ?_
              refine k_get C hw 43 (by omega) h43 rfl inlX9 8 (by decide) q_159 rfl dX9_mark_68 ?_
              refine lv_icmp_ge (tgt := 134) C.1 C.2.1 dX9_mark_71 (by decide) (fun c71 => ?_) (fun c71 => ?_)
              · have q71 := (nI_leI (by omega) (by omega)).mp c71
                have q71 : y = ca := by omega
                rw [q71] at h63 h64 h65
                refine lv_iconst (v := nI 0) C.1 C.2.1 dX9_mark_134 (by decide) ?_
                rw [← cpy0 (f := mtk) (g := mxa) (s := 0) (d := 40 * mm)] at h70
                rw [← cpy0 (f := mtt) (g := mxb) (s := 0) (d := 40 * mm)] at h71
                refine lv_istore_n (lv' := [(2, .int (nI 0)), (1, .int (nI mm)), (0, .ref (b + 43))]) C.1 C.2.1 dX9_mark_135 rfl hl (by decide) rfl (fun ls hl => ?_)
                have L136 : ∀ (N136 : Nat) (z : Nat) (Mx136 : Nat → va_E), (ts - z < N136) → (z ≤ ts) → kF [43, 66, 67, 63, 64, 65, 70, 71, 62, 69, 68] M Mx136 → Mx136 43 = .inr (9, [.int (nI G), .int (nI mo), .int (nI ta), .int sl, .ref (b + 44), .ref (b + 45), .ref (b + 46), .ref (b + 47), .int (nI ca), .ref (b + 48), .ref (b + 49), .ref (b + 50), .ref (b + 51), .ref (b + 52), .int (nI os), .ref (b + 53), .ref (b + 54), .ref (b + 55), .int tr, .int (nI ts), .ref (b + 56), .ref (b + 57), .int (nI lg), .ref (b + 58), .ref (b + 59), .ref (b + 60), .ref (b + 61), .int (nI mm), .int sc, .ref (b + 62), .ref (b + 63), .ref (b + 64), .ref (b + 65), .ref (b + 66), .ref (b + 67), .ref (b + 68), .ref (b + 69), .ref (b + 70), .ref (b + 71), .ref (b + 72), .ref (b + 73)]) → Mx136 48 = .inl (cI, 400, .inl mrk) → Mx136 49 = .inl (cI, 400, .inl mrv) → Mx136 50 = .inl (cZ, 400, .inl mwa) → Mx136 51 = .inl (cI, 100, .inl mct) → Mx136 52 = .inl (cJ, 100, .inr (.inl msu)) → Mx136 56 = .inl (cI, 40, .inl mtk) → Mx136 57 = .inl (cI, 40, .inl mtt) → Mx136 62 = .inl (cI, 3, .inl mxr) → Mx136 63 = .inl (cI, 1200, .inl (va_cpy mrk mxk 0 (400 * mm) ca)) → Mx136 64 = .inl (cI, 1200, .inl (va_cpy mrv mxv 0 (400 * mm) ca)) → Mx136 65 = .inl (cZ, 1200, .inl (va_cpy mwa mxw 0 (400 * mm) ca)) → Mx136 66 = .inl (cI, 300, .inl (va_cpy mct mxc 0 (100 * mm) 100)) → Mx136 67 = .inl (cJ, 300, .inr (.inl (va_cpy msu mxs 0 (100 * mm) 100))) → Mx136 68 = .inl (cI, 3, .inl mxt) → Mx136 69 = .inl (cI, 3, .inl mxn) → Mx136 70 = .inl (cI, 120, .inl (va_cpy mtk mxa 0 (40 * mm) z)) → Mx136 71 = .inl (cI, 120, .inl (va_cpy mtt mxb 0 (40 * mm) z)) → ∀ (ls : Array Slot) (H : Heap) (locs : List Loc), lv_has ls 3 [(2, .int (nI z)), (1, .int (nI mm)), (0, .ref (b + 43))] → kW D b Mx136 n s.heap H locs → W p l e ({ frames := 0, cells := 0, slots := 0, locals := 0 } : Room) s m ([.ref (b + 43)] : List Value).toArray below meth c H locs 0 0 Q (F0 m 136 ls []) := by
                  intro N136
                  induction N136 with
                  | zero => intro z Mx136 hm136 hz_ hFF h43 h48 h49 h50 h51 h52 h56 h57 h62 h63 h64 h65 h66 h67 h68 h69 h70 h71 ls H locs hl hw; omega
                  | succ N136 ih136 =>
                    intro z Mx136 hm136 hz_ hFF h43 h48 h49 h50 h51 h52 h56 h57 h62 h63 h64 h65 h66 h67 h68 h69 h70 h71 ls H locs hl hw
                    refine lv_iload_n C.1 C.2.1 dX9_mark_136 rfl (lv_at hl 0 rfl) ?_
                    refine lv_aload_n C.1 C.2.1 dX9_mark_137 rfl (lv_at hl 2 rfl) ?_
                    refine k_get C hw 43 (by omega) h43 rfl inlX9 19 (by decide) q_162 rfl dX9_mark_138 ?_
                    refine lv_icmp_ge (tgt := 184) C.1 C.2.1 dX9_mark_141 (by decide) (fun c141 => ?_) (fun c141 => ?_)
                    · have q141 := (nI_leI (by omega) (by omega)).mp c141
                      have q141 : z = ts := by omega
                      rw [q141] at h70 h71
                      refine lv_aload_n C.1 C.2.1 dX9_mark_184 rfl (lv_at hl 2 rfl) ?_
                      refine k_get C hw 43 (by omega) h43 rfl inlX9 29 (by decide) q_142 rfl dX9_mark_185 ?_
                      refine lv_iload_n C.1 C.2.1 dX9_mark_188 rfl (lv_at hl 1 rfl) ?_
                      refine lv_aload_n C.1 C.2.1 dX9_mark_189 rfl (lv_at hl 2 rfl) ?_
                      refine k_get C hw 43 (by omega) h43 rfl inlX9 8 (by decide) q_159 rfl dX9_mark_190 ?_
                      refine k_iast C hw 62 (by omega) h62 (by omega) (by first | decide | omega) dX9_mark_193 (fun M_1 H locs hw h62 hF => ?_)
                      have h43 := (hF 43 (by decide)).trans h43
                      have h48 := (hF 48 (by decide)).trans h48
                      have h49 := (hF 49 (by decide)).trans h49
                      have h50 := (hF 50 (by decide)).trans h50
                      have h51 := (hF 51 (by decide)).trans h51
                      have h52 := (hF 52 (by decide)).trans h52
                      have h56 := (hF 56 (by decide)).trans h56
                      have h57 := (hF 57 (by decide)).trans h57
                      have h63 := (hF 63 (by decide)).trans h63
                      have h64 := (hF 64 (by decide)).trans h64
                      have h65 := (hF 65 (by decide)).trans h65
                      have h66 := (hF 66 (by decide)).trans h66
                      have h67 := (hF 67 (by decide)).trans h67
                      have h68 := (hF 68 (by decide)).trans h68
                      have h69 := (hF 69 (by decide)).trans h69
                      have h70 := (hF 70 (by decide)).trans h70
                      have h71 := (hF 71 (by decide)).trans h71
                      have hFF := kF_st hFF hF (by first | decide | simp)
                      refine lv_aload_n C.1 C.2.1 dX9_mark_194 rfl (lv_at hl 2 rfl) ?_
                      refine k_get C hw 43 (by omega) h43 rfl inlX9 36 (by decide) q_149 rfl dX9_mark_195 ?_
                      refine lv_iload_n C.1 C.2.1 dX9_mark_198 rfl (lv_at hl 1 rfl) ?_
                      refine lv_aload_n C.1 C.2.1 dX9_mark_199 rfl (lv_at hl 2 rfl) ?_
                      refine k_get C hw 43 (by omega) h43 rfl inlX9 19 (by decide) q_162 rfl dX9_mark_200 ?_
                      refine k_iast C hw 69 (by omega) h69 (by omega) (by first | decide | omega) dX9_mark_203 (fun M_2 H locs hw h69 hF => ?_)
                      have h43 := (hF 43 (by decide)).trans h43
                      have h48 := (hF 48 (by decide)).trans h48
                      have h49 := (hF 49 (by decide)).trans h49
                      have h50 := (hF 50 (by decide)).trans h50
                      have h51 := (hF 51 (by decide)).trans h51
                      have h52 := (hF 52 (by decide)).trans h52
                      have h56 := (hF 56 (by decide)).trans h56
                      have h57 := (hF 57 (by decide)).trans h57
                      have h62 := (hF 62 (by decide)).trans h62
                      have h63 := (hF 63 (by decide)).trans h63
                      have h64 := (hF 64 (by decide)).trans h64
                      have h65 := (hF 65 (by decide)).trans h65
                      have h66 := (hF 66 (by decide)).trans h66
                      have h67 := (hF 67 (by decide)).trans h67
                      have h68 := (hF 68 (by decide)).trans h68
                      have h70 := (hF 70 (by decide)).trans h70
                      have h71 := (hF 71 (by decide)).trans h71
                      have hFF := kF_st hFF hF (by first | decide | simp)
                      refine lv_aload_n C.1 C.2.1 dX9_mark_204 rfl (lv_at hl 2 rfl) ?_
                      refine k_get C hw 43 (by omega) h43 rfl inlX9 35 (by decide) q_148 rfl dX9_mark_205 ?_
                      refine lv_iload_n C.1 C.2.1 dX9_mark_208 rfl (lv_at hl 1 rfl) ?_
                      refine lv_aload_n C.1 C.2.1 dX9_mark_209 rfl (lv_at hl 2 rfl) ?_
                      refine k_get C hw 43 (by omega) h43 rfl inlX9 18 (by decide) q_161 rfl dX9_mark_210 ?_
                      refine k_iast C hw 68 (by omega) h68 (by omega) (by first | decide | omega) dX9_mark_213 (fun M_3 H locs hw h68 hF => ?_)
                      have h43 := (hF 43 (by decide)).trans h43
                      have h48 := (hF 48 (by decide)).trans h48
                      have h49 := (hF 49 (by decide)).trans h49
                      have h50 := (hF 50 (by decide)).trans h50
                      have h51 := (hF 51 (by decide)).trans h51
                      have h52 := (hF 52 (by decide)).trans h52
                      have h56 := (hF 56 (by decide)).trans h56
                      have h57 := (hF 57 (by decide)).trans h57
                      have h62 := (hF 62 (by decide)).trans h62
                      have h63 := (hF 63 (by decide)).trans h63
                      have h64 := (hF 64 (by decide)).trans h64
                      have h65 := (hF 65 (by decide)).trans h65
                      have h66 := (hF 66 (by decide)).trans h66
                      have h67 := (hF 67 (by decide)).trans h67
                      have h69 := (hF 69 (by decide)).trans h69
                      have h70 := (hF 70 (by decide)).trans h70
                      have h71 := (hF 71 (by decide)).trans h71
                      have hFF := kF_st hFF hF (by first | decide | simp)
                      refine lv_aload_n C.1 C.2.1 dX9_mark_214 rfl (lv_at hl 2 rfl) ?_
                      refine lv_dup C.1 C.2.1 dX9_mark_215 rfl ?_
                      refine k_get C hw 43 (by omega) h43 rfl inlX9 27 (by decide) q_164 rfl dX9_mark_216 ?_
                      refine lv_iconst (v := nI 1) C.1 C.2.1 dX9_mark_219 (by decide) ?_
                      refine lv_iadd C.1 C.2.1 dX9_mark_220 ?_
                      refine k_topi (y := nI (mm + 1)) (nI_add _ _) ?_
                      refine k_put (tf := .int) C hw 43 (by omega) h43 rfl inlX9 tyX9 tyX9_ok nmX9 27 (by decide) q_164 rfl (by decide +kernel) rfl rfl (Nat.le_of_ble_eq_true rfl) dX9_mark_221 (fun M_4 H locs hw h43 hF => ?_)
                      have h43 : M_4 43 = .inr (9, [.int (nI G), .int (nI mo), .int (nI ta), .int sl, .ref (b + 44), .ref (b + 45), .ref (b + 46), .ref (b + 47), .int (nI ca), .ref (b + 48), .ref (b + 49), .ref (b + 50), .ref (b + 51), .ref (b + 52), .int (nI os), .ref (b + 53), .ref (b + 54), .ref (b + 55), .int tr, .int (nI ts), .ref (b + 56), .ref (b + 57), .int (nI lg), .ref (b + 58), .ref (b + 59), .ref (b + 60), .ref (b + 61), .int (nI (mm + 1)), .int sc, .ref (b + 62), .ref (b + 63), .ref (b + 64), .ref (b + 65), .ref (b + 66), .ref (b + 67), .ref (b + 68), .ref (b + 69), .ref (b + 70), .ref (b + 71), .ref (b + 72), .ref (b + 73)]) := h43
                      have h48 := (hF 48 (by decide)).trans h48
                      have h49 := (hF 49 (by decide)).trans h49
                      have h50 := (hF 50 (by decide)).trans h50
                      have h51 := (hF 51 (by decide)).trans h51
                      have h52 := (hF 52 (by decide)).trans h52
                      have h56 := (hF 56 (by decide)).trans h56
                      have h57 := (hF 57 (by decide)).trans h57
                      have h62 := (hF 62 (by decide)).trans h62
                      have h63 := (hF 63 (by decide)).trans h63
                      have h64 := (hF 64 (by decide)).trans h64
                      have h65 := (hF 65 (by decide)).trans h65
                      have h66 := (hF 66 (by decide)).trans h66
                      have h67 := (hF 67 (by decide)).trans h67
                      have h68 := (hF 68 (by decide)).trans h68
                      have h69 := (hF 69 (by decide)).trans h69
                      have h70 := (hF 70 (by decide)).trans h70
                      have h71 := (hF 71 (by decide)).trans h71
                      have hFF := kF_st hFF hF (by first | decide | simp)
                      refine lv_iload_n C.1 C.2.1 dX9_mark_224 rfl (lv_at hl 1 rfl) ?_
                      exact hret _ _ (Nat.le_of_ble_eq_true rfl) (Nat.le_of_ble_eq_true rfl) hw (⟨rfl, Or.inr (⟨hm, rfl, hFF, h43, h66, h67, h63, h64, h65, h70, h71, h62, h69, h68⟩)⟩) dX9_mark_225
                    · have q141 : ¬ ts ≤ z := fun z => c141 ((nI_leI (by omega) (by omega)).mpr z)
                      refine lv_aload_n C.1 C.2.1 dX9_mark_144 rfl (lv_at hl 2 rfl) ?_
                      refine k_get C hw 43 (by omega) h43 rfl inlX9 37 (by decide) q_150 rfl dX9_mark_145 ?_
                      refine lv_bipush (v := nI 40) C.1 C.2.1 dX9_mark_148 (by decide) ?_
                      refine lv_iload_n C.1 C.2.1 dX9_mark_150 rfl (lv_at hl 1 rfl) ?_
                      refine lv_imul C.1 C.2.1 dX9_mark_151 ?_
                      refine k_topi (y := nI (40 * mm)) (pk_mul _ _) ?_
                      refine lv_iload_n C.1 C.2.1 dX9_mark_152 rfl (lv_at hl 0 rfl) ?_
                      refine lv_iadd C.1 C.2.1 dX9_mark_153 ?_
                      refine k_topi (y := nI (40 * mm + z)) (nI_add _ _) ?_
                      refine lv_aload_n C.1 C.2.1 dX9_mark_154 rfl (lv_at hl 2 rfl) ?_
                      refine k_get C hw 43 (by omega) h43 rfl inlX9 20 (by decide) q_136 rfl dX9_mark_155 ?_
                      refine lv_iload_n C.1 C.2.1 dX9_mark_158 rfl (lv_at hl 0 rfl) ?_
                      refine k_iald C hw 56 (by omega) h56 (by omega) (by first | decide | omega) dX9_mark_159 ?_
                      refine k_iast C hw 70 (by omega) h70 (by omega) (by first | decide | omega) dX9_mark_160 (fun M_5 H locs hw h70 hF => ?_)
                      have h43 := (hF 43 (by decide)).trans h43
                      have h48 := (hF 48 (by decide)).trans h48
                      have h49 := (hF 49 (by decide)).trans h49
                      have h50 := (hF 50 (by decide)).trans h50
                      have h51 := (hF 51 (by decide)).trans h51
                      have h52 := (hF 52 (by decide)).trans h52
                      have h56 := (hF 56 (by decide)).trans h56
                      have h57 := (hF 57 (by decide)).trans h57
                      have h62 := (hF 62 (by decide)).trans h62
                      have h63 := (hF 63 (by decide)).trans h63
                      have h64 := (hF 64 (by decide)).trans h64
                      have h65 := (hF 65 (by decide)).trans h65
                      have h66 := (hF 66 (by decide)).trans h66
                      have h67 := (hF 67 (by decide)).trans h67
                      have h68 := (hF 68 (by decide)).trans h68
                      have h69 := (hF 69 (by decide)).trans h69
                      have h71 := (hF 71 (by decide)).trans h71
                      have hFF := kF_st hFF hF (by first | decide | simp)
                      rw [cpyD] at h70
                      refine lv_aload_n C.1 C.2.1 dX9_mark_161 rfl (lv_at hl 2 rfl) ?_
                      refine k_get C hw 43 (by omega) h43 rfl inlX9 38 (by decide) q_151 rfl dX9_mark_162 ?_
                      refine lv_bipush (v := nI 40) C.1 C.2.1 dX9_mark_165 (by decide) ?_
                      refine lv_iload_n C.1 C.2.1 dX9_mark_167 rfl (lv_at hl 1 rfl) ?_
                      refine lv_imul C.1 C.2.1 dX9_mark_168 ?_
                      refine k_topi (y := nI (40 * mm)) (pk_mul _ _) ?_
                      refine lv_iload_n C.1 C.2.1 dX9_mark_169 rfl (lv_at hl 0 rfl) ?_
                      refine lv_iadd C.1 C.2.1 dX9_mark_170 ?_
                      refine k_topi (y := nI (40 * mm + z)) (nI_add _ _) ?_
                      refine lv_aload_n C.1 C.2.1 dX9_mark_171 rfl (lv_at hl 2 rfl) ?_
                      refine k_get C hw 43 (by omega) h43 rfl inlX9 21 (by decide) q_137 rfl dX9_mark_172 ?_
                      refine lv_iload_n C.1 C.2.1 dX9_mark_175 rfl (lv_at hl 0 rfl) ?_
                      refine k_iald C hw 57 (by omega) h57 (by omega) (by first | decide | omega) dX9_mark_176 ?_
                      refine k_iast C hw 71 (by omega) h71 (by omega) (by first | decide | omega) dX9_mark_177 (fun M_6 H locs hw h71 hF => ?_)
                      have h43 := (hF 43 (by decide)).trans h43
                      have h48 := (hF 48 (by decide)).trans h48
                      have h49 := (hF 49 (by decide)).trans h49
                      have h50 := (hF 50 (by decide)).trans h50
                      have h51 := (hF 51 (by decide)).trans h51
                      have h52 := (hF 52 (by decide)).trans h52
                      have h56 := (hF 56 (by decide)).trans h56
                      have h57 := (hF 57 (by decide)).trans h57
                      have h62 := (hF 62 (by decide)).trans h62
                      have h63 := (hF 63 (by decide)).trans h63
                      have h64 := (hF 64 (by decide)).trans h64
                      have h65 := (hF 65 (by decide)).trans h65
                      have h66 := (hF 66 (by decide)).trans h66
                      have h67 := (hF 67 (by decide)).trans h67
                      have h68 := (hF 68 (by decide)).trans h68
                      have h69 := (hF 69 (by decide)).trans h69
                      have h70 := (hF 70 (by decide)).trans h70
                      have hFF := kF_st hFF hF (by first | decide | simp)
                      rw [cpyD] at h71
                      refine lv_iinc (v := (nI (z + 1))) (lv' := [(2, .int (nI (z + 1))), (1, .int (nI mm)), (0, .ref (b + 43))]) C.1 C.2.1 dX9_mark_178 hl (k := 0) rfl (k_inc _ 1) (by decide) rfl (fun ls hl => ?_)
                      refine lv_goto (tgt := 136) C.1 C.2.1 dX9_mark_181 (by decide) ?_
                      exact ih136  (z + 1) M_6 (by omega) (by omega) hFF h43 h48 h49 h50 h51 h52 h56 h57 h62 h63 h64 h65 h66 h67 h68 h69 h70 h71  ls _ _ (lv_sub hl [0, 1, 2] rfl) hw
                exact L136 (_ + 1) (0) Mx66 (Nat.lt_succ_self _) (Nat.zero_le _) hFF h43 h48 h49 h50 h51 h52 h56 h57 h62 h63 h64 h65 h66 h67 h68 h69 h70 h71  ls _ _ (lv_sub hl [0, 1, 2] rfl) hw
              · have q71 : ¬ ca ≤ y := fun z => c71 ((nI_leI (by omega) (by omega)).mpr z)
                refine lv_aload_n C.1 C.2.1 dX9_mark_74 rfl (lv_at hl 2 rfl) ?_
                refine k_get C hw 43 (by omega) h43 rfl inlX9 30 (by decide) q_143 rfl dX9_mark_75 ?_
                refine lv_sipush (v := nI 400) C.1 C.2.1 dX9_mark_78 (by decide) ?_
                refine lv_iload_n C.1 C.2.1 dX9_mark_81 rfl (lv_at hl 1 rfl) ?_
                refine lv_imul C.1 C.2.1 dX9_mark_82 ?_
                refine k_topi (y := nI (400 * mm)) (pk_mul _ _) ?_
                refine lv_iload_n C.1 C.2.1 dX9_mark_83 rfl (lv_at hl 0 rfl) ?_
                refine lv_iadd C.1 C.2.1 dX9_mark_84 ?_
                refine k_topi (y := nI (400 * mm + y)) (nI_add _ _) ?_
                refine lv_aload_n C.1 C.2.1 dX9_mark_85 rfl (lv_at hl 2 rfl) ?_
                refine k_get C hw 43 (by omega) h43 rfl inlX9 9 (by decide) q_128 rfl dX9_mark_86 ?_
                refine lv_iload_n C.1 C.2.1 dX9_mark_89 rfl (lv_at hl 0 rfl) ?_
                refine k_iald C hw 48 (by omega) h48 (by omega) (by first | decide | omega) dX9_mark_90 ?_
                refine k_iast C hw 63 (by omega) h63 (by omega) (by first | decide | omega) dX9_mark_91 (fun M_7 H locs hw h63 hF => ?_)
                have h43 := (hF 43 (by decide)).trans h43
                have h48 := (hF 48 (by decide)).trans h48
                have h49 := (hF 49 (by decide)).trans h49
                have h50 := (hF 50 (by decide)).trans h50
                have h51 := (hF 51 (by decide)).trans h51
                have h52 := (hF 52 (by decide)).trans h52
                have h56 := (hF 56 (by decide)).trans h56
                have h57 := (hF 57 (by decide)).trans h57
                have h62 := (hF 62 (by decide)).trans h62
                have h64 := (hF 64 (by decide)).trans h64
                have h65 := (hF 65 (by decide)).trans h65
                have h66 := (hF 66 (by decide)).trans h66
                have h67 := (hF 67 (by decide)).trans h67
                have h68 := (hF 68 (by decide)).trans h68
                have h69 := (hF 69 (by decide)).trans h69
                have h70 := (hF 70 (by decide)).trans h70
                have h71 := (hF 71 (by decide)).trans h71
                have hFF := kF_st hFF hF (by first | decide | simp)
                rw [cpyD] at h63
                refine lv_aload_n C.1 C.2.1 dX9_mark_92 rfl (lv_at hl 2 rfl) ?_
                refine k_get C hw 43 (by omega) h43 rfl inlX9 31 (by decide) q_144 rfl dX9_mark_93 ?_
                refine lv_sipush (v := nI 400) C.1 C.2.1 dX9_mark_96 (by decide) ?_
                refine lv_iload_n C.1 C.2.1 dX9_mark_99 rfl (lv_at hl 1 rfl) ?_
                refine lv_imul C.1 C.2.1 dX9_mark_100 ?_
                refine k_topi (y := nI (400 * mm)) (pk_mul _ _) ?_
                refine lv_iload_n C.1 C.2.1 dX9_mark_101 rfl (lv_at hl 0 rfl) ?_
                refine lv_iadd C.1 C.2.1 dX9_mark_102 ?_
                refine k_topi (y := nI (400 * mm + y)) (nI_add _ _) ?_
                refine lv_aload_n C.1 C.2.1 dX9_mark_103 rfl (lv_at hl 2 rfl) ?_
                refine k_get C hw 43 (by omega) h43 rfl inlX9 10 (by decide) q_129 rfl dX9_mark_104 ?_
                refine lv_iload_n C.1 C.2.1 dX9_mark_107 rfl (lv_at hl 0 rfl) ?_
                refine k_iald C hw 49 (by omega) h49 (by omega) (by first | decide | omega) dX9_mark_108 ?_
                refine k_iast C hw 64 (by omega) h64 (by omega) (by first | decide | omega) dX9_mark_109 (fun M_8 H locs hw h64 hF => ?_)
                have h43 := (hF 43 (by decide)).trans h43
                have h48 := (hF 48 (by decide)).trans h48
                have h49 := (hF 49 (by decide)).trans h49
                have h50 := (hF 50 (by decide)).trans h50
                have h51 := (hF 51 (by decide)).trans h51
                have h52 := (hF 52 (by decide)).trans h52
                have h56 := (hF 56 (by decide)).trans h56
                have h57 := (hF 57 (by decide)).trans h57
                have h62 := (hF 62 (by decide)).trans h62
                have h63 := (hF 63 (by decide)).trans h63
                have h65 := (hF 65 (by decide)).trans h65
                have h66 := (hF 66 (by decide)).trans h66
                have h67 := (hF 67 (by decide)).trans h67
                have h68 := (hF 68 (by decide)).trans h68
                have h69 := (hF 69 (by decide)).trans h69
                have h70 := (hF 70 (by decide)).trans h70
                have h71 := (hF 71 (by decide)).trans h71
                have hFF := kF_st hFF hF (by first | decide | simp)
                rw [cpyD] at h64
                refine lv_aload_n C.1 C.2.1 dX9_mark_110 rfl (lv_at hl 2 rfl) ?_
                refine k_get C hw 43 (by omega) h43 rfl inlX9 32 (by decide) q_145 rfl dX9_mark_111 ?_
                refine lv_sipush (v := nI 400) C.1 C.2.1 dX9_mark_114 (by decide) ?_
                refine lv_iload_n C.1 C.2.1 dX9_mark_117 rfl (lv_at hl 1 rfl) ?_
                refine lv_imul C.1 C.2.1 dX9_mark_118 ?_
                refine k_topi (y := nI (400 * mm)) (pk_mul _ _) ?_
                refine lv_iload_n C.1 C.2.1 dX9_mark_119 rfl (lv_at hl 0 rfl) ?_
                refine lv_iadd C.1 C.2.1 dX9_mark_120 ?_
                refine k_topi (y := nI (400 * mm + y)) (nI_add _ _) ?_
                refine lv_aload_n C.1 C.2.1 dX9_mark_121 rfl (lv_at hl 2 rfl) ?_
                refine k_get C hw 43 (by omega) h43 rfl inlX9 11 (by decide) q_130 rfl dX9_mark_122 ?_
                refine lv_iload_n C.1 C.2.1 dX9_mark_125 rfl (lv_at hl 0 rfl) ?_
                refine k_zald C hw 50 (by omega) h50 (by omega) (by first | decide | omega) dX9_mark_126 ?_
                refine k_zast C hw 65 (by omega) h65 (hwa y (by omega)) (by omega) (by first | decide | omega) dX9_mark_127 (fun M_9 H locs hw h65 hF => ?_)
                have h43 := (hF 43 (by decide)).trans h43
                have h48 := (hF 48 (by decide)).trans h48
                have h49 := (hF 49 (by decide)).trans h49
                have h50 := (hF 50 (by decide)).trans h50
                have h51 := (hF 51 (by decide)).trans h51
                have h52 := (hF 52 (by decide)).trans h52
                have h56 := (hF 56 (by decide)).trans h56
                have h57 := (hF 57 (by decide)).trans h57
                have h62 := (hF 62 (by decide)).trans h62
                have h63 := (hF 63 (by decide)).trans h63
                have h64 := (hF 64 (by decide)).trans h64
                have h66 := (hF 66 (by decide)).trans h66
                have h67 := (hF 67 (by decide)).trans h67
                have h68 := (hF 68 (by decide)).trans h68
                have h69 := (hF 69 (by decide)).trans h69
                have h70 := (hF 70 (by decide)).trans h70
                have h71 := (hF 71 (by decide)).trans h71
                have hFF := kF_st hFF hF (by first | decide | simp)
                rw [cpyD] at h65
                refine lv_iinc (v := (nI (y + 1))) (lv' := [(2, .int (nI (y + 1))), (1, .int (nI mm)), (0, .ref (b + 43))]) C.1 C.2.1 dX9_mark_128 hl (k := 0) rfl (k_inc _ 1) (by decide) rfl (fun ls hl => ?_)
                refine lv_goto (tgt := 66) C.1 C.2.1 dX9_mark_131 (by decide) ?_
                exact ih66  (y + 1) M_9 (by omega) (by omega) hFF h43 h48 h49 h50 h51 h52 h56 h57 h62 h63 h64 h65 h66 h67 h68 h69 h70 h71  ls _ _ (lv_sub hl [0, 1, 2] rfl) hw
          exact L66 (_ + 1) (0) Mx18 (Nat.lt_succ_self _) (Nat.zero_le _) hFF h43 h48 h49 h50 h51 h52 h56 h57 h62 h63 h64 h65 h66 h67 h68 h69 h70 h71  ls _ _ (lv_sub hl [0, 1, 2] rfl) hw
        · have q21 : ¬ 100 ≤ x := fun z => c21 ((nI_leI (by omega) (by omega)).mpr z)
          refine lv_aload_n C.1 C.2.1 dX9_mark_24 rfl (lv_at hl 2 rfl) ?_
          refine k_get C hw 43 (by omega) h43 rfl inlX9 33 (by decide) q_146 rfl dX9_mark_25 ?_
          refine lv_bipush (v := nI 100) C.1 C.2.1 dX9_mark_28 (by decide) ?_
          refine lv_iload_n C.1 C.2.1 dX9_mark_30 rfl (lv_at hl 1 rfl) ?_
          refine lv_imul C.1 C.2.1 dX9_mark_31 ?_
          refine k_topi (y := nI (100 * mm)) (pk_mul _ _) ?_
          refine lv_iload_n C.1 C.2.1 dX9_mark_32 rfl (lv_at hl 0 rfl) ?_
          refine lv_iadd C.1 C.2.1 dX9_mark_33 ?_
          refine k_topi (y := nI (100 * mm + x)) (nI_add _ _) ?_
          refine lv_aload_n C.1 C.2.1 dX9_mark_34 rfl (lv_at hl 2 rfl) ?_
          refine k_get C hw 43 (by omega) h43 rfl inlX9 12 (by decide) q_131 rfl dX9_mark_35 ?_
          refine lv_iload_n C.1 C.2.1 dX9_mark_38 rfl (lv_at hl 0 rfl) ?_
          refine k_iald C hw 51 (by omega) h51 (by omega) (by first | decide | omega) dX9_mark_39 ?_
          refine k_iast C hw 66 (by omega) h66 (by omega) (by first | decide | omega) dX9_mark_40 (fun M_10 H locs hw h66 hF => ?_)
          have h43 := (hF 43 (by decide)).trans h43
          have h48 := (hF 48 (by decide)).trans h48
          have h49 := (hF 49 (by decide)).trans h49
          have h50 := (hF 50 (by decide)).trans h50
          have h51 := (hF 51 (by decide)).trans h51
          have h52 := (hF 52 (by decide)).trans h52
          have h56 := (hF 56 (by decide)).trans h56
          have h57 := (hF 57 (by decide)).trans h57
          have h62 := (hF 62 (by decide)).trans h62
          have h63 := (hF 63 (by decide)).trans h63
          have h64 := (hF 64 (by decide)).trans h64
          have h65 := (hF 65 (by decide)).trans h65
          have h67 := (hF 67 (by decide)).trans h67
          have h68 := (hF 68 (by decide)).trans h68
          have h69 := (hF 69 (by decide)).trans h69
          have h70 := (hF 70 (by decide)).trans h70
          have h71 := (hF 71 (by decide)).trans h71
          have hFF := kF_st hFF hF (by first | decide | simp)
          rw [cpyD] at h66
          refine lv_aload_n C.1 C.2.1 dX9_mark_41 rfl (lv_at hl 2 rfl) ?_
          refine k_get C hw 43 (by omega) h43 rfl inlX9 34 (by decide) q_147 rfl dX9_mark_42 ?_
          refine lv_bipush (v := nI 100) C.1 C.2.1 dX9_mark_45 (by decide) ?_
          refine lv_iload_n C.1 C.2.1 dX9_mark_47 rfl (lv_at hl 1 rfl) ?_
          refine lv_imul C.1 C.2.1 dX9_mark_48 ?_
          refine k_topi (y := nI (100 * mm)) (pk_mul _ _) ?_
          refine lv_iload_n C.1 C.2.1 dX9_mark_49 rfl (lv_at hl 0 rfl) ?_
          refine lv_iadd C.1 C.2.1 dX9_mark_50 ?_
          refine k_topi (y := nI (100 * mm + x)) (nI_add _ _) ?_
          refine lv_aload_n C.1 C.2.1 dX9_mark_51 rfl (lv_at hl 2 rfl) ?_
          refine k_get C hw 43 (by omega) h43 rfl inlX9 13 (by decide) q_132 rfl dX9_mark_52 ?_
          refine lv_iload_n C.1 C.2.1 dX9_mark_55 rfl (lv_at hl 0 rfl) ?_
          refine k_lald C hw 52 (by omega) h52 (by omega) (by first | decide | omega) dX9_mark_56 ?_
          refine k_last C hw 67 (by omega) h67 (by omega) (by first | decide | omega) dX9_mark_57 (fun M_11 H locs hw h67 hF => ?_)
          have h43 := (hF 43 (by decide)).trans h43
          have h48 := (hF 48 (by decide)).trans h48
          have h49 := (hF 49 (by decide)).trans h49
          have h50 := (hF 50 (by decide)).trans h50
          have h51 := (hF 51 (by decide)).trans h51
          have h52 := (hF 52 (by decide)).trans h52
          have h56 := (hF 56 (by decide)).trans h56
          have h57 := (hF 57 (by decide)).trans h57
          have h62 := (hF 62 (by decide)).trans h62
          have h63 := (hF 63 (by decide)).trans h63
          have h64 := (hF 64 (by decide)).trans h64
          have h65 := (hF 65 (by decide)).trans h65
          have h66 := (hF 66 (by decide)).trans h66
          have h68 := (hF 68 (by decide)).trans h68
          have h69 := (hF 69 (by decide)).trans h69
          have h70 := (hF 70 (by decide)).trans h70
          have h71 := (hF 71 (by decide)).trans h71
          have hFF := kF_st hFF hF (by first | decide | simp)
          rw [cpyDL] at h67
          refine lv_iinc (v := (nI (x + 1))) (lv' := [(2, .int (nI (x + 1))), (1, .int (nI mm)), (0, .ref (b + 43))]) C.1 C.2.1 dX9_mark_58 hl (k := 0) rfl (k_inc _ 1) (by decide) rfl (fun ls hl => ?_)
          refine lv_goto (tgt := 18) C.1 C.2.1 dX9_mark_61 (by decide) ?_
          exact ih18  (x + 1) M_11 (by omega) (by omega) hFF h43 h48 h49 h50 h51 h52 h56 h57 h62 h63 h64 h65 h66 h67 h68 h69 h70 h71  ls _ _ (lv_sub hl [0, 1, 2] rfl) hw
    exact L18 (_ + 1) (0) M (Nat.lt_succ_self _) (Nat.zero_le _) hFF h43 h48 h49 h50 h51 h52 h56 h57 h62 h63 h64 h65 h66 h67 h68 h69 h70 h71  ls _ _ (lv_sub hl [0, 1, 2] rfl) hw
  · have hm : ¬ mm < 3 := fun z => by have := (nI_eq (by omega) (by decide)).mp c5; omega
    refine lv_bipush (v := (-107)) C.1 C.2.1 dX9_mark_8 (by decide) ?_
    exact hret _ _ (Nat.le_of_ble_eq_true rfl) (Nat.le_of_ble_eq_true rfl) hw (⟨rfl, Or.inl ⟨hm, rfl, rfl⟩⟩) dX9_mark_10

set_option maxHeartbeats 4000000 in
set_option maxRecDepth 100000 in
theorem c_X9_restore {l : Launch} {D : va_G} {cI cJ cZ cH cR : ClassId} {b : Nat} {n : Nat} {M : Nat → va_E}  {G : Nat} {mo : Nat} {ta : Nat} {sl : Int32} {ca : Nat} {os : Nat} {tr : Int32} {ts : Nat} {lg : Nat} {mm : Nat} {sc : Int32} {mow : Nat → Int32} {mep : Nat → Int32} {mwe : Nat → Int32} {mrk : Nat → Int32} {mrv : Nat → Int32} {mwa : Nat → Int32} {mct : Nat → Int32} {msu : Nat → Int64} {mtk : Nat → Int32} {mtt : Nat → Int32} {mxr : Nat → Int32} {mxk : Nat → Int32} {mxv : Nat → Int32} {mxw : Nat → Int32} {mxc : Nat → Int32} {mxs : Nat → Int64} {mxt : Nat → Int32} {mxn : Nat → Int32} {mxa : Nat → Int32} {mxb : Nat → Int32} {mpl : Nat → Int32} {x tn : Int32} {cz nz : Nat → Nat} (hn : 73 ≤ n) (h43 : M 43 = .inr (9, [.int (nI G), .int (nI mo), .int (nI ta), .int sl, .ref (b + 44), .ref (b + 45), .ref (b + 46), .ref (b + 47), .int (nI ca), .ref (b + 48), .ref (b + 49), .ref (b + 50), .ref (b + 51), .ref (b + 52), .int (nI os), .ref (b + 53), .ref (b + 54), .ref (b + 55), .int tr, .int (nI ts), .ref (b + 56), .ref (b + 57), .int (nI lg), .ref (b + 58), .ref (b + 59), .ref (b + 60), .ref (b + 61), .int (nI mm), .int sc, .ref (b + 62), .ref (b + 63), .ref (b + 64), .ref (b + 65), .ref (b + 66), .ref (b + 67), .ref (b + 68), .ref (b + 69), .ref (b + 70), .ref (b + 71), .ref (b + 72), .ref (b + 73)])) (h44 : M 44 = .inl (cI, 32, .inl mow)) (h45 : M 45 = .inl (cI, 32, .inl mep)) (h46 : M 46 = .inl (cI, 32, .inl mwe)) (h48 : M 48 = .inl (cI, 400, .inl mrk)) (h49 : M 49 = .inl (cI, 400, .inl mrv)) (h50 : M 50 = .inl (cZ, 400, .inl mwa)) (h51 : M 51 = .inl (cI, 100, .inl mct)) (h52 : M 52 = .inl (cJ, 100, .inr (.inl msu))) (h56 : M 56 = .inl (cI, 40, .inl mtk)) (h57 : M 57 = .inl (cI, 40, .inl mtt)) (h62 : M 62 = .inl (cI, 3, .inl mxr)) (h63 : M 63 = .inl (cI, 1200, .inl mxk)) (h64 : M 64 = .inl (cI, 1200, .inl mxv)) (h65 : M 65 = .inl (cZ, 1200, .inl mxw)) (h66 : M 66 = .inl (cI, 300, .inl mxc)) (h67 : M 67 = .inl (cJ, 300, .inr (.inl mxs))) (h68 : M 68 = .inl (cI, 3, .inl mxt)) (h69 : M 69 = .inl (cI, 3, .inl mxn)) (h70 : M 70 = .inl (cI, 120, .inl mxa)) (h71 : M 71 = .inl (cI, 120, .inl mxb)) (h72 : M 72 = .inl (cI, 32, .inl mpl))  (hG0 : 0 < G) (hG : G ≤ 32) (hmm : mm ≤ 3) (hmo : mo ≤ 12) (hxr : ∀ j, j < mm → mxr j = nI (cz j) ∧ cz j ≤ 400) (hxn : ∀ j, j < mm → mxn j = nI (nz j) ∧ nz j ≤ 40) (hxw : ∀ j, j < mm → ∀ q, q < cz j → mxw (400 * j + q) = 0 ∨ mxw (400 * j + q) = 1) : Met l yX9_restore (kw yX9_restore cX9_restore 4 (some .int)) ({ frames := 1, cells := 0, slots := 0, locals := 25 }) (va_Pc [.ref (b + 43), .int x, .int tn] (kPre D (kT cI cJ cZ cH cR) b M n)) (va_Qi (fun (r : Int32) (u : (Nat → va_E) × Nat) => u.2 = n ∧ (((¬ isT x mm) ∧ r = -101 ∧ u.1 = M) ∨ ((isT x mm ∧ tn < nI 1) ∧ r = -102 ∧ u.1 = M) ∨ ((isT x mm ∧ ¬ tn < nI 1 ∧ nI mo < tn) ∧ r = -105 ∧ u.1 = M) ∨ ((isT x mm ∧ ¬ tn < nI 1 ∧ ¬ nI mo < tn) ∧ r = nI (cnt (mvz (va_cpy mxw mwa (400 * (kn x)) 0 (cz (kn x)))) (cz (kn x))) ∧ kF [43, 51, 52, 48, 49, 50, 56, 57, 44, 45, 46, 72] M u.1 ∧ u.1 43 = .inr (9, [.int (nI G), .int (nI mo), .int (nI (kn tn)), .int sl, .ref (b + 44), .ref (b + 45), .ref (b + 46), .ref (b + 47), .int (nI (cz (kn x))), .ref (b + 48), .ref (b + 49), .ref (b + 50), .ref (b + 51), .ref (b + 52), .int (nI 0), .ref (b + 53), .ref (b + 54), .ref (b + 55), .int (mxt (kn x)), .int (nI (nz (kn x))), .ref (b + 56), .ref (b + 57), .int (nI 0), .ref (b + 58), .ref (b + 59), .ref (b + 60), .ref (b + 61), .int (nI mm), .int sc, .ref (b + 62), .ref (b + 63), .ref (b + 64), .ref (b + 65), .ref (b + 66), .ref (b + 67), .ref (b + 68), .ref (b + 69), .ref (b + 70), .ref (b + 71), .ref (b + 72), .ref (b + 73)]) ∧ u.1 51 = .inl (cI, 100, .inl (va_cpy mxc mct (100 * (kn x)) 0 100)) ∧ u.1 52 = .inl (cJ, 100, .inr (.inl (va_cpy mxs msu (100 * (kn x)) 0 100))) ∧ u.1 48 = .inl (cI, 400, .inl (va_cpy mxk mrk (400 * (kn x)) 0 (cz (kn x)))) ∧ u.1 49 = .inl (cI, 400, .inl (va_cpy mxv mrv (400 * (kn x)) 0 (cz (kn x)))) ∧ u.1 50 = .inl (cZ, 400, .inl (va_cpy mxw mwa (400 * (kn x)) 0 (cz (kn x)))) ∧ u.1 56 = .inl (cI, 40, .inl (va_cpy mxa mtk (40 * (kn x)) 0 (nz (kn x)))) ∧ u.1 57 = .inl (cI, 40, .inl (va_cpy mxb mtt (40 * (kn x)) 0 (nz (kn x)))) ∧ u.1 44 = .inl (cI, 32, .inl (pfx (lay mpl (evF G (kn tn)) (kn tn)) mow G)) ∧ u.1 45 = .inl (cI, 32, .inl (pfx (fun g => mep g + nI 1) mep G)) ∧ u.1 46 = .inl (cI, 32, .inl (pfx (fun _ => nI 0) mwe G)) ∧ u.1 72 = .inl (cI, 32, .inl (lay mpl (evF G (kn tn)) (kn tn)))))) (kB D (kT cI cJ cZ cH cR) b) (kA b)) 0 0 (kA b) := by
  refine k_metI (by decide +kernel) (Nat.le_of_ble_eq_true rfl) ?_
  intro p e s m below meth c ls Q C hw hret hnm hl
  have hl : lv_has ls 4 [(0, .ref (b + 43)), (1, .int x), (2, .int tn)] := hl
  have hFF : kF [43, 51, 52, 48, 49, 50, 56, 57, 44, 45, 46, 72] M M := kF_rf
  refine lv_iload_n C.1 C.2.1 dX9_restore_0 rfl (lv_at hl 1 rfl) ?_
  refine lv_i2l C.1 C.2.1 dX9_restore_1 rfl ?_
  refine lv_lconst (v := 0) C.1 C.2.1 dX9_restore_2 rfl ?_
  refine lv_aload_n C.1 C.2.1 dX9_restore_3 rfl (lv_at hl 0 rfl) ?_
  refine k_get C hw 43 (by omega) h43 rfl inlX9 27 (by decide) q_164 rfl dX9_restore_4 ?_
  refine lv_iconst (v := nI 1) C.1 C.2.1 dX9_restore_7 (by decide) ?_
  refine lv_isub C.1 C.2.1 dX9_restore_8 ?_
  refine lv_i2l C.1 C.2.1 dX9_restore_9 rfl ?_
  refine k_si C hw (c_X9_in   ) kv_X9_147 rfl hl.1 ⟨Nat.le_of_ble_eq_true rfl, Nat.le_of_ble_eq_true rfl⟩ (Nat.le_of_ble_eq_true rfl) ⟨Nat.le_of_ble_eq_true rfl, Nat.le_of_ble_eq_true rfl⟩ dX9_restore_10 (fun r10 M_1 n9 H locs hp hw => ?_)
  obtain ⟨er10, en9, eM9⟩ := hp
  have en9 : n9 = n := en9
  rw [en9] at hw
  have eM9 : M_1 = M := eM9
  rw [eM9] at hw
  refine lv_if_ne (tgt := 19) C.1 C.2.1 dX9_restore_13 (by decide) (fun c13 => ?_) (fun c13 => ?_)
  · have h13_ : isT x mm := (inT' (by omega)).mp (Classical.byContradiction (fun z => c13 (by rw [er10, if_neg z])))
    refine lv_iload_n C.1 C.2.1 dX9_restore_19 rfl (lv_at hl 2 rfl) ?_
    refine lv_iconst (v := nI 1) C.1 C.2.1 dX9_restore_20 (by decide) ?_
    refine lv_icmp_ge (tgt := 27) C.1 C.2.1 dX9_restore_21 (by decide) (fun c21 => ?_) (fun c21 => ?_)
    · refine lv_iload_n C.1 C.2.1 dX9_restore_27 rfl (lv_at hl 2 rfl) ?_
      refine lv_aload_n C.1 C.2.1 dX9_restore_28 rfl (lv_at hl 0 rfl) ?_
      refine k_get C hw 43 (by omega) h43 rfl inlX9 1 (by decide) q_171 rfl dX9_restore_29 ?_
      refine lv_icmp_le (tgt := 38) C.1 C.2.1 dX9_restore_32 (by decide) (fun c32 => ?_) (fun c32 => ?_)
      · obtain ⟨m1, hm0_, hm1, em, ekn⟩ := tn_nI hmo c21 c32
        obtain ⟨m0, hm0, em0, ekm⟩ := isT_nI (by omega) h13_
        have hcz := (hxr _ hm0).2
        have hnz := (hxn _ hm0).2
        refine lv_iconst (v := nI 0) C.1 C.2.1 dX9_restore_38 (by decide) ?_
        rw [← cpy0 (f := mxc) (g := mct) (s := 100 * m0) (d := 0)] at h51
        rw [← cpy0 (f := mxs) (g := msu) (s := 100 * m0) (d := 0)] at h52
        refine lv_istore_n (lv' := [(3, .int (nI 0)), (0, .ref (b + 43)), (1, .int x), (2, .int tn)]) C.1 C.2.1 dX9_restore_39 rfl hl (by decide) rfl (fun ls hl => ?_)
        have L40 : ∀ (N40 : Nat) (y0 : Nat) (Mx40 : Nat → va_E), (100 - y0 < N40) → (y0 ≤ 100) → kF [43, 51, 52, 48, 49, 50, 56, 57, 44, 45, 46, 72] M Mx40 → Mx40 43 = .inr (9, [.int (nI G), .int (nI mo), .int (nI ta), .int sl, .ref (b + 44), .ref (b + 45), .ref (b + 46), .ref (b + 47), .int (nI ca), .ref (b + 48), .ref (b + 49), .ref (b + 50), .ref (b + 51), .ref (b + 52), .int (nI os), .ref (b + 53), .ref (b + 54), .ref (b + 55), .int tr, .int (nI ts), .ref (b + 56), .ref (b + 57), .int (nI lg), .ref (b + 58), .ref (b + 59), .ref (b + 60), .ref (b + 61), .int (nI mm), .int sc, .ref (b + 62), .ref (b + 63), .ref (b + 64), .ref (b + 65), .ref (b + 66), .ref (b + 67), .ref (b + 68), .ref (b + 69), .ref (b + 70), .ref (b + 71), .ref (b + 72), .ref (b + 73)]) → Mx40 44 = .inl (cI, 32, .inl mow) → Mx40 45 = .inl (cI, 32, .inl mep) → Mx40 46 = .inl (cI, 32, .inl mwe) → Mx40 48 = .inl (cI, 400, .inl mrk) → Mx40 49 = .inl (cI, 400, .inl mrv) → Mx40 50 = .inl (cZ, 400, .inl mwa) → Mx40 51 = .inl (cI, 100, .inl (va_cpy mxc mct (100 * m0) 0 y0)) → Mx40 52 = .inl (cJ, 100, .inr (.inl (va_cpy mxs msu (100 * m0) 0 y0))) → Mx40 56 = .inl (cI, 40, .inl mtk) → Mx40 57 = .inl (cI, 40, .inl mtt) → Mx40 62 = .inl (cI, 3, .inl mxr) → Mx40 63 = .inl (cI, 1200, .inl mxk) → Mx40 64 = .inl (cI, 1200, .inl mxv) → Mx40 65 = .inl (cZ, 1200, .inl mxw) → Mx40 66 = .inl (cI, 300, .inl mxc) → Mx40 67 = .inl (cJ, 300, .inr (.inl mxs)) → Mx40 68 = .inl (cI, 3, .inl mxt) → Mx40 69 = .inl (cI, 3, .inl mxn) → Mx40 70 = .inl (cI, 120, .inl mxa) → Mx40 71 = .inl (cI, 120, .inl mxb) → Mx40 72 = .inl (cI, 32, .inl mpl) → ∀ (ls : Array Slot) (H : Heap) (locs : List Loc), lv_has ls 4 [(3, .int (nI y0)), (0, .ref (b + 43)), (1, .int x), (2, .int tn)] → kW D b Mx40 n s.heap H locs → W p l e ({ frames := 1, cells := 0, slots := 0, locals := 25 } : Room) s m ([.ref (b + 43), .int x, .int tn] : List Value).toArray below meth c H locs 0 0 Q (F0 m 40 ls []) := by
          intro N40
          induction N40 with
          | zero => intro y0 Mx40 hm40 hy0_ hFF h43 h44 h45 h46 h48 h49 h50 h51 h52 h56 h57 h62 h63 h64 h65 h66 h67 h68 h69 h70 h71 h72 ls H locs hl hw; omega
          | succ N40 ih40 =>
            intro y0 Mx40 hm40 hy0_ hFF h43 h44 h45 h46 h48 h49 h50 h51 h52 h56 h57 h62 h63 h64 h65 h66 h67 h68 h69 h70 h71 h72 ls H locs hl hw
            refine lv_iload_n C.1 C.2.1 dX9_restore_40 rfl (lv_at hl 0 rfl) ?_
            refine lv_bipush (v := nI 100) C.1 C.2.1 dX9_restore_41 (by decide) ?_
            refine lv_icmp_ge (tgt := 86) C.1 C.2.1 dX9_restore_43 (by decide) (fun c43 => ?_) (fun c43 => ?_)
            · have q43 := (nI_leI (by omega) (by omega)).mp c43
              have q43 : y0 = 100 := by omega
              rw [q43] at h51 h52
              refine lv_aload_n C.1 C.2.1 dX9_restore_86 rfl (lv_at hl 1 rfl) ?_
              refine lv_aload_n C.1 C.2.1 dX9_restore_87 rfl (lv_at hl 1 rfl) ?_
              refine k_get C hw 43 (by omega) h43 rfl inlX9 29 (by decide) q_142 rfl dX9_restore_88 ?_
              refine lv_iload_n C.1 C.2.1 dX9_restore_91 rfl (lv_at hl 2 rfl) ?_
              refine k_topi (y := nI m0) (em0) ?_
              refine k_iald C hw 62 (by omega) h62 (by omega) (by first | decide | omega) dX9_restore_92 ?_
              refine k_topi (y := nI (cz m0)) ((hxr _ hm0).1) ?_
              refine k_put (tf := .int) C hw 43 (by omega) h43 rfl inlX9 tyX9 tyX9_ok nmX9 8 (by decide) q_159 rfl (by decide +kernel) rfl rfl (Nat.le_of_ble_eq_true rfl) dX9_restore_93 (fun M_2 H locs hw h43 hF => ?_)
              have h43 : M_2 43 = .inr (9, [.int (nI G), .int (nI mo), .int (nI ta), .int sl, .ref (b + 44), .ref (b + 45), .ref (b + 46), .ref (b + 47), .int (nI (cz m0)), .ref (b + 48), .ref (b + 49), .ref (b + 50), .ref (b + 51), .ref (b + 52), .int (nI os), .ref (b + 53), .ref (b + 54), .ref (b + 55), .int tr, .int (nI ts), .ref (b + 56), .ref (b + 57), .int (nI lg), .ref (b + 58), .ref (b + 59), .ref (b + 60), .ref (b + 61), .int (nI mm), .int sc, .ref (b + 62), .ref (b + 63), .ref (b + 64), .ref (b + 65), .ref (b + 66), .ref (b + 67), .ref (b + 68), .ref (b + 69), .ref (b + 70), .ref (b + 71), .ref (b + 72), .ref (b + 73)]) := h43
              have h44 := (hF 44 (by decide)).trans h44
              have h45 := (hF 45 (by decide)).trans h45
              have h46 := (hF 46 (by decide)).trans h46
              have h48 := (hF 48 (by decide)).trans h48
              have h49 := (hF 49 (by decide)).trans h49
              have h50 := (hF 50 (by decide)).trans h50
              have h51 := (hF 51 (by decide)).trans h51
              have h52 := (hF 52 (by decide)).trans h52
              have h56 := (hF 56 (by decide)).trans h56
              have h57 := (hF 57 (by decide)).trans h57
              have h62 := (hF 62 (by decide)).trans h62
              have h63 := (hF 63 (by decide)).trans h63
              have h64 := (hF 64 (by decide)).trans h64
              have h65 := (hF 65 (by decide)).trans h65
              have h66 := (hF 66 (by decide)).trans h66
              have h67 := (hF 67 (by decide)).trans h67
              have h68 := (hF 68 (by decide)).trans h68
              have h69 := (hF 69 (by decide)).trans h69
              have h70 := (hF 70 (by decide)).trans h70
              have h71 := (hF 71 (by decide)).trans h71
              have h72 := (hF 72 (by decide)).trans h72
              have hFF := kF_st hFF hF (by first | decide | simp)
              refine lv_iconst (v := nI 0) C.1 C.2.1 dX9_restore_96 (by decide) ?_
              rw [← cpy0 (f := mxk) (g := mrk) (s := 400 * m0) (d := 0)] at h48
              rw [← cpy0 (f := mxv) (g := mrv) (s := 400 * m0) (d := 0)] at h49
              rw [← cpy0 (f := mxw) (g := mwa) (s := 400 * m0) (d := 0)] at h50
              refine lv_istore_n (lv' := [(3, .int (nI 0)), (0, .ref (b + 43)), (1, .int x), (2, .int tn)]) C.1 C.2.1 dX9_restore_97 rfl hl (by decide) rfl (fun ls hl => ?_)
              have L98 : ∀ (N98 : Nat) (y1 : Nat) (Mx98 : Nat → va_E), (cz m0 - y1 < N98) → (y1 ≤ cz m0) → kF [43, 51, 52, 48, 49, 50, 56, 57, 44, 45, 46, 72] M Mx98 → Mx98 43 = .inr (9, [.int (nI G), .int (nI mo), .int (nI ta), .int sl, .ref (b + 44), .ref (b + 45), .ref (b + 46), .ref (b + 47), .int (nI (cz m0)), .ref (b + 48), .ref (b + 49), .ref (b + 50), .ref (b + 51), .ref (b + 52), .int (nI os), .ref (b + 53), .ref (b + 54), .ref (b + 55), .int tr, .int (nI ts), .ref (b + 56), .ref (b + 57), .int (nI lg), .ref (b + 58), .ref (b + 59), .ref (b + 60), .ref (b + 61), .int (nI mm), .int sc, .ref (b + 62), .ref (b + 63), .ref (b + 64), .ref (b + 65), .ref (b + 66), .ref (b + 67), .ref (b + 68), .ref (b + 69), .ref (b + 70), .ref (b + 71), .ref (b + 72), .ref (b + 73)]) → Mx98 44 = .inl (cI, 32, .inl mow) → Mx98 45 = .inl (cI, 32, .inl mep) → Mx98 46 = .inl (cI, 32, .inl mwe) → Mx98 48 = .inl (cI, 400, .inl (va_cpy mxk mrk (400 * m0) 0 y1)) → Mx98 49 = .inl (cI, 400, .inl (va_cpy mxv mrv (400 * m0) 0 y1)) → Mx98 50 = .inl (cZ, 400, .inl (va_cpy mxw mwa (400 * m0) 0 y1)) → Mx98 51 = .inl (cI, 100, .inl (va_cpy mxc mct (100 * m0) 0 100)) → Mx98 52 = .inl (cJ, 100, .inr (.inl (va_cpy mxs msu (100 * m0) 0 100))) → Mx98 56 = .inl (cI, 40, .inl mtk) → Mx98 57 = .inl (cI, 40, .inl mtt) → Mx98 62 = .inl (cI, 3, .inl mxr) → Mx98 63 = .inl (cI, 1200, .inl mxk) → Mx98 64 = .inl (cI, 1200, .inl mxv) → Mx98 65 = .inl (cZ, 1200, .inl mxw) → Mx98 66 = .inl (cI, 300, .inl mxc) → Mx98 67 = .inl (cJ, 300, .inr (.inl mxs)) → Mx98 68 = .inl (cI, 3, .inl mxt) → Mx98 69 = .inl (cI, 3, .inl mxn) → Mx98 70 = .inl (cI, 120, .inl mxa) → Mx98 71 = .inl (cI, 120, .inl mxb) → Mx98 72 = .inl (cI, 32, .inl mpl) → ∀ (ls : Array Slot) (H : Heap) (locs : List Loc), lv_has ls 4 [(3, .int (nI y1)), (0, .ref (b + 43)), (1, .int x), (2, .int tn)] → kW D b Mx98 n s.heap H locs → W p l e ({ frames := 1, cells := 0, slots := 0, locals := 25 } : Room) s m ([.ref (b + 43), .int x, .int tn] : List Value).toArray below meth c H locs 0 0 Q (F0 m 98 ls []) := by
                intro N98
                induction N98 with
                | zero => intro y1 Mx98 hm98 hy1_ hFF h43 h44 h45 h46 h48 h49 h50 h51 h52 h56 h57 h62 h63 h64 h65 h66 h67 h68 h69 h70 h71 h72 ls H locs hl hw; omega
                | succ N98 ih98 =>
                  intro y1 Mx98 hm98 hy1_ hFF h43 h44 h45 h46 h48 h49 h50 h51 h52 h56 h57 h62 h63 h64 h65 h66 h67 h68 h69 h70 h71 h72 ls H locs hl hw
                  refine lv_iload_n C.1 C.2.1 dX9_restore_98 rfl (lv_at hl 0 rfl) ?_
                  refine lv_aload_n C.1 C.2.1 dX9_restore_99 rfl (lv_at hl 1 rfl) ?_
                  refine k_get C hw 43 (by omega) h43 rfl inlX9 8 (by decide) q_159 rfl dX9_restore_100 ?_
                  refine lv_icmp_ge (tgt := 166) C.1 C.2.1 dX9_restore_103 (by decide) (fun c103 => ?_) (fun c103 => ?_)
                  · have q103 := (nI_leI (by omega) (by omega)).mp c103
                    have q103 : y1 = cz m0 := by omega
                    rw [q103] at h48 h49 h50
                    refine lv_aload_n C.1 C.2.1 dX9_restore_166 rfl (lv_at hl 1 rfl) ?_
                    refine lv_aload_n C.1 C.2.1 dX9_restore_167 rfl (lv_at hl 1 rfl) ?_
                    refine k_get C hw 43 (by omega) h43 rfl inlX9 36 (by decide) q_149 rfl dX9_restore_168 ?_
                    refine lv_iload_n C.1 C.2.1 dX9_restore_171 rfl (lv_at hl 2 rfl) ?_
                    refine k_topi (y := nI m0) (em0) ?_
                    refine k_iald C hw 69 (by omega) h69 (by omega) (by first | decide | omega) dX9_restore_172 ?_
                    refine k_topi (y := nI (nz m0)) ((hxn _ hm0).1) ?_
                    refine k_put (tf := .int) C hw 43 (by omega) h43 rfl inlX9 tyX9 tyX9_ok nmX9 19 (by decide) q_162 rfl (by decide +kernel) rfl rfl (Nat.le_of_ble_eq_true rfl) dX9_restore_173 (fun M_3 H locs hw h43 hF => ?_)
                    have h43 : M_3 43 = .inr (9, [.int (nI G), .int (nI mo), .int (nI ta), .int sl, .ref (b + 44), .ref (b + 45), .ref (b + 46), .ref (b + 47), .int (nI (cz m0)), .ref (b + 48), .ref (b + 49), .ref (b + 50), .ref (b + 51), .ref (b + 52), .int (nI os), .ref (b + 53), .ref (b + 54), .ref (b + 55), .int tr, .int (nI (nz m0)), .ref (b + 56), .ref (b + 57), .int (nI lg), .ref (b + 58), .ref (b + 59), .ref (b + 60), .ref (b + 61), .int (nI mm), .int sc, .ref (b + 62), .ref (b + 63), .ref (b + 64), .ref (b + 65), .ref (b + 66), .ref (b + 67), .ref (b + 68), .ref (b + 69), .ref (b + 70), .ref (b + 71), .ref (b + 72), .ref (b + 73)]) := h43
                    have h44 := (hF 44 (by decide)).trans h44
                    have h45 := (hF 45 (by decide)).trans h45
                    have h46 := (hF 46 (by decide)).trans h46
                    have h48 := (hF 48 (by decide)).trans h48
                    have h49 := (hF 49 (by decide)).trans h49
                    have h50 := (hF 50 (by decide)).trans h50
                    have h51 := (hF 51 (by decide)).trans h51
                    have h52 := (hF 52 (by decide)).trans h52
                    have h56 := (hF 56 (by decide)).trans h56
                    have h57 := (hF 57 (by decide)).trans h57
                    have h62 := (hF 62 (by decide)).trans h62
                    have h63 := (hF 63 (by decide)).trans h63
                    have h64 := (hF 64 (by decide)).trans h64
                    have h65 := (hF 65 (by decide)).trans h65
                    have h66 := (hF 66 (by decide)).trans h66
                    have h67 := (hF 67 (by decide)).trans h67
                    have h68 := (hF 68 (by decide)).trans h68
                    have h69 := (hF 69 (by decide)).trans h69
                    have h70 := (hF 70 (by decide)).trans h70
                    have h71 := (hF 71 (by decide)).trans h71
                    have h72 := (hF 72 (by decide)).trans h72
                    have hFF := kF_st hFF hF (by first | decide | simp)
                    refine lv_iconst (v := nI 0) C.1 C.2.1 dX9_restore_176 (by decide) ?_
                    rw [← cpy0 (f := mxa) (g := mtk) (s := 40 * m0) (d := 0)] at h56
                    rw [← cpy0 (f := mxb) (g := mtt) (s := 40 * m0) (d := 0)] at h57
                    refine lv_istore_n (lv' := [(3, .int (nI 0)), (0, .ref (b + 43)), (1, .int x), (2, .int tn)]) C.1 C.2.1 dX9_restore_177 rfl hl (by decide) rfl (fun ls hl => ?_)
                    have L178 : ∀ (N178 : Nat) (y2 : Nat) (Mx178 : Nat → va_E), (nz m0 - y2 < N178) → (y2 ≤ nz m0) → kF [43, 51, 52, 48, 49, 50, 56, 57, 44, 45, 46, 72] M Mx178 → Mx178 43 = .inr (9, [.int (nI G), .int (nI mo), .int (nI ta), .int sl, .ref (b + 44), .ref (b + 45), .ref (b + 46), .ref (b + 47), .int (nI (cz m0)), .ref (b + 48), .ref (b + 49), .ref (b + 50), .ref (b + 51), .ref (b + 52), .int (nI os), .ref (b + 53), .ref (b + 54), .ref (b + 55), .int tr, .int (nI (nz m0)), .ref (b + 56), .ref (b + 57), .int (nI lg), .ref (b + 58), .ref (b + 59), .ref (b + 60), .ref (b + 61), .int (nI mm), .int sc, .ref (b + 62), .ref (b + 63), .ref (b + 64), .ref (b + 65), .ref (b + 66), .ref (b + 67), .ref (b + 68), .ref (b + 69), .ref (b + 70), .ref (b + 71), .ref (b + 72), .ref (b + 73)]) → Mx178 44 = .inl (cI, 32, .inl mow) → Mx178 45 = .inl (cI, 32, .inl mep) → Mx178 46 = .inl (cI, 32, .inl mwe) → Mx178 48 = .inl (cI, 400, .inl (va_cpy mxk mrk (400 * m0) 0 (cz m0))) → Mx178 49 = .inl (cI, 400, .inl (va_cpy mxv mrv (400 * m0) 0 (cz m0))) → Mx178 50 = .inl (cZ, 400, .inl (va_cpy mxw mwa (400 * m0) 0 (cz m0))) → Mx178 51 = .inl (cI, 100, .inl (va_cpy mxc mct (100 * m0) 0 100)) → Mx178 52 = .inl (cJ, 100, .inr (.inl (va_cpy mxs msu (100 * m0) 0 100))) → Mx178 56 = .inl (cI, 40, .inl (va_cpy mxa mtk (40 * m0) 0 y2)) → Mx178 57 = .inl (cI, 40, .inl (va_cpy mxb mtt (40 * m0) 0 y2)) → Mx178 62 = .inl (cI, 3, .inl mxr) → Mx178 63 = .inl (cI, 1200, .inl mxk) → Mx178 64 = .inl (cI, 1200, .inl mxv) → Mx178 65 = .inl (cZ, 1200, .inl mxw) → Mx178 66 = .inl (cI, 300, .inl mxc) → Mx178 67 = .inl (cJ, 300, .inr (.inl mxs)) → Mx178 68 = .inl (cI, 3, .inl mxt) → Mx178 69 = .inl (cI, 3, .inl mxn) → Mx178 70 = .inl (cI, 120, .inl mxa) → Mx178 71 = .inl (cI, 120, .inl mxb) → Mx178 72 = .inl (cI, 32, .inl mpl) → ∀ (ls : Array Slot) (H : Heap) (locs : List Loc), lv_has ls 4 [(3, .int (nI y2)), (0, .ref (b + 43)), (1, .int x), (2, .int tn)] → kW D b Mx178 n s.heap H locs → W p l e ({ frames := 1, cells := 0, slots := 0, locals := 25 } : Room) s m ([.ref (b + 43), .int x, .int tn] : List Value).toArray below meth c H locs 0 0 Q (F0 m 178 ls []) := by
                      intro N178
                      induction N178 with
                      | zero => intro y2 Mx178 hm178 hy2_ hFF h43 h44 h45 h46 h48 h49 h50 h51 h52 h56 h57 h62 h63 h64 h65 h66 h67 h68 h69 h70 h71 h72 ls H locs hl hw; omega
                      | succ N178 ih178 =>
                        intro y2 Mx178 hm178 hy2_ hFF h43 h44 h45 h46 h48 h49 h50 h51 h52 h56 h57 h62 h63 h64 h65 h66 h67 h68 h69 h70 h71 h72 ls H locs hl hw
                        refine lv_iload_n C.1 C.2.1 dX9_restore_178 rfl (lv_at hl 0 rfl) ?_
                        refine lv_aload_n C.1 C.2.1 dX9_restore_179 rfl (lv_at hl 1 rfl) ?_
                        refine k_get C hw 43 (by omega) h43 rfl inlX9 19 (by decide) q_162 rfl dX9_restore_180 ?_
                        refine lv_icmp_ge (tgt := 226) C.1 C.2.1 dX9_restore_183 (by decide) (fun c183 => ?_) (fun c183 => ?_)
                        · have q183 := (nI_leI (by omega) (by omega)).mp c183
                          have q183 : y2 = nz m0 := by omega
                          rw [q183] at h56 h57
                          refine lv_aload_n C.1 C.2.1 dX9_restore_226 rfl (lv_at hl 1 rfl) ?_
                          refine lv_aload_n C.1 C.2.1 dX9_restore_227 rfl (lv_at hl 1 rfl) ?_
                          refine k_get C hw 43 (by omega) h43 rfl inlX9 35 (by decide) q_148 rfl dX9_restore_228 ?_
                          refine lv_iload_n C.1 C.2.1 dX9_restore_231 rfl (lv_at hl 2 rfl) ?_
                          refine k_topi (y := nI m0) (em0) ?_
                          refine k_iald C hw 68 (by omega) h68 (by omega) (by first | decide | omega) dX9_restore_232 ?_
                          refine k_put (tf := .int) C hw 43 (by omega) h43 rfl inlX9 tyX9 tyX9_ok nmX9 18 (by decide) q_161 rfl (by decide +kernel) rfl rfl (Nat.le_of_ble_eq_true rfl) dX9_restore_233 (fun M_4 H locs hw h43 hF => ?_)
                          have h43 : M_4 43 = .inr (9, [.int (nI G), .int (nI mo), .int (nI ta), .int sl, .ref (b + 44), .ref (b + 45), .ref (b + 46), .ref (b + 47), .int (nI (cz m0)), .ref (b + 48), .ref (b + 49), .ref (b + 50), .ref (b + 51), .ref (b + 52), .int (nI os), .ref (b + 53), .ref (b + 54), .ref (b + 55), .int (mxt (m0)), .int (nI (nz m0)), .ref (b + 56), .ref (b + 57), .int (nI lg), .ref (b + 58), .ref (b + 59), .ref (b + 60), .ref (b + 61), .int (nI mm), .int sc, .ref (b + 62), .ref (b + 63), .ref (b + 64), .ref (b + 65), .ref (b + 66), .ref (b + 67), .ref (b + 68), .ref (b + 69), .ref (b + 70), .ref (b + 71), .ref (b + 72), .ref (b + 73)]) := h43
                          have h44 := (hF 44 (by decide)).trans h44
                          have h45 := (hF 45 (by decide)).trans h45
                          have h46 := (hF 46 (by decide)).trans h46
                          have h48 := (hF 48 (by decide)).trans h48
                          have h49 := (hF 49 (by decide)).trans h49
                          have h50 := (hF 50 (by decide)).trans h50
                          have h51 := (hF 51 (by decide)).trans h51
                          have h52 := (hF 52 (by decide)).trans h52
                          have h56 := (hF 56 (by decide)).trans h56
                          have h57 := (hF 57 (by decide)).trans h57
                          have h62 := (hF 62 (by decide)).trans h62
                          have h63 := (hF 63 (by decide)).trans h63
                          have h64 := (hF 64 (by decide)).trans h64
                          have h65 := (hF 65 (by decide)).trans h65
                          have h66 := (hF 66 (by decide)).trans h66
                          have h67 := (hF 67 (by decide)).trans h67
                          have h68 := (hF 68 (by decide)).trans h68
                          have h69 := (hF 69 (by decide)).trans h69
                          have h70 := (hF 70 (by decide)).trans h70
                          have h71 := (hF 71 (by decide)).trans h71
                          have h72 := (hF 72 (by decide)).trans h72
                          have hFF := kF_st hFF hF (by first | decide | simp)
                          refine lv_aload_n C.1 C.2.1 dX9_restore_236 rfl (lv_at hl 1 rfl) ?_
                          refine lv_iload_n C.1 C.2.1 dX9_restore_237 rfl (lv_at hl 3 rfl) ?_
                          refine k_topi (y := nI m1) (em) ?_
                          refine k_vv C hw 43 (by omega) h43 rfl (c_X9_planEven (by omega) h43 h72  (hG) (hm0_) (by omega)) kv_X9_192 rfl hl.1 ⟨Nat.le_of_ble_eq_true rfl, Nat.le_of_ble_eq_true rfl⟩ (Nat.le_of_ble_eq_true rfl) ⟨Nat.le_of_ble_eq_true rfl, Nat.le_of_ble_eq_true rfl⟩ dX9_restore_238 (fun M_5 n9 H locs hp hw => ?_)
                          obtain ⟨en9, hF, h72⟩ := hp
                          have en9 : n9 = n := en9
                          rw [en9] at hw
                          have h43 := (hF 43 (by decide)).trans h43
                          have h44 := (hF 44 (by decide)).trans h44
                          have h45 := (hF 45 (by decide)).trans h45
                          have h46 := (hF 46 (by decide)).trans h46
                          have h48 := (hF 48 (by decide)).trans h48
                          have h49 := (hF 49 (by decide)).trans h49
                          have h50 := (hF 50 (by decide)).trans h50
                          have h51 := (hF 51 (by decide)).trans h51
                          have h52 := (hF 52 (by decide)).trans h52
                          have h56 := (hF 56 (by decide)).trans h56
                          have h57 := (hF 57 (by decide)).trans h57
                          have h62 := (hF 62 (by decide)).trans h62
                          have h63 := (hF 63 (by decide)).trans h63
                          have h64 := (hF 64 (by decide)).trans h64
                          have h65 := (hF 65 (by decide)).trans h65
                          have h66 := (hF 66 (by decide)).trans h66
                          have h67 := (hF 67 (by decide)).trans h67
                          have h68 := (hF 68 (by decide)).trans h68
                          have h69 := (hF 69 (by decide)).trans h69
                          have h70 := (hF 70 (by decide)).trans h70
                          have h71 := (hF 71 (by decide)).trans h71
                          have hFF := kF_st hFF hF (by first | decide | simp)
                          refine lv_iconst (v := nI 0) C.1 C.2.1 dX9_restore_241 (by decide) ?_
                          refine lv_istore_n (lv' := [(3, .int (nI 0)), (0, .ref (b + 43)), (1, .int x), (2, .int tn)]) C.1 C.2.1 dX9_restore_242 rfl hl (by decide) rfl (fun ls hl => ?_)
                          have L243 : ∀ (N243 : Nat) (y3 : Nat) (Mx243 : Nat → va_E), (G - y3 < N243) → (y3 ≤ G) → kF [43, 51, 52, 48, 49, 50, 56, 57, 44, 45, 46, 72] M Mx243 → Mx243 43 = .inr (9, [.int (nI G), .int (nI mo), .int (nI ta), .int sl, .ref (b + 44), .ref (b + 45), .ref (b + 46), .ref (b + 47), .int (nI (cz m0)), .ref (b + 48), .ref (b + 49), .ref (b + 50), .ref (b + 51), .ref (b + 52), .int (nI os), .ref (b + 53), .ref (b + 54), .ref (b + 55), .int (mxt (m0)), .int (nI (nz m0)), .ref (b + 56), .ref (b + 57), .int (nI lg), .ref (b + 58), .ref (b + 59), .ref (b + 60), .ref (b + 61), .int (nI mm), .int sc, .ref (b + 62), .ref (b + 63), .ref (b + 64), .ref (b + 65), .ref (b + 66), .ref (b + 67), .ref (b + 68), .ref (b + 69), .ref (b + 70), .ref (b + 71), .ref (b + 72), .ref (b + 73)]) → Mx243 44 = .inl (cI, 32, .inl (pfx (lay mpl (evF G m1) m1) mow y3)) → Mx243 45 = .inl (cI, 32, .inl (pfx (fun g => mep g + nI 1) mep y3)) → Mx243 46 = .inl (cI, 32, .inl (pfx (fun _ => nI 0) mwe y3)) → Mx243 48 = .inl (cI, 400, .inl (va_cpy mxk mrk (400 * m0) 0 (cz m0))) → Mx243 49 = .inl (cI, 400, .inl (va_cpy mxv mrv (400 * m0) 0 (cz m0))) → Mx243 50 = .inl (cZ, 400, .inl (va_cpy mxw mwa (400 * m0) 0 (cz m0))) → Mx243 51 = .inl (cI, 100, .inl (va_cpy mxc mct (100 * m0) 0 100)) → Mx243 52 = .inl (cJ, 100, .inr (.inl (va_cpy mxs msu (100 * m0) 0 100))) → Mx243 56 = .inl (cI, 40, .inl (va_cpy mxa mtk (40 * m0) 0 (nz m0))) → Mx243 57 = .inl (cI, 40, .inl (va_cpy mxb mtt (40 * m0) 0 (nz m0))) → Mx243 62 = .inl (cI, 3, .inl mxr) → Mx243 63 = .inl (cI, 1200, .inl mxk) → Mx243 64 = .inl (cI, 1200, .inl mxv) → Mx243 65 = .inl (cZ, 1200, .inl mxw) → Mx243 66 = .inl (cI, 300, .inl mxc) → Mx243 67 = .inl (cJ, 300, .inr (.inl mxs)) → Mx243 68 = .inl (cI, 3, .inl mxt) → Mx243 69 = .inl (cI, 3, .inl mxn) → Mx243 70 = .inl (cI, 120, .inl mxa) → Mx243 71 = .inl (cI, 120, .inl mxb) → Mx243 72 = .inl (cI, 32, .inl (lay mpl (evF G m1) m1)) → ∀ (ls : Array Slot) (H : Heap) (locs : List Loc), lv_has ls 4 [(3, .int (nI y3)), (0, .ref (b + 43)), (1, .int x), (2, .int tn)] → kW D b Mx243 n s.heap H locs → W p l e ({ frames := 1, cells := 0, slots := 0, locals := 25 } : Room) s m ([.ref (b + 43), .int x, .int tn] : List Value).toArray below meth c H locs 0 0 Q (F0 m 243 ls []) := by
                            intro N243
                            induction N243 with
                            | zero => intro y3 Mx243 hm243 hy3_ hFF h43 h44 h45 h46 h48 h49 h50 h51 h52 h56 h57 h62 h63 h64 h65 h66 h67 h68 h69 h70 h71 h72 ls H locs hl hw; omega
                            | succ N243 ih243 =>
                              intro y3 Mx243 hm243 hy3_ hFF h43 h44 h45 h46 h48 h49 h50 h51 h52 h56 h57 h62 h63 h64 h65 h66 h67 h68 h69 h70 h71 h72 ls H locs hl hw
                              refine lv_iload_n C.1 C.2.1 dX9_restore_243 rfl (lv_at hl 0 rfl) ?_
                              refine lv_aload_n C.1 C.2.1 dX9_restore_244 rfl (lv_at hl 1 rfl) ?_
                              refine k_get C hw 43 (by omega) h43 rfl inlX9 0 (by decide) q_170 rfl dX9_restore_245 ?_
                              refine lv_icmp_ge (tgt := 286) C.1 C.2.1 dX9_restore_248 (by decide) (fun c248 => ?_) (fun c248 => ?_)
                              · have q248 := (nI_leI (by omega) (by omega)).mp c248
                                have q248 : y3 = G := by omega
                                rw [q248] at h44 h45 h46
                                refine lv_aload_n C.1 C.2.1 dX9_restore_286 rfl (lv_at hl 1 rfl) ?_
                                refine lv_iload_n C.1 C.2.1 dX9_restore_287 rfl (lv_at hl 3 rfl) ?_
                                refine k_topi (y := nI m1) (em) ?_
                                refine k_put (tf := .int) C hw 43 (by omega) h43 rfl inlX9 tyX9 tyX9_ok nmX9 2 (by decide) q_172 rfl (by decide +kernel) rfl rfl (Nat.le_of_ble_eq_true rfl) dX9_restore_288 (fun M_6 H locs hw h43 hF => ?_)
                                have h43 : M_6 43 = .inr (9, [.int (nI G), .int (nI mo), .int (nI m1), .int sl, .ref (b + 44), .ref (b + 45), .ref (b + 46), .ref (b + 47), .int (nI (cz m0)), .ref (b + 48), .ref (b + 49), .ref (b + 50), .ref (b + 51), .ref (b + 52), .int (nI os), .ref (b + 53), .ref (b + 54), .ref (b + 55), .int (mxt (m0)), .int (nI (nz m0)), .ref (b + 56), .ref (b + 57), .int (nI lg), .ref (b + 58), .ref (b + 59), .ref (b + 60), .ref (b + 61), .int (nI mm), .int sc, .ref (b + 62), .ref (b + 63), .ref (b + 64), .ref (b + 65), .ref (b + 66), .ref (b + 67), .ref (b + 68), .ref (b + 69), .ref (b + 70), .ref (b + 71), .ref (b + 72), .ref (b + 73)]) := h43
                                have h44 := (hF 44 (by decide)).trans h44
                                have h45 := (hF 45 (by decide)).trans h45
                                have h46 := (hF 46 (by decide)).trans h46
                                have h48 := (hF 48 (by decide)).trans h48
                                have h49 := (hF 49 (by decide)).trans h49
                                have h50 := (hF 50 (by decide)).trans h50
                                have h51 := (hF 51 (by decide)).trans h51
                                have h52 := (hF 52 (by decide)).trans h52
                                have h56 := (hF 56 (by decide)).trans h56
                                have h57 := (hF 57 (by decide)).trans h57
                                have h62 := (hF 62 (by decide)).trans h62
                                have h63 := (hF 63 (by decide)).trans h63
                                have h64 := (hF 64 (by decide)).trans h64
                                have h65 := (hF 65 (by decide)).trans h65
                                have h66 := (hF 66 (by decide)).trans h66
                                have h67 := (hF 67 (by decide)).trans h67
                                have h68 := (hF 68 (by decide)).trans h68
                                have h69 := (hF 69 (by decide)).trans h69
                                have h70 := (hF 70 (by decide)).trans h70
                                have h71 := (hF 71 (by decide)).trans h71
                                have h72 := (hF 72 (by decide)).trans h72
                                have hFF := kF_st hFF hF (by first | decide | simp)
                                refine lv_aload_n C.1 C.2.1 dX9_restore_291 rfl (lv_at hl 1 rfl) ?_
                                refine lv_iconst (v := nI 0) C.1 C.2.1 dX9_restore_292 (by decide) ?_
                                refine k_put (tf := .int) C hw 43 (by omega) h43 rfl inlX9 tyX9 tyX9_ok nmX9 14 (by decide) q_160 rfl (by decide +kernel) rfl rfl (Nat.le_of_ble_eq_true rfl) dX9_restore_293 (fun M_7 H locs hw h43 hF => ?_)
                                have h43 : M_7 43 = .inr (9, [.int (nI G), .int (nI mo), .int (nI m1), .int sl, .ref (b + 44), .ref (b + 45), .ref (b + 46), .ref (b + 47), .int (nI (cz m0)), .ref (b + 48), .ref (b + 49), .ref (b + 50), .ref (b + 51), .ref (b + 52), .int (nI 0), .ref (b + 53), .ref (b + 54), .ref (b + 55), .int (mxt (m0)), .int (nI (nz m0)), .ref (b + 56), .ref (b + 57), .int (nI lg), .ref (b + 58), .ref (b + 59), .ref (b + 60), .ref (b + 61), .int (nI mm), .int sc, .ref (b + 62), .ref (b + 63), .ref (b + 64), .ref (b + 65), .ref (b + 66), .ref (b + 67), .ref (b + 68), .ref (b + 69), .ref (b + 70), .ref (b + 71), .ref (b + 72), .ref (b + 73)]) := h43
                                have h44 := (hF 44 (by decide)).trans h44
                                have h45 := (hF 45 (by decide)).trans h45
                                have h46 := (hF 46 (by decide)).trans h46
                                have h48 := (hF 48 (by decide)).trans h48
                                have h49 := (hF 49 (by decide)).trans h49
                                have h50 := (hF 50 (by decide)).trans h50
                                have h51 := (hF 51 (by decide)).trans h51
                                have h52 := (hF 52 (by decide)).trans h52
                                have h56 := (hF 56 (by decide)).trans h56
                                have h57 := (hF 57 (by decide)).trans h57
                                have h62 := (hF 62 (by decide)).trans h62
                                have h63 := (hF 63 (by decide)).trans h63
                                have h64 := (hF 64 (by decide)).trans h64
                                have h65 := (hF 65 (by decide)).trans h65
                                have h66 := (hF 66 (by decide)).trans h66
                                have h67 := (hF 67 (by decide)).trans h67
                                have h68 := (hF 68 (by decide)).trans h68
                                have h69 := (hF 69 (by decide)).trans h69
                                have h70 := (hF 70 (by decide)).trans h70
                                have h71 := (hF 71 (by decide)).trans h71
                                have h72 := (hF 72 (by decide)).trans h72
                                have hFF := kF_st hFF hF (by first | decide | simp)
                                refine lv_aload_n C.1 C.2.1 dX9_restore_296 rfl (lv_at hl 1 rfl) ?_
                                refine lv_iconst (v := nI 0) C.1 C.2.1 dX9_restore_297 (by decide) ?_
                                refine k_put (tf := .int) C hw 43 (by omega) h43 rfl inlX9 tyX9 tyX9_ok nmX9 22 (by decide) q_163 rfl (by decide +kernel) rfl rfl (Nat.le_of_ble_eq_true rfl) dX9_restore_298 (fun M_8 H locs hw h43 hF => ?_)
                                have h43 : M_8 43 = .inr (9, [.int (nI G), .int (nI mo), .int (nI m1), .int sl, .ref (b + 44), .ref (b + 45), .ref (b + 46), .ref (b + 47), .int (nI (cz m0)), .ref (b + 48), .ref (b + 49), .ref (b + 50), .ref (b + 51), .ref (b + 52), .int (nI 0), .ref (b + 53), .ref (b + 54), .ref (b + 55), .int (mxt (m0)), .int (nI (nz m0)), .ref (b + 56), .ref (b + 57), .int (nI 0), .ref (b + 58), .ref (b + 59), .ref (b + 60), .ref (b + 61), .int (nI mm), .int sc, .ref (b + 62), .ref (b + 63), .ref (b + 64), .ref (b + 65), .ref (b + 66), .ref (b + 67), .ref (b + 68), .ref (b + 69), .ref (b + 70), .ref (b + 71), .ref (b + 72), .ref (b + 73)]) := h43
                                have h44 := (hF 44 (by decide)).trans h44
                                have h45 := (hF 45 (by decide)).trans h45
                                have h46 := (hF 46 (by decide)).trans h46
                                have h48 := (hF 48 (by decide)).trans h48
                                have h49 := (hF 49 (by decide)).trans h49
                                have h50 := (hF 50 (by decide)).trans h50
                                have h51 := (hF 51 (by decide)).trans h51
                                have h52 := (hF 52 (by decide)).trans h52
                                have h56 := (hF 56 (by decide)).trans h56
                                have h57 := (hF 57 (by decide)).trans h57
                                have h62 := (hF 62 (by decide)).trans h62
                                have h63 := (hF 63 (by decide)).trans h63
                                have h64 := (hF 64 (by decide)).trans h64
                                have h65 := (hF 65 (by decide)).trans h65
                                have h66 := (hF 66 (by decide)).trans h66
                                have h67 := (hF 67 (by decide)).trans h67
                                have h68 := (hF 68 (by decide)).trans h68
                                have h69 := (hF 69 (by decide)).trans h69
                                have h70 := (hF 70 (by decide)).trans h70
                                have h71 := (hF 71 (by decide)).trans h71
                                have h72 := (hF 72 (by decide)).trans h72
                                have hFF := kF_st hFF hF (by first | decide | simp)
                                refine lv_aload_n C.1 C.2.1 dX9_restore_301 rfl (lv_at hl 1 rfl) ?_
                                refine k_vi C hw 43 (by omega) h43 rfl (c_X9_waiting (by omega) h43 h50  (hcz)) kv_X9_224 rfl hl.1 ⟨Nat.le_of_ble_eq_true rfl, Nat.le_of_ble_eq_true rfl⟩ (Nat.le_of_ble_eq_true rfl) ⟨Nat.le_of_ble_eq_true rfl, Nat.le_of_ble_eq_true rfl⟩ dX9_restore_302 (fun r302 M_9 n9 H locs hp hw => ?_)
                                obtain ⟨er302, en9, eM9⟩ := hp
                                have en9 : n9 = n := en9
                                rw [en9] at hw
                                have eM9 : M_9 = M_8 := eM9
                                rw [eM9] at hw
                                rw [← ekm, ← ekn] at h43
                                rw [← ekn] at h44 h72
                                rw [← ekm] at h51 h52 h48 h49 h50 h56 h57 er302
                                exact hret _ _ (Nat.le_of_ble_eq_true rfl) (Nat.le_of_ble_eq_true rfl) hw (⟨rfl, Or.inr (Or.inr (Or.inr (⟨⟨h13_, Int32.not_lt.mpr c21, Int32.not_lt.mpr c32⟩, er302, hFF, h43, h51, h52, h48, h49, h50, h56, h57, h44, h45, h46, h72⟩)))⟩) dX9_restore_305
                              · have q248 : ¬ G ≤ y3 := fun z => c248 ((nI_leI (by omega) (by omega)).mpr z)
                                refine lv_aload_n C.1 C.2.1 dX9_restore_251 rfl (lv_at hl 1 rfl) ?_
                                refine k_get C hw 43 (by omega) h43 rfl inlX9 4 (by decide) q_123 rfl dX9_restore_252 ?_
                                refine lv_iload_n C.1 C.2.1 dX9_restore_255 rfl (lv_at hl 0 rfl) ?_
                                refine lv_aload_n C.1 C.2.1 dX9_restore_256 rfl (lv_at hl 1 rfl) ?_
                                refine k_get C hw 43 (by omega) h43 rfl inlX9 39 (by decide) q_152 rfl dX9_restore_257 ?_
                                refine lv_iload_n C.1 C.2.1 dX9_restore_260 rfl (lv_at hl 0 rfl) ?_
                                refine k_iald C hw 72 (by omega) h72 (by omega) (by first | decide | omega) dX9_restore_261 ?_
                                refine k_iast C hw 44 (by omega) h44 (by omega) (by first | decide | omega) dX9_restore_262 (fun M_10 H locs hw h44 hF => ?_)
                                have h43 := (hF 43 (by decide)).trans h43
                                have h45 := (hF 45 (by decide)).trans h45
                                have h46 := (hF 46 (by decide)).trans h46
                                have h48 := (hF 48 (by decide)).trans h48
                                have h49 := (hF 49 (by decide)).trans h49
                                have h50 := (hF 50 (by decide)).trans h50
                                have h51 := (hF 51 (by decide)).trans h51
                                have h52 := (hF 52 (by decide)).trans h52
                                have h56 := (hF 56 (by decide)).trans h56
                                have h57 := (hF 57 (by decide)).trans h57
                                have h62 := (hF 62 (by decide)).trans h62
                                have h63 := (hF 63 (by decide)).trans h63
                                have h64 := (hF 64 (by decide)).trans h64
                                have h65 := (hF 65 (by decide)).trans h65
                                have h66 := (hF 66 (by decide)).trans h66
                                have h67 := (hF 67 (by decide)).trans h67
                                have h68 := (hF 68 (by decide)).trans h68
                                have h69 := (hF 69 (by decide)).trans h69
                                have h70 := (hF 70 (by decide)).trans h70
                                have h71 := (hF 71 (by decide)).trans h71
                                have h72 := (hF 72 (by decide)).trans h72
                                have hFF := kF_st hFF hF (by first | decide | simp)
                                rw [pfx_s rfl] at h44
                                refine lv_aload_n C.1 C.2.1 dX9_restore_263 rfl (lv_at hl 1 rfl) ?_
                                refine k_get C hw 43 (by omega) h43 rfl inlX9 5 (by decide) q_124 rfl dX9_restore_264 ?_
                                refine lv_iload_n C.1 C.2.1 dX9_restore_267 rfl (lv_at hl 0 rfl) ?_
                                refine lv_dup2_11 C.1 C.2.1 dX9_restore_268 rfl rfl ?_
                                refine k_iald C hw 45 (by omega) h45 (by omega) (by first | decide | omega) dX9_restore_269 ?_
                                refine lv_iconst (v := nI 1) C.1 C.2.1 dX9_restore_270 (by decide) ?_
                                refine lv_iadd C.1 C.2.1 dX9_restore_271 ?_
                                refine k_iast C hw 45 (by omega) h45 (by omega) (by first | decide | omega) dX9_restore_272 (fun M_11 H locs hw h45 hF => ?_)
                                have h43 := (hF 43 (by decide)).trans h43
                                have h44 := (hF 44 (by decide)).trans h44
                                have h46 := (hF 46 (by decide)).trans h46
                                have h48 := (hF 48 (by decide)).trans h48
                                have h49 := (hF 49 (by decide)).trans h49
                                have h50 := (hF 50 (by decide)).trans h50
                                have h51 := (hF 51 (by decide)).trans h51
                                have h52 := (hF 52 (by decide)).trans h52
                                have h56 := (hF 56 (by decide)).trans h56
                                have h57 := (hF 57 (by decide)).trans h57
                                have h62 := (hF 62 (by decide)).trans h62
                                have h63 := (hF 63 (by decide)).trans h63
                                have h64 := (hF 64 (by decide)).trans h64
                                have h65 := (hF 65 (by decide)).trans h65
                                have h66 := (hF 66 (by decide)).trans h66
                                have h67 := (hF 67 (by decide)).trans h67
                                have h68 := (hF 68 (by decide)).trans h68
                                have h69 := (hF 69 (by decide)).trans h69
                                have h70 := (hF 70 (by decide)).trans h70
                                have h71 := (hF 71 (by decide)).trans h71
                                have h72 := (hF 72 (by decide)).trans h72
                                have hFF := kF_st hFF hF (by first | decide | simp)
                                rw [pfx_s (by rw [pfx_at])] at h45
                                refine lv_aload_n C.1 C.2.1 dX9_restore_273 rfl (lv_at hl 1 rfl) ?_
                                refine k_get C hw 43 (by omega) h43 rfl inlX9 6 (by decide) q_125 rfl dX9_restore_274 ?_
                                refine lv_iload_n C.1 C.2.1 dX9_restore_277 rfl (lv_at hl 0 rfl) ?_
                                refine lv_iconst (v := nI 0) C.1 C.2.1 dX9_restore_278 (by decide) ?_
                                refine k_iast C hw 46 (by omega) h46 (by omega) (by first | decide | omega) dX9_restore_279 (fun M_12 H locs hw h46 hF => ?_)
                                have h43 := (hF 43 (by decide)).trans h43
                                have h44 := (hF 44 (by decide)).trans h44
                                have h45 := (hF 45 (by decide)).trans h45
                                have h48 := (hF 48 (by decide)).trans h48
                                have h49 := (hF 49 (by decide)).trans h49
                                have h50 := (hF 50 (by decide)).trans h50
                                have h51 := (hF 51 (by decide)).trans h51
                                have h52 := (hF 52 (by decide)).trans h52
                                have h56 := (hF 56 (by decide)).trans h56
                                have h57 := (hF 57 (by decide)).trans h57
                                have h62 := (hF 62 (by decide)).trans h62
                                have h63 := (hF 63 (by decide)).trans h63
                                have h64 := (hF 64 (by decide)).trans h64
                                have h65 := (hF 65 (by decide)).trans h65
                                have h66 := (hF 66 (by decide)).trans h66
                                have h67 := (hF 67 (by decide)).trans h67
                                have h68 := (hF 68 (by decide)).trans h68
                                have h69 := (hF 69 (by decide)).trans h69
                                have h70 := (hF 70 (by decide)).trans h70
                                have h71 := (hF 71 (by decide)).trans h71
                                have h72 := (hF 72 (by decide)).trans h72
                                have hFF := kF_st hFF hF (by first | decide | simp)
                                rw [pfx_s rfl] at h46
                                refine lv_iinc (v := (nI (y3 + 1))) (lv' := [(3, .int (nI (y3 + 1))), (0, .ref (b + 43)), (1, .int x), (2, .int tn)]) C.1 C.2.1 dX9_restore_280 hl (k := 0) rfl (k_inc _ 1) (by decide) rfl (fun ls hl => ?_)
                                refine lv_goto (tgt := 243) C.1 C.2.1 dX9_restore_283 (by decide) ?_
                                exact ih243  (y3 + 1) M_12 (by omega) (by omega) hFF h43 h44 h45 h46 h48 h49 h50 h51 h52 h56 h57 h62 h63 h64 h65 h66 h67 h68 h69 h70 h71 h72  ls _ _ (lv_sub hl [0, 1, 2, 3] rfl) hw
                          exact L243 (_ + 1) (0) M_5 (Nat.lt_succ_self _) (Nat.zero_le _) hFF h43 h44 h45 h46 h48 h49 h50 h51 h52 h56 h57 h62 h63 h64 h65 h66 h67 h68 h69 h70 h71 h72  ls _ _ (lv_sub hl [0, 1, 2, 3] rfl) hw
                        · have q183 : ¬ nz m0 ≤ y2 := fun z => c183 ((nI_leI (by omega) (by omega)).mpr z)
                          refine lv_aload_n C.1 C.2.1 dX9_restore_186 rfl (lv_at hl 1 rfl) ?_
                          refine k_get C hw 43 (by omega) h43 rfl inlX9 20 (by decide) q_136 rfl dX9_restore_187 ?_
                          refine lv_iload_n C.1 C.2.1 dX9_restore_190 rfl (lv_at hl 0 rfl) ?_
                          refine lv_aload_n C.1 C.2.1 dX9_restore_191 rfl (lv_at hl 1 rfl) ?_
                          refine k_get C hw 43 (by omega) h43 rfl inlX9 37 (by decide) q_150 rfl dX9_restore_192 ?_
                          refine lv_bipush (v := nI 40) C.1 C.2.1 dX9_restore_195 (by decide) ?_
                          refine lv_iload_n C.1 C.2.1 dX9_restore_197 rfl (lv_at hl 2 rfl) ?_
                          refine k_topi (y := nI m0) (em0) ?_
                          refine lv_imul C.1 C.2.1 dX9_restore_198 ?_
                          refine k_topi (y := nI (40 * m0)) (pk_mul _ _) ?_
                          refine lv_iload_n C.1 C.2.1 dX9_restore_199 rfl (lv_at hl 0 rfl) ?_
                          refine lv_iadd C.1 C.2.1 dX9_restore_200 ?_
                          refine k_topi (y := nI (40 * m0 + y2)) (nI_add _ _) ?_
                          refine k_iald C hw 70 (by omega) h70 (by omega) (by first | decide | omega) dX9_restore_201 ?_
                          refine k_iast C hw 56 (by omega) h56 (by omega) (by first | decide | omega) dX9_restore_202 (fun M_13 H locs hw h56 hF => ?_)
                          have h43 := (hF 43 (by decide)).trans h43
                          have h44 := (hF 44 (by decide)).trans h44
                          have h45 := (hF 45 (by decide)).trans h45
                          have h46 := (hF 46 (by decide)).trans h46
                          have h48 := (hF 48 (by decide)).trans h48
                          have h49 := (hF 49 (by decide)).trans h49
                          have h50 := (hF 50 (by decide)).trans h50
                          have h51 := (hF 51 (by decide)).trans h51
                          have h52 := (hF 52 (by decide)).trans h52
                          have h57 := (hF 57 (by decide)).trans h57
                          have h62 := (hF 62 (by decide)).trans h62
                          have h63 := (hF 63 (by decide)).trans h63
                          have h64 := (hF 64 (by decide)).trans h64
                          have h65 := (hF 65 (by decide)).trans h65
                          have h66 := (hF 66 (by decide)).trans h66
                          have h67 := (hF 67 (by decide)).trans h67
                          have h68 := (hF 68 (by decide)).trans h68
                          have h69 := (hF 69 (by decide)).trans h69
                          have h70 := (hF 70 (by decide)).trans h70
                          have h71 := (hF 71 (by decide)).trans h71
                          have h72 := (hF 72 (by decide)).trans h72
                          have hFF := kF_st hFF hF (by first | decide | simp)
                          rw [cpyS] at h56
                          refine lv_aload_n C.1 C.2.1 dX9_restore_203 rfl (lv_at hl 1 rfl) ?_
                          refine k_get C hw 43 (by omega) h43 rfl inlX9 21 (by decide) q_137 rfl dX9_restore_204 ?_
                          refine lv_iload_n C.1 C.2.1 dX9_restore_207 rfl (lv_at hl 0 rfl) ?_
                          refine lv_aload_n C.1 C.2.1 dX9_restore_208 rfl (lv_at hl 1 rfl) ?_
                          refine k_get C hw 43 (by omega) h43 rfl inlX9 38 (by decide) q_151 rfl dX9_restore_209 ?_
                          refine lv_bipush (v := nI 40) C.1 C.2.1 dX9_restore_212 (by decide) ?_
                          refine lv_iload_n C.1 C.2.1 dX9_restore_214 rfl (lv_at hl 2 rfl) ?_
                          refine k_topi (y := nI m0) (em0) ?_
                          refine lv_imul C.1 C.2.1 dX9_restore_215 ?_
                          refine k_topi (y := nI (40 * m0)) (pk_mul _ _) ?_
                          refine lv_iload_n C.1 C.2.1 dX9_restore_216 rfl (lv_at hl 0 rfl) ?_
                          refine lv_iadd C.1 C.2.1 dX9_restore_217 ?_
                          refine k_topi (y := nI (40 * m0 + y2)) (nI_add _ _) ?_
                          refine k_iald C hw 71 (by omega) h71 (by omega) (by first | decide | omega) dX9_restore_218 ?_
                          refine k_iast C hw 57 (by omega) h57 (by omega) (by first | decide | omega) dX9_restore_219 (fun M_14 H locs hw h57 hF => ?_)
                          have h43 := (hF 43 (by decide)).trans h43
                          have h44 := (hF 44 (by decide)).trans h44
                          have h45 := (hF 45 (by decide)).trans h45
                          have h46 := (hF 46 (by decide)).trans h46
                          have h48 := (hF 48 (by decide)).trans h48
                          have h49 := (hF 49 (by decide)).trans h49
                          have h50 := (hF 50 (by decide)).trans h50
                          have h51 := (hF 51 (by decide)).trans h51
                          have h52 := (hF 52 (by decide)).trans h52
                          have h56 := (hF 56 (by decide)).trans h56
                          have h62 := (hF 62 (by decide)).trans h62
                          have h63 := (hF 63 (by decide)).trans h63
                          have h64 := (hF 64 (by decide)).trans h64
                          have h65 := (hF 65 (by decide)).trans h65
                          have h66 := (hF 66 (by decide)).trans h66
                          have h67 := (hF 67 (by decide)).trans h67
                          have h68 := (hF 68 (by decide)).trans h68
                          have h69 := (hF 69 (by decide)).trans h69
                          have h70 := (hF 70 (by decide)).trans h70
                          have h71 := (hF 71 (by decide)).trans h71
                          have h72 := (hF 72 (by decide)).trans h72
                          have hFF := kF_st hFF hF (by first | decide | simp)
                          rw [cpyS] at h57
                          refine lv_iinc (v := (nI (y2 + 1))) (lv' := [(3, .int (nI (y2 + 1))), (0, .ref (b + 43)), (1, .int x), (2, .int tn)]) C.1 C.2.1 dX9_restore_220 hl (k := 0) rfl (k_inc _ 1) (by decide) rfl (fun ls hl => ?_)
                          refine lv_goto (tgt := 178) C.1 C.2.1 dX9_restore_223 (by decide) ?_
                          exact ih178  (y2 + 1) M_14 (by omega) (by omega) hFF h43 h44 h45 h46 h48 h49 h50 h51 h52 h56 h57 h62 h63 h64 h65 h66 h67 h68 h69 h70 h71 h72  ls _ _ (lv_sub hl [0, 1, 2, 3] rfl) hw
                    exact L178 (_ + 1) (0) M_3 (Nat.lt_succ_self _) (Nat.zero_le _) hFF h43 h44 h45 h46 h48 h49 h50 h51 h52 h56 h57 h62 h63 h64 h65 h66 h67 h68 h69 h70 h71 h72  ls _ _ (lv_sub hl [0, 1, 2, 3] rfl) hw
                  · have q103 : ¬ cz m0 ≤ y1 := fun z => c103 ((nI_leI (by omega) (by omega)).mpr z)
                    refine lv_aload_n C.1 C.2.1 dX9_restore_106 rfl (lv_at hl 1 rfl) ?_
                    refine k_get C hw 43 (by omega) h43 rfl inlX9 9 (by decide) q_128 rfl dX9_restore_107 ?_
                    refine lv_iload_n C.1 C.2.1 dX9_restore_110 rfl (lv_at hl 0 rfl) ?_
                    refine lv_aload_n C.1 C.2.1 dX9_restore_111 rfl (lv_at hl 1 rfl) ?_
                    refine k_get C hw 43 (by omega) h43 rfl inlX9 30 (by decide) q_143 rfl dX9_restore_112 ?_
                    refine lv_sipush (v := nI 400) C.1 C.2.1 dX9_restore_115 (by decide) ?_
                    refine lv_iload_n C.1 C.2.1 dX9_restore_118 rfl (lv_at hl 2 rfl) ?_
                    refine k_topi (y := nI m0) (em0) ?_
                    refine lv_imul C.1 C.2.1 dX9_restore_119 ?_
                    refine k_topi (y := nI (400 * m0)) (pk_mul _ _) ?_
                    refine lv_iload_n C.1 C.2.1 dX9_restore_120 rfl (lv_at hl 0 rfl) ?_
                    refine lv_iadd C.1 C.2.1 dX9_restore_121 ?_
                    refine k_topi (y := nI (400 * m0 + y1)) (nI_add _ _) ?_
                    refine k_iald C hw 63 (by omega) h63 (by omega) (by first | decide | omega) dX9_restore_122 ?_
                    refine k_iast C hw 48 (by omega) h48 (by omega) (by first | decide | omega) dX9_restore_123 (fun M_15 H locs hw h48 hF => ?_)
                    have h43 := (hF 43 (by decide)).trans h43
                    have h44 := (hF 44 (by decide)).trans h44
                    have h45 := (hF 45 (by decide)).trans h45
                    have h46 := (hF 46 (by decide)).trans h46
                    have h49 := (hF 49 (by decide)).trans h49
                    have h50 := (hF 50 (by decide)).trans h50
                    have h51 := (hF 51 (by decide)).trans h51
                    have h52 := (hF 52 (by decide)).trans h52
                    have h56 := (hF 56 (by decide)).trans h56
                    have h57 := (hF 57 (by decide)).trans h57
                    have h62 := (hF 62 (by decide)).trans h62
                    have h63 := (hF 63 (by decide)).trans h63
                    have h64 := (hF 64 (by decide)).trans h64
                    have h65 := (hF 65 (by decide)).trans h65
                    have h66 := (hF 66 (by decide)).trans h66
                    have h67 := (hF 67 (by decide)).trans h67
                    have h68 := (hF 68 (by decide)).trans h68
                    have h69 := (hF 69 (by decide)).trans h69
                    have h70 := (hF 70 (by decide)).trans h70
                    have h71 := (hF 71 (by decide)).trans h71
                    have h72 := (hF 72 (by decide)).trans h72
                    have hFF := kF_st hFF hF (by first | decide | simp)
                    rw [cpyS] at h48
                    refine lv_aload_n C.1 C.2.1 dX9_restore_124 rfl (lv_at hl 1 rfl) ?_
                    refine k_get C hw 43 (by omega) h43 rfl inlX9 10 (by decide) q_129 rfl dX9_restore_125 ?_
                    refine lv_iload_n C.1 C.2.1 dX9_restore_128 rfl (lv_at hl 0 rfl) ?_
                    refine lv_aload_n C.1 C.2.1 dX9_restore_129 rfl (lv_at hl 1 rfl) ?_
                    refine k_get C hw 43 (by omega) h43 rfl inlX9 31 (by decide) q_144 rfl dX9_restore_130 ?_
                    refine lv_sipush (v := nI 400) C.1 C.2.1 dX9_restore_133 (by decide) ?_
                    refine lv_iload_n C.1 C.2.1 dX9_restore_136 rfl (lv_at hl 2 rfl) ?_
                    refine k_topi (y := nI m0) (em0) ?_
                    refine lv_imul C.1 C.2.1 dX9_restore_137 ?_
                    refine k_topi (y := nI (400 * m0)) (pk_mul _ _) ?_
                    refine lv_iload_n C.1 C.2.1 dX9_restore_138 rfl (lv_at hl 0 rfl) ?_
                    refine lv_iadd C.1 C.2.1 dX9_restore_139 ?_
                    refine k_topi (y := nI (400 * m0 + y1)) (nI_add _ _) ?_
                    refine k_iald C hw 64 (by omega) h64 (by omega) (by first | decide | omega) dX9_restore_140 ?_
                    refine k_iast C hw 49 (by omega) h49 (by omega) (by first | decide | omega) dX9_restore_141 (fun M_16 H locs hw h49 hF => ?_)
                    have h43 := (hF 43 (by decide)).trans h43
                    have h44 := (hF 44 (by decide)).trans h44
                    have h45 := (hF 45 (by decide)).trans h45
                    have h46 := (hF 46 (by decide)).trans h46
                    have h48 := (hF 48 (by decide)).trans h48
                    have h50 := (hF 50 (by decide)).trans h50
                    have h51 := (hF 51 (by decide)).trans h51
                    have h52 := (hF 52 (by decide)).trans h52
                    have h56 := (hF 56 (by decide)).trans h56
                    have h57 := (hF 57 (by decide)).trans h57
                    have h62 := (hF 62 (by decide)).trans h62
                    have h63 := (hF 63 (by decide)).trans h63
                    have h64 := (hF 64 (by decide)).trans h64
                    have h65 := (hF 65 (by decide)).trans h65
                    have h66 := (hF 66 (by decide)).trans h66
                    have h67 := (hF 67 (by decide)).trans h67
                    have h68 := (hF 68 (by decide)).trans h68
                    have h69 := (hF 69 (by decide)).trans h69
                    have h70 := (hF 70 (by decide)).trans h70
                    have h71 := (hF 71 (by decide)).trans h71
                    have h72 := (hF 72 (by decide)).trans h72
                    have hFF := kF_st hFF hF (by first | decide | simp)
                    rw [cpyS] at h49
                    refine lv_aload_n C.1 C.2.1 dX9_restore_142 rfl (lv_at hl 1 rfl) ?_
                    refine k_get C hw 43 (by omega) h43 rfl inlX9 11 (by decide) q_130 rfl dX9_restore_143 ?_
                    refine lv_iload_n C.1 C.2.1 dX9_restore_146 rfl (lv_at hl 0 rfl) ?_
                    refine lv_aload_n C.1 C.2.1 dX9_restore_147 rfl (lv_at hl 1 rfl) ?_
                    refine k_get C hw 43 (by omega) h43 rfl inlX9 32 (by decide) q_145 rfl dX9_restore_148 ?_
                    refine lv_sipush (v := nI 400) C.1 C.2.1 dX9_restore_151 (by decide) ?_
                    refine lv_iload_n C.1 C.2.1 dX9_restore_154 rfl (lv_at hl 2 rfl) ?_
                    refine k_topi (y := nI m0) (em0) ?_
                    refine lv_imul C.1 C.2.1 dX9_restore_155 ?_
                    refine k_topi (y := nI (400 * m0)) (pk_mul _ _) ?_
                    refine lv_iload_n C.1 C.2.1 dX9_restore_156 rfl (lv_at hl 0 rfl) ?_
                    refine lv_iadd C.1 C.2.1 dX9_restore_157 ?_
                    refine k_topi (y := nI (400 * m0 + y1)) (nI_add _ _) ?_
                    refine k_zald C hw 65 (by omega) h65 (by omega) (by first | decide | omega) dX9_restore_158 ?_
                    refine k_zast C hw 50 (by omega) h50 (hxw _ hm0 _ (by omega)) (by omega) (by first | decide | omega) dX9_restore_159 (fun M_17 H locs hw h50 hF => ?_)
                    have h43 := (hF 43 (by decide)).trans h43
                    have h44 := (hF 44 (by decide)).trans h44
                    have h45 := (hF 45 (by decide)).trans h45
                    have h46 := (hF 46 (by decide)).trans h46
                    have h48 := (hF 48 (by decide)).trans h48
                    have h49 := (hF 49 (by decide)).trans h49
                    have h51 := (hF 51 (by decide)).trans h51
                    have h52 := (hF 52 (by decide)).trans h52
                    have h56 := (hF 56 (by decide)).trans h56
                    have h57 := (hF 57 (by decide)).trans h57
                    have h62 := (hF 62 (by decide)).trans h62
                    have h63 := (hF 63 (by decide)).trans h63
                    have h64 := (hF 64 (by decide)).trans h64
                    have h65 := (hF 65 (by decide)).trans h65
                    have h66 := (hF 66 (by decide)).trans h66
                    have h67 := (hF 67 (by decide)).trans h67
                    have h68 := (hF 68 (by decide)).trans h68
                    have h69 := (hF 69 (by decide)).trans h69
                    have h70 := (hF 70 (by decide)).trans h70
                    have h71 := (hF 71 (by decide)).trans h71
                    have h72 := (hF 72 (by decide)).trans h72
                    have hFF := kF_st hFF hF (by first | decide | simp)
                    rw [cpyS] at h50
                    refine lv_iinc (v := (nI (y1 + 1))) (lv' := [(3, .int (nI (y1 + 1))), (0, .ref (b + 43)), (1, .int x), (2, .int tn)]) C.1 C.2.1 dX9_restore_160 hl (k := 0) rfl (k_inc _ 1) (by decide) rfl (fun ls hl => ?_)
                    refine lv_goto (tgt := 98) C.1 C.2.1 dX9_restore_163 (by decide) ?_
                    exact ih98  (y1 + 1) M_17 (by omega) (by omega) hFF h43 h44 h45 h46 h48 h49 h50 h51 h52 h56 h57 h62 h63 h64 h65 h66 h67 h68 h69 h70 h71 h72  ls _ _ (lv_sub hl [0, 1, 2, 3] rfl) hw
              exact L98 (_ + 1) (0) M_2 (Nat.lt_succ_self _) (Nat.zero_le _) hFF h43 h44 h45 h46 h48 h49 h50 h51 h52 h56 h57 h62 h63 h64 h65 h66 h67 h68 h69 h70 h71 h72  ls _ _ (lv_sub hl [0, 1, 2, 3] rfl) hw
            · have q43 : ¬ 100 ≤ y0 := fun z => c43 ((nI_leI (by omega) (by omega)).mpr z)
              refine lv_aload_n C.1 C.2.1 dX9_restore_46 rfl (lv_at hl 1 rfl) ?_
              refine k_get C hw 43 (by omega) h43 rfl inlX9 12 (by decide) q_131 rfl dX9_restore_47 ?_
              refine lv_iload_n C.1 C.2.1 dX9_restore_50 rfl (lv_at hl 0 rfl) ?_
              refine lv_aload_n C.1 C.2.1 dX9_restore_51 rfl (lv_at hl 1 rfl) ?_
              refine k_get C hw 43 (by omega) h43 rfl inlX9 33 (by decide) q_146 rfl dX9_restore_52 ?_
              refine lv_bipush (v := nI 100) C.1 C.2.1 dX9_restore_55 (by decide) ?_
              refine lv_iload_n C.1 C.2.1 dX9_restore_57 rfl (lv_at hl 2 rfl) ?_
              refine k_topi (y := nI m0) (em0) ?_
              refine lv_imul C.1 C.2.1 dX9_restore_58 ?_
              refine k_topi (y := nI (100 * m0)) (pk_mul _ _) ?_
              refine lv_iload_n C.1 C.2.1 dX9_restore_59 rfl (lv_at hl 0 rfl) ?_
              refine lv_iadd C.1 C.2.1 dX9_restore_60 ?_
              refine k_topi (y := nI (100 * m0 + y0)) (nI_add _ _) ?_
              refine k_iald C hw 66 (by omega) h66 (by omega) (by first | decide | omega) dX9_restore_61 ?_
              refine k_iast C hw 51 (by omega) h51 (by omega) (by first | decide | omega) dX9_restore_62 (fun M_18 H locs hw h51 hF => ?_)
              have h43 := (hF 43 (by decide)).trans h43
              have h44 := (hF 44 (by decide)).trans h44
              have h45 := (hF 45 (by decide)).trans h45
              have h46 := (hF 46 (by decide)).trans h46
              have h48 := (hF 48 (by decide)).trans h48
              have h49 := (hF 49 (by decide)).trans h49
              have h50 := (hF 50 (by decide)).trans h50
              have h52 := (hF 52 (by decide)).trans h52
              have h56 := (hF 56 (by decide)).trans h56
              have h57 := (hF 57 (by decide)).trans h57
              have h62 := (hF 62 (by decide)).trans h62
              have h63 := (hF 63 (by decide)).trans h63
              have h64 := (hF 64 (by decide)).trans h64
              have h65 := (hF 65 (by decide)).trans h65
              have h66 := (hF 66 (by decide)).trans h66
              have h67 := (hF 67 (by decide)).trans h67
              have h68 := (hF 68 (by decide)).trans h68
              have h69 := (hF 69 (by decide)).trans h69
              have h70 := (hF 70 (by decide)).trans h70
              have h71 := (hF 71 (by decide)).trans h71
              have h72 := (hF 72 (by decide)).trans h72
              have hFF := kF_st hFF hF (by first | decide | simp)
              rw [cpyS] at h51
              refine lv_aload_n C.1 C.2.1 dX9_restore_63 rfl (lv_at hl 1 rfl) ?_
              refine k_get C hw 43 (by omega) h43 rfl inlX9 13 (by decide) q_132 rfl dX9_restore_64 ?_
              refine lv_iload_n C.1 C.2.1 dX9_restore_67 rfl (lv_at hl 0 rfl) ?_
              refine lv_aload_n C.1 C.2.1 dX9_restore_68 rfl (lv_at hl 1 rfl) ?_
              refine k_get C hw 43 (by omega) h43 rfl inlX9 34 (by decide) q_147 rfl dX9_restore_69 ?_
              refine lv_bipush (v := nI 100) C.1 C.2.1 dX9_restore_72 (by decide) ?_
              refine lv_iload_n C.1 C.2.1 dX9_restore_74 rfl (lv_at hl 2 rfl) ?_
              refine k_topi (y := nI m0) (em0) ?_
              refine lv_imul C.1 C.2.1 dX9_restore_75 ?_
              refine k_topi (y := nI (100 * m0)) (pk_mul _ _) ?_
              refine lv_iload_n C.1 C.2.1 dX9_restore_76 rfl (lv_at hl 0 rfl) ?_
              refine lv_iadd C.1 C.2.1 dX9_restore_77 ?_
              refine k_topi (y := nI (100 * m0 + y0)) (nI_add _ _) ?_
              refine k_lald C hw 67 (by omega) h67 (by omega) (by first | decide | omega) dX9_restore_78 ?_
              refine k_last C hw 52 (by omega) h52 (by omega) (by first | decide | omega) dX9_restore_79 (fun M_19 H locs hw h52 hF => ?_)
              have h43 := (hF 43 (by decide)).trans h43
              have h44 := (hF 44 (by decide)).trans h44
              have h45 := (hF 45 (by decide)).trans h45
              have h46 := (hF 46 (by decide)).trans h46
              have h48 := (hF 48 (by decide)).trans h48
              have h49 := (hF 49 (by decide)).trans h49
              have h50 := (hF 50 (by decide)).trans h50
              have h51 := (hF 51 (by decide)).trans h51
              have h56 := (hF 56 (by decide)).trans h56
              have h57 := (hF 57 (by decide)).trans h57
              have h62 := (hF 62 (by decide)).trans h62
              have h63 := (hF 63 (by decide)).trans h63
              have h64 := (hF 64 (by decide)).trans h64
              have h65 := (hF 65 (by decide)).trans h65
              have h66 := (hF 66 (by decide)).trans h66
              have h67 := (hF 67 (by decide)).trans h67
              have h68 := (hF 68 (by decide)).trans h68
              have h69 := (hF 69 (by decide)).trans h69
              have h70 := (hF 70 (by decide)).trans h70
              have h71 := (hF 71 (by decide)).trans h71
              have h72 := (hF 72 (by decide)).trans h72
              have hFF := kF_st hFF hF (by first | decide | simp)
              rw [cpySL] at h52
              refine lv_iinc (v := (nI (y0 + 1))) (lv' := [(3, .int (nI (y0 + 1))), (0, .ref (b + 43)), (1, .int x), (2, .int tn)]) C.1 C.2.1 dX9_restore_80 hl (k := 0) rfl (k_inc _ 1) (by decide) rfl (fun ls hl => ?_)
              refine lv_goto (tgt := 40) C.1 C.2.1 dX9_restore_83 (by decide) ?_
              exact ih40  (y0 + 1) M_19 (by omega) (by omega) hFF h43 h44 h45 h46 h48 h49 h50 h51 h52 h56 h57 h62 h63 h64 h65 h66 h67 h68 h69 h70 h71 h72  ls _ _ (lv_sub hl [0, 1, 2, 3] rfl) hw
        exact L40 (_ + 1) (0) M (Nat.lt_succ_self _) (Nat.zero_le _) hFF h43 h44 h45 h46 h48 h49 h50 h51 h52 h56 h57 h62 h63 h64 h65 h66 h67 h68 h69 h70 h71 h72  ls _ _ (lv_sub hl [0, 1, 2, 3] rfl) hw
      · refine lv_bipush (v := (-105)) C.1 C.2.1 dX9_restore_35 (by decide) ?_
        exact hret _ _ (Nat.le_of_ble_eq_true rfl) (Nat.le_of_ble_eq_true rfl) hw (⟨rfl, Or.inr (Or.inr (Or.inl ⟨⟨h13_, Int32.not_lt.mpr c21, Int32.not_le.mp c32⟩, rfl, rfl⟩))⟩) dX9_restore_37
    · refine lv_bipush (v := (-102)) C.1 C.2.1 dX9_restore_24 (by decide) ?_
      exact hret _ _ (Nat.le_of_ble_eq_true rfl) (Nat.le_of_ble_eq_true rfl) hw (⟨rfl, Or.inr (Or.inl ⟨⟨h13_, Int32.not_le.mp c21⟩, rfl, rfl⟩)⟩) dX9_restore_26
  · have h13_ : ¬ (isT x mm) := fun z => by rw [er10, if_pos ((inT' (by omega)).mpr z)] at c13; exact absurd c13 (by decide)
    refine lv_bipush (v := (-101)) C.1 C.2.1 dX9_restore_16 (by decide) ?_
    exact hret _ _ (Nat.le_of_ble_eq_true rfl) (Nat.le_of_ble_eq_true rfl) hw (⟨rfl, Or.inl ⟨h13_, rfl, rfl⟩⟩) dX9_restore_18

set_option maxHeartbeats 4000000 in
set_option maxRecDepth 100000 in
theorem c_X9_init {l : Launch} {D : va_G} {cI cJ cZ cH cR : ClassId} {b : Nat} {M : Nat → va_E}     (h43 : M 43 = .inr (9, [.int 0, .int 0, .int 0, .int 0, .null, .null, .null, .null, .int 0, .null, .null, .null, .null, .null, .int 0, .null, .null, .null, .int 0, .int 0, .null, .null, .int 0, .null, .null, .null, .null, .int 0, .int 0, .null, .null, .null, .null, .null, .null, .null, .null, .null, .null, .null, .null]))   : Met l yX9_init (kw yX9_init cX9_init 1 none) ({ frames := 2, cells := 30, slots := 7846, locals := 44 }) (va_Pc [.ref (b + 43)] (kPre D (kT cI cJ cZ cH cR) b M 44)) (va_Qv (fun (u : (Nat → va_E) × Nat) => u.2 = 74 ∧ kF [43, 44, 45, 46, 47, 48, 49, 50, 51, 52, 53, 54, 55, 56, 57, 58, 59, 60, 61, 62, 63, 64, 65, 66, 67, 68, 69, 70, 71, 72, 73] M u.1 ∧ u.1 43 = .inr (9, [.int (nI 8), .int (nI 4), .int (nI 1), .int (nI 20), .ref (b + 44), .ref (b + 45), .ref (b + 46), .ref (b + 47), .int (nI 0), .ref (b + 48), .ref (b + 49), .ref (b + 50), .ref (b + 51), .ref (b + 52), .int (nI 0), .ref (b + 53), .ref (b + 54), .ref (b + 55), .int (nI 0), .int (nI 0), .ref (b + 56), .ref (b + 57), .int (nI 0), .ref (b + 58), .ref (b + 59), .ref (b + 60), .ref (b + 61), .int (nI 0), .int (nI 0), .ref (b + 62), .ref (b + 63), .ref (b + 64), .ref (b + 65), .ref (b + 66), .ref (b + 67), .ref (b + 68), .ref (b + 69), .ref (b + 70), .ref (b + 71), .ref (b + 72), .ref (b + 73)]) ∧ u.1 44 = .inl (cI, 32, .inl (fun _ => 0)) ∧ u.1 45 = .inl (cI, 32, .inl (fun _ => 1)) ∧ u.1 46 = .inl (cI, 32, .inl (fun _ => 0)) ∧ u.1 47 = .inl (cZ, 32, .inl (fun _ => 0)) ∧ u.1 48 = .inl (cI, 400, .inl (fun _ => 0)) ∧ u.1 49 = .inl (cI, 400, .inl (fun _ => 0)) ∧ u.1 50 = .inl (cZ, 400, .inl (fun _ => 0)) ∧ u.1 51 = .inl (cI, 100, .inl (fun _ => 0)) ∧ u.1 52 = .inl (cJ, 100, .inr (.inl (fun _ => 0))) ∧ u.1 53 = .inl (cI, 400, .inl (fun _ => 0)) ∧ u.1 54 = .inl (cI, 400, .inl (fun _ => 0)) ∧ u.1 55 = .inl (cJ, 400, .inr (.inl (fun _ => 0))) ∧ u.1 56 = .inl (cI, 40, .inl (fun _ => 0)) ∧ u.1 57 = .inl (cI, 40, .inl (fun _ => 0)) ∧ u.1 58 = .inl (cI, 32, .inl (fun _ => 0)) ∧ u.1 59 = .inl (cI, 32, .inl (fun _ => 0)) ∧ u.1 60 = .inl (cI, 32, .inl (fun _ => 0)) ∧ u.1 61 = .inl (cJ, 32, .inr (.inl (fun _ => 0))) ∧ u.1 62 = .inl (cI, 3, .inl (fun _ => 0)) ∧ u.1 63 = .inl (cI, 1200, .inl (fun _ => 0)) ∧ u.1 64 = .inl (cI, 1200, .inl (fun _ => 0)) ∧ u.1 65 = .inl (cZ, 1200, .inl (fun _ => 0)) ∧ u.1 66 = .inl (cI, 300, .inl (fun _ => 0)) ∧ u.1 67 = .inl (cJ, 300, .inr (.inl (fun _ => 0))) ∧ u.1 68 = .inl (cI, 3, .inl (fun _ => 0)) ∧ u.1 69 = .inl (cI, 3, .inl (fun _ => 0)) ∧ u.1 70 = .inl (cI, 120, .inl (fun _ => 0)) ∧ u.1 71 = .inl (cI, 120, .inl (fun _ => 0)) ∧ u.1 72 = .inl (cI, 32, .inl (fun _ => 0)) ∧ u.1 73 = .inl (cJ, 429, .inr (.inl (fun _ => 0)))) (kB D (kT cI cJ cZ cH cR) b) (kA b)) 30 7846 (kA b) := by
  refine k_metV (by decide +kernel) (Nat.le_of_ble_eq_true rfl) ?_
  intro p e s m below meth c ls Q C hw hret hnm hl
  have hl : lv_has ls 1 [(0, .ref (b + 43))] := hl
  have hFF : kF [43, 44, 45, 46, 47, 48, 49, 50, 51, 52, 53, 54, 55, 56, 57, 58, 59, 60, 61, 62, 63, 64, 65, 66, 67, 68, 69, 70, 71, 72, 73] M M := kF_rf
  refine lv_aload_n C.1 C.2.1 dX9_init_0 rfl (lv_at hl 0 rfl) ?_
  refine W.objInit C.1 C.2.1 C.2.2.2.1 (C.2.2.2.2.1 _ q_122) (C.2.2.2.2.1 _ q_10) (C.2.2.2.2.1 _ q_11) rfl (by rw [C.2.2.1]; exact hl.1) rfl dX9_init_1 (Nat.le_of_ble_eq_true rfl) (Nat.le_of_ble_eq_true rfl) ?_
  refine W.eq (g2 := F0 m 4 ls []) rfl ?_
  refine lv_aload_n C.1 C.2.1 dX9_init_4 rfl (lv_at hl 0 rfl) ?_
  refine lv_bipush (v := nI 32) C.1 C.2.1 dX9_init_5 (by decide) ?_
  refine k_newI C hw q_38 32 rfl (by decide) (Nat.le_of_ble_eq_true rfl) (Nat.le_of_ble_eq_true rfl) dX9_init_7 (fun M_1 H hw h44 hF => ?_)
  have h43 := (hF 43 (by decide)).trans h43
  have hFF := kF_st hFF hF (by first | decide | simp)
  refine k_putF (tf := .array .int) C hw 43 (by decide) h43 rfl inlX9 tyX9 tyX9_ok nmX9 4 (by decide) q_123 rfl hnm rfl (by decide +kernel) rfl rfl (Nat.le_of_ble_eq_true rfl) dX9_init_9 (fun M_2 H locs hw h43 hF => ?_)
  have h43 : M_2 43 = .inr (9, [.int 0, .int 0, .int 0, .int 0, .ref (b + 44), .null, .null, .null, .int 0, .null, .null, .null, .null, .null, .int 0, .null, .null, .null, .int 0, .int 0, .null, .null, .int 0, .null, .null, .null, .null, .int 0, .int 0, .null, .null, .null, .null, .null, .null, .null, .null, .null, .null, .null, .null]) := h43
  have h44 := (hF 44 (by decide)).trans h44
  have hFF := kF_st hFF hF (by first | decide | simp)
  refine lv_aload_n C.1 C.2.1 dX9_init_12 rfl (lv_at hl 0 rfl) ?_
  refine lv_bipush (v := nI 32) C.1 C.2.1 dX9_init_13 (by decide) ?_
  refine k_newI C hw q_38 32 rfl (by decide) (Nat.le_of_ble_eq_true rfl) (Nat.le_of_ble_eq_true rfl) dX9_init_15 (fun M_3 H hw h45 hF => ?_)
  have h43 := (hF 43 (by decide)).trans h43
  have h44 := (hF 44 (by decide)).trans h44
  have hFF := kF_st hFF hF (by first | decide | simp)
  refine k_putF (tf := .array .int) C hw 43 (by decide) h43 rfl inlX9 tyX9 tyX9_ok nmX9 5 (by decide) q_124 rfl hnm rfl (by decide +kernel) rfl rfl (Nat.le_of_ble_eq_true rfl) dX9_init_17 (fun M_4 H locs hw h43 hF => ?_)
  have h43 : M_4 43 = .inr (9, [.int 0, .int 0, .int 0, .int 0, .ref (b + 44), .ref (b + 45), .null, .null, .int 0, .null, .null, .null, .null, .null, .int 0, .null, .null, .null, .int 0, .int 0, .null, .null, .int 0, .null, .null, .null, .null, .int 0, .int 0, .null, .null, .null, .null, .null, .null, .null, .null, .null, .null, .null, .null]) := h43
  have h44 := (hF 44 (by decide)).trans h44
  have h45 := (hF 45 (by decide)).trans h45
  have hFF := kF_st hFF hF (by first | decide | simp)
  refine lv_aload_n C.1 C.2.1 dX9_init_20 rfl (lv_at hl 0 rfl) ?_
  refine lv_bipush (v := nI 32) C.1 C.2.1 dX9_init_21 (by decide) ?_
  refine k_newI C hw q_38 32 rfl (by decide) (Nat.le_of_ble_eq_true rfl) (Nat.le_of_ble_eq_true rfl) dX9_init_23 (fun M_5 H hw h46 hF => ?_)
  have h43 := (hF 43 (by decide)).trans h43
  have h44 := (hF 44 (by decide)).trans h44
  have h45 := (hF 45 (by decide)).trans h45
  have hFF := kF_st hFF hF (by first | decide | simp)
  refine k_putF (tf := .array .int) C hw 43 (by decide) h43 rfl inlX9 tyX9 tyX9_ok nmX9 6 (by decide) q_125 rfl hnm rfl (by decide +kernel) rfl rfl (Nat.le_of_ble_eq_true rfl) dX9_init_25 (fun M_6 H locs hw h43 hF => ?_)
  have h43 : M_6 43 = .inr (9, [.int 0, .int 0, .int 0, .int 0, .ref (b + 44), .ref (b + 45), .ref (b + 46), .null, .int 0, .null, .null, .null, .null, .null, .int 0, .null, .null, .null, .int 0, .int 0, .null, .null, .int 0, .null, .null, .null, .null, .int 0, .int 0, .null, .null, .null, .null, .null, .null, .null, .null, .null, .null, .null, .null]) := h43
  have h44 := (hF 44 (by decide)).trans h44
  have h45 := (hF 45 (by decide)).trans h45
  have h46 := (hF 46 (by decide)).trans h46
  have hFF := kF_st hFF hF (by first | decide | simp)
  refine lv_aload_n C.1 C.2.1 dX9_init_28 rfl (lv_at hl 0 rfl) ?_
  refine lv_bipush (v := nI 32) C.1 C.2.1 dX9_init_29 (by decide) ?_
  refine k_newZ C hw q_126 32 rfl (by decide) (Nat.le_of_ble_eq_true rfl) (Nat.le_of_ble_eq_true rfl) dX9_init_31 (fun M_7 H hw h47 hF => ?_)
  have h43 := (hF 43 (by decide)).trans h43
  have h44 := (hF 44 (by decide)).trans h44
  have h45 := (hF 45 (by decide)).trans h45
  have h46 := (hF 46 (by decide)).trans h46
  have hFF := kF_st hFF hF (by first | decide | simp)
  refine k_putF (tf := .array .boolean) C hw 43 (by decide) h43 rfl inlX9 tyX9 tyX9_ok nmX9 7 (by decide) q_127 rfl hnm rfl (by decide +kernel) rfl rfl (Nat.le_of_ble_eq_true rfl) dX9_init_33 (fun M_8 H locs hw h43 hF => ?_)
  have h43 : M_8 43 = .inr (9, [.int 0, .int 0, .int 0, .int 0, .ref (b + 44), .ref (b + 45), .ref (b + 46), .ref (b + 47), .int 0, .null, .null, .null, .null, .null, .int 0, .null, .null, .null, .int 0, .int 0, .null, .null, .int 0, .null, .null, .null, .null, .int 0, .int 0, .null, .null, .null, .null, .null, .null, .null, .null, .null, .null, .null, .null]) := h43
  have h44 := (hF 44 (by decide)).trans h44
  have h45 := (hF 45 (by decide)).trans h45
  have h46 := (hF 46 (by decide)).trans h46
  have h47 := (hF 47 (by decide)).trans h47
  have hFF := kF_st hFF hF (by first | decide | simp)
  refine lv_aload_n C.1 C.2.1 dX9_init_36 rfl (lv_at hl 0 rfl) ?_
  refine lv_sipush (v := nI 400) C.1 C.2.1 dX9_init_37 (by decide) ?_
  refine k_newI C hw q_38 400 rfl (by decide) (Nat.le_of_ble_eq_true rfl) (Nat.le_of_ble_eq_true rfl) dX9_init_40 (fun M_9 H hw h48 hF => ?_)
  have h43 := (hF 43 (by decide)).trans h43
  have h44 := (hF 44 (by decide)).trans h44
  have h45 := (hF 45 (by decide)).trans h45
  have h46 := (hF 46 (by decide)).trans h46
  have h47 := (hF 47 (by decide)).trans h47
  have hFF := kF_st hFF hF (by first | decide | simp)
  refine k_putF (tf := .array .int) C hw 43 (by decide) h43 rfl inlX9 tyX9 tyX9_ok nmX9 9 (by decide) q_128 rfl hnm rfl (by decide +kernel) rfl rfl (Nat.le_of_ble_eq_true rfl) dX9_init_42 (fun M_10 H locs hw h43 hF => ?_)
  have h43 : M_10 43 = .inr (9, [.int 0, .int 0, .int 0, .int 0, .ref (b + 44), .ref (b + 45), .ref (b + 46), .ref (b + 47), .int 0, .ref (b + 48), .null, .null, .null, .null, .int 0, .null, .null, .null, .int 0, .int 0, .null, .null, .int 0, .null, .null, .null, .null, .int 0, .int 0, .null, .null, .null, .null, .null, .null, .null, .null, .null, .null, .null, .null]) := h43
  have h44 := (hF 44 (by decide)).trans h44
  have h45 := (hF 45 (by decide)).trans h45
  have h46 := (hF 46 (by decide)).trans h46
  have h47 := (hF 47 (by decide)).trans h47
  have h48 := (hF 48 (by decide)).trans h48
  have hFF := kF_st hFF hF (by first | decide | simp)
  refine lv_aload_n C.1 C.2.1 dX9_init_45 rfl (lv_at hl 0 rfl) ?_
  refine lv_sipush (v := nI 400) C.1 C.2.1 dX9_init_46 (by decide) ?_
  refine k_newI C hw q_38 400 rfl (by decide) (Nat.le_of_ble_eq_true rfl) (Nat.le_of_ble_eq_true rfl) dX9_init_49 (fun M_11 H hw h49 hF => ?_)
  have h43 := (hF 43 (by decide)).trans h43
  have h44 := (hF 44 (by decide)).trans h44
  have h45 := (hF 45 (by decide)).trans h45
  have h46 := (hF 46 (by decide)).trans h46
  have h47 := (hF 47 (by decide)).trans h47
  have h48 := (hF 48 (by decide)).trans h48
  have hFF := kF_st hFF hF (by first | decide | simp)
  refine k_putF (tf := .array .int) C hw 43 (by decide) h43 rfl inlX9 tyX9 tyX9_ok nmX9 10 (by decide) q_129 rfl hnm rfl (by decide +kernel) rfl rfl (Nat.le_of_ble_eq_true rfl) dX9_init_51 (fun M_12 H locs hw h43 hF => ?_)
  have h43 : M_12 43 = .inr (9, [.int 0, .int 0, .int 0, .int 0, .ref (b + 44), .ref (b + 45), .ref (b + 46), .ref (b + 47), .int 0, .ref (b + 48), .ref (b + 49), .null, .null, .null, .int 0, .null, .null, .null, .int 0, .int 0, .null, .null, .int 0, .null, .null, .null, .null, .int 0, .int 0, .null, .null, .null, .null, .null, .null, .null, .null, .null, .null, .null, .null]) := h43
  have h44 := (hF 44 (by decide)).trans h44
  have h45 := (hF 45 (by decide)).trans h45
  have h46 := (hF 46 (by decide)).trans h46
  have h47 := (hF 47 (by decide)).trans h47
  have h48 := (hF 48 (by decide)).trans h48
  have h49 := (hF 49 (by decide)).trans h49
  have hFF := kF_st hFF hF (by first | decide | simp)
  refine lv_aload_n C.1 C.2.1 dX9_init_54 rfl (lv_at hl 0 rfl) ?_
  refine lv_sipush (v := nI 400) C.1 C.2.1 dX9_init_55 (by decide) ?_
  refine k_newZ C hw q_126 400 rfl (by decide) (Nat.le_of_ble_eq_true rfl) (Nat.le_of_ble_eq_true rfl) dX9_init_58 (fun M_13 H hw h50 hF => ?_)
  have h43 := (hF 43 (by decide)).trans h43
  have h44 := (hF 44 (by decide)).trans h44
  have h45 := (hF 45 (by decide)).trans h45
  have h46 := (hF 46 (by decide)).trans h46
  have h47 := (hF 47 (by decide)).trans h47
  have h48 := (hF 48 (by decide)).trans h48
  have h49 := (hF 49 (by decide)).trans h49
  have hFF := kF_st hFF hF (by first | decide | simp)
  refine k_putF (tf := .array .boolean) C hw 43 (by decide) h43 rfl inlX9 tyX9 tyX9_ok nmX9 11 (by decide) q_130 rfl hnm rfl (by decide +kernel) rfl rfl (Nat.le_of_ble_eq_true rfl) dX9_init_60 (fun M_14 H locs hw h43 hF => ?_)
  have h43 : M_14 43 = .inr (9, [.int 0, .int 0, .int 0, .int 0, .ref (b + 44), .ref (b + 45), .ref (b + 46), .ref (b + 47), .int 0, .ref (b + 48), .ref (b + 49), .ref (b + 50), .null, .null, .int 0, .null, .null, .null, .int 0, .int 0, .null, .null, .int 0, .null, .null, .null, .null, .int 0, .int 0, .null, .null, .null, .null, .null, .null, .null, .null, .null, .null, .null, .null]) := h43
  have h44 := (hF 44 (by decide)).trans h44
  have h45 := (hF 45 (by decide)).trans h45
  have h46 := (hF 46 (by decide)).trans h46
  have h47 := (hF 47 (by decide)).trans h47
  have h48 := (hF 48 (by decide)).trans h48
  have h49 := (hF 49 (by decide)).trans h49
  have h50 := (hF 50 (by decide)).trans h50
  have hFF := kF_st hFF hF (by first | decide | simp)
  refine lv_aload_n C.1 C.2.1 dX9_init_63 rfl (lv_at hl 0 rfl) ?_
  refine lv_bipush (v := nI 100) C.1 C.2.1 dX9_init_64 (by decide) ?_
  refine k_newI C hw q_38 100 rfl (by decide) (Nat.le_of_ble_eq_true rfl) (Nat.le_of_ble_eq_true rfl) dX9_init_66 (fun M_15 H hw h51 hF => ?_)
  have h43 := (hF 43 (by decide)).trans h43
  have h44 := (hF 44 (by decide)).trans h44
  have h45 := (hF 45 (by decide)).trans h45
  have h46 := (hF 46 (by decide)).trans h46
  have h47 := (hF 47 (by decide)).trans h47
  have h48 := (hF 48 (by decide)).trans h48
  have h49 := (hF 49 (by decide)).trans h49
  have h50 := (hF 50 (by decide)).trans h50
  have hFF := kF_st hFF hF (by first | decide | simp)
  refine k_putF (tf := .array .int) C hw 43 (by decide) h43 rfl inlX9 tyX9 tyX9_ok nmX9 12 (by decide) q_131 rfl hnm rfl (by decide +kernel) rfl rfl (Nat.le_of_ble_eq_true rfl) dX9_init_68 (fun M_16 H locs hw h43 hF => ?_)
  have h43 : M_16 43 = .inr (9, [.int 0, .int 0, .int 0, .int 0, .ref (b + 44), .ref (b + 45), .ref (b + 46), .ref (b + 47), .int 0, .ref (b + 48), .ref (b + 49), .ref (b + 50), .ref (b + 51), .null, .int 0, .null, .null, .null, .int 0, .int 0, .null, .null, .int 0, .null, .null, .null, .null, .int 0, .int 0, .null, .null, .null, .null, .null, .null, .null, .null, .null, .null, .null, .null]) := h43
  have h44 := (hF 44 (by decide)).trans h44
  have h45 := (hF 45 (by decide)).trans h45
  have h46 := (hF 46 (by decide)).trans h46
  have h47 := (hF 47 (by decide)).trans h47
  have h48 := (hF 48 (by decide)).trans h48
  have h49 := (hF 49 (by decide)).trans h49
  have h50 := (hF 50 (by decide)).trans h50
  have h51 := (hF 51 (by decide)).trans h51
  have hFF := kF_st hFF hF (by first | decide | simp)
  refine lv_aload_n C.1 C.2.1 dX9_init_71 rfl (lv_at hl 0 rfl) ?_
  refine lv_bipush (v := nI 100) C.1 C.2.1 dX9_init_72 (by decide) ?_
  refine k_newJ C hw q_89 100 rfl (by decide) (Nat.le_of_ble_eq_true rfl) (Nat.le_of_ble_eq_true rfl) dX9_init_74 (fun M_17 H hw h52 hF => ?_)
  have h43 := (hF 43 (by decide)).trans h43
  have h44 := (hF 44 (by decide)).trans h44
  have h45 := (hF 45 (by decide)).trans h45
  have h46 := (hF 46 (by decide)).trans h46
  have h47 := (hF 47 (by decide)).trans h47
  have h48 := (hF 48 (by decide)).trans h48
  have h49 := (hF 49 (by decide)).trans h49
  have h50 := (hF 50 (by decide)).trans h50
  have h51 := (hF 51 (by decide)).trans h51
  have hFF := kF_st hFF hF (by first | decide | simp)
  refine k_putF (tf := .array .long) C hw 43 (by decide) h43 rfl inlX9 tyX9 tyX9_ok nmX9 13 (by decide) q_132 rfl hnm rfl (by decide +kernel) rfl rfl (Nat.le_of_ble_eq_true rfl) dX9_init_76 (fun M_18 H locs hw h43 hF => ?_)
  have h43 : M_18 43 = .inr (9, [.int 0, .int 0, .int 0, .int 0, .ref (b + 44), .ref (b + 45), .ref (b + 46), .ref (b + 47), .int 0, .ref (b + 48), .ref (b + 49), .ref (b + 50), .ref (b + 51), .ref (b + 52), .int 0, .null, .null, .null, .int 0, .int 0, .null, .null, .int 0, .null, .null, .null, .null, .int 0, .int 0, .null, .null, .null, .null, .null, .null, .null, .null, .null, .null, .null, .null]) := h43
  have h44 := (hF 44 (by decide)).trans h44
  have h45 := (hF 45 (by decide)).trans h45
  have h46 := (hF 46 (by decide)).trans h46
  have h47 := (hF 47 (by decide)).trans h47
  have h48 := (hF 48 (by decide)).trans h48
  have h49 := (hF 49 (by decide)).trans h49
  have h50 := (hF 50 (by decide)).trans h50
  have h51 := (hF 51 (by decide)).trans h51
  have h52 := (hF 52 (by decide)).trans h52
  have hFF := kF_st hFF hF (by first | decide | simp)
  refine lv_aload_n C.1 C.2.1 dX9_init_79 rfl (lv_at hl 0 rfl) ?_
  refine lv_sipush (v := nI 400) C.1 C.2.1 dX9_init_80 (by decide) ?_
  refine k_newI C hw q_38 400 rfl (by decide) (Nat.le_of_ble_eq_true rfl) (Nat.le_of_ble_eq_true rfl) dX9_init_83 (fun M_19 H hw h53 hF => ?_)
  have h43 := (hF 43 (by decide)).trans h43
  have h44 := (hF 44 (by decide)).trans h44
  have h45 := (hF 45 (by decide)).trans h45
  have h46 := (hF 46 (by decide)).trans h46
  have h47 := (hF 47 (by decide)).trans h47
  have h48 := (hF 48 (by decide)).trans h48
  have h49 := (hF 49 (by decide)).trans h49
  have h50 := (hF 50 (by decide)).trans h50
  have h51 := (hF 51 (by decide)).trans h51
  have h52 := (hF 52 (by decide)).trans h52
  have hFF := kF_st hFF hF (by first | decide | simp)
  refine k_putF (tf := .array .int) C hw 43 (by decide) h43 rfl inlX9 tyX9 tyX9_ok nmX9 15 (by decide) q_133 rfl hnm rfl (by decide +kernel) rfl rfl (Nat.le_of_ble_eq_true rfl) dX9_init_85 (fun M_20 H locs hw h43 hF => ?_)
  have h43 : M_20 43 = .inr (9, [.int 0, .int 0, .int 0, .int 0, .ref (b + 44), .ref (b + 45), .ref (b + 46), .ref (b + 47), .int 0, .ref (b + 48), .ref (b + 49), .ref (b + 50), .ref (b + 51), .ref (b + 52), .int 0, .ref (b + 53), .null, .null, .int 0, .int 0, .null, .null, .int 0, .null, .null, .null, .null, .int 0, .int 0, .null, .null, .null, .null, .null, .null, .null, .null, .null, .null, .null, .null]) := h43
  have h44 := (hF 44 (by decide)).trans h44
  have h45 := (hF 45 (by decide)).trans h45
  have h46 := (hF 46 (by decide)).trans h46
  have h47 := (hF 47 (by decide)).trans h47
  have h48 := (hF 48 (by decide)).trans h48
  have h49 := (hF 49 (by decide)).trans h49
  have h50 := (hF 50 (by decide)).trans h50
  have h51 := (hF 51 (by decide)).trans h51
  have h52 := (hF 52 (by decide)).trans h52
  have h53 := (hF 53 (by decide)).trans h53
  have hFF := kF_st hFF hF (by first | decide | simp)
  refine lv_aload_n C.1 C.2.1 dX9_init_88 rfl (lv_at hl 0 rfl) ?_
  refine lv_sipush (v := nI 400) C.1 C.2.1 dX9_init_89 (by decide) ?_
  refine k_newI C hw q_38 400 rfl (by decide) (Nat.le_of_ble_eq_true rfl) (Nat.le_of_ble_eq_true rfl) dX9_init_92 (fun M_21 H hw h54 hF => ?_)
  have h43 := (hF 43 (by decide)).trans h43
  have h44 := (hF 44 (by decide)).trans h44
  have h45 := (hF 45 (by decide)).trans h45
  have h46 := (hF 46 (by decide)).trans h46
  have h47 := (hF 47 (by decide)).trans h47
  have h48 := (hF 48 (by decide)).trans h48
  have h49 := (hF 49 (by decide)).trans h49
  have h50 := (hF 50 (by decide)).trans h50
  have h51 := (hF 51 (by decide)).trans h51
  have h52 := (hF 52 (by decide)).trans h52
  have h53 := (hF 53 (by decide)).trans h53
  have hFF := kF_st hFF hF (by first | decide | simp)
  refine k_putF (tf := .array .int) C hw 43 (by decide) h43 rfl inlX9 tyX9 tyX9_ok nmX9 16 (by decide) q_134 rfl hnm rfl (by decide +kernel) rfl rfl (Nat.le_of_ble_eq_true rfl) dX9_init_94 (fun M_22 H locs hw h43 hF => ?_)
  have h43 : M_22 43 = .inr (9, [.int 0, .int 0, .int 0, .int 0, .ref (b + 44), .ref (b + 45), .ref (b + 46), .ref (b + 47), .int 0, .ref (b + 48), .ref (b + 49), .ref (b + 50), .ref (b + 51), .ref (b + 52), .int 0, .ref (b + 53), .ref (b + 54), .null, .int 0, .int 0, .null, .null, .int 0, .null, .null, .null, .null, .int 0, .int 0, .null, .null, .null, .null, .null, .null, .null, .null, .null, .null, .null, .null]) := h43
  have h44 := (hF 44 (by decide)).trans h44
  have h45 := (hF 45 (by decide)).trans h45
  have h46 := (hF 46 (by decide)).trans h46
  have h47 := (hF 47 (by decide)).trans h47
  have h48 := (hF 48 (by decide)).trans h48
  have h49 := (hF 49 (by decide)).trans h49
  have h50 := (hF 50 (by decide)).trans h50
  have h51 := (hF 51 (by decide)).trans h51
  have h52 := (hF 52 (by decide)).trans h52
  have h53 := (hF 53 (by decide)).trans h53
  have h54 := (hF 54 (by decide)).trans h54
  have hFF := kF_st hFF hF (by first | decide | simp)
  refine lv_aload_n C.1 C.2.1 dX9_init_97 rfl (lv_at hl 0 rfl) ?_
  refine lv_sipush (v := nI 400) C.1 C.2.1 dX9_init_98 (by decide) ?_
  refine k_newJ C hw q_89 400 rfl (by decide) (Nat.le_of_ble_eq_true rfl) (Nat.le_of_ble_eq_true rfl) dX9_init_101 (fun M_23 H hw h55 hF => ?_)
  have h43 := (hF 43 (by decide)).trans h43
  have h44 := (hF 44 (by decide)).trans h44
  have h45 := (hF 45 (by decide)).trans h45
  have h46 := (hF 46 (by decide)).trans h46
  have h47 := (hF 47 (by decide)).trans h47
  have h48 := (hF 48 (by decide)).trans h48
  have h49 := (hF 49 (by decide)).trans h49
  have h50 := (hF 50 (by decide)).trans h50
  have h51 := (hF 51 (by decide)).trans h51
  have h52 := (hF 52 (by decide)).trans h52
  have h53 := (hF 53 (by decide)).trans h53
  have h54 := (hF 54 (by decide)).trans h54
  have hFF := kF_st hFF hF (by first | decide | simp)
  refine k_putF (tf := .array .long) C hw 43 (by decide) h43 rfl inlX9 tyX9 tyX9_ok nmX9 17 (by decide) q_135 rfl hnm rfl (by decide +kernel) rfl rfl (Nat.le_of_ble_eq_true rfl) dX9_init_103 (fun M_24 H locs hw h43 hF => ?_)
  have h43 : M_24 43 = .inr (9, [.int 0, .int 0, .int 0, .int 0, .ref (b + 44), .ref (b + 45), .ref (b + 46), .ref (b + 47), .int 0, .ref (b + 48), .ref (b + 49), .ref (b + 50), .ref (b + 51), .ref (b + 52), .int 0, .ref (b + 53), .ref (b + 54), .ref (b + 55), .int 0, .int 0, .null, .null, .int 0, .null, .null, .null, .null, .int 0, .int 0, .null, .null, .null, .null, .null, .null, .null, .null, .null, .null, .null, .null]) := h43
  have h44 := (hF 44 (by decide)).trans h44
  have h45 := (hF 45 (by decide)).trans h45
  have h46 := (hF 46 (by decide)).trans h46
  have h47 := (hF 47 (by decide)).trans h47
  have h48 := (hF 48 (by decide)).trans h48
  have h49 := (hF 49 (by decide)).trans h49
  have h50 := (hF 50 (by decide)).trans h50
  have h51 := (hF 51 (by decide)).trans h51
  have h52 := (hF 52 (by decide)).trans h52
  have h53 := (hF 53 (by decide)).trans h53
  have h54 := (hF 54 (by decide)).trans h54
  have h55 := (hF 55 (by decide)).trans h55
  have hFF := kF_st hFF hF (by first | decide | simp)
  refine lv_aload_n C.1 C.2.1 dX9_init_106 rfl (lv_at hl 0 rfl) ?_
  refine lv_bipush (v := nI 40) C.1 C.2.1 dX9_init_107 (by decide) ?_
  refine k_newI C hw q_38 40 rfl (by decide) (Nat.le_of_ble_eq_true rfl) (Nat.le_of_ble_eq_true rfl) dX9_init_109 (fun M_25 H hw h56 hF => ?_)
  have h43 := (hF 43 (by decide)).trans h43
  have h44 := (hF 44 (by decide)).trans h44
  have h45 := (hF 45 (by decide)).trans h45
  have h46 := (hF 46 (by decide)).trans h46
  have h47 := (hF 47 (by decide)).trans h47
  have h48 := (hF 48 (by decide)).trans h48
  have h49 := (hF 49 (by decide)).trans h49
  have h50 := (hF 50 (by decide)).trans h50
  have h51 := (hF 51 (by decide)).trans h51
  have h52 := (hF 52 (by decide)).trans h52
  have h53 := (hF 53 (by decide)).trans h53
  have h54 := (hF 54 (by decide)).trans h54
  have h55 := (hF 55 (by decide)).trans h55
  have hFF := kF_st hFF hF (by first | decide | simp)
  refine k_putF (tf := .array .int) C hw 43 (by decide) h43 rfl inlX9 tyX9 tyX9_ok nmX9 20 (by decide) q_136 rfl hnm rfl (by decide +kernel) rfl rfl (Nat.le_of_ble_eq_true rfl) dX9_init_111 (fun M_26 H locs hw h43 hF => ?_)
  have h43 : M_26 43 = .inr (9, [.int 0, .int 0, .int 0, .int 0, .ref (b + 44), .ref (b + 45), .ref (b + 46), .ref (b + 47), .int 0, .ref (b + 48), .ref (b + 49), .ref (b + 50), .ref (b + 51), .ref (b + 52), .int 0, .ref (b + 53), .ref (b + 54), .ref (b + 55), .int 0, .int 0, .ref (b + 56), .null, .int 0, .null, .null, .null, .null, .int 0, .int 0, .null, .null, .null, .null, .null, .null, .null, .null, .null, .null, .null, .null]) := h43
  have h44 := (hF 44 (by decide)).trans h44
  have h45 := (hF 45 (by decide)).trans h45
  have h46 := (hF 46 (by decide)).trans h46
  have h47 := (hF 47 (by decide)).trans h47
  have h48 := (hF 48 (by decide)).trans h48
  have h49 := (hF 49 (by decide)).trans h49
  have h50 := (hF 50 (by decide)).trans h50
  have h51 := (hF 51 (by decide)).trans h51
  have h52 := (hF 52 (by decide)).trans h52
  have h53 := (hF 53 (by decide)).trans h53
  have h54 := (hF 54 (by decide)).trans h54
  have h55 := (hF 55 (by decide)).trans h55
  have h56 := (hF 56 (by decide)).trans h56
  have hFF := kF_st hFF hF (by first | decide | simp)
  refine lv_aload_n C.1 C.2.1 dX9_init_114 rfl (lv_at hl 0 rfl) ?_
  refine lv_bipush (v := nI 40) C.1 C.2.1 dX9_init_115 (by decide) ?_
  refine k_newI C hw q_38 40 rfl (by decide) (Nat.le_of_ble_eq_true rfl) (Nat.le_of_ble_eq_true rfl) dX9_init_117 (fun M_27 H hw h57 hF => ?_)
  have h43 := (hF 43 (by decide)).trans h43
  have h44 := (hF 44 (by decide)).trans h44
  have h45 := (hF 45 (by decide)).trans h45
  have h46 := (hF 46 (by decide)).trans h46
  have h47 := (hF 47 (by decide)).trans h47
  have h48 := (hF 48 (by decide)).trans h48
  have h49 := (hF 49 (by decide)).trans h49
  have h50 := (hF 50 (by decide)).trans h50
  have h51 := (hF 51 (by decide)).trans h51
  have h52 := (hF 52 (by decide)).trans h52
  have h53 := (hF 53 (by decide)).trans h53
  have h54 := (hF 54 (by decide)).trans h54
  have h55 := (hF 55 (by decide)).trans h55
  have h56 := (hF 56 (by decide)).trans h56
  have hFF := kF_st hFF hF (by first | decide | simp)
  refine k_putF (tf := .array .int) C hw 43 (by decide) h43 rfl inlX9 tyX9 tyX9_ok nmX9 21 (by decide) q_137 rfl hnm rfl (by decide +kernel) rfl rfl (Nat.le_of_ble_eq_true rfl) dX9_init_119 (fun M_28 H locs hw h43 hF => ?_)
  have h43 : M_28 43 = .inr (9, [.int 0, .int 0, .int 0, .int 0, .ref (b + 44), .ref (b + 45), .ref (b + 46), .ref (b + 47), .int 0, .ref (b + 48), .ref (b + 49), .ref (b + 50), .ref (b + 51), .ref (b + 52), .int 0, .ref (b + 53), .ref (b + 54), .ref (b + 55), .int 0, .int 0, .ref (b + 56), .ref (b + 57), .int 0, .null, .null, .null, .null, .int 0, .int 0, .null, .null, .null, .null, .null, .null, .null, .null, .null, .null, .null, .null]) := h43
  have h44 := (hF 44 (by decide)).trans h44
  have h45 := (hF 45 (by decide)).trans h45
  have h46 := (hF 46 (by decide)).trans h46
  have h47 := (hF 47 (by decide)).trans h47
  have h48 := (hF 48 (by decide)).trans h48
  have h49 := (hF 49 (by decide)).trans h49
  have h50 := (hF 50 (by decide)).trans h50
  have h51 := (hF 51 (by decide)).trans h51
  have h52 := (hF 52 (by decide)).trans h52
  have h53 := (hF 53 (by decide)).trans h53
  have h54 := (hF 54 (by decide)).trans h54
  have h55 := (hF 55 (by decide)).trans h55
  have h56 := (hF 56 (by decide)).trans h56
  have h57 := (hF 57 (by decide)).trans h57
  have hFF := kF_st hFF hF (by first | decide | simp)
  refine lv_aload_n C.1 C.2.1 dX9_init_122 rfl (lv_at hl 0 rfl) ?_
  refine lv_bipush (v := nI 32) C.1 C.2.1 dX9_init_123 (by decide) ?_
  refine k_newI C hw q_38 32 rfl (by decide) (Nat.le_of_ble_eq_true rfl) (Nat.le_of_ble_eq_true rfl) dX9_init_125 (fun M_29 H hw h58 hF => ?_)
  have h43 := (hF 43 (by decide)).trans h43
  have h44 := (hF 44 (by decide)).trans h44
  have h45 := (hF 45 (by decide)).trans h45
  have h46 := (hF 46 (by decide)).trans h46
  have h47 := (hF 47 (by decide)).trans h47
  have h48 := (hF 48 (by decide)).trans h48
  have h49 := (hF 49 (by decide)).trans h49
  have h50 := (hF 50 (by decide)).trans h50
  have h51 := (hF 51 (by decide)).trans h51
  have h52 := (hF 52 (by decide)).trans h52
  have h53 := (hF 53 (by decide)).trans h53
  have h54 := (hF 54 (by decide)).trans h54
  have h55 := (hF 55 (by decide)).trans h55
  have h56 := (hF 56 (by decide)).trans h56
  have h57 := (hF 57 (by decide)).trans h57
  have hFF := kF_st hFF hF (by first | decide | simp)
  refine k_putF (tf := .array .int) C hw 43 (by decide) h43 rfl inlX9 tyX9 tyX9_ok nmX9 23 (by decide) q_138 rfl hnm rfl (by decide +kernel) rfl rfl (Nat.le_of_ble_eq_true rfl) dX9_init_127 (fun M_30 H locs hw h43 hF => ?_)
  have h43 : M_30 43 = .inr (9, [.int 0, .int 0, .int 0, .int 0, .ref (b + 44), .ref (b + 45), .ref (b + 46), .ref (b + 47), .int 0, .ref (b + 48), .ref (b + 49), .ref (b + 50), .ref (b + 51), .ref (b + 52), .int 0, .ref (b + 53), .ref (b + 54), .ref (b + 55), .int 0, .int 0, .ref (b + 56), .ref (b + 57), .int 0, .ref (b + 58), .null, .null, .null, .int 0, .int 0, .null, .null, .null, .null, .null, .null, .null, .null, .null, .null, .null, .null]) := h43
  have h44 := (hF 44 (by decide)).trans h44
  have h45 := (hF 45 (by decide)).trans h45
  have h46 := (hF 46 (by decide)).trans h46
  have h47 := (hF 47 (by decide)).trans h47
  have h48 := (hF 48 (by decide)).trans h48
  have h49 := (hF 49 (by decide)).trans h49
  have h50 := (hF 50 (by decide)).trans h50
  have h51 := (hF 51 (by decide)).trans h51
  have h52 := (hF 52 (by decide)).trans h52
  have h53 := (hF 53 (by decide)).trans h53
  have h54 := (hF 54 (by decide)).trans h54
  have h55 := (hF 55 (by decide)).trans h55
  have h56 := (hF 56 (by decide)).trans h56
  have h57 := (hF 57 (by decide)).trans h57
  have h58 := (hF 58 (by decide)).trans h58
  have hFF := kF_st hFF hF (by first | decide | simp)
  refine lv_aload_n C.1 C.2.1 dX9_init_130 rfl (lv_at hl 0 rfl) ?_
  refine lv_bipush (v := nI 32) C.1 C.2.1 dX9_init_131 (by decide) ?_
  refine k_newI C hw q_38 32 rfl (by decide) (Nat.le_of_ble_eq_true rfl) (Nat.le_of_ble_eq_true rfl) dX9_init_133 (fun M_31 H hw h59 hF => ?_)
  have h43 := (hF 43 (by decide)).trans h43
  have h44 := (hF 44 (by decide)).trans h44
  have h45 := (hF 45 (by decide)).trans h45
  have h46 := (hF 46 (by decide)).trans h46
  have h47 := (hF 47 (by decide)).trans h47
  have h48 := (hF 48 (by decide)).trans h48
  have h49 := (hF 49 (by decide)).trans h49
  have h50 := (hF 50 (by decide)).trans h50
  have h51 := (hF 51 (by decide)).trans h51
  have h52 := (hF 52 (by decide)).trans h52
  have h53 := (hF 53 (by decide)).trans h53
  have h54 := (hF 54 (by decide)).trans h54
  have h55 := (hF 55 (by decide)).trans h55
  have h56 := (hF 56 (by decide)).trans h56
  have h57 := (hF 57 (by decide)).trans h57
  have h58 := (hF 58 (by decide)).trans h58
  have hFF := kF_st hFF hF (by first | decide | simp)
  refine k_putF (tf := .array .int) C hw 43 (by decide) h43 rfl inlX9 tyX9 tyX9_ok nmX9 24 (by decide) q_139 rfl hnm rfl (by decide +kernel) rfl rfl (Nat.le_of_ble_eq_true rfl) dX9_init_135 (fun M_32 H locs hw h43 hF => ?_)
  have h43 : M_32 43 = .inr (9, [.int 0, .int 0, .int 0, .int 0, .ref (b + 44), .ref (b + 45), .ref (b + 46), .ref (b + 47), .int 0, .ref (b + 48), .ref (b + 49), .ref (b + 50), .ref (b + 51), .ref (b + 52), .int 0, .ref (b + 53), .ref (b + 54), .ref (b + 55), .int 0, .int 0, .ref (b + 56), .ref (b + 57), .int 0, .ref (b + 58), .ref (b + 59), .null, .null, .int 0, .int 0, .null, .null, .null, .null, .null, .null, .null, .null, .null, .null, .null, .null]) := h43
  have h44 := (hF 44 (by decide)).trans h44
  have h45 := (hF 45 (by decide)).trans h45
  have h46 := (hF 46 (by decide)).trans h46
  have h47 := (hF 47 (by decide)).trans h47
  have h48 := (hF 48 (by decide)).trans h48
  have h49 := (hF 49 (by decide)).trans h49
  have h50 := (hF 50 (by decide)).trans h50
  have h51 := (hF 51 (by decide)).trans h51
  have h52 := (hF 52 (by decide)).trans h52
  have h53 := (hF 53 (by decide)).trans h53
  have h54 := (hF 54 (by decide)).trans h54
  have h55 := (hF 55 (by decide)).trans h55
  have h56 := (hF 56 (by decide)).trans h56
  have h57 := (hF 57 (by decide)).trans h57
  have h58 := (hF 58 (by decide)).trans h58
  have h59 := (hF 59 (by decide)).trans h59
  have hFF := kF_st hFF hF (by first | decide | simp)
  refine lv_aload_n C.1 C.2.1 dX9_init_138 rfl (lv_at hl 0 rfl) ?_
  refine lv_bipush (v := nI 32) C.1 C.2.1 dX9_init_139 (by decide) ?_
  refine k_newI C hw q_38 32 rfl (by decide) (Nat.le_of_ble_eq_true rfl) (Nat.le_of_ble_eq_true rfl) dX9_init_141 (fun M_33 H hw h60 hF => ?_)
  have h43 := (hF 43 (by decide)).trans h43
  have h44 := (hF 44 (by decide)).trans h44
  have h45 := (hF 45 (by decide)).trans h45
  have h46 := (hF 46 (by decide)).trans h46
  have h47 := (hF 47 (by decide)).trans h47
  have h48 := (hF 48 (by decide)).trans h48
  have h49 := (hF 49 (by decide)).trans h49
  have h50 := (hF 50 (by decide)).trans h50
  have h51 := (hF 51 (by decide)).trans h51
  have h52 := (hF 52 (by decide)).trans h52
  have h53 := (hF 53 (by decide)).trans h53
  have h54 := (hF 54 (by decide)).trans h54
  have h55 := (hF 55 (by decide)).trans h55
  have h56 := (hF 56 (by decide)).trans h56
  have h57 := (hF 57 (by decide)).trans h57
  have h58 := (hF 58 (by decide)).trans h58
  have h59 := (hF 59 (by decide)).trans h59
  have hFF := kF_st hFF hF (by first | decide | simp)
  refine k_putF (tf := .array .int) C hw 43 (by decide) h43 rfl inlX9 tyX9 tyX9_ok nmX9 25 (by decide) q_140 rfl hnm rfl (by decide +kernel) rfl rfl (Nat.le_of_ble_eq_true rfl) dX9_init_143 (fun M_34 H locs hw h43 hF => ?_)
  have h43 : M_34 43 = .inr (9, [.int 0, .int 0, .int 0, .int 0, .ref (b + 44), .ref (b + 45), .ref (b + 46), .ref (b + 47), .int 0, .ref (b + 48), .ref (b + 49), .ref (b + 50), .ref (b + 51), .ref (b + 52), .int 0, .ref (b + 53), .ref (b + 54), .ref (b + 55), .int 0, .int 0, .ref (b + 56), .ref (b + 57), .int 0, .ref (b + 58), .ref (b + 59), .ref (b + 60), .null, .int 0, .int 0, .null, .null, .null, .null, .null, .null, .null, .null, .null, .null, .null, .null]) := h43
  have h44 := (hF 44 (by decide)).trans h44
  have h45 := (hF 45 (by decide)).trans h45
  have h46 := (hF 46 (by decide)).trans h46
  have h47 := (hF 47 (by decide)).trans h47
  have h48 := (hF 48 (by decide)).trans h48
  have h49 := (hF 49 (by decide)).trans h49
  have h50 := (hF 50 (by decide)).trans h50
  have h51 := (hF 51 (by decide)).trans h51
  have h52 := (hF 52 (by decide)).trans h52
  have h53 := (hF 53 (by decide)).trans h53
  have h54 := (hF 54 (by decide)).trans h54
  have h55 := (hF 55 (by decide)).trans h55
  have h56 := (hF 56 (by decide)).trans h56
  have h57 := (hF 57 (by decide)).trans h57
  have h58 := (hF 58 (by decide)).trans h58
  have h59 := (hF 59 (by decide)).trans h59
  have h60 := (hF 60 (by decide)).trans h60
  have hFF := kF_st hFF hF (by first | decide | simp)
  refine lv_aload_n C.1 C.2.1 dX9_init_146 rfl (lv_at hl 0 rfl) ?_
  refine lv_bipush (v := nI 32) C.1 C.2.1 dX9_init_147 (by decide) ?_
  refine k_newJ C hw q_89 32 rfl (by decide) (Nat.le_of_ble_eq_true rfl) (Nat.le_of_ble_eq_true rfl) dX9_init_149 (fun M_35 H hw h61 hF => ?_)
  have h43 := (hF 43 (by decide)).trans h43
  have h44 := (hF 44 (by decide)).trans h44
  have h45 := (hF 45 (by decide)).trans h45
  have h46 := (hF 46 (by decide)).trans h46
  have h47 := (hF 47 (by decide)).trans h47
  have h48 := (hF 48 (by decide)).trans h48
  have h49 := (hF 49 (by decide)).trans h49
  have h50 := (hF 50 (by decide)).trans h50
  have h51 := (hF 51 (by decide)).trans h51
  have h52 := (hF 52 (by decide)).trans h52
  have h53 := (hF 53 (by decide)).trans h53
  have h54 := (hF 54 (by decide)).trans h54
  have h55 := (hF 55 (by decide)).trans h55
  have h56 := (hF 56 (by decide)).trans h56
  have h57 := (hF 57 (by decide)).trans h57
  have h58 := (hF 58 (by decide)).trans h58
  have h59 := (hF 59 (by decide)).trans h59
  have h60 := (hF 60 (by decide)).trans h60
  have hFF := kF_st hFF hF (by first | decide | simp)
  refine k_putF (tf := .array .long) C hw 43 (by decide) h43 rfl inlX9 tyX9 tyX9_ok nmX9 26 (by decide) q_141 rfl hnm rfl (by decide +kernel) rfl rfl (Nat.le_of_ble_eq_true rfl) dX9_init_151 (fun M_36 H locs hw h43 hF => ?_)
  have h43 : M_36 43 = .inr (9, [.int 0, .int 0, .int 0, .int 0, .ref (b + 44), .ref (b + 45), .ref (b + 46), .ref (b + 47), .int 0, .ref (b + 48), .ref (b + 49), .ref (b + 50), .ref (b + 51), .ref (b + 52), .int 0, .ref (b + 53), .ref (b + 54), .ref (b + 55), .int 0, .int 0, .ref (b + 56), .ref (b + 57), .int 0, .ref (b + 58), .ref (b + 59), .ref (b + 60), .ref (b + 61), .int 0, .int 0, .null, .null, .null, .null, .null, .null, .null, .null, .null, .null, .null, .null]) := h43
  have h44 := (hF 44 (by decide)).trans h44
  have h45 := (hF 45 (by decide)).trans h45
  have h46 := (hF 46 (by decide)).trans h46
  have h47 := (hF 47 (by decide)).trans h47
  have h48 := (hF 48 (by decide)).trans h48
  have h49 := (hF 49 (by decide)).trans h49
  have h50 := (hF 50 (by decide)).trans h50
  have h51 := (hF 51 (by decide)).trans h51
  have h52 := (hF 52 (by decide)).trans h52
  have h53 := (hF 53 (by decide)).trans h53
  have h54 := (hF 54 (by decide)).trans h54
  have h55 := (hF 55 (by decide)).trans h55
  have h56 := (hF 56 (by decide)).trans h56
  have h57 := (hF 57 (by decide)).trans h57
  have h58 := (hF 58 (by decide)).trans h58
  have h59 := (hF 59 (by decide)).trans h59
  have h60 := (hF 60 (by decide)).trans h60
  have h61 := (hF 61 (by decide)).trans h61
  have hFF := kF_st hFF hF (by first | decide | simp)
  refine lv_aload_n C.1 C.2.1 dX9_init_154 rfl (lv_at hl 0 rfl) ?_
  refine lv_iconst (v := nI 3) C.1 C.2.1 dX9_init_155 (by decide) ?_
  refine k_newI C hw q_38 3 rfl (by decide) (Nat.le_of_ble_eq_true rfl) (Nat.le_of_ble_eq_true rfl) dX9_init_156 (fun M_37 H hw h62 hF => ?_)
  have h43 := (hF 43 (by decide)).trans h43
  have h44 := (hF 44 (by decide)).trans h44
  have h45 := (hF 45 (by decide)).trans h45
  have h46 := (hF 46 (by decide)).trans h46
  have h47 := (hF 47 (by decide)).trans h47
  have h48 := (hF 48 (by decide)).trans h48
  have h49 := (hF 49 (by decide)).trans h49
  have h50 := (hF 50 (by decide)).trans h50
  have h51 := (hF 51 (by decide)).trans h51
  have h52 := (hF 52 (by decide)).trans h52
  have h53 := (hF 53 (by decide)).trans h53
  have h54 := (hF 54 (by decide)).trans h54
  have h55 := (hF 55 (by decide)).trans h55
  have h56 := (hF 56 (by decide)).trans h56
  have h57 := (hF 57 (by decide)).trans h57
  have h58 := (hF 58 (by decide)).trans h58
  have h59 := (hF 59 (by decide)).trans h59
  have h60 := (hF 60 (by decide)).trans h60
  have h61 := (hF 61 (by decide)).trans h61
  have hFF := kF_st hFF hF (by first | decide | simp)
  refine k_putF (tf := .array .int) C hw 43 (by decide) h43 rfl inlX9 tyX9 tyX9_ok nmX9 29 (by decide) q_142 rfl hnm rfl (by decide +kernel) rfl rfl (Nat.le_of_ble_eq_true rfl) dX9_init_158 (fun M_38 H locs hw h43 hF => ?_)
  have h43 : M_38 43 = .inr (9, [.int 0, .int 0, .int 0, .int 0, .ref (b + 44), .ref (b + 45), .ref (b + 46), .ref (b + 47), .int 0, .ref (b + 48), .ref (b + 49), .ref (b + 50), .ref (b + 51), .ref (b + 52), .int 0, .ref (b + 53), .ref (b + 54), .ref (b + 55), .int 0, .int 0, .ref (b + 56), .ref (b + 57), .int 0, .ref (b + 58), .ref (b + 59), .ref (b + 60), .ref (b + 61), .int 0, .int 0, .ref (b + 62), .null, .null, .null, .null, .null, .null, .null, .null, .null, .null, .null]) := h43
  have h44 := (hF 44 (by decide)).trans h44
  have h45 := (hF 45 (by decide)).trans h45
  have h46 := (hF 46 (by decide)).trans h46
  have h47 := (hF 47 (by decide)).trans h47
  have h48 := (hF 48 (by decide)).trans h48
  have h49 := (hF 49 (by decide)).trans h49
  have h50 := (hF 50 (by decide)).trans h50
  have h51 := (hF 51 (by decide)).trans h51
  have h52 := (hF 52 (by decide)).trans h52
  have h53 := (hF 53 (by decide)).trans h53
  have h54 := (hF 54 (by decide)).trans h54
  have h55 := (hF 55 (by decide)).trans h55
  have h56 := (hF 56 (by decide)).trans h56
  have h57 := (hF 57 (by decide)).trans h57
  have h58 := (hF 58 (by decide)).trans h58
  have h59 := (hF 59 (by decide)).trans h59
  have h60 := (hF 60 (by decide)).trans h60
  have h61 := (hF 61 (by decide)).trans h61
  have h62 := (hF 62 (by decide)).trans h62
  have hFF := kF_st hFF hF (by first | decide | simp)
  refine lv_aload_n C.1 C.2.1 dX9_init_161 rfl (lv_at hl 0 rfl) ?_
  refine lv_sipush (v := nI 1200) C.1 C.2.1 dX9_init_162 (by decide) ?_
  refine k_newI C hw q_38 1200 rfl (by decide) (Nat.le_of_ble_eq_true rfl) (Nat.le_of_ble_eq_true rfl) dX9_init_165 (fun M_39 H hw h63 hF => ?_)
  have h43 := (hF 43 (by decide)).trans h43
  have h44 := (hF 44 (by decide)).trans h44
  have h45 := (hF 45 (by decide)).trans h45
  have h46 := (hF 46 (by decide)).trans h46
  have h47 := (hF 47 (by decide)).trans h47
  have h48 := (hF 48 (by decide)).trans h48
  have h49 := (hF 49 (by decide)).trans h49
  have h50 := (hF 50 (by decide)).trans h50
  have h51 := (hF 51 (by decide)).trans h51
  have h52 := (hF 52 (by decide)).trans h52
  have h53 := (hF 53 (by decide)).trans h53
  have h54 := (hF 54 (by decide)).trans h54
  have h55 := (hF 55 (by decide)).trans h55
  have h56 := (hF 56 (by decide)).trans h56
  have h57 := (hF 57 (by decide)).trans h57
  have h58 := (hF 58 (by decide)).trans h58
  have h59 := (hF 59 (by decide)).trans h59
  have h60 := (hF 60 (by decide)).trans h60
  have h61 := (hF 61 (by decide)).trans h61
  have h62 := (hF 62 (by decide)).trans h62
  have hFF := kF_st hFF hF (by first | decide | simp)
  refine k_putF (tf := .array .int) C hw 43 (by decide) h43 rfl inlX9 tyX9 tyX9_ok nmX9 30 (by decide) q_143 rfl hnm rfl (by decide +kernel) rfl rfl (Nat.le_of_ble_eq_true rfl) dX9_init_167 (fun M_40 H locs hw h43 hF => ?_)
  have h43 : M_40 43 = .inr (9, [.int 0, .int 0, .int 0, .int 0, .ref (b + 44), .ref (b + 45), .ref (b + 46), .ref (b + 47), .int 0, .ref (b + 48), .ref (b + 49), .ref (b + 50), .ref (b + 51), .ref (b + 52), .int 0, .ref (b + 53), .ref (b + 54), .ref (b + 55), .int 0, .int 0, .ref (b + 56), .ref (b + 57), .int 0, .ref (b + 58), .ref (b + 59), .ref (b + 60), .ref (b + 61), .int 0, .int 0, .ref (b + 62), .ref (b + 63), .null, .null, .null, .null, .null, .null, .null, .null, .null, .null]) := h43
  have h44 := (hF 44 (by decide)).trans h44
  have h45 := (hF 45 (by decide)).trans h45
  have h46 := (hF 46 (by decide)).trans h46
  have h47 := (hF 47 (by decide)).trans h47
  have h48 := (hF 48 (by decide)).trans h48
  have h49 := (hF 49 (by decide)).trans h49
  have h50 := (hF 50 (by decide)).trans h50
  have h51 := (hF 51 (by decide)).trans h51
  have h52 := (hF 52 (by decide)).trans h52
  have h53 := (hF 53 (by decide)).trans h53
  have h54 := (hF 54 (by decide)).trans h54
  have h55 := (hF 55 (by decide)).trans h55
  have h56 := (hF 56 (by decide)).trans h56
  have h57 := (hF 57 (by decide)).trans h57
  have h58 := (hF 58 (by decide)).trans h58
  have h59 := (hF 59 (by decide)).trans h59
  have h60 := (hF 60 (by decide)).trans h60
  have h61 := (hF 61 (by decide)).trans h61
  have h62 := (hF 62 (by decide)).trans h62
  have h63 := (hF 63 (by decide)).trans h63
  have hFF := kF_st hFF hF (by first | decide | simp)
  refine lv_aload_n C.1 C.2.1 dX9_init_170 rfl (lv_at hl 0 rfl) ?_
  refine lv_sipush (v := nI 1200) C.1 C.2.1 dX9_init_171 (by decide) ?_
  refine k_newI C hw q_38 1200 rfl (by decide) (Nat.le_of_ble_eq_true rfl) (Nat.le_of_ble_eq_true rfl) dX9_init_174 (fun M_41 H hw h64 hF => ?_)
  have h43 := (hF 43 (by decide)).trans h43
  have h44 := (hF 44 (by decide)).trans h44
  have h45 := (hF 45 (by decide)).trans h45
  have h46 := (hF 46 (by decide)).trans h46
  have h47 := (hF 47 (by decide)).trans h47
  have h48 := (hF 48 (by decide)).trans h48
  have h49 := (hF 49 (by decide)).trans h49
  have h50 := (hF 50 (by decide)).trans h50
  have h51 := (hF 51 (by decide)).trans h51
  have h52 := (hF 52 (by decide)).trans h52
  have h53 := (hF 53 (by decide)).trans h53
  have h54 := (hF 54 (by decide)).trans h54
  have h55 := (hF 55 (by decide)).trans h55
  have h56 := (hF 56 (by decide)).trans h56
  have h57 := (hF 57 (by decide)).trans h57
  have h58 := (hF 58 (by decide)).trans h58
  have h59 := (hF 59 (by decide)).trans h59
  have h60 := (hF 60 (by decide)).trans h60
  have h61 := (hF 61 (by decide)).trans h61
  have h62 := (hF 62 (by decide)).trans h62
  have h63 := (hF 63 (by decide)).trans h63
  have hFF := kF_st hFF hF (by first | decide | simp)
  refine k_putF (tf := .array .int) C hw 43 (by decide) h43 rfl inlX9 tyX9 tyX9_ok nmX9 31 (by decide) q_144 rfl hnm rfl (by decide +kernel) rfl rfl (Nat.le_of_ble_eq_true rfl) dX9_init_176 (fun M_42 H locs hw h43 hF => ?_)
  have h43 : M_42 43 = .inr (9, [.int 0, .int 0, .int 0, .int 0, .ref (b + 44), .ref (b + 45), .ref (b + 46), .ref (b + 47), .int 0, .ref (b + 48), .ref (b + 49), .ref (b + 50), .ref (b + 51), .ref (b + 52), .int 0, .ref (b + 53), .ref (b + 54), .ref (b + 55), .int 0, .int 0, .ref (b + 56), .ref (b + 57), .int 0, .ref (b + 58), .ref (b + 59), .ref (b + 60), .ref (b + 61), .int 0, .int 0, .ref (b + 62), .ref (b + 63), .ref (b + 64), .null, .null, .null, .null, .null, .null, .null, .null, .null]) := h43
  have h44 := (hF 44 (by decide)).trans h44
  have h45 := (hF 45 (by decide)).trans h45
  have h46 := (hF 46 (by decide)).trans h46
  have h47 := (hF 47 (by decide)).trans h47
  have h48 := (hF 48 (by decide)).trans h48
  have h49 := (hF 49 (by decide)).trans h49
  have h50 := (hF 50 (by decide)).trans h50
  have h51 := (hF 51 (by decide)).trans h51
  have h52 := (hF 52 (by decide)).trans h52
  have h53 := (hF 53 (by decide)).trans h53
  have h54 := (hF 54 (by decide)).trans h54
  have h55 := (hF 55 (by decide)).trans h55
  have h56 := (hF 56 (by decide)).trans h56
  have h57 := (hF 57 (by decide)).trans h57
  have h58 := (hF 58 (by decide)).trans h58
  have h59 := (hF 59 (by decide)).trans h59
  have h60 := (hF 60 (by decide)).trans h60
  have h61 := (hF 61 (by decide)).trans h61
  have h62 := (hF 62 (by decide)).trans h62
  have h63 := (hF 63 (by decide)).trans h63
  have h64 := (hF 64 (by decide)).trans h64
  have hFF := kF_st hFF hF (by first | decide | simp)
  refine lv_aload_n C.1 C.2.1 dX9_init_179 rfl (lv_at hl 0 rfl) ?_
  refine lv_sipush (v := nI 1200) C.1 C.2.1 dX9_init_180 (by decide) ?_
  refine k_newZ C hw q_126 1200 rfl (by decide) (Nat.le_of_ble_eq_true rfl) (Nat.le_of_ble_eq_true rfl) dX9_init_183 (fun M_43 H hw h65 hF => ?_)
  have h43 := (hF 43 (by decide)).trans h43
  have h44 := (hF 44 (by decide)).trans h44
  have h45 := (hF 45 (by decide)).trans h45
  have h46 := (hF 46 (by decide)).trans h46
  have h47 := (hF 47 (by decide)).trans h47
  have h48 := (hF 48 (by decide)).trans h48
  have h49 := (hF 49 (by decide)).trans h49
  have h50 := (hF 50 (by decide)).trans h50
  have h51 := (hF 51 (by decide)).trans h51
  have h52 := (hF 52 (by decide)).trans h52
  have h53 := (hF 53 (by decide)).trans h53
  have h54 := (hF 54 (by decide)).trans h54
  have h55 := (hF 55 (by decide)).trans h55
  have h56 := (hF 56 (by decide)).trans h56
  have h57 := (hF 57 (by decide)).trans h57
  have h58 := (hF 58 (by decide)).trans h58
  have h59 := (hF 59 (by decide)).trans h59
  have h60 := (hF 60 (by decide)).trans h60
  have h61 := (hF 61 (by decide)).trans h61
  have h62 := (hF 62 (by decide)).trans h62
  have h63 := (hF 63 (by decide)).trans h63
  have h64 := (hF 64 (by decide)).trans h64
  have hFF := kF_st hFF hF (by first | decide | simp)
  refine k_putF (tf := .array .boolean) C hw 43 (by decide) h43 rfl inlX9 tyX9 tyX9_ok nmX9 32 (by decide) q_145 rfl hnm rfl (by decide +kernel) rfl rfl (Nat.le_of_ble_eq_true rfl) dX9_init_185 (fun M_44 H locs hw h43 hF => ?_)
  have h43 : M_44 43 = .inr (9, [.int 0, .int 0, .int 0, .int 0, .ref (b + 44), .ref (b + 45), .ref (b + 46), .ref (b + 47), .int 0, .ref (b + 48), .ref (b + 49), .ref (b + 50), .ref (b + 51), .ref (b + 52), .int 0, .ref (b + 53), .ref (b + 54), .ref (b + 55), .int 0, .int 0, .ref (b + 56), .ref (b + 57), .int 0, .ref (b + 58), .ref (b + 59), .ref (b + 60), .ref (b + 61), .int 0, .int 0, .ref (b + 62), .ref (b + 63), .ref (b + 64), .ref (b + 65), .null, .null, .null, .null, .null, .null, .null, .null]) := h43
  have h44 := (hF 44 (by decide)).trans h44
  have h45 := (hF 45 (by decide)).trans h45
  have h46 := (hF 46 (by decide)).trans h46
  have h47 := (hF 47 (by decide)).trans h47
  have h48 := (hF 48 (by decide)).trans h48
  have h49 := (hF 49 (by decide)).trans h49
  have h50 := (hF 50 (by decide)).trans h50
  have h51 := (hF 51 (by decide)).trans h51
  have h52 := (hF 52 (by decide)).trans h52
  have h53 := (hF 53 (by decide)).trans h53
  have h54 := (hF 54 (by decide)).trans h54
  have h55 := (hF 55 (by decide)).trans h55
  have h56 := (hF 56 (by decide)).trans h56
  have h57 := (hF 57 (by decide)).trans h57
  have h58 := (hF 58 (by decide)).trans h58
  have h59 := (hF 59 (by decide)).trans h59
  have h60 := (hF 60 (by decide)).trans h60
  have h61 := (hF 61 (by decide)).trans h61
  have h62 := (hF 62 (by decide)).trans h62
  have h63 := (hF 63 (by decide)).trans h63
  have h64 := (hF 64 (by decide)).trans h64
  have h65 := (hF 65 (by decide)).trans h65
  have hFF := kF_st hFF hF (by first | decide | simp)
  refine lv_aload_n C.1 C.2.1 dX9_init_188 rfl (lv_at hl 0 rfl) ?_
  refine lv_sipush (v := nI 300) C.1 C.2.1 dX9_init_189 (by decide) ?_
  refine k_newI C hw q_38 300 rfl (by decide) (Nat.le_of_ble_eq_true rfl) (Nat.le_of_ble_eq_true rfl) dX9_init_192 (fun M_45 H hw h66 hF => ?_)
  have h43 := (hF 43 (by decide)).trans h43
  have h44 := (hF 44 (by decide)).trans h44
  have h45 := (hF 45 (by decide)).trans h45
  have h46 := (hF 46 (by decide)).trans h46
  have h47 := (hF 47 (by decide)).trans h47
  have h48 := (hF 48 (by decide)).trans h48
  have h49 := (hF 49 (by decide)).trans h49
  have h50 := (hF 50 (by decide)).trans h50
  have h51 := (hF 51 (by decide)).trans h51
  have h52 := (hF 52 (by decide)).trans h52
  have h53 := (hF 53 (by decide)).trans h53
  have h54 := (hF 54 (by decide)).trans h54
  have h55 := (hF 55 (by decide)).trans h55
  have h56 := (hF 56 (by decide)).trans h56
  have h57 := (hF 57 (by decide)).trans h57
  have h58 := (hF 58 (by decide)).trans h58
  have h59 := (hF 59 (by decide)).trans h59
  have h60 := (hF 60 (by decide)).trans h60
  have h61 := (hF 61 (by decide)).trans h61
  have h62 := (hF 62 (by decide)).trans h62
  have h63 := (hF 63 (by decide)).trans h63
  have h64 := (hF 64 (by decide)).trans h64
  have h65 := (hF 65 (by decide)).trans h65
  have hFF := kF_st hFF hF (by first | decide | simp)
  refine k_putF (tf := .array .int) C hw 43 (by decide) h43 rfl inlX9 tyX9 tyX9_ok nmX9 33 (by decide) q_146 rfl hnm rfl (by decide +kernel) rfl rfl (Nat.le_of_ble_eq_true rfl) dX9_init_194 (fun M_46 H locs hw h43 hF => ?_)
  have h43 : M_46 43 = .inr (9, [.int 0, .int 0, .int 0, .int 0, .ref (b + 44), .ref (b + 45), .ref (b + 46), .ref (b + 47), .int 0, .ref (b + 48), .ref (b + 49), .ref (b + 50), .ref (b + 51), .ref (b + 52), .int 0, .ref (b + 53), .ref (b + 54), .ref (b + 55), .int 0, .int 0, .ref (b + 56), .ref (b + 57), .int 0, .ref (b + 58), .ref (b + 59), .ref (b + 60), .ref (b + 61), .int 0, .int 0, .ref (b + 62), .ref (b + 63), .ref (b + 64), .ref (b + 65), .ref (b + 66), .null, .null, .null, .null, .null, .null, .null]) := h43
  have h44 := (hF 44 (by decide)).trans h44
  have h45 := (hF 45 (by decide)).trans h45
  have h46 := (hF 46 (by decide)).trans h46
  have h47 := (hF 47 (by decide)).trans h47
  have h48 := (hF 48 (by decide)).trans h48
  have h49 := (hF 49 (by decide)).trans h49
  have h50 := (hF 50 (by decide)).trans h50
  have h51 := (hF 51 (by decide)).trans h51
  have h52 := (hF 52 (by decide)).trans h52
  have h53 := (hF 53 (by decide)).trans h53
  have h54 := (hF 54 (by decide)).trans h54
  have h55 := (hF 55 (by decide)).trans h55
  have h56 := (hF 56 (by decide)).trans h56
  have h57 := (hF 57 (by decide)).trans h57
  have h58 := (hF 58 (by decide)).trans h58
  have h59 := (hF 59 (by decide)).trans h59
  have h60 := (hF 60 (by decide)).trans h60
  have h61 := (hF 61 (by decide)).trans h61
  have h62 := (hF 62 (by decide)).trans h62
  have h63 := (hF 63 (by decide)).trans h63
  have h64 := (hF 64 (by decide)).trans h64
  have h65 := (hF 65 (by decide)).trans h65
  have h66 := (hF 66 (by decide)).trans h66
  have hFF := kF_st hFF hF (by first | decide | simp)
  refine lv_aload_n C.1 C.2.1 dX9_init_197 rfl (lv_at hl 0 rfl) ?_
  refine lv_sipush (v := nI 300) C.1 C.2.1 dX9_init_198 (by decide) ?_
  refine k_newJ C hw q_89 300 rfl (by decide) (Nat.le_of_ble_eq_true rfl) (Nat.le_of_ble_eq_true rfl) dX9_init_201 (fun M_47 H hw h67 hF => ?_)
  have h43 := (hF 43 (by decide)).trans h43
  have h44 := (hF 44 (by decide)).trans h44
  have h45 := (hF 45 (by decide)).trans h45
  have h46 := (hF 46 (by decide)).trans h46
  have h47 := (hF 47 (by decide)).trans h47
  have h48 := (hF 48 (by decide)).trans h48
  have h49 := (hF 49 (by decide)).trans h49
  have h50 := (hF 50 (by decide)).trans h50
  have h51 := (hF 51 (by decide)).trans h51
  have h52 := (hF 52 (by decide)).trans h52
  have h53 := (hF 53 (by decide)).trans h53
  have h54 := (hF 54 (by decide)).trans h54
  have h55 := (hF 55 (by decide)).trans h55
  have h56 := (hF 56 (by decide)).trans h56
  have h57 := (hF 57 (by decide)).trans h57
  have h58 := (hF 58 (by decide)).trans h58
  have h59 := (hF 59 (by decide)).trans h59
  have h60 := (hF 60 (by decide)).trans h60
  have h61 := (hF 61 (by decide)).trans h61
  have h62 := (hF 62 (by decide)).trans h62
  have h63 := (hF 63 (by decide)).trans h63
  have h64 := (hF 64 (by decide)).trans h64
  have h65 := (hF 65 (by decide)).trans h65
  have h66 := (hF 66 (by decide)).trans h66
  have hFF := kF_st hFF hF (by first | decide | simp)
  refine k_putF (tf := .array .long) C hw 43 (by decide) h43 rfl inlX9 tyX9 tyX9_ok nmX9 34 (by decide) q_147 rfl hnm rfl (by decide +kernel) rfl rfl (Nat.le_of_ble_eq_true rfl) dX9_init_203 (fun M_48 H locs hw h43 hF => ?_)
  have h43 : M_48 43 = .inr (9, [.int 0, .int 0, .int 0, .int 0, .ref (b + 44), .ref (b + 45), .ref (b + 46), .ref (b + 47), .int 0, .ref (b + 48), .ref (b + 49), .ref (b + 50), .ref (b + 51), .ref (b + 52), .int 0, .ref (b + 53), .ref (b + 54), .ref (b + 55), .int 0, .int 0, .ref (b + 56), .ref (b + 57), .int 0, .ref (b + 58), .ref (b + 59), .ref (b + 60), .ref (b + 61), .int 0, .int 0, .ref (b + 62), .ref (b + 63), .ref (b + 64), .ref (b + 65), .ref (b + 66), .ref (b + 67), .null, .null, .null, .null, .null, .null]) := h43
  have h44 := (hF 44 (by decide)).trans h44
  have h45 := (hF 45 (by decide)).trans h45
  have h46 := (hF 46 (by decide)).trans h46
  have h47 := (hF 47 (by decide)).trans h47
  have h48 := (hF 48 (by decide)).trans h48
  have h49 := (hF 49 (by decide)).trans h49
  have h50 := (hF 50 (by decide)).trans h50
  have h51 := (hF 51 (by decide)).trans h51
  have h52 := (hF 52 (by decide)).trans h52
  have h53 := (hF 53 (by decide)).trans h53
  have h54 := (hF 54 (by decide)).trans h54
  have h55 := (hF 55 (by decide)).trans h55
  have h56 := (hF 56 (by decide)).trans h56
  have h57 := (hF 57 (by decide)).trans h57
  have h58 := (hF 58 (by decide)).trans h58
  have h59 := (hF 59 (by decide)).trans h59
  have h60 := (hF 60 (by decide)).trans h60
  have h61 := (hF 61 (by decide)).trans h61
  have h62 := (hF 62 (by decide)).trans h62
  have h63 := (hF 63 (by decide)).trans h63
  have h64 := (hF 64 (by decide)).trans h64
  have h65 := (hF 65 (by decide)).trans h65
  have h66 := (hF 66 (by decide)).trans h66
  have h67 := (hF 67 (by decide)).trans h67
  have hFF := kF_st hFF hF (by first | decide | simp)
  refine lv_aload_n C.1 C.2.1 dX9_init_206 rfl (lv_at hl 0 rfl) ?_
  refine lv_iconst (v := nI 3) C.1 C.2.1 dX9_init_207 (by decide) ?_
  refine k_newI C hw q_38 3 rfl (by decide) (Nat.le_of_ble_eq_true rfl) (Nat.le_of_ble_eq_true rfl) dX9_init_208 (fun M_49 H hw h68 hF => ?_)
  have h43 := (hF 43 (by decide)).trans h43
  have h44 := (hF 44 (by decide)).trans h44
  have h45 := (hF 45 (by decide)).trans h45
  have h46 := (hF 46 (by decide)).trans h46
  have h47 := (hF 47 (by decide)).trans h47
  have h48 := (hF 48 (by decide)).trans h48
  have h49 := (hF 49 (by decide)).trans h49
  have h50 := (hF 50 (by decide)).trans h50
  have h51 := (hF 51 (by decide)).trans h51
  have h52 := (hF 52 (by decide)).trans h52
  have h53 := (hF 53 (by decide)).trans h53
  have h54 := (hF 54 (by decide)).trans h54
  have h55 := (hF 55 (by decide)).trans h55
  have h56 := (hF 56 (by decide)).trans h56
  have h57 := (hF 57 (by decide)).trans h57
  have h58 := (hF 58 (by decide)).trans h58
  have h59 := (hF 59 (by decide)).trans h59
  have h60 := (hF 60 (by decide)).trans h60
  have h61 := (hF 61 (by decide)).trans h61
  have h62 := (hF 62 (by decide)).trans h62
  have h63 := (hF 63 (by decide)).trans h63
  have h64 := (hF 64 (by decide)).trans h64
  have h65 := (hF 65 (by decide)).trans h65
  have h66 := (hF 66 (by decide)).trans h66
  have h67 := (hF 67 (by decide)).trans h67
  have hFF := kF_st hFF hF (by first | decide | simp)
  refine k_putF (tf := .array .int) C hw 43 (by decide) h43 rfl inlX9 tyX9 tyX9_ok nmX9 35 (by decide) q_148 rfl hnm rfl (by decide +kernel) rfl rfl (Nat.le_of_ble_eq_true rfl) dX9_init_210 (fun M_50 H locs hw h43 hF => ?_)
  have h43 : M_50 43 = .inr (9, [.int 0, .int 0, .int 0, .int 0, .ref (b + 44), .ref (b + 45), .ref (b + 46), .ref (b + 47), .int 0, .ref (b + 48), .ref (b + 49), .ref (b + 50), .ref (b + 51), .ref (b + 52), .int 0, .ref (b + 53), .ref (b + 54), .ref (b + 55), .int 0, .int 0, .ref (b + 56), .ref (b + 57), .int 0, .ref (b + 58), .ref (b + 59), .ref (b + 60), .ref (b + 61), .int 0, .int 0, .ref (b + 62), .ref (b + 63), .ref (b + 64), .ref (b + 65), .ref (b + 66), .ref (b + 67), .ref (b + 68), .null, .null, .null, .null, .null]) := h43
  have h44 := (hF 44 (by decide)).trans h44
  have h45 := (hF 45 (by decide)).trans h45
  have h46 := (hF 46 (by decide)).trans h46
  have h47 := (hF 47 (by decide)).trans h47
  have h48 := (hF 48 (by decide)).trans h48
  have h49 := (hF 49 (by decide)).trans h49
  have h50 := (hF 50 (by decide)).trans h50
  have h51 := (hF 51 (by decide)).trans h51
  have h52 := (hF 52 (by decide)).trans h52
  have h53 := (hF 53 (by decide)).trans h53
  have h54 := (hF 54 (by decide)).trans h54
  have h55 := (hF 55 (by decide)).trans h55
  have h56 := (hF 56 (by decide)).trans h56
  have h57 := (hF 57 (by decide)).trans h57
  have h58 := (hF 58 (by decide)).trans h58
  have h59 := (hF 59 (by decide)).trans h59
  have h60 := (hF 60 (by decide)).trans h60
  have h61 := (hF 61 (by decide)).trans h61
  have h62 := (hF 62 (by decide)).trans h62
  have h63 := (hF 63 (by decide)).trans h63
  have h64 := (hF 64 (by decide)).trans h64
  have h65 := (hF 65 (by decide)).trans h65
  have h66 := (hF 66 (by decide)).trans h66
  have h67 := (hF 67 (by decide)).trans h67
  have h68 := (hF 68 (by decide)).trans h68
  have hFF := kF_st hFF hF (by first | decide | simp)
  refine lv_aload_n C.1 C.2.1 dX9_init_213 rfl (lv_at hl 0 rfl) ?_
  refine lv_iconst (v := nI 3) C.1 C.2.1 dX9_init_214 (by decide) ?_
  refine k_newI C hw q_38 3 rfl (by decide) (Nat.le_of_ble_eq_true rfl) (Nat.le_of_ble_eq_true rfl) dX9_init_215 (fun M_51 H hw h69 hF => ?_)
  have h43 := (hF 43 (by decide)).trans h43
  have h44 := (hF 44 (by decide)).trans h44
  have h45 := (hF 45 (by decide)).trans h45
  have h46 := (hF 46 (by decide)).trans h46
  have h47 := (hF 47 (by decide)).trans h47
  have h48 := (hF 48 (by decide)).trans h48
  have h49 := (hF 49 (by decide)).trans h49
  have h50 := (hF 50 (by decide)).trans h50
  have h51 := (hF 51 (by decide)).trans h51
  have h52 := (hF 52 (by decide)).trans h52
  have h53 := (hF 53 (by decide)).trans h53
  have h54 := (hF 54 (by decide)).trans h54
  have h55 := (hF 55 (by decide)).trans h55
  have h56 := (hF 56 (by decide)).trans h56
  have h57 := (hF 57 (by decide)).trans h57
  have h58 := (hF 58 (by decide)).trans h58
  have h59 := (hF 59 (by decide)).trans h59
  have h60 := (hF 60 (by decide)).trans h60
  have h61 := (hF 61 (by decide)).trans h61
  have h62 := (hF 62 (by decide)).trans h62
  have h63 := (hF 63 (by decide)).trans h63
  have h64 := (hF 64 (by decide)).trans h64
  have h65 := (hF 65 (by decide)).trans h65
  have h66 := (hF 66 (by decide)).trans h66
  have h67 := (hF 67 (by decide)).trans h67
  have h68 := (hF 68 (by decide)).trans h68
  have hFF := kF_st hFF hF (by first | decide | simp)
  refine k_putF (tf := .array .int) C hw 43 (by decide) h43 rfl inlX9 tyX9 tyX9_ok nmX9 36 (by decide) q_149 rfl hnm rfl (by decide +kernel) rfl rfl (Nat.le_of_ble_eq_true rfl) dX9_init_217 (fun M_52 H locs hw h43 hF => ?_)
  have h43 : M_52 43 = .inr (9, [.int 0, .int 0, .int 0, .int 0, .ref (b + 44), .ref (b + 45), .ref (b + 46), .ref (b + 47), .int 0, .ref (b + 48), .ref (b + 49), .ref (b + 50), .ref (b + 51), .ref (b + 52), .int 0, .ref (b + 53), .ref (b + 54), .ref (b + 55), .int 0, .int 0, .ref (b + 56), .ref (b + 57), .int 0, .ref (b + 58), .ref (b + 59), .ref (b + 60), .ref (b + 61), .int 0, .int 0, .ref (b + 62), .ref (b + 63), .ref (b + 64), .ref (b + 65), .ref (b + 66), .ref (b + 67), .ref (b + 68), .ref (b + 69), .null, .null, .null, .null]) := h43
  have h44 := (hF 44 (by decide)).trans h44
  have h45 := (hF 45 (by decide)).trans h45
  have h46 := (hF 46 (by decide)).trans h46
  have h47 := (hF 47 (by decide)).trans h47
  have h48 := (hF 48 (by decide)).trans h48
  have h49 := (hF 49 (by decide)).trans h49
  have h50 := (hF 50 (by decide)).trans h50
  have h51 := (hF 51 (by decide)).trans h51
  have h52 := (hF 52 (by decide)).trans h52
  have h53 := (hF 53 (by decide)).trans h53
  have h54 := (hF 54 (by decide)).trans h54
  have h55 := (hF 55 (by decide)).trans h55
  have h56 := (hF 56 (by decide)).trans h56
  have h57 := (hF 57 (by decide)).trans h57
  have h58 := (hF 58 (by decide)).trans h58
  have h59 := (hF 59 (by decide)).trans h59
  have h60 := (hF 60 (by decide)).trans h60
  have h61 := (hF 61 (by decide)).trans h61
  have h62 := (hF 62 (by decide)).trans h62
  have h63 := (hF 63 (by decide)).trans h63
  have h64 := (hF 64 (by decide)).trans h64
  have h65 := (hF 65 (by decide)).trans h65
  have h66 := (hF 66 (by decide)).trans h66
  have h67 := (hF 67 (by decide)).trans h67
  have h68 := (hF 68 (by decide)).trans h68
  have h69 := (hF 69 (by decide)).trans h69
  have hFF := kF_st hFF hF (by first | decide | simp)
  refine lv_aload_n C.1 C.2.1 dX9_init_220 rfl (lv_at hl 0 rfl) ?_
  refine lv_bipush (v := nI 120) C.1 C.2.1 dX9_init_221 (by decide) ?_
  refine k_newI C hw q_38 120 rfl (by decide) (Nat.le_of_ble_eq_true rfl) (Nat.le_of_ble_eq_true rfl) dX9_init_223 (fun M_53 H hw h70 hF => ?_)
  have h43 := (hF 43 (by decide)).trans h43
  have h44 := (hF 44 (by decide)).trans h44
  have h45 := (hF 45 (by decide)).trans h45
  have h46 := (hF 46 (by decide)).trans h46
  have h47 := (hF 47 (by decide)).trans h47
  have h48 := (hF 48 (by decide)).trans h48
  have h49 := (hF 49 (by decide)).trans h49
  have h50 := (hF 50 (by decide)).trans h50
  have h51 := (hF 51 (by decide)).trans h51
  have h52 := (hF 52 (by decide)).trans h52
  have h53 := (hF 53 (by decide)).trans h53
  have h54 := (hF 54 (by decide)).trans h54
  have h55 := (hF 55 (by decide)).trans h55
  have h56 := (hF 56 (by decide)).trans h56
  have h57 := (hF 57 (by decide)).trans h57
  have h58 := (hF 58 (by decide)).trans h58
  have h59 := (hF 59 (by decide)).trans h59
  have h60 := (hF 60 (by decide)).trans h60
  have h61 := (hF 61 (by decide)).trans h61
  have h62 := (hF 62 (by decide)).trans h62
  have h63 := (hF 63 (by decide)).trans h63
  have h64 := (hF 64 (by decide)).trans h64
  have h65 := (hF 65 (by decide)).trans h65
  have h66 := (hF 66 (by decide)).trans h66
  have h67 := (hF 67 (by decide)).trans h67
  have h68 := (hF 68 (by decide)).trans h68
  have h69 := (hF 69 (by decide)).trans h69
  have hFF := kF_st hFF hF (by first | decide | simp)
  refine k_putF (tf := .array .int) C hw 43 (by decide) h43 rfl inlX9 tyX9 tyX9_ok nmX9 37 (by decide) q_150 rfl hnm rfl (by decide +kernel) rfl rfl (Nat.le_of_ble_eq_true rfl) dX9_init_225 (fun M_54 H locs hw h43 hF => ?_)
  have h43 : M_54 43 = .inr (9, [.int 0, .int 0, .int 0, .int 0, .ref (b + 44), .ref (b + 45), .ref (b + 46), .ref (b + 47), .int 0, .ref (b + 48), .ref (b + 49), .ref (b + 50), .ref (b + 51), .ref (b + 52), .int 0, .ref (b + 53), .ref (b + 54), .ref (b + 55), .int 0, .int 0, .ref (b + 56), .ref (b + 57), .int 0, .ref (b + 58), .ref (b + 59), .ref (b + 60), .ref (b + 61), .int 0, .int 0, .ref (b + 62), .ref (b + 63), .ref (b + 64), .ref (b + 65), .ref (b + 66), .ref (b + 67), .ref (b + 68), .ref (b + 69), .ref (b + 70), .null, .null, .null]) := h43
  have h44 := (hF 44 (by decide)).trans h44
  have h45 := (hF 45 (by decide)).trans h45
  have h46 := (hF 46 (by decide)).trans h46
  have h47 := (hF 47 (by decide)).trans h47
  have h48 := (hF 48 (by decide)).trans h48
  have h49 := (hF 49 (by decide)).trans h49
  have h50 := (hF 50 (by decide)).trans h50
  have h51 := (hF 51 (by decide)).trans h51
  have h52 := (hF 52 (by decide)).trans h52
  have h53 := (hF 53 (by decide)).trans h53
  have h54 := (hF 54 (by decide)).trans h54
  have h55 := (hF 55 (by decide)).trans h55
  have h56 := (hF 56 (by decide)).trans h56
  have h57 := (hF 57 (by decide)).trans h57
  have h58 := (hF 58 (by decide)).trans h58
  have h59 := (hF 59 (by decide)).trans h59
  have h60 := (hF 60 (by decide)).trans h60
  have h61 := (hF 61 (by decide)).trans h61
  have h62 := (hF 62 (by decide)).trans h62
  have h63 := (hF 63 (by decide)).trans h63
  have h64 := (hF 64 (by decide)).trans h64
  have h65 := (hF 65 (by decide)).trans h65
  have h66 := (hF 66 (by decide)).trans h66
  have h67 := (hF 67 (by decide)).trans h67
  have h68 := (hF 68 (by decide)).trans h68
  have h69 := (hF 69 (by decide)).trans h69
  have h70 := (hF 70 (by decide)).trans h70
  have hFF := kF_st hFF hF (by first | decide | simp)
  refine lv_aload_n C.1 C.2.1 dX9_init_228 rfl (lv_at hl 0 rfl) ?_
  refine lv_bipush (v := nI 120) C.1 C.2.1 dX9_init_229 (by decide) ?_
  refine k_newI C hw q_38 120 rfl (by decide) (Nat.le_of_ble_eq_true rfl) (Nat.le_of_ble_eq_true rfl) dX9_init_231 (fun M_55 H hw h71 hF => ?_)
  have h43 := (hF 43 (by decide)).trans h43
  have h44 := (hF 44 (by decide)).trans h44
  have h45 := (hF 45 (by decide)).trans h45
  have h46 := (hF 46 (by decide)).trans h46
  have h47 := (hF 47 (by decide)).trans h47
  have h48 := (hF 48 (by decide)).trans h48
  have h49 := (hF 49 (by decide)).trans h49
  have h50 := (hF 50 (by decide)).trans h50
  have h51 := (hF 51 (by decide)).trans h51
  have h52 := (hF 52 (by decide)).trans h52
  have h53 := (hF 53 (by decide)).trans h53
  have h54 := (hF 54 (by decide)).trans h54
  have h55 := (hF 55 (by decide)).trans h55
  have h56 := (hF 56 (by decide)).trans h56
  have h57 := (hF 57 (by decide)).trans h57
  have h58 := (hF 58 (by decide)).trans h58
  have h59 := (hF 59 (by decide)).trans h59
  have h60 := (hF 60 (by decide)).trans h60
  have h61 := (hF 61 (by decide)).trans h61
  have h62 := (hF 62 (by decide)).trans h62
  have h63 := (hF 63 (by decide)).trans h63
  have h64 := (hF 64 (by decide)).trans h64
  have h65 := (hF 65 (by decide)).trans h65
  have h66 := (hF 66 (by decide)).trans h66
  have h67 := (hF 67 (by decide)).trans h67
  have h68 := (hF 68 (by decide)).trans h68
  have h69 := (hF 69 (by decide)).trans h69
  have h70 := (hF 70 (by decide)).trans h70
  have hFF := kF_st hFF hF (by first | decide | simp)
  refine k_putF (tf := .array .int) C hw 43 (by decide) h43 rfl inlX9 tyX9 tyX9_ok nmX9 38 (by decide) q_151 rfl hnm rfl (by decide +kernel) rfl rfl (Nat.le_of_ble_eq_true rfl) dX9_init_233 (fun M_56 H locs hw h43 hF => ?_)
  have h43 : M_56 43 = .inr (9, [.int 0, .int 0, .int 0, .int 0, .ref (b + 44), .ref (b + 45), .ref (b + 46), .ref (b + 47), .int 0, .ref (b + 48), .ref (b + 49), .ref (b + 50), .ref (b + 51), .ref (b + 52), .int 0, .ref (b + 53), .ref (b + 54), .ref (b + 55), .int 0, .int 0, .ref (b + 56), .ref (b + 57), .int 0, .ref (b + 58), .ref (b + 59), .ref (b + 60), .ref (b + 61), .int 0, .int 0, .ref (b + 62), .ref (b + 63), .ref (b + 64), .ref (b + 65), .ref (b + 66), .ref (b + 67), .ref (b + 68), .ref (b + 69), .ref (b + 70), .ref (b + 71), .null, .null]) := h43
  have h44 := (hF 44 (by decide)).trans h44
  have h45 := (hF 45 (by decide)).trans h45
  have h46 := (hF 46 (by decide)).trans h46
  have h47 := (hF 47 (by decide)).trans h47
  have h48 := (hF 48 (by decide)).trans h48
  have h49 := (hF 49 (by decide)).trans h49
  have h50 := (hF 50 (by decide)).trans h50
  have h51 := (hF 51 (by decide)).trans h51
  have h52 := (hF 52 (by decide)).trans h52
  have h53 := (hF 53 (by decide)).trans h53
  have h54 := (hF 54 (by decide)).trans h54
  have h55 := (hF 55 (by decide)).trans h55
  have h56 := (hF 56 (by decide)).trans h56
  have h57 := (hF 57 (by decide)).trans h57
  have h58 := (hF 58 (by decide)).trans h58
  have h59 := (hF 59 (by decide)).trans h59
  have h60 := (hF 60 (by decide)).trans h60
  have h61 := (hF 61 (by decide)).trans h61
  have h62 := (hF 62 (by decide)).trans h62
  have h63 := (hF 63 (by decide)).trans h63
  have h64 := (hF 64 (by decide)).trans h64
  have h65 := (hF 65 (by decide)).trans h65
  have h66 := (hF 66 (by decide)).trans h66
  have h67 := (hF 67 (by decide)).trans h67
  have h68 := (hF 68 (by decide)).trans h68
  have h69 := (hF 69 (by decide)).trans h69
  have h70 := (hF 70 (by decide)).trans h70
  have h71 := (hF 71 (by decide)).trans h71
  have hFF := kF_st hFF hF (by first | decide | simp)
  refine lv_aload_n C.1 C.2.1 dX9_init_236 rfl (lv_at hl 0 rfl) ?_
  refine lv_bipush (v := nI 32) C.1 C.2.1 dX9_init_237 (by decide) ?_
  refine k_newI C hw q_38 32 rfl (by decide) (Nat.le_of_ble_eq_true rfl) (Nat.le_of_ble_eq_true rfl) dX9_init_239 (fun M_57 H hw h72 hF => ?_)
  have h43 := (hF 43 (by decide)).trans h43
  have h44 := (hF 44 (by decide)).trans h44
  have h45 := (hF 45 (by decide)).trans h45
  have h46 := (hF 46 (by decide)).trans h46
  have h47 := (hF 47 (by decide)).trans h47
  have h48 := (hF 48 (by decide)).trans h48
  have h49 := (hF 49 (by decide)).trans h49
  have h50 := (hF 50 (by decide)).trans h50
  have h51 := (hF 51 (by decide)).trans h51
  have h52 := (hF 52 (by decide)).trans h52
  have h53 := (hF 53 (by decide)).trans h53
  have h54 := (hF 54 (by decide)).trans h54
  have h55 := (hF 55 (by decide)).trans h55
  have h56 := (hF 56 (by decide)).trans h56
  have h57 := (hF 57 (by decide)).trans h57
  have h58 := (hF 58 (by decide)).trans h58
  have h59 := (hF 59 (by decide)).trans h59
  have h60 := (hF 60 (by decide)).trans h60
  have h61 := (hF 61 (by decide)).trans h61
  have h62 := (hF 62 (by decide)).trans h62
  have h63 := (hF 63 (by decide)).trans h63
  have h64 := (hF 64 (by decide)).trans h64
  have h65 := (hF 65 (by decide)).trans h65
  have h66 := (hF 66 (by decide)).trans h66
  have h67 := (hF 67 (by decide)).trans h67
  have h68 := (hF 68 (by decide)).trans h68
  have h69 := (hF 69 (by decide)).trans h69
  have h70 := (hF 70 (by decide)).trans h70
  have h71 := (hF 71 (by decide)).trans h71
  have hFF := kF_st hFF hF (by first | decide | simp)
  refine k_putF (tf := .array .int) C hw 43 (by decide) h43 rfl inlX9 tyX9 tyX9_ok nmX9 39 (by decide) q_152 rfl hnm rfl (by decide +kernel) rfl rfl (Nat.le_of_ble_eq_true rfl) dX9_init_241 (fun M_58 H locs hw h43 hF => ?_)
  have h43 : M_58 43 = .inr (9, [.int 0, .int 0, .int 0, .int 0, .ref (b + 44), .ref (b + 45), .ref (b + 46), .ref (b + 47), .int 0, .ref (b + 48), .ref (b + 49), .ref (b + 50), .ref (b + 51), .ref (b + 52), .int 0, .ref (b + 53), .ref (b + 54), .ref (b + 55), .int 0, .int 0, .ref (b + 56), .ref (b + 57), .int 0, .ref (b + 58), .ref (b + 59), .ref (b + 60), .ref (b + 61), .int 0, .int 0, .ref (b + 62), .ref (b + 63), .ref (b + 64), .ref (b + 65), .ref (b + 66), .ref (b + 67), .ref (b + 68), .ref (b + 69), .ref (b + 70), .ref (b + 71), .ref (b + 72), .null]) := h43
  have h44 := (hF 44 (by decide)).trans h44
  have h45 := (hF 45 (by decide)).trans h45
  have h46 := (hF 46 (by decide)).trans h46
  have h47 := (hF 47 (by decide)).trans h47
  have h48 := (hF 48 (by decide)).trans h48
  have h49 := (hF 49 (by decide)).trans h49
  have h50 := (hF 50 (by decide)).trans h50
  have h51 := (hF 51 (by decide)).trans h51
  have h52 := (hF 52 (by decide)).trans h52
  have h53 := (hF 53 (by decide)).trans h53
  have h54 := (hF 54 (by decide)).trans h54
  have h55 := (hF 55 (by decide)).trans h55
  have h56 := (hF 56 (by decide)).trans h56
  have h57 := (hF 57 (by decide)).trans h57
  have h58 := (hF 58 (by decide)).trans h58
  have h59 := (hF 59 (by decide)).trans h59
  have h60 := (hF 60 (by decide)).trans h60
  have h61 := (hF 61 (by decide)).trans h61
  have h62 := (hF 62 (by decide)).trans h62
  have h63 := (hF 63 (by decide)).trans h63
  have h64 := (hF 64 (by decide)).trans h64
  have h65 := (hF 65 (by decide)).trans h65
  have h66 := (hF 66 (by decide)).trans h66
  have h67 := (hF 67 (by decide)).trans h67
  have h68 := (hF 68 (by decide)).trans h68
  have h69 := (hF 69 (by decide)).trans h69
  have h70 := (hF 70 (by decide)).trans h70
  have h71 := (hF 71 (by decide)).trans h71
  have h72 := (hF 72 (by decide)).trans h72
  have hFF := kF_st hFF hF (by first | decide | simp)
  refine lv_aload_n C.1 C.2.1 dX9_init_244 rfl (lv_at hl 0 rfl) ?_
  refine lv_sipush (v := nI 429) C.1 C.2.1 dX9_init_245 (by decide) ?_
  refine k_newJ C hw q_89 429 rfl (by decide) (Nat.le_of_ble_eq_true rfl) (Nat.le_of_ble_eq_true rfl) dX9_init_248 (fun M_59 H hw h73 hF => ?_)
  have h43 := (hF 43 (by decide)).trans h43
  have h44 := (hF 44 (by decide)).trans h44
  have h45 := (hF 45 (by decide)).trans h45
  have h46 := (hF 46 (by decide)).trans h46
  have h47 := (hF 47 (by decide)).trans h47
  have h48 := (hF 48 (by decide)).trans h48
  have h49 := (hF 49 (by decide)).trans h49
  have h50 := (hF 50 (by decide)).trans h50
  have h51 := (hF 51 (by decide)).trans h51
  have h52 := (hF 52 (by decide)).trans h52
  have h53 := (hF 53 (by decide)).trans h53
  have h54 := (hF 54 (by decide)).trans h54
  have h55 := (hF 55 (by decide)).trans h55
  have h56 := (hF 56 (by decide)).trans h56
  have h57 := (hF 57 (by decide)).trans h57
  have h58 := (hF 58 (by decide)).trans h58
  have h59 := (hF 59 (by decide)).trans h59
  have h60 := (hF 60 (by decide)).trans h60
  have h61 := (hF 61 (by decide)).trans h61
  have h62 := (hF 62 (by decide)).trans h62
  have h63 := (hF 63 (by decide)).trans h63
  have h64 := (hF 64 (by decide)).trans h64
  have h65 := (hF 65 (by decide)).trans h65
  have h66 := (hF 66 (by decide)).trans h66
  have h67 := (hF 67 (by decide)).trans h67
  have h68 := (hF 68 (by decide)).trans h68
  have h69 := (hF 69 (by decide)).trans h69
  have h70 := (hF 70 (by decide)).trans h70
  have h71 := (hF 71 (by decide)).trans h71
  have h72 := (hF 72 (by decide)).trans h72
  have hFF := kF_st hFF hF (by first | decide | simp)
  refine k_putF (tf := .array .long) C hw 43 (by decide) h43 rfl inlX9 tyX9 tyX9_ok nmX9 40 (by decide) q_153 rfl hnm rfl (by decide +kernel) rfl rfl (Nat.le_of_ble_eq_true rfl) dX9_init_250 (fun M_60 H locs hw h43 hF => ?_)
  have h43 : M_60 43 = .inr (9, [.int 0, .int 0, .int 0, .int 0, .ref (b + 44), .ref (b + 45), .ref (b + 46), .ref (b + 47), .int 0, .ref (b + 48), .ref (b + 49), .ref (b + 50), .ref (b + 51), .ref (b + 52), .int 0, .ref (b + 53), .ref (b + 54), .ref (b + 55), .int 0, .int 0, .ref (b + 56), .ref (b + 57), .int 0, .ref (b + 58), .ref (b + 59), .ref (b + 60), .ref (b + 61), .int 0, .int 0, .ref (b + 62), .ref (b + 63), .ref (b + 64), .ref (b + 65), .ref (b + 66), .ref (b + 67), .ref (b + 68), .ref (b + 69), .ref (b + 70), .ref (b + 71), .ref (b + 72), .ref (b + 73)]) := h43
  have h44 := (hF 44 (by decide)).trans h44
  have h45 := (hF 45 (by decide)).trans h45
  have h46 := (hF 46 (by decide)).trans h46
  have h47 := (hF 47 (by decide)).trans h47
  have h48 := (hF 48 (by decide)).trans h48
  have h49 := (hF 49 (by decide)).trans h49
  have h50 := (hF 50 (by decide)).trans h50
  have h51 := (hF 51 (by decide)).trans h51
  have h52 := (hF 52 (by decide)).trans h52
  have h53 := (hF 53 (by decide)).trans h53
  have h54 := (hF 54 (by decide)).trans h54
  have h55 := (hF 55 (by decide)).trans h55
  have h56 := (hF 56 (by decide)).trans h56
  have h57 := (hF 57 (by decide)).trans h57
  have h58 := (hF 58 (by decide)).trans h58
  have h59 := (hF 59 (by decide)).trans h59
  have h60 := (hF 60 (by decide)).trans h60
  have h61 := (hF 61 (by decide)).trans h61
  have h62 := (hF 62 (by decide)).trans h62
  have h63 := (hF 63 (by decide)).trans h63
  have h64 := (hF 64 (by decide)).trans h64
  have h65 := (hF 65 (by decide)).trans h65
  have h66 := (hF 66 (by decide)).trans h66
  have h67 := (hF 67 (by decide)).trans h67
  have h68 := (hF 68 (by decide)).trans h68
  have h69 := (hF 69 (by decide)).trans h69
  have h70 := (hF 70 (by decide)).trans h70
  have h71 := (hF 71 (by decide)).trans h71
  have h72 := (hF 72 (by decide)).trans h72
  have h73 := (hF 73 (by decide)).trans h73
  have hFF := kF_st hFF hF (by first | decide | simp)
  refine lv_aload_n C.1 C.2.1 dX9_init_253 rfl (lv_at hl 0 rfl) ?_
  refine k_vv C hw 43 (by decide) h43 rfl (c_X9_begin (by decide) h43 h44 h45 h46 h47 h51 h52  ) kv_X9_102 rfl hl.1 ⟨Nat.le_of_ble_eq_true rfl, Nat.le_of_ble_eq_true rfl⟩ (Nat.le_of_ble_eq_true rfl) ⟨Nat.le_of_ble_eq_true rfl, Nat.le_of_ble_eq_true rfl⟩ dX9_init_254 (fun M_61 n9 H locs hp hw => ?_)
  obtain ⟨en9, hF, h43, h44, h45, h46, h47, h51, h52⟩ := hp
  have en9 : n9 = 74 := en9
  rw [en9] at hw
  have h48 := (hF 48 (by decide)).trans h48
  have h49 := (hF 49 (by decide)).trans h49
  have h50 := (hF 50 (by decide)).trans h50
  have h53 := (hF 53 (by decide)).trans h53
  have h54 := (hF 54 (by decide)).trans h54
  have h55 := (hF 55 (by decide)).trans h55
  have h56 := (hF 56 (by decide)).trans h56
  have h57 := (hF 57 (by decide)).trans h57
  have h58 := (hF 58 (by decide)).trans h58
  have h59 := (hF 59 (by decide)).trans h59
  have h60 := (hF 60 (by decide)).trans h60
  have h61 := (hF 61 (by decide)).trans h61
  have h62 := (hF 62 (by decide)).trans h62
  have h63 := (hF 63 (by decide)).trans h63
  have h64 := (hF 64 (by decide)).trans h64
  have h65 := (hF 65 (by decide)).trans h65
  have h66 := (hF 66 (by decide)).trans h66
  have h67 := (hF 67 (by decide)).trans h67
  have h68 := (hF 68 (by decide)).trans h68
  have h69 := (hF 69 (by decide)).trans h69
  have h70 := (hF 70 (by decide)).trans h70
  have h71 := (hF 71 (by decide)).trans h71
  have h72 := (hF 72 (by decide)).trans h72
  have h73 := (hF 73 (by decide)).trans h73
  have hFF := kF_st hFF hF (by first | decide | simp)
  exact hret _ _ (Nat.le_of_ble_eq_true rfl) (Nat.le_of_ble_eq_true rfl) hw (⟨rfl, hFF, h43, h44, h45, h46, h47, h48, h49, h50, h51, h52, h53, h54, h55, h56, h57, h58, h59, h60, h61, h62, h63, h64, h65, h66, h67, h68, h69, h70, h71, h72, h73⟩) dX9_init_257
