theorem vr_outer (c : ClassId) (N h0 : Nat) : ∀ i : Nat, Jvm.Free.Multi.outerC c N h0 i = arrV c N (fun j => va_rf (if j < i then some (h0 + 1 + j) else none))
  | 0 => by
    show ({ cls := c, slots := Array.replicate N .null, vm := .none } : Cell) = _
    rw [arrV_new]
    refine congrArg (arrV c N) (funext fun j => ?_)
    simp [va_rf]
  | i + 1 => by
    show (Jvm.Free.Multi.outerC c N h0 i).setSlot i (.ref (h0 + 1 + i)) = _
    rw [vr_outer c N h0 i, arrV_store]
    refine congrArg (arrV c N) (funext fun j => ?_)
    by_cases e : j = i
    · subst e
      simp [updV, va_rf]
    · by_cases h : j < i
      · simp [updV, e, h, Nat.lt_succ_of_lt h]
      · simp [updV, e, h, show ¬ j < i + 1 by omega]
section KM
variable {p : Program} {l : Launch} {e : Env} {R : Room} {s : State} {m : MethodId} {args : Array Value} {below : List Frame} {meth : Method} {c : Code} {H : Heap} {locs : List Loc} {cells slots : Nat} {Q : State → Prop}
variable {cc : ByteArray} {pc nL : Nat} {ls : Array Slot} {rest : List Value} {D : va_G} {own : String} {b n : Nat} {M : Nat → va_E} {H0 : Heap} {cI cJ cZ cH cR : ClassId}
/-- new int[N][K] -/
theorem k_mna (C : kC p s m c args cc nL own D (kT cI cJ cZ cH cR)) (h : kW D b M n H0 H locs) {index : Nat} (hcl : Cond.classLink own index ("[" ++ (FieldType.array .int).toString) ∈ kBig) (ha : Cond.arrayClass .int ∈ kBig) {v w : Int32} (N K : Nat) (hv : v = nI N) (hw : w = nI K) (hN : N < 1000) (hK : K < 1000) (hcells : cells + (1 + N) ≤ R.cells) (hslots : slots + (N + N * K) ≤ R.slots) (hd : decode cc pc = .ok (.multianewarray index 2, 4))
    (kk : ∀ (M1 : Nat → va_E) (H1 : Heap), kW D b M1 (n + 1 + N) H0 H1 locs → M1 n = .inl (cR, N, .inr (.inr (.inr (.inr (fun i => if i < N then some (b + n + 1 + i) else none))))) → (∀ i, i < N → M1 (n + 1 + i) = .inl (cI, K, .inl (fun _ => 0))) → (∀ i, (i < n ∨ n + N < i) → M1 i = M i) → W p l e R s m args below meth c H1 locs (cells + 1 + N) (slots + N + N * K) Q (F0 m (pc + 4) ls (.ref (b + n) :: rest))) : W p l e R s m args below meth c H locs cells slots Q (F0 m pc ls (.int w :: .int v :: rest)) := by
  subst hv
  subst hw
  have zN : ((nI N).toNatClampNeg) = N := nI_clamp (by omega)
  have zK : ((nI K).toNatClampNeg) = K := nI_clamp (by omega)
  intro T hT Xs
  obtain ⟨vm₁, cA, comp, -, fA, fC, hO, -, X', step⟩ := Xs.multianewarray2F C.1 C.2.2.2.1 (C.2.2.2.2.1 _ hcl) (ty := .int) (show (Cond.arrayOver (.array .int)).before args s = true from C.2.2.2.2.2.2.2) (C.2.2.2.2.1 _ ha) (g := F0 m pc ls (.int (nI K) :: .int (nI N) :: rest)) rfl (by rw [C.2.1]; exact hd) rfl (nI_pos (by omega)) (nI_pos (by omega)) (by omega) (by rw [zK]; show K * 4 ≤ _; omega) (by omega) rfl rfl (by rw [zN]; exact hcells) (by rw [zN, zK]; exact hslots)
  rw [zN, zK] at X' step
  have hcI : comp = cI := Option.some.inj (fC.symm.trans (C.2.2.2.2.2.1.2 0 _ rfl).2)
  have hcR : cA = cR := Option.some.inj (fA.symm.trans (C.2.2.2.2.2.1.2 4 _ rfl).2)
  subst hcI
  subst hcR
  generalize hF : Jvm.Free.Multi.fill (T.setVm vm₁) cA comp N K (defaultValue .int) N = F at X' step
  have hTh : (T.setVm vm₁).heap = H := hT
  obtain ⟨f1, f2, -, -⟩ := Jvm.Free.Multi.fill_facts (T.setVm vm₁) cA comp N K (defaultValue .int) N
  rw [hF, hTh] at f1 f2
  have hold : ∀ x : Nat, x < H.size → F.heap[x]? = H[x]? := fun x hx => by
    have := Jvm.Free.Multi.fill_old (T.setVm vm₁) cA comp N K (defaultValue .int) (a := x) (by rw [hTh]; exact hx) N
    rw [hF, hTh] at this
    exact this
  have hrow : ∀ j : Nat, j < N → F.heap[H.size + 1 + j]? = some (Jvm.Free.Multi.innerC comp K (defaultValue .int)) := fun j hj => by
    have := Jvm.Free.Multi.fill_inner (T.setVm vm₁) cA comp N K (defaultValue .int) N j hj
    rw [hF, hTh] at this
    exact this
  have hin : Jvm.Free.Multi.innerC comp K (defaultValue .int) = vp_cell comp (K, .inl (fun _ => 0)) := by
    rw [vp_cell_i]
    exact arrV_new ..
  rw [hin] at hrow
  rw [vr_outer] at f2
  have hsz : H.size = b + n := h.1.1
  have M9 : ∃ M1 : Nat → va_E, M1 n = .inl (cA, N, .inr (.inr (.inr (.inr (fun i => if i < N then some (b + n + 1 + i) else none))))) ∧ (∀ i, i < N → M1 (n + 1 + i) = .inl (comp, K, .inl (fun _ => 0))) ∧ (∀ i, (i < n ∨ n + N < i) → M1 i = M i) := by
    refine ⟨fun i => if i < n ∨ n + N < i then M i else if i = n then .inl (cA, N, .inr (.inr (.inr (.inr (fun i => if i < N then some (b + n + 1 + i) else none))))) else .inl (comp, K, .inl (fun _ => 0)), ?_, ?_, ?_⟩
    · simp only []
      rw [if_neg (by omega)]; exact if_pos trivial
    · intro i _
      simp only []
      rw [if_neg (by omega), if_neg (by omega)]
    · intro i hi
      simp only []
      rw [if_pos hi]
  obtain ⟨M1, m1, m2, m3⟩ := M9
  have hH : ∀ i, i < n + 1 + N → va_at D vwCl (b + i, M1 i) F.heap := by
    intro i hi
    by_cases q : i < n
    · rw [m3 i (Or.inl q)]
      exact (h.1.2 i q).kept (hold _ (by rw [hsz]; show b + i < b + n; omega))
    · by_cases q2 : i = n
      · subst q2
        rw [m1]
        show F.heap[b + i]? = some (vp_cell _ _)
        rw [vp_cell_q, ← hsz]
        exact f2
      · obtain ⟨j, rfl⟩ : ∃ j, i = n + 1 + j := ⟨i - (n + 1), by omega⟩
        rw [m2 j (by omega)]
        have := hrow j (by omega)
        rw [hsz, show b + n + 1 + j = b + (n + 1 + j) by omega] at this
        exact this
  obtain ⟨t, a1, b1⟩ := kk M1 F.heap ⟨⟨by rw [f1, hsz]; omega, hH⟩, by rw [f1]; have := h.2.1; omega, fun x h1 h2 => (hold x (Nat.lt_of_lt_of_le h1 h.2.1)).trans (h.2.2.1 x h1 h2), h.2.2.2⟩ m1 m2 m3 F rfl X'
  refine ⟨t, step t ?_, b1⟩
  have e : T.heap.size = b + n := by rw [hT]; exact hsz
  rw [e]
  exact a1
/-- System.arraycopy over ints -/
theorem k_copyi (C : kC p s m c args cc nL own D (kT cI cJ cZ cH cR)) (h : kW D b M n H0 H locs) (hls : ls.size = nL) {index : Nat} (hl : Cond.methodLink own index arraycopyName ∈ kBig) (hnat : Cond.native arraycopyName ∈ kBig) (hstat : Cond.static arraycopyName ∈ kBig) (hini : Cond.initialized "java/lang/System" ∈ kBig) (i0 i1 : Nat) (hi0 : i0 < n) (hi1 : i1 < n) {n0 n1 : Nat} {f g : Nat → Int32} (he0 : M i0 = .inl (cI, n0, .inl f)) (he1 : M i1 = .inl (cI, n1, .inl g)) {sp dp k : Nat} (h4 : sp + k ≤ n0) (h5 : dp + k ≤ n1) (hn0 : n0 < 2 ^ 31) (hn1 : n1 < 2 ^ 31)
    (hframes : 1 ≤ R.frames) (hlocals : (rest.map fun v => v.category).sum + (nativeFrameWords "java/lang/System" "arraycopy" 5 + 11) ≤ R.locals) (hd : decode cc pc = .ok (.invokestatic index, 3))
    (kk : ∀ (M1 : Nat → va_E) (H1 : Heap) (locs1 : List Loc), kW D b M1 n H0 H1 locs1 → M1 i1 = .inl (cI, n1, .inl (va_cpy f g sp dp k)) → kF [i1] M M1 → W p l e R s m args below meth c H1 locs1 cells slots Q (F0 m (pc + 3) ls rest)) : W p l e R s m args below meth c H locs cells slots Q (F0 m pc ls (.int (nI k) :: .int (nI dp) :: .ref (b + i1) :: .int (nI sp) :: .ref (b + i0) :: rest)) := by
  have z1 : ((nI sp).toNatClampNeg) = sp := nI_clamp (by omega)
  have z2 : ((nI dp).toNatClampNeg) = dp := nI_clamp (by omega)
  have z3 : ((nI k).toNatClampNeg) = k := nI_clamp (by omega)
  have t1 : (nI sp).toInt = (sp : Int) := nI_toInt (by omega)
  have t2 : (nI dp).toInt = (dp : Int) := nI_toInt (by omega)
  have t3 : (nI k).toInt = (k : Int) := nI_toInt (by omega)
  intro T hT X
  have hc0 : H[b + i0]? = some (vp_cell cI (n0, .inl f)) := kP1 h.1 hi0 0 (b + i0, .inl (cI, n0, .inl f)) (by rw [he0]; rfl)
  have hc1 : H[b + i1]? = some (vp_cell cI (n1, .inl g)) := kP1 h.1 hi1 0 (b + i1, .inl (cI, n1, .inl g)) (by rw [he1]; rfl)
  obtain ⟨-, k0, hk0, cm0, hkk0⟩ := (C.2.2.2.2.2.1.2 0 _ rfl).1 n0 (fun j => .int (f j))
  obtain ⟨-, k1, hk1, cm1, hkk1⟩ := (C.2.2.2.2.2.1.2 0 _ rfl).1 n1 (fun j => .int (g j))
  obtain ⟨vm', X', step⟩ := X.arraycopy C.1 C.2.2.2.1 (C.2.2.2.2.1 _ hl) (C.2.2.2.2.1 _ hnat) (C.2.2.2.2.1 _ hstat) (C.2.2.2.2.1 _ hini) (src := b + i0) (dst := b + i1) (cs := vp_cell cI (n0, .inl f)) (cd := vp_cell cI (n1, .inl g)) (srcPos := nI sp) (destPos := nI dp) (n := nI k) (by rw [hT]; exact hc0) (by rw [hT]; exact hc1)
    (fun _ h => by cases h) (fun _ h => by cases h) (fun h => by cases h) (fun h => by cases h) hk0 hk1 hkk0 hkk1 (by simp [refKind]) (nI_pos (by omega)) (nI_pos (by omega)) (nI_pos (by omega))
    (by rw [t1, t3]; show ¬ _ > ((arrV cI n0 (fun j => .int (f j))).slots.size : Int); rw [arrV_size]; omega)
    (by rw [t2, t3]; show ¬ _ > ((arrV cI n1 (fun j => .int (g j))).slots.size : Int); rw [arrV_size]; omega)
    (fun vm₁ _ i hi => by
      rw [z3] at hi
      have e : (vp_cell cI (n0, .inl f)).slots.getD ((nI sp).toNatClampNeg + i) .null = .int (f (sp + i)) := by
        show (arrV cI n0 (fun j => .int (f j))).slots.getD _ _ = _
        rw [z1, Array.getD_eq_getD_getElem?, arrV_read _ _ (by omega)]
        rfl
      refine ⟨?_, ?_⟩
      · rw [e]
        rfl
      · rw [e]
        exact trivial)
    (g := F0 m pc ls (.int (nI k) :: .int (nI dp) :: .ref (b + i1) :: .int (nI sp) :: .ref (b + i0) :: rest)) rfl (by rw [C.2.2.1]; exact hls) (rest := rest) rfl (by rw [C.2.1]; exact hd) hframes (by show 2 * 0 + _ + _ ≤ _; omega)
  have e1 : copied (vp_cell cI (n0, .inl f)) (vp_cell cI (n1, .inl g)) (nI sp) (nI dp) (nI k) = vp_cell cI (n1, .inl (va_cpy f g sp dp k)) := by
    have e9 : copied (vp_cell cI (n0, .inl f)) (vp_cell cI (n1, .inl g)) (nI sp) (nI dp) (nI k) = vp_cell cI (n1, .inl (va_cpy f g (nI sp).toNatClampNeg (nI dp).toNatClampNeg (nI k).toNatClampNeg)) := va_copied (fun z => .int z) cI cI f g (by rw [z1, z3]; exact h4)
    rw [z1, z2, z3] at e9
    exact e9
  rw [e1] at X' step
  have hlt : b + i1 < H.size := (Array.getElem?_eq_some_iff.mp hc1).1
  have hheap : ((T.setVm vm').setCell (b + i1) (vp_cell cI (n1, .inl (va_cpy f g sp dp k)))).heap = H.setIfInBounds (b + i1) (vp_cell cI (n1, .inl (va_cpy f g sp dp k))) := by rw [← hT]; rfl
  have oq : ∀ q : Nat, q ≠ b + i1 → (H.setIfInBounds (b + i1) (vp_cell cI (n1, .inl (va_cpy f g sp dp k))))[q]? = H[q]? := fun q hq => by simp [Array.getElem?_setIfInBounds, Ne.symm hq]
  obtain ⟨t, a1, b1⟩ := kk (va_up M i1 (.inl (cI, n1, .inl (va_cpy f g sp dp k)))) _ _ ⟨kH_up h.1 (by simp) oq (show (H.setIfInBounds (b + i1) _)[b + i1]? = some _ by simp [Array.getElem?_setIfInBounds, hlt]), ⟨by simp; exact h.2.1, fun q g1 g2 => by
      rw [oq q (fun e => g2 (by rw [e]; exact Nat.le_add_right _ _))]
      exact h.2.2.1 q g1 g2, fun q hq => by
      rcases List.mem_append.mp hq with h9 | h9
      · exact h.2.2.2 q h9
      · obtain ⟨z, -, hz⟩ := List.mem_map.mp h9
        rw [← hz]
        exact Nat.le_add_right _ _⟩⟩ (if_pos rfl) kF_up _ hheap X'
  exact ⟨t, step t a1, b1⟩
theorem k_copyl (C : kC p s m c args cc nL own D (kT cI cJ cZ cH cR)) (h : kW D b M n H0 H locs) (hls : ls.size = nL) {index : Nat} (hl : Cond.methodLink own index arraycopyName ∈ kBig) (hnat : Cond.native arraycopyName ∈ kBig) (hstat : Cond.static arraycopyName ∈ kBig) (hini : Cond.initialized "java/lang/System" ∈ kBig) (i0 i1 : Nat) (hi0 : i0 < n) (hi1 : i1 < n) {n0 n1 : Nat} {f g : Nat → Int64} (he0 : M i0 = .inl (cJ, n0, .inr (.inl f))) (he1 : M i1 = .inl (cJ, n1, .inr (.inl g))) {sp dp k : Nat} (h4 : sp + k ≤ n0) (h5 : dp + k ≤ n1) (hn0 : n0 < 2 ^ 31) (hn1 : n1 < 2 ^ 31)
    (hframes : 1 ≤ R.frames) (hlocals : (rest.map fun v => v.category).sum + (nativeFrameWords "java/lang/System" "arraycopy" 5 + 11) ≤ R.locals) (hd : decode cc pc = .ok (.invokestatic index, 3))
    (kk : ∀ (M1 : Nat → va_E) (H1 : Heap) (locs1 : List Loc), kW D b M1 n H0 H1 locs1 → M1 i1 = .inl (cJ, n1, .inr (.inl (va_cpy f g sp dp k))) → kF [i1] M M1 → W p l e R s m args below meth c H1 locs1 cells slots Q (F0 m (pc + 3) ls rest)) : W p l e R s m args below meth c H locs cells slots Q (F0 m pc ls (.int (nI k) :: .int (nI dp) :: .ref (b + i1) :: .int (nI sp) :: .ref (b + i0) :: rest)) := by
  have z1 : ((nI sp).toNatClampNeg) = sp := nI_clamp (by omega)
  have z2 : ((nI dp).toNatClampNeg) = dp := nI_clamp (by omega)
  have z3 : ((nI k).toNatClampNeg) = k := nI_clamp (by omega)
  have t1 : (nI sp).toInt = (sp : Int) := nI_toInt (by omega)
  have t2 : (nI dp).toInt = (dp : Int) := nI_toInt (by omega)
  have t3 : (nI k).toInt = (k : Int) := nI_toInt (by omega)
  intro T hT X
  have hc0 : H[b + i0]? = some (vp_cell cJ (n0, .inr (.inl f))) := kP1 h.1 hi0 0 (b + i0, .inl (cJ, n0, .inr (.inl f))) (by rw [he0]; rfl)
  have hc1 : H[b + i1]? = some (vp_cell cJ (n1, .inr (.inl g))) := kP1 h.1 hi1 0 (b + i1, .inl (cJ, n1, .inr (.inl g))) (by rw [he1]; rfl)
  obtain ⟨-, k0, hk0, cm0, hkk0⟩ := (C.2.2.2.2.2.1.2 1 _ rfl).1 n0 (fun j => .long (f j))
  obtain ⟨-, k1, hk1, cm1, hkk1⟩ := (C.2.2.2.2.2.1.2 1 _ rfl).1 n1 (fun j => .long (g j))
  obtain ⟨vm', X', step⟩ := X.arraycopy C.1 C.2.2.2.1 (C.2.2.2.2.1 _ hl) (C.2.2.2.2.1 _ hnat) (C.2.2.2.2.1 _ hstat) (C.2.2.2.2.1 _ hini) (src := b + i0) (dst := b + i1) (cs := vp_cell cJ (n0, .inr (.inl f))) (cd := vp_cell cJ (n1, .inr (.inl g))) (srcPos := nI sp) (destPos := nI dp) (n := nI k) (by rw [hT]; exact hc0) (by rw [hT]; exact hc1)
    (fun _ h => by cases h) (fun _ h => by cases h) (fun h => by cases h) (fun h => by cases h) hk0 hk1 hkk0 hkk1 (by simp [refKind]) (nI_pos (by omega)) (nI_pos (by omega)) (nI_pos (by omega))
    (by rw [t1, t3]; show ¬ _ > ((arrV cJ n0 (fun j => .long (f j))).slots.size : Int); rw [arrV_size]; omega)
    (by rw [t2, t3]; show ¬ _ > ((arrV cJ n1 (fun j => .long (g j))).slots.size : Int); rw [arrV_size]; omega)
    (fun vm₁ _ i hi => by
      rw [z3] at hi
      have e : (vp_cell cJ (n0, .inr (.inl f))).slots.getD ((nI sp).toNatClampNeg + i) .null = .long (f (sp + i)) := by
        show (arrV cJ n0 (fun j => .long (f j))).slots.getD _ _ = _
        rw [z1, Array.getD_eq_getD_getElem?, arrV_read _ _ (by omega)]
        rfl
      refine ⟨?_, ?_⟩
      · rw [e]
        rfl
      · rw [e]
        exact trivial)
    (g := F0 m pc ls (.int (nI k) :: .int (nI dp) :: .ref (b + i1) :: .int (nI sp) :: .ref (b + i0) :: rest)) rfl (by rw [C.2.2.1]; exact hls) (rest := rest) rfl (by rw [C.2.1]; exact hd) hframes (by show 2 * 0 + _ + _ ≤ _; omega)
  have e1 : copied (vp_cell cJ (n0, .inr (.inl f))) (vp_cell cJ (n1, .inr (.inl g))) (nI sp) (nI dp) (nI k) = vp_cell cJ (n1, .inr (.inl (va_cpy f g sp dp k))) := by
    have e9 : copied (vp_cell cJ (n0, .inr (.inl f))) (vp_cell cJ (n1, .inr (.inl g))) (nI sp) (nI dp) (nI k) = vp_cell cJ (n1, .inr (.inl (va_cpy f g (nI sp).toNatClampNeg (nI dp).toNatClampNeg (nI k).toNatClampNeg))) := va_copied (fun z => .long z) cJ cJ f g (by rw [z1, z3]; exact h4)
    rw [z1, z2, z3] at e9
    exact e9
  rw [e1] at X' step
  have hlt : b + i1 < H.size := (Array.getElem?_eq_some_iff.mp hc1).1
  have hheap : ((T.setVm vm').setCell (b + i1) (vp_cell cJ (n1, .inr (.inl (va_cpy f g sp dp k))))).heap = H.setIfInBounds (b + i1) (vp_cell cJ (n1, .inr (.inl (va_cpy f g sp dp k)))) := by rw [← hT]; rfl
  have oq : ∀ q : Nat, q ≠ b + i1 → (H.setIfInBounds (b + i1) (vp_cell cJ (n1, .inr (.inl (va_cpy f g sp dp k)))))[q]? = H[q]? := fun q hq => by simp [Array.getElem?_setIfInBounds, Ne.symm hq]
  obtain ⟨t, a1, b1⟩ := kk (va_up M i1 (.inl (cJ, n1, .inr (.inl (va_cpy f g sp dp k))))) _ _ ⟨kH_up h.1 (by simp) oq (show (H.setIfInBounds (b + i1) _)[b + i1]? = some _ by simp [Array.getElem?_setIfInBounds, hlt]), ⟨by simp; exact h.2.1, fun q g1 g2 => by
      rw [oq q (fun e => g2 (by rw [e]; exact Nat.le_add_right _ _))]
      exact h.2.2.1 q g1 g2, fun q hq => by
      rcases List.mem_append.mp hq with h9 | h9
      · exact h.2.2.2 q h9
      · obtain ⟨z, -, hz⟩ := List.mem_map.mp h9
        rw [← hz]
        exact Nat.le_add_right _ _⟩⟩ (if_pos rfl) kF_up _ hheap X'
  exact ⟨t, step t a1, b1⟩
end KM
