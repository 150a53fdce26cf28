/-- n cells from b on hold M -/
def kH (D : va_G) (b : Nat) (M : Nat → va_E) (n : Nat) (H : Heap) : Prop := H.size = b + n ∧ ∀ i, i < n → va_at D vwCl (b + i, M i) H
/-- but for the places w nothing has changed -/
def kF (w : List Nat) (M M' : Nat → va_E) : Prop := ∀ i, i ∉ w → M' i = M i
abbrev kA (b : Nat) : Nat → Prop := fun q => b ≤ q
def kW (D : va_G) (b : Nat) (M : Nat → va_E) (n : Nat) (H0 H : Heap) (locs : List Loc) : Prop := kH D b M n H ∧ va_S (kA b) H0 H locs
abbrev kT (cI cJ cZ cH cR : ClassId) : List (ClassId × FieldType) := [(cI, .int), (cJ, .long), (cZ, .boolean), (cH, .object RX0), (cR, .array .int)]
def kAOA (U : State) : Prop := (Cond.arrayOver (.array .int)).before #[] U = true
theorem kAOA.moved {u U : State} (hvm : u.vm.Alike U.vm) (h : kAOA u) : kAOA U := by
  obtain ⟨comp, c, k, h1, h2, h3, h4, h5⟩ := arrayOver_specB h
  obtain ⟨k', hk', he⟩ := hvm.2.2 _ _ h3
  have hi : (U.vm.classes.findIdx? fun (x : Class) => match x.kind with | .array component _ => component == comp | _ => false) = some c := by
    refine (va_idx_bare U.vm comp).symm.trans ?_
    first | rw [hvm.bare_eq] | rw [← hvm.bare_eq]
    exact (va_idx_bare u.vm comp).trans h2
  have hkind : k'.kind = .array comp (.array .int) := by rw [he]; exact h4
  have f1 : U.vm.findClass (FieldType.array .int).toString = some comp := by rw [hvm.findClass]; exact h1
  have f2 : U.vm.findClass ("[" ++ (FieldType.array .int).toString) = some c := by rw [hvm.findClass]; exact h5
  unfold kAOA Cond.before Cond.holds
  simp only [Cond.value]
  rw [f1, Option.bind_some]
  refine (congrArg (fun o : Option Nat => (o.bind (fun c => (U.vm.classes[c]?).map fun (k : Class) => match k.kind with | .array _ ty => decide (ty = FieldType.array .int) && decide (U.vm.findClass ("[" ++ (FieldType.array .int).toString) = some c) | _ => false) == some true)) hi).trans ?_
  simp [hk', hkind, f2]
def kK (D : va_G) (ty : List (ClassId × FieldType)) (U : State) : Prop := va_K D vwCl ty U ∧ va_AO RX0 U ∧ kAOA U
theorem kK.moved {D : va_G} {ty : List (ClassId × FieldType)} {u U : State} (hvm : u.vm.Alike U.vm) (h : kK D ty u) : kK D ty U := ⟨va_K.moved hvm h.1, h.2.1.moved hvm, h.2.2.moved hvm⟩
def kPre (D : va_G) (ty : List (ClassId × FieldType)) (b : Nat) (M : Nat → va_E) (n : Nat) : State → Prop := fun U => kH D b M n U.heap ∧ kK D ty U
def kB (D : va_G) (ty : List (ClassId × FieldType)) (b : Nat) : ((Nat → va_E) × Nat) → State → Prop := fun u t => kH D b u.1 u.2 t.heap ∧ kK D ty t
def kC (p : Program) (s : State) (m : MethodId) (c : Code) (args : Array Value) (cc : ByteArray) (nL : Nat) (own : String) (D : va_G) (ty : List (ClassId × FieldType)) : Prop :=
  p.tables.exec = Jvm.exec ∧ c.code = cc ∧ c.maxLocals = nL ∧ s.vm.findClass own = some m.cls ∧ (∀ w ∈ kBig, w.before args s = true) ∧ kK D ty s
/-- a method's words: its code, and all -/
abbrev kw (y : MethodName) (cc : ByteArray) (nL : Nat) (ret : Option FieldType) : List Cond := Cond.code y cc nL ret :: kBig
theorem kF_rf {w : List Nat} {M : Nat → va_E} : kF w M M := fun _ _ => rfl
theorem kF_st {w l : List Nat} {M0 M M1 : Nat → va_E} (h0 : kF w M0 M) (h : kF l M M1) (hl : ∀ x ∈ l, x ∈ w) : kF w M0 M1 := fun i hi => (h i (fun q => hi (hl i q))).trans (h0 i hi)
theorem kF_mo {w l : List Nat} {M M1 : Nat → va_E} (h : kF l M M1) (hl : ∀ x ∈ l, x ∈ w) : kF w M M1 := fun i hi => h i (fun q => hi (hl i q))
theorem kF_up {M : Nat → va_E} {i : Nat} {e : va_E} : kF [i] M (va_up M i e) := fun j hj => if_neg (fun q => hj (by rw [q]; exact List.mem_singleton_self _))
theorem kH_up {D : va_G} {b n i : Nat} {M : Nat → va_E} {H H1 : Heap} {e : va_E} (h : kH D b M n H) (hz : H1.size = H.size) (ho : ∀ q, q ≠ b + i → H1[q]? = H[q]?) (hn : va_at D vwCl (b + i, e) H1) : kH D b (va_up M i e) n H1 := by
  refine ⟨by rw [hz]; exact h.1, fun j hj => ?_⟩
  by_cases q : j = i
  · subst q
    rw [show va_up M j e j = e from if_pos rfl]
    exact hn
  · rw [show va_up M i e j = M j from if_neg q]
    exact (h.2 j hj).kept (ho _ (by omega))
theorem kS_up {b i : Nat} {H0 H H1 : Heap} {locs : List Loc} {k : Nat} (hS : va_S (kA b) H0 H locs) (hz : H1.size = H.size) (ho : ∀ q, q ≠ b + i → H1[q]? = H[q]?) : va_S (kA b) H0 H1 (locs ++ [⟨b + i, k⟩]) := hS.put hz ho (Nat.le_add_right b i)
theorem kP1 {D : va_G} {b n i : Nat} {M : Nat → va_E} {H : Heap} (h : kH D b M n H) (hi : i < n) : va_P D vwCl [(b + i, M i)] H := fun k q hq => by
  have h0 : k < 1 := (List.getElem?_eq_some_iff.mp hq).1
  rw [show k = 0 by omega] at hq
  cases hq
  exact h.2 i hi
theorem kD1 {b i : Nat} {M : Nat → va_E} : va_D (kA b) [(b + i, M i)] := by
  refine ⟨fun i j p q hi hj _ => ?_, fun k q hq => ?_⟩
  · have h0 : i < 1 := (List.getElem?_eq_some_iff.mp hi).1
    have h1 : j < 1 := (List.getElem?_eq_some_iff.mp hj).1
    omega
  · have h0 : k < 1 := (List.getElem?_eq_some_iff.mp hq).1
    rw [show k = 0 by omega] at hq
    cases hq
    exact Nat.le_add_right _ _
section KR
variable {p : Program} {l : Launch} {e : Env} {R : Room} {s : State} {m : MethodId} {args : Array Value} {below : List Frame} {meth : Method} {c : Code} {H : Heap} {locs : List Loc} {cells slots : Nat} {Q : State → Prop}
variable {cc : ByteArray} {pc nL : Nat} {ls : Array Slot} {rest : List Value} {D : va_G} {own : String} {b n : Nat} {M : Nat → va_E} {H0 : Heap} {ty : List (ClassId × FieldType)} {cI cJ cZ cH cR : ClassId}
theorem k_get (C : kC p s m c args cc nL own D ty) (h : kW D b M n H0 H locs) (i : Nat) (hi : i < n) {ci : Nat} {fs : List Value} (he : M i = .inr (ci, fs)) {Cn : String} {T : u_T} {N : Nat} (hc : vwCl[ci]? = some (Cn, T, N)) (hin : ∀ w ∈ u_ws Cn T N, w ∈ kBig) (k : Nat) (hk : k < N) {index : Nat} (hl : Cond.fieldLink own index (T k).1 (T k).2.1 (T k).2.2.1 ∈ kBig) {v : Value} (hv : fs[k]? = some v) (hd : decode cc pc = .ok (.getfield index, 3))
    (kk : W p l e R s m args below meth c H locs cells slots Q (F0 m (pc + 3) ls (v :: rest))) : W p l e R s m args below meth c H locs cells slots Q (F0 m pc ls (.ref (b + i) :: rest)) := by
  obtain ⟨hx, hb, -, ho, hts, hK, -⟩ := C
  exact va_get (D := D) hx hb hts hin ho hK (kP1 h.1 hi) 0 (by rw [he]; rfl) hc k hk (hts _ hl) (fun _ h => h) hv hd kk
theorem k_put (C : kC p s m c args cc nL own D ty) (h : kW D b M n H0 H locs) (i : Nat) (hi : i < n) {ci : Nat} {fs : List Value} (he : M i = .inr (ci, fs)) {Cn : String} {T : u_T} {N : Nat} (hc : vwCl[ci]? = some (Cn, T, N)) (hin : ∀ w ∈ u_ws Cn T N, w ∈ kBig) (ty0 : Nat → FieldType) (hty : ∀ k, k < N → parseFieldDescriptor (T k).2.2.1 = some (ty0 k)) (hnm : ∀ a, a < N → ∀ b, b < N → a ≠ b → (T a).2.1 ≠ (T b).2.1) (k : Nat) (hk : k < N) {index : Nat} (hlk : Cond.fieldLink own index (T k).1 (T k).2.1 (T k).2.2.1 ∈ kBig) (hfin : (T k).2.2.2 = false) {tf : FieldType} {v : Value} (hdp : parseFieldDescriptor (T k).2.2.1 = some tf) (hn : narrow tf v = v) (hfit : fits tf v = true) (hl : k < fs.length)
    (hd : decode cc pc = .ok (.putfield index, 3)) (kk : ∀ (M1 : Nat → va_E) (H1 : Heap) (locs1 : List Loc), kW D b M1 n H0 H1 locs1 → M1 i = .inr (ci, fs.set k v) → kF [i] M M1 → W p l e R s m args below meth c H1 locs1 cells slots Q (F0 m (pc + 3) ls rest)) : W p l e R s m args below meth c H locs cells slots Q (F0 m pc ls (v :: .ref (b + i) :: rest)) := by
  obtain ⟨hx, hb, -, hown, hts, hK, -⟩ := C
  have hap := va_apart (own := own) hts hin ty0 hty hnm hK hc
  have h9 := h.1.2 i hi
  rw [he] at h9
  obtain ⟨r, h1, cell, q1, q2, q3, q4⟩ := h9
  have hr : r = (Cn, T, N) := Option.some.inj (h1.symm.trans hc)
  subst hr
  obtain ⟨hS, hfc, kC, hkC, hkind⟩ := hK.1 ci _ hc
  obtain ⟨cf, kf, fi, f, hi9, hsl⟩ := hS k hk
  have hlay := hts _ (hin _ (u_in_lay hk))
  unfold u_lay at hlay
  rw [if_neg (by rw [hfin]; decide)] at hlay
  have hst := (u_facts hfc hkC (u_lays hts hin hk) hi9).1
  have h6 := u_store hfc hkC hkind hlay hi9 hdp hn hfit
  refine W.putK hx hb (f := f) ⟨hown, hts _ hlk, ⟨_, _, _, hi9⟩, hst⟩ (by rw [q2]; exact h6) q1 q3 (by rw [hsl]; exact k2_hasslot (q4 k hk)) rfl rfl hd fun H' e1 e2 e3 => ?_
  rw [hsl] at e1 ⊢
  exact kk (va_up M i (.inr (ci, fs.set k v))) H' _ ⟨kH_up h.1 e2 e3 ⟨_, hc, t_OB.to (V := updV (vp_V fs) k v) ⟨_, e1, q2, q3, t_set q4 hap hk v⟩ (fun j _ => vp_updV_set hl v j)⟩, kS_up h.2 e2 e3⟩ (if_pos rfl) kF_up
theorem k_putF (C : kC p s m c args cc nL own D ty) (h : kW D b M n H0 H locs) (i : Nat) (hi : i < n) {ci : Nat} {fs : List Value} (he : M i = .inr (ci, fs)) {Cn : String} {T : u_T} {N : Nat} (hc : vwCl[ci]? = some (Cn, T, N)) (hin : ∀ w ∈ u_ws Cn T N, w ∈ kBig) (ty0 : Nat → FieldType) (hty : ∀ k, k < N → parseFieldDescriptor (T k).2.2.1 = some (ty0 k)) (hnm : ∀ a, a < N → ∀ b, b < N → a ≠ b → (T a).2.1 ≠ (T b).2.1) (k : Nat) (hk : k < N) {index : Nat} (hlk : Cond.fieldLink own index (T k).1 (T k).2.1 (T k).2.2.1 ∈ kBig) (hfin : (T k).2.2.2 = true) (hin2 : meth.name = "<init>") (hdecl : (T k).1 = own) {tf : FieldType} {v : Value} (hdp : parseFieldDescriptor (T k).2.2.1 = some tf) (hn : narrow tf v = v) (hfit : fits tf v = true) (hl : k < fs.length)
    (hd : decode cc pc = .ok (.putfield index, 3)) (kk : ∀ (M1 : Nat → va_E) (H1 : Heap) (locs1 : List Loc), kW D b M1 n H0 H1 locs1 → M1 i = .inr (ci, fs.set k v) → kF [i] M M1 → W p l e R s m args below meth c H1 locs1 cells slots Q (F0 m (pc + 3) ls rest)) : W p l e R s m args below meth c H locs cells slots Q (F0 m pc ls (v :: .ref (b + i) :: rest)) := by
  obtain ⟨hx, hb, -, hown, hts, hK, -⟩ := C
  have hap := va_apart (own := own) hts hin ty0 hty hnm hK hc
  have h9 := h.1.2 i hi
  rw [he] at h9
  obtain ⟨r, h1, cell, q1, q2, q3, q4⟩ := h9
  have hr : r = (Cn, T, N) := Option.some.inj (h1.symm.trans hc)
  subst hr
  obtain ⟨hS, hfc, kC, hkC, hkind⟩ := hK.1 ci _ hc
  obtain ⟨cf, kf, fi, f, hi9, hsl⟩ := hS k hk
  have hlay := hts _ (hin _ (u_in_lay hk))
  unfold u_lay at hlay
  rw [if_pos hfin] at hlay
  have hst := (u_facts hfc hkC (u_lays hts hin hk) hi9).1
  have hcf : m.cls = cf := by
    obtain ⟨_, _, c', _, _, _, -, -, hf', -, -, -, hown2, -⟩ := Cond.laysFinal_spec hlay
    have e1 : c' = cf := by have := hi9.symm.trans hf'; simp at this; exact this.1.symm
    rw [hdecl] at hown2
    rw [← e1]; exact Option.some.inj (hown.symm.trans hown2)
  have h6 := u_fits hfc hkC hkind (Or.inr hlay) hi9 hdp hn hfit
  refine W.putFinK hx hb hown (hts _ hlk) hi9 hst hcf hin2 (by rw [q2]; exact h6) q1 q3 (by rw [hsl]; exact k2_hasslot (q4 k hk)) rfl rfl hd fun H' e1 e2 e3 => ?_
  rw [hsl] at e1 ⊢
  exact kk (va_up M i (.inr (ci, fs.set k v))) H' _ ⟨kH_up h.1 e2 e3 ⟨_, hc, t_OB.to (V := updV (vp_V fs) k v) ⟨_, e1, q2, q3, t_set q4 hap hk v⟩ (fun j _ => vp_updV_set hl v j)⟩, kS_up h.2 e2 e3⟩ (if_pos rfl) kF_up
/-- reads of arrays, at a number j -/
theorem k_iald (C : kC p s m c args cc nL own D (kT cI cJ cZ cH cR)) (h : kW D b M n H0 H locs) (i : Nat) (hi : i < n) {N : Nat} {f : Nat → Int32} (he : M i = .inl (cI, N, .inl f)) {j : Nat} (hj : j < N) (hN : N < 2 ^ 31) (hd : decode cc pc = .ok (.iaload, 1))
    (kk : W p l e R s m args below meth c H locs cells slots Q (F0 m (pc + 1) ls (.int (f j) :: rest))) : W p l e R s m args below meth c H locs cells slots Q (F0 m pc ls (.int (nI j) :: .ref (b + i) :: rest)) := by
  refine va_iald C.1 C.2.1 C.2.2.2.2.2.1 (kP1 h.1 hi) 0 0 (by rw [he]; rfl) rfl (vp_in_nI hj hN) hd ?_
  rw [nI_clamp (by omega)]
  exact kk
theorem k_lald (C : kC p s m c args cc nL own D (kT cI cJ cZ cH cR)) (h : kW D b M n H0 H locs) (i : Nat) (hi : i < n) {N : Nat} {f : Nat → Int64} (he : M i = .inl (cJ, N, .inr (.inl f))) {j : Nat} (hj : j < N) (hN : N < 2 ^ 31) (hd : decode cc pc = .ok (.laload, 1))
    (kk : W p l e R s m args below meth c H locs cells slots Q (F0 m (pc + 1) ls (.long (f j) :: rest))) : W p l e R s m args below meth c H locs cells slots Q (F0 m pc ls (.int (nI j) :: .ref (b + i) :: rest)) := by
  refine va_lald C.1 C.2.1 C.2.2.2.2.2.1 (kP1 h.1 hi) 0 1 (by rw [he]; rfl) rfl (vp_in_nI hj hN) hd ?_
  rw [nI_clamp (by omega)]
  exact kk
theorem k_zald (C : kC p s m c args cc nL own D (kT cI cJ cZ cH cR)) (h : kW D b M n H0 H locs) (i : Nat) (hi : i < n) {N : Nat} {f : Nat → Int32} (he : M i = .inl (cZ, N, .inl f)) {j : Nat} (hj : j < N) (hN : N < 2 ^ 31) (hd : decode cc pc = .ok (.baload, 1))
    (kk : W p l e R s m args below meth c H locs cells slots Q (F0 m (pc + 1) ls (.int (f j) :: rest))) : W p l e R s m args below meth c H locs cells slots Q (F0 m pc ls (.int (nI j) :: .ref (b + i) :: rest)) := by
  refine va_zald C.1 C.2.1 C.2.2.2.2.2.1 (kP1 h.1 hi) 0 2 (by rw [he]; rfl) rfl (vp_in_nI hj hN) hd ?_
  rw [nI_clamp (by omega)]
  exact kk
theorem k_qald (C : kC p s m c args cc nL own D (kT cI cJ cZ cH cR)) (h : kW D b M n H0 H locs) (i : Nat) (hi : i < n) {N : Nat} {f : Nat → Option Nat} (he : M i = .inl (cH, N, .inr (.inr (.inr (.inr f))))) {j : Nat} (hj : j < N) (hN : N < 2 ^ 31) {v : Value} (hv : va_rf (f j) = v) (hd : decode cc pc = .ok (.aaload, 1))
    (kk : W p l e R s m args below meth c H locs cells slots Q (F0 m (pc + 1) ls (v :: rest))) : W p l e R s m args below meth c H locs cells slots Q (F0 m pc ls (.int (nI j) :: .ref (b + i) :: rest)) := by
  subst hv
  refine va_aldq (C := RX0) C.1 C.2.1 C.2.2.2.2.2.1 (kP1 h.1 hi) 0 3 (by rw [he]; rfl) rfl (vp_in_nI hj hN) hd ?_
  rw [nI_clamp (by omega)]
  exact kk
theorem k_rald (C : kC p s m c args cc nL own D (kT cI cJ cZ cH cR)) (h : kW D b M n H0 H locs) (i : Nat) (hi : i < n) {N : Nat} {f : Nat → Option Nat} (he : M i = .inl (cR, N, .inr (.inr (.inr (.inr f))))) {j : Nat} (hj : j < N) (hN : N < 2 ^ 31) {v : Value} (hv : va_rf (f j) = v) (hd : decode cc pc = .ok (.aaload, 1))
    (kk : W p l e R s m args below meth c H locs cells slots Q (F0 m (pc + 1) ls (v :: rest))) : W p l e R s m args below meth c H locs cells slots Q (F0 m pc ls (.int (nI j) :: .ref (b + i) :: rest)) := by
  subst hv
  have hz : ((nI j).toNatClampNeg) = j := nI_clamp (by omega)
  have hP := kP1 h.1 hi
  have hP : H[b + i]? = some (vp_cell cR (N, .inr (.inr (.inr (.inr f))))) := hP 0 (b + i, .inl (cR, N, .inr (.inr (.inr (.inr f))))) (by rw [he]; rfl)
  exact W.aald (v := va_rf (f j)) (ty := .array .int) C.1 C.2.1 hP ((C.2.2.2.2.2.1.2 4 _ rfl).1 N (fun j => va_rf (f j))) rfl (fun q => by cases q) (by show ¬ (_ < 0 ∨ (arrV _ _ _).slots.size ≤ _); rw [arrV_size]; exact vp_in_nI hj hN) (by show (arrV _ _ _).slots[_]? = _; rw [hz, arrV_read _ _ hj]) rfl rfl hd kk
theorem k_alen (C : kC p s m c args cc nL own D (kT cI cJ cZ cH cR)) (h : kW D b M n H0 H locs) (i : Nat) (hi : i < n) {cA : ClassId} {x : vp_A} (he : M i = .inl (cA, x)) (t0 : Nat) {tt : FieldType} (ht : (kT cI cJ cZ cH cR)[t0]? = some (cA, tt)) (hd : decode cc pc = .ok (.arraylength, 1))
    (kk : W p l e R s m args below meth c H locs cells slots Q (F0 m (pc + 1) ls (.int (nI x.1) :: rest))) : W p l e R s m args below meth c H locs cells slots Q (F0 m pc ls (.ref (b + i) :: rest)) :=
  va_alen C.1 C.2.1 C.2.2.2.2.2.1 (kP1 h.1 hi) 0 t0 (by rw [he]; rfl) ht rfl hd kk
/-- stores -/
theorem k_iast (C : kC p s m c args cc nL own D (kT cI cJ cZ cH cR)) (h : kW D b M n H0 H locs) (i : Nat) (hi : i < n) {N : Nat} {f : Nat → Int32} (he : M i = .inl (cI, N, .inl f)) {j : Nat} {x : Int32} (hj : j < N) (hN : N < 2 ^ 31) (hd : decode cc pc = .ok (.iastore, 1))
    (kk : ∀ (M1 : Nat → va_E) (H1 : Heap) (locs1 : List Loc), kW D b M1 n H0 H1 locs1 → M1 i = .inl (cI, N, .inl (upd f j x)) → kF [i] M M1 → W p l e R s m args below meth c H1 locs1 cells slots Q (F0 m (pc + 1) ls rest)) : W p l e R s m args below meth c H locs cells slots Q (F0 m pc ls (.int x :: .int (nI j) :: .ref (b + i) :: rest)) := by
  have hz : ((nI j).toNatClampNeg) = j := nI_clamp (by omega)
  have hP := kP1 h.1 hi 0 (b + i, .inl (cI, N, .inl f)) (by rw [he]; rfl)
  refine W.iast C.1 C.2.1 hP ((C.2.2.2.2.2.1.2 0 _ rfl).1 N (fun j => .int (f j))) (fun q => by cases q) (by show ¬ (_ < 0 ∨ (arrV _ _ _).slots.size ≤ _); rw [arrV_size]; exact vp_in_nI hj hN) rfl rfl hd fun H1 e z oq => ?_
  refine kk (va_up M i (.inl (cI, N, .inl (upd f j x)))) H1 _ ⟨kH_up h.1 z oq ?_, kS_up h.2 z oq⟩ (if_pos rfl) kF_up
  show H1[b + i]? = some (vp_cell _ _)
  rw [e, hz, vp_cell_i, vp_cell_i, arrV_store]
  congr 2
  funext q
  by_cases hq : q = j
  · subst hq
    simp [updV, upd]
  · simp [updV, upd, hq]
theorem k_last (C : kC p s m c args cc nL own D (kT cI cJ cZ cH cR)) (h : kW D b M n H0 H locs) (i : Nat) (hi : i < n) {N : Nat} {f : Nat → Int64} (he : M i = .inl (cJ, N, .inr (.inl f))) {j : Nat} {x : Int64} (hj : j < N) (hN : N < 2 ^ 31) (hd : decode cc pc = .ok (.lastore, 1))
    (kk : ∀ (M1 : Nat → va_E) (H1 : Heap) (locs1 : List Loc), kW D b M1 n H0 H1 locs1 → M1 i = .inl (cJ, N, .inr (.inl (vp_updL f j x))) → kF [i] M M1 → W p l e R s m args below meth c H1 locs1 cells slots Q (F0 m (pc + 1) ls rest)) : W p l e R s m args below meth c H locs cells slots Q (F0 m pc ls (.long x :: .int (nI j) :: .ref (b + i) :: rest)) := by
  have hz : ((nI j).toNatClampNeg) = j := nI_clamp (by omega)
  have hP := kP1 h.1 hi 0 (b + i, .inl (cJ, N, .inr (.inl f))) (by rw [he]; rfl)
  refine W.last C.1 C.2.1 hP ((C.2.2.2.2.2.1.2 1 _ rfl).1 N (fun j => .long (f j))) (fun q => by cases q) (by show ¬ (_ < 0 ∨ (arrV _ _ _).slots.size ≤ _); rw [arrV_size]; exact vp_in_nI hj hN) rfl rfl hd fun H1 e z oq => ?_
  refine kk (va_up M i (.inl (cJ, N, .inr (.inl (vp_updL f j x))))) H1 _ ⟨kH_up h.1 z oq ?_, kS_up h.2 z oq⟩ (if_pos rfl) kF_up
  show H1[b + i]? = some (vp_cell _ _)
  rw [e, hz, vp_cell_l, vp_cell_l, arrV_store]
  congr 2
  funext q
  by_cases hq : q = j
  · subst hq
    simp [updV, vp_updL]
  · simp [updV, vp_updL, hq]
theorem k_zast (C : kC p s m c args cc nL own D (kT cI cJ cZ cH cR)) (h : kW D b M n H0 H locs) (i : Nat) (hi : i < n) {N : Nat} {f : Nat → Int32} (he : M i = .inl (cZ, N, .inl f)) {j : Nat} {x : Int32} (hx : x = 0 ∨ x = 1) (hj : j < N) (hN : N < 2 ^ 31) (hd : decode cc pc = .ok (.bastore, 1))
    (kk : ∀ (M1 : Nat → va_E) (H1 : Heap) (locs1 : List Loc), kW D b M1 n H0 H1 locs1 → M1 i = .inl (cZ, N, .inl (upd f j x)) → kF [i] M M1 → W p l e R s m args below meth c H1 locs1 cells slots Q (F0 m (pc + 1) ls rest)) : W p l e R s m args below meth c H locs cells slots Q (F0 m pc ls (.int x :: .int (nI j) :: .ref (b + i) :: rest)) := by
  have hz : ((nI j).toNatClampNeg) = j := nI_clamp (by omega)
  have hP := kP1 h.1 hi 0 (b + i, .inl (cZ, N, .inl f)) (by rw [he]; rfl)
  refine W.zast C.1 C.2.1 hP ((C.2.2.2.2.2.1.2 2 _ rfl).1 N (fun j => .int (f j))) (fun q => by cases q) (by show ¬ (_ < 0 ∨ (arrV _ _ _).slots.size ≤ _); rw [arrV_size]; exact vp_in_nI hj hN) rfl rfl hd fun H1 e z oq => ?_
  refine kk (va_up M i (.inl (cZ, N, .inl (upd f j x)))) H1 _ ⟨kH_up h.1 z oq ?_, kS_up h.2 z oq⟩ (if_pos rfl) kF_up
  show H1[b + i]? = some (vp_cell _ _)
  rw [e, hz, show narrow .boolean (.int x) = .int x by rcases hx with rfl | rfl <;> rfl, vp_cell_i, vp_cell_i, arrV_store]
  congr 2
  funext q
  by_cases hq : q = j
  · subst hq
    simp [updV, upd]
  · simp [updV, upd, hq]
theorem k_qast (C : kC p s m c args cc nL own D (kT cI cJ cZ cH cR)) (h : kW D b M n H0 H locs) (i : Nat) (hi : i < n) {N : Nat} {f : Nat → Option Nat} (he : M i = .inl (cH, N, .inr (.inr (.inr (.inr f))))) (i2 : Nat) (hi2 : i2 < n) {vs : List Value} (he2 : M i2 = .inr (0, vs)) {j : Nat} (hj : j < N) (hN : N < 2 ^ 31) (hd : decode cc pc = .ok (.aastore, 1))
    (kk : ∀ (M1 : Nat → va_E) (H1 : Heap) (locs1 : List Loc), kW D b M1 n H0 H1 locs1 → M1 i = .inl (cH, N, .inr (.inr (.inr (.inr (va_up f j (some (b + i2))))))) → kF [i] M M1 → W p l e R s m args below meth c H1 locs1 cells slots Q (F0 m (pc + 1) ls rest)) : W p l e R s m args below meth c H locs cells slots Q (F0 m pc ls (.ref (b + i2) :: .int (nI j) :: .ref (b + i) :: rest)) := by
  have hz : ((nI j).toNatClampNeg) = j := nI_clamp (by omega)
  have hP := kP1 h.1 hi 0 (b + i, .inl (cH, N, .inr (.inr (.inr (.inr f))))) (by rw [he]; rfl)
  have hP2 := kP1 h.1 hi2 0 (b + i2, .inr (0, vs)) (by rw [he2]; rfl)
  obtain ⟨r', hr', cellV, g1, g2, g3, -⟩ := hP2
  have hcls := (C.2.2.2.2.2.1.1 0 (RX0, TX0, 3) rfl).2
  obtain ⟨kA, comp, k1, k2, k3, -⟩ := (C.2.2.2.2.2.1.2 3 _ rfl).2
  have hcomp : comp = D.1 0 := Option.some.inj (k3.symm.trans hcls.1)
  subst hcomp
  obtain ⟨kC, hkC, -⟩ := hcls.2
  refine W.aast C.1 C.2.1 hP (fun q h => by cases h) (fun h => by cases h) k1 k2 rfl hkC ⟨nI_pos (by omega), by show _ < (arrV _ _ _).slots.size; rw [arrV_size, hz]; exact hj⟩ g1 (fun q h => by rw [g3] at h; cases h) (by rw [g2]; exact hkC) (by rw [g2]; exact va_assign hcls) rfl rfl hd fun H1 e z oq => ?_
  refine kk (va_up M i (.inl (cH, N, .inr (.inr (.inr (.inr (va_up f j (some (b + i2))))))))) H1 _ ⟨kH_up h.1 z oq ?_, kS_up h.2 z oq⟩ (if_pos rfl) kF_up
  show H1[b + i]? = some (vp_cell _ _)
  rw [e, hz, vp_cell_q, vp_cell_q, arrV_store]
  congr 2
  funext q
  by_cases hq : q = j
  · subst hq
    simp [updV, va_up, va_rf]
  · simp [updV, va_up, hq]
/-- cells come at the end -/
theorem kW_push (h : kW D b M n H0 H locs) {H1 : Heap} {e : va_E} (z : H1.size = H.size + 1) (o : ∀ q, q < H.size → H1[q]? = H[q]?) (hn : va_at D vwCl (b + n, e) H1) : kW D b (va_up M n e) (n + 1) H0 H1 locs := by
  refine ⟨⟨by rw [z, h.1.1]; omega, fun j hj => ?_⟩, Nat.le_trans h.2.1 (by omega), fun x h1 h2 => (o x (Nat.lt_of_lt_of_le h1 h.2.1)).trans (h.2.2.1 x h1 h2), h.2.2.2⟩
  by_cases q : j = n
  · subst q
    rw [show va_up M j e j = e from if_pos rfl]
    exact hn
  · rw [show va_up M n e j = M j from if_neg q]
    have := h.1.2 j (by omega)
    exact this.kept (o _ (by rw [h.1.1]; show b + j < b + n; omega))
theorem k_new (C : kC p s m c args cc nL own D ty) (h : kW D b M n H0 H locs) {ci : Nat} {Cn : String} {T : u_T} {N : Nat} (hc : vwCl[ci]? = some (Cn, T, N)) (hin : ∀ w ∈ u_ws Cn T N, w ∈ kBig) (ty0 : Nat → FieldType) (hty : ∀ k, k < N → parseFieldDescriptor (T k).2.2.1 = some (ty0 k)) {index : Nat} (hcl : Cond.classLink own index Cn ∈ kBig) (hinst : Cond.instantiable Cn N ∈ kBig) (hini : Cond.initialized Cn ∈ kBig) {fs : List Value} (hfs : ∀ j, j < N → defaultValue (ty0 j) = vp_V fs j) (hcells : cells + 1 ≤ R.cells) (hslots : slots + N ≤ R.slots) (hd : decode cc pc = .ok (.new index, 3))
    (kk : ∀ (M1 : Nat → va_E) (H1 : Heap), kW D b M1 (n + 1) H0 H1 locs → M1 n = .inr (ci, fs) → kF [n] M M1 → W p l e R s m args below meth c H1 locs (cells + 1) (slots + N) Q (F0 m (pc + 3) ls (.ref (b + n) :: rest))) : W p l e R s m args below meth c H locs cells slots Q (F0 m pc ls rest) := by
  obtain ⟨hx, hb, -, hown, hts, hK, -⟩ := C
  have hKn := hK.1 ci _ hc
  refine W.newcK hx hb hown (hts _ hcl) (hts _ hinst) (hts _ hini) rfl hd hcells hslots hKn.2.1 (h := b + n) h.1.1 fun H1 kC hkC e1 z1 o1 => ?_
  exact kk (va_up M n (.inr (ci, fs))) H1 (kW_push h (by rw [z1, h.1.1]) (fun q hq => o1 q (by rw [h.1.1] at hq; exact hq)) ⟨_, hc, (u_born ty0 hts hin hKn hkC e1 hty).to hfs⟩) (if_pos rfl) kF_up
theorem k_newI (C : kC p s m c args cc nL own D (kT cI cJ cZ cH cR)) (h : kW D b M n H0 H locs) (ha : Cond.arrayClass .int ∈ kBig) {v : Int32} (N : Nat) (hv : v = nI N) (hN : N * 4 ≤ 536870912) (hcells : cells + 1 ≤ R.cells) (hslots : slots + N ≤ R.slots) (hd : decode cc pc = .ok (.newarray .int, 2))
    (kk : ∀ (M1 : Nat → va_E) (H1 : Heap), kW D b M1 (n + 1) H0 H1 locs → M1 n = .inl (cI, N, .inl (fun _ => 0)) → kF [n] M M1 → W p l e R s m args below meth c H1 locs (cells + 1) (slots + N) Q (F0 m (pc + 2) ls (.ref (b + n) :: rest))) : W p l e R s m args below meth c H locs cells slots Q (F0 m pc ls (.int v :: rest)) := by
  subst hv
  refine va_newaK C.1 C.2.1 (atype := .int) (C.2.2.2.2.1 _ ha) rfl hd rfl (nI_pos (by omega)) (nI_clamp (by omega)) hN hcells hslots (h := b + n) h.1.1 fun H1 cA e1 z1 o1 hAr hNm => ?_
  have hc : cA = cI := Option.some.inj (hNm.symm.trans (C.2.2.2.2.2.1.2 0 _ rfl).2)
  subst hc
  exact kk (va_up M n (.inl (cA, N, .inl (fun _ => 0)))) H1 (kW_push h (by rw [z1, h.1.1]) (fun q hq => o1 q (by rw [h.1.1] at hq; exact hq)) (show H1[b + n]? = some (vp_cell _ _) from e1)) (if_pos rfl) kF_up
theorem k_newJ (C : kC p s m c args cc nL own D (kT cI cJ cZ cH cR)) (h : kW D b M n H0 H locs) (ha : Cond.arrayClass .long ∈ kBig) {v : Int32} (N : Nat) (hv : v = nI N) (hN : N * 8 ≤ 536870912) (hcells : cells + 1 ≤ R.cells) (hslots : slots + N ≤ R.slots) (hd : decode cc pc = .ok (.newarray .long, 2))
    (kk : ∀ (M1 : Nat → va_E) (H1 : Heap), kW D b M1 (n + 1) H0 H1 locs → M1 n = .inl (cJ, N, .inr (.inl (fun _ => 0))) → kF [n] M M1 → W p l e R s m args below meth c H1 locs (cells + 1) (slots + N) Q (F0 m (pc + 2) ls (.ref (b + n) :: rest))) : W p l e R s m args below meth c H locs cells slots Q (F0 m pc ls (.int v :: rest)) := by
  subst hv
  refine va_newaK C.1 C.2.1 (atype := .long) (C.2.2.2.2.1 _ ha) rfl hd rfl (nI_pos (by omega)) (nI_clamp (by omega)) hN hcells hslots (h := b + n) h.1.1 fun H1 cA e1 z1 o1 hAr hNm => ?_
  have hc : cA = cJ := Option.some.inj (hNm.symm.trans (C.2.2.2.2.2.1.2 1 _ rfl).2)
  subst hc
  exact kk (va_up M n (.inl (cA, N, .inr (.inl (fun _ => 0))))) H1 (kW_push h (by rw [z1, h.1.1]) (fun q hq => o1 q (by rw [h.1.1] at hq; exact hq)) (show H1[b + n]? = some (vp_cell _ _) from e1)) (if_pos rfl) kF_up
theorem k_newZ (C : kC p s m c args cc nL own D (kT cI cJ cZ cH cR)) (h : kW D b M n H0 H locs) (ha : Cond.arrayClass .boolean ∈ kBig) {v : Int32} (N : Nat) (hv : v = nI N) (hN : N * 1 ≤ 536870912) (hcells : cells + 1 ≤ R.cells) (hslots : slots + N ≤ R.slots) (hd : decode cc pc = .ok (.newarray .boolean, 2))
    (kk : ∀ (M1 : Nat → va_E) (H1 : Heap), kW D b M1 (n + 1) H0 H1 locs → M1 n = .inl (cZ, N, .inl (fun _ => 0)) → kF [n] M M1 → W p l e R s m args below meth c H1 locs (cells + 1) (slots + N) Q (F0 m (pc + 2) ls (.ref (b + n) :: rest))) : W p l e R s m args below meth c H locs cells slots Q (F0 m pc ls (.int v :: rest)) := by
  subst hv
  refine va_newaK C.1 C.2.1 (atype := .boolean) (C.2.2.2.2.1 _ ha) rfl hd rfl (nI_pos (by omega)) (nI_clamp (by omega)) hN hcells hslots (h := b + n) h.1.1 fun H1 cA e1 z1 o1 hAr hNm => ?_
  have hc : cA = cZ := Option.some.inj (hNm.symm.trans (C.2.2.2.2.2.1.2 2 _ rfl).2)
  subst hc
  exact kk (va_up M n (.inl (cA, N, .inl (fun _ => 0)))) H1 (kW_push h (by rw [z1, h.1.1]) (fun q hq => o1 q (by rw [h.1.1] at hq; exact hq)) (show H1[b + n]? = some (vp_cell _ _) from e1)) (if_pos rfl) kF_up
theorem k_newq (C : kC p s m c args cc nL own D (kT cI cJ cZ cH cR)) (h : kW D b M n H0 H locs) {index : Nat} (hcl : Cond.classLink own index RX0 ∈ kBig) {v : Int32} (N : Nat) (hv : v = nI N) (hN : N * 4 ≤ 536870912) (hcells : cells + 1 ≤ R.cells) (hslots : slots + N ≤ R.slots) (hd : decode cc pc = .ok (.anewarray index, 3))
    (kk : ∀ (M1 : Nat → va_E) (H1 : Heap), kW D b M1 (n + 1) H0 H1 locs → M1 n = .inl (cH, N, .inr (.inr (.inr (.inr (fun _ => none))))) → kF [n] M M1 → W p l e R s m args below meth c H1 locs (cells + 1) (slots + N) Q (F0 m (pc + 3) ls (.ref (b + n) :: rest))) : W p l e R s m args below meth c H locs cells slots Q (F0 m pc ls (.int v :: rest)) := by
  subst hv
  have hz : ((nI N).toNatClampNeg) = N := nI_clamp (by omega)
  refine W.anew C.1 C.2.1 C.2.2.2.1 (C.2.2.2.2.1 _ hcl) (va_AO.use C.2.2.2.2.2.2.1) rfl hd rfl (nI_pos (by omega)) (by rw [hz]; exact hN) hcells (by rw [hz]; exact hslots) fun cA kA comp f1 f2 f3 f4 => ?_
  rw [hz]
  obtain ⟨kA', comp', -, -, -, hnm⟩ := (C.2.2.2.2.2.1.2 3 _ rfl).2
  have hc : cA = cH := Option.some.inj (f1.symm.trans hnm)
  subst hc
  generalize hH1 : H.push ({ cls := cA, slots := Array.replicate N .null, vm := .none } : Cell) = H1
  have z1 : H1.size = H.size + 1 := by rw [← hH1, Array.size_push]
  have e1 : H1[H.size]? = some (arrV cA N (fun _ => .null)) := by rw [← hH1, Array.getElem?_push_size, ← arrV_new]
  have o1 : ∀ q : Nat, q < H.size → H1[q]? = H[q]? := fun q hq => by rw [← hH1, Array.getElem?_push, if_neg (Nat.ne_of_lt hq)]
  have e2 : H1[b + n]? = some (arrV cA N (fun _ => .null)) := by rw [← h.1.1]; exact e1
  have kk' := kk (va_up M n (.inl (cA, N, .inr (.inr (.inr (.inr (fun _ => none))))))) H1 (kW_push h z1 o1 (by show H1[b + n]? = some (vp_cell _ _); rw [vp_cell_q]; exact e2)) (if_pos rfl) kF_up
  rw [← h.1.1] at kk'
  exact kk'
end KR
