theorem kFB {D : va_G} {ty : List (ClassId × FieldType)} {b n : Nat} {M : Nat → va_E} {av : List Value} : FrameBlind (va_Pc av (kPre D ty b M n)) := fun a U g mk q => by
  obtain ⟨q0, qH, qK⟩ := q
  exact ⟨q0, qH, kK.moved (u := U) (U := U.calling g mk a) (Vm.Alike.refl U.vm) qK⟩
theorem kGood {w : Cond} (h : w ∈ kBig) : GoodIn kBig (w :: kBig) := fun x hx => by
  rcases List.mem_cons.mp hx with rfl | hx
  · exact kBig_good _ h
  · exact kBig_good _ hx
section KQ
variable {p : Program} {l : Launch} {e : Env} {R : Room} {s : State} {m : MethodId} {args : Array Value} {below : List Frame} {meth : Method} {c : Code} {H : Heap} {locs : List Loc} {cells slots : Nat} {Q : State → Prop}
variable {cc : ByteArray} {pc nL : Nat} {ls : Array Slot} {rest st0 : List Value} {D : va_G} {own : String} {b n : Nat} {M : Nat → va_E} {H0 : Heap} {ty : List (ClassId × FieldType)} {cI cJ cZ cH cR : ClassId}
variable {y : MethodName} {by_ : ByteArray} {maxL mc ms k fr lo index : Nat} {ret : Option FieldType} {As : List Value}
/-- what a virtual call needs: four words, its room -/
def kV (own C : String) (index : Nat) (y : MethodName) (by_ : ByteArray) (maxL : Nat) (ret : Option FieldType) (k : Nat) : Prop :=
  Cond.methodLink own index y ∈ kBig ∧ Cond.instanceMethod y ∈ kBig ∧ Cond.selects C y y ∈ kBig ∧ Cond.initialized C ∈ kBig ∧ Cond.code y by_ maxL ret ∈ kBig ∧ y.cls = C ∧ y.cls ≠ "java/lang/invoke/MethodHandle" ∧ y.cls ≠ "java/lang/invoke/VarHandle" ∧ (parseMethodDescriptor y.desc).map (fun d => d.parameters.length) = some k
def kSt (own : String) (index : Nat) (y : MethodName) (by_ : ByteArray) (maxL : Nat) (ret : Option FieldType) (k : Nat) : Prop :=
  Cond.methodLink own index y ∈ kBig ∧ Cond.static y ∈ kBig ∧ Cond.initialized y.cls ∈ kBig ∧ Cond.code y by_ maxL ret ∈ kBig ∧ y.cls ≠ "java/lang/invoke/MethodHandle" ∧ y.cls ≠ "java/lang/invoke/VarHandle" ∧ (parseMethodDescriptor y.desc).map (fun d => d.parameters.length) = some k
def kIn (own : String) (index : Nat) (y : MethodName) (by_ : ByteArray) (maxL : Nat) (k : Nat) : Prop :=
  Cond.methodLink own index y ∈ kBig ∧ Cond.instanceMethod y ∈ kBig ∧ Cond.initialized y.cls ∈ kBig ∧ Cond.code y by_ maxL none ∈ kBig ∧ y.name = "<init>" ∧ y.cls ≠ "java/lang/invoke/MethodHandle" ∧ y.cls ≠ "java/lang/invoke/VarHandle" ∧ (parseMethodDescriptor y.desc).map (fun d => d.parameters.length) = some k
theorem k_cwV (hts : ∀ w ∈ kBig, w.before args s = true) {C : String} {rm : Room} (h : kV own C index y by_ maxL ret k) (hrc : rm.cells = mc) (hrs : rm.slots = ms) (hR : rm.frames + 1 ≤ R.frames ∧ 8 + (maxL + 11) + rm.locals ≤ R.locals) : CallW R s args own C index y by_ maxL ret (kw y by_ maxL ret) rm mc ms k := by
  obtain ⟨h1, h2, h3, h4, h5, h6, h7, h8, h9⟩ := h
  subst h6
  exact ⟨callB_of k hts (kGood h5) rfl hrc hrs (hts _ h4) (hts _ h1) ⟨h7, h8, h9⟩ hR, hts _ h2, hts _ h3⟩
theorem k_cwS (hts : ∀ w ∈ kBig, w.before args s = true) {rm : Room} (h : kSt own index y by_ maxL ret k) (hrc : rm.cells = mc) (hrs : rm.slots = ms) (hR : rm.frames + 1 ≤ R.frames ∧ 8 + (maxL + 11) + rm.locals ≤ R.locals) : CallB R s args own index y by_ maxL ret (kw y by_ maxL ret) rm mc ms k ∧ (Cond.static y).before args s = true := by
  obtain ⟨h1, h2, h4, h5, h7, h8, h9⟩ := h
  exact ⟨callB_of k hts (kGood h5) rfl hrc hrs (hts _ h4) (hts _ h1) ⟨h7, h8, h9⟩ hR, hts _ h2⟩
theorem k_cwI (hts : ∀ w ∈ kBig, w.before args s = true) {rm : Room} (h : kIn own index y by_ maxL k) (hrc : rm.cells = mc) (hrs : rm.slots = ms) (hR : rm.frames + 1 ≤ R.frames ∧ 8 + (maxL + 11) + rm.locals ≤ R.locals) : CallB R s args own index y by_ maxL none (kw y by_ maxL none) rm mc ms k ∧ y.name = "<init>" ∧ (Cond.instanceMethod y).before args s = true := by
  obtain ⟨h1, h2, h4, h5, h6, h7, h8, h9⟩ := h
  exact ⟨callB_of k hts (kGood h5) rfl hrc hrs (hts _ h4) (hts _ h1) ⟨h7, h8, h9⟩ hR, h6, hts _ h2⟩
theorem k_preV (C : kC p s m c args cc nL own D ty) (h : kW D b M n H0 H locs) (i : Nat) (hi : i < n) {ci : Nat} {fs : List Value} (he : M i = .inr (ci, fs)) {Cn : String} {T : u_T} {N : Nat} (hc : vwCl[ci]? = some (Cn, T, N)) : PreV s H Cn (b + i) (va_Pc (.ref (b + i) :: As) (kPre D ty b M n)) As :=
  ⟨kFB, va_recv (q := (Cn, T, N)) (fs := fs) C.2.2.2.2.2.1 (kP1 h.1 hi) hc (q0 := 0) (by rw [he]; rfl), fun U hU hW => ⟨rfl, by rw [hU]; exact h.1, kK.moved hW.alike C.2.2.2.2.2⟩⟩
theorem k_preS (C : kC p s m c args cc nL own D ty) (h : kW D b M n H0 H locs) : PreS s H (va_Pc As (kPre D ty b M n)) As :=
  ⟨kFB, fun U hU hW => ⟨rfl, by rw [hU]; exact h.1, kK.moved hW.alike C.2.2.2.2.2⟩⟩
theorem kA_ok (h : kW D b M n H0 H locs) (hb0 : b ≤ H0.size) : ∀ q, q < H.size → kA b q → kA b q := fun _ _ h => h
/-- virtual calls -/
theorem k_vi (C : kC p s m c args cc nL own D ty) (h : kW D b M n H0 H locs) (i : Nat) (hi : i < n) {ci : Nat} {fs : List Value} (he : M i = .inr (ci, fs)) {Cn : String} {T : u_T} {N : Nat} (hc : vwCl[ci]? = some (Cn, T, N)) {post : Int32 → ((Nat → va_E) × Nat) → Prop} (hM : Met l y (kw y by_ maxL ret) ({ frames := fr, cells := mc, slots := ms, locals := lo }) (va_Pc (.ref (b + i) :: As) (kPre D ty b M n)) (va_Qi post (kB D ty b) (kA b)) mc ms (kA b)) (hV : kV own Cn index y by_ maxL ret As.length) (hst : st0 = As.reverse ++ .ref (b + i) :: rest) (hls : ls.size = nL) (hR : fr + 1 ≤ R.frames ∧ 8 + (maxL + 11) + lo ≤ R.locals) (hr8 : (rest.map fun v => v.category).sum ≤ 8) (hf : cells + mc ≤ R.cells ∧ slots + ms ≤ R.slots) (hd : decode cc pc = .ok (.invokevirtual index, 3))
    (kk : ∀ (r : Int32) (M1 : Nat → va_E) (n1 : Nat) (H1 : Heap) (locs1 : List Loc), post r (M1, n1) → kW D b M1 n1 H0 H1 locs1 → W p l e R s m args below meth c H1 locs1 (cells + mc) (slots + ms) Q (F0 m (pc + 3) ls (.int r :: rest))) : W p l e R s m args below meth c H locs cells slots Q (F0 m pc ls st0) := by
  refine va_calli (va_runV ⟨C.1, C.2.1, C.2.2.1, C.2.2.2.1, C.2.2.2.2.1⟩ hM (k_cwV C.2.2.2.2.1 hV rfl rfl hR) (k_preV C h i hi he hc) rfl rfl hls hst (lv_room hr8) hd hf) h.2 (fun q _ h => h) (fun q h => h) (fun r u t H1 locs1 ht hvm hw hB hz1 hk1 hS => ?_)
  exact kk r u.1 u.2 H1 locs1 hw ⟨by rw [← ht]; exact hB.1, hS⟩
theorem k_vl (C : kC p s m c args cc nL own D ty) (h : kW D b M n H0 H locs) (i : Nat) (hi : i < n) {ci : Nat} {fs : List Value} (he : M i = .inr (ci, fs)) {Cn : String} {T : u_T} {N : Nat} (hc : vwCl[ci]? = some (Cn, T, N)) {post : Int64 → ((Nat → va_E) × Nat) → Prop} (hM : Met l y (kw y by_ maxL ret) ({ frames := fr, cells := mc, slots := ms, locals := lo }) (va_Pc (.ref (b + i) :: As) (kPre D ty b M n)) (va_Ql post (kB D ty b) (kA b)) mc ms (kA b)) (hV : kV own Cn index y by_ maxL ret As.length) (hst : st0 = As.reverse ++ .ref (b + i) :: rest) (hls : ls.size = nL) (hR : fr + 1 ≤ R.frames ∧ 8 + (maxL + 11) + lo ≤ R.locals) (hr8 : (rest.map fun v => v.category).sum ≤ 8) (hf : cells + mc ≤ R.cells ∧ slots + ms ≤ R.slots) (hd : decode cc pc = .ok (.invokevirtual index, 3))
    (kk : ∀ (r : Int64) (M1 : Nat → va_E) (n1 : Nat) (H1 : Heap) (locs1 : List Loc), post r (M1, n1) → kW D b M1 n1 H0 H1 locs1 → W p l e R s m args below meth c H1 locs1 (cells + mc) (slots + ms) Q (F0 m (pc + 3) ls (.long r :: rest))) : W p l e R s m args below meth c H locs cells slots Q (F0 m pc ls st0) := by
  refine va_calll (va_runV ⟨C.1, C.2.1, C.2.2.1, C.2.2.2.1, C.2.2.2.2.1⟩ hM (k_cwV C.2.2.2.2.1 hV rfl rfl hR) (k_preV C h i hi he hc) rfl rfl hls hst (lv_room hr8) hd hf) h.2 (fun q _ h => h) (fun q h => h) (fun r u t H1 locs1 ht hvm hw hB hz1 hk1 hS => ?_)
  exact kk r u.1 u.2 H1 locs1 hw ⟨by rw [← ht]; exact hB.1, hS⟩
theorem k_vv (C : kC p s m c args cc nL own D ty) (h : kW D b M n H0 H locs) (i : Nat) (hi : i < n) {ci : Nat} {fs : List Value} (he : M i = .inr (ci, fs)) {Cn : String} {T : u_T} {N : Nat} (hc : vwCl[ci]? = some (Cn, T, N)) {post : ((Nat → va_E) × Nat) → Prop} (hM : Met l y (kw y by_ maxL ret) ({ frames := fr, cells := mc, slots := ms, locals := lo }) (va_Pc (.ref (b + i) :: As) (kPre D ty b M n)) (va_Qv post (kB D ty b) (kA b)) mc ms (kA b)) (hV : kV own Cn index y by_ maxL ret As.length) (hst : st0 = As.reverse ++ .ref (b + i) :: rest) (hls : ls.size = nL) (hR : fr + 1 ≤ R.frames ∧ 8 + (maxL + 11) + lo ≤ R.locals) (hr8 : (rest.map fun v => v.category).sum ≤ 8) (hf : cells + mc ≤ R.cells ∧ slots + ms ≤ R.slots) (hd : decode cc pc = .ok (.invokevirtual index, 3))
    (kk : ∀ (M1 : Nat → va_E) (n1 : Nat) (H1 : Heap) (locs1 : List Loc), post (M1, n1) → kW D b M1 n1 H0 H1 locs1 → W p l e R s m args below meth c H1 locs1 (cells + mc) (slots + ms) Q (F0 m (pc + 3) ls rest)) : W p l e R s m args below meth c H locs cells slots Q (F0 m pc ls st0) := by
  refine va_callv (va_runV ⟨C.1, C.2.1, C.2.2.1, C.2.2.2.1, C.2.2.2.2.1⟩ hM (k_cwV C.2.2.2.2.1 hV rfl rfl hR) (k_preV C h i hi he hc) rfl rfl hls hst (lv_room hr8) hd hf) h.2 (fun q _ h => h) (fun q h => h) (fun u t H1 locs1 ht hvm hw hB hz1 hk1 hS => ?_)
  exact kk u.1 u.2 H1 locs1 hw ⟨by rw [← ht]; exact hB.1, hS⟩
/-- constructors -/
theorem k_cv (C : kC p s m c args cc nL own D ty) (h : kW D b M n H0 H locs) {i : Nat} {post : ((Nat → va_E) × Nat) → Prop} (hM : Met l y (kw y by_ maxL none) ({ frames := fr, cells := mc, slots := ms, locals := lo }) (va_Pc (.ref (b + i) :: As) (kPre D ty b M n)) (va_Qv post (kB D ty b) (kA b)) mc ms (kA b)) (hV : kIn own index y by_ maxL As.length) (hst : st0 = As.reverse ++ .ref (b + i) :: rest) (hls : ls.size = nL) (hR : fr + 1 ≤ R.frames ∧ 8 + (maxL + 11) + lo ≤ R.locals) (hr8 : (rest.map fun v => v.category).sum ≤ 8) (hf : cells + mc ≤ R.cells ∧ slots + ms ≤ R.slots) (hd : decode cc pc = .ok (.invokespecial index, 3))
    (kk : ∀ (M1 : Nat → va_E) (n1 : Nat) (H1 : Heap) (locs1 : List Loc), post (M1, n1) → kW D b M1 n1 H0 H1 locs1 → W p l e R s m args below meth c H1 locs1 (cells + mc) (slots + ms) Q (F0 m (pc + 3) ls rest)) : W p l e R s m args below meth c H locs cells slots Q (F0 m pc ls st0) := by
  refine va_callv (va_runI ⟨C.1, C.2.1, C.2.2.1, C.2.2.2.1, C.2.2.2.2.1⟩ hM (k_cwI C.2.2.2.2.1 hV rfl rfl hR) (k_preS C h) rfl rfl hls hst (lv_room hr8) hd hf) h.2 (fun q _ h => h) (fun q h => h) (fun u t H1 locs1 ht hvm hw hB hz1 hk1 hS => ?_)
  exact kk u.1 u.2 H1 locs1 hw ⟨by rw [← ht]; exact hB.1, hS⟩
/-- static calls -/
theorem k_si (C : kC p s m c args cc nL own D ty) (h : kW D b M n H0 H locs) {post : Int32 → ((Nat → va_E) × Nat) → Prop} (hM : Met l y (kw y by_ maxL ret) ({ frames := fr, cells := mc, slots := ms, locals := lo }) (va_Pc As (kPre D ty b M n)) (va_Qi post (kB D ty b) (kA b)) mc ms (kA b)) (hV : kSt own index y by_ maxL ret As.length) (hst : st0 = As.reverse ++ rest) (hls : ls.size = nL) (hR : fr + 1 ≤ R.frames ∧ 8 + (maxL + 11) + lo ≤ R.locals) (hr8 : (rest.map fun v => v.category).sum ≤ 8) (hf : cells + mc ≤ R.cells ∧ slots + ms ≤ R.slots) (hd : decode cc pc = .ok (.invokestatic index, 3))
    (kk : ∀ (r : Int32) (M1 : Nat → va_E) (n1 : Nat) (H1 : Heap) (locs1 : List Loc), post r (M1, n1) → kW D b M1 n1 H0 H1 locs1 → W p l e R s m args below meth c H1 locs1 (cells + mc) (slots + ms) Q (F0 m (pc + 3) ls (.int r :: rest))) : W p l e R s m args below meth c H locs cells slots Q (F0 m pc ls st0) := by
  refine va_calli (va_runS ⟨C.1, C.2.1, C.2.2.1, C.2.2.2.1, C.2.2.2.2.1⟩ hM (k_cwS C.2.2.2.2.1 hV rfl rfl hR) (k_preS C h) rfl rfl hls hst (lv_room hr8) hd hf) h.2 (fun q _ h => h) (fun q h => h) (fun r u t H1 locs1 ht hvm hw hB hz1 hk1 hS => ?_)
  exact kk r u.1 u.2 H1 locs1 hw ⟨by rw [← ht]; exact hB.1, hS⟩
theorem k_sv (C : kC p s m c args cc nL own D ty) (h : kW D b M n H0 H locs) {post : ((Nat → va_E) × Nat) → Prop} (hM : Met l y (kw y by_ maxL ret) ({ frames := fr, cells := mc, slots := ms, locals := lo }) (va_Pc As (kPre D ty b M n)) (va_Qv post (kB D ty b) (kA b)) mc ms (kA b)) (hV : kSt own index y by_ maxL ret As.length) (hst : st0 = As.reverse ++ rest) (hls : ls.size = nL) (hR : fr + 1 ≤ R.frames ∧ 8 + (maxL + 11) + lo ≤ R.locals) (hr8 : (rest.map fun v => v.category).sum ≤ 8) (hf : cells + mc ≤ R.cells ∧ slots + ms ≤ R.slots) (hd : decode cc pc = .ok (.invokestatic index, 3))
    (kk : ∀ (M1 : Nat → va_E) (n1 : Nat) (H1 : Heap) (locs1 : List Loc), post (M1, n1) → kW D b M1 n1 H0 H1 locs1 → W p l e R s m args below meth c H1 locs1 (cells + mc) (slots + ms) Q (F0 m (pc + 3) ls rest)) : W p l e R s m args below meth c H locs cells slots Q (F0 m pc ls st0) := by
  refine va_callv (va_runS ⟨C.1, C.2.1, C.2.2.1, C.2.2.2.1, C.2.2.2.2.1⟩ hM (k_cwS C.2.2.2.2.1 hV rfl rfl hR) (k_preS C h) rfl rfl hls hst (lv_room hr8) hd hf) h.2 (fun q _ h => h) (fun q h => h) (fun u t H1 locs1 ht hvm hw hB hz1 hk1 hS => ?_)
  exact kk u.1 u.2 H1 locs1 hw ⟨by rw [← ht]; exact hB.1, hS⟩
/-- returns -/
theorem k_iret {post : Int32 → ((Nat → va_E) × Nat) → Prop} {v : Int32} (C : kC p s m c args cc nL own D ty) (h : kW D b M n s.heap H locs) (hr : meth.sig.returnType = some .int) (hlocks : meth.locks = false) (hp : post v (M, n)) (hd : decode cc pc = .ok (.ireturn, 1)) : W p l e R s m args below meth c H locs cells slots (MQ below (va_Qi post (kB D ty b) (kA b)) args s cells slots (kA b)) (F0 m pc ls [.int v]) :=
  W.iret (v := v) C.1 C.2.1 hr (fun t ht hW => ⟨⟨v, (M, n), rfl, hp, by rw [ht]; exact h.1, kK.moved hW.alike C.2.2.2.2.2⟩, h.2.F ht⟩) h.2.2.2 hd hlocks
theorem k_zret {post : Int32 → ((Nat → va_E) × Nat) → Prop} {v : Int32} (C : kC p s m c args cc nL own D ty) (h : kW D b M n s.heap H locs) (hr : meth.sig.returnType = some .boolean) (hlocks : meth.locks = false) (hv : v = 0 ∨ v = 1) (hp : post v (M, n)) (hd : decode cc pc = .ok (.ireturn, 1)) : W p l e R s m args below meth c H locs cells slots (MQ below (va_Qi post (kB D ty b) (kA b)) args s cells slots (kA b)) (F0 m pc ls [.int v]) :=
  W.zret (v := v) C.1 C.2.1 hr (by rcases hv with rfl | rfl <;> rfl) (fun t ht hW => ⟨⟨v, (M, n), rfl, hp, by rw [ht]; exact h.1, kK.moved hW.alike C.2.2.2.2.2⟩, h.2.F ht⟩) h.2.2.2 hd hlocks
theorem k_lret {post : Int64 → ((Nat → va_E) × Nat) → Prop} {v : Int64} (C : kC p s m c args cc nL own D ty) (h : kW D b M n s.heap H locs) (hr : meth.sig.returnType = some .long) (hlocks : meth.locks = false) (hp : post v (M, n)) (hd : decode cc pc = .ok (.lreturn, 1)) : W p l e R s m args below meth c H locs cells slots (MQ below (va_Ql post (kB D ty b) (kA b)) args s cells slots (kA b)) (F0 m pc ls [.long v]) :=
  W.lret (v := v) C.1 C.2.1 hr (fun t ht hW => ⟨⟨v, (M, n), rfl, hp, by rw [ht]; exact h.1, kK.moved hW.alike C.2.2.2.2.2⟩, h.2.F ht⟩) h.2.2.2 hd hlocks
theorem k_vret {post : ((Nat → va_E) × Nat) → Prop} (C : kC p s m c args cc nL own D ty) (h : kW D b M n s.heap H locs) (hr : meth.sig.returnType = none) (hlocks : meth.locks = false) (hp : post (M, n)) (hd : decode cc pc = .ok (.return_, 1)) : W p l e R s m args below meth c H locs cells slots (MQ below (va_Qv post (kB D ty b) (kA b)) args s cells slots (kA b)) (F0 m pc ls []) :=
  W.vret C.1 C.2.1 hr (fun t ht hW => ⟨⟨(M, n), rfl, hp, by rw [ht]; exact h.1, kK.moved hW.alike C.2.2.2.2.2⟩, h.2.F ht⟩) h.2.2.2 hd hlocks
end KQ
theorem k_ofW {l : Launch} {y : MethodName} {ws ws' : List Cond} {rm : Room} {Pc : Array Value → State → Prop} {Qc : Array Value → State → Outcome → State → Prop} {mc ms : Nat} {free : Addr → Prop} {cc : ByteArray} {maxL : Nat} {ret : Option FieldType}
    (hy : plainFor y = true) (hw : ws = Cond.code y cc maxL ret :: ws')
    (body : ∀ p e s m args below meth c s₁, BodyLoose p l y (headSpec ws rm) cc maxL ret e s m args below meth c s₁ → c.maxLocals = maxL → Pc args s →
      W p l e (headSpec ws rm).room s m args below meth c s.heap [] 0 0 (MQ below Qc args s mc ms free) (entryFrame m args maxL)) : Met l y ws rm Pc Qc mc ms free := by
  refine MetFree.of_bodySF (code := cc) (maxLocals := maxL) (ret := ret) hy ?_ ?_
  · intro args s m h hn
    obtain ⟨meth, c, h1, h2, h3, h4, h5, h6, -, -⟩ := Cond.code_spec hn (atoms_spec (ws := ws) h _ (by rw [hw]; exact List.mem_cons_self))
    exact ⟨meth, c, h1, h2, h3, h4, h5, h6⟩
  · intro p e s m args below meth c s₁ B hml hP _
    have hh0 : s₁.heap = s.heap := by rw [B.state]; rfl
    obtain ⟨t, a1, o, b1, b2, b3⟩ := body p e s m args below meth c s₁ B hml hP s₁ hh0 (Stand.of_body B)
    exact ⟨t, o, a1, b1, b2, ⟨b3.1, b3.2⟩⟩
/-- a contract out of a walk of the body -/
theorem k_met {l : Launch} {y : MethodName} {cc : ByteArray} {maxL : Nat} {ret : Option FieldType} {D : va_G} {ty : List (ClassId × FieldType)} {b n : Nat} {M : Nat → va_E} {rm : Room} {av : List Value} {Qc : Array Value → State → Outcome → State → Prop} {mc ms : Nat} (hy : plainFor y = true) (hav : (lg_sl av).length ≤ maxL)
    (body : ∀ (p : Program) (e : Env) (s : State) (m : MethodId) (below : List Frame) (meth : Method) (c : Code) (ls : Array Slot), kC p s m c av.toArray cc maxL y.cls D ty → kW D b M n s.heap s.heap [] → meth.sig.returnType = ret → meth.locks = false → meth.name = y.name → lv_has ls maxL (lv_args 0 av) → W p l e rm s m av.toArray below meth c s.heap [] 0 0 (MQ below Qc av.toArray s mc ms (kA b)) (F0 m 0 ls [])) : Met l y (kw y cc maxL ret) rm (va_Pc av (kPre D ty b M n)) Qc mc ms (kA b) := by
  refine k_ofW (cc := cc) (maxL := maxL) (ret := ret) hy rfl ?_
  intro p e s m args below meth c s₁ B hml hv
  obtain ⟨rfl, hH, hK⟩ := hv
  have hts := atoms_spec (ws := kw y cc maxL ret) B.pre
  have hl := lv_entry av (n := maxL) hav
  rw [lg_entry_eq]
  generalize (lg_sl av ++ List.replicate (maxL - (lg_sl av).length) Slot.unset).toArray = ls at hl ⊢
  exact body p e s m below meth c ls ⟨B.exec, B.bytes, hml, findClass_of_methodNamed B.named, fun w h => hts w (List.mem_cons_of_mem _ h), hK⟩ ⟨hH, va_S.rf⟩ B.returns B.notSynchronized (name_of_methodNamed B.named B.method).1 hl
