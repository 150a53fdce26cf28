section KZ
variable {p : Program} {l : Launch} {e : Env} {R : Room} {s : State} {m : MethodId} {args : Array Value} {below : List Frame} {meth : Method} {c : Code} {H : Heap} {locs : List Loc} {cells slots : Nat} {Q : State → Prop} {pc : Nat} {ls : Array Slot} {rest : List Value}
theorem k_topi {x : Int32} (y : Int32) (h : x = y) (k : W p l e R s m args below meth c H locs cells slots Q (F0 m pc ls (.int y :: rest))) : W p l e R s m args below meth c H locs cells slots Q (F0 m pc ls (.int x :: rest)) := by rw [h]; exact k
theorem k_topl {x : Int64} (y : Int64) (h : x = y) (k : W p l e R s m args below meth c H locs cells slots Q (F0 m pc ls (.long y :: rest))) : W p l e R s m args below meth c H locs cells slots Q (F0 m pc ls (.long x :: rest)) := by rw [h]; exact k
end KZ
theorem k_inc (i k : Nat) : nI i + Int32.ofInt (k : Int) = nI (i + k) := nI_add i k
theorem k_sw {x : Int32} {lo hi : Int} : (x.toInt < lo ∨ hi < x.toInt) ∨ ∃ k : Int, lo ≤ k ∧ k ≤ hi ∧ x.toInt = k := by
  by_cases h1 : x.toInt < lo
  · exact Or.inl (Or.inl h1)
  · by_cases h2 : hi < x.toInt
    · exact Or.inl (Or.inr h2)
    · exact Or.inr ⟨_, by omega, by omega, rfl⟩
theorem k_eqk {x : Int32} (k : Int32) (h : x.toInt = k.toInt) : x = k := Int32.toInt_inj.mp h
section KMT
variable {l : Launch} {y : MethodName} {cc : ByteArray} {maxL : Nat} {D : va_G} {ty : List (ClassId × FieldType)} {b n : Nat} {M : Nat → va_E} {rm : Room} {av : List Value} {mc ms : Nat}
theorem k_metI {post : Int32 → ((Nat → va_E) × Nat) → Prop} (hy : plainFor y = true) (hav : (lg_sl av).length ≤ maxL)
    (body : ∀ (p : Program) (e : Env) (s : State) (m : MethodId) (below : List Frame) (meth : Method) (c : Code) (ls : Array Slot) (Q : State → Prop), kC p s m c av.toArray cc maxL y.cls D ty → kW D b M n s.heap s.heap [] →
      (∀ {v : Int32} {M1 : Nat → va_E} {n1 : Nat} {H : Heap} {locs : List Loc} {pc : Nat} {ls : Array Slot} (cells slots : Nat), cells ≤ mc → slots ≤ ms → kW D b M1 n1 s.heap H locs → post v (M1, n1) → decode cc pc = .ok (.ireturn, 1) → W p l e rm s m av.toArray below meth c H locs cells slots Q (F0 m pc ls [.int v])) → meth.name = y.name → lv_has ls maxL (lv_args 0 av) → W p l e rm s m av.toArray below meth c s.heap [] 0 0 Q (F0 m 0 ls [])) : Met l y (kw y cc maxL (some .int)) rm (va_Pc av (kPre D ty b M n)) (va_Qi post (kB D ty b) (kA b)) mc ms (kA b) :=
  k_met hy hav (fun p e s m below meth c ls C hw hr hlk hnm hl => body p e s m below meth c ls _ C hw (fun cells slots h1 h2 hw hp hd => W.widen (k := mc) (n := ms) h1 h2 (k_iret C hw hr hlk hp hd)) hnm hl)
theorem k_metZ {post : Int32 → ((Nat → va_E) × Nat) → Prop} (hy : plainFor y = true) (hav : (lg_sl av).length ≤ maxL)
    (body : ∀ (p : Program) (e : Env) (s : State) (m : MethodId) (below : List Frame) (meth : Method) (c : Code) (ls : Array Slot) (Q : State → Prop), kC p s m c av.toArray cc maxL y.cls D ty → kW D b M n s.heap s.heap [] →
      (∀ {v : Int32} {M1 : Nat → va_E} {n1 : Nat} {H : Heap} {locs : List Loc} {pc : Nat} {ls : Array Slot} (cells slots : Nat), cells ≤ mc → slots ≤ ms → kW D b M1 n1 s.heap H locs → (v = 0 ∨ v = 1) → post v (M1, n1) → decode cc pc = .ok (.ireturn, 1) → W p l e rm s m av.toArray below meth c H locs cells slots Q (F0 m pc ls [.int v])) → meth.name = y.name → lv_has ls maxL (lv_args 0 av) → W p l e rm s m av.toArray below meth c s.heap [] 0 0 Q (F0 m 0 ls [])) : Met l y (kw y cc maxL (some .boolean)) rm (va_Pc av (kPre D ty b M n)) (va_Qi post (kB D ty b) (kA b)) mc ms (kA b) :=
  k_met hy hav (fun p e s m below meth c ls C hw hr hlk hnm hl => body p e s m below meth c ls _ C hw (fun cells slots h1 h2 hw hv hp hd => W.widen (k := mc) (n := ms) h1 h2 (k_zret C hw hr hlk hv hp hd)) hnm hl)
theorem k_metL {post : Int64 → ((Nat → va_E) × Nat) → Prop} (hy : plainFor y = true) (hav : (lg_sl av).length ≤ maxL)
    (body : ∀ (p : Program) (e : Env) (s : State) (m : MethodId) (below : List Frame) (meth : Method) (c : Code) (ls : Array Slot) (Q : State → Prop), kC p s m c av.toArray cc maxL y.cls D ty → kW D b M n s.heap s.heap [] →
      (∀ {v : Int64} {M1 : Nat → va_E} {n1 : Nat} {H : Heap} {locs : List Loc} {pc : Nat} {ls : Array Slot} (cells slots : Nat), cells ≤ mc → slots ≤ ms → kW D b M1 n1 s.heap H locs → post v (M1, n1) → decode cc pc = .ok (.lreturn, 1) → W p l e rm s m av.toArray below meth c H locs cells slots Q (F0 m pc ls [.long v])) → meth.name = y.name → lv_has ls maxL (lv_args 0 av) → W p l e rm s m av.toArray below meth c s.heap [] 0 0 Q (F0 m 0 ls [])) : Met l y (kw y cc maxL (some .long)) rm (va_Pc av (kPre D ty b M n)) (va_Ql post (kB D ty b) (kA b)) mc ms (kA b) :=
  k_met hy hav (fun p e s m below meth c ls C hw hr hlk hnm hl => body p e s m below meth c ls _ C hw (fun cells slots h1 h2 hw hp hd => W.widen (k := mc) (n := ms) h1 h2 (k_lret C hw hr hlk hp hd)) hnm hl)
theorem k_metV {post : ((Nat → va_E) × Nat) → Prop} (hy : plainFor y = true) (hav : (lg_sl av).length ≤ maxL)
    (body : ∀ (p : Program) (e : Env) (s : State) (m : MethodId) (below : List Frame) (meth : Method) (c : Code) (ls : Array Slot) (Q : State → Prop), kC p s m c av.toArray cc maxL y.cls D ty → kW D b M n s.heap s.heap [] →
      (∀ {M1 : Nat → va_E} {n1 : Nat} {H : Heap} {locs : List Loc} {pc : Nat} {ls : Array Slot} (cells slots : Nat), cells ≤ mc → slots ≤ ms → kW D b M1 n1 s.heap H locs → post (M1, n1) → decode cc pc = .ok (.return_, 1) → W p l e rm s m av.toArray below meth c H locs cells slots Q (F0 m pc ls [])) → meth.name = y.name → lv_has ls maxL (lv_args 0 av) → W p l e rm s m av.toArray below meth c s.heap [] 0 0 Q (F0 m 0 ls [])) : Met l y (kw y cc maxL none) rm (va_Pc av (kPre D ty b M n)) (va_Qv post (kB D ty b) (kA b)) mc ms (kA b) :=
  k_met hy hav (fun p e s m below meth c ls C hw hr hlk hnm hl => body p e s m below meth c ls _ C hw (fun cells slots h1 h2 hw hp hd => W.widen (k := mc) (n := ms) h1 h2 (k_vret C hw hr hlk hp hd)) hnm hl)
end KMT
/-- sums and counts -/
def sm (f : Nat → Int32) : Nat → Int32
  | 0 => 0
  | k + 1 => sm f k + f k
/-- how many j < k have P -/
def cnt (P : Nat → Bool) : Nat → Nat
  | 0 => 0
  | k + 1 => cnt P k + if P k then 1 else 0
/-- the first j < k with P, or k -/
def fst (P : Nat → Bool) : Nat → Nat
  | 0 => 0
  | k + 1 => if fst P k < k then fst P k else if P k then k else k + 1
theorem fst_le (P : Nat → Bool) : ∀ k, fst P k ≤ k
  | 0 => Nat.le_refl _
  | k + 1 => by
    have := fst_le P k
    unfold fst
    split
    · omega
    · split <;> omega
theorem fst_none {P : Nat → Bool} : ∀ {k : Nat}, (∀ j, j < k → P j = false) → fst P k = k
  | 0, _ => rfl
  | k + 1, h => by
    have h1 := fst_none (k := k) (fun j hj => h j (by omega))
    unfold fst
    rw [h1, if_neg (by omega), h k (by omega)]
    rfl
theorem fst_at {P : Nat → Bool} {i : Nat} (h : ∀ j, j < i → P j = false) (hi : P i = true) : ∀ {k : Nat}, i < k → fst P k = i
  | 0, hk => by omega
  | k + 1, hk => by
    by_cases q : i < k
    · have h1 := fst_at h hi q
      unfold fst
      rw [h1, if_pos q]
    · have e : i = k := by omega
      subst e
      unfold fst
      rw [fst_none h, if_neg (by omega), hi]
      rfl
/-- the group of a key: the same number for both -/
def gx (G key : Int32) : Int32 := (((key * -1640531535 + nI 7 * key) ^^^ ((key * -1640531535 + nI 7 * key).toUInt32 >>> ((nI 15).toUInt32 &&& Int32.toUInt32 31)).toInt32).toUInt32 >>> ((nI 1).toUInt32 &&& Int32.toUInt32 31)).toInt32
def gof (G : Nat) (key : Int32) : Nat := (gx (nI G) key).toBitVec.toNat % G
theorem gx_small (G key : Int32) : (gx G key).toBitVec.toNat < 2 ^ 31 := by
  unfold gx
  rw [pk_ushr _ _ 1 (by decide)]
  have := (((key * -1640531535 + nI 7 * key) ^^^ ((key * -1640531535 + nI 7 * key).toUInt32 >>> ((nI 15).toUInt32 &&& Int32.toUInt32 31)).toInt32).toBitVec).isLt
  omega
theorem gx_nI (G key : Int32) : gx G key = nI (gx G key).toBitVec.toNat := by
  apply Int32.toBitVec_inj.mp
  apply BitVec.eq_of_toNat_eq
  rw [pk_tn (by have := gx_small G key; omega)]
theorem gof_lt {G : Nat} (h : 0 < G) (key : Int32) : gof G key < G := Nat.mod_lt _ h
theorem gof_eq {G : Nat} (h : 0 < G) (hG : G ≤ 32) (key : Int32) : gx (nI G) key - gx (nI G) key / nI G * nI G = nI (gof G key) := by
  have e := gx_nI (nI G) key
  have hs := gx_small (nI G) key
  unfold gof
  generalize (gx (nI G) key).toBitVec.toNat = z at e hs ⊢
  rw [e]
  exact pk_rem hs h (by omega)
theorem k_extI {D : va_G} {b n : Nat} {M : Nat → va_E} {H0 H : Heap} {locs : List Loc} (h : kW D b M n H0 H locs) (i : Nat) (hi : i < n) {cA : ClassId} {N : Nat} {f : Nat → Int32} (he : M i = .inl (cA, N, .inl f)) (g : Nat → Int32) (hg : ∀ j, j < N → f j = g j) : ∃ M1, kW D b M1 n H0 H locs ∧ M1 i = .inl (cA, N, .inl g) ∧ kF [i] M M1 := by
  refine ⟨va_up M i (.inl (cA, N, .inl g)), ⟨kH_up h.1 rfl (fun _ _ => rfl) ?_, h.2⟩, if_pos rfl, kF_up⟩
  have h1 := h.1.2 i hi
  rw [he] at h1
  have h2 : H[b + i]? = some (arrV cA N (fun j => .int (f j))) := h1
  show H[b + i]? = some (arrV cA N (fun j => .int (g j)))
  rw [h2]
  congr 1
  unfold arrV
  congr 1
  apply Array.ext
  · simp
  · intro j h3 h4
    simp at h3
    simp [hg j h3]
theorem k_extJ {D : va_G} {b n : Nat} {M : Nat → va_E} {H0 H : Heap} {locs : List Loc} (h : kW D b M n H0 H locs) (i : Nat) (hi : i < n) {cA : ClassId} {N : Nat} {f : Nat → Int64} (he : M i = .inl (cA, N, .inr (.inl f))) (g : Nat → Int64) (hg : ∀ j, j < N → f j = g j) : ∃ M1, kW D b M1 n H0 H locs ∧ M1 i = .inl (cA, N, .inr (.inl g)) ∧ kF [i] M M1 := by
  refine ⟨va_up M i (.inl (cA, N, .inr (.inl g))), ⟨kH_up h.1 rfl (fun _ _ => rfl) ?_, h.2⟩, if_pos rfl, kF_up⟩
  have h1 := h.1.2 i hi
  rw [he] at h1
  have h2 : H[b + i]? = some (arrV cA N (fun j => .long (f j))) := h1
  show H[b + i]? = some (arrV cA N (fun j => .long (g j)))
  rw [h2]
  congr 1
  unfold arrV
  congr 1
  apply Array.ext
  · simp
  · intro j h3 h4
    simp at h3
    simp [hg j h3]
/-- i places filled with v -/
def fil {α : Type} (f : Nat → α) (v : α) (i : Nat) : Nat → α := fun j => if j < i then v else f j
theorem fil_0 {α : Type} (f : Nat → α) (v : α) : fil f v 0 = f := funext fun j => if_neg (Nat.not_lt_zero j)
theorem fil_s {f : Nat → Int32} {v : Int32} {i : Nat} : upd (fil f v i) i v = fil f v (i + 1) := funext fun j => by
  unfold upd fil
  by_cases h : j = i
  · subst h; simp
  · by_cases h2 : j < i
    · simp [h, h2, Nat.lt_succ_of_lt h2]
    · simp [h, h2, show ¬ j < i + 1 by omega]
theorem fil_sL {f : Nat → Int64} {v : Int64} {i : Nat} : vp_updL (fil f v i) i v = fil f v (i + 1) := funext fun j => by
  unfold vp_updL fil
  by_cases h : j = i
  · subst h; simp
  · by_cases h2 : j < i
    · simp [h, h2, Nat.lt_succ_of_lt h2]
    · simp [h, h2, show ¬ j < i + 1 by omega]
def fI (P : Nat → Bool) (k : Nat) : Int32 := if fst P k < k then nI (fst P k) else -106
theorem fI_none {P : Nat → Bool} {k : Nat} (h : ∀ j, j < k → P j = false) : fI P k = -106 := by unfold fI; rw [fst_none h, if_neg (by omega)]
theorem fI_at {P : Nat → Bool} {i k : Nat} (h : ∀ j, j < i → P j = false) (hi : P i = true) (hk : i < k) : fI P k = nI i := by unfold fI; rw [fst_at h hi hk, if_pos hk]
theorem sm_s (f : Nat → Int32) (k : Nat) : sm f (k + 1) = sm f k + f k := rfl
theorem cnt_t {P : Nat → Bool} {k : Nat} (h : P k = true) : cnt P (k + 1) = cnt P k + 1 := by
  show cnt P k + (if P k then 1 else 0) = _
  rw [if_pos h]
theorem cnt_f {P : Nat → Bool} {k : Nat} (h : P k = false) : cnt P (k + 1) = cnt P k := by
  show cnt P k + (if P k then 1 else 0) = _
  rw [if_neg (by rw [h]; decide)]
  rfl
theorem cnt_le (P : Nat → Bool) : ∀ k, cnt P k ≤ k
  | 0 => Nat.le_refl _
  | k + 1 => by
    have := cnt_le P k
    show cnt P k + (if P k then 1 else 0) ≤ _
    split <;> omega
