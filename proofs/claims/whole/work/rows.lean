section
-- ===== PART A: goes FIRST, ahead of the names: the tables' words, and 'selects' of the private methods out of them =====
/-- a private method of a class that the tables say can be made, by its rows of tables_1 -/
def lw_okq (q : MethodName × Nat) : Prop := (q.1.cls ≠ "java/lang/invoke/MethodHandle" ∧ q.1.cls ≠ "java/lang/invoke/VarHandle") ∧ Cond.instantiable q.1.cls q.2 ∈ tables_1 ∧ Cond.privateMethod q.1 ∈ tables_1 ∧ Cond.instanceMethod q.1 ∈ tables_1
theorem lw_p0 : lw_okq (⟨"KeyGroups", "isTask", "(I)Z"⟩, 8) := ⟨⟨by decide +kernel, by decide +kernel⟩, List.mem_of_getElem? (i := 15) (by decide +kernel), List.mem_of_getElem? (i := 299) (by decide +kernel), List.mem_of_getElem? (i := 300) (by decide +kernel)⟩
theorem lw_p1 : lw_okq (⟨"KeyGroups", "firstInLine", "(I)I"⟩, 8) := ⟨⟨by decide +kernel, by decide +kernel⟩, List.mem_of_getElem? (i := 15) (by decide +kernel), List.mem_of_getElem? (i := 303) (by decide +kernel), List.mem_of_getElem? (i := 304) (by decide +kernel)⟩
theorem lw_p2 : lw_okq (⟨"KeyGroups", "waitsFor", "(II)Z"⟩, 8) := ⟨⟨by decide +kernel, by decide +kernel⟩, List.mem_of_getElem? (i := 15) (by decide +kernel), List.mem_of_getElem? (i := 307) (by decide +kernel), List.mem_of_getElem? (i := 308) (by decide +kernel)⟩
theorem lw_p3 : lw_okq (⟨"KeyGroups", "waitingOfGroup", "(I)I"⟩, 8) := ⟨⟨by decide +kernel, by decide +kernel⟩, List.mem_of_getElem? (i := 15) (by decide +kernel), List.mem_of_getElem? (i := 384) (by decide +kernel), List.mem_of_getElem? (i := 385) (by decide +kernel)⟩
theorem lw_p4 : lw_okq (⟨"KeyGroups", "lengthOfLine", "(I)I"⟩, 8) := ⟨⟨by decide +kernel, by decide +kernel⟩, List.mem_of_getElem? (i := 15) (by decide +kernel), List.mem_of_getElem? (i := 404) (by decide +kernel), List.mem_of_getElem? (i := 405) (by decide +kernel)⟩
theorem lw_p5 : lw_okq (⟨"KeyGroups", "firstNumberInLine", "(I)I"⟩, 8) := ⟨⟨by decide +kernel, by decide +kernel⟩, List.mem_of_getElem? (i := 15) (by decide +kernel), List.mem_of_getElem? (i := 408) (by decide +kernel), List.mem_of_getElem? (i := 409) (by decide +kernel)⟩
theorem lw_p6 : lw_okq (⟨"KeyGroupsModel", "begin", "()V"⟩, 41) := ⟨⟨by decide +kernel, by decide +kernel⟩, List.mem_of_getElem? (i := 553) (by decide +kernel), List.mem_of_getElem? (i := 559) (by decide +kernel), List.mem_of_getElem? (i := 560) (by decide +kernel)⟩
theorem lw_p7 : lw_okq (⟨"KeyGroupsModel", "layShape", "(II)V"⟩, 41) := ⟨⟨by decide +kernel, by decide +kernel⟩, List.mem_of_getElem? (i := 553) (by decide +kernel), List.mem_of_getElem? (i := 563) (by decide +kernel), List.mem_of_getElem? (i := 564) (by decide +kernel)⟩
theorem lw_p8 : lw_okq (⟨"KeyGroupsModel", "groupOf", "(I)I"⟩, 41) := ⟨⟨by decide +kernel, by decide +kernel⟩, List.mem_of_getElem? (i := 553) (by decide +kernel), List.mem_of_getElem? (i := 714) (by decide +kernel), List.mem_of_getElem? (i := 715) (by decide +kernel)⟩
theorem lw_p9 : lw_okq (⟨"KeyGroupsModel", "firstOf", "(I)I"⟩, 41) := ⟨⟨by decide +kernel, by decide +kernel⟩, List.mem_of_getElem? (i := 553) (by decide +kernel), List.mem_of_getElem? (i := 729) (by decide +kernel), List.mem_of_getElem? (i := 730) (by decide +kernel)⟩
theorem lw_p10 : lw_okq (⟨"KeyGroupsModel", "planEven", "(I)V"⟩, 41) := ⟨⟨by decide +kernel, by decide +kernel⟩, List.mem_of_getElem? (i := 553) (by decide +kernel), List.mem_of_getElem? (i := 741) (by decide +kernel), List.mem_of_getElem? (i := 742) (by decide +kernel)⟩
theorem lw_p11 : lw_okq (⟨"KeyGroupsModel", "findLeast", "(I)V"⟩, 41) := ⟨⟨by decide +kernel, by decide +kernel⟩, List.mem_of_getElem? (i := 553) (by decide +kernel), List.mem_of_getElem? (i := 745) (by decide +kernel), List.mem_of_getElem? (i := 746) (by decide +kernel)⟩
theorem lw_p12 : lw_okq (⟨"KeyGroupsModel", "limit", "(I)I"⟩, 41) := ⟨⟨by decide +kernel, by decide +kernel⟩, List.mem_of_getElem? (i := 553) (by decide +kernel), List.mem_of_getElem? (i := 749) (by decide +kernel), List.mem_of_getElem? (i := 750) (by decide +kernel)⟩
theorem lw_p13 : lw_okq (⟨"KeyGroupsModel", "total", "()I"⟩, 41) := ⟨⟨by decide +kernel, by decide +kernel⟩, List.mem_of_getElem? (i := 553) (by decide +kernel), List.mem_of_getElem? (i := 753) (by decide +kernel), List.mem_of_getElem? (i := 754) (by decide +kernel)⟩
theorem lw_p14 : lw_okq (⟨"KeyGroupsModel", "tryRange", "(IIII)J"⟩, 41) := ⟨⟨by decide +kernel, by decide +kernel⟩, List.mem_of_getElem? (i := 553) (by decide +kernel), List.mem_of_getElem? (i := 758) (by decide +kernel), List.mem_of_getElem? (i := 759) (by decide +kernel)⟩
theorem lw_p15 : lw_okq (⟨"KeyGroupsModel", "weightOf", "(II)I"⟩, 41) := ⟨⟨by decide +kernel, by decide +kernel⟩, List.mem_of_getElem? (i := 553) (by decide +kernel), List.mem_of_getElem? (i := 762) (by decide +kernel), List.mem_of_getElem? (i := 763) (by decide +kernel)⟩
def lw_privs_1 : List (MethodName × Nat) := [(⟨"KeyGroups", "isTask", "(I)Z"⟩, 8), (⟨"KeyGroups", "firstInLine", "(I)I"⟩, 8), (⟨"KeyGroups", "waitsFor", "(II)Z"⟩, 8), (⟨"KeyGroups", "waitingOfGroup", "(I)I"⟩, 8), (⟨"KeyGroups", "lengthOfLine", "(I)I"⟩, 8), (⟨"KeyGroups", "firstNumberInLine", "(I)I"⟩, 8), (⟨"KeyGroupsModel", "begin", "()V"⟩, 41), (⟨"KeyGroupsModel", "layShape", "(II)V"⟩, 41), (⟨"KeyGroupsModel", "groupOf", "(I)I"⟩, 41), (⟨"KeyGroupsModel", "firstOf", "(I)I"⟩, 41), (⟨"KeyGroupsModel", "planEven", "(I)V"⟩, 41), (⟨"KeyGroupsModel", "findLeast", "(I)V"⟩, 41), (⟨"KeyGroupsModel", "limit", "(I)I"⟩, 41), (⟨"KeyGroupsModel", "total", "()I"⟩, 41), (⟨"KeyGroupsModel", "tryRange", "(IIII)J"⟩, 41), (⟨"KeyGroupsModel", "weightOf", "(II)I"⟩, 41)]
theorem lw_r1 : ∀ q ∈ lw_privs_1, lw_okq q := List.forall_mem_cons.mpr ⟨lw_p0, List.forall_mem_cons.mpr ⟨lw_p1, List.forall_mem_cons.mpr ⟨lw_p2, List.forall_mem_cons.mpr ⟨lw_p3, List.forall_mem_cons.mpr ⟨lw_p4, List.forall_mem_cons.mpr ⟨lw_p5, List.forall_mem_cons.mpr ⟨lw_p6, List.forall_mem_cons.mpr ⟨lw_p7, List.forall_mem_cons.mpr ⟨lw_p8, List.forall_mem_cons.mpr ⟨lw_p9, List.forall_mem_cons.mpr ⟨lw_p10, List.forall_mem_cons.mpr ⟨lw_p11, List.forall_mem_cons.mpr ⟨lw_p12, List.forall_mem_cons.mpr ⟨lw_p13, List.forall_mem_cons.mpr ⟨lw_p14, List.forall_mem_cons.mpr ⟨lw_p15, fun _ h => absurd h List.not_mem_nil⟩⟩⟩⟩⟩⟩⟩⟩⟩⟩⟩⟩⟩⟩⟩⟩
theorem lw_p16 : lw_okq (⟨"KeyGroupsModel", "movedOf", "(III)J"⟩, 41) := ⟨⟨by decide +kernel, by decide +kernel⟩, List.mem_of_getElem? (i := 553) (by decide +kernel), List.mem_of_getElem? (i := 766) (by decide +kernel), List.mem_of_getElem? (i := 767) (by decide +kernel)⟩
theorem lw_p17 : lw_okq (⟨"KeyGroupsModel", "planLeast", "(I)V"⟩, 41) := ⟨⟨by decide +kernel, by decide +kernel⟩, List.mem_of_getElem? (i := 553) (by decide +kernel), List.mem_of_getElem? (i := 770) (by decide +kernel), List.mem_of_getElem? (i := 771) (by decide +kernel)⟩
theorem lw_p18 : lw_okq (⟨"KeyGroupsModel", "waitingOf", "(I)I"⟩, 41) := ⟨⟨by decide +kernel, by decide +kernel⟩, List.mem_of_getElem? (i := 553) (by decide +kernel), List.mem_of_getElem? (i := 786) (by decide +kernel), List.mem_of_getElem? (i := 787) (by decide +kernel)⟩
theorem lw_p19 : lw_okq (⟨"KeyGroupsModel", "before", "(II)I"⟩, 41) := ⟨⟨by decide +kernel, by decide +kernel⟩, List.mem_of_getElem? (i := 553) (by decide +kernel), List.mem_of_getElem? (i := 806) (by decide +kernel), List.mem_of_getElem? (i := 807) (by decide +kernel)⟩
theorem lw_p20 : lw_okq (⟨"KeyGroupsModel", "due", "(I)I"⟩, 41) := ⟨⟨by decide +kernel, by decide +kernel⟩, List.mem_of_getElem? (i := 553) (by decide +kernel), List.mem_of_getElem? (i := 819) (by decide +kernel), List.mem_of_getElem? (i := 820) (by decide +kernel)⟩
theorem lw_p21 : lw_okq (⟨"KeyGroupsModel", "ring", "(I)V"⟩, 41) := ⟨⟨by decide +kernel, by decide +kernel⟩, List.mem_of_getElem? (i := 553) (by decide +kernel), List.mem_of_getElem? (i := 823) (by decide +kernel), List.mem_of_getElem? (i := 824) (by decide +kernel)⟩
theorem lw_p22 : lw_okq (⟨"KeyGroupsModel", "keptLogs", "()I"⟩, 41) := ⟨⟨by decide +kernel, by decide +kernel⟩, List.mem_of_getElem? (i := 553) (by decide +kernel), List.mem_of_getElem? (i := 838) (by decide +kernel), List.mem_of_getElem? (i := 839) (by decide +kernel)⟩
theorem lw_p23 : lw_okq (⟨"KeyGroupsModel", "waiting", "()I"⟩, 41) := ⟨⟨by decide +kernel, by decide +kernel⟩, List.mem_of_getElem? (i := 553) (by decide +kernel), List.mem_of_getElem? (i := 850) (by decide +kernel), List.mem_of_getElem? (i := 851) (by decide +kernel)⟩
def lw_privs_2 : List (MethodName × Nat) := [(⟨"KeyGroupsModel", "movedOf", "(III)J"⟩, 41), (⟨"KeyGroupsModel", "planLeast", "(I)V"⟩, 41), (⟨"KeyGroupsModel", "waitingOf", "(I)I"⟩, 41), (⟨"KeyGroupsModel", "before", "(II)I"⟩, 41), (⟨"KeyGroupsModel", "due", "(I)I"⟩, 41), (⟨"KeyGroupsModel", "ring", "(I)V"⟩, 41), (⟨"KeyGroupsModel", "keptLogs", "()I"⟩, 41), (⟨"KeyGroupsModel", "waiting", "()I"⟩, 41)]
theorem lw_r2 : ∀ q ∈ lw_privs_2, lw_okq q := List.forall_mem_cons.mpr ⟨lw_p16, List.forall_mem_cons.mpr ⟨lw_p17, List.forall_mem_cons.mpr ⟨lw_p18, List.forall_mem_cons.mpr ⟨lw_p19, List.forall_mem_cons.mpr ⟨lw_p20, List.forall_mem_cons.mpr ⟨lw_p21, List.forall_mem_cons.mpr ⟨lw_p22, List.forall_mem_cons.mpr ⟨lw_p23, fun _ h => absurd h List.not_mem_nil⟩⟩⟩⟩⟩⟩⟩⟩
def lw_privs : List (MethodName × Nat) := lw_privs_1 ++ (lw_privs_2)
def lw_tbl : List Cond := k2_sels lw_privs ++ tables_1
theorem lw_privs_ok : ∀ q ∈ lw_privs, lw_okq q := by
  show ∀ q ∈ lw_privs_1 ++ (lw_privs_2), lw_okq q
  exact List.forall_mem_append.mpr ⟨lw_r1, lw_r2⟩
-- ===== end of PART A; then your names; then what follows =====
end
section
def RX0 : String := "KeyGroups$Held"
def TX0 : u_T := fun k => match k with
  | 0 => ("KeyGroups$Held", "states", "LKeyGroups$States;", true)
  | 1 => ("KeyGroups$Held", "rows", "LKeyGroups$Rows;", true)
  | _ => ("KeyGroups$Held", "timers", "LKeyGroups$Timers;", true)
def tyX0 : Nat → FieldType := fun k => match k with
  | 0 => .object "KeyGroups$States"
  | 1 => .object "KeyGroups$Rows"
  | _ => .object "KeyGroups$Timers"
abbrev wsX00 : List Cond := u_ws RX0 TX0 3
theorem nmX0 : ∀ a, a < 3 → ∀ b, b < 3 → a ≠ b → (TX0 a).2.1 ≠ (TX0 b).2.1 := by decide +kernel
theorem tyX0_ok : ∀ k, k < 3 → parseFieldDescriptor (TX0 k).2.2.1 = some (tyX0 k) := by decide +kernel
abbrev cX0_init : ByteArray := prog_2_method_1_code
def yX0_init : MethodName := ⟨RX0, "<init>", "()V"⟩
abbrev cX0_begin : ByteArray := prog_2_method_2_code
def yX0_begin : MethodName := ⟨RX0, "begin", "()V"⟩
abbrev cX0_copyFrom : ByteArray := prog_2_method_3_code
def yX0_copyFrom : MethodName := ⟨RX0, "copyFrom", "(LKeyGroups$Held;)V"⟩
def RX1 : String := "KeyGroups$Log"
def TX1 : u_T := fun k => match k with
  | 0 => ("KeyGroups$Log", "key", "[I", true)
  | 1 => ("KeyGroups$Log", "time", "[I", true)
  | 2 => ("KeyGroups$Log", "count", "[I", true)
  | 3 => ("KeyGroups$Log", "sum", "[J", true)
  | 4 => ("KeyGroups$Log", "next", "I", false)
  | _ => ("KeyGroups$Log", "size", "I", false)
def tyX1 : Nat → FieldType := fun k => match k with
  | 0 => .array .int
  | 1 => .array .int
  | 2 => .array .int
  | 3 => .array .long
  | 4 => .int
  | _ => .int
abbrev wsX10 : List Cond := u_ws RX1 TX1 6
theorem nmX1 : ∀ a, a < 6 → ∀ b, b < 6 → a ≠ b → (TX1 a).2.1 ≠ (TX1 b).2.1 := by decide +kernel
theorem tyX1_ok : ∀ k, k < 6 → parseFieldDescriptor (TX1 k).2.2.1 = some (tyX1 k) := by decide +kernel
abbrev cX1_init : ByteArray := prog_3_method_1_code
def yX1_init : MethodName := ⟨RX1, "<init>", "()V"⟩
abbrev cX1_put : ByteArray := prog_3_method_2_code
def yX1_put : MethodName := ⟨RX1, "put", "(IIIJ)V"⟩
abbrev cX1_placeOf : ByteArray := prog_3_method_3_code
def yX1_placeOf : MethodName := ⟨RX1, "placeOf", "(I)I"⟩
def RX2 : String := "KeyGroups$Out"
def TX2 : u_T := fun k => match k with
  | 0 => ("KeyGroups$Out", "number", "[I", true)
  | 1 => ("KeyGroups$Out", "key", "[I", true)
  | 2 => ("KeyGroups$Out", "sum", "[J", true)
  | _ => ("KeyGroups$Out", "size", "I", false)
def tyX2 : Nat → FieldType := fun k => match k with
  | 0 => .array .int
  | 1 => .array .int
  | 2 => .array .long
  | _ => .int
abbrev wsX20 : List Cond := u_ws RX2 TX2 4
theorem nmX2 : ∀ a, a < 4 → ∀ b, b < 4 → a ≠ b → (TX2 a).2.1 ≠ (TX2 b).2.1 := by decide +kernel
theorem tyX2_ok : ∀ k, k < 4 → parseFieldDescriptor (TX2 k).2.2.1 = some (tyX2 k) := by decide +kernel
abbrev cX2_init : ByteArray := prog_4_method_1_code
def yX2_init : MethodName := ⟨RX2, "<init>", "()V"⟩
abbrev cX2_put : ByteArray := prog_4_method_2_code
def yX2_put : MethodName := ⟨RX2, "put", "(IIJ)V"⟩
def RX3 : String := "KeyGroups$Owners"
def TX3 : u_T := fun k => match k with
  | 0 => ("KeyGroups$Owners", "groups", "I", false)
  | 1 => ("KeyGroups$Owners", "most", "I", false)
  | 2 => ("KeyGroups$Owners", "tasks", "I", false)
  | 3 => ("KeyGroups$Owners", "scales", "I", false)
  | 4 => ("KeyGroups$Owners", "movedCount", "I", false)
  | 5 => ("KeyGroups$Owners", "owner", "[I", true)
  | 6 => ("KeyGroups$Owners", "epoch", "[I", true)
  | 7 => ("KeyGroups$Owners", "weight", "[I", true)
  | _ => ("KeyGroups$Owners", "movedGroup", "[I", true)
def tyX3 : Nat → FieldType := fun k => match k with
  | 0 => .int
  | 1 => .int
  | 2 => .int
  | 3 => .int
  | 4 => .int
  | 5 => .array .int
  | 6 => .array .int
  | 7 => .array .int
  | _ => .array .int
abbrev wsX30 : List Cond := u_ws RX3 TX3 9
theorem nmX3 : ∀ a, a < 9 → ∀ b, b < 9 → a ≠ b → (TX3 a).2.1 ≠ (TX3 b).2.1 := by decide +kernel
theorem tyX3_ok : ∀ k, k < 9 → parseFieldDescriptor (TX3 k).2.2.1 = some (tyX3 k) := by decide +kernel
abbrev cX3_init : ByteArray := prog_5_method_1_code
def yX3_init : MethodName := ⟨RX3, "<init>", "()V"⟩
abbrev cX3_begin : ByteArray := prog_5_method_2_code
def yX3_begin : MethodName := ⟨RX3, "begin", "()V"⟩
abbrev cX3_giveAllToOne : ByteArray := prog_5_method_3_code
def yX3_giveAllToOne : MethodName := ⟨RX3, "giveAllToOne", "(II)V"⟩
abbrev cX3_groupOf : ByteArray := prog_5_method_4_code
def yX3_groupOf : MethodName := ⟨RX3, "groupOf", "(I)I"⟩
abbrev cX3_follow : ByteArray := prog_5_method_5_code
def yX3_follow : MethodName := ⟨RX3, "follow", "([II)I"⟩
abbrev cX3_startAnew : ByteArray := prog_5_method_6_code
def yX3_startAnew : MethodName := ⟨RX3, "startAnew", "([II)V"⟩
abbrev cX3_totalWeight : ByteArray := prog_5_method_7_code
def yX3_totalWeight : MethodName := ⟨RX3, "totalWeight", "()I"⟩
abbrev cX3_firstOf : ByteArray := prog_5_method_8_code
def yX3_firstOf : MethodName := ⟨RX3, "firstOf", "(I)I"⟩
abbrev cX3_countOf : ByteArray := prog_5_method_9_code
def yX3_countOf : MethodName := ⟨RX3, "countOf", "(I)I"⟩
abbrev cX3_weightOf : ByteArray := prog_5_method_10_code
def yX3_weightOf : MethodName := ⟨RX3, "weightOf", "(I)I"⟩
abbrev cX3_isHot : ByteArray := prog_5_method_11_code
def yX3_isHot : MethodName := ⟨RX3, "isHot", "(II)Z"⟩
abbrev cX3_aheadOf : ByteArray := prog_5_method_12_code
def yX3_aheadOf : MethodName := ⟨RX3, "aheadOf", "(I)I"⟩
abbrev cX3_costToGive : ByteArray := prog_5_method_13_code
def yX3_costToGive : MethodName := ⟨RX3, "costToGive", "(II)I"⟩
def RX4 : String := "KeyGroups$Plan"
def TX4 : u_T := fun k => match k with
  | 0 => ("KeyGroups$Plan", "owner", "[I", true)
  | 1 => ("KeyGroups$Plan", "best", "[I", true)
  | _ => ("KeyGroups$Plan", "endOf", "[[I", true)
def tyX4 : Nat → FieldType := fun k => match k with
  | 0 => .array .int
  | 1 => .array .int
  | _ => .array (.array .int)
abbrev wsX40 : List Cond := u_ws RX4 TX4 3
theorem nmX4 : ∀ a, a < 3 → ∀ b, b < 3 → a ≠ b → (TX4 a).2.1 ≠ (TX4 b).2.1 := by decide +kernel
theorem tyX4_ok : ∀ k, k < 3 → parseFieldDescriptor (TX4 k).2.2.1 = some (tyX4 k) := by decide +kernel
abbrev cX4_init : ByteArray := prog_6_method_1_code
def yX4_init : MethodName := ⟨RX4, "<init>", "()V"⟩
abbrev cX4_layEven : ByteArray := prog_6_method_2_code
def yX4_layEven : MethodName := ⟨RX4, "layEven", "(II)V"⟩
abbrev cX4_layLeast : ByteArray := prog_6_method_3_code
def yX4_layLeast : MethodName := ⟨RX4, "layLeast", "(LKeyGroups$Owners;II)I"⟩
abbrev cX4_limitOf : ByteArray := prog_6_method_4_code
def yX4_limitOf : MethodName := ⟨RX4, "limitOf", "(III)I"⟩
abbrev cX4_putTaskAhead : ByteArray := prog_6_method_5_code
def yX4_putTaskAhead : MethodName := ⟨RX4, "putTaskAhead", "(LKeyGroups$Owners;II)V"⟩
abbrev cX4_chooseEnd : ByteArray := prog_6_method_6_code
def yX4_chooseEnd : MethodName := ⟨RX4, "chooseEnd", "(LKeyGroups$Owners;III)I"⟩
abbrev cX4_layChosen : ByteArray := prog_6_method_7_code
def yX4_layChosen : MethodName := ⟨RX4, "layChosen", "(I)V"⟩
abbrev cX4_layRange : ByteArray := prog_6_method_8_code
def yX4_layRange : MethodName := ⟨RX4, "layRange", "(III)V"⟩
def RX5 : String := "KeyGroups$Rows"
def TX5 : u_T := fun k => match k with
  | 0 => ("KeyGroups$Rows", "number", "[I", true)
  | 1 => ("KeyGroups$Rows", "key", "[I", true)
  | 2 => ("KeyGroups$Rows", "value", "[I", true)
  | 3 => ("KeyGroups$Rows", "size", "I", false)
  | _ => ("KeyGroups$Rows", "came", "I", false)
def tyX5 : Nat → FieldType := fun k => match k with
  | 0 => .array .int
  | 1 => .array .int
  | 2 => .array .int
  | 3 => .int
  | _ => .int
abbrev wsX50 : List Cond := u_ws RX5 TX5 5
theorem nmX5 : ∀ a, a < 5 → ∀ b, b < 5 → a ≠ b → (TX5 a).2.1 ≠ (TX5 b).2.1 := by decide +kernel
theorem tyX5_ok : ∀ k, k < 5 → parseFieldDescriptor (TX5 k).2.2.1 = some (tyX5 k) := by decide +kernel
abbrev cX5_init : ByteArray := prog_7_method_1_code
def yX5_init : MethodName := ⟨RX5, "<init>", "()V"⟩
abbrev cX5_begin : ByteArray := prog_7_method_2_code
def yX5_begin : MethodName := ⟨RX5, "begin", "()V"⟩
abbrev cX5_enter : ByteArray := prog_7_method_3_code
def yX5_enter : MethodName := ⟨RX5, "enter", "(II)V"⟩
abbrev cX5_takeOut : ByteArray := prog_7_method_4_code
def yX5_takeOut : MethodName := ⟨RX5, "takeOut", "(I)V"⟩
abbrev cX5_copyFrom : ByteArray := prog_7_method_5_code
def yX5_copyFrom : MethodName := ⟨RX5, "copyFrom", "(LKeyGroups$Rows;)V"⟩
def RX6 : String := "KeyGroups$States"
def TX6 : u_T := fun k => match k with
  | 0 => ("KeyGroups$States", "count", "[I", true)
  | _ => ("KeyGroups$States", "sum", "[J", true)
def tyX6 : Nat → FieldType := fun k => match k with
  | 0 => .array .int
  | _ => .array .long
abbrev wsX60 : List Cond := u_ws RX6 TX6 2
theorem nmX6 : ∀ a, a < 2 → ∀ b, b < 2 → a ≠ b → (TX6 a).2.1 ≠ (TX6 b).2.1 := by decide +kernel
theorem tyX6_ok : ∀ k, k < 2 → parseFieldDescriptor (TX6 k).2.2.1 = some (tyX6 k) := by decide +kernel
abbrev cX6_init : ByteArray := prog_8_method_1_code
def yX6_init : MethodName := ⟨RX6, "<init>", "()V"⟩
abbrev cX6_begin : ByteArray := prog_8_method_2_code
def yX6_begin : MethodName := ⟨RX6, "begin", "()V"⟩
abbrev cX6_forget : ByteArray := prog_8_method_3_code
def yX6_forget : MethodName := ⟨RX6, "forget", "(I)V"⟩
abbrev cX6_copyFrom : ByteArray := prog_8_method_4_code
def yX6_copyFrom : MethodName := ⟨RX6, "copyFrom", "(LKeyGroups$States;)V"⟩
def RX7 : String := "KeyGroups$Timers"
def TX7 : u_T := fun k => match k with
  | 0 => ("KeyGroups$Timers", "key", "[I", true)
  | 1 => ("KeyGroups$Timers", "time", "[I", true)
  | 2 => ("KeyGroups$Timers", "size", "I", false)
  | _ => ("KeyGroups$Timers", "reached", "I", false)
def tyX7 : Nat → FieldType := fun k => match k with
  | 0 => .array .int
  | 1 => .array .int
  | 2 => .int
  | _ => .int
abbrev wsX70 : List Cond := u_ws RX7 TX7 4
theorem nmX7 : ∀ a, a < 4 → ∀ b, b < 4 → a ≠ b → (TX7 a).2.1 ≠ (TX7 b).2.1 := by decide +kernel
theorem tyX7_ok : ∀ k, k < 4 → parseFieldDescriptor (TX7 k).2.2.1 = some (tyX7 k) := by decide +kernel
abbrev cX7_init : ByteArray := prog_9_method_1_code
def yX7_init : MethodName := ⟨RX7, "<init>", "()V"⟩
abbrev cX7_begin : ByteArray := prog_9_method_2_code
def yX7_begin : MethodName := ⟨RX7, "begin", "()V"⟩
abbrev cX7_enter : ByteArray := prog_9_method_3_code
def yX7_enter : MethodName := ⟨RX7, "enter", "(II)V"⟩
abbrev cX7_placeFor : ByteArray := prog_9_method_4_code
def yX7_placeFor : MethodName := ⟨RX7, "placeFor", "(II)I"⟩
abbrev cX7_comesAhead : ByteArray := prog_9_method_5_code
def yX7_comesAhead : MethodName := ⟨RX7, "comesAhead", "(III)Z"⟩
abbrev cX7_dueAt : ByteArray := prog_9_method_6_code
def yX7_dueAt : MethodName := ⟨RX7, "dueAt", "(I)I"⟩
abbrev cX7_takeFirst : ByteArray := prog_9_method_7_code
def yX7_takeFirst : MethodName := ⟨RX7, "takeFirst", "(I)V"⟩
abbrev cX7_copyFrom : ByteArray := prog_9_method_8_code
def yX7_copyFrom : MethodName := ⟨RX7, "copyFrom", "(LKeyGroups$Timers;)V"⟩
def RX8 : String := "KeyGroups"
def TX8 : u_T := fun k => match k with
  | 0 => ("KeyGroups", "owners", "LKeyGroups$Owners;", true)
  | 1 => ("KeyGroups", "plan", "LKeyGroups$Plan;", true)
  | 2 => ("KeyGroups", "now", "LKeyGroups$Held;", true)
  | 3 => ("KeyGroups", "theOut", "LKeyGroups$Out;", true)
  | 4 => ("KeyGroups", "theLog", "LKeyGroups$Log;", true)
  | 5 => ("KeyGroups", "marks", "[LKeyGroups$Held;", true)
  | 6 => ("KeyGroups", "marksMade", "I", false)
  | _ => ("KeyGroups", "slackPercent", "I", false)
def tyX8 : Nat → FieldType := fun k => match k with
  | 0 => .object "KeyGroups$Owners"
  | 1 => .object "KeyGroups$Plan"
  | 2 => .object "KeyGroups$Held"
  | 3 => .object "KeyGroups$Out"
  | 4 => .object "KeyGroups$Log"
  | 5 => .array (.object "KeyGroups$Held")
  | 6 => .int
  | _ => .int
abbrev wsX80 : List Cond := u_ws RX8 TX8 8
theorem nmX8 : ∀ a, a < 8 → ∀ b, b < 8 → a ≠ b → (TX8 a).2.1 ≠ (TX8 b).2.1 := by decide +kernel
theorem tyX8_ok : ∀ k, k < 8 → parseFieldDescriptor (TX8 k).2.2.1 = some (tyX8 k) := by decide +kernel
abbrev cX8_init : ByteArray := prog_1_method_1_code
def yX8_init : MethodName := ⟨RX8, "<init>", "()V"⟩
abbrev cX8_shape : ByteArray := prog_1_method_2_code
def yX8_shape : MethodName := ⟨RX8, "shape", "(II)I"⟩
abbrev cX8_slack : ByteArray := prog_1_method_3_code
def yX8_slack : MethodName := ⟨RX8, "slack", "(I)I"⟩
abbrev cX8_group : ByteArray := prog_1_method_4_code
def yX8_group : MethodName := ⟨RX8, "group", "(I)I"⟩
abbrev cX8_row : ByteArray := prog_1_method_5_code
def yX8_row : MethodName := ⟨RX8, "row", "(II)I"⟩
abbrev cX8_step : ByteArray := prog_1_method_6_code
def yX8_step : MethodName := ⟨RX8, "step", "(I)I"⟩
abbrev cX8_add : ByteArray := prog_1_method_7_code
def yX8_add : MethodName := ⟨RX8, "add", "(III)I"⟩
abbrev cX8_scale : ByteArray := prog_1_method_8_code
def yX8_scale : MethodName := ⟨RX8, "scale", "(II)I"⟩
abbrev cX8_moved : ByteArray := prog_1_method_9_code
def yX8_moved : MethodName := ⟨RX8, "moved", "(I)I"⟩
abbrev cX8_least : ByteArray := prog_1_method_10_code
def yX8_least : MethodName := ⟨RX8, "least", "(I)J"⟩
abbrev cX8_groupAt : ByteArray := prog_1_method_11_code
def yX8_groupAt : MethodName := ⟨RX8, "groupAt", "(II)I"⟩
abbrev cX8_taskAt : ByteArray := prog_1_method_12_code
def yX8_taskAt : MethodName := ⟨RX8, "taskAt", "(II)I"⟩
abbrev cX8_counted : ByteArray := prog_1_method_13_code
def yX8_counted : MethodName := ⟨RX8, "counted", "(I)I"⟩
abbrev cX8_sum : ByteArray := prog_1_method_14_code
def yX8_sum : MethodName := ⟨RX8, "sum", "(I)J"⟩
abbrev cX8_hot : ByteArray := prog_1_method_15_code
def yX8_hot : MethodName := ⟨RX8, "hot", "(I)I"⟩
abbrev cX8_timer : ByteArray := prog_1_method_16_code
def yX8_timer : MethodName := ⟨RX8, "timer", "(II)I"⟩
abbrev cX8_tick : ByteArray := prog_1_method_17_code
def yX8_tick : MethodName := ⟨RX8, "tick", "(I)I"⟩
abbrev cX8_out : ByteArray := prog_1_method_18_code
def yX8_out : MethodName := ⟨RX8, "out", "(II)J"⟩
abbrev cX8_log : ByteArray := prog_1_method_19_code
def yX8_log : MethodName := ⟨RX8, "log", "(II)J"⟩
abbrev cX8_mark : ByteArray := prog_1_method_20_code
def yX8_mark : MethodName := ⟨RX8, "mark", "()I"⟩
abbrev cX8_restore : ByteArray := prog_1_method_21_code
def yX8_restore : MethodName := ⟨RX8, "restore", "(II)I"⟩
abbrev cX8_digest : ByteArray := prog_1_method_22_code
def yX8_digest : MethodName := ⟨RX8, "digest", "()I"⟩
abbrev cX8_told : ByteArray := prog_1_method_23_code
def yX8_told : MethodName := ⟨RX8, "told", "(I)I"⟩
abbrev cX8_clear : ByteArray := prog_1_method_24_code
def yX8_clear : MethodName := ⟨RX8, "clear", "()I"⟩
abbrev cX8_isKey : ByteArray := prog_1_method_25_code
def yX8_isKey : MethodName := ⟨RX8, "isKey", "(I)Z"⟩
abbrev cX8_isValue : ByteArray := prog_1_method_26_code
def yX8_isValue : MethodName := ⟨RX8, "isValue", "(I)Z"⟩
abbrev cX8_isTask : ByteArray := prog_1_method_27_code
def yX8_isTask : MethodName := ⟨RX8, "isTask", "(I)Z"⟩
abbrev cX8_waitsFor : ByteArray := prog_1_method_28_code
def yX8_waitsFor : MethodName := ⟨RX8, "waitsFor", "(II)Z"⟩
abbrev cX8_firstInLine : ByteArray := prog_1_method_29_code
def yX8_firstInLine : MethodName := ⟨RX8, "firstInLine", "(I)I"⟩
abbrev cX8_firstNumberInLine : ByteArray := prog_1_method_30_code
def yX8_firstNumberInLine : MethodName := ⟨RX8, "firstNumberInLine", "(I)I"⟩
abbrev cX8_lengthOfLine : ByteArray := prog_1_method_31_code
def yX8_lengthOfLine : MethodName := ⟨RX8, "lengthOfLine", "(I)I"⟩
abbrev cX8_waitingOfGroup : ByteArray := prog_1_method_32_code
def yX8_waitingOfGroup : MethodName := ⟨RX8, "waitingOfGroup", "(I)I"⟩
def RX9 : String := "KeyGroupsModel"
def TX9 : u_T := fun k => match k with
  | 0 => ("KeyGroupsModel", "g", "I", false)
  | 1 => ("KeyGroupsModel", "most", "I", false)
  | 2 => ("KeyGroupsModel", "n", "I", false)
  | 3 => ("KeyGroupsModel", "slack", "I", false)
  | 4 => ("KeyGroupsModel", "owner", "[I", true)
  | 5 => ("KeyGroupsModel", "epoch", "[I", true)
  | 6 => ("KeyGroupsModel", "weight", "[I", true)
  | 7 => ("KeyGroupsModel", "isMoved", "[Z", true)
  | 8 => ("KeyGroupsModel", "rows", "I", false)
  | 9 => ("KeyGroupsModel", "rowKey", "[I", true)
  | 10 => ("KeyGroupsModel", "rowValue", "[I", true)
  | 11 => ("KeyGroupsModel", "waits", "[Z", true)
  | 12 => ("KeyGroupsModel", "counts", "[I", true)
  | 13 => ("KeyGroupsModel", "sums", "[J", true)
  | 14 => ("KeyGroupsModel", "outs", "I", false)
  | 15 => ("KeyGroupsModel", "outNumber", "[I", true)
  | 16 => ("KeyGroupsModel", "outKey", "[I", true)
  | 17 => ("KeyGroupsModel", "outSum", "[J", true)
  | 18 => ("KeyGroupsModel", "time", "I", false)
  | 19 => ("KeyGroupsModel", "timers", "I", false)
  | 20 => ("KeyGroupsModel", "timerKey", "[I", true)
  | 21 => ("KeyGroupsModel", "timerTime", "[I", true)
  | 22 => ("KeyGroupsModel", "logged", "I", false)
  | 23 => ("KeyGroupsModel", "logKey", "[I", true)
  | 24 => ("KeyGroupsModel", "logTime", "[I", true)
  | 25 => ("KeyGroupsModel", "logCount", "[I", true)
  | 26 => ("KeyGroupsModel", "logSum", "[J", true)
  | 27 => ("KeyGroupsModel", "marks", "I", false)
  | 28 => ("KeyGroupsModel", "scales", "I", false)
  | 29 => ("KeyGroupsModel", "markRows", "[I", true)
  | 30 => ("KeyGroupsModel", "markRowKey", "[I", true)
  | 31 => ("KeyGroupsModel", "markRowValue", "[I", true)
  | 32 => ("KeyGroupsModel", "markWaits", "[Z", true)
  | 33 => ("KeyGroupsModel", "markCounts", "[I", true)
  | 34 => ("KeyGroupsModel", "markSums", "[J", true)
  | 35 => ("KeyGroupsModel", "markTime", "[I", true)
  | 36 => ("KeyGroupsModel", "markTimers", "[I", true)
  | 37 => ("KeyGroupsModel", "markTimerKey", "[I", true)
  | 38 => ("KeyGroupsModel", "markTimerTime", "[I", true)
  | 39 => ("KeyGroupsModel", "planned", "[I", true)
  | _ => ("KeyGroupsModel", "leastFrom", "[J", true)
def tyX9 : Nat → FieldType := fun k => match k with
  | 0 => .int
  | 1 => .int
  | 2 => .int
  | 3 => .int
  | 4 => .array .int
  | 5 => .array .int
  | 6 => .array .int
  | 7 => .array .boolean
  | 8 => .int
  | 9 => .array .int
  | 10 => .array .int
  | 11 => .array .boolean
  | 12 => .array .int
  | 13 => .array .long
  | 14 => .int
  | 15 => .array .int
  | 16 => .array .int
  | 17 => .array .long
  | 18 => .int
  | 19 => .int
  | 20 => .array .int
  | 21 => .array .int
  | 22 => .int
  | 23 => .array .int
  | 24 => .array .int
  | 25 => .array .int
  | 26 => .array .long
  | 27 => .int
  | 28 => .int
  | 29 => .array .int
  | 30 => .array .int
  | 31 => .array .int
  | 32 => .array .boolean
  | 33 => .array .int
  | 34 => .array .long
  | 35 => .array .int
  | 36 => .array .int
  | 37 => .array .int
  | 38 => .array .int
  | 39 => .array .int
  | _ => .array .long
abbrev wsX90 : List Cond := u_ws RX9 TX9 41
theorem nmX9 : ∀ a, a < 41 → ∀ b, b < 41 → a ≠ b → (TX9 a).2.1 ≠ (TX9 b).2.1 := by decide +kernel
theorem tyX9_ok : ∀ k, k < 41 → parseFieldDescriptor (TX9 k).2.2.1 = some (tyX9 k) := by decide +kernel
abbrev cX9_init : ByteArray := prog_11_method_1_code
def yX9_init : MethodName := ⟨RX9, "<init>", "()V"⟩
abbrev cX9_in : ByteArray := prog_11_method_2_code
def yX9_in : MethodName := ⟨RX9, "in", "(JJJ)Z"⟩
abbrev cX9_begin : ByteArray := prog_11_method_3_code
def yX9_begin : MethodName := ⟨RX9, "begin", "()V"⟩
abbrev cX9_layShape : ByteArray := prog_11_method_4_code
def yX9_layShape : MethodName := ⟨RX9, "layShape", "(II)V"⟩
abbrev cX9_shape : ByteArray := prog_11_method_5_code
def yX9_shape : MethodName := ⟨RX9, "shape", "(II)I"⟩
abbrev cX9_slack : ByteArray := prog_11_method_6_code
def yX9_slack : MethodName := ⟨RX9, "slack", "(I)I"⟩
abbrev cX9_noKey : ByteArray := prog_11_method_7_code
def yX9_noKey : MethodName := ⟨RX9, "noKey", "(I)Z"⟩
abbrev cX9_groupOf : ByteArray := prog_11_method_8_code
def yX9_groupOf : MethodName := ⟨RX9, "groupOf", "(I)I"⟩
abbrev cX9_group : ByteArray := prog_11_method_9_code
def yX9_group : MethodName := ⟨RX9, "group", "(I)I"⟩
abbrev cX9_row : ByteArray := prog_11_method_10_code
def yX9_row : MethodName := ⟨RX9, "row", "(II)I"⟩
abbrev cX9_firstOf : ByteArray := prog_11_method_11_code
def yX9_firstOf : MethodName := ⟨RX9, "firstOf", "(I)I"⟩
abbrev cX9_step : ByteArray := prog_11_method_12_code
def yX9_step : MethodName := ⟨RX9, "step", "(I)I"⟩
abbrev cX9_add : ByteArray := prog_11_method_13_code
def yX9_add : MethodName := ⟨RX9, "add", "(III)I"⟩
abbrev cX9_planEven : ByteArray := prog_11_method_14_code
def yX9_planEven : MethodName := ⟨RX9, "planEven", "(I)V"⟩
abbrev cX9_total : ByteArray := prog_11_method_15_code
def yX9_total : MethodName := ⟨RX9, "total", "()I"⟩
abbrev cX9_movedOf : ByteArray := prog_11_method_16_code
def yX9_movedOf : MethodName := ⟨RX9, "movedOf", "(III)J"⟩
abbrev cX9_weightOf : ByteArray := prog_11_method_17_code
def yX9_weightOf : MethodName := ⟨RX9, "weightOf", "(II)I"⟩
abbrev cX9_limit : ByteArray := prog_11_method_18_code
def yX9_limit : MethodName := ⟨RX9, "limit", "(I)I"⟩
abbrev cX9_tryRange : ByteArray := prog_11_method_19_code
def yX9_tryRange : MethodName := ⟨RX9, "tryRange", "(IIII)J"⟩
abbrev cX9_findLeast : ByteArray := prog_11_method_20_code
def yX9_findLeast : MethodName := ⟨RX9, "findLeast", "(I)V"⟩
abbrev cX9_planLeast : ByteArray := prog_11_method_21_code
def yX9_planLeast : MethodName := ⟨RX9, "planLeast", "(I)V"⟩
abbrev cX9_scale : ByteArray := prog_11_method_22_code
def yX9_scale : MethodName := ⟨RX9, "scale", "(II)I"⟩
abbrev cX9_moved : ByteArray := prog_11_method_23_code
def yX9_moved : MethodName := ⟨RX9, "moved", "(I)I"⟩
abbrev cX9_least : ByteArray := prog_11_method_24_code
def yX9_least : MethodName := ⟨RX9, "least", "(I)J"⟩
abbrev cX9_waitingOf : ByteArray := prog_11_method_25_code
def yX9_waitingOf : MethodName := ⟨RX9, "waitingOf", "(I)I"⟩
abbrev cX9_groupAt : ByteArray := prog_11_method_26_code
def yX9_groupAt : MethodName := ⟨RX9, "groupAt", "(II)I"⟩
abbrev cX9_taskAt : ByteArray := prog_11_method_27_code
def yX9_taskAt : MethodName := ⟨RX9, "taskAt", "(II)I"⟩
abbrev cX9_counted : ByteArray := prog_11_method_28_code
def yX9_counted : MethodName := ⟨RX9, "counted", "(I)I"⟩
abbrev cX9_sum : ByteArray := prog_11_method_29_code
def yX9_sum : MethodName := ⟨RX9, "sum", "(I)J"⟩
abbrev cX9_before : ByteArray := prog_11_method_30_code
def yX9_before : MethodName := ⟨RX9, "before", "(II)I"⟩
abbrev cX9_hot : ByteArray := prog_11_method_31_code
def yX9_hot : MethodName := ⟨RX9, "hot", "(I)I"⟩
abbrev cX9_timer : ByteArray := prog_11_method_32_code
def yX9_timer : MethodName := ⟨RX9, "timer", "(II)I"⟩
abbrev cX9_due : ByteArray := prog_11_method_33_code
def yX9_due : MethodName := ⟨RX9, "due", "(I)I"⟩
abbrev cX9_ring : ByteArray := prog_11_method_34_code
def yX9_ring : MethodName := ⟨RX9, "ring", "(I)V"⟩
abbrev cX9_tick : ByteArray := prog_11_method_35_code
def yX9_tick : MethodName := ⟨RX9, "tick", "(I)I"⟩
abbrev cX9_out : ByteArray := prog_11_method_36_code
def yX9_out : MethodName := ⟨RX9, "out", "(II)J"⟩
abbrev cX9_keptLogs : ByteArray := prog_11_method_37_code
def yX9_keptLogs : MethodName := ⟨RX9, "keptLogs", "()I"⟩
abbrev cX9_log : ByteArray := prog_11_method_38_code
def yX9_log : MethodName := ⟨RX9, "log", "(II)J"⟩
abbrev cX9_mark : ByteArray := prog_11_method_39_code
def yX9_mark : MethodName := ⟨RX9, "mark", "()I"⟩
abbrev cX9_restore : ByteArray := prog_11_method_40_code
def yX9_restore : MethodName := ⟨RX9, "restore", "(II)I"⟩
abbrev cX9_waiting : ByteArray := prog_11_method_41_code
def yX9_waiting : MethodName := ⟨RX9, "waiting", "()I"⟩
abbrev cX9_digest : ByteArray := prog_11_method_42_code
def yX9_digest : MethodName := ⟨RX9, "digest", "()I"⟩
abbrev cX9_told : ByteArray := prog_11_method_43_code
def yX9_told : MethodName := ⟨RX9, "told", "(I)I"⟩
abbrev cX9_clear : ByteArray := prog_11_method_44_code
def yX9_clear : MethodName := ⟨RX9, "clear", "()I"⟩
def RJ9 : String := "java/lang/Math"
def TJ9 : u_T := fun k => match k with
  | _ => ("", "", "", false)
def tyJ9 : Nat → FieldType := fun k => match k with
  | _ => .int
abbrev wsJ90 : List Cond := u_ws RJ9 TJ9 0
theorem nmJ9 : ∀ a, a < 0 → ∀ b, b < 0 → a ≠ b → (TJ9 a).2.1 ≠ (TJ9 b).2.1 := by decide +kernel
theorem tyJ9_ok : ∀ k, k < 0 → parseFieldDescriptor (TJ9 k).2.2.1 = some (tyJ9 k) := by decide +kernel
abbrev cJ9_floorMod_7cf53 : ByteArray := prog_12_method_50_code
def yJ9_floorMod_7cf53 : MethodName := ⟨RJ9, "floorMod", "(II)I"⟩
abbrev cJ9_min_7cf53 : ByteArray := prog_12_method_69_code
def yJ9_min_7cf53 : MethodName := ⟨RJ9, "min", "(II)I"⟩
def RJ10 : String := "java/lang/System"
def TJ10 : u_T := fun k => match k with
  | _ => ("", "", "", false)
def tyJ10 : Nat → FieldType := fun k => match k with
  | _ => .int
abbrev wsJ100 : List Cond := u_ws RJ10 TJ10 0
theorem nmJ10 : ∀ a, a < 0 → ∀ b, b < 0 → a ≠ b → (TJ10 a).2.1 ≠ (TJ10 b).2.1 := by decide +kernel
theorem tyJ10_ok : ∀ k, k < 0 → parseFieldDescriptor (TJ10 k).2.2.1 = some (tyJ10 k) := by decide +kernel
def RJ7 : String := "java/util/Arrays"
def TJ7 : u_T := fun k => match k with
  | _ => ("", "", "", false)
def tyJ7 : Nat → FieldType := fun k => match k with
  | _ => .int
abbrev wsJ70 : List Cond := u_ws RJ7 TJ7 0
theorem nmJ7 : ∀ a, a < 0 → ∀ b, b < 0 → a ≠ b → (TJ7 a).2.1 ≠ (TJ7 b).2.1 := by decide +kernel
theorem tyJ7_ok : ∀ k, k < 0 → parseFieldDescriptor (TJ7 k).2.2.1 = some (tyJ7 k) := by decide +kernel
abbrev cJ7_fill_d0a16 : ByteArray := prog_14_method_101_code
def yJ7_fill_d0a16 : MethodName := ⟨RJ7, "fill", "([JJ)V"⟩
abbrev cJ7_fill_53178 : ByteArray := prog_14_method_103_code
def yJ7_fill_53178 : MethodName := ⟨RJ7, "fill", "([II)V"⟩
def RL : String := "KeyGroupsLaw"
abbrev cL_law : ByteArray := code
def yL_law : MethodName := ⟨RL, "law", "([I)Z"⟩
abbrev vwCl : List vw_C := [(RX0, TX0, 3), (RX1, TX1, 6), (RX2, TX2, 4), (RX3, TX3, 9), (RX4, TX4, 3), (RX5, TX5, 5), (RX6, TX6, 2), (RX7, TX7, 4), (RX8, TX8, 8), (RX9, TX9, 41)]
end
section
def kBig : List Cond := lw_tbl.filter goodWord
theorem kb {w : Cond} (i : Nat) (h : lw_tbl[i]? = some w ∧ goodWord w = true) : w ∈ kBig := List.mem_filter.mpr ⟨List.mem_of_getElem? h.1, h.2⟩
theorem kbl {C : String} {T : u_T} {N : Nat} (ix : List Nat) (h : ∀ k, k < N → lw_tbl[ix.getD k 0]? = some (u_lay C T k) ∧ goodWord (u_lay C T k) = true) : ∀ w ∈ u_ws C T N, w ∈ kBig := by
  intro w hw
  obtain ⟨k, hk, rfl⟩ := List.mem_map.mp hw
  exact kb _ (h k (List.mem_range.mp hk))
theorem kBig_good : GoodIn kBig kBig := fun w h => ⟨h, good_of_word (List.mem_filter.mp h).2⟩
theorem kBig_lw : ∀ w ∈ kBig, w ∈ lw_tbl := fun w h => (List.mem_filter.mp h).1
theorem q_0 : Cond.classLink RL 7 RX8 ∈ kBig := kb 38 (by decide +kernel)
theorem q_1 : Cond.instantiable RX8 8 ∈ kBig := kb 39 (by decide +kernel)
theorem q_2 : Cond.initialized RX8 ∈ kBig := kb 25 (by decide +kernel)
theorem q_3 : Cond.classLink RL 10 RX9 ∈ kBig := kb 576 (by decide +kernel)
theorem q_4 : Cond.instantiable RX9 41 ∈ kBig := kb 577 (by decide +kernel)
theorem q_5 : Cond.initialized RX9 ∈ kBig := kb 35 (by decide +kernel)
theorem q_6 : Cond.methodLink RL 9 yX8_init ∈ kBig := kb 40 (by decide +kernel)
theorem q_7 : Cond.instanceMethod yX8_init ∈ kBig := kb 41 (by decide +kernel)
theorem q_8 : Cond.code yX8_init cX8_init 1 none ∈ kBig := kb 42 (by decide +kernel)
theorem q_9 : Cond.methodLink RX8 1 objectInit ∈ kBig := kb 43 (by decide +kernel)
theorem q_10 : Cond.instanceMethod objectInit ∈ kBig := kb 44 (by decide +kernel)
theorem q_11 : Cond.code objectInit ⟨#[0xb1]⟩ 1 none ∈ kBig := kb 45 (by decide +kernel)
theorem q_12 : Cond.classLink RX8 7 RX3 ∈ kBig := kb 46 (by decide +kernel)
theorem q_13 : Cond.instantiable RX3 9 ∈ kBig := kb 47 (by decide +kernel)
theorem q_14 : Cond.initialized RX3 ∈ kBig := kb 26 (by decide +kernel)
theorem q_15 : Cond.fieldLink RX8 10 (TX8 0).1 (TX8 0).2.1 (TX8 0).2.2.1 ∈ kBig := kb 261 (by decide +kernel)
theorem q_16 : Cond.classLink RX8 16 RX4 ∈ kBig := kb 103 (by decide +kernel)
theorem q_17 : Cond.instantiable RX4 3 ∈ kBig := kb 104 (by decide +kernel)
theorem q_18 : Cond.initialized RX4 ∈ kBig := kb 28 (by decide +kernel)
theorem q_19 : Cond.fieldLink RX8 19 (TX8 1).1 (TX8 1).2.1 (TX8 1).2.2.1 ∈ kBig := kb 262 (by decide +kernel)
theorem q_20 : Cond.classLink RX8 23 RX0 ∈ kBig := kb 122 (by decide +kernel)
theorem q_21 : Cond.instantiable RX0 3 ∈ kBig := kb 123 (by decide +kernel)
theorem q_22 : Cond.initialized RX0 ∈ kBig := kb 29 (by decide +kernel)
theorem q_23 : Cond.fieldLink RX8 26 (TX8 2).1 (TX8 2).2.1 (TX8 2).2.2.1 ∈ kBig := kb 263 (by decide +kernel)
theorem q_24 : Cond.classLink RX8 30 RX2 ∈ kBig := kb 207 (by decide +kernel)
theorem q_25 : Cond.instantiable RX2 4 ∈ kBig := kb 208 (by decide +kernel)
theorem q_26 : Cond.initialized RX2 ∈ kBig := kb 33 (by decide +kernel)
theorem q_27 : Cond.fieldLink RX8 33 (TX8 3).1 (TX8 3).2.1 (TX8 3).2.2.1 ∈ kBig := kb 264 (by decide +kernel)
theorem q_28 : Cond.classLink RX8 37 RX1 ∈ kBig := kb 230 (by decide +kernel)
theorem q_29 : Cond.instantiable RX1 6 ∈ kBig := kb 231 (by decide +kernel)
theorem q_30 : Cond.initialized RX1 ∈ kBig := kb 34 (by decide +kernel)
theorem q_31 : Cond.fieldLink RX8 40 (TX8 4).1 (TX8 4).2.1 (TX8 4).2.2.1 ∈ kBig := kb 265 (by decide +kernel)
theorem q_32 : Cond.fieldLink RX8 44 (TX8 5).1 (TX8 5).2.1 (TX8 5).2.2.1 ∈ kBig := kb 266 (by decide +kernel)
theorem q_33 : Cond.fieldLink RX8 48 (TX8 7).1 (TX8 7).2.1 (TX8 7).2.2.1 ∈ kBig := kb 268 (by decide +kernel)
theorem q_34 : Cond.methodLink RX8 9 yX3_init ∈ kBig := kb 48 (by decide +kernel)
theorem q_35 : Cond.instanceMethod yX3_init ∈ kBig := kb 49 (by decide +kernel)
theorem q_36 : Cond.code yX3_init cX3_init 1 none ∈ kBig := kb 50 (by decide +kernel)
theorem q_37 : Cond.methodLink RX3 3 objectInit ∈ kBig := kb 51 (by decide +kernel)
theorem q_38 : Cond.arrayClass .int ∈ kBig := kb 102 (by decide +kernel)
theorem q_39 : Cond.fieldLink RX3 9 (TX3 5).1 (TX3 5).2.1 (TX3 5).2.2.1 ∈ kBig := kb 74 (by decide +kernel)
theorem q_40 : Cond.fieldLink RX3 15 (TX3 6).1 (TX3 6).2.1 (TX3 6).2.2.1 ∈ kBig := kb 76 (by decide +kernel)
theorem q_41 : Cond.fieldLink RX3 18 (TX3 7).1 (TX3 7).2.1 (TX3 7).2.2.1 ∈ kBig := kb 78 (by decide +kernel)
theorem q_42 : Cond.fieldLink RX3 21 (TX3 8).1 (TX3 8).2.1 (TX3 8).2.2.1 ∈ kBig := kb 81 (by decide +kernel)
theorem q_43 : Cond.methodLink RX3 24 yX3_begin ∈ kBig := kb 52 (by decide +kernel)
theorem q_44 : Cond.instanceMethod yX3_begin ∈ kBig := kb 53 (by decide +kernel)
theorem q_45 : Cond.selects RX3 yX3_begin yX3_begin ∈ kBig := kb 54 (by decide +kernel)
theorem q_46 : Cond.code yX3_begin cX3_begin 1 none ∈ kBig := kb 55 (by decide +kernel)
theorem q_47 : Cond.fieldLink RX3 27 (TX3 3).1 (TX3 3).2.1 (TX3 3).2.2.1 ∈ kBig := kb 70 (by decide +kernel)
theorem q_48 : Cond.fieldLink RX3 31 (TX3 4).1 (TX3 4).2.1 (TX3 4).2.2.1 ∈ kBig := kb 72 (by decide +kernel)
theorem q_49 : Cond.methodLink RX3 34 yX3_giveAllToOne ∈ kBig := kb 56 (by decide +kernel)
theorem q_50 : Cond.instanceMethod yX3_giveAllToOne ∈ kBig := kb 57 (by decide +kernel)
theorem q_51 : Cond.selects RX3 yX3_giveAllToOne yX3_giveAllToOne ∈ kBig := kb 58 (by decide +kernel)
theorem q_52 : Cond.code yX3_giveAllToOne cX3_giveAllToOne 3 none ∈ kBig := kb 59 (by decide +kernel)
theorem q_53 : Cond.fieldLink RX3 38 (TX3 0).1 (TX3 0).2.1 (TX3 0).2.2.1 ∈ kBig := kb 63 (by decide +kernel)
theorem q_54 : Cond.fieldLink RX3 41 (TX3 1).1 (TX3 1).2.1 (TX3 1).2.2.1 ∈ kBig := kb 66 (by decide +kernel)
theorem q_55 : Cond.fieldLink RX3 44 (TX3 2).1 (TX3 2).2.1 (TX3 2).2.2.1 ∈ kBig := kb 68 (by decide +kernel)
theorem q_56 : Cond.methodLink RX3 47 yJ7_fill_53178 ∈ kBig := kb 60 (by decide +kernel)
theorem q_57 : Cond.static yJ7_fill_53178 ∈ kBig := kb 61 (by decide +kernel)
theorem q_58 : Cond.initialized RJ7 ∈ kBig := kb 27 (by decide +kernel)
theorem q_59 : Cond.code yJ7_fill_53178 cJ7_fill_53178 4 none ∈ kBig := kb 62 (by decide +kernel)
theorem q_60 : Cond.methodLink RX8 18 yX4_init ∈ kBig := kb 105 (by decide +kernel)
theorem q_61 : Cond.instanceMethod yX4_init ∈ kBig := kb 106 (by decide +kernel)
theorem q_62 : Cond.code yX4_init cX4_init 1 none ∈ kBig := kb 107 (by decide +kernel)
theorem q_63 : Cond.methodLink RX4 3 objectInit ∈ kBig := kb 108 (by decide +kernel)
theorem q_64 : Cond.fieldLink RX4 9 (TX4 0).1 (TX4 0).2.1 (TX4 0).2.2.1 ∈ kBig := kb 111 (by decide +kernel)
theorem q_65 : Cond.fieldLink RX4 15 (TX4 1).1 (TX4 1).2.1 (TX4 1).2.2.1 ∈ kBig := kb 113 (by decide +kernel)
theorem q_66 : Cond.classLink RX4 18 "[[I" ∈ kBig := kb 109 (by decide +kernel)
theorem q_67 : Cond.fieldLink RX4 20 (TX4 2).1 (TX4 2).2.1 (TX4 2).2.2.1 ∈ kBig := kb 114 (by decide +kernel)
theorem q_68 : Cond.methodLink RX8 25 yX0_init ∈ kBig := kb 124 (by decide +kernel)
theorem q_69 : Cond.instanceMethod yX0_init ∈ kBig := kb 125 (by decide +kernel)
theorem q_70 : Cond.code yX0_init cX0_init 1 none ∈ kBig := kb 126 (by decide +kernel)
theorem q_71 : Cond.methodLink RX0 1 objectInit ∈ kBig := kb 127 (by decide +kernel)
theorem q_72 : Cond.classLink RX0 7 RX6 ∈ kBig := kb 128 (by decide +kernel)
theorem q_73 : Cond.instantiable RX6 2 ∈ kBig := kb 129 (by decide +kernel)
theorem q_74 : Cond.initialized RX6 ∈ kBig := kb 30 (by decide +kernel)
theorem q_75 : Cond.fieldLink RX0 10 (TX0 0).1 (TX0 0).2.1 (TX0 0).2.2.1 ∈ kBig := kb 194 (by decide +kernel)
theorem q_76 : Cond.classLink RX0 16 RX5 ∈ kBig := kb 144 (by decide +kernel)
theorem q_77 : Cond.instantiable RX5 5 ∈ kBig := kb 145 (by decide +kernel)
theorem q_78 : Cond.initialized RX5 ∈ kBig := kb 31 (by decide +kernel)
theorem q_79 : Cond.fieldLink RX0 19 (TX0 1).1 (TX0 1).2.1 (TX0 1).2.2.1 ∈ kBig := kb 196 (by decide +kernel)
theorem q_80 : Cond.classLink RX0 23 RX7 ∈ kBig := kb 171 (by decide +kernel)
theorem q_81 : Cond.instantiable RX7 4 ∈ kBig := kb 172 (by decide +kernel)
theorem q_82 : Cond.initialized RX7 ∈ kBig := kb 32 (by decide +kernel)
theorem q_83 : Cond.fieldLink RX0 26 (TX0 2).1 (TX0 2).2.1 (TX0 2).2.2.1 ∈ kBig := kb 198 (by decide +kernel)
theorem q_84 : Cond.methodLink RX0 9 yX6_init ∈ kBig := kb 130 (by decide +kernel)
theorem q_85 : Cond.instanceMethod yX6_init ∈ kBig := kb 131 (by decide +kernel)
theorem q_86 : Cond.code yX6_init cX6_init 1 none ∈ kBig := kb 132 (by decide +kernel)
theorem q_87 : Cond.methodLink RX6 3 objectInit ∈ kBig := kb 133 (by decide +kernel)
theorem q_88 : Cond.fieldLink RX6 9 (TX6 0).1 (TX6 0).2.1 (TX6 0).2.2.1 ∈ kBig := kb 134 (by decide +kernel)
theorem q_89 : Cond.arrayClass .long ∈ kBig := kb 143 (by decide +kernel)
theorem q_90 : Cond.fieldLink RX6 15 (TX6 1).1 (TX6 1).2.1 (TX6 1).2.2.1 ∈ kBig := kb 136 (by decide +kernel)
theorem q_91 : Cond.methodLink RX0 18 yX5_init ∈ kBig := kb 146 (by decide +kernel)
theorem q_92 : Cond.instanceMethod yX5_init ∈ kBig := kb 147 (by decide +kernel)
theorem q_93 : Cond.code yX5_init cX5_init 1 none ∈ kBig := kb 148 (by decide +kernel)
theorem q_94 : Cond.methodLink RX5 3 objectInit ∈ kBig := kb 149 (by decide +kernel)
theorem q_95 : Cond.fieldLink RX5 9 (TX5 0).1 (TX5 0).2.1 (TX5 0).2.2.1 ∈ kBig := kb 150 (by decide +kernel)
theorem q_96 : Cond.fieldLink RX5 15 (TX5 1).1 (TX5 1).2.1 (TX5 1).2.2.1 ∈ kBig := kb 152 (by decide +kernel)
theorem q_97 : Cond.fieldLink RX5 18 (TX5 2).1 (TX5 2).2.1 (TX5 2).2.2.1 ∈ kBig := kb 154 (by decide +kernel)
theorem q_98 : Cond.methodLink RX0 25 yX7_init ∈ kBig := kb 173 (by decide +kernel)
theorem q_99 : Cond.instanceMethod yX7_init ∈ kBig := kb 174 (by decide +kernel)
theorem q_100 : Cond.code yX7_init cX7_init 1 none ∈ kBig := kb 175 (by decide +kernel)
theorem q_101 : Cond.methodLink RX7 3 objectInit ∈ kBig := kb 176 (by decide +kernel)
theorem q_102 : Cond.fieldLink RX7 9 (TX7 0).1 (TX7 0).2.1 (TX7 0).2.2.1 ∈ kBig := kb 177 (by decide +kernel)
theorem q_103 : Cond.fieldLink RX7 15 (TX7 1).1 (TX7 1).2.1 (TX7 1).2.2.1 ∈ kBig := kb 179 (by decide +kernel)
theorem q_104 : Cond.methodLink RX8 32 yX2_init ∈ kBig := kb 209 (by decide +kernel)
theorem q_105 : Cond.instanceMethod yX2_init ∈ kBig := kb 210 (by decide +kernel)
theorem q_106 : Cond.code yX2_init cX2_init 1 none ∈ kBig := kb 211 (by decide +kernel)
theorem q_107 : Cond.methodLink RX2 3 objectInit ∈ kBig := kb 212 (by decide +kernel)
theorem q_108 : Cond.fieldLink RX2 9 (TX2 0).1 (TX2 0).2.1 (TX2 0).2.2.1 ∈ kBig := kb 213 (by decide +kernel)
theorem q_109 : Cond.fieldLink RX2 15 (TX2 1).1 (TX2 1).2.1 (TX2 1).2.2.1 ∈ kBig := kb 215 (by decide +kernel)
theorem q_110 : Cond.fieldLink RX2 18 (TX2 2).1 (TX2 2).2.1 (TX2 2).2.2.1 ∈ kBig := kb 217 (by decide +kernel)
theorem q_111 : Cond.methodLink RX8 39 yX1_init ∈ kBig := kb 232 (by decide +kernel)
theorem q_112 : Cond.instanceMethod yX1_init ∈ kBig := kb 233 (by decide +kernel)
theorem q_113 : Cond.code yX1_init cX1_init 1 none ∈ kBig := kb 234 (by decide +kernel)
theorem q_114 : Cond.methodLink RX1 3 objectInit ∈ kBig := kb 235 (by decide +kernel)
theorem q_115 : Cond.fieldLink RX1 9 (TX1 0).1 (TX1 0).2.1 (TX1 0).2.2.1 ∈ kBig := kb 236 (by decide +kernel)
theorem q_116 : Cond.fieldLink RX1 15 (TX1 1).1 (TX1 1).2.1 (TX1 1).2.2.1 ∈ kBig := kb 238 (by decide +kernel)
theorem q_117 : Cond.fieldLink RX1 18 (TX1 2).1 (TX1 2).2.1 (TX1 2).2.2.1 ∈ kBig := kb 240 (by decide +kernel)
theorem q_118 : Cond.fieldLink RX1 21 (TX1 3).1 (TX1 3).2.1 (TX1 3).2.2.1 ∈ kBig := kb 242 (by decide +kernel)
theorem q_119 : Cond.methodLink RL 12 yX9_init ∈ kBig := kb 578 (by decide +kernel)
theorem q_120 : Cond.instanceMethod yX9_init ∈ kBig := kb 579 (by decide +kernel)
theorem q_121 : Cond.code yX9_init cX9_init 1 none ∈ kBig := kb 580 (by decide +kernel)
theorem q_122 : Cond.methodLink RX9 1 objectInit ∈ kBig := kb 581 (by decide +kernel)
theorem q_123 : Cond.fieldLink RX9 7 (TX9 4).1 (TX9 4).2.1 (TX9 4).2.2.1 ∈ kBig := kb 594 (by decide +kernel)
theorem q_124 : Cond.fieldLink RX9 13 (TX9 5).1 (TX9 5).2.1 (TX9 5).2.2.1 ∈ kBig := kb 595 (by decide +kernel)
theorem q_125 : Cond.fieldLink RX9 16 (TX9 6).1 (TX9 6).2.1 (TX9 6).2.2.1 ∈ kBig := kb 596 (by decide +kernel)
theorem q_126 : Cond.arrayClass .boolean ∈ kBig := kb 714 (by decide +kernel)
theorem q_127 : Cond.fieldLink RX9 19 (TX9 7).1 (TX9 7).2.1 (TX9 7).2.2.1 ∈ kBig := kb 597 (by decide +kernel)
theorem q_128 : Cond.fieldLink RX9 23 (TX9 9).1 (TX9 9).2.1 (TX9 9).2.2.1 ∈ kBig := kb 599 (by decide +kernel)
theorem q_129 : Cond.fieldLink RX9 26 (TX9 10).1 (TX9 10).2.1 (TX9 10).2.2.1 ∈ kBig := kb 600 (by decide +kernel)
theorem q_130 : Cond.fieldLink RX9 29 (TX9 11).1 (TX9 11).2.1 (TX9 11).2.2.1 ∈ kBig := kb 601 (by decide +kernel)
theorem q_131 : Cond.fieldLink RX9 32 (TX9 12).1 (TX9 12).2.1 (TX9 12).2.2.1 ∈ kBig := kb 602 (by decide +kernel)
theorem q_132 : Cond.fieldLink RX9 35 (TX9 13).1 (TX9 13).2.1 (TX9 13).2.2.1 ∈ kBig := kb 603 (by decide +kernel)
theorem q_133 : Cond.fieldLink RX9 39 (TX9 15).1 (TX9 15).2.1 (TX9 15).2.2.1 ∈ kBig := kb 605 (by decide +kernel)
theorem q_134 : Cond.fieldLink RX9 42 (TX9 16).1 (TX9 16).2.1 (TX9 16).2.2.1 ∈ kBig := kb 606 (by decide +kernel)
theorem q_135 : Cond.fieldLink RX9 45 (TX9 17).1 (TX9 17).2.1 (TX9 17).2.2.1 ∈ kBig := kb 607 (by decide +kernel)
theorem q_136 : Cond.fieldLink RX9 48 (TX9 20).1 (TX9 20).2.1 (TX9 20).2.2.1 ∈ kBig := kb 610 (by decide +kernel)
theorem q_137 : Cond.fieldLink RX9 51 (TX9 21).1 (TX9 21).2.1 (TX9 21).2.2.1 ∈ kBig := kb 611 (by decide +kernel)
theorem q_138 : Cond.fieldLink RX9 54 (TX9 23).1 (TX9 23).2.1 (TX9 23).2.2.1 ∈ kBig := kb 613 (by decide +kernel)
theorem q_139 : Cond.fieldLink RX9 57 (TX9 24).1 (TX9 24).2.1 (TX9 24).2.2.1 ∈ kBig := kb 614 (by decide +kernel)
theorem q_140 : Cond.fieldLink RX9 60 (TX9 25).1 (TX9 25).2.1 (TX9 25).2.2.1 ∈ kBig := kb 615 (by decide +kernel)
theorem q_141 : Cond.fieldLink RX9 63 (TX9 26).1 (TX9 26).2.1 (TX9 26).2.2.1 ∈ kBig := kb 616 (by decide +kernel)
theorem q_142 : Cond.fieldLink RX9 66 (TX9 29).1 (TX9 29).2.1 (TX9 29).2.2.1 ∈ kBig := kb 619 (by decide +kernel)
theorem q_143 : Cond.fieldLink RX9 69 (TX9 30).1 (TX9 30).2.1 (TX9 30).2.2.1 ∈ kBig := kb 620 (by decide +kernel)
theorem q_144 : Cond.fieldLink RX9 72 (TX9 31).1 (TX9 31).2.1 (TX9 31).2.2.1 ∈ kBig := kb 621 (by decide +kernel)
theorem q_145 : Cond.fieldLink RX9 75 (TX9 32).1 (TX9 32).2.1 (TX9 32).2.2.1 ∈ kBig := kb 622 (by decide +kernel)
theorem q_146 : Cond.fieldLink RX9 78 (TX9 33).1 (TX9 33).2.1 (TX9 33).2.2.1 ∈ kBig := kb 623 (by decide +kernel)
theorem q_147 : Cond.fieldLink RX9 81 (TX9 34).1 (TX9 34).2.1 (TX9 34).2.2.1 ∈ kBig := kb 624 (by decide +kernel)
theorem q_148 : Cond.fieldLink RX9 84 (TX9 35).1 (TX9 35).2.1 (TX9 35).2.2.1 ∈ kBig := kb 625 (by decide +kernel)
theorem q_149 : Cond.fieldLink RX9 87 (TX9 36).1 (TX9 36).2.1 (TX9 36).2.2.1 ∈ kBig := kb 626 (by decide +kernel)
theorem q_150 : Cond.fieldLink RX9 90 (TX9 37).1 (TX9 37).2.1 (TX9 37).2.2.1 ∈ kBig := kb 627 (by decide +kernel)
theorem q_151 : Cond.fieldLink RX9 93 (TX9 38).1 (TX9 38).2.1 (TX9 38).2.2.1 ∈ kBig := kb 628 (by decide +kernel)
theorem q_152 : Cond.fieldLink RX9 96 (TX9 39).1 (TX9 39).2.1 (TX9 39).2.2.1 ∈ kBig := kb 629 (by decide +kernel)
theorem q_153 : Cond.fieldLink RX9 99 (TX9 40).1 (TX9 40).2.1 (TX9 40).2.2.1 ∈ kBig := kb 630 (by decide +kernel)
theorem q_154 : Cond.methodLink RX9 102 yX9_begin ∈ kBig := kb 582 (by decide +kernel)
theorem q_155 : Cond.instanceMethod yX9_begin ∈ kBig := kb 584 (by decide +kernel)
theorem q_156 : Cond.selects RX9 yX9_begin yX9_begin ∈ kBig := kb 6 (by decide +kernel)
theorem q_157 : Cond.code yX9_begin cX9_begin 2 none ∈ kBig := kb 585 (by decide +kernel)
theorem q_158 : Cond.fieldLink RX9 105 (TX9 3).1 (TX9 3).2.1 (TX9 3).2.2.1 ∈ kBig := kb 593 (by decide +kernel)
theorem q_159 : Cond.fieldLink RX9 109 (TX9 8).1 (TX9 8).2.1 (TX9 8).2.2.1 ∈ kBig := kb 598 (by decide +kernel)
theorem q_160 : Cond.fieldLink RX9 112 (TX9 14).1 (TX9 14).2.1 (TX9 14).2.2.1 ∈ kBig := kb 604 (by decide +kernel)
theorem q_161 : Cond.fieldLink RX9 115 (TX9 18).1 (TX9 18).2.1 (TX9 18).2.2.1 ∈ kBig := kb 608 (by decide +kernel)
theorem q_162 : Cond.fieldLink RX9 118 (TX9 19).1 (TX9 19).2.1 (TX9 19).2.2.1 ∈ kBig := kb 609 (by decide +kernel)
theorem q_163 : Cond.fieldLink RX9 121 (TX9 22).1 (TX9 22).2.1 (TX9 22).2.2.1 ∈ kBig := kb 612 (by decide +kernel)
theorem q_164 : Cond.fieldLink RX9 124 (TX9 27).1 (TX9 27).2.1 (TX9 27).2.2.1 ∈ kBig := kb 617 (by decide +kernel)
theorem q_165 : Cond.fieldLink RX9 127 (TX9 28).1 (TX9 28).2.1 (TX9 28).2.2.1 ∈ kBig := kb 618 (by decide +kernel)
theorem q_166 : Cond.methodLink RX9 130 yX9_layShape ∈ kBig := kb 586 (by decide +kernel)
theorem q_167 : Cond.instanceMethod yX9_layShape ∈ kBig := kb 588 (by decide +kernel)
theorem q_168 : Cond.selects RX9 yX9_layShape yX9_layShape ∈ kBig := kb 7 (by decide +kernel)
theorem q_169 : Cond.code yX9_layShape cX9_layShape 4 none ∈ kBig := kb 589 (by decide +kernel)
theorem q_170 : Cond.fieldLink RX9 134 (TX9 0).1 (TX9 0).2.1 (TX9 0).2.2.1 ∈ kBig := kb 590 (by decide +kernel)
theorem q_171 : Cond.fieldLink RX9 137 (TX9 1).1 (TX9 1).2.1 (TX9 1).2.2.1 ∈ kBig := kb 591 (by decide +kernel)
theorem q_172 : Cond.fieldLink RX9 140 (TX9 2).1 (TX9 2).2.1 (TX9 2).2.2.1 ∈ kBig := kb 592 (by decide +kernel)
theorem q_173 : Cond.methodLink RL 13 yX8_shape ∈ kBig := kb 286 (by decide +kernel)
theorem q_174 : Cond.instanceMethod yX8_shape ∈ kBig := kb 287 (by decide +kernel)
theorem q_175 : Cond.selects RX8 yX8_shape yX8_shape ∈ kBig := kb 288 (by decide +kernel)
theorem q_176 : Cond.code yX8_shape cX8_shape 3 (some .int) ∈ kBig := kb 289 (by decide +kernel)
theorem q_177 : Cond.fieldLink RX8 52 (TX0 1).1 (TX0 1).2.1 (TX0 1).2.2.1 ∈ kBig := kb 197 (by decide +kernel)
theorem q_178 : Cond.fieldLink RX8 56 (TX5 4).1 (TX5 4).2.1 (TX5 4).2.2.1 ∈ kBig := kb 159 (by decide +kernel)
theorem q_179 : Cond.fieldLink RX8 61 (TX0 2).1 (TX0 2).2.1 (TX0 2).2.2.1 ∈ kBig := kb 199 (by decide +kernel)
theorem q_180 : Cond.fieldLink RX8 65 (TX7 2).1 (TX7 2).2.1 (TX7 2).2.2.1 ∈ kBig := kb 182 (by decide +kernel)
theorem q_181 : Cond.fieldLink RX8 70 (TX8 6).1 (TX8 6).2.1 (TX8 6).2.2.1 ∈ kBig := kb 267 (by decide +kernel)
theorem q_182 : Cond.methodLink RX8 73 yX3_giveAllToOne ∈ kBig := kb 290 (by decide +kernel)
theorem q_183 : Cond.methodLink RL 17 yX9_shape ∈ kBig := kb 715 (by decide +kernel)
theorem q_184 : Cond.instanceMethod yX9_shape ∈ kBig := kb 716 (by decide +kernel)
theorem q_185 : Cond.selects RX9 yX9_shape yX9_shape ∈ kBig := kb 717 (by decide +kernel)
theorem q_186 : Cond.code yX9_shape cX9_shape 3 (some .int) ∈ kBig := kb 718 (by decide +kernel)
theorem q_187 : Cond.constantLong RX9 143 (2) ∈ kBig := kb 719 (by decide +kernel)
theorem q_188 : Cond.constantLong RX9 145 (32) ∈ kBig := kb 720 (by decide +kernel)
theorem q_189 : Cond.constantLong RX9 151 (12) ∈ kBig := kb 724 (by decide +kernel)
theorem q_190 : Cond.methodLink RX9 147 yX9_in ∈ kBig := kb 721 (by decide +kernel)
theorem q_191 : Cond.static yX9_in ∈ kBig := kb 722 (by decide +kernel)
theorem q_192 : Cond.code yX9_in cX9_in 6 (some .boolean) ∈ kBig := kb 723 (by decide +kernel)
theorem q_193 : Cond.methodLink RL 18 yX8_slack ∈ kBig := kb 291 (by decide +kernel)
theorem q_194 : Cond.instanceMethod yX8_slack ∈ kBig := kb 292 (by decide +kernel)
theorem q_195 : Cond.selects RX8 yX8_slack yX8_slack ∈ kBig := kb 293 (by decide +kernel)
theorem q_196 : Cond.code yX8_slack cX8_slack 3 (some .int) ∈ kBig := kb 294 (by decide +kernel)
theorem q_197 : Cond.methodLink RL 22 yX9_slack ∈ kBig := kb 725 (by decide +kernel)
theorem q_198 : Cond.instanceMethod yX9_slack ∈ kBig := kb 726 (by decide +kernel)
theorem q_199 : Cond.selects RX9 yX9_slack yX9_slack ∈ kBig := kb 727 (by decide +kernel)
theorem q_200 : Cond.code yX9_slack cX9_slack 3 (some .int) ∈ kBig := kb 728 (by decide +kernel)
theorem q_201 : Cond.constantLong RX9 153 (100) ∈ kBig := kb 729 (by decide +kernel)
theorem q_202 : Cond.methodLink RL 23 yX8_group ∈ kBig := kb 295 (by decide +kernel)
theorem q_203 : Cond.instanceMethod yX8_group ∈ kBig := kb 296 (by decide +kernel)
theorem q_204 : Cond.selects RX8 yX8_group yX8_group ∈ kBig := kb 297 (by decide +kernel)
theorem q_205 : Cond.code yX8_group cX8_group 2 (some .int) ∈ kBig := kb 298 (by decide +kernel)
theorem q_206 : Cond.methodLink RX8 77 yX8_isKey ∈ kBig := kb 299 (by decide +kernel)
theorem q_207 : Cond.static yX8_isKey ∈ kBig := kb 300 (by decide +kernel)
theorem q_208 : Cond.code yX8_isKey cX8_isKey 1 (some .boolean) ∈ kBig := kb 301 (by decide +kernel)
theorem q_209 : Cond.methodLink RX8 81 yX3_groupOf ∈ kBig := kb 302 (by decide +kernel)
theorem q_210 : Cond.instanceMethod yX3_groupOf ∈ kBig := kb 303 (by decide +kernel)
theorem q_211 : Cond.selects RX3 yX3_groupOf yX3_groupOf ∈ kBig := kb 304 (by decide +kernel)
theorem q_212 : Cond.code yX3_groupOf cX3_groupOf 4 (some .int) ∈ kBig := kb 305 (by decide +kernel)
theorem q_213 : Cond.constant RX3 53 (-1640531535) ∈ kBig := kb 306 (by decide +kernel)
theorem q_214 : Cond.methodLink RL 26 yX9_group ∈ kBig := kb 730 (by decide +kernel)
theorem q_215 : Cond.instanceMethod yX9_group ∈ kBig := kb 731 (by decide +kernel)
theorem q_216 : Cond.selects RX9 yX9_group yX9_group ∈ kBig := kb 732 (by decide +kernel)
theorem q_217 : Cond.code yX9_group cX9_group 2 (some .int) ∈ kBig := kb 733 (by decide +kernel)
theorem q_218 : Cond.methodLink RX9 156 yX9_noKey ∈ kBig := kb 734 (by decide +kernel)
theorem q_219 : Cond.static yX9_noKey ∈ kBig := kb 735 (by decide +kernel)
theorem q_220 : Cond.code yX9_noKey cX9_noKey 1 (some .boolean) ∈ kBig := kb 736 (by decide +kernel)
theorem q_221 : Cond.methodLink RX9 160 yX9_groupOf ∈ kBig := kb 737 (by decide +kernel)
theorem q_222 : Cond.instanceMethod yX9_groupOf ∈ kBig := kb 739 (by decide +kernel)
theorem q_223 : Cond.selects RX9 yX9_groupOf yX9_groupOf ∈ kBig := kb 8 (by decide +kernel)
theorem q_224 : Cond.code yX9_groupOf cX9_groupOf 4 (some .int) ∈ kBig := kb 740 (by decide +kernel)
theorem q_225 : Cond.constant RX9 155 (-1640531535) ∈ kBig := kb 741 (by decide +kernel)
theorem q_226 : Cond.methodLink RL 27 yX8_row ∈ kBig := kb 307 (by decide +kernel)
theorem q_227 : Cond.instanceMethod yX8_row ∈ kBig := kb 308 (by decide +kernel)
theorem q_228 : Cond.selects RX8 yX8_row yX8_row ∈ kBig := kb 309 (by decide +kernel)
theorem q_229 : Cond.code yX8_row cX8_row 4 (some .int) ∈ kBig := kb 310 (by decide +kernel)
theorem q_230 : Cond.fieldLink RX8 91 (TX3 7).1 (TX3 7).2.1 (TX3 7).2.2.1 ∈ kBig := kb 79 (by decide +kernel)
theorem q_231 : Cond.fieldLink RX8 95 (TX3 5).1 (TX3 5).2.1 (TX3 5).2.2.1 ∈ kBig := kb 75 (by decide +kernel)
theorem q_232 : Cond.methodLink RX8 85 yX8_isValue ∈ kBig := kb 311 (by decide +kernel)
theorem q_233 : Cond.static yX8_isValue ∈ kBig := kb 312 (by decide +kernel)
theorem q_234 : Cond.code yX8_isValue cX8_isValue 1 (some .boolean) ∈ kBig := kb 313 (by decide +kernel)
theorem q_235 : Cond.methodLink RX8 88 yX5_enter ∈ kBig := kb 314 (by decide +kernel)
theorem q_236 : Cond.instanceMethod yX5_enter ∈ kBig := kb 315 (by decide +kernel)
theorem q_237 : Cond.selects RX5 yX5_enter yX5_enter ∈ kBig := kb 316 (by decide +kernel)
theorem q_238 : Cond.code yX5_enter cX5_enter 3 none ∈ kBig := kb 317 (by decide +kernel)
theorem q_239 : Cond.fieldLink RX5 21 (TX5 3).1 (TX5 3).2.1 (TX5 3).2.2.1 ∈ kBig := kb 156 (by decide +kernel)
theorem q_240 : Cond.fieldLink RX5 25 (TX5 4).1 (TX5 4).2.1 (TX5 4).2.2.1 ∈ kBig := kb 158 (by decide +kernel)
theorem q_241 : Cond.methodLink RL 30 yX9_row ∈ kBig := kb 742 (by decide +kernel)
theorem q_242 : Cond.instanceMethod yX9_row ∈ kBig := kb 743 (by decide +kernel)
theorem q_243 : Cond.selects RX9 yX9_row yX9_row ∈ kBig := kb 744 (by decide +kernel)
theorem q_244 : Cond.code yX9_row cX9_row 3 (some .int) ∈ kBig := kb 745 (by decide +kernel)
theorem q_245 : Cond.constantLong RX9 164 (-1000) ∈ kBig := kb 746 (by decide +kernel)
theorem q_246 : Cond.constantLong RX9 166 (1000) ∈ kBig := kb 747 (by decide +kernel)
theorem q_247 : Cond.methodLink RL 31 yX8_step ∈ kBig := kb 318 (by decide +kernel)
theorem q_248 : Cond.instanceMethod yX8_step ∈ kBig := kb 319 (by decide +kernel)
theorem q_249 : Cond.selects RX8 yX8_step yX8_step ∈ kBig := kb 320 (by decide +kernel)
theorem q_250 : Cond.code yX8_step cX8_step 5 (some .int) ∈ kBig := kb 321 (by decide +kernel)
theorem q_251 : Cond.fieldLink RX8 104 (TX5 0).1 (TX5 0).2.1 (TX5 0).2.2.1 ∈ kBig := kb 151 (by decide +kernel)
theorem q_252 : Cond.fieldLink RX8 107 (TX5 1).1 (TX5 1).2.1 (TX5 1).2.2.1 ∈ kBig := kb 153 (by decide +kernel)
theorem q_253 : Cond.fieldLink RX8 110 (TX0 0).1 (TX0 0).2.1 (TX0 0).2.2.1 ∈ kBig := kb 195 (by decide +kernel)
theorem q_254 : Cond.fieldLink RX8 114 (TX6 0).1 (TX6 0).2.1 (TX6 0).2.2.1 ∈ kBig := kb 135 (by decide +kernel)
theorem q_255 : Cond.fieldLink RX8 119 (TX6 1).1 (TX6 1).2.1 (TX6 1).2.2.1 ∈ kBig := kb 137 (by decide +kernel)
theorem q_256 : Cond.fieldLink RX8 123 (TX5 2).1 (TX5 2).2.1 (TX5 2).2.2.1 ∈ kBig := kb 155 (by decide +kernel)
theorem q_257 : Cond.methodLink RX8 98 yX8_isTask ∈ kBig := kb 322 (by decide +kernel)
theorem q_258 : Cond.instanceMethod yX8_isTask ∈ kBig := kb 324 (by decide +kernel)
theorem q_259 : Cond.selects RX8 yX8_isTask yX8_isTask ∈ kBig := kb 0 (by decide +kernel)
theorem q_260 : Cond.code yX8_isTask cX8_isTask 2 (some .boolean) ∈ kBig := kb 325 (by decide +kernel)
theorem q_261 : Cond.fieldLink RX8 238 (TX3 2).1 (TX3 2).2.1 (TX3 2).2.2.1 ∈ kBig := kb 69 (by decide +kernel)
theorem q_262 : Cond.methodLink RX8 101 yX8_firstInLine ∈ kBig := kb 326 (by decide +kernel)
theorem q_263 : Cond.instanceMethod yX8_firstInLine ∈ kBig := kb 328 (by decide +kernel)
theorem q_264 : Cond.selects RX8 yX8_firstInLine yX8_firstInLine ∈ kBig := kb 1 (by decide +kernel)
theorem q_265 : Cond.code yX8_firstInLine cX8_firstInLine 3 (some .int) ∈ kBig := kb 329 (by decide +kernel)
theorem q_266 : Cond.fieldLink RX8 237 (TX5 3).1 (TX5 3).2.1 (TX5 3).2.2.1 ∈ kBig := kb 157 (by decide +kernel)
theorem q_267 : Cond.methodLink RX8 248 yX8_waitsFor ∈ kBig := kb 330 (by decide +kernel)
theorem q_268 : Cond.instanceMethod yX8_waitsFor ∈ kBig := kb 332 (by decide +kernel)
theorem q_269 : Cond.selects RX8 yX8_waitsFor yX8_waitsFor ∈ kBig := kb 2 (by decide +kernel)
theorem q_270 : Cond.code yX8_waitsFor cX8_waitsFor 3 (some .boolean) ∈ kBig := kb 333 (by decide +kernel)
theorem q_271 : Cond.methodLink RX8 126 yX5_takeOut ∈ kBig := kb 334 (by decide +kernel)
theorem q_272 : Cond.instanceMethod yX5_takeOut ∈ kBig := kb 335 (by decide +kernel)
theorem q_273 : Cond.selects RX5 yX5_takeOut yX5_takeOut ∈ kBig := kb 336 (by decide +kernel)
theorem q_274 : Cond.code yX5_takeOut cX5_takeOut 3 none ∈ kBig := kb 337 (by decide +kernel)
theorem q_275 : Cond.methodLink RX5 28 arraycopyName ∈ kBig := kb 338 (by decide +kernel)
theorem q_276 : Cond.native arraycopyName ∈ kBig := kb 340 (by decide +kernel)
theorem q_277 : Cond.static arraycopyName ∈ kBig := kb 339 (by decide +kernel)
theorem q_278 : Cond.initialized "java/lang/System" ∈ kBig := kb 36 (by decide +kernel)
theorem q_279 : Cond.methodLink RX8 130 yX2_put ∈ kBig := kb 341 (by decide +kernel)
theorem q_280 : Cond.instanceMethod yX2_put ∈ kBig := kb 342 (by decide +kernel)
theorem q_281 : Cond.selects RX2 yX2_put yX2_put ∈ kBig := kb 343 (by decide +kernel)
theorem q_282 : Cond.code yX2_put cX2_put 5 none ∈ kBig := kb 344 (by decide +kernel)
theorem q_283 : Cond.fieldLink RX2 22 (TX2 3).1 (TX2 3).2.1 (TX2 3).2.2.1 ∈ kBig := kb 219 (by decide +kernel)
theorem q_284 : Cond.methodLink RL 34 yX9_step ∈ kBig := kb 748 (by decide +kernel)
theorem q_285 : Cond.instanceMethod yX9_step ∈ kBig := kb 749 (by decide +kernel)
theorem q_286 : Cond.selects RX9 yX9_step yX9_step ∈ kBig := kb 750 (by decide +kernel)
theorem q_287 : Cond.code yX9_step cX9_step 4 (some .int) ∈ kBig := kb 751 (by decide +kernel)
theorem q_288 : Cond.methodLink RX9 168 yX9_firstOf ∈ kBig := kb 752 (by decide +kernel)
theorem q_289 : Cond.instanceMethod yX9_firstOf ∈ kBig := kb 754 (by decide +kernel)
theorem q_290 : Cond.selects RX9 yX9_firstOf yX9_firstOf ∈ kBig := kb 9 (by decide +kernel)
theorem q_291 : Cond.code yX9_firstOf cX9_firstOf 3 (some .int) ∈ kBig := kb 755 (by decide +kernel)
theorem q_292 : Cond.methodLink RL 35 yX8_add ∈ kBig := kb 345 (by decide +kernel)
theorem q_293 : Cond.instanceMethod yX8_add ∈ kBig := kb 346 (by decide +kernel)
theorem q_294 : Cond.selects RX8 yX8_add yX8_add ∈ kBig := kb 347 (by decide +kernel)
theorem q_295 : Cond.code yX8_add cX8_add 4 (some .int) ∈ kBig := kb 348 (by decide +kernel)
theorem q_296 : Cond.fieldLink RX8 134 (TX3 6).1 (TX3 6).2.1 (TX3 6).2.2.1 ∈ kBig := kb 77 (by decide +kernel)
theorem q_297 : Cond.methodLink RL 39 yX9_add ∈ kBig := kb 756 (by decide +kernel)
theorem q_298 : Cond.instanceMethod yX9_add ∈ kBig := kb 757 (by decide +kernel)
theorem q_299 : Cond.selects RX9 yX9_add yX9_add ∈ kBig := kb 758 (by decide +kernel)
theorem q_300 : Cond.code yX9_add cX9_add 4 (some .int) ∈ kBig := kb 759 (by decide +kernel)
theorem q_301 : Cond.methodLink RL 40 yX8_scale ∈ kBig := kb 349 (by decide +kernel)
theorem q_302 : Cond.instanceMethod yX8_scale ∈ kBig := kb 350 (by decide +kernel)
theorem q_303 : Cond.selects RX8 yX8_scale yX8_scale ∈ kBig := kb 351 (by decide +kernel)
theorem q_304 : Cond.code yX8_scale cX8_scale 3 (some .int) ∈ kBig := kb 352 (by decide +kernel)
theorem q_305 : Cond.fieldLink RX8 137 (TX3 1).1 (TX3 1).2.1 (TX3 1).2.2.1 ∈ kBig := kb 67 (by decide +kernel)
theorem q_306 : Cond.fieldLink RX8 140 (TX3 0).1 (TX3 0).2.1 (TX3 0).2.2.1 ∈ kBig := kb 65 (by decide +kernel)
theorem q_307 : Cond.fieldLink RX8 150 (TX4 0).1 (TX4 0).2.1 (TX4 0).2.2.1 ∈ kBig := kb 112 (by decide +kernel)
theorem q_308 : Cond.methodLink RX8 143 yX4_layEven ∈ kBig := kb 353 (by decide +kernel)
theorem q_309 : Cond.instanceMethod yX4_layEven ∈ kBig := kb 354 (by decide +kernel)
theorem q_310 : Cond.selects RX4 yX4_layEven yX4_layEven ∈ kBig := kb 355 (by decide +kernel)
theorem q_311 : Cond.code yX4_layEven cX4_layEven 4 none ∈ kBig := kb 356 (by decide +kernel)
theorem q_312 : Cond.methodLink RX4 23 yX4_layRange ∈ kBig := kb 357 (by decide +kernel)
theorem q_313 : Cond.instanceMethod yX4_layRange ∈ kBig := kb 358 (by decide +kernel)
theorem q_314 : Cond.selects RX4 yX4_layRange yX4_layRange ∈ kBig := kb 359 (by decide +kernel)
theorem q_315 : Cond.code yX4_layRange cX4_layRange 5 none ∈ kBig := kb 360 (by decide +kernel)
theorem q_316 : Cond.methodLink RX8 146 yX4_layLeast ∈ kBig := kb 361 (by decide +kernel)
theorem q_317 : Cond.instanceMethod yX4_layLeast ∈ kBig := kb 362 (by decide +kernel)
theorem q_318 : Cond.selects RX4 yX4_layLeast yX4_layLeast ∈ kBig := kb 363 (by decide +kernel)
theorem q_319 : Cond.code yX4_layLeast cX4_layLeast 6 (some .int) ∈ kBig := kb 364 (by decide +kernel)
theorem q_320 : Cond.constant RX4 37 (1000000) ∈ kBig := kb 372 (by decide +kernel)
theorem q_321 : Cond.fieldLink RX4 44 (TX3 0).1 (TX3 0).2.1 (TX3 0).2.2.1 ∈ kBig := kb 64 (by decide +kernel)
theorem q_322 : Cond.methodLink RX4 27 yX3_totalWeight ∈ kBig := kb 365 (by decide +kernel)
theorem q_323 : Cond.instanceMethod yX3_totalWeight ∈ kBig := kb 366 (by decide +kernel)
theorem q_324 : Cond.selects RX3 yX3_totalWeight yX3_totalWeight ∈ kBig := kb 367 (by decide +kernel)
theorem q_325 : Cond.code yX3_totalWeight cX3_totalWeight 3 (some .int) ∈ kBig := kb 368 (by decide +kernel)
theorem q_326 : Cond.methodLink RX4 33 yX4_limitOf ∈ kBig := kb 369 (by decide +kernel)
theorem q_327 : Cond.static yX4_limitOf ∈ kBig := kb 370 (by decide +kernel)
theorem q_328 : Cond.code yX4_limitOf cX4_limitOf 4 (some .int) ∈ kBig := kb 371 (by decide +kernel)
theorem q_329 : Cond.methodLink RX4 38 yJ7_fill_53178 ∈ kBig := kb 373 (by decide +kernel)
theorem q_330 : Cond.methodLink RX4 48 yX4_putTaskAhead ∈ kBig := kb 374 (by decide +kernel)
theorem q_331 : Cond.instanceMethod yX4_putTaskAhead ∈ kBig := kb 375 (by decide +kernel)
theorem q_332 : Cond.selects RX4 yX4_putTaskAhead yX4_putTaskAhead ∈ kBig := kb 376 (by decide +kernel)
theorem q_333 : Cond.code yX4_putTaskAhead cX4_putTaskAhead 5 none ∈ kBig := kb 377 (by decide +kernel)
theorem q_334 : Cond.methodLink RX4 56 yX4_chooseEnd ∈ kBig := kb 378 (by decide +kernel)
theorem q_335 : Cond.instanceMethod yX4_chooseEnd ∈ kBig := kb 379 (by decide +kernel)
theorem q_336 : Cond.selects RX4 yX4_chooseEnd yX4_chooseEnd ∈ kBig := kb 380 (by decide +kernel)
theorem q_337 : Cond.code yX4_chooseEnd cX4_chooseEnd 9 (some .int) ∈ kBig := kb 381 (by decide +kernel)
theorem q_338 : Cond.fieldLink RX4 60 (TX3 7).1 (TX3 7).2.1 (TX3 7).2.2.1 ∈ kBig := kb 80 (by decide +kernel)
theorem q_339 : Cond.methodLink RX4 63 yX3_costToGive ∈ kBig := kb 382 (by decide +kernel)
theorem q_340 : Cond.instanceMethod yX3_costToGive ∈ kBig := kb 383 (by decide +kernel)
theorem q_341 : Cond.selects RX3 yX3_costToGive yX3_costToGive ∈ kBig := kb 384 (by decide +kernel)
theorem q_342 : Cond.code yX3_costToGive cX3_costToGive 3 (some .int) ∈ kBig := kb 385 (by decide +kernel)
theorem q_343 : Cond.methodLink RX4 52 yX4_layChosen ∈ kBig := kb 386 (by decide +kernel)
theorem q_344 : Cond.instanceMethod yX4_layChosen ∈ kBig := kb 387 (by decide +kernel)
theorem q_345 : Cond.selects RX4 yX4_layChosen yX4_layChosen ∈ kBig := kb 388 (by decide +kernel)
theorem q_346 : Cond.code yX4_layChosen cX4_layChosen 5 none ∈ kBig := kb 389 (by decide +kernel)
theorem q_347 : Cond.methodLink RX8 151 yX3_follow ∈ kBig := kb 390 (by decide +kernel)
theorem q_348 : Cond.instanceMethod yX3_follow ∈ kBig := kb 391 (by decide +kernel)
theorem q_349 : Cond.selects RX3 yX3_follow yX3_follow ∈ kBig := kb 392 (by decide +kernel)
theorem q_350 : Cond.code yX3_follow cX3_follow 4 (some .int) ∈ kBig := kb 393 (by decide +kernel)
theorem q_351 : Cond.methodLink RL 43 yX9_scale ∈ kBig := kb 760 (by decide +kernel)
theorem q_352 : Cond.instanceMethod yX9_scale ∈ kBig := kb 761 (by decide +kernel)
theorem q_353 : Cond.selects RX9 yX9_scale yX9_scale ∈ kBig := kb 762 (by decide +kernel)
theorem q_354 : Cond.code yX9_scale cX9_scale 5 (some .int) ∈ kBig := kb 763 (by decide +kernel)
theorem q_355 : Cond.methodLink RX9 192 yX9_planEven ∈ kBig := kb 764 (by decide +kernel)
theorem q_356 : Cond.instanceMethod yX9_planEven ∈ kBig := kb 766 (by decide +kernel)
theorem q_357 : Cond.selects RX9 yX9_planEven yX9_planEven ∈ kBig := kb 10 (by decide +kernel)
theorem q_358 : Cond.code yX9_planEven cX9_planEven 4 none ∈ kBig := kb 767 (by decide +kernel)
theorem q_359 : Cond.methodLink RX9 196 yX9_findLeast ∈ kBig := kb 768 (by decide +kernel)
theorem q_360 : Cond.instanceMethod yX9_findLeast ∈ kBig := kb 770 (by decide +kernel)
theorem q_361 : Cond.selects RX9 yX9_findLeast yX9_findLeast ∈ kBig := kb 11 (by decide +kernel)
theorem q_362 : Cond.code yX9_findLeast cX9_findLeast 10 none ∈ kBig := kb 771 (by decide +kernel)
theorem q_363 : Cond.constantLong RX9 179 (-1) ∈ kBig := kb 780 (by decide +kernel)
theorem q_364 : Cond.methodLink RX9 185 yX9_limit ∈ kBig := kb 772 (by decide +kernel)
theorem q_365 : Cond.instanceMethod yX9_limit ∈ kBig := kb 774 (by decide +kernel)
theorem q_366 : Cond.selects RX9 yX9_limit yX9_limit ∈ kBig := kb 12 (by decide +kernel)
theorem q_367 : Cond.code yX9_limit cX9_limit 3 (some .int) ∈ kBig := kb 775 (by decide +kernel)
theorem q_368 : Cond.methodLink RX9 171 yX9_total ∈ kBig := kb 776 (by decide +kernel)
theorem q_369 : Cond.instanceMethod yX9_total ∈ kBig := kb 778 (by decide +kernel)
theorem q_370 : Cond.selects RX9 yX9_total yX9_total ∈ kBig := kb 13 (by decide +kernel)
theorem q_371 : Cond.code yX9_total cX9_total 3 (some .int) ∈ kBig := kb 779 (by decide +kernel)
theorem q_372 : Cond.methodLink RX9 188 yX9_tryRange ∈ kBig := kb 781 (by decide +kernel)
theorem q_373 : Cond.instanceMethod yX9_tryRange ∈ kBig := kb 783 (by decide +kernel)
theorem q_374 : Cond.selects RX9 yX9_tryRange yX9_tryRange ∈ kBig := kb 14 (by decide +kernel)
theorem q_375 : Cond.code yX9_tryRange cX9_tryRange 7 (some .long) ∈ kBig := kb 784 (by decide +kernel)
theorem q_376 : Cond.methodLink RX9 175 yX9_weightOf ∈ kBig := kb 785 (by decide +kernel)
theorem q_377 : Cond.instanceMethod yX9_weightOf ∈ kBig := kb 787 (by decide +kernel)
theorem q_378 : Cond.selects RX9 yX9_weightOf yX9_weightOf ∈ kBig := kb 15 (by decide +kernel)
theorem q_379 : Cond.code yX9_weightOf cX9_weightOf 5 (some .int) ∈ kBig := kb 788 (by decide +kernel)
theorem q_380 : Cond.methodLink RX9 181 yX9_movedOf ∈ kBig := kb 789 (by decide +kernel)
theorem q_381 : Cond.instanceMethod yX9_movedOf ∈ kBig := kb 791 (by decide +kernel)
theorem q_382 : Cond.selects RX9 yX9_movedOf yX9_movedOf ∈ kBig := kb 16 (by decide +kernel)
theorem q_383 : Cond.code yX9_movedOf cX9_movedOf 7 (some .long) ∈ kBig := kb 792 (by decide +kernel)
theorem q_384 : Cond.methodLink RX9 199 yX9_planLeast ∈ kBig := kb 793 (by decide +kernel)
theorem q_385 : Cond.instanceMethod yX9_planLeast ∈ kBig := kb 795 (by decide +kernel)
theorem q_386 : Cond.selects RX9 yX9_planLeast yX9_planLeast ∈ kBig := kb 17 (by decide +kernel)
theorem q_387 : Cond.code yX9_planLeast cX9_planLeast 7 none ∈ kBig := kb 796 (by decide +kernel)
theorem q_388 : Cond.methodLink RL 44 yX8_moved ∈ kBig := kb 394 (by decide +kernel)
theorem q_389 : Cond.instanceMethod yX8_moved ∈ kBig := kb 395 (by decide +kernel)
theorem q_390 : Cond.selects RX8 yX8_moved yX8_moved ∈ kBig := kb 396 (by decide +kernel)
theorem q_391 : Cond.code yX8_moved cX8_moved 2 (some .int) ∈ kBig := kb 397 (by decide +kernel)
theorem q_392 : Cond.fieldLink RX8 155 (TX3 4).1 (TX3 4).2.1 (TX3 4).2.2.1 ∈ kBig := kb 73 (by decide +kernel)
theorem q_393 : Cond.fieldLink RX8 158 (TX3 8).1 (TX3 8).2.1 (TX3 8).2.2.1 ∈ kBig := kb 82 (by decide +kernel)
theorem q_394 : Cond.methodLink RL 47 yX9_moved ∈ kBig := kb 797 (by decide +kernel)
theorem q_395 : Cond.instanceMethod yX9_moved ∈ kBig := kb 798 (by decide +kernel)
theorem q_396 : Cond.selects RX9 yX9_moved yX9_moved ∈ kBig := kb 799 (by decide +kernel)
theorem q_397 : Cond.code yX9_moved cX9_moved 4 (some .int) ∈ kBig := kb 800 (by decide +kernel)
theorem q_398 : Cond.methodLink RL 48 yX8_least ∈ kBig := kb 398 (by decide +kernel)
theorem q_399 : Cond.instanceMethod yX8_least ∈ kBig := kb 399 (by decide +kernel)
theorem q_400 : Cond.selects RX8 yX8_least yX8_least ∈ kBig := kb 400 (by decide +kernel)
theorem q_401 : Cond.code yX8_least cX8_least 3 (some .long) ∈ kBig := kb 401 (by decide +kernel)
theorem q_402 : Cond.constantLong RX8 161 (-1) ∈ kBig := kb 402 (by decide +kernel)
theorem q_403 : Cond.methodLink RL 52 yX9_least ∈ kBig := kb 801 (by decide +kernel)
theorem q_404 : Cond.instanceMethod yX9_least ∈ kBig := kb 802 (by decide +kernel)
theorem q_405 : Cond.selects RX9 yX9_least yX9_least ∈ kBig := kb 803 (by decide +kernel)
theorem q_406 : Cond.code yX9_least cX9_least 2 (some .long) ∈ kBig := kb 804 (by decide +kernel)
theorem q_407 : Cond.methodLink RL 53 yX8_groupAt ∈ kBig := kb 403 (by decide +kernel)
theorem q_408 : Cond.instanceMethod yX8_groupAt ∈ kBig := kb 404 (by decide +kernel)
theorem q_409 : Cond.selects RX8 yX8_groupAt yX8_groupAt ∈ kBig := kb 405 (by decide +kernel)
theorem q_410 : Cond.code yX8_groupAt cX8_groupAt 3 (some .int) ∈ kBig := kb 406 (by decide +kernel)
theorem q_411 : Cond.methodLink RX8 163 yX8_waitingOfGroup ∈ kBig := kb 407 (by decide +kernel)
theorem q_412 : Cond.instanceMethod yX8_waitingOfGroup ∈ kBig := kb 409 (by decide +kernel)
theorem q_413 : Cond.selects RX8 yX8_waitingOfGroup yX8_waitingOfGroup ∈ kBig := kb 3 (by decide +kernel)
theorem q_414 : Cond.code yX8_waitingOfGroup cX8_waitingOfGroup 4 (some .int) ∈ kBig := kb 410 (by decide +kernel)
theorem q_415 : Cond.methodLink RL 56 yX9_groupAt ∈ kBig := kb 805 (by decide +kernel)
theorem q_416 : Cond.instanceMethod yX9_groupAt ∈ kBig := kb 806 (by decide +kernel)
theorem q_417 : Cond.selects RX9 yX9_groupAt yX9_groupAt ∈ kBig := kb 807 (by decide +kernel)
theorem q_418 : Cond.code yX9_groupAt cX9_groupAt 3 (some .int) ∈ kBig := kb 808 (by decide +kernel)
theorem q_419 : Cond.methodLink RX9 202 yX9_waitingOf ∈ kBig := kb 809 (by decide +kernel)
theorem q_420 : Cond.instanceMethod yX9_waitingOf ∈ kBig := kb 811 (by decide +kernel)
theorem q_421 : Cond.selects RX9 yX9_waitingOf yX9_waitingOf ∈ kBig := kb 18 (by decide +kernel)
theorem q_422 : Cond.code yX9_waitingOf cX9_waitingOf 4 (some .int) ∈ kBig := kb 812 (by decide +kernel)
theorem q_423 : Cond.methodLink RL 57 yX8_taskAt ∈ kBig := kb 411 (by decide +kernel)
theorem q_424 : Cond.instanceMethod yX8_taskAt ∈ kBig := kb 412 (by decide +kernel)
theorem q_425 : Cond.selects RX8 yX8_taskAt yX8_taskAt ∈ kBig := kb 413 (by decide +kernel)
theorem q_426 : Cond.code yX8_taskAt cX8_taskAt 3 (some .int) ∈ kBig := kb 414 (by decide +kernel)
theorem q_427 : Cond.methodLink RX8 166 yX3_firstOf ∈ kBig := kb 415 (by decide +kernel)
theorem q_428 : Cond.instanceMethod yX3_firstOf ∈ kBig := kb 416 (by decide +kernel)
theorem q_429 : Cond.selects RX3 yX3_firstOf yX3_firstOf ∈ kBig := kb 417 (by decide +kernel)
theorem q_430 : Cond.code yX3_firstOf cX3_firstOf 3 (some .int) ∈ kBig := kb 418 (by decide +kernel)
theorem q_431 : Cond.methodLink RX8 169 yX3_countOf ∈ kBig := kb 419 (by decide +kernel)
theorem q_432 : Cond.instanceMethod yX3_countOf ∈ kBig := kb 420 (by decide +kernel)
theorem q_433 : Cond.selects RX3 yX3_countOf yX3_countOf ∈ kBig := kb 421 (by decide +kernel)
theorem q_434 : Cond.code yX3_countOf cX3_countOf 4 (some .int) ∈ kBig := kb 422 (by decide +kernel)
theorem q_435 : Cond.methodLink RX8 172 yX3_weightOf ∈ kBig := kb 423 (by decide +kernel)
theorem q_436 : Cond.instanceMethod yX3_weightOf ∈ kBig := kb 424 (by decide +kernel)
theorem q_437 : Cond.selects RX3 yX3_weightOf yX3_weightOf ∈ kBig := kb 425 (by decide +kernel)
theorem q_438 : Cond.code yX3_weightOf cX3_weightOf 4 (some .int) ∈ kBig := kb 426 (by decide +kernel)
theorem q_439 : Cond.methodLink RX8 175 yX8_lengthOfLine ∈ kBig := kb 427 (by decide +kernel)
theorem q_440 : Cond.instanceMethod yX8_lengthOfLine ∈ kBig := kb 429 (by decide +kernel)
theorem q_441 : Cond.selects RX8 yX8_lengthOfLine yX8_lengthOfLine ∈ kBig := kb 4 (by decide +kernel)
theorem q_442 : Cond.code yX8_lengthOfLine cX8_lengthOfLine 4 (some .int) ∈ kBig := kb 430 (by decide +kernel)
theorem q_443 : Cond.methodLink RX8 178 yX8_firstNumberInLine ∈ kBig := kb 431 (by decide +kernel)
theorem q_444 : Cond.instanceMethod yX8_firstNumberInLine ∈ kBig := kb 433 (by decide +kernel)
theorem q_445 : Cond.selects RX8 yX8_firstNumberInLine yX8_firstNumberInLine ∈ kBig := kb 5 (by decide +kernel)
theorem q_446 : Cond.code yX8_firstNumberInLine cX8_firstNumberInLine 3 (some .int) ∈ kBig := kb 434 (by decide +kernel)
theorem q_447 : Cond.methodLink RL 60 yX9_taskAt ∈ kBig := kb 813 (by decide +kernel)
theorem q_448 : Cond.instanceMethod yX9_taskAt ∈ kBig := kb 814 (by decide +kernel)
theorem q_449 : Cond.selects RX9 yX9_taskAt yX9_taskAt ∈ kBig := kb 815 (by decide +kernel)
theorem q_450 : Cond.code yX9_taskAt cX9_taskAt 8 (some .int) ∈ kBig := kb 816 (by decide +kernel)
theorem q_451 : Cond.methodLink RL 61 yX8_counted ∈ kBig := kb 435 (by decide +kernel)
theorem q_452 : Cond.instanceMethod yX8_counted ∈ kBig := kb 436 (by decide +kernel)
theorem q_453 : Cond.selects RX8 yX8_counted yX8_counted ∈ kBig := kb 437 (by decide +kernel)
theorem q_454 : Cond.code yX8_counted cX8_counted 2 (some .int) ∈ kBig := kb 438 (by decide +kernel)
theorem q_455 : Cond.methodLink RL 64 yX9_counted ∈ kBig := kb 817 (by decide +kernel)
theorem q_456 : Cond.instanceMethod yX9_counted ∈ kBig := kb 818 (by decide +kernel)
theorem q_457 : Cond.selects RX9 yX9_counted yX9_counted ∈ kBig := kb 819 (by decide +kernel)
theorem q_458 : Cond.code yX9_counted cX9_counted 2 (some .int) ∈ kBig := kb 820 (by decide +kernel)
theorem q_459 : Cond.methodLink RL 65 yX8_sum ∈ kBig := kb 439 (by decide +kernel)
theorem q_460 : Cond.instanceMethod yX8_sum ∈ kBig := kb 440 (by decide +kernel)
theorem q_461 : Cond.selects RX8 yX8_sum yX8_sum ∈ kBig := kb 441 (by decide +kernel)
theorem q_462 : Cond.code yX8_sum cX8_sum 2 (some .long) ∈ kBig := kb 442 (by decide +kernel)
theorem q_463 : Cond.methodLink RL 68 yX9_sum ∈ kBig := kb 821 (by decide +kernel)
theorem q_464 : Cond.instanceMethod yX9_sum ∈ kBig := kb 822 (by decide +kernel)
theorem q_465 : Cond.selects RX9 yX9_sum yX9_sum ∈ kBig := kb 823 (by decide +kernel)
theorem q_466 : Cond.code yX9_sum cX9_sum 2 (some .long) ∈ kBig := kb 824 (by decide +kernel)
theorem q_467 : Cond.methodLink RL 69 yX8_hot ∈ kBig := kb 443 (by decide +kernel)
theorem q_468 : Cond.instanceMethod yX8_hot ∈ kBig := kb 444 (by decide +kernel)
theorem q_469 : Cond.selects RX8 yX8_hot yX8_hot ∈ kBig := kb 445 (by decide +kernel)
theorem q_470 : Cond.code yX8_hot cX8_hot 4 (some .int) ∈ kBig := kb 446 (by decide +kernel)
theorem q_471 : Cond.methodLink RX8 181 yX3_totalWeight ∈ kBig := kb 447 (by decide +kernel)
theorem q_472 : Cond.methodLink RX8 185 yX3_isHot ∈ kBig := kb 448 (by decide +kernel)
theorem q_473 : Cond.instanceMethod yX3_isHot ∈ kBig := kb 449 (by decide +kernel)
theorem q_474 : Cond.selects RX3 yX3_isHot yX3_isHot ∈ kBig := kb 450 (by decide +kernel)
theorem q_475 : Cond.code yX3_isHot cX3_isHot 3 (some .boolean) ∈ kBig := kb 451 (by decide +kernel)
theorem q_476 : Cond.methodLink RX8 189 yX3_aheadOf ∈ kBig := kb 452 (by decide +kernel)
theorem q_477 : Cond.instanceMethod yX3_aheadOf ∈ kBig := kb 453 (by decide +kernel)
theorem q_478 : Cond.selects RX3 yX3_aheadOf yX3_aheadOf ∈ kBig := kb 454 (by decide +kernel)
theorem q_479 : Cond.code yX3_aheadOf cX3_aheadOf 6 (some .int) ∈ kBig := kb 455 (by decide +kernel)
theorem q_480 : Cond.methodLink RL 72 yX9_hot ∈ kBig := kb 825 (by decide +kernel)
theorem q_481 : Cond.instanceMethod yX9_hot ∈ kBig := kb 826 (by decide +kernel)
theorem q_482 : Cond.selects RX9 yX9_hot yX9_hot ∈ kBig := kb 827 (by decide +kernel)
theorem q_483 : Cond.code yX9_hot cX9_hot 5 (some .int) ∈ kBig := kb 828 (by decide +kernel)
theorem q_484 : Cond.methodLink RX9 205 yX9_before ∈ kBig := kb 829 (by decide +kernel)
theorem q_485 : Cond.instanceMethod yX9_before ∈ kBig := kb 831 (by decide +kernel)
theorem q_486 : Cond.selects RX9 yX9_before yX9_before ∈ kBig := kb 19 (by decide +kernel)
theorem q_487 : Cond.code yX9_before cX9_before 6 (some .int) ∈ kBig := kb 832 (by decide +kernel)
theorem q_488 : Cond.methodLink RL 73 yX8_timer ∈ kBig := kb 456 (by decide +kernel)
theorem q_489 : Cond.instanceMethod yX8_timer ∈ kBig := kb 457 (by decide +kernel)
theorem q_490 : Cond.selects RX8 yX8_timer yX8_timer ∈ kBig := kb 458 (by decide +kernel)
theorem q_491 : Cond.code yX8_timer cX8_timer 3 (some .int) ∈ kBig := kb 459 (by decide +kernel)
theorem q_492 : Cond.fieldLink RX8 192 (TX7 3).1 (TX7 3).2.1 (TX7 3).2.2.1 ∈ kBig := kb 184 (by decide +kernel)
theorem q_493 : Cond.constant RX8 195 (1000000) ∈ kBig := kb 460 (by decide +kernel)
theorem q_494 : Cond.methodLink RX8 196 yX7_enter ∈ kBig := kb 461 (by decide +kernel)
theorem q_495 : Cond.instanceMethod yX7_enter ∈ kBig := kb 462 (by decide +kernel)
theorem q_496 : Cond.selects RX7 yX7_enter yX7_enter ∈ kBig := kb 463 (by decide +kernel)
theorem q_497 : Cond.code yX7_enter cX7_enter 4 none ∈ kBig := kb 464 (by decide +kernel)
theorem q_498 : Cond.fieldLink RX7 18 (TX7 2).1 (TX7 2).2.1 (TX7 2).2.2.1 ∈ kBig := kb 181 (by decide +kernel)
theorem q_499 : Cond.methodLink RX7 29 arraycopyName ∈ kBig := kb 473 (by decide +kernel)
theorem q_500 : Cond.methodLink RX7 25 yX7_placeFor ∈ kBig := kb 465 (by decide +kernel)
theorem q_501 : Cond.instanceMethod yX7_placeFor ∈ kBig := kb 466 (by decide +kernel)
theorem q_502 : Cond.selects RX7 yX7_placeFor yX7_placeFor ∈ kBig := kb 467 (by decide +kernel)
theorem q_503 : Cond.code yX7_placeFor cX7_placeFor 4 (some .int) ∈ kBig := kb 468 (by decide +kernel)
theorem q_504 : Cond.methodLink RX7 35 yX7_comesAhead ∈ kBig := kb 469 (by decide +kernel)
theorem q_505 : Cond.instanceMethod yX7_comesAhead ∈ kBig := kb 470 (by decide +kernel)
theorem q_506 : Cond.selects RX7 yX7_comesAhead yX7_comesAhead ∈ kBig := kb 471 (by decide +kernel)
theorem q_507 : Cond.code yX7_comesAhead cX7_comesAhead 4 (some .boolean) ∈ kBig := kb 472 (by decide +kernel)
theorem q_508 : Cond.methodLink RL 76 yX9_timer ∈ kBig := kb 833 (by decide +kernel)
theorem q_509 : Cond.instanceMethod yX9_timer ∈ kBig := kb 834 (by decide +kernel)
theorem q_510 : Cond.selects RX9 yX9_timer yX9_timer ∈ kBig := kb 835 (by decide +kernel)
theorem q_511 : Cond.code yX9_timer cX9_timer 3 (some .int) ∈ kBig := kb 836 (by decide +kernel)
theorem q_512 : Cond.constant RX9 208 (1000000) ∈ kBig := kb 837 (by decide +kernel)
theorem q_513 : Cond.methodLink RL 77 yX8_tick ∈ kBig := kb 474 (by decide +kernel)
theorem q_514 : Cond.instanceMethod yX8_tick ∈ kBig := kb 475 (by decide +kernel)
theorem q_515 : Cond.selects RX8 yX8_tick yX8_tick ∈ kBig := kb 476 (by decide +kernel)
theorem q_516 : Cond.code yX8_tick cX8_tick 5 (some .int) ∈ kBig := kb 477 (by decide +kernel)
theorem q_517 : Cond.fieldLink RX8 200 (TX7 0).1 (TX7 0).2.1 (TX7 0).2.2.1 ∈ kBig := kb 178 (by decide +kernel)
theorem q_518 : Cond.fieldLink RX8 201 (TX7 1).1 (TX7 1).2.1 (TX7 1).2.2.1 ∈ kBig := kb 180 (by decide +kernel)
theorem q_519 : Cond.methodLink RX8 197 yX7_dueAt ∈ kBig := kb 478 (by decide +kernel)
theorem q_520 : Cond.instanceMethod yX7_dueAt ∈ kBig := kb 479 (by decide +kernel)
theorem q_521 : Cond.selects RX7 yX7_dueAt yX7_dueAt ∈ kBig := kb 480 (by decide +kernel)
theorem q_522 : Cond.code yX7_dueAt cX7_dueAt 3 (some .int) ∈ kBig := kb 481 (by decide +kernel)
theorem q_523 : Cond.methodLink RX8 204 yX1_put ∈ kBig := kb 482 (by decide +kernel)
theorem q_524 : Cond.instanceMethod yX1_put ∈ kBig := kb 483 (by decide +kernel)
theorem q_525 : Cond.selects RX1 yX1_put yX1_put ∈ kBig := kb 484 (by decide +kernel)
theorem q_526 : Cond.code yX1_put cX1_put 6 none ∈ kBig := kb 485 (by decide +kernel)
theorem q_527 : Cond.fieldLink RX1 25 (TX1 4).1 (TX1 4).2.1 (TX1 4).2.2.1 ∈ kBig := kb 244 (by decide +kernel)
theorem q_528 : Cond.fieldLink RX1 29 (TX1 5).1 (TX1 5).2.1 (TX1 5).2.2.1 ∈ kBig := kb 245 (by decide +kernel)
theorem q_529 : Cond.methodLink RX1 32 Lib.Math.min.name ∈ kBig := kb 486 (by decide +kernel)
theorem q_530 : Cond.static Lib.Math.min.name ∈ kBig := kb 487 (by decide +kernel)
theorem q_531 : Cond.initialized "java/lang/Math" ∈ kBig := kb 37 (by decide +kernel)
theorem q_532 : Cond.code Lib.Math.min.name Lib.Math.min.code 2 (some .int) ∈ kBig := kb 488 (by decide +kernel)
theorem q_533 : Cond.methodLink RX8 207 yX6_forget ∈ kBig := kb 489 (by decide +kernel)
theorem q_534 : Cond.instanceMethod yX6_forget ∈ kBig := kb 490 (by decide +kernel)
theorem q_535 : Cond.selects RX6 yX6_forget yX6_forget ∈ kBig := kb 491 (by decide +kernel)
theorem q_536 : Cond.code yX6_forget cX6_forget 2 none ∈ kBig := kb 492 (by decide +kernel)
theorem q_537 : Cond.methodLink RX8 210 yX7_takeFirst ∈ kBig := kb 493 (by decide +kernel)
theorem q_538 : Cond.instanceMethod yX7_takeFirst ∈ kBig := kb 494 (by decide +kernel)
theorem q_539 : Cond.selects RX7 yX7_takeFirst yX7_takeFirst ∈ kBig := kb 495 (by decide +kernel)
theorem q_540 : Cond.code yX7_takeFirst cX7_takeFirst 2 none ∈ kBig := kb 496 (by decide +kernel)
theorem q_541 : Cond.methodLink RL 80 yX9_tick ∈ kBig := kb 838 (by decide +kernel)
theorem q_542 : Cond.instanceMethod yX9_tick ∈ kBig := kb 839 (by decide +kernel)
theorem q_543 : Cond.selects RX9 yX9_tick yX9_tick ∈ kBig := kb 840 (by decide +kernel)
theorem q_544 : Cond.code yX9_tick cX9_tick 4 (some .int) ∈ kBig := kb 841 (by decide +kernel)
theorem q_545 : Cond.methodLink RX9 209 yX9_due ∈ kBig := kb 842 (by decide +kernel)
theorem q_546 : Cond.instanceMethod yX9_due ∈ kBig := kb 844 (by decide +kernel)
theorem q_547 : Cond.selects RX9 yX9_due yX9_due ∈ kBig := kb 20 (by decide +kernel)
theorem q_548 : Cond.code yX9_due cX9_due 6 (some .int) ∈ kBig := kb 845 (by decide +kernel)
theorem q_549 : Cond.methodLink RX9 212 yX9_ring ∈ kBig := kb 846 (by decide +kernel)
theorem q_550 : Cond.instanceMethod yX9_ring ∈ kBig := kb 848 (by decide +kernel)
theorem q_551 : Cond.selects RX9 yX9_ring yX9_ring ∈ kBig := kb 21 (by decide +kernel)
theorem q_552 : Cond.code yX9_ring cX9_ring 5 none ∈ kBig := kb 849 (by decide +kernel)
theorem q_553 : Cond.methodLink RL 81 yX8_out ∈ kBig := kb 497 (by decide +kernel)
theorem q_554 : Cond.instanceMethod yX8_out ∈ kBig := kb 498 (by decide +kernel)
theorem q_555 : Cond.selects RX8 yX8_out yX8_out ∈ kBig := kb 499 (by decide +kernel)
theorem q_556 : Cond.code yX8_out cX8_out 3 (some .long) ∈ kBig := kb 500 (by decide +kernel)
theorem q_557 : Cond.constantLong RX8 213 (-102) ∈ kBig := kb 501 (by decide +kernel)
theorem q_558 : Cond.fieldLink RX8 215 (TX2 3).1 (TX2 3).2.1 (TX2 3).2.2.1 ∈ kBig := kb 220 (by decide +kernel)
theorem q_559 : Cond.constantLong RX8 216 (-106) ∈ kBig := kb 502 (by decide +kernel)
theorem q_560 : Cond.fieldLink RX8 218 (TX2 0).1 (TX2 0).2.1 (TX2 0).2.2.1 ∈ kBig := kb 214 (by decide +kernel)
theorem q_561 : Cond.fieldLink RX8 219 (TX2 1).1 (TX2 1).2.1 (TX2 1).2.2.1 ∈ kBig := kb 216 (by decide +kernel)
theorem q_562 : Cond.fieldLink RX8 220 (TX2 2).1 (TX2 2).2.1 (TX2 2).2.2.1 ∈ kBig := kb 218 (by decide +kernel)
theorem q_563 : Cond.methodLink RL 85 yX9_out ∈ kBig := kb 850 (by decide +kernel)
theorem q_564 : Cond.instanceMethod yX9_out ∈ kBig := kb 851 (by decide +kernel)
theorem q_565 : Cond.selects RX9 yX9_out yX9_out ∈ kBig := kb 852 (by decide +kernel)
theorem q_566 : Cond.code yX9_out cX9_out 3 (some .long) ∈ kBig := kb 853 (by decide +kernel)
theorem q_567 : Cond.constantLong RX9 215 (-102) ∈ kBig := kb 854 (by decide +kernel)
theorem q_568 : Cond.constantLong RX9 217 (-106) ∈ kBig := kb 855 (by decide +kernel)
theorem q_569 : Cond.methodLink RL 86 yX8_log ∈ kBig := kb 503 (by decide +kernel)
theorem q_570 : Cond.instanceMethod yX8_log ∈ kBig := kb 504 (by decide +kernel)
theorem q_571 : Cond.selects RX8 yX8_log yX8_log ∈ kBig := kb 505 (by decide +kernel)
theorem q_572 : Cond.code yX8_log cX8_log 4 (some .long) ∈ kBig := kb 506 (by decide +kernel)
theorem q_573 : Cond.fieldLink RX8 221 (TX1 5).1 (TX1 5).2.1 (TX1 5).2.2.1 ∈ kBig := kb 246 (by decide +kernel)
theorem q_574 : Cond.fieldLink RX8 225 (TX1 0).1 (TX1 0).2.1 (TX1 0).2.2.1 ∈ kBig := kb 237 (by decide +kernel)
theorem q_575 : Cond.fieldLink RX8 226 (TX1 1).1 (TX1 1).2.1 (TX1 1).2.2.1 ∈ kBig := kb 239 (by decide +kernel)
theorem q_576 : Cond.fieldLink RX8 227 (TX1 2).1 (TX1 2).2.1 (TX1 2).2.2.1 ∈ kBig := kb 241 (by decide +kernel)
theorem q_577 : Cond.fieldLink RX8 228 (TX1 3).1 (TX1 3).2.1 (TX1 3).2.2.1 ∈ kBig := kb 243 (by decide +kernel)
theorem q_578 : Cond.methodLink RX8 222 yX1_placeOf ∈ kBig := kb 507 (by decide +kernel)
theorem q_579 : Cond.instanceMethod yX1_placeOf ∈ kBig := kb 508 (by decide +kernel)
theorem q_580 : Cond.selects RX1 yX1_placeOf yX1_placeOf ∈ kBig := kb 509 (by decide +kernel)
theorem q_581 : Cond.code yX1_placeOf cX1_placeOf 2 (some .int) ∈ kBig := kb 510 (by decide +kernel)
theorem q_582 : Cond.methodLink RX1 38 yJ9_floorMod_7cf53 ∈ kBig := kb 511 (by decide +kernel)
theorem q_583 : Cond.static yJ9_floorMod_7cf53 ∈ kBig := kb 512 (by decide +kernel)
theorem q_584 : Cond.initialized RJ9 ∈ kBig := kb 37 (by decide +kernel)
theorem q_585 : Cond.code yJ9_floorMod_7cf53 cJ9_floorMod_7cf53 3 (some .int) ∈ kBig := kb 513 (by decide +kernel)
theorem q_586 : Cond.methodLink RL 89 yX9_log ∈ kBig := kb 856 (by decide +kernel)
theorem q_587 : Cond.instanceMethod yX9_log ∈ kBig := kb 857 (by decide +kernel)
theorem q_588 : Cond.selects RX9 yX9_log yX9_log ∈ kBig := kb 858 (by decide +kernel)
theorem q_589 : Cond.code yX9_log cX9_log 4 (some .long) ∈ kBig := kb 859 (by decide +kernel)
theorem q_590 : Cond.constantLong RX9 219 (3) ∈ kBig := kb 860 (by decide +kernel)
theorem q_591 : Cond.methodLink RX9 221 yX9_keptLogs ∈ kBig := kb 861 (by decide +kernel)
theorem q_592 : Cond.instanceMethod yX9_keptLogs ∈ kBig := kb 863 (by decide +kernel)
theorem q_593 : Cond.selects RX9 yX9_keptLogs yX9_keptLogs ∈ kBig := kb 22 (by decide +kernel)
theorem q_594 : Cond.code yX9_keptLogs cX9_keptLogs 1 (some .int) ∈ kBig := kb 864 (by decide +kernel)
theorem q_595 : Cond.methodLink RL 90 yX8_mark ∈ kBig := kb 514 (by decide +kernel)
theorem q_596 : Cond.instanceMethod yX8_mark ∈ kBig := kb 515 (by decide +kernel)
theorem q_597 : Cond.selects RX8 yX8_mark yX8_mark ∈ kBig := kb 516 (by decide +kernel)
theorem q_598 : Cond.code yX8_mark cX8_mark 2 (some .int) ∈ kBig := kb 517 (by decide +kernel)
theorem q_599 : Cond.methodLink RX8 229 yX0_copyFrom ∈ kBig := kb 518 (by decide +kernel)
theorem q_600 : Cond.instanceMethod yX0_copyFrom ∈ kBig := kb 519 (by decide +kernel)
theorem q_601 : Cond.selects RX0 yX0_copyFrom yX0_copyFrom ∈ kBig := kb 520 (by decide +kernel)
theorem q_602 : Cond.code yX0_copyFrom cX0_copyFrom 2 none ∈ kBig := kb 521 (by decide +kernel)
theorem q_603 : Cond.methodLink RX0 35 yX6_copyFrom ∈ kBig := kb 522 (by decide +kernel)
theorem q_604 : Cond.instanceMethod yX6_copyFrom ∈ kBig := kb 523 (by decide +kernel)
theorem q_605 : Cond.selects RX6 yX6_copyFrom yX6_copyFrom ∈ kBig := kb 524 (by decide +kernel)
theorem q_606 : Cond.code yX6_copyFrom cX6_copyFrom 2 none ∈ kBig := kb 525 (by decide +kernel)
theorem q_607 : Cond.methodLink RX6 28 arraycopyName ∈ kBig := kb 526 (by decide +kernel)
theorem q_608 : Cond.methodLink RX0 39 yX5_copyFrom ∈ kBig := kb 527 (by decide +kernel)
theorem q_609 : Cond.instanceMethod yX5_copyFrom ∈ kBig := kb 528 (by decide +kernel)
theorem q_610 : Cond.selects RX5 yX5_copyFrom yX5_copyFrom ∈ kBig := kb 529 (by decide +kernel)
theorem q_611 : Cond.code yX5_copyFrom cX5_copyFrom 2 none ∈ kBig := kb 530 (by decide +kernel)
theorem q_612 : Cond.methodLink RX0 42 yX7_copyFrom ∈ kBig := kb 531 (by decide +kernel)
theorem q_613 : Cond.instanceMethod yX7_copyFrom ∈ kBig := kb 532 (by decide +kernel)
theorem q_614 : Cond.selects RX7 yX7_copyFrom yX7_copyFrom ∈ kBig := kb 533 (by decide +kernel)
theorem q_615 : Cond.code yX7_copyFrom cX7_copyFrom 2 none ∈ kBig := kb 534 (by decide +kernel)
theorem q_616 : Cond.fieldLink RX7 22 (TX7 3).1 (TX7 3).2.1 (TX7 3).2.2.1 ∈ kBig := kb 183 (by decide +kernel)
theorem q_617 : Cond.methodLink RL 94 yX9_mark ∈ kBig := kb 865 (by decide +kernel)
theorem q_618 : Cond.instanceMethod yX9_mark ∈ kBig := kb 866 (by decide +kernel)
theorem q_619 : Cond.selects RX9 yX9_mark yX9_mark ∈ kBig := kb 867 (by decide +kernel)
theorem q_620 : Cond.code yX9_mark cX9_mark 3 (some .int) ∈ kBig := kb 868 (by decide +kernel)
theorem q_621 : Cond.methodLink RL 95 yX8_restore ∈ kBig := kb 535 (by decide +kernel)
theorem q_622 : Cond.instanceMethod yX8_restore ∈ kBig := kb 536 (by decide +kernel)
theorem q_623 : Cond.selects RX8 yX8_restore yX8_restore ∈ kBig := kb 537 (by decide +kernel)
theorem q_624 : Cond.code yX8_restore cX8_restore 3 (some .int) ∈ kBig := kb 538 (by decide +kernel)
theorem q_625 : Cond.methodLink RX8 233 yX3_startAnew ∈ kBig := kb 539 (by decide +kernel)
theorem q_626 : Cond.instanceMethod yX3_startAnew ∈ kBig := kb 540 (by decide +kernel)
theorem q_627 : Cond.selects RX3 yX3_startAnew yX3_startAnew ∈ kBig := kb 541 (by decide +kernel)
theorem q_628 : Cond.code yX3_startAnew cX3_startAnew 4 none ∈ kBig := kb 542 (by decide +kernel)
theorem q_629 : Cond.methodLink RL 98 yX9_restore ∈ kBig := kb 869 (by decide +kernel)
theorem q_630 : Cond.instanceMethod yX9_restore ∈ kBig := kb 870 (by decide +kernel)
theorem q_631 : Cond.selects RX9 yX9_restore yX9_restore ∈ kBig := kb 871 (by decide +kernel)
theorem q_632 : Cond.code yX9_restore cX9_restore 4 (some .int) ∈ kBig := kb 872 (by decide +kernel)
theorem q_633 : Cond.methodLink RX9 224 yX9_waiting ∈ kBig := kb 873 (by decide +kernel)
theorem q_634 : Cond.instanceMethod yX9_waiting ∈ kBig := kb 875 (by decide +kernel)
theorem q_635 : Cond.selects RX9 yX9_waiting yX9_waiting ∈ kBig := kb 23 (by decide +kernel)
theorem q_636 : Cond.code yX9_waiting cX9_waiting 3 (some .int) ∈ kBig := kb 876 (by decide +kernel)
theorem q_637 : Cond.methodLink RL 99 yX8_digest ∈ kBig := kb 543 (by decide +kernel)
theorem q_638 : Cond.instanceMethod yX8_digest ∈ kBig := kb 544 (by decide +kernel)
theorem q_639 : Cond.selects RX8 yX8_digest yX8_digest ∈ kBig := kb 545 (by decide +kernel)
theorem q_640 : Cond.code yX8_digest cX8_digest 3 (some .int) ∈ kBig := kb 546 (by decide +kernel)
theorem q_641 : Cond.methodLink RL 102 yX9_digest ∈ kBig := kb 877 (by decide +kernel)
theorem q_642 : Cond.instanceMethod yX9_digest ∈ kBig := kb 878 (by decide +kernel)
theorem q_643 : Cond.selects RX9 yX9_digest yX9_digest ∈ kBig := kb 879 (by decide +kernel)
theorem q_644 : Cond.code yX9_digest cX9_digest 3 (some .int) ∈ kBig := kb 880 (by decide +kernel)
theorem q_645 : Cond.methodLink RL 103 yX8_told ∈ kBig := kb 547 (by decide +kernel)
theorem q_646 : Cond.instanceMethod yX8_told ∈ kBig := kb 548 (by decide +kernel)
theorem q_647 : Cond.selects RX8 yX8_told yX8_told ∈ kBig := kb 549 (by decide +kernel)
theorem q_648 : Cond.code yX8_told cX8_told 2 (some .int) ∈ kBig := kb 550 (by decide +kernel)
theorem q_649 : Cond.fieldLink RX8 241 (TX3 3).1 (TX3 3).2.1 (TX3 3).2.2.1 ∈ kBig := kb 71 (by decide +kernel)
theorem q_650 : Cond.methodLink RL 106 yX9_told ∈ kBig := kb 881 (by decide +kernel)
theorem q_651 : Cond.instanceMethod yX9_told ∈ kBig := kb 882 (by decide +kernel)
theorem q_652 : Cond.selects RX9 yX9_told yX9_told ∈ kBig := kb 883 (by decide +kernel)
theorem q_653 : Cond.code yX9_told cX9_told 2 (some .int) ∈ kBig := kb 884 (by decide +kernel)
theorem q_654 : Cond.methodLink RL 107 yX8_clear ∈ kBig := kb 551 (by decide +kernel)
theorem q_655 : Cond.instanceMethod yX8_clear ∈ kBig := kb 552 (by decide +kernel)
theorem q_656 : Cond.selects RX8 yX8_clear yX8_clear ∈ kBig := kb 553 (by decide +kernel)
theorem q_657 : Cond.code yX8_clear cX8_clear 2 (some .int) ∈ kBig := kb 554 (by decide +kernel)
theorem q_658 : Cond.methodLink RX8 244 yX3_begin ∈ kBig := kb 555 (by decide +kernel)
theorem q_659 : Cond.methodLink RX8 247 yX0_begin ∈ kBig := kb 556 (by decide +kernel)
theorem q_660 : Cond.instanceMethod yX0_begin ∈ kBig := kb 557 (by decide +kernel)
theorem q_661 : Cond.selects RX0 yX0_begin yX0_begin ∈ kBig := kb 558 (by decide +kernel)
theorem q_662 : Cond.code yX0_begin cX0_begin 1 none ∈ kBig := kb 559 (by decide +kernel)
theorem q_663 : Cond.methodLink RX0 30 yX6_begin ∈ kBig := kb 560 (by decide +kernel)
theorem q_664 : Cond.instanceMethod yX6_begin ∈ kBig := kb 561 (by decide +kernel)
theorem q_665 : Cond.selects RX6 yX6_begin yX6_begin ∈ kBig := kb 562 (by decide +kernel)
theorem q_666 : Cond.code yX6_begin cX6_begin 1 none ∈ kBig := kb 563 (by decide +kernel)
theorem q_667 : Cond.methodLink RX6 19 yJ7_fill_53178 ∈ kBig := kb 564 (by decide +kernel)
theorem q_668 : Cond.methodLink RX6 25 yJ7_fill_d0a16 ∈ kBig := kb 565 (by decide +kernel)
theorem q_669 : Cond.static yJ7_fill_d0a16 ∈ kBig := kb 566 (by decide +kernel)
theorem q_670 : Cond.code yJ7_fill_d0a16 cJ7_fill_d0a16 5 none ∈ kBig := kb 567 (by decide +kernel)
theorem q_671 : Cond.methodLink RX0 33 yX5_begin ∈ kBig := kb 568 (by decide +kernel)
theorem q_672 : Cond.instanceMethod yX5_begin ∈ kBig := kb 569 (by decide +kernel)
theorem q_673 : Cond.selects RX5 yX5_begin yX5_begin ∈ kBig := kb 570 (by decide +kernel)
theorem q_674 : Cond.code yX5_begin cX5_begin 1 none ∈ kBig := kb 571 (by decide +kernel)
theorem q_675 : Cond.methodLink RX0 34 yX7_begin ∈ kBig := kb 572 (by decide +kernel)
theorem q_676 : Cond.instanceMethod yX7_begin ∈ kBig := kb 573 (by decide +kernel)
theorem q_677 : Cond.selects RX7 yX7_begin yX7_begin ∈ kBig := kb 574 (by decide +kernel)
theorem q_678 : Cond.code yX7_begin cX7_begin 1 none ∈ kBig := kb 575 (by decide +kernel)
theorem q_679 : Cond.methodLink RL 110 yX9_clear ∈ kBig := kb 885 (by decide +kernel)
theorem q_680 : Cond.instanceMethod yX9_clear ∈ kBig := kb 886 (by decide +kernel)
theorem q_681 : Cond.selects RX9 yX9_clear yX9_clear ∈ kBig := kb 887 (by decide +kernel)
theorem q_682 : Cond.code yX9_clear cX9_clear 2 (some .int) ∈ kBig := kb 888 (by decide +kernel)
theorem inlX8 : ∀ w ∈ u_ws RX8 TX8 8, w ∈ kBig := kbl [269, 271, 273, 275, 277, 279, 281, 283] (by decide +kernel)
theorem inlX9 : ∀ w ∈ u_ws RX9 TX9 41, w ∈ kBig := kbl [631, 633, 635, 637, 639, 641, 643, 645, 647, 649, 651, 653, 655, 657, 659, 661, 663, 665, 667, 669, 671, 673, 675, 677, 679, 681, 683, 685, 687, 689, 691, 693, 695, 697, 699, 701, 703, 705, 707, 709, 711] (by decide +kernel)
theorem inlX3 : ∀ w ∈ u_ws RX3 TX3 9, w ∈ kBig := kbl [83, 85, 87, 89, 91, 93, 95, 97, 99] (by decide +kernel)
theorem inlX4 : ∀ w ∈ u_ws RX4 TX4 3, w ∈ kBig := kbl [115, 117, 119] (by decide +kernel)
theorem inlX0 : ∀ w ∈ u_ws RX0 TX0 3, w ∈ kBig := kbl [200, 202, 204] (by decide +kernel)
theorem inlX2 : ∀ w ∈ u_ws RX2 TX2 4, w ∈ kBig := kbl [221, 223, 225, 227] (by decide +kernel)
theorem inlX1 : ∀ w ∈ u_ws RX1 TX1 6, w ∈ kBig := kbl [247, 249, 251, 253, 255, 257] (by decide +kernel)
theorem inlX6 : ∀ w ∈ u_ws RX6 TX6 2, w ∈ kBig := kbl [138, 140] (by decide +kernel)
theorem inlX5 : ∀ w ∈ u_ws RX5 TX5 5, w ∈ kBig := kbl [160, 162, 164, 166, 168] (by decide +kernel)
theorem inlX7 : ∀ w ∈ u_ws RX7 TX7 4, w ∈ kBig := kbl [185, 187, 189, 191] (by decide +kernel)
end
section
theorem dX0_init_0 : decode cX0_init 0 = .ok (.aload_n 0, 1) := by decide +kernel
theorem dX0_init_1 : decode cX0_init 1 = .ok (.invokespecial 1, 3) := by decide +kernel
theorem dX0_init_4 : decode cX0_init 4 = .ok (.aload_n 0, 1) := by decide +kernel
theorem dX0_init_5 : decode cX0_init 5 = .ok (.new 7, 3) := by decide +kernel
theorem dX0_init_8 : decode cX0_init 8 = .ok (.dup, 1) := by decide +kernel
theorem dX0_init_9 : decode cX0_init 9 = .ok (.invokespecial 9, 3) := by decide +kernel
theorem dX0_init_12 : decode cX0_init 12 = .ok (.putfield 10, 3) := by decide +kernel
theorem dX0_init_15 : decode cX0_init 15 = .ok (.aload_n 0, 1) := by decide +kernel
theorem dX0_init_16 : decode cX0_init 16 = .ok (.new 16, 3) := by decide +kernel
theorem dX0_init_19 : decode cX0_init 19 = .ok (.dup, 1) := by decide +kernel
theorem dX0_init_20 : decode cX0_init 20 = .ok (.invokespecial 18, 3) := by decide +kernel
theorem dX0_init_23 : decode cX0_init 23 = .ok (.putfield 19, 3) := by decide +kernel
theorem dX0_init_26 : decode cX0_init 26 = .ok (.aload_n 0, 1) := by decide +kernel
theorem dX0_init_27 : decode cX0_init 27 = .ok (.new 23, 3) := by decide +kernel
theorem dX0_init_30 : decode cX0_init 30 = .ok (.dup, 1) := by decide +kernel
theorem dX0_init_31 : decode cX0_init 31 = .ok (.invokespecial 25, 3) := by decide +kernel
theorem dX0_init_34 : decode cX0_init 34 = .ok (.putfield 26, 3) := by decide +kernel
theorem dX0_init_37 : decode cX0_init 37 = .ok (.return_, 1) := by decide +kernel
theorem dX0_begin_0 : decode cX0_begin 0 = .ok (.aload_n 0, 1) := by decide +kernel
theorem dX0_begin_1 : decode cX0_begin 1 = .ok (.getfield 10, 3) := by decide +kernel
theorem dX0_begin_4 : decode cX0_begin 4 = .ok (.invokevirtual 30, 3) := by decide +kernel
theorem dX0_begin_7 : decode cX0_begin 7 = .ok (.aload_n 0, 1) := by decide +kernel
theorem dX0_begin_8 : decode cX0_begin 8 = .ok (.getfield 19, 3) := by decide +kernel
theorem dX0_begin_11 : decode cX0_begin 11 = .ok (.invokevirtual 33, 3) := by decide +kernel
theorem dX0_begin_14 : decode cX0_begin 14 = .ok (.aload_n 0, 1) := by decide +kernel
theorem dX0_begin_15 : decode cX0_begin 15 = .ok (.getfield 26, 3) := by decide +kernel
theorem dX0_begin_18 : decode cX0_begin 18 = .ok (.invokevirtual 34, 3) := by decide +kernel
theorem dX0_begin_21 : decode cX0_begin 21 = .ok (.return_, 1) := by decide +kernel
theorem dX0_copyFrom_0 : decode cX0_copyFrom 0 = .ok (.aload_n 0, 1) := by decide +kernel
theorem dX0_copyFrom_1 : decode cX0_copyFrom 1 = .ok (.getfield 10, 3) := by decide +kernel
theorem dX0_copyFrom_4 : decode cX0_copyFrom 4 = .ok (.aload_n 1, 1) := by decide +kernel
theorem dX0_copyFrom_5 : decode cX0_copyFrom 5 = .ok (.getfield 10, 3) := by decide +kernel
theorem dX0_copyFrom_8 : decode cX0_copyFrom 8 = .ok (.invokevirtual 35, 3) := by decide +kernel
theorem dX0_copyFrom_11 : decode cX0_copyFrom 11 = .ok (.aload_n 0, 1) := by decide +kernel
theorem dX0_copyFrom_12 : decode cX0_copyFrom 12 = .ok (.getfield 19, 3) := by decide +kernel
theorem dX0_copyFrom_15 : decode cX0_copyFrom 15 = .ok (.aload_n 1, 1) := by decide +kernel
theorem dX0_copyFrom_16 : decode cX0_copyFrom 16 = .ok (.getfield 19, 3) := by decide +kernel
theorem dX0_copyFrom_19 : decode cX0_copyFrom 19 = .ok (.invokevirtual 39, 3) := by decide +kernel
theorem dX0_copyFrom_22 : decode cX0_copyFrom 22 = .ok (.aload_n 0, 1) := by decide +kernel
theorem dX0_copyFrom_23 : decode cX0_copyFrom 23 = .ok (.getfield 26, 3) := by decide +kernel
theorem dX0_copyFrom_26 : decode cX0_copyFrom 26 = .ok (.aload_n 1, 1) := by decide +kernel
theorem dX0_copyFrom_27 : decode cX0_copyFrom 27 = .ok (.getfield 26, 3) := by decide +kernel
theorem dX0_copyFrom_30 : decode cX0_copyFrom 30 = .ok (.invokevirtual 42, 3) := by decide +kernel
theorem dX0_copyFrom_33 : decode cX0_copyFrom 33 = .ok (.return_, 1) := by decide +kernel
theorem dX1_init_0 : decode cX1_init 0 = .ok (.aload_n 0, 1) := by decide +kernel
theorem dX1_init_1 : decode cX1_init 1 = .ok (.invokespecial 3, 3) := by decide +kernel
theorem dX1_init_4 : decode cX1_init 4 = .ok (.aload_n 0, 1) := by decide +kernel
theorem dX1_init_5 : decode cX1_init 5 = .ok (.bipush 32, 2) := by decide +kernel
theorem dX1_init_7 : decode cX1_init 7 = .ok (.newarray .int, 2) := by decide +kernel
theorem dX1_init_9 : decode cX1_init 9 = .ok (.putfield 9, 3) := by decide +kernel
theorem dX1_init_12 : decode cX1_init 12 = .ok (.aload_n 0, 1) := by decide +kernel
theorem dX1_init_13 : decode cX1_init 13 = .ok (.bipush 32, 2) := by decide +kernel
theorem dX1_init_15 : decode cX1_init 15 = .ok (.newarray .int, 2) := by decide +kernel
theorem dX1_init_17 : decode cX1_init 17 = .ok (.putfield 15, 3) := by decide +kernel
theorem dX1_init_20 : decode cX1_init 20 = .ok (.aload_n 0, 1) := by decide +kernel
theorem dX1_init_21 : decode cX1_init 21 = .ok (.bipush 32, 2) := by decide +kernel
theorem dX1_init_23 : decode cX1_init 23 = .ok (.newarray .int, 2) := by decide +kernel
theorem dX1_init_25 : decode cX1_init 25 = .ok (.putfield 18, 3) := by decide +kernel
theorem dX1_init_28 : decode cX1_init 28 = .ok (.aload_n 0, 1) := by decide +kernel
theorem dX1_init_29 : decode cX1_init 29 = .ok (.bipush 32, 2) := by decide +kernel
theorem dX1_init_31 : decode cX1_init 31 = .ok (.newarray .long, 2) := by decide +kernel
theorem dX1_init_33 : decode cX1_init 33 = .ok (.putfield 21, 3) := by decide +kernel
theorem dX1_init_36 : decode cX1_init 36 = .ok (.return_, 1) := by decide +kernel
theorem dX1_put_0 : decode cX1_put 0 = .ok (.aload_n 0, 1) := by decide +kernel
theorem dX1_put_1 : decode cX1_put 1 = .ok (.getfield 9, 3) := by decide +kernel
theorem dX1_put_4 : decode cX1_put 4 = .ok (.aload_n 0, 1) := by decide +kernel
theorem dX1_put_5 : decode cX1_put 5 = .ok (.getfield 25, 3) := by decide +kernel
theorem dX1_put_8 : decode cX1_put 8 = .ok (.iload_n 1, 1) := by decide +kernel
theorem dX1_put_9 : decode cX1_put 9 = .ok (.iastore, 1) := by decide +kernel
theorem dX1_put_10 : decode cX1_put 10 = .ok (.aload_n 0, 1) := by decide +kernel
theorem dX1_put_11 : decode cX1_put 11 = .ok (.getfield 15, 3) := by decide +kernel
theorem dX1_put_14 : decode cX1_put 14 = .ok (.aload_n 0, 1) := by decide +kernel
theorem dX1_put_15 : decode cX1_put 15 = .ok (.getfield 25, 3) := by decide +kernel
theorem dX1_put_18 : decode cX1_put 18 = .ok (.iload_n 2, 1) := by decide +kernel
theorem dX1_put_19 : decode cX1_put 19 = .ok (.iastore, 1) := by decide +kernel
theorem dX1_put_20 : decode cX1_put 20 = .ok (.aload_n 0, 1) := by decide +kernel
theorem dX1_put_21 : decode cX1_put 21 = .ok (.getfield 18, 3) := by decide +kernel
theorem dX1_put_24 : decode cX1_put 24 = .ok (.aload_n 0, 1) := by decide +kernel
theorem dX1_put_25 : decode cX1_put 25 = .ok (.getfield 25, 3) := by decide +kernel
theorem dX1_put_28 : decode cX1_put 28 = .ok (.iload_n 3, 1) := by decide +kernel
theorem dX1_put_29 : decode cX1_put 29 = .ok (.iastore, 1) := by decide +kernel
theorem dX1_put_30 : decode cX1_put 30 = .ok (.aload_n 0, 1) := by decide +kernel
theorem dX1_put_31 : decode cX1_put 31 = .ok (.getfield 21, 3) := by decide +kernel
theorem dX1_put_34 : decode cX1_put 34 = .ok (.aload_n 0, 1) := by decide +kernel
theorem dX1_put_35 : decode cX1_put 35 = .ok (.getfield 25, 3) := by decide +kernel
theorem dX1_put_38 : decode cX1_put 38 = .ok (.lload 4, 2) := by decide +kernel
theorem dX1_put_40 : decode cX1_put 40 = .ok (.lastore, 1) := by decide +kernel
theorem dX1_put_41 : decode cX1_put 41 = .ok (.aload_n 0, 1) := by decide +kernel
theorem dX1_put_42 : decode cX1_put 42 = .ok (.aload_n 0, 1) := by decide +kernel
theorem dX1_put_43 : decode cX1_put 43 = .ok (.getfield 25, 3) := by decide +kernel
theorem dX1_put_46 : decode cX1_put 46 = .ok (.iconst 1, 1) := by decide +kernel
theorem dX1_put_47 : decode cX1_put 47 = .ok (.iadd, 1) := by decide +kernel
theorem dX1_put_48 : decode cX1_put 48 = .ok (.bipush 32, 2) := by decide +kernel
theorem dX1_put_50 : decode cX1_put 50 = .ok (.irem, 1) := by decide +kernel
theorem dX1_put_51 : decode cX1_put 51 = .ok (.putfield 25, 3) := by decide +kernel
theorem dX1_put_54 : decode cX1_put 54 = .ok (.aload_n 0, 1) := by decide +kernel
theorem dX1_put_55 : decode cX1_put 55 = .ok (.aload_n 0, 1) := by decide +kernel
theorem dX1_put_56 : decode cX1_put 56 = .ok (.getfield 29, 3) := by decide +kernel
theorem dX1_put_59 : decode cX1_put 59 = .ok (.iconst 1, 1) := by decide +kernel
theorem dX1_put_60 : decode cX1_put 60 = .ok (.iadd, 1) := by decide +kernel
theorem dX1_put_61 : decode cX1_put 61 = .ok (.bipush 32, 2) := by decide +kernel
theorem dX1_put_63 : decode cX1_put 63 = .ok (.invokestatic 32, 3) := by decide +kernel
theorem dX1_put_66 : decode cX1_put 66 = .ok (.putfield 29, 3) := by decide +kernel
theorem dX1_put_69 : decode cX1_put 69 = .ok (.return_, 1) := by decide +kernel
theorem dX1_placeOf_0 : decode cX1_placeOf 0 = .ok (.aload_n 0, 1) := by decide +kernel
theorem dX1_placeOf_1 : decode cX1_placeOf 1 = .ok (.getfield 25, 3) := by decide +kernel
theorem dX1_placeOf_4 : decode cX1_placeOf 4 = .ok (.iconst 1, 1) := by decide +kernel
theorem dX1_placeOf_5 : decode cX1_placeOf 5 = .ok (.isub, 1) := by decide +kernel
theorem dX1_placeOf_6 : decode cX1_placeOf 6 = .ok (.iload_n 1, 1) := by decide +kernel
theorem dX1_placeOf_7 : decode cX1_placeOf 7 = .ok (.isub, 1) := by decide +kernel
theorem dX1_placeOf_8 : decode cX1_placeOf 8 = .ok (.bipush 32, 2) := by decide +kernel
theorem dX1_placeOf_10 : decode cX1_placeOf 10 = .ok (.invokestatic 38, 3) := by decide +kernel
theorem dX1_placeOf_13 : decode cX1_placeOf 13 = .ok (.ireturn, 1) := by decide +kernel
theorem dX2_init_0 : decode cX2_init 0 = .ok (.aload_n 0, 1) := by decide +kernel
theorem dX2_init_1 : decode cX2_init 1 = .ok (.invokespecial 3, 3) := by decide +kernel
theorem dX2_init_4 : decode cX2_init 4 = .ok (.aload_n 0, 1) := by decide +kernel
theorem dX2_init_5 : decode cX2_init 5 = .ok (.sipush 400, 3) := by decide +kernel
theorem dX2_init_8 : decode cX2_init 8 = .ok (.newarray .int, 2) := by decide +kernel
theorem dX2_init_10 : decode cX2_init 10 = .ok (.putfield 9, 3) := by decide +kernel
theorem dX2_init_13 : decode cX2_init 13 = .ok (.aload_n 0, 1) := by decide +kernel
theorem dX2_init_14 : decode cX2_init 14 = .ok (.sipush 400, 3) := by decide +kernel
theorem dX2_init_17 : decode cX2_init 17 = .ok (.newarray .int, 2) := by decide +kernel
theorem dX2_init_19 : decode cX2_init 19 = .ok (.putfield 15, 3) := by decide +kernel
theorem dX2_init_22 : decode cX2_init 22 = .ok (.aload_n 0, 1) := by decide +kernel
theorem dX2_init_23 : decode cX2_init 23 = .ok (.sipush 400, 3) := by decide +kernel
theorem dX2_init_26 : decode cX2_init 26 = .ok (.newarray .long, 2) := by decide +kernel
theorem dX2_init_28 : decode cX2_init 28 = .ok (.putfield 18, 3) := by decide +kernel
theorem dX2_init_31 : decode cX2_init 31 = .ok (.return_, 1) := by decide +kernel
theorem dX2_put_0 : decode cX2_put 0 = .ok (.aload_n 0, 1) := by decide +kernel
theorem dX2_put_1 : decode cX2_put 1 = .ok (.getfield 22, 3) := by decide +kernel
theorem dX2_put_4 : decode cX2_put 4 = .ok (.sipush 400, 3) := by decide +kernel
theorem dX2_put_7 : decode cX2_put 7 = .ok (.if_icmp .lt 4, 3) := by decide +kernel
theorem dX2_put_10 : decode cX2_put 10 = .ok (.return_, 1) := by decide +kernel
theorem dX2_put_11 : decode cX2_put 11 = .ok (.aload_n 0, 1) := by decide +kernel
theorem dX2_put_12 : decode cX2_put 12 = .ok (.getfield 9, 3) := by decide +kernel
theorem dX2_put_15 : decode cX2_put 15 = .ok (.aload_n 0, 1) := by decide +kernel
theorem dX2_put_16 : decode cX2_put 16 = .ok (.getfield 22, 3) := by decide +kernel
theorem dX2_put_19 : decode cX2_put 19 = .ok (.iload_n 1, 1) := by decide +kernel
theorem dX2_put_20 : decode cX2_put 20 = .ok (.iastore, 1) := by decide +kernel
theorem dX2_put_21 : decode cX2_put 21 = .ok (.aload_n 0, 1) := by decide +kernel
theorem dX2_put_22 : decode cX2_put 22 = .ok (.getfield 15, 3) := by decide +kernel
theorem dX2_put_25 : decode cX2_put 25 = .ok (.aload_n 0, 1) := by decide +kernel
theorem dX2_put_26 : decode cX2_put 26 = .ok (.getfield 22, 3) := by decide +kernel
theorem dX2_put_29 : decode cX2_put 29 = .ok (.iload_n 2, 1) := by decide +kernel
theorem dX2_put_30 : decode cX2_put 30 = .ok (.iastore, 1) := by decide +kernel
theorem dX2_put_31 : decode cX2_put 31 = .ok (.aload_n 0, 1) := by decide +kernel
theorem dX2_put_32 : decode cX2_put 32 = .ok (.getfield 18, 3) := by decide +kernel
theorem dX2_put_35 : decode cX2_put 35 = .ok (.aload_n 0, 1) := by decide +kernel
theorem dX2_put_36 : decode cX2_put 36 = .ok (.getfield 22, 3) := by decide +kernel
theorem dX2_put_39 : decode cX2_put 39 = .ok (.lload_n 3, 1) := by decide +kernel
theorem dX2_put_40 : decode cX2_put 40 = .ok (.lastore, 1) := by decide +kernel
theorem dX2_put_41 : decode cX2_put 41 = .ok (.aload_n 0, 1) := by decide +kernel
theorem dX2_put_42 : decode cX2_put 42 = .ok (.dup, 1) := by decide +kernel
theorem dX2_put_43 : decode cX2_put 43 = .ok (.getfield 22, 3) := by decide +kernel
theorem dX2_put_46 : decode cX2_put 46 = .ok (.iconst 1, 1) := by decide +kernel
theorem dX2_put_47 : decode cX2_put 47 = .ok (.iadd, 1) := by decide +kernel
theorem dX2_put_48 : decode cX2_put 48 = .ok (.putfield 22, 3) := by decide +kernel
theorem dX2_put_51 : decode cX2_put 51 = .ok (.return_, 1) := by decide +kernel
theorem dX3_init_0 : decode cX3_init 0 = .ok (.aload_n 0, 1) := by decide +kernel
theorem dX3_init_1 : decode cX3_init 1 = .ok (.invokespecial 3, 3) := by decide +kernel
theorem dX3_init_4 : decode cX3_init 4 = .ok (.aload_n 0, 1) := by decide +kernel
theorem dX3_init_5 : decode cX3_init 5 = .ok (.bipush 32, 2) := by decide +kernel
theorem dX3_init_7 : decode cX3_init 7 = .ok (.newarray .int, 2) := by decide +kernel
theorem dX3_init_9 : decode cX3_init 9 = .ok (.putfield 9, 3) := by decide +kernel
theorem dX3_init_12 : decode cX3_init 12 = .ok (.aload_n 0, 1) := by decide +kernel
theorem dX3_init_13 : decode cX3_init 13 = .ok (.bipush 32, 2) := by decide +kernel
theorem dX3_init_15 : decode cX3_init 15 = .ok (.newarray .int, 2) := by decide +kernel
theorem dX3_init_17 : decode cX3_init 17 = .ok (.putfield 15, 3) := by decide +kernel
theorem dX3_init_20 : decode cX3_init 20 = .ok (.aload_n 0, 1) := by decide +kernel
theorem dX3_init_21 : decode cX3_init 21 = .ok (.bipush 32, 2) := by decide +kernel
theorem dX3_init_23 : decode cX3_init 23 = .ok (.newarray .int, 2) := by decide +kernel
theorem dX3_init_25 : decode cX3_init 25 = .ok (.putfield 18, 3) := by decide +kernel
theorem dX3_init_28 : decode cX3_init 28 = .ok (.aload_n 0, 1) := by decide +kernel
theorem dX3_init_29 : decode cX3_init 29 = .ok (.bipush 32, 2) := by decide +kernel
theorem dX3_init_31 : decode cX3_init 31 = .ok (.newarray .int, 2) := by decide +kernel
theorem dX3_init_33 : decode cX3_init 33 = .ok (.putfield 21, 3) := by decide +kernel
theorem dX3_init_36 : decode cX3_init 36 = .ok (.aload_n 0, 1) := by decide +kernel
theorem dX3_init_37 : decode cX3_init 37 = .ok (.invokevirtual 24, 3) := by decide +kernel
theorem dX3_init_40 : decode cX3_init 40 = .ok (.return_, 1) := by decide +kernel
theorem dX3_begin_0 : decode cX3_begin 0 = .ok (.aload_n 0, 1) := by decide +kernel
theorem dX3_begin_1 : decode cX3_begin 1 = .ok (.iconst 0, 1) := by decide +kernel
theorem dX3_begin_2 : decode cX3_begin 2 = .ok (.putfield 27, 3) := by decide +kernel
theorem dX3_begin_5 : decode cX3_begin 5 = .ok (.aload_n 0, 1) := by decide +kernel
theorem dX3_begin_6 : decode cX3_begin 6 = .ok (.iconst 0, 1) := by decide +kernel
theorem dX3_begin_7 : decode cX3_begin 7 = .ok (.putfield 31, 3) := by decide +kernel
theorem dX3_begin_10 : decode cX3_begin 10 = .ok (.aload_n 0, 1) := by decide +kernel
theorem dX3_begin_11 : decode cX3_begin 11 = .ok (.bipush 8, 2) := by decide +kernel
theorem dX3_begin_13 : decode cX3_begin 13 = .ok (.iconst 4, 1) := by decide +kernel
theorem dX3_begin_14 : decode cX3_begin 14 = .ok (.invokevirtual 34, 3) := by decide +kernel
theorem dX3_begin_17 : decode cX3_begin 17 = .ok (.return_, 1) := by decide +kernel
theorem dX3_giveAllToOne_0 : decode cX3_giveAllToOne 0 = .ok (.aload_n 0, 1) := by decide +kernel
theorem dX3_giveAllToOne_1 : decode cX3_giveAllToOne 1 = .ok (.iload_n 1, 1) := by decide +kernel
theorem dX3_giveAllToOne_2 : decode cX3_giveAllToOne 2 = .ok (.putfield 38, 3) := by decide +kernel
theorem dX3_giveAllToOne_5 : decode cX3_giveAllToOne 5 = .ok (.aload_n 0, 1) := by decide +kernel
theorem dX3_giveAllToOne_6 : decode cX3_giveAllToOne 6 = .ok (.iload_n 2, 1) := by decide +kernel
theorem dX3_giveAllToOne_7 : decode cX3_giveAllToOne 7 = .ok (.putfield 41, 3) := by decide +kernel
theorem dX3_giveAllToOne_10 : decode cX3_giveAllToOne 10 = .ok (.aload_n 0, 1) := by decide +kernel
theorem dX3_giveAllToOne_11 : decode cX3_giveAllToOne 11 = .ok (.iconst 1, 1) := by decide +kernel
theorem dX3_giveAllToOne_12 : decode cX3_giveAllToOne 12 = .ok (.putfield 44, 3) := by decide +kernel
theorem dX3_giveAllToOne_15 : decode cX3_giveAllToOne 15 = .ok (.aload_n 0, 1) := by decide +kernel
theorem dX3_giveAllToOne_16 : decode cX3_giveAllToOne 16 = .ok (.getfield 9, 3) := by decide +kernel
theorem dX3_giveAllToOne_19 : decode cX3_giveAllToOne 19 = .ok (.iconst 0, 1) := by decide +kernel
theorem dX3_giveAllToOne_20 : decode cX3_giveAllToOne 20 = .ok (.invokestatic 47, 3) := by decide +kernel
theorem dX3_giveAllToOne_23 : decode cX3_giveAllToOne 23 = .ok (.aload_n 0, 1) := by decide +kernel
theorem dX3_giveAllToOne_24 : decode cX3_giveAllToOne 24 = .ok (.getfield 15, 3) := by decide +kernel
theorem dX3_giveAllToOne_27 : decode cX3_giveAllToOne 27 = .ok (.iconst 1, 1) := by decide +kernel
theorem dX3_giveAllToOne_28 : decode cX3_giveAllToOne 28 = .ok (.invokestatic 47, 3) := by decide +kernel
theorem dX3_giveAllToOne_31 : decode cX3_giveAllToOne 31 = .ok (.aload_n 0, 1) := by decide +kernel
theorem dX3_giveAllToOne_32 : decode cX3_giveAllToOne 32 = .ok (.getfield 18, 3) := by decide +kernel
theorem dX3_giveAllToOne_35 : decode cX3_giveAllToOne 35 = .ok (.iconst 0, 1) := by decide +kernel
theorem dX3_giveAllToOne_36 : decode cX3_giveAllToOne 36 = .ok (.invokestatic 47, 3) := by decide +kernel
theorem dX3_giveAllToOne_39 : decode cX3_giveAllToOne 39 = .ok (.return_, 1) := by decide +kernel
theorem dX3_groupOf_0 : decode cX3_groupOf 0 = .ok (.iload_n 1, 1) := by decide +kernel
theorem dX3_groupOf_1 : decode cX3_groupOf 1 = .ok (.ldc 53, 2) := by decide +kernel
theorem dX3_groupOf_3 : decode cX3_groupOf 3 = .ok (.imul, 1) := by decide +kernel
theorem dX3_groupOf_4 : decode cX3_groupOf 4 = .ok (.bipush 7, 2) := by decide +kernel
theorem dX3_groupOf_6 : decode cX3_groupOf 6 = .ok (.iload_n 1, 1) := by decide +kernel
theorem dX3_groupOf_7 : decode cX3_groupOf 7 = .ok (.imul, 1) := by decide +kernel
theorem dX3_groupOf_8 : decode cX3_groupOf 8 = .ok (.iadd, 1) := by decide +kernel
theorem dX3_groupOf_9 : decode cX3_groupOf 9 = .ok (.istore_n 2, 1) := by decide +kernel
theorem dX3_groupOf_10 : decode cX3_groupOf 10 = .ok (.iload_n 2, 1) := by decide +kernel
theorem dX3_groupOf_11 : decode cX3_groupOf 11 = .ok (.iload_n 2, 1) := by decide +kernel
theorem dX3_groupOf_12 : decode cX3_groupOf 12 = .ok (.bipush 15, 2) := by decide +kernel
theorem dX3_groupOf_14 : decode cX3_groupOf 14 = .ok (.iushr, 1) := by decide +kernel
theorem dX3_groupOf_15 : decode cX3_groupOf 15 = .ok (.ixor, 1) := by decide +kernel
theorem dX3_groupOf_16 : decode cX3_groupOf 16 = .ok (.istore_n 3, 1) := by decide +kernel
theorem dX3_groupOf_17 : decode cX3_groupOf 17 = .ok (.iload_n 3, 1) := by decide +kernel
theorem dX3_groupOf_18 : decode cX3_groupOf 18 = .ok (.iconst 1, 1) := by decide +kernel
theorem dX3_groupOf_19 : decode cX3_groupOf 19 = .ok (.iushr, 1) := by decide +kernel
theorem dX3_groupOf_20 : decode cX3_groupOf 20 = .ok (.aload_n 0, 1) := by decide +kernel
theorem dX3_groupOf_21 : decode cX3_groupOf 21 = .ok (.getfield 38, 3) := by decide +kernel
theorem dX3_groupOf_24 : decode cX3_groupOf 24 = .ok (.irem, 1) := by decide +kernel
theorem dX3_groupOf_25 : decode cX3_groupOf 25 = .ok (.ireturn, 1) := by decide +kernel
theorem dX3_follow_0 : decode cX3_follow 0 = .ok (.aload_n 0, 1) := by decide +kernel
theorem dX3_follow_1 : decode cX3_follow 1 = .ok (.iconst 0, 1) := by decide +kernel
theorem dX3_follow_2 : decode cX3_follow 2 = .ok (.putfield 31, 3) := by decide +kernel
theorem dX3_follow_5 : decode cX3_follow 5 = .ok (.iconst 0, 1) := by decide +kernel
theorem dX3_follow_6 : decode cX3_follow 6 = .ok (.istore_n 3, 1) := by decide +kernel
theorem dX3_follow_7 : decode cX3_follow 7 = .ok (.iload_n 3, 1) := by decide +kernel
theorem dX3_follow_8 : decode cX3_follow 8 = .ok (.aload_n 0, 1) := by decide +kernel
theorem dX3_follow_9 : decode cX3_follow 9 = .ok (.getfield 38, 3) := by decide +kernel
theorem dX3_follow_12 : decode cX3_follow 12 = .ok (.if_icmp .ge 70, 3) := by decide +kernel
theorem dX3_follow_15 : decode cX3_follow 15 = .ok (.aload_n 0, 1) := by decide +kernel
theorem dX3_follow_16 : decode cX3_follow 16 = .ok (.getfield 9, 3) := by decide +kernel
theorem dX3_follow_19 : decode cX3_follow 19 = .ok (.iload_n 3, 1) := by decide +kernel
theorem dX3_follow_20 : decode cX3_follow 20 = .ok (.iaload, 1) := by decide +kernel
theorem dX3_follow_21 : decode cX3_follow 21 = .ok (.aload_n 1, 1) := by decide +kernel
theorem dX3_follow_22 : decode cX3_follow 22 = .ok (.iload_n 3, 1) := by decide +kernel
theorem dX3_follow_23 : decode cX3_follow 23 = .ok (.iaload, 1) := by decide +kernel
theorem dX3_follow_24 : decode cX3_follow 24 = .ok (.if_icmp .eq 42, 3) := by decide +kernel
theorem dX3_follow_27 : decode cX3_follow 27 = .ok (.aload_n 0, 1) := by decide +kernel
theorem dX3_follow_28 : decode cX3_follow 28 = .ok (.getfield 9, 3) := by decide +kernel
theorem dX3_follow_31 : decode cX3_follow 31 = .ok (.iload_n 3, 1) := by decide +kernel
theorem dX3_follow_32 : decode cX3_follow 32 = .ok (.aload_n 1, 1) := by decide +kernel
theorem dX3_follow_33 : decode cX3_follow 33 = .ok (.iload_n 3, 1) := by decide +kernel
theorem dX3_follow_34 : decode cX3_follow 34 = .ok (.iaload, 1) := by decide +kernel
theorem dX3_follow_35 : decode cX3_follow 35 = .ok (.iastore, 1) := by decide +kernel
theorem dX3_follow_36 : decode cX3_follow 36 = .ok (.aload_n 0, 1) := by decide +kernel
theorem dX3_follow_37 : decode cX3_follow 37 = .ok (.getfield 15, 3) := by decide +kernel
theorem dX3_follow_40 : decode cX3_follow 40 = .ok (.iload_n 3, 1) := by decide +kernel
theorem dX3_follow_41 : decode cX3_follow 41 = .ok (.dup2, 1) := by decide +kernel
theorem dX3_follow_42 : decode cX3_follow 42 = .ok (.iaload, 1) := by decide +kernel
theorem dX3_follow_43 : decode cX3_follow 43 = .ok (.iconst 1, 1) := by decide +kernel
theorem dX3_follow_44 : decode cX3_follow 44 = .ok (.iadd, 1) := by decide +kernel
theorem dX3_follow_45 : decode cX3_follow 45 = .ok (.iastore, 1) := by decide +kernel
theorem dX3_follow_46 : decode cX3_follow 46 = .ok (.aload_n 0, 1) := by decide +kernel
theorem dX3_follow_47 : decode cX3_follow 47 = .ok (.getfield 21, 3) := by decide +kernel
theorem dX3_follow_50 : decode cX3_follow 50 = .ok (.aload_n 0, 1) := by decide +kernel
theorem dX3_follow_51 : decode cX3_follow 51 = .ok (.getfield 31, 3) := by decide +kernel
theorem dX3_follow_54 : decode cX3_follow 54 = .ok (.iload_n 3, 1) := by decide +kernel
theorem dX3_follow_55 : decode cX3_follow 55 = .ok (.iastore, 1) := by decide +kernel
theorem dX3_follow_56 : decode cX3_follow 56 = .ok (.aload_n 0, 1) := by decide +kernel
theorem dX3_follow_57 : decode cX3_follow 57 = .ok (.dup, 1) := by decide +kernel
theorem dX3_follow_58 : decode cX3_follow 58 = .ok (.getfield 31, 3) := by decide +kernel
theorem dX3_follow_61 : decode cX3_follow 61 = .ok (.iconst 1, 1) := by decide +kernel
theorem dX3_follow_62 : decode cX3_follow 62 = .ok (.iadd, 1) := by decide +kernel
theorem dX3_follow_63 : decode cX3_follow 63 = .ok (.putfield 31, 3) := by decide +kernel
theorem dX3_follow_66 : decode cX3_follow 66 = .ok (.aload_n 0, 1) := by decide +kernel
theorem dX3_follow_67 : decode cX3_follow 67 = .ok (.getfield 18, 3) := by decide +kernel
theorem dX3_follow_70 : decode cX3_follow 70 = .ok (.iload_n 3, 1) := by decide +kernel
theorem dX3_follow_71 : decode cX3_follow 71 = .ok (.dup2, 1) := by decide +kernel
theorem dX3_follow_72 : decode cX3_follow 72 = .ok (.iaload, 1) := by decide +kernel
theorem dX3_follow_73 : decode cX3_follow 73 = .ok (.iconst 2, 1) := by decide +kernel
theorem dX3_follow_74 : decode cX3_follow 74 = .ok (.idiv, 1) := by decide +kernel
theorem dX3_follow_75 : decode cX3_follow 75 = .ok (.iastore, 1) := by decide +kernel
theorem dX3_follow_76 : decode cX3_follow 76 = .ok (.iinc 3 1, 3) := by decide +kernel
theorem dX3_follow_79 : decode cX3_follow 79 = .ok (.goto (-72), 3) := by decide +kernel
theorem dX3_follow_82 : decode cX3_follow 82 = .ok (.aload_n 0, 1) := by decide +kernel
theorem dX3_follow_83 : decode cX3_follow 83 = .ok (.iload_n 2, 1) := by decide +kernel
theorem dX3_follow_84 : decode cX3_follow 84 = .ok (.putfield 44, 3) := by decide +kernel
theorem dX3_follow_87 : decode cX3_follow 87 = .ok (.aload_n 0, 1) := by decide +kernel
theorem dX3_follow_88 : decode cX3_follow 88 = .ok (.dup, 1) := by decide +kernel
theorem dX3_follow_89 : decode cX3_follow 89 = .ok (.getfield 27, 3) := by decide +kernel
theorem dX3_follow_92 : decode cX3_follow 92 = .ok (.iconst 1, 1) := by decide +kernel
theorem dX3_follow_93 : decode cX3_follow 93 = .ok (.iadd, 1) := by decide +kernel
theorem dX3_follow_94 : decode cX3_follow 94 = .ok (.putfield 27, 3) := by decide +kernel
theorem dX3_follow_97 : decode cX3_follow 97 = .ok (.aload_n 0, 1) := by decide +kernel
theorem dX3_follow_98 : decode cX3_follow 98 = .ok (.getfield 31, 3) := by decide +kernel
theorem dX3_follow_101 : decode cX3_follow 101 = .ok (.ireturn, 1) := by decide +kernel
theorem dX3_startAnew_0 : decode cX3_startAnew 0 = .ok (.iconst 0, 1) := by decide +kernel
theorem dX3_startAnew_1 : decode cX3_startAnew 1 = .ok (.istore_n 3, 1) := by decide +kernel
theorem dX3_startAnew_2 : decode cX3_startAnew 2 = .ok (.iload_n 3, 1) := by decide +kernel
theorem dX3_startAnew_3 : decode cX3_startAnew 3 = .ok (.aload_n 0, 1) := by decide +kernel
theorem dX3_startAnew_4 : decode cX3_startAnew 4 = .ok (.getfield 38, 3) := by decide +kernel
theorem dX3_startAnew_7 : decode cX3_startAnew 7 = .ok (.if_icmp .ge 35, 3) := by decide +kernel
theorem dX3_startAnew_10 : decode cX3_startAnew 10 = .ok (.aload_n 0, 1) := by decide +kernel
theorem dX3_startAnew_11 : decode cX3_startAnew 11 = .ok (.getfield 9, 3) := by decide +kernel
theorem dX3_startAnew_14 : decode cX3_startAnew 14 = .ok (.iload_n 3, 1) := by decide +kernel
theorem dX3_startAnew_15 : decode cX3_startAnew 15 = .ok (.aload_n 1, 1) := by decide +kernel
theorem dX3_startAnew_16 : decode cX3_startAnew 16 = .ok (.iload_n 3, 1) := by decide +kernel
theorem dX3_startAnew_17 : decode cX3_startAnew 17 = .ok (.iaload, 1) := by decide +kernel
theorem dX3_startAnew_18 : decode cX3_startAnew 18 = .ok (.iastore, 1) := by decide +kernel
theorem dX3_startAnew_19 : decode cX3_startAnew 19 = .ok (.aload_n 0, 1) := by decide +kernel
theorem dX3_startAnew_20 : decode cX3_startAnew 20 = .ok (.getfield 15, 3) := by decide +kernel
theorem dX3_startAnew_23 : decode cX3_startAnew 23 = .ok (.iload_n 3, 1) := by decide +kernel
theorem dX3_startAnew_24 : decode cX3_startAnew 24 = .ok (.dup2, 1) := by decide +kernel
theorem dX3_startAnew_25 : decode cX3_startAnew 25 = .ok (.iaload, 1) := by decide +kernel
theorem dX3_startAnew_26 : decode cX3_startAnew 26 = .ok (.iconst 1, 1) := by decide +kernel
theorem dX3_startAnew_27 : decode cX3_startAnew 27 = .ok (.iadd, 1) := by decide +kernel
theorem dX3_startAnew_28 : decode cX3_startAnew 28 = .ok (.iastore, 1) := by decide +kernel
theorem dX3_startAnew_29 : decode cX3_startAnew 29 = .ok (.aload_n 0, 1) := by decide +kernel
theorem dX3_startAnew_30 : decode cX3_startAnew 30 = .ok (.getfield 18, 3) := by decide +kernel
theorem dX3_startAnew_33 : decode cX3_startAnew 33 = .ok (.iload_n 3, 1) := by decide +kernel
theorem dX3_startAnew_34 : decode cX3_startAnew 34 = .ok (.iconst 0, 1) := by decide +kernel
theorem dX3_startAnew_35 : decode cX3_startAnew 35 = .ok (.iastore, 1) := by decide +kernel
theorem dX3_startAnew_36 : decode cX3_startAnew 36 = .ok (.iinc 3 1, 3) := by decide +kernel
theorem dX3_startAnew_39 : decode cX3_startAnew 39 = .ok (.goto (-37), 3) := by decide +kernel
theorem dX3_startAnew_42 : decode cX3_startAnew 42 = .ok (.aload_n 0, 1) := by decide +kernel
theorem dX3_startAnew_43 : decode cX3_startAnew 43 = .ok (.iload_n 2, 1) := by decide +kernel
theorem dX3_startAnew_44 : decode cX3_startAnew 44 = .ok (.putfield 44, 3) := by decide +kernel
theorem dX3_startAnew_47 : decode cX3_startAnew 47 = .ok (.return_, 1) := by decide +kernel
theorem dX3_totalWeight_0 : decode cX3_totalWeight 0 = .ok (.iconst 0, 1) := by decide +kernel
theorem dX3_totalWeight_1 : decode cX3_totalWeight 1 = .ok (.istore_n 1, 1) := by decide +kernel
theorem dX3_totalWeight_2 : decode cX3_totalWeight 2 = .ok (.iconst 0, 1) := by decide +kernel
theorem dX3_totalWeight_3 : decode cX3_totalWeight 3 = .ok (.istore_n 2, 1) := by decide +kernel
theorem dX3_totalWeight_4 : decode cX3_totalWeight 4 = .ok (.iload_n 2, 1) := by decide +kernel
theorem dX3_totalWeight_5 : decode cX3_totalWeight 5 = .ok (.aload_n 0, 1) := by decide +kernel
theorem dX3_totalWeight_6 : decode cX3_totalWeight 6 = .ok (.getfield 38, 3) := by decide +kernel
theorem dX3_totalWeight_9 : decode cX3_totalWeight 9 = .ok (.if_icmp .ge 18, 3) := by decide +kernel
theorem dX3_totalWeight_12 : decode cX3_totalWeight 12 = .ok (.iload_n 1, 1) := by decide +kernel
theorem dX3_totalWeight_13 : decode cX3_totalWeight 13 = .ok (.aload_n 0, 1) := by decide +kernel
theorem dX3_totalWeight_14 : decode cX3_totalWeight 14 = .ok (.getfield 18, 3) := by decide +kernel
theorem dX3_totalWeight_17 : decode cX3_totalWeight 17 = .ok (.iload_n 2, 1) := by decide +kernel
theorem dX3_totalWeight_18 : decode cX3_totalWeight 18 = .ok (.iaload, 1) := by decide +kernel
theorem dX3_totalWeight_19 : decode cX3_totalWeight 19 = .ok (.iadd, 1) := by decide +kernel
theorem dX3_totalWeight_20 : decode cX3_totalWeight 20 = .ok (.istore_n 1, 1) := by decide +kernel
theorem dX3_totalWeight_21 : decode cX3_totalWeight 21 = .ok (.iinc 2 1, 3) := by decide +kernel
theorem dX3_totalWeight_24 : decode cX3_totalWeight 24 = .ok (.goto (-20), 3) := by decide +kernel
theorem dX3_totalWeight_27 : decode cX3_totalWeight 27 = .ok (.iload_n 1, 1) := by decide +kernel
theorem dX3_totalWeight_28 : decode cX3_totalWeight 28 = .ok (.ireturn, 1) := by decide +kernel
theorem dX3_firstOf_0 : decode cX3_firstOf 0 = .ok (.iconst 0, 1) := by decide +kernel
theorem dX3_firstOf_1 : decode cX3_firstOf 1 = .ok (.istore_n 2, 1) := by decide +kernel
theorem dX3_firstOf_2 : decode cX3_firstOf 2 = .ok (.iload_n 2, 1) := by decide +kernel
theorem dX3_firstOf_3 : decode cX3_firstOf 3 = .ok (.aload_n 0, 1) := by decide +kernel
theorem dX3_firstOf_4 : decode cX3_firstOf 4 = .ok (.getfield 38, 3) := by decide +kernel
theorem dX3_firstOf_7 : decode cX3_firstOf 7 = .ok (.if_icmp .ge 21, 3) := by decide +kernel
theorem dX3_firstOf_10 : decode cX3_firstOf 10 = .ok (.aload_n 0, 1) := by decide +kernel
theorem dX3_firstOf_11 : decode cX3_firstOf 11 = .ok (.getfield 9, 3) := by decide +kernel
theorem dX3_firstOf_14 : decode cX3_firstOf 14 = .ok (.iload_n 2, 1) := by decide +kernel
theorem dX3_firstOf_15 : decode cX3_firstOf 15 = .ok (.iaload, 1) := by decide +kernel
theorem dX3_firstOf_16 : decode cX3_firstOf 16 = .ok (.iload_n 1, 1) := by decide +kernel
theorem dX3_firstOf_17 : decode cX3_firstOf 17 = .ok (.if_icmp .ne 5, 3) := by decide +kernel
theorem dX3_firstOf_20 : decode cX3_firstOf 20 = .ok (.iload_n 2, 1) := by decide +kernel
theorem dX3_firstOf_21 : decode cX3_firstOf 21 = .ok (.ireturn, 1) := by decide +kernel
theorem dX3_firstOf_22 : decode cX3_firstOf 22 = .ok (.iinc 2 1, 3) := by decide +kernel
theorem dX3_firstOf_25 : decode cX3_firstOf 25 = .ok (.goto (-23), 3) := by decide +kernel
theorem dX3_firstOf_28 : decode cX3_firstOf 28 = .ok (.bipush (-106), 2) := by decide +kernel
theorem dX3_firstOf_30 : decode cX3_firstOf 30 = .ok (.ireturn, 1) := by decide +kernel
theorem dX3_countOf_0 : decode cX3_countOf 0 = .ok (.iconst 0, 1) := by decide +kernel
theorem dX3_countOf_1 : decode cX3_countOf 1 = .ok (.istore_n 2, 1) := by decide +kernel
theorem dX3_countOf_2 : decode cX3_countOf 2 = .ok (.iconst 0, 1) := by decide +kernel
theorem dX3_countOf_3 : decode cX3_countOf 3 = .ok (.istore_n 3, 1) := by decide +kernel
theorem dX3_countOf_4 : decode cX3_countOf 4 = .ok (.iload_n 3, 1) := by decide +kernel
theorem dX3_countOf_5 : decode cX3_countOf 5 = .ok (.aload_n 0, 1) := by decide +kernel
theorem dX3_countOf_6 : decode cX3_countOf 6 = .ok (.getfield 38, 3) := by decide +kernel
theorem dX3_countOf_9 : decode cX3_countOf 9 = .ok (.if_icmp .ge 22, 3) := by decide +kernel
theorem dX3_countOf_12 : decode cX3_countOf 12 = .ok (.aload_n 0, 1) := by decide +kernel
theorem dX3_countOf_13 : decode cX3_countOf 13 = .ok (.getfield 9, 3) := by decide +kernel
theorem dX3_countOf_16 : decode cX3_countOf 16 = .ok (.iload_n 3, 1) := by decide +kernel
theorem dX3_countOf_17 : decode cX3_countOf 17 = .ok (.iaload, 1) := by decide +kernel
theorem dX3_countOf_18 : decode cX3_countOf 18 = .ok (.iload_n 1, 1) := by decide +kernel
theorem dX3_countOf_19 : decode cX3_countOf 19 = .ok (.if_icmp .ne 6, 3) := by decide +kernel
theorem dX3_countOf_22 : decode cX3_countOf 22 = .ok (.iinc 2 1, 3) := by decide +kernel
theorem dX3_countOf_25 : decode cX3_countOf 25 = .ok (.iinc 3 1, 3) := by decide +kernel
theorem dX3_countOf_28 : decode cX3_countOf 28 = .ok (.goto (-24), 3) := by decide +kernel
theorem dX3_countOf_31 : decode cX3_countOf 31 = .ok (.iload_n 2, 1) := by decide +kernel
theorem dX3_countOf_32 : decode cX3_countOf 32 = .ok (.ireturn, 1) := by decide +kernel
theorem dX3_weightOf_0 : decode cX3_weightOf 0 = .ok (.iconst 0, 1) := by decide +kernel
theorem dX3_weightOf_1 : decode cX3_weightOf 1 = .ok (.istore_n 2, 1) := by decide +kernel
theorem dX3_weightOf_2 : decode cX3_weightOf 2 = .ok (.iconst 0, 1) := by decide +kernel
theorem dX3_weightOf_3 : decode cX3_weightOf 3 = .ok (.istore_n 3, 1) := by decide +kernel
theorem dX3_weightOf_4 : decode cX3_weightOf 4 = .ok (.iload_n 3, 1) := by decide +kernel
theorem dX3_weightOf_5 : decode cX3_weightOf 5 = .ok (.aload_n 0, 1) := by decide +kernel
theorem dX3_weightOf_6 : decode cX3_weightOf 6 = .ok (.getfield 38, 3) := by decide +kernel
theorem dX3_weightOf_9 : decode cX3_weightOf 9 = .ok (.if_icmp .ge 28, 3) := by decide +kernel
theorem dX3_weightOf_12 : decode cX3_weightOf 12 = .ok (.aload_n 0, 1) := by decide +kernel
theorem dX3_weightOf_13 : decode cX3_weightOf 13 = .ok (.getfield 9, 3) := by decide +kernel
theorem dX3_weightOf_16 : decode cX3_weightOf 16 = .ok (.iload_n 3, 1) := by decide +kernel
theorem dX3_weightOf_17 : decode cX3_weightOf 17 = .ok (.iaload, 1) := by decide +kernel
theorem dX3_weightOf_18 : decode cX3_weightOf 18 = .ok (.iload_n 1, 1) := by decide +kernel
theorem dX3_weightOf_19 : decode cX3_weightOf 19 = .ok (.if_icmp .ne 12, 3) := by decide +kernel
theorem dX3_weightOf_22 : decode cX3_weightOf 22 = .ok (.iload_n 2, 1) := by decide +kernel
theorem dX3_weightOf_23 : decode cX3_weightOf 23 = .ok (.aload_n 0, 1) := by decide +kernel
theorem dX3_weightOf_24 : decode cX3_weightOf 24 = .ok (.getfield 18, 3) := by decide +kernel
theorem dX3_weightOf_27 : decode cX3_weightOf 27 = .ok (.iload_n 3, 1) := by decide +kernel
theorem dX3_weightOf_28 : decode cX3_weightOf 28 = .ok (.iaload, 1) := by decide +kernel
theorem dX3_weightOf_29 : decode cX3_weightOf 29 = .ok (.iadd, 1) := by decide +kernel
theorem dX3_weightOf_30 : decode cX3_weightOf 30 = .ok (.istore_n 2, 1) := by decide +kernel
theorem dX3_weightOf_31 : decode cX3_weightOf 31 = .ok (.iinc 3 1, 3) := by decide +kernel
theorem dX3_weightOf_34 : decode cX3_weightOf 34 = .ok (.goto (-30), 3) := by decide +kernel
theorem dX3_weightOf_37 : decode cX3_weightOf 37 = .ok (.iload_n 2, 1) := by decide +kernel
theorem dX3_weightOf_38 : decode cX3_weightOf 38 = .ok (.ireturn, 1) := by decide +kernel
theorem dX3_isHot_0 : decode cX3_isHot 0 = .ok (.aload_n 0, 1) := by decide +kernel
theorem dX3_isHot_1 : decode cX3_isHot 1 = .ok (.getfield 18, 3) := by decide +kernel
theorem dX3_isHot_4 : decode cX3_isHot 4 = .ok (.iload_n 1, 1) := by decide +kernel
theorem dX3_isHot_5 : decode cX3_isHot 5 = .ok (.iaload, 1) := by decide +kernel
theorem dX3_isHot_6 : decode cX3_isHot 6 = .ok (.aload_n 0, 1) := by decide +kernel
theorem dX3_isHot_7 : decode cX3_isHot 7 = .ok (.getfield 38, 3) := by decide +kernel
theorem dX3_isHot_10 : decode cX3_isHot 10 = .ok (.imul, 1) := by decide +kernel
theorem dX3_isHot_11 : decode cX3_isHot 11 = .ok (.iconst 2, 1) := by decide +kernel
theorem dX3_isHot_12 : decode cX3_isHot 12 = .ok (.iload_n 2, 1) := by decide +kernel
theorem dX3_isHot_13 : decode cX3_isHot 13 = .ok (.imul, 1) := by decide +kernel
theorem dX3_isHot_14 : decode cX3_isHot 14 = .ok (.if_icmp .le 7, 3) := by decide +kernel
theorem dX3_isHot_17 : decode cX3_isHot 17 = .ok (.iconst 1, 1) := by decide +kernel
theorem dX3_isHot_18 : decode cX3_isHot 18 = .ok (.goto 4, 3) := by decide +kernel
theorem dX3_isHot_21 : decode cX3_isHot 21 = .ok (.iconst 0, 1) := by decide +kernel
theorem dX3_isHot_22 : decode cX3_isHot 22 = .ok (.ireturn, 1) := by decide +kernel
theorem dX3_aheadOf_0 : decode cX3_aheadOf 0 = .ok (.iconst 0, 1) := by decide +kernel
theorem dX3_aheadOf_1 : decode cX3_aheadOf 1 = .ok (.istore_n 2, 1) := by decide +kernel
theorem dX3_aheadOf_2 : decode cX3_aheadOf 2 = .ok (.iconst 0, 1) := by decide +kernel
theorem dX3_aheadOf_3 : decode cX3_aheadOf 3 = .ok (.istore_n 3, 1) := by decide +kernel
theorem dX3_aheadOf_4 : decode cX3_aheadOf 4 = .ok (.iload_n 3, 1) := by decide +kernel
theorem dX3_aheadOf_5 : decode cX3_aheadOf 5 = .ok (.aload_n 0, 1) := by decide +kernel
theorem dX3_aheadOf_6 : decode cX3_aheadOf 6 = .ok (.getfield 38, 3) := by decide +kernel
theorem dX3_aheadOf_9 : decode cX3_aheadOf 9 = .ok (.if_icmp .ge 71, 3) := by decide +kernel
theorem dX3_aheadOf_12 : decode cX3_aheadOf 12 = .ok (.aload_n 0, 1) := by decide +kernel
theorem dX3_aheadOf_13 : decode cX3_aheadOf 13 = .ok (.getfield 18, 3) := by decide +kernel
theorem dX3_aheadOf_16 : decode cX3_aheadOf 16 = .ok (.iload_n 3, 1) := by decide +kernel
theorem dX3_aheadOf_17 : decode cX3_aheadOf 17 = .ok (.iaload, 1) := by decide +kernel
theorem dX3_aheadOf_18 : decode cX3_aheadOf 18 = .ok (.aload_n 0, 1) := by decide +kernel
theorem dX3_aheadOf_19 : decode cX3_aheadOf 19 = .ok (.getfield 18, 3) := by decide +kernel
theorem dX3_aheadOf_22 : decode cX3_aheadOf 22 = .ok (.iload_n 1, 1) := by decide +kernel
theorem dX3_aheadOf_23 : decode cX3_aheadOf 23 = .ok (.iaload, 1) := by decide +kernel
theorem dX3_aheadOf_24 : decode cX3_aheadOf 24 = .ok (.if_icmp .le 7, 3) := by decide +kernel
theorem dX3_aheadOf_27 : decode cX3_aheadOf 27 = .ok (.iconst 1, 1) := by decide +kernel
theorem dX3_aheadOf_28 : decode cX3_aheadOf 28 = .ok (.goto 4, 3) := by decide +kernel
theorem dX3_aheadOf_31 : decode cX3_aheadOf 31 = .ok (.iconst 0, 1) := by decide +kernel
theorem dX3_aheadOf_32 : decode cX3_aheadOf 32 = .ok (.istore 4, 2) := by decide +kernel
theorem dX3_aheadOf_34 : decode cX3_aheadOf 34 = .ok (.aload_n 0, 1) := by decide +kernel
theorem dX3_aheadOf_35 : decode cX3_aheadOf 35 = .ok (.getfield 18, 3) := by decide +kernel
theorem dX3_aheadOf_38 : decode cX3_aheadOf 38 = .ok (.iload_n 3, 1) := by decide +kernel
theorem dX3_aheadOf_39 : decode cX3_aheadOf 39 = .ok (.iaload, 1) := by decide +kernel
theorem dX3_aheadOf_40 : decode cX3_aheadOf 40 = .ok (.aload_n 0, 1) := by decide +kernel
theorem dX3_aheadOf_41 : decode cX3_aheadOf 41 = .ok (.getfield 18, 3) := by decide +kernel
theorem dX3_aheadOf_44 : decode cX3_aheadOf 44 = .ok (.iload_n 1, 1) := by decide +kernel
theorem dX3_aheadOf_45 : decode cX3_aheadOf 45 = .ok (.iaload, 1) := by decide +kernel
theorem dX3_aheadOf_46 : decode cX3_aheadOf 46 = .ok (.if_icmp .ne 12, 3) := by decide +kernel
theorem dX3_aheadOf_49 : decode cX3_aheadOf 49 = .ok (.iload_n 3, 1) := by decide +kernel
theorem dX3_aheadOf_50 : decode cX3_aheadOf 50 = .ok (.iload_n 1, 1) := by decide +kernel
theorem dX3_aheadOf_51 : decode cX3_aheadOf 51 = .ok (.if_icmp .ge 7, 3) := by decide +kernel
theorem dX3_aheadOf_54 : decode cX3_aheadOf 54 = .ok (.iconst 1, 1) := by decide +kernel
theorem dX3_aheadOf_55 : decode cX3_aheadOf 55 = .ok (.goto 4, 3) := by decide +kernel
theorem dX3_aheadOf_58 : decode cX3_aheadOf 58 = .ok (.iconst 0, 1) := by decide +kernel
theorem dX3_aheadOf_59 : decode cX3_aheadOf 59 = .ok (.istore 5, 2) := by decide +kernel
theorem dX3_aheadOf_61 : decode cX3_aheadOf 61 = .ok (.iload 4, 2) := by decide +kernel
theorem dX3_aheadOf_63 : decode cX3_aheadOf 63 = .ok (.ifCond .ne 8, 3) := by decide +kernel
theorem dX3_aheadOf_66 : decode cX3_aheadOf 66 = .ok (.iload 5, 2) := by decide +kernel
theorem dX3_aheadOf_68 : decode cX3_aheadOf 68 = .ok (.ifCond .eq 6, 3) := by decide +kernel
theorem dX3_aheadOf_71 : decode cX3_aheadOf 71 = .ok (.iinc 2 1, 3) := by decide +kernel
theorem dX3_aheadOf_74 : decode cX3_aheadOf 74 = .ok (.iinc 3 1, 3) := by decide +kernel
theorem dX3_aheadOf_77 : decode cX3_aheadOf 77 = .ok (.goto (-73), 3) := by decide +kernel
theorem dX3_aheadOf_80 : decode cX3_aheadOf 80 = .ok (.iload_n 2, 1) := by decide +kernel
theorem dX3_aheadOf_81 : decode cX3_aheadOf 81 = .ok (.ireturn, 1) := by decide +kernel
theorem dX3_costToGive_0 : decode cX3_costToGive 0 = .ok (.aload_n 0, 1) := by decide +kernel
theorem dX3_costToGive_1 : decode cX3_costToGive 1 = .ok (.getfield 9, 3) := by decide +kernel
theorem dX3_costToGive_4 : decode cX3_costToGive 4 = .ok (.iload_n 1, 1) := by decide +kernel
theorem dX3_costToGive_5 : decode cX3_costToGive 5 = .ok (.iaload, 1) := by decide +kernel
theorem dX3_costToGive_6 : decode cX3_costToGive 6 = .ok (.iload_n 2, 1) := by decide +kernel
theorem dX3_costToGive_7 : decode cX3_costToGive 7 = .ok (.if_icmp .ne 7, 3) := by decide +kernel
theorem dX3_costToGive_10 : decode cX3_costToGive 10 = .ok (.iconst 0, 1) := by decide +kernel
theorem dX3_costToGive_11 : decode cX3_costToGive 11 = .ok (.goto 11, 3) := by decide +kernel
theorem dX3_costToGive_14 : decode cX3_costToGive 14 = .ok (.aload_n 0, 1) := by decide +kernel
theorem dX3_costToGive_15 : decode cX3_costToGive 15 = .ok (.getfield 18, 3) := by decide +kernel
theorem dX3_costToGive_18 : decode cX3_costToGive 18 = .ok (.iload_n 1, 1) := by decide +kernel
theorem dX3_costToGive_19 : decode cX3_costToGive 19 = .ok (.iaload, 1) := by decide +kernel
theorem dX3_costToGive_20 : decode cX3_costToGive 20 = .ok (.iconst 1, 1) := by decide +kernel
theorem dX3_costToGive_21 : decode cX3_costToGive 21 = .ok (.iadd, 1) := by decide +kernel
theorem dX3_costToGive_22 : decode cX3_costToGive 22 = .ok (.ireturn, 1) := by decide +kernel
theorem dX4_init_0 : decode cX4_init 0 = .ok (.aload_n 0, 1) := by decide +kernel
theorem dX4_init_1 : decode cX4_init 1 = .ok (.invokespecial 3, 3) := by decide +kernel
theorem dX4_init_4 : decode cX4_init 4 = .ok (.aload_n 0, 1) := by decide +kernel
theorem dX4_init_5 : decode cX4_init 5 = .ok (.bipush 32, 2) := by decide +kernel
theorem dX4_init_7 : decode cX4_init 7 = .ok (.newarray .int, 2) := by decide +kernel
theorem dX4_init_9 : decode cX4_init 9 = .ok (.putfield 9, 3) := by decide +kernel
theorem dX4_init_12 : decode cX4_init 12 = .ok (.aload_n 0, 1) := by decide +kernel
theorem dX4_init_13 : decode cX4_init 13 = .ok (.bipush 33, 2) := by decide +kernel
theorem dX4_init_15 : decode cX4_init 15 = .ok (.newarray .int, 2) := by decide +kernel
theorem dX4_init_17 : decode cX4_init 17 = .ok (.putfield 15, 3) := by decide +kernel
theorem dX4_init_20 : decode cX4_init 20 = .ok (.aload_n 0, 1) := by decide +kernel
theorem dX4_init_21 : decode cX4_init 21 = .ok (.bipush 12, 2) := by decide +kernel
theorem dX4_init_23 : decode cX4_init 23 = .ok (.bipush 33, 2) := by decide +kernel
theorem dX4_init_25 : decode cX4_init 25 = .ok (.multianewarray 18 2, 4) := by decide +kernel
theorem dX4_init_29 : decode cX4_init 29 = .ok (.putfield 20, 3) := by decide +kernel
theorem dX4_init_32 : decode cX4_init 32 = .ok (.return_, 1) := by decide +kernel
theorem dX4_layEven_0 : decode cX4_layEven 0 = .ok (.iconst 0, 1) := by decide +kernel
theorem dX4_layEven_1 : decode cX4_layEven 1 = .ok (.istore_n 3, 1) := by decide +kernel
theorem dX4_layEven_2 : decode cX4_layEven 2 = .ok (.iload_n 3, 1) := by decide +kernel
theorem dX4_layEven_3 : decode cX4_layEven 3 = .ok (.iload_n 2, 1) := by decide +kernel
theorem dX4_layEven_4 : decode cX4_layEven 4 = .ok (.if_icmp .ge 26, 3) := by decide +kernel
theorem dX4_layEven_7 : decode cX4_layEven 7 = .ok (.aload_n 0, 1) := by decide +kernel
theorem dX4_layEven_8 : decode cX4_layEven 8 = .ok (.iload_n 3, 1) := by decide +kernel
theorem dX4_layEven_9 : decode cX4_layEven 9 = .ok (.iload_n 3, 1) := by decide +kernel
theorem dX4_layEven_10 : decode cX4_layEven 10 = .ok (.iload_n 1, 1) := by decide +kernel
theorem dX4_layEven_11 : decode cX4_layEven 11 = .ok (.imul, 1) := by decide +kernel
theorem dX4_layEven_12 : decode cX4_layEven 12 = .ok (.iload_n 2, 1) := by decide +kernel
theorem dX4_layEven_13 : decode cX4_layEven 13 = .ok (.idiv, 1) := by decide +kernel
theorem dX4_layEven_14 : decode cX4_layEven 14 = .ok (.iload_n 3, 1) := by decide +kernel
theorem dX4_layEven_15 : decode cX4_layEven 15 = .ok (.iconst 1, 1) := by decide +kernel
theorem dX4_layEven_16 : decode cX4_layEven 16 = .ok (.iadd, 1) := by decide +kernel
theorem dX4_layEven_17 : decode cX4_layEven 17 = .ok (.iload_n 1, 1) := by decide +kernel
theorem dX4_layEven_18 : decode cX4_layEven 18 = .ok (.imul, 1) := by decide +kernel
theorem dX4_layEven_19 : decode cX4_layEven 19 = .ok (.iload_n 2, 1) := by decide +kernel
theorem dX4_layEven_20 : decode cX4_layEven 20 = .ok (.idiv, 1) := by decide +kernel
theorem dX4_layEven_21 : decode cX4_layEven 21 = .ok (.invokevirtual 23, 3) := by decide +kernel
theorem dX4_layEven_24 : decode cX4_layEven 24 = .ok (.iinc 3 1, 3) := by decide +kernel
theorem dX4_layEven_27 : decode cX4_layEven 27 = .ok (.goto (-25), 3) := by decide +kernel
theorem dX4_layEven_30 : decode cX4_layEven 30 = .ok (.return_, 1) := by decide +kernel
theorem dX4_layLeast_0 : decode cX4_layLeast 0 = .ok (.aload_n 1, 1) := by decide +kernel
theorem dX4_layLeast_1 : decode cX4_layLeast 1 = .ok (.invokevirtual 27, 3) := by decide +kernel
theorem dX4_layLeast_4 : decode cX4_layLeast 4 = .ok (.iload_n 3, 1) := by decide +kernel
theorem dX4_layLeast_5 : decode cX4_layLeast 5 = .ok (.iload_n 2, 1) := by decide +kernel
theorem dX4_layLeast_6 : decode cX4_layLeast 6 = .ok (.invokestatic 33, 3) := by decide +kernel
theorem dX4_layLeast_9 : decode cX4_layLeast 9 = .ok (.istore 4, 2) := by decide +kernel
theorem dX4_layLeast_11 : decode cX4_layLeast 11 = .ok (.aload_n 0, 1) := by decide +kernel
theorem dX4_layLeast_12 : decode cX4_layLeast 12 = .ok (.getfield 15, 3) := by decide +kernel
theorem dX4_layLeast_15 : decode cX4_layLeast 15 = .ok (.ldc 37, 2) := by decide +kernel
theorem dX4_layLeast_17 : decode cX4_layLeast 17 = .ok (.invokestatic 38, 3) := by decide +kernel
theorem dX4_layLeast_20 : decode cX4_layLeast 20 = .ok (.aload_n 0, 1) := by decide +kernel
theorem dX4_layLeast_21 : decode cX4_layLeast 21 = .ok (.getfield 15, 3) := by decide +kernel
theorem dX4_layLeast_24 : decode cX4_layLeast 24 = .ok (.aload_n 1, 1) := by decide +kernel
theorem dX4_layLeast_25 : decode cX4_layLeast 25 = .ok (.getfield 44, 3) := by decide +kernel
theorem dX4_layLeast_28 : decode cX4_layLeast 28 = .ok (.iconst 0, 1) := by decide +kernel
theorem dX4_layLeast_29 : decode cX4_layLeast 29 = .ok (.iastore, 1) := by decide +kernel
theorem dX4_layLeast_30 : decode cX4_layLeast 30 = .ok (.iload_n 2, 1) := by decide +kernel
theorem dX4_layLeast_31 : decode cX4_layLeast 31 = .ok (.iconst 1, 1) := by decide +kernel
theorem dX4_layLeast_32 : decode cX4_layLeast 32 = .ok (.isub, 1) := by decide +kernel
theorem dX4_layLeast_33 : decode cX4_layLeast 33 = .ok (.istore 5, 2) := by decide +kernel
theorem dX4_layLeast_35 : decode cX4_layLeast 35 = .ok (.iload 5, 2) := by decide +kernel
theorem dX4_layLeast_37 : decode cX4_layLeast 37 = .ok (.ifCond .lt 18, 3) := by decide +kernel
theorem dX4_layLeast_40 : decode cX4_layLeast 40 = .ok (.aload_n 0, 1) := by decide +kernel
theorem dX4_layLeast_41 : decode cX4_layLeast 41 = .ok (.aload_n 1, 1) := by decide +kernel
theorem dX4_layLeast_42 : decode cX4_layLeast 42 = .ok (.iload 5, 2) := by decide +kernel
theorem dX4_layLeast_44 : decode cX4_layLeast 44 = .ok (.iload 4, 2) := by decide +kernel
theorem dX4_layLeast_46 : decode cX4_layLeast 46 = .ok (.invokevirtual 48, 3) := by decide +kernel
theorem dX4_layLeast_49 : decode cX4_layLeast 49 = .ok (.iinc 5 (-1), 3) := by decide +kernel
theorem dX4_layLeast_52 : decode cX4_layLeast 52 = .ok (.goto (-17), 3) := by decide +kernel
theorem dX4_layLeast_55 : decode cX4_layLeast 55 = .ok (.aload_n 0, 1) := by decide +kernel
theorem dX4_layLeast_56 : decode cX4_layLeast 56 = .ok (.getfield 15, 3) := by decide +kernel
theorem dX4_layLeast_59 : decode cX4_layLeast 59 = .ok (.iconst 0, 1) := by decide +kernel
theorem dX4_layLeast_60 : decode cX4_layLeast 60 = .ok (.iaload, 1) := by decide +kernel
theorem dX4_layLeast_61 : decode cX4_layLeast 61 = .ok (.ldc 37, 2) := by decide +kernel
theorem dX4_layLeast_63 : decode cX4_layLeast 63 = .ok (.if_icmp .lt 5, 3) := by decide +kernel
theorem dX4_layLeast_66 : decode cX4_layLeast 66 = .ok (.iconst (-1), 1) := by decide +kernel
theorem dX4_layLeast_67 : decode cX4_layLeast 67 = .ok (.ireturn, 1) := by decide +kernel
theorem dX4_layLeast_68 : decode cX4_layLeast 68 = .ok (.aload_n 0, 1) := by decide +kernel
theorem dX4_layLeast_69 : decode cX4_layLeast 69 = .ok (.iload_n 2, 1) := by decide +kernel
theorem dX4_layLeast_70 : decode cX4_layLeast 70 = .ok (.invokevirtual 52, 3) := by decide +kernel
theorem dX4_layLeast_73 : decode cX4_layLeast 73 = .ok (.aload_n 0, 1) := by decide +kernel
theorem dX4_layLeast_74 : decode cX4_layLeast 74 = .ok (.getfield 15, 3) := by decide +kernel
theorem dX4_layLeast_77 : decode cX4_layLeast 77 = .ok (.iconst 0, 1) := by decide +kernel
theorem dX4_layLeast_78 : decode cX4_layLeast 78 = .ok (.iaload, 1) := by decide +kernel
theorem dX4_layLeast_79 : decode cX4_layLeast 79 = .ok (.ireturn, 1) := by decide +kernel
theorem dX4_limitOf_0 : decode cX4_limitOf 0 = .ok (.bipush 100, 2) := by decide +kernel
theorem dX4_limitOf_2 : decode cX4_limitOf 2 = .ok (.iload_n 2, 1) := by decide +kernel
theorem dX4_limitOf_3 : decode cX4_limitOf 3 = .ok (.imul, 1) := by decide +kernel
theorem dX4_limitOf_4 : decode cX4_limitOf 4 = .ok (.istore_n 3, 1) := by decide +kernel
theorem dX4_limitOf_5 : decode cX4_limitOf 5 = .ok (.iload_n 0, 1) := by decide +kernel
theorem dX4_limitOf_6 : decode cX4_limitOf 6 = .ok (.bipush 100, 2) := by decide +kernel
theorem dX4_limitOf_8 : decode cX4_limitOf 8 = .ok (.iload_n 1, 1) := by decide +kernel
theorem dX4_limitOf_9 : decode cX4_limitOf 9 = .ok (.iadd, 1) := by decide +kernel
theorem dX4_limitOf_10 : decode cX4_limitOf 10 = .ok (.imul, 1) := by decide +kernel
theorem dX4_limitOf_11 : decode cX4_limitOf 11 = .ok (.iload_n 3, 1) := by decide +kernel
theorem dX4_limitOf_12 : decode cX4_limitOf 12 = .ok (.iadd, 1) := by decide +kernel
theorem dX4_limitOf_13 : decode cX4_limitOf 13 = .ok (.iconst 1, 1) := by decide +kernel
theorem dX4_limitOf_14 : decode cX4_limitOf 14 = .ok (.isub, 1) := by decide +kernel
theorem dX4_limitOf_15 : decode cX4_limitOf 15 = .ok (.iload_n 3, 1) := by decide +kernel
theorem dX4_limitOf_16 : decode cX4_limitOf 16 = .ok (.idiv, 1) := by decide +kernel
theorem dX4_limitOf_17 : decode cX4_limitOf 17 = .ok (.ireturn, 1) := by decide +kernel
theorem dX4_putTaskAhead_0 : decode cX4_putTaskAhead 0 = .ok (.iconst 0, 1) := by decide +kernel
theorem dX4_putTaskAhead_1 : decode cX4_putTaskAhead 1 = .ok (.istore 4, 2) := by decide +kernel
theorem dX4_putTaskAhead_3 : decode cX4_putTaskAhead 3 = .ok (.iload 4, 2) := by decide +kernel
theorem dX4_putTaskAhead_5 : decode cX4_putTaskAhead 5 = .ok (.aload_n 1, 1) := by decide +kernel
theorem dX4_putTaskAhead_6 : decode cX4_putTaskAhead 6 = .ok (.getfield 44, 3) := by decide +kernel
theorem dX4_putTaskAhead_9 : decode cX4_putTaskAhead 9 = .ok (.if_icmp .gt 25, 3) := by decide +kernel
theorem dX4_putTaskAhead_12 : decode cX4_putTaskAhead 12 = .ok (.aload_n 0, 1) := by decide +kernel
theorem dX4_putTaskAhead_13 : decode cX4_putTaskAhead 13 = .ok (.getfield 15, 3) := by decide +kernel
theorem dX4_putTaskAhead_16 : decode cX4_putTaskAhead 16 = .ok (.iload 4, 2) := by decide +kernel
theorem dX4_putTaskAhead_18 : decode cX4_putTaskAhead 18 = .ok (.aload_n 0, 1) := by decide +kernel
theorem dX4_putTaskAhead_19 : decode cX4_putTaskAhead 19 = .ok (.aload_n 1, 1) := by decide +kernel
theorem dX4_putTaskAhead_20 : decode cX4_putTaskAhead 20 = .ok (.iload_n 2, 1) := by decide +kernel
theorem dX4_putTaskAhead_21 : decode cX4_putTaskAhead 21 = .ok (.iload 4, 2) := by decide +kernel
theorem dX4_putTaskAhead_23 : decode cX4_putTaskAhead 23 = .ok (.iload_n 3, 1) := by decide +kernel
theorem dX4_putTaskAhead_24 : decode cX4_putTaskAhead 24 = .ok (.invokevirtual 56, 3) := by decide +kernel
theorem dX4_putTaskAhead_27 : decode cX4_putTaskAhead 27 = .ok (.iastore, 1) := by decide +kernel
theorem dX4_putTaskAhead_28 : decode cX4_putTaskAhead 28 = .ok (.iinc 4 1, 3) := by decide +kernel
theorem dX4_putTaskAhead_31 : decode cX4_putTaskAhead 31 = .ok (.goto (-28), 3) := by decide +kernel
theorem dX4_putTaskAhead_34 : decode cX4_putTaskAhead 34 = .ok (.return_, 1) := by decide +kernel
theorem dX4_chooseEnd_0 : decode cX4_chooseEnd 0 = .ok (.ldc 37, 2) := by decide +kernel
theorem dX4_chooseEnd_2 : decode cX4_chooseEnd 2 = .ok (.istore 5, 2) := by decide +kernel
theorem dX4_chooseEnd_4 : decode cX4_chooseEnd 4 = .ok (.iconst 0, 1) := by decide +kernel
theorem dX4_chooseEnd_5 : decode cX4_chooseEnd 5 = .ok (.istore 6, 2) := by decide +kernel
theorem dX4_chooseEnd_7 : decode cX4_chooseEnd 7 = .ok (.iconst 0, 1) := by decide +kernel
theorem dX4_chooseEnd_8 : decode cX4_chooseEnd 8 = .ok (.istore 7, 2) := by decide +kernel
theorem dX4_chooseEnd_10 : decode cX4_chooseEnd 10 = .ok (.iload_n 3, 1) := by decide +kernel
theorem dX4_chooseEnd_11 : decode cX4_chooseEnd 11 = .ok (.istore 8, 2) := by decide +kernel
theorem dX4_chooseEnd_13 : decode cX4_chooseEnd 13 = .ok (.iload 8, 2) := by decide +kernel
theorem dX4_chooseEnd_15 : decode cX4_chooseEnd 15 = .ok (.aload_n 1, 1) := by decide +kernel
theorem dX4_chooseEnd_16 : decode cX4_chooseEnd 16 = .ok (.getfield 44, 3) := by decide +kernel
theorem dX4_chooseEnd_19 : decode cX4_chooseEnd 19 = .ok (.if_icmp .ge 86, 3) := by decide +kernel
theorem dX4_chooseEnd_22 : decode cX4_chooseEnd 22 = .ok (.iload 6, 2) := by decide +kernel
theorem dX4_chooseEnd_24 : decode cX4_chooseEnd 24 = .ok (.aload_n 1, 1) := by decide +kernel
theorem dX4_chooseEnd_25 : decode cX4_chooseEnd 25 = .ok (.getfield 60, 3) := by decide +kernel
theorem dX4_chooseEnd_28 : decode cX4_chooseEnd 28 = .ok (.iload 8, 2) := by decide +kernel
theorem dX4_chooseEnd_30 : decode cX4_chooseEnd 30 = .ok (.iaload, 1) := by decide +kernel
theorem dX4_chooseEnd_31 : decode cX4_chooseEnd 31 = .ok (.iadd, 1) := by decide +kernel
theorem dX4_chooseEnd_32 : decode cX4_chooseEnd 32 = .ok (.istore 6, 2) := by decide +kernel
theorem dX4_chooseEnd_34 : decode cX4_chooseEnd 34 = .ok (.iload 6, 2) := by decide +kernel
theorem dX4_chooseEnd_36 : decode cX4_chooseEnd 36 = .ok (.iload 4, 2) := by decide +kernel
theorem dX4_chooseEnd_38 : decode cX4_chooseEnd 38 = .ok (.if_icmp .le 6, 3) := by decide +kernel
theorem dX4_chooseEnd_41 : decode cX4_chooseEnd 41 = .ok (.goto 64, 3) := by decide +kernel
theorem dX4_chooseEnd_44 : decode cX4_chooseEnd 44 = .ok (.iload 7, 2) := by decide +kernel
theorem dX4_chooseEnd_46 : decode cX4_chooseEnd 46 = .ok (.aload_n 1, 1) := by decide +kernel
theorem dX4_chooseEnd_47 : decode cX4_chooseEnd 47 = .ok (.iload 8, 2) := by decide +kernel
theorem dX4_chooseEnd_49 : decode cX4_chooseEnd 49 = .ok (.iload_n 2, 1) := by decide +kernel
theorem dX4_chooseEnd_50 : decode cX4_chooseEnd 50 = .ok (.invokevirtual 63, 3) := by decide +kernel
theorem dX4_chooseEnd_53 : decode cX4_chooseEnd 53 = .ok (.iadd, 1) := by decide +kernel
theorem dX4_chooseEnd_54 : decode cX4_chooseEnd 54 = .ok (.istore 7, 2) := by decide +kernel
theorem dX4_chooseEnd_56 : decode cX4_chooseEnd 56 = .ok (.iload 7, 2) := by decide +kernel
theorem dX4_chooseEnd_58 : decode cX4_chooseEnd 58 = .ok (.aload_n 0, 1) := by decide +kernel
theorem dX4_chooseEnd_59 : decode cX4_chooseEnd 59 = .ok (.getfield 15, 3) := by decide +kernel
theorem dX4_chooseEnd_62 : decode cX4_chooseEnd 62 = .ok (.iload 8, 2) := by decide +kernel
theorem dX4_chooseEnd_64 : decode cX4_chooseEnd 64 = .ok (.iconst 1, 1) := by decide +kernel
theorem dX4_chooseEnd_65 : decode cX4_chooseEnd 65 = .ok (.iadd, 1) := by decide +kernel
theorem dX4_chooseEnd_66 : decode cX4_chooseEnd 66 = .ok (.iaload, 1) := by decide +kernel
theorem dX4_chooseEnd_67 : decode cX4_chooseEnd 67 = .ok (.iadd, 1) := by decide +kernel
theorem dX4_chooseEnd_68 : decode cX4_chooseEnd 68 = .ok (.iload 5, 2) := by decide +kernel
theorem dX4_chooseEnd_70 : decode cX4_chooseEnd 70 = .ok (.if_icmp .ge 29, 3) := by decide +kernel
theorem dX4_chooseEnd_73 : decode cX4_chooseEnd 73 = .ok (.iload 7, 2) := by decide +kernel
theorem dX4_chooseEnd_75 : decode cX4_chooseEnd 75 = .ok (.aload_n 0, 1) := by decide +kernel
theorem dX4_chooseEnd_76 : decode cX4_chooseEnd 76 = .ok (.getfield 15, 3) := by decide +kernel
theorem dX4_chooseEnd_79 : decode cX4_chooseEnd 79 = .ok (.iload 8, 2) := by decide +kernel
theorem dX4_chooseEnd_81 : decode cX4_chooseEnd 81 = .ok (.iconst 1, 1) := by decide +kernel
theorem dX4_chooseEnd_82 : decode cX4_chooseEnd 82 = .ok (.iadd, 1) := by decide +kernel
theorem dX4_chooseEnd_83 : decode cX4_chooseEnd 83 = .ok (.iaload, 1) := by decide +kernel
theorem dX4_chooseEnd_84 : decode cX4_chooseEnd 84 = .ok (.iadd, 1) := by decide +kernel
theorem dX4_chooseEnd_85 : decode cX4_chooseEnd 85 = .ok (.istore 5, 2) := by decide +kernel
theorem dX4_chooseEnd_87 : decode cX4_chooseEnd 87 = .ok (.aload_n 0, 1) := by decide +kernel
theorem dX4_chooseEnd_88 : decode cX4_chooseEnd 88 = .ok (.getfield 20, 3) := by decide +kernel
theorem dX4_chooseEnd_91 : decode cX4_chooseEnd 91 = .ok (.iload_n 2, 1) := by decide +kernel
theorem dX4_chooseEnd_92 : decode cX4_chooseEnd 92 = .ok (.aaload, 1) := by decide +kernel
theorem dX4_chooseEnd_93 : decode cX4_chooseEnd 93 = .ok (.iload_n 3, 1) := by decide +kernel
theorem dX4_chooseEnd_94 : decode cX4_chooseEnd 94 = .ok (.iload 8, 2) := by decide +kernel
theorem dX4_chooseEnd_96 : decode cX4_chooseEnd 96 = .ok (.iconst 1, 1) := by decide +kernel
theorem dX4_chooseEnd_97 : decode cX4_chooseEnd 97 = .ok (.iadd, 1) := by decide +kernel
theorem dX4_chooseEnd_98 : decode cX4_chooseEnd 98 = .ok (.iastore, 1) := by decide +kernel
theorem dX4_chooseEnd_99 : decode cX4_chooseEnd 99 = .ok (.iinc 8 1, 3) := by decide +kernel
theorem dX4_chooseEnd_102 : decode cX4_chooseEnd 102 = .ok (.goto (-89), 3) := by decide +kernel
theorem dX4_chooseEnd_105 : decode cX4_chooseEnd 105 = .ok (.iload 5, 2) := by decide +kernel
theorem dX4_chooseEnd_107 : decode cX4_chooseEnd 107 = .ok (.ireturn, 1) := by decide +kernel
theorem dX4_layChosen_0 : decode cX4_layChosen 0 = .ok (.iconst 0, 1) := by decide +kernel
theorem dX4_layChosen_1 : decode cX4_layChosen 1 = .ok (.istore_n 2, 1) := by decide +kernel
theorem dX4_layChosen_2 : decode cX4_layChosen 2 = .ok (.iconst 0, 1) := by decide +kernel
theorem dX4_layChosen_3 : decode cX4_layChosen 3 = .ok (.istore_n 3, 1) := by decide +kernel
theorem dX4_layChosen_4 : decode cX4_layChosen 4 = .ok (.iload_n 3, 1) := by decide +kernel
theorem dX4_layChosen_5 : decode cX4_layChosen 5 = .ok (.iload_n 1, 1) := by decide +kernel
theorem dX4_layChosen_6 : decode cX4_layChosen 6 = .ok (.if_icmp .ge 30, 3) := by decide +kernel
theorem dX4_layChosen_9 : decode cX4_layChosen 9 = .ok (.aload_n 0, 1) := by decide +kernel
theorem dX4_layChosen_10 : decode cX4_layChosen 10 = .ok (.getfield 20, 3) := by decide +kernel
theorem dX4_layChosen_13 : decode cX4_layChosen 13 = .ok (.iload_n 3, 1) := by decide +kernel
theorem dX4_layChosen_14 : decode cX4_layChosen 14 = .ok (.aaload, 1) := by decide +kernel
theorem dX4_layChosen_15 : decode cX4_layChosen 15 = .ok (.iload_n 2, 1) := by decide +kernel
theorem dX4_layChosen_16 : decode cX4_layChosen 16 = .ok (.iaload, 1) := by decide +kernel
theorem dX4_layChosen_17 : decode cX4_layChosen 17 = .ok (.istore 4, 2) := by decide +kernel
theorem dX4_layChosen_19 : decode cX4_layChosen 19 = .ok (.aload_n 0, 1) := by decide +kernel
theorem dX4_layChosen_20 : decode cX4_layChosen 20 = .ok (.iload_n 3, 1) := by decide +kernel
theorem dX4_layChosen_21 : decode cX4_layChosen 21 = .ok (.iload_n 2, 1) := by decide +kernel
theorem dX4_layChosen_22 : decode cX4_layChosen 22 = .ok (.iload 4, 2) := by decide +kernel
theorem dX4_layChosen_24 : decode cX4_layChosen 24 = .ok (.invokevirtual 23, 3) := by decide +kernel
theorem dX4_layChosen_27 : decode cX4_layChosen 27 = .ok (.iload 4, 2) := by decide +kernel
theorem dX4_layChosen_29 : decode cX4_layChosen 29 = .ok (.istore_n 2, 1) := by decide +kernel
theorem dX4_layChosen_30 : decode cX4_layChosen 30 = .ok (.iinc 3 1, 3) := by decide +kernel
theorem dX4_layChosen_33 : decode cX4_layChosen 33 = .ok (.goto (-29), 3) := by decide +kernel
theorem dX4_layChosen_36 : decode cX4_layChosen 36 = .ok (.return_, 1) := by decide +kernel
theorem dX4_layRange_0 : decode cX4_layRange 0 = .ok (.iload_n 2, 1) := by decide +kernel
theorem dX4_layRange_1 : decode cX4_layRange 1 = .ok (.istore 4, 2) := by decide +kernel
theorem dX4_layRange_3 : decode cX4_layRange 3 = .ok (.iload 4, 2) := by decide +kernel
theorem dX4_layRange_5 : decode cX4_layRange 5 = .ok (.iload_n 3, 1) := by decide +kernel
theorem dX4_layRange_6 : decode cX4_layRange 6 = .ok (.if_icmp .ge 17, 3) := by decide +kernel
theorem dX4_layRange_9 : decode cX4_layRange 9 = .ok (.aload_n 0, 1) := by decide +kernel
theorem dX4_layRange_10 : decode cX4_layRange 10 = .ok (.getfield 9, 3) := by decide +kernel
theorem dX4_layRange_13 : decode cX4_layRange 13 = .ok (.iload 4, 2) := by decide +kernel
theorem dX4_layRange_15 : decode cX4_layRange 15 = .ok (.iload_n 1, 1) := by decide +kernel
theorem dX4_layRange_16 : decode cX4_layRange 16 = .ok (.iastore, 1) := by decide +kernel
theorem dX4_layRange_17 : decode cX4_layRange 17 = .ok (.iinc 4 1, 3) := by decide +kernel
theorem dX4_layRange_20 : decode cX4_layRange 20 = .ok (.goto (-17), 3) := by decide +kernel
theorem dX4_layRange_23 : decode cX4_layRange 23 = .ok (.return_, 1) := by decide +kernel
theorem dX5_init_0 : decode cX5_init 0 = .ok (.aload_n 0, 1) := by decide +kernel
theorem dX5_init_1 : decode cX5_init 1 = .ok (.invokespecial 3, 3) := by decide +kernel
theorem dX5_init_4 : decode cX5_init 4 = .ok (.aload_n 0, 1) := by decide +kernel
theorem dX5_init_5 : decode cX5_init 5 = .ok (.sipush 400, 3) := by decide +kernel
theorem dX5_init_8 : decode cX5_init 8 = .ok (.newarray .int, 2) := by decide +kernel
theorem dX5_init_10 : decode cX5_init 10 = .ok (.putfield 9, 3) := by decide +kernel
theorem dX5_init_13 : decode cX5_init 13 = .ok (.aload_n 0, 1) := by decide +kernel
theorem dX5_init_14 : decode cX5_init 14 = .ok (.sipush 400, 3) := by decide +kernel
theorem dX5_init_17 : decode cX5_init 17 = .ok (.newarray .int, 2) := by decide +kernel
theorem dX5_init_19 : decode cX5_init 19 = .ok (.putfield 15, 3) := by decide +kernel
theorem dX5_init_22 : decode cX5_init 22 = .ok (.aload_n 0, 1) := by decide +kernel
theorem dX5_init_23 : decode cX5_init 23 = .ok (.sipush 400, 3) := by decide +kernel
theorem dX5_init_26 : decode cX5_init 26 = .ok (.newarray .int, 2) := by decide +kernel
theorem dX5_init_28 : decode cX5_init 28 = .ok (.putfield 18, 3) := by decide +kernel
theorem dX5_init_31 : decode cX5_init 31 = .ok (.return_, 1) := by decide +kernel
theorem dX5_begin_0 : decode cX5_begin 0 = .ok (.aload_n 0, 1) := by decide +kernel
theorem dX5_begin_1 : decode cX5_begin 1 = .ok (.iconst 0, 1) := by decide +kernel
theorem dX5_begin_2 : decode cX5_begin 2 = .ok (.putfield 21, 3) := by decide +kernel
theorem dX5_begin_5 : decode cX5_begin 5 = .ok (.aload_n 0, 1) := by decide +kernel
theorem dX5_begin_6 : decode cX5_begin 6 = .ok (.iconst 0, 1) := by decide +kernel
theorem dX5_begin_7 : decode cX5_begin 7 = .ok (.putfield 25, 3) := by decide +kernel
theorem dX5_begin_10 : decode cX5_begin 10 = .ok (.return_, 1) := by decide +kernel
theorem dX5_enter_0 : decode cX5_enter 0 = .ok (.aload_n 0, 1) := by decide +kernel
theorem dX5_enter_1 : decode cX5_enter 1 = .ok (.getfield 9, 3) := by decide +kernel
theorem dX5_enter_4 : decode cX5_enter 4 = .ok (.aload_n 0, 1) := by decide +kernel
theorem dX5_enter_5 : decode cX5_enter 5 = .ok (.getfield 21, 3) := by decide +kernel
theorem dX5_enter_8 : decode cX5_enter 8 = .ok (.aload_n 0, 1) := by decide +kernel
theorem dX5_enter_9 : decode cX5_enter 9 = .ok (.getfield 25, 3) := by decide +kernel
theorem dX5_enter_12 : decode cX5_enter 12 = .ok (.iastore, 1) := by decide +kernel
theorem dX5_enter_13 : decode cX5_enter 13 = .ok (.aload_n 0, 1) := by decide +kernel
theorem dX5_enter_14 : decode cX5_enter 14 = .ok (.getfield 15, 3) := by decide +kernel
theorem dX5_enter_17 : decode cX5_enter 17 = .ok (.aload_n 0, 1) := by decide +kernel
theorem dX5_enter_18 : decode cX5_enter 18 = .ok (.getfield 21, 3) := by decide +kernel
theorem dX5_enter_21 : decode cX5_enter 21 = .ok (.iload_n 1, 1) := by decide +kernel
theorem dX5_enter_22 : decode cX5_enter 22 = .ok (.iastore, 1) := by decide +kernel
theorem dX5_enter_23 : decode cX5_enter 23 = .ok (.aload_n 0, 1) := by decide +kernel
theorem dX5_enter_24 : decode cX5_enter 24 = .ok (.getfield 18, 3) := by decide +kernel
theorem dX5_enter_27 : decode cX5_enter 27 = .ok (.aload_n 0, 1) := by decide +kernel
theorem dX5_enter_28 : decode cX5_enter 28 = .ok (.getfield 21, 3) := by decide +kernel
theorem dX5_enter_31 : decode cX5_enter 31 = .ok (.iload_n 2, 1) := by decide +kernel
theorem dX5_enter_32 : decode cX5_enter 32 = .ok (.iastore, 1) := by decide +kernel
theorem dX5_enter_33 : decode cX5_enter 33 = .ok (.aload_n 0, 1) := by decide +kernel
theorem dX5_enter_34 : decode cX5_enter 34 = .ok (.dup, 1) := by decide +kernel
theorem dX5_enter_35 : decode cX5_enter 35 = .ok (.getfield 21, 3) := by decide +kernel
theorem dX5_enter_38 : decode cX5_enter 38 = .ok (.iconst 1, 1) := by decide +kernel
theorem dX5_enter_39 : decode cX5_enter 39 = .ok (.iadd, 1) := by decide +kernel
theorem dX5_enter_40 : decode cX5_enter 40 = .ok (.putfield 21, 3) := by decide +kernel
theorem dX5_enter_43 : decode cX5_enter 43 = .ok (.aload_n 0, 1) := by decide +kernel
theorem dX5_enter_44 : decode cX5_enter 44 = .ok (.dup, 1) := by decide +kernel
theorem dX5_enter_45 : decode cX5_enter 45 = .ok (.getfield 25, 3) := by decide +kernel
theorem dX5_enter_48 : decode cX5_enter 48 = .ok (.iconst 1, 1) := by decide +kernel
theorem dX5_enter_49 : decode cX5_enter 49 = .ok (.iadd, 1) := by decide +kernel
theorem dX5_enter_50 : decode cX5_enter 50 = .ok (.putfield 25, 3) := by decide +kernel
theorem dX5_enter_53 : decode cX5_enter 53 = .ok (.return_, 1) := by decide +kernel
theorem dX5_takeOut_0 : decode cX5_takeOut 0 = .ok (.aload_n 0, 1) := by decide +kernel
theorem dX5_takeOut_1 : decode cX5_takeOut 1 = .ok (.getfield 21, 3) := by decide +kernel
theorem dX5_takeOut_4 : decode cX5_takeOut 4 = .ok (.iload_n 1, 1) := by decide +kernel
theorem dX5_takeOut_5 : decode cX5_takeOut 5 = .ok (.isub, 1) := by decide +kernel
theorem dX5_takeOut_6 : decode cX5_takeOut 6 = .ok (.iconst 1, 1) := by decide +kernel
theorem dX5_takeOut_7 : decode cX5_takeOut 7 = .ok (.isub, 1) := by decide +kernel
theorem dX5_takeOut_8 : decode cX5_takeOut 8 = .ok (.istore_n 2, 1) := by decide +kernel
theorem dX5_takeOut_9 : decode cX5_takeOut 9 = .ok (.aload_n 0, 1) := by decide +kernel
theorem dX5_takeOut_10 : decode cX5_takeOut 10 = .ok (.getfield 9, 3) := by decide +kernel
theorem dX5_takeOut_13 : decode cX5_takeOut 13 = .ok (.iload_n 1, 1) := by decide +kernel
theorem dX5_takeOut_14 : decode cX5_takeOut 14 = .ok (.iconst 1, 1) := by decide +kernel
theorem dX5_takeOut_15 : decode cX5_takeOut 15 = .ok (.iadd, 1) := by decide +kernel
theorem dX5_takeOut_16 : decode cX5_takeOut 16 = .ok (.aload_n 0, 1) := by decide +kernel
theorem dX5_takeOut_17 : decode cX5_takeOut 17 = .ok (.getfield 9, 3) := by decide +kernel
theorem dX5_takeOut_20 : decode cX5_takeOut 20 = .ok (.iload_n 1, 1) := by decide +kernel
theorem dX5_takeOut_21 : decode cX5_takeOut 21 = .ok (.iload_n 2, 1) := by decide +kernel
theorem dX5_takeOut_22 : decode cX5_takeOut 22 = .ok (.invokestatic 28, 3) := by decide +kernel
theorem dX5_takeOut_25 : decode cX5_takeOut 25 = .ok (.aload_n 0, 1) := by decide +kernel
theorem dX5_takeOut_26 : decode cX5_takeOut 26 = .ok (.getfield 15, 3) := by decide +kernel
theorem dX5_takeOut_29 : decode cX5_takeOut 29 = .ok (.iload_n 1, 1) := by decide +kernel
theorem dX5_takeOut_30 : decode cX5_takeOut 30 = .ok (.iconst 1, 1) := by decide +kernel
theorem dX5_takeOut_31 : decode cX5_takeOut 31 = .ok (.iadd, 1) := by decide +kernel
theorem dX5_takeOut_32 : decode cX5_takeOut 32 = .ok (.aload_n 0, 1) := by decide +kernel
theorem dX5_takeOut_33 : decode cX5_takeOut 33 = .ok (.getfield 15, 3) := by decide +kernel
theorem dX5_takeOut_36 : decode cX5_takeOut 36 = .ok (.iload_n 1, 1) := by decide +kernel
theorem dX5_takeOut_37 : decode cX5_takeOut 37 = .ok (.iload_n 2, 1) := by decide +kernel
theorem dX5_takeOut_38 : decode cX5_takeOut 38 = .ok (.invokestatic 28, 3) := by decide +kernel
theorem dX5_takeOut_41 : decode cX5_takeOut 41 = .ok (.aload_n 0, 1) := by decide +kernel
theorem dX5_takeOut_42 : decode cX5_takeOut 42 = .ok (.getfield 18, 3) := by decide +kernel
theorem dX5_takeOut_45 : decode cX5_takeOut 45 = .ok (.iload_n 1, 1) := by decide +kernel
theorem dX5_takeOut_46 : decode cX5_takeOut 46 = .ok (.iconst 1, 1) := by decide +kernel
theorem dX5_takeOut_47 : decode cX5_takeOut 47 = .ok (.iadd, 1) := by decide +kernel
theorem dX5_takeOut_48 : decode cX5_takeOut 48 = .ok (.aload_n 0, 1) := by decide +kernel
theorem dX5_takeOut_49 : decode cX5_takeOut 49 = .ok (.getfield 18, 3) := by decide +kernel
theorem dX5_takeOut_52 : decode cX5_takeOut 52 = .ok (.iload_n 1, 1) := by decide +kernel
theorem dX5_takeOut_53 : decode cX5_takeOut 53 = .ok (.iload_n 2, 1) := by decide +kernel
theorem dX5_takeOut_54 : decode cX5_takeOut 54 = .ok (.invokestatic 28, 3) := by decide +kernel
theorem dX5_takeOut_57 : decode cX5_takeOut 57 = .ok (.aload_n 0, 1) := by decide +kernel
theorem dX5_takeOut_58 : decode cX5_takeOut 58 = .ok (.dup, 1) := by decide +kernel
theorem dX5_takeOut_59 : decode cX5_takeOut 59 = .ok (.getfield 21, 3) := by decide +kernel
theorem dX5_takeOut_62 : decode cX5_takeOut 62 = .ok (.iconst 1, 1) := by decide +kernel
theorem dX5_takeOut_63 : decode cX5_takeOut 63 = .ok (.isub, 1) := by decide +kernel
theorem dX5_takeOut_64 : decode cX5_takeOut 64 = .ok (.putfield 21, 3) := by decide +kernel
theorem dX5_takeOut_67 : decode cX5_takeOut 67 = .ok (.return_, 1) := by decide +kernel
theorem dX5_copyFrom_0 : decode cX5_copyFrom 0 = .ok (.aload_n 1, 1) := by decide +kernel
theorem dX5_copyFrom_1 : decode cX5_copyFrom 1 = .ok (.getfield 9, 3) := by decide +kernel
theorem dX5_copyFrom_4 : decode cX5_copyFrom 4 = .ok (.iconst 0, 1) := by decide +kernel
theorem dX5_copyFrom_5 : decode cX5_copyFrom 5 = .ok (.aload_n 0, 1) := by decide +kernel
theorem dX5_copyFrom_6 : decode cX5_copyFrom 6 = .ok (.getfield 9, 3) := by decide +kernel
theorem dX5_copyFrom_9 : decode cX5_copyFrom 9 = .ok (.iconst 0, 1) := by decide +kernel
theorem dX5_copyFrom_10 : decode cX5_copyFrom 10 = .ok (.aload_n 1, 1) := by decide +kernel
theorem dX5_copyFrom_11 : decode cX5_copyFrom 11 = .ok (.getfield 21, 3) := by decide +kernel
theorem dX5_copyFrom_14 : decode cX5_copyFrom 14 = .ok (.invokestatic 28, 3) := by decide +kernel
theorem dX5_copyFrom_17 : decode cX5_copyFrom 17 = .ok (.aload_n 1, 1) := by decide +kernel
theorem dX5_copyFrom_18 : decode cX5_copyFrom 18 = .ok (.getfield 15, 3) := by decide +kernel
theorem dX5_copyFrom_21 : decode cX5_copyFrom 21 = .ok (.iconst 0, 1) := by decide +kernel
theorem dX5_copyFrom_22 : decode cX5_copyFrom 22 = .ok (.aload_n 0, 1) := by decide +kernel
theorem dX5_copyFrom_23 : decode cX5_copyFrom 23 = .ok (.getfield 15, 3) := by decide +kernel
theorem dX5_copyFrom_26 : decode cX5_copyFrom 26 = .ok (.iconst 0, 1) := by decide +kernel
theorem dX5_copyFrom_27 : decode cX5_copyFrom 27 = .ok (.aload_n 1, 1) := by decide +kernel
theorem dX5_copyFrom_28 : decode cX5_copyFrom 28 = .ok (.getfield 21, 3) := by decide +kernel
theorem dX5_copyFrom_31 : decode cX5_copyFrom 31 = .ok (.invokestatic 28, 3) := by decide +kernel
theorem dX5_copyFrom_34 : decode cX5_copyFrom 34 = .ok (.aload_n 1, 1) := by decide +kernel
theorem dX5_copyFrom_35 : decode cX5_copyFrom 35 = .ok (.getfield 18, 3) := by decide +kernel
theorem dX5_copyFrom_38 : decode cX5_copyFrom 38 = .ok (.iconst 0, 1) := by decide +kernel
theorem dX5_copyFrom_39 : decode cX5_copyFrom 39 = .ok (.aload_n 0, 1) := by decide +kernel
theorem dX5_copyFrom_40 : decode cX5_copyFrom 40 = .ok (.getfield 18, 3) := by decide +kernel
theorem dX5_copyFrom_43 : decode cX5_copyFrom 43 = .ok (.iconst 0, 1) := by decide +kernel
theorem dX5_copyFrom_44 : decode cX5_copyFrom 44 = .ok (.aload_n 1, 1) := by decide +kernel
theorem dX5_copyFrom_45 : decode cX5_copyFrom 45 = .ok (.getfield 21, 3) := by decide +kernel
theorem dX5_copyFrom_48 : decode cX5_copyFrom 48 = .ok (.invokestatic 28, 3) := by decide +kernel
theorem dX5_copyFrom_51 : decode cX5_copyFrom 51 = .ok (.aload_n 0, 1) := by decide +kernel
theorem dX5_copyFrom_52 : decode cX5_copyFrom 52 = .ok (.aload_n 1, 1) := by decide +kernel
theorem dX5_copyFrom_53 : decode cX5_copyFrom 53 = .ok (.getfield 21, 3) := by decide +kernel
theorem dX5_copyFrom_56 : decode cX5_copyFrom 56 = .ok (.putfield 21, 3) := by decide +kernel
theorem dX5_copyFrom_59 : decode cX5_copyFrom 59 = .ok (.aload_n 0, 1) := by decide +kernel
theorem dX5_copyFrom_60 : decode cX5_copyFrom 60 = .ok (.aload_n 1, 1) := by decide +kernel
theorem dX5_copyFrom_61 : decode cX5_copyFrom 61 = .ok (.getfield 25, 3) := by decide +kernel
theorem dX5_copyFrom_64 : decode cX5_copyFrom 64 = .ok (.putfield 25, 3) := by decide +kernel
theorem dX5_copyFrom_67 : decode cX5_copyFrom 67 = .ok (.return_, 1) := by decide +kernel
theorem dX6_init_0 : decode cX6_init 0 = .ok (.aload_n 0, 1) := by decide +kernel
theorem dX6_init_1 : decode cX6_init 1 = .ok (.invokespecial 3, 3) := by decide +kernel
theorem dX6_init_4 : decode cX6_init 4 = .ok (.aload_n 0, 1) := by decide +kernel
theorem dX6_init_5 : decode cX6_init 5 = .ok (.bipush 100, 2) := by decide +kernel
theorem dX6_init_7 : decode cX6_init 7 = .ok (.newarray .int, 2) := by decide +kernel
theorem dX6_init_9 : decode cX6_init 9 = .ok (.putfield 9, 3) := by decide +kernel
theorem dX6_init_12 : decode cX6_init 12 = .ok (.aload_n 0, 1) := by decide +kernel
theorem dX6_init_13 : decode cX6_init 13 = .ok (.bipush 100, 2) := by decide +kernel
theorem dX6_init_15 : decode cX6_init 15 = .ok (.newarray .long, 2) := by decide +kernel
theorem dX6_init_17 : decode cX6_init 17 = .ok (.putfield 15, 3) := by decide +kernel
theorem dX6_init_20 : decode cX6_init 20 = .ok (.return_, 1) := by decide +kernel
theorem dX6_begin_0 : decode cX6_begin 0 = .ok (.aload_n 0, 1) := by decide +kernel
theorem dX6_begin_1 : decode cX6_begin 1 = .ok (.getfield 9, 3) := by decide +kernel
theorem dX6_begin_4 : decode cX6_begin 4 = .ok (.iconst 0, 1) := by decide +kernel
theorem dX6_begin_5 : decode cX6_begin 5 = .ok (.invokestatic 19, 3) := by decide +kernel
theorem dX6_begin_8 : decode cX6_begin 8 = .ok (.aload_n 0, 1) := by decide +kernel
theorem dX6_begin_9 : decode cX6_begin 9 = .ok (.getfield 15, 3) := by decide +kernel
theorem dX6_begin_12 : decode cX6_begin 12 = .ok (.lconst 0, 1) := by decide +kernel
theorem dX6_begin_13 : decode cX6_begin 13 = .ok (.invokestatic 25, 3) := by decide +kernel
theorem dX6_begin_16 : decode cX6_begin 16 = .ok (.return_, 1) := by decide +kernel
theorem dX6_forget_0 : decode cX6_forget 0 = .ok (.aload_n 0, 1) := by decide +kernel
theorem dX6_forget_1 : decode cX6_forget 1 = .ok (.getfield 9, 3) := by decide +kernel
theorem dX6_forget_4 : decode cX6_forget 4 = .ok (.iload_n 1, 1) := by decide +kernel
theorem dX6_forget_5 : decode cX6_forget 5 = .ok (.iconst 0, 1) := by decide +kernel
theorem dX6_forget_6 : decode cX6_forget 6 = .ok (.iastore, 1) := by decide +kernel
theorem dX6_forget_7 : decode cX6_forget 7 = .ok (.aload_n 0, 1) := by decide +kernel
theorem dX6_forget_8 : decode cX6_forget 8 = .ok (.getfield 15, 3) := by decide +kernel
theorem dX6_forget_11 : decode cX6_forget 11 = .ok (.iload_n 1, 1) := by decide +kernel
theorem dX6_forget_12 : decode cX6_forget 12 = .ok (.lconst 0, 1) := by decide +kernel
theorem dX6_forget_13 : decode cX6_forget 13 = .ok (.lastore, 1) := by decide +kernel
theorem dX6_forget_14 : decode cX6_forget 14 = .ok (.return_, 1) := by decide +kernel
theorem dX6_copyFrom_0 : decode cX6_copyFrom 0 = .ok (.aload_n 1, 1) := by decide +kernel
theorem dX6_copyFrom_1 : decode cX6_copyFrom 1 = .ok (.getfield 9, 3) := by decide +kernel
theorem dX6_copyFrom_4 : decode cX6_copyFrom 4 = .ok (.iconst 0, 1) := by decide +kernel
theorem dX6_copyFrom_5 : decode cX6_copyFrom 5 = .ok (.aload_n 0, 1) := by decide +kernel
theorem dX6_copyFrom_6 : decode cX6_copyFrom 6 = .ok (.getfield 9, 3) := by decide +kernel
theorem dX6_copyFrom_9 : decode cX6_copyFrom 9 = .ok (.iconst 0, 1) := by decide +kernel
theorem dX6_copyFrom_10 : decode cX6_copyFrom 10 = .ok (.bipush 100, 2) := by decide +kernel
theorem dX6_copyFrom_12 : decode cX6_copyFrom 12 = .ok (.invokestatic 28, 3) := by decide +kernel
theorem dX6_copyFrom_15 : decode cX6_copyFrom 15 = .ok (.aload_n 1, 1) := by decide +kernel
theorem dX6_copyFrom_16 : decode cX6_copyFrom 16 = .ok (.getfield 15, 3) := by decide +kernel
theorem dX6_copyFrom_19 : decode cX6_copyFrom 19 = .ok (.iconst 0, 1) := by decide +kernel
theorem dX6_copyFrom_20 : decode cX6_copyFrom 20 = .ok (.aload_n 0, 1) := by decide +kernel
theorem dX6_copyFrom_21 : decode cX6_copyFrom 21 = .ok (.getfield 15, 3) := by decide +kernel
theorem dX6_copyFrom_24 : decode cX6_copyFrom 24 = .ok (.iconst 0, 1) := by decide +kernel
theorem dX6_copyFrom_25 : decode cX6_copyFrom 25 = .ok (.bipush 100, 2) := by decide +kernel
theorem dX6_copyFrom_27 : decode cX6_copyFrom 27 = .ok (.invokestatic 28, 3) := by decide +kernel
theorem dX6_copyFrom_30 : decode cX6_copyFrom 30 = .ok (.return_, 1) := by decide +kernel
theorem dX7_init_0 : decode cX7_init 0 = .ok (.aload_n 0, 1) := by decide +kernel
theorem dX7_init_1 : decode cX7_init 1 = .ok (.invokespecial 3, 3) := by decide +kernel
theorem dX7_init_4 : decode cX7_init 4 = .ok (.aload_n 0, 1) := by decide +kernel
theorem dX7_init_5 : decode cX7_init 5 = .ok (.bipush 40, 2) := by decide +kernel
theorem dX7_init_7 : decode cX7_init 7 = .ok (.newarray .int, 2) := by decide +kernel
theorem dX7_init_9 : decode cX7_init 9 = .ok (.putfield 9, 3) := by decide +kernel
theorem dX7_init_12 : decode cX7_init 12 = .ok (.aload_n 0, 1) := by decide +kernel
theorem dX7_init_13 : decode cX7_init 13 = .ok (.bipush 40, 2) := by decide +kernel
theorem dX7_init_15 : decode cX7_init 15 = .ok (.newarray .int, 2) := by decide +kernel
theorem dX7_init_17 : decode cX7_init 17 = .ok (.putfield 15, 3) := by decide +kernel
theorem dX7_init_20 : decode cX7_init 20 = .ok (.return_, 1) := by decide +kernel
theorem dX7_begin_0 : decode cX7_begin 0 = .ok (.aload_n 0, 1) := by decide +kernel
theorem dX7_begin_1 : decode cX7_begin 1 = .ok (.iconst 0, 1) := by decide +kernel
theorem dX7_begin_2 : decode cX7_begin 2 = .ok (.putfield 18, 3) := by decide +kernel
theorem dX7_begin_5 : decode cX7_begin 5 = .ok (.aload_n 0, 1) := by decide +kernel
theorem dX7_begin_6 : decode cX7_begin 6 = .ok (.iconst 0, 1) := by decide +kernel
theorem dX7_begin_7 : decode cX7_begin 7 = .ok (.putfield 22, 3) := by decide +kernel
theorem dX7_begin_10 : decode cX7_begin 10 = .ok (.return_, 1) := by decide +kernel
theorem dX7_enter_0 : decode cX7_enter 0 = .ok (.aload_n 0, 1) := by decide +kernel
theorem dX7_enter_1 : decode cX7_enter 1 = .ok (.iload_n 1, 1) := by decide +kernel
theorem dX7_enter_2 : decode cX7_enter 2 = .ok (.iload_n 2, 1) := by decide +kernel
theorem dX7_enter_3 : decode cX7_enter 3 = .ok (.invokevirtual 25, 3) := by decide +kernel
theorem dX7_enter_6 : decode cX7_enter 6 = .ok (.istore_n 3, 1) := by decide +kernel
theorem dX7_enter_7 : decode cX7_enter 7 = .ok (.aload_n 0, 1) := by decide +kernel
theorem dX7_enter_8 : decode cX7_enter 8 = .ok (.getfield 9, 3) := by decide +kernel
theorem dX7_enter_11 : decode cX7_enter 11 = .ok (.iload_n 3, 1) := by decide +kernel
theorem dX7_enter_12 : decode cX7_enter 12 = .ok (.aload_n 0, 1) := by decide +kernel
theorem dX7_enter_13 : decode cX7_enter 13 = .ok (.getfield 9, 3) := by decide +kernel
theorem dX7_enter_16 : decode cX7_enter 16 = .ok (.iload_n 3, 1) := by decide +kernel
theorem dX7_enter_17 : decode cX7_enter 17 = .ok (.iconst 1, 1) := by decide +kernel
theorem dX7_enter_18 : decode cX7_enter 18 = .ok (.iadd, 1) := by decide +kernel
theorem dX7_enter_19 : decode cX7_enter 19 = .ok (.aload_n 0, 1) := by decide +kernel
theorem dX7_enter_20 : decode cX7_enter 20 = .ok (.getfield 18, 3) := by decide +kernel
theorem dX7_enter_23 : decode cX7_enter 23 = .ok (.iload_n 3, 1) := by decide +kernel
theorem dX7_enter_24 : decode cX7_enter 24 = .ok (.isub, 1) := by decide +kernel
theorem dX7_enter_25 : decode cX7_enter 25 = .ok (.invokestatic 29, 3) := by decide +kernel
theorem dX7_enter_28 : decode cX7_enter 28 = .ok (.aload_n 0, 1) := by decide +kernel
theorem dX7_enter_29 : decode cX7_enter 29 = .ok (.getfield 15, 3) := by decide +kernel
theorem dX7_enter_32 : decode cX7_enter 32 = .ok (.iload_n 3, 1) := by decide +kernel
theorem dX7_enter_33 : decode cX7_enter 33 = .ok (.aload_n 0, 1) := by decide +kernel
theorem dX7_enter_34 : decode cX7_enter 34 = .ok (.getfield 15, 3) := by decide +kernel
theorem dX7_enter_37 : decode cX7_enter 37 = .ok (.iload_n 3, 1) := by decide +kernel
theorem dX7_enter_38 : decode cX7_enter 38 = .ok (.iconst 1, 1) := by decide +kernel
theorem dX7_enter_39 : decode cX7_enter 39 = .ok (.iadd, 1) := by decide +kernel
theorem dX7_enter_40 : decode cX7_enter 40 = .ok (.aload_n 0, 1) := by decide +kernel
theorem dX7_enter_41 : decode cX7_enter 41 = .ok (.getfield 18, 3) := by decide +kernel
theorem dX7_enter_44 : decode cX7_enter 44 = .ok (.iload_n 3, 1) := by decide +kernel
theorem dX7_enter_45 : decode cX7_enter 45 = .ok (.isub, 1) := by decide +kernel
theorem dX7_enter_46 : decode cX7_enter 46 = .ok (.invokestatic 29, 3) := by decide +kernel
theorem dX7_enter_49 : decode cX7_enter 49 = .ok (.aload_n 0, 1) := by decide +kernel
theorem dX7_enter_50 : decode cX7_enter 50 = .ok (.getfield 9, 3) := by decide +kernel
theorem dX7_enter_53 : decode cX7_enter 53 = .ok (.iload_n 3, 1) := by decide +kernel
theorem dX7_enter_54 : decode cX7_enter 54 = .ok (.iload_n 1, 1) := by decide +kernel
theorem dX7_enter_55 : decode cX7_enter 55 = .ok (.iastore, 1) := by decide +kernel
theorem dX7_enter_56 : decode cX7_enter 56 = .ok (.aload_n 0, 1) := by decide +kernel
theorem dX7_enter_57 : decode cX7_enter 57 = .ok (.getfield 15, 3) := by decide +kernel
theorem dX7_enter_60 : decode cX7_enter 60 = .ok (.iload_n 3, 1) := by decide +kernel
theorem dX7_enter_61 : decode cX7_enter 61 = .ok (.iload_n 2, 1) := by decide +kernel
theorem dX7_enter_62 : decode cX7_enter 62 = .ok (.iastore, 1) := by decide +kernel
theorem dX7_enter_63 : decode cX7_enter 63 = .ok (.aload_n 0, 1) := by decide +kernel
theorem dX7_enter_64 : decode cX7_enter 64 = .ok (.dup, 1) := by decide +kernel
theorem dX7_enter_65 : decode cX7_enter 65 = .ok (.getfield 18, 3) := by decide +kernel
theorem dX7_enter_68 : decode cX7_enter 68 = .ok (.iconst 1, 1) := by decide +kernel
theorem dX7_enter_69 : decode cX7_enter 69 = .ok (.iadd, 1) := by decide +kernel
theorem dX7_enter_70 : decode cX7_enter 70 = .ok (.putfield 18, 3) := by decide +kernel
theorem dX7_enter_73 : decode cX7_enter 73 = .ok (.return_, 1) := by decide +kernel
theorem dX7_placeFor_0 : decode cX7_placeFor 0 = .ok (.aload_n 0, 1) := by decide +kernel
theorem dX7_placeFor_1 : decode cX7_placeFor 1 = .ok (.getfield 18, 3) := by decide +kernel
theorem dX7_placeFor_4 : decode cX7_placeFor 4 = .ok (.istore_n 3, 1) := by decide +kernel
theorem dX7_placeFor_5 : decode cX7_placeFor 5 = .ok (.iload_n 3, 1) := by decide +kernel
theorem dX7_placeFor_6 : decode cX7_placeFor 6 = .ok (.ifCond .le 21, 3) := by decide +kernel
theorem dX7_placeFor_9 : decode cX7_placeFor 9 = .ok (.aload_n 0, 1) := by decide +kernel
theorem dX7_placeFor_10 : decode cX7_placeFor 10 = .ok (.iload_n 1, 1) := by decide +kernel
theorem dX7_placeFor_11 : decode cX7_placeFor 11 = .ok (.iload_n 2, 1) := by decide +kernel
theorem dX7_placeFor_12 : decode cX7_placeFor 12 = .ok (.iload_n 3, 1) := by decide +kernel
theorem dX7_placeFor_13 : decode cX7_placeFor 13 = .ok (.iconst 1, 1) := by decide +kernel
theorem dX7_placeFor_14 : decode cX7_placeFor 14 = .ok (.isub, 1) := by decide +kernel
theorem dX7_placeFor_15 : decode cX7_placeFor 15 = .ok (.invokevirtual 35, 3) := by decide +kernel
theorem dX7_placeFor_18 : decode cX7_placeFor 18 = .ok (.ifCond .eq 9, 3) := by decide +kernel
theorem dX7_placeFor_21 : decode cX7_placeFor 21 = .ok (.iinc 3 (-1), 3) := by decide +kernel
theorem dX7_placeFor_24 : decode cX7_placeFor 24 = .ok (.goto (-19), 3) := by decide +kernel
theorem dX7_placeFor_27 : decode cX7_placeFor 27 = .ok (.iload_n 3, 1) := by decide +kernel
theorem dX7_placeFor_28 : decode cX7_placeFor 28 = .ok (.ireturn, 1) := by decide +kernel
theorem dX7_comesAhead_0 : decode cX7_comesAhead 0 = .ok (.iload_n 2, 1) := by decide +kernel
theorem dX7_comesAhead_1 : decode cX7_comesAhead 1 = .ok (.aload_n 0, 1) := by decide +kernel
theorem dX7_comesAhead_2 : decode cX7_comesAhead 2 = .ok (.getfield 15, 3) := by decide +kernel
theorem dX7_comesAhead_5 : decode cX7_comesAhead 5 = .ok (.iload_n 3, 1) := by decide +kernel
theorem dX7_comesAhead_6 : decode cX7_comesAhead 6 = .ok (.iaload, 1) := by decide +kernel
theorem dX7_comesAhead_7 : decode cX7_comesAhead 7 = .ok (.if_icmp .lt 23, 3) := by decide +kernel
theorem dX7_comesAhead_10 : decode cX7_comesAhead 10 = .ok (.iload_n 2, 1) := by decide +kernel
theorem dX7_comesAhead_11 : decode cX7_comesAhead 11 = .ok (.aload_n 0, 1) := by decide +kernel
theorem dX7_comesAhead_12 : decode cX7_comesAhead 12 = .ok (.getfield 15, 3) := by decide +kernel
theorem dX7_comesAhead_15 : decode cX7_comesAhead 15 = .ok (.iload_n 3, 1) := by decide +kernel
theorem dX7_comesAhead_16 : decode cX7_comesAhead 16 = .ok (.iaload, 1) := by decide +kernel
theorem dX7_comesAhead_17 : decode cX7_comesAhead 17 = .ok (.if_icmp .ne 17, 3) := by decide +kernel
theorem dX7_comesAhead_20 : decode cX7_comesAhead 20 = .ok (.iload_n 1, 1) := by decide +kernel
theorem dX7_comesAhead_21 : decode cX7_comesAhead 21 = .ok (.aload_n 0, 1) := by decide +kernel
theorem dX7_comesAhead_22 : decode cX7_comesAhead 22 = .ok (.getfield 9, 3) := by decide +kernel
theorem dX7_comesAhead_25 : decode cX7_comesAhead 25 = .ok (.iload_n 3, 1) := by decide +kernel
theorem dX7_comesAhead_26 : decode cX7_comesAhead 26 = .ok (.iaload, 1) := by decide +kernel
theorem dX7_comesAhead_27 : decode cX7_comesAhead 27 = .ok (.if_icmp .ge 7, 3) := by decide +kernel
theorem dX7_comesAhead_30 : decode cX7_comesAhead 30 = .ok (.iconst 1, 1) := by decide +kernel
theorem dX7_comesAhead_31 : decode cX7_comesAhead 31 = .ok (.goto 4, 3) := by decide +kernel
theorem dX7_comesAhead_34 : decode cX7_comesAhead 34 = .ok (.iconst 0, 1) := by decide +kernel
theorem dX7_comesAhead_35 : decode cX7_comesAhead 35 = .ok (.ireturn, 1) := by decide +kernel
theorem dX7_dueAt_0 : decode cX7_dueAt 0 = .ok (.iconst 0, 1) := by decide +kernel
theorem dX7_dueAt_1 : decode cX7_dueAt 1 = .ok (.istore_n 2, 1) := by decide +kernel
theorem dX7_dueAt_2 : decode cX7_dueAt 2 = .ok (.iload_n 2, 1) := by decide +kernel
theorem dX7_dueAt_3 : decode cX7_dueAt 3 = .ok (.aload_n 0, 1) := by decide +kernel
theorem dX7_dueAt_4 : decode cX7_dueAt 4 = .ok (.getfield 18, 3) := by decide +kernel
theorem dX7_dueAt_7 : decode cX7_dueAt 7 = .ok (.if_icmp .ge 19, 3) := by decide +kernel
theorem dX7_dueAt_10 : decode cX7_dueAt 10 = .ok (.aload_n 0, 1) := by decide +kernel
theorem dX7_dueAt_11 : decode cX7_dueAt 11 = .ok (.getfield 15, 3) := by decide +kernel
theorem dX7_dueAt_14 : decode cX7_dueAt 14 = .ok (.iload_n 2, 1) := by decide +kernel
theorem dX7_dueAt_15 : decode cX7_dueAt 15 = .ok (.iaload, 1) := by decide +kernel
theorem dX7_dueAt_16 : decode cX7_dueAt 16 = .ok (.iload_n 1, 1) := by decide +kernel
theorem dX7_dueAt_17 : decode cX7_dueAt 17 = .ok (.if_icmp .gt 9, 3) := by decide +kernel
theorem dX7_dueAt_20 : decode cX7_dueAt 20 = .ok (.iinc 2 1, 3) := by decide +kernel
theorem dX7_dueAt_23 : decode cX7_dueAt 23 = .ok (.goto (-21), 3) := by decide +kernel
theorem dX7_dueAt_26 : decode cX7_dueAt 26 = .ok (.iload_n 2, 1) := by decide +kernel
theorem dX7_dueAt_27 : decode cX7_dueAt 27 = .ok (.ireturn, 1) := by decide +kernel
theorem dX7_takeFirst_0 : decode cX7_takeFirst 0 = .ok (.aload_n 0, 1) := by decide +kernel
theorem dX7_takeFirst_1 : decode cX7_takeFirst 1 = .ok (.getfield 9, 3) := by decide +kernel
theorem dX7_takeFirst_4 : decode cX7_takeFirst 4 = .ok (.iload_n 1, 1) := by decide +kernel
theorem dX7_takeFirst_5 : decode cX7_takeFirst 5 = .ok (.aload_n 0, 1) := by decide +kernel
theorem dX7_takeFirst_6 : decode cX7_takeFirst 6 = .ok (.getfield 9, 3) := by decide +kernel
theorem dX7_takeFirst_9 : decode cX7_takeFirst 9 = .ok (.iconst 0, 1) := by decide +kernel
theorem dX7_takeFirst_10 : decode cX7_takeFirst 10 = .ok (.aload_n 0, 1) := by decide +kernel
theorem dX7_takeFirst_11 : decode cX7_takeFirst 11 = .ok (.getfield 18, 3) := by decide +kernel
theorem dX7_takeFirst_14 : decode cX7_takeFirst 14 = .ok (.iload_n 1, 1) := by decide +kernel
theorem dX7_takeFirst_15 : decode cX7_takeFirst 15 = .ok (.isub, 1) := by decide +kernel
theorem dX7_takeFirst_16 : decode cX7_takeFirst 16 = .ok (.invokestatic 29, 3) := by decide +kernel
theorem dX7_takeFirst_19 : decode cX7_takeFirst 19 = .ok (.aload_n 0, 1) := by decide +kernel
theorem dX7_takeFirst_20 : decode cX7_takeFirst 20 = .ok (.getfield 15, 3) := by decide +kernel
theorem dX7_takeFirst_23 : decode cX7_takeFirst 23 = .ok (.iload_n 1, 1) := by decide +kernel
theorem dX7_takeFirst_24 : decode cX7_takeFirst 24 = .ok (.aload_n 0, 1) := by decide +kernel
theorem dX7_takeFirst_25 : decode cX7_takeFirst 25 = .ok (.getfield 15, 3) := by decide +kernel
theorem dX7_takeFirst_28 : decode cX7_takeFirst 28 = .ok (.iconst 0, 1) := by decide +kernel
theorem dX7_takeFirst_29 : decode cX7_takeFirst 29 = .ok (.aload_n 0, 1) := by decide +kernel
theorem dX7_takeFirst_30 : decode cX7_takeFirst 30 = .ok (.getfield 18, 3) := by decide +kernel
theorem dX7_takeFirst_33 : decode cX7_takeFirst 33 = .ok (.iload_n 1, 1) := by decide +kernel
theorem dX7_takeFirst_34 : decode cX7_takeFirst 34 = .ok (.isub, 1) := by decide +kernel
theorem dX7_takeFirst_35 : decode cX7_takeFirst 35 = .ok (.invokestatic 29, 3) := by decide +kernel
theorem dX7_takeFirst_38 : decode cX7_takeFirst 38 = .ok (.aload_n 0, 1) := by decide +kernel
theorem dX7_takeFirst_39 : decode cX7_takeFirst 39 = .ok (.dup, 1) := by decide +kernel
theorem dX7_takeFirst_40 : decode cX7_takeFirst 40 = .ok (.getfield 18, 3) := by decide +kernel
theorem dX7_takeFirst_43 : decode cX7_takeFirst 43 = .ok (.iload_n 1, 1) := by decide +kernel
theorem dX7_takeFirst_44 : decode cX7_takeFirst 44 = .ok (.isub, 1) := by decide +kernel
theorem dX7_takeFirst_45 : decode cX7_takeFirst 45 = .ok (.putfield 18, 3) := by decide +kernel
theorem dX7_takeFirst_48 : decode cX7_takeFirst 48 = .ok (.return_, 1) := by decide +kernel
theorem dX7_copyFrom_0 : decode cX7_copyFrom 0 = .ok (.aload_n 1, 1) := by decide +kernel
theorem dX7_copyFrom_1 : decode cX7_copyFrom 1 = .ok (.getfield 9, 3) := by decide +kernel
theorem dX7_copyFrom_4 : decode cX7_copyFrom 4 = .ok (.iconst 0, 1) := by decide +kernel
theorem dX7_copyFrom_5 : decode cX7_copyFrom 5 = .ok (.aload_n 0, 1) := by decide +kernel
theorem dX7_copyFrom_6 : decode cX7_copyFrom 6 = .ok (.getfield 9, 3) := by decide +kernel
theorem dX7_copyFrom_9 : decode cX7_copyFrom 9 = .ok (.iconst 0, 1) := by decide +kernel
theorem dX7_copyFrom_10 : decode cX7_copyFrom 10 = .ok (.aload_n 1, 1) := by decide +kernel
theorem dX7_copyFrom_11 : decode cX7_copyFrom 11 = .ok (.getfield 18, 3) := by decide +kernel
theorem dX7_copyFrom_14 : decode cX7_copyFrom 14 = .ok (.invokestatic 29, 3) := by decide +kernel
theorem dX7_copyFrom_17 : decode cX7_copyFrom 17 = .ok (.aload_n 1, 1) := by decide +kernel
theorem dX7_copyFrom_18 : decode cX7_copyFrom 18 = .ok (.getfield 15, 3) := by decide +kernel
theorem dX7_copyFrom_21 : decode cX7_copyFrom 21 = .ok (.iconst 0, 1) := by decide +kernel
theorem dX7_copyFrom_22 : decode cX7_copyFrom 22 = .ok (.aload_n 0, 1) := by decide +kernel
theorem dX7_copyFrom_23 : decode cX7_copyFrom 23 = .ok (.getfield 15, 3) := by decide +kernel
theorem dX7_copyFrom_26 : decode cX7_copyFrom 26 = .ok (.iconst 0, 1) := by decide +kernel
theorem dX7_copyFrom_27 : decode cX7_copyFrom 27 = .ok (.aload_n 1, 1) := by decide +kernel
theorem dX7_copyFrom_28 : decode cX7_copyFrom 28 = .ok (.getfield 18, 3) := by decide +kernel
theorem dX7_copyFrom_31 : decode cX7_copyFrom 31 = .ok (.invokestatic 29, 3) := by decide +kernel
theorem dX7_copyFrom_34 : decode cX7_copyFrom 34 = .ok (.aload_n 0, 1) := by decide +kernel
theorem dX7_copyFrom_35 : decode cX7_copyFrom 35 = .ok (.aload_n 1, 1) := by decide +kernel
theorem dX7_copyFrom_36 : decode cX7_copyFrom 36 = .ok (.getfield 18, 3) := by decide +kernel
theorem dX7_copyFrom_39 : decode cX7_copyFrom 39 = .ok (.putfield 18, 3) := by decide +kernel
theorem dX7_copyFrom_42 : decode cX7_copyFrom 42 = .ok (.aload_n 0, 1) := by decide +kernel
theorem dX7_copyFrom_43 : decode cX7_copyFrom 43 = .ok (.aload_n 1, 1) := by decide +kernel
theorem dX7_copyFrom_44 : decode cX7_copyFrom 44 = .ok (.getfield 22, 3) := by decide +kernel
theorem dX7_copyFrom_47 : decode cX7_copyFrom 47 = .ok (.putfield 22, 3) := by decide +kernel
theorem dX7_copyFrom_50 : decode cX7_copyFrom 50 = .ok (.return_, 1) := by decide +kernel
theorem dX8_init_0 : decode cX8_init 0 = .ok (.aload_n 0, 1) := by decide +kernel
theorem dX8_init_1 : decode cX8_init 1 = .ok (.invokespecial 1, 3) := by decide +kernel
theorem dX8_init_4 : decode cX8_init 4 = .ok (.aload_n 0, 1) := by decide +kernel
theorem dX8_init_5 : decode cX8_init 5 = .ok (.new 7, 3) := by decide +kernel
theorem dX8_init_8 : decode cX8_init 8 = .ok (.dup, 1) := by decide +kernel
theorem dX8_init_9 : decode cX8_init 9 = .ok (.invokespecial 9, 3) := by decide +kernel
theorem dX8_init_12 : decode cX8_init 12 = .ok (.putfield 10, 3) := by decide +kernel
theorem dX8_init_15 : decode cX8_init 15 = .ok (.aload_n 0, 1) := by decide +kernel
theorem dX8_init_16 : decode cX8_init 16 = .ok (.new 16, 3) := by decide +kernel
theorem dX8_init_19 : decode cX8_init 19 = .ok (.dup, 1) := by decide +kernel
theorem dX8_init_20 : decode cX8_init 20 = .ok (.invokespecial 18, 3) := by decide +kernel
theorem dX8_init_23 : decode cX8_init 23 = .ok (.putfield 19, 3) := by decide +kernel
theorem dX8_init_26 : decode cX8_init 26 = .ok (.aload_n 0, 1) := by decide +kernel
theorem dX8_init_27 : decode cX8_init 27 = .ok (.new 23, 3) := by decide +kernel
theorem dX8_init_30 : decode cX8_init 30 = .ok (.dup, 1) := by decide +kernel
theorem dX8_init_31 : decode cX8_init 31 = .ok (.invokespecial 25, 3) := by decide +kernel
theorem dX8_init_34 : decode cX8_init 34 = .ok (.putfield 26, 3) := by decide +kernel
theorem dX8_init_37 : decode cX8_init 37 = .ok (.aload_n 0, 1) := by decide +kernel
theorem dX8_init_38 : decode cX8_init 38 = .ok (.new 30, 3) := by decide +kernel
theorem dX8_init_41 : decode cX8_init 41 = .ok (.dup, 1) := by decide +kernel
theorem dX8_init_42 : decode cX8_init 42 = .ok (.invokespecial 32, 3) := by decide +kernel
theorem dX8_init_45 : decode cX8_init 45 = .ok (.putfield 33, 3) := by decide +kernel
theorem dX8_init_48 : decode cX8_init 48 = .ok (.aload_n 0, 1) := by decide +kernel
theorem dX8_init_49 : decode cX8_init 49 = .ok (.new 37, 3) := by decide +kernel
theorem dX8_init_52 : decode cX8_init 52 = .ok (.dup, 1) := by decide +kernel
theorem dX8_init_53 : decode cX8_init 53 = .ok (.invokespecial 39, 3) := by decide +kernel
theorem dX8_init_56 : decode cX8_init 56 = .ok (.putfield 40, 3) := by decide +kernel
theorem dX8_init_59 : decode cX8_init 59 = .ok (.aload_n 0, 1) := by decide +kernel
theorem dX8_init_60 : decode cX8_init 60 = .ok (.iconst 3, 1) := by decide +kernel
theorem dX8_init_61 : decode cX8_init 61 = .ok (.anewarray 23, 3) := by decide +kernel
theorem dX8_init_64 : decode cX8_init 64 = .ok (.putfield 44, 3) := by decide +kernel
theorem dX8_init_67 : decode cX8_init 67 = .ok (.aload_n 0, 1) := by decide +kernel
theorem dX8_init_68 : decode cX8_init 68 = .ok (.bipush 20, 2) := by decide +kernel
theorem dX8_init_70 : decode cX8_init 70 = .ok (.putfield 48, 3) := by decide +kernel
theorem dX8_init_73 : decode cX8_init 73 = .ok (.return_, 1) := by decide +kernel
theorem dX8_shape_0 : decode cX8_shape 0 = .ok (.iload_n 1, 1) := by decide +kernel
theorem dX8_shape_1 : decode cX8_shape 1 = .ok (.iconst 2, 1) := by decide +kernel
theorem dX8_shape_2 : decode cX8_shape 2 = .ok (.if_icmp .lt 9, 3) := by decide +kernel
theorem dX8_shape_5 : decode cX8_shape 5 = .ok (.iload_n 1, 1) := by decide +kernel
theorem dX8_shape_6 : decode cX8_shape 6 = .ok (.bipush 32, 2) := by decide +kernel
theorem dX8_shape_8 : decode cX8_shape 8 = .ok (.if_icmp .le 6, 3) := by decide +kernel
theorem dX8_shape_11 : decode cX8_shape 11 = .ok (.bipush (-102), 2) := by decide +kernel
theorem dX8_shape_13 : decode cX8_shape 13 = .ok (.ireturn, 1) := by decide +kernel
theorem dX8_shape_14 : decode cX8_shape 14 = .ok (.iload_n 2, 1) := by decide +kernel
theorem dX8_shape_15 : decode cX8_shape 15 = .ok (.iconst 1, 1) := by decide +kernel
theorem dX8_shape_16 : decode cX8_shape 16 = .ok (.if_icmp .lt 14, 3) := by decide +kernel
theorem dX8_shape_19 : decode cX8_shape 19 = .ok (.iload_n 2, 1) := by decide +kernel
theorem dX8_shape_20 : decode cX8_shape 20 = .ok (.bipush 12, 2) := by decide +kernel
theorem dX8_shape_22 : decode cX8_shape 22 = .ok (.if_icmp .gt 8, 3) := by decide +kernel
theorem dX8_shape_25 : decode cX8_shape 25 = .ok (.iload_n 2, 1) := by decide +kernel
theorem dX8_shape_26 : decode cX8_shape 26 = .ok (.iload_n 1, 1) := by decide +kernel
theorem dX8_shape_27 : decode cX8_shape 27 = .ok (.if_icmp .le 6, 3) := by decide +kernel
theorem dX8_shape_30 : decode cX8_shape 30 = .ok (.bipush (-102), 2) := by decide +kernel
theorem dX8_shape_32 : decode cX8_shape 32 = .ok (.ireturn, 1) := by decide +kernel
theorem dX8_shape_33 : decode cX8_shape 33 = .ok (.aload_n 0, 1) := by decide +kernel
theorem dX8_shape_34 : decode cX8_shape 34 = .ok (.getfield 26, 3) := by decide +kernel
theorem dX8_shape_37 : decode cX8_shape 37 = .ok (.getfield 52, 3) := by decide +kernel
theorem dX8_shape_40 : decode cX8_shape 40 = .ok (.getfield 56, 3) := by decide +kernel
theorem dX8_shape_43 : decode cX8_shape 43 = .ok (.ifCond .gt 23, 3) := by decide +kernel
theorem dX8_shape_46 : decode cX8_shape 46 = .ok (.aload_n 0, 1) := by decide +kernel
theorem dX8_shape_47 : decode cX8_shape 47 = .ok (.getfield 26, 3) := by decide +kernel
theorem dX8_shape_50 : decode cX8_shape 50 = .ok (.getfield 61, 3) := by decide +kernel
theorem dX8_shape_53 : decode cX8_shape 53 = .ok (.getfield 65, 3) := by decide +kernel
theorem dX8_shape_56 : decode cX8_shape 56 = .ok (.ifCond .gt 10, 3) := by decide +kernel
theorem dX8_shape_59 : decode cX8_shape 59 = .ok (.aload_n 0, 1) := by decide +kernel
theorem dX8_shape_60 : decode cX8_shape 60 = .ok (.getfield 70, 3) := by decide +kernel
theorem dX8_shape_63 : decode cX8_shape 63 = .ok (.ifCond .le 6, 3) := by decide +kernel
theorem dX8_shape_66 : decode cX8_shape 66 = .ok (.bipush (-103), 2) := by decide +kernel
theorem dX8_shape_68 : decode cX8_shape 68 = .ok (.ireturn, 1) := by decide +kernel
theorem dX8_shape_69 : decode cX8_shape 69 = .ok (.aload_n 0, 1) := by decide +kernel
theorem dX8_shape_70 : decode cX8_shape 70 = .ok (.getfield 10, 3) := by decide +kernel
theorem dX8_shape_73 : decode cX8_shape 73 = .ok (.iload_n 1, 1) := by decide +kernel
theorem dX8_shape_74 : decode cX8_shape 74 = .ok (.iload_n 2, 1) := by decide +kernel
theorem dX8_shape_75 : decode cX8_shape 75 = .ok (.invokevirtual 73, 3) := by decide +kernel
theorem dX8_shape_78 : decode cX8_shape 78 = .ok (.iconst 1, 1) := by decide +kernel
theorem dX8_shape_79 : decode cX8_shape 79 = .ok (.ireturn, 1) := by decide +kernel
theorem dX8_slack_0 : decode cX8_slack 0 = .ok (.iload_n 1, 1) := by decide +kernel
theorem dX8_slack_1 : decode cX8_slack 1 = .ok (.ifCond .lt 9, 3) := by decide +kernel
theorem dX8_slack_4 : decode cX8_slack 4 = .ok (.iload_n 1, 1) := by decide +kernel
theorem dX8_slack_5 : decode cX8_slack 5 = .ok (.bipush 100, 2) := by decide +kernel
theorem dX8_slack_7 : decode cX8_slack 7 = .ok (.if_icmp .le 6, 3) := by decide +kernel
theorem dX8_slack_10 : decode cX8_slack 10 = .ok (.bipush (-102), 2) := by decide +kernel
theorem dX8_slack_12 : decode cX8_slack 12 = .ok (.ireturn, 1) := by decide +kernel
theorem dX8_slack_13 : decode cX8_slack 13 = .ok (.aload_n 0, 1) := by decide +kernel
theorem dX8_slack_14 : decode cX8_slack 14 = .ok (.getfield 48, 3) := by decide +kernel
theorem dX8_slack_17 : decode cX8_slack 17 = .ok (.istore_n 2, 1) := by decide +kernel
theorem dX8_slack_18 : decode cX8_slack 18 = .ok (.aload_n 0, 1) := by decide +kernel
theorem dX8_slack_19 : decode cX8_slack 19 = .ok (.iload_n 1, 1) := by decide +kernel
theorem dX8_slack_20 : decode cX8_slack 20 = .ok (.putfield 48, 3) := by decide +kernel
theorem dX8_slack_23 : decode cX8_slack 23 = .ok (.iload_n 2, 1) := by decide +kernel
theorem dX8_slack_24 : decode cX8_slack 24 = .ok (.ireturn, 1) := by decide +kernel
theorem dX8_group_0 : decode cX8_group 0 = .ok (.iload_n 1, 1) := by decide +kernel
theorem dX8_group_1 : decode cX8_group 1 = .ok (.invokestatic 77, 3) := by decide +kernel
theorem dX8_group_4 : decode cX8_group 4 = .ok (.ifCond .eq 14, 3) := by decide +kernel
theorem dX8_group_7 : decode cX8_group 7 = .ok (.aload_n 0, 1) := by decide +kernel
theorem dX8_group_8 : decode cX8_group 8 = .ok (.getfield 10, 3) := by decide +kernel
theorem dX8_group_11 : decode cX8_group 11 = .ok (.iload_n 1, 1) := by decide +kernel
theorem dX8_group_12 : decode cX8_group 12 = .ok (.invokevirtual 81, 3) := by decide +kernel
theorem dX8_group_15 : decode cX8_group 15 = .ok (.goto 5, 3) := by decide +kernel
theorem dX8_group_18 : decode cX8_group 18 = .ok (.bipush (-101), 2) := by decide +kernel
theorem dX8_group_20 : decode cX8_group 20 = .ok (.ireturn, 1) := by decide +kernel
theorem dX8_row_0 : decode cX8_row 0 = .ok (.iload_n 1, 1) := by decide +kernel
theorem dX8_row_1 : decode cX8_row 1 = .ok (.invokestatic 77, 3) := by decide +kernel
theorem dX8_row_4 : decode cX8_row 4 = .ok (.ifCond .ne 6, 3) := by decide +kernel
theorem dX8_row_7 : decode cX8_row 7 = .ok (.bipush (-101), 2) := by decide +kernel
theorem dX8_row_9 : decode cX8_row 9 = .ok (.ireturn, 1) := by decide +kernel
theorem dX8_row_10 : decode cX8_row 10 = .ok (.iload_n 2, 1) := by decide +kernel
theorem dX8_row_11 : decode cX8_row 11 = .ok (.invokestatic 85, 3) := by decide +kernel
theorem dX8_row_14 : decode cX8_row 14 = .ok (.ifCond .ne 6, 3) := by decide +kernel
theorem dX8_row_17 : decode cX8_row 17 = .ok (.bipush (-102), 2) := by decide +kernel
theorem dX8_row_19 : decode cX8_row 19 = .ok (.ireturn, 1) := by decide +kernel
theorem dX8_row_20 : decode cX8_row 20 = .ok (.aload_n 0, 1) := by decide +kernel
theorem dX8_row_21 : decode cX8_row 21 = .ok (.getfield 26, 3) := by decide +kernel
theorem dX8_row_24 : decode cX8_row 24 = .ok (.getfield 52, 3) := by decide +kernel
theorem dX8_row_27 : decode cX8_row 27 = .ok (.getfield 56, 3) := by decide +kernel
theorem dX8_row_30 : decode cX8_row 30 = .ok (.sipush 400, 3) := by decide +kernel
theorem dX8_row_33 : decode cX8_row 33 = .ok (.if_icmp .lt 6, 3) := by decide +kernel
theorem dX8_row_36 : decode cX8_row 36 = .ok (.bipush (-107), 2) := by decide +kernel
theorem dX8_row_38 : decode cX8_row 38 = .ok (.ireturn, 1) := by decide +kernel
theorem dX8_row_39 : decode cX8_row 39 = .ok (.aload_n 0, 1) := by decide +kernel
theorem dX8_row_40 : decode cX8_row 40 = .ok (.getfield 10, 3) := by decide +kernel
theorem dX8_row_43 : decode cX8_row 43 = .ok (.iload_n 1, 1) := by decide +kernel
theorem dX8_row_44 : decode cX8_row 44 = .ok (.invokevirtual 81, 3) := by decide +kernel
theorem dX8_row_47 : decode cX8_row 47 = .ok (.istore_n 3, 1) := by decide +kernel
theorem dX8_row_48 : decode cX8_row 48 = .ok (.aload_n 0, 1) := by decide +kernel
theorem dX8_row_49 : decode cX8_row 49 = .ok (.getfield 26, 3) := by decide +kernel
theorem dX8_row_52 : decode cX8_row 52 = .ok (.getfield 52, 3) := by decide +kernel
theorem dX8_row_55 : decode cX8_row 55 = .ok (.iload_n 1, 1) := by decide +kernel
theorem dX8_row_56 : decode cX8_row 56 = .ok (.iload_n 2, 1) := by decide +kernel
theorem dX8_row_57 : decode cX8_row 57 = .ok (.invokevirtual 88, 3) := by decide +kernel
theorem dX8_row_60 : decode cX8_row 60 = .ok (.aload_n 0, 1) := by decide +kernel
theorem dX8_row_61 : decode cX8_row 61 = .ok (.getfield 10, 3) := by decide +kernel
theorem dX8_row_64 : decode cX8_row 64 = .ok (.getfield 91, 3) := by decide +kernel
theorem dX8_row_67 : decode cX8_row 67 = .ok (.iload_n 3, 1) := by decide +kernel
theorem dX8_row_68 : decode cX8_row 68 = .ok (.dup2, 1) := by decide +kernel
end
section
theorem dX8_row_69 : decode cX8_row 69 = .ok (.iaload, 1) := by decide +kernel
theorem dX8_row_70 : decode cX8_row 70 = .ok (.iconst 1, 1) := by decide +kernel
theorem dX8_row_71 : decode cX8_row 71 = .ok (.iadd, 1) := by decide +kernel
theorem dX8_row_72 : decode cX8_row 72 = .ok (.iastore, 1) := by decide +kernel
theorem dX8_row_73 : decode cX8_row 73 = .ok (.aload_n 0, 1) := by decide +kernel
theorem dX8_row_74 : decode cX8_row 74 = .ok (.getfield 10, 3) := by decide +kernel
theorem dX8_row_77 : decode cX8_row 77 = .ok (.getfield 95, 3) := by decide +kernel
theorem dX8_row_80 : decode cX8_row 80 = .ok (.iload_n 3, 1) := by decide +kernel
theorem dX8_row_81 : decode cX8_row 81 = .ok (.iaload, 1) := by decide +kernel
theorem dX8_row_82 : decode cX8_row 82 = .ok (.ireturn, 1) := by decide +kernel
theorem dX8_step_0 : decode cX8_step 0 = .ok (.aload_n 0, 1) := by decide +kernel
theorem dX8_step_1 : decode cX8_step 1 = .ok (.iload_n 1, 1) := by decide +kernel
theorem dX8_step_2 : decode cX8_step 2 = .ok (.invokevirtual 98, 3) := by decide +kernel
theorem dX8_step_5 : decode cX8_step 5 = .ok (.ifCond .ne 6, 3) := by decide +kernel
theorem dX8_step_8 : decode cX8_step 8 = .ok (.bipush (-101), 2) := by decide +kernel
theorem dX8_step_10 : decode cX8_step 10 = .ok (.ireturn, 1) := by decide +kernel
theorem dX8_step_11 : decode cX8_step 11 = .ok (.aload_n 0, 1) := by decide +kernel
theorem dX8_step_12 : decode cX8_step 12 = .ok (.iload_n 1, 1) := by decide +kernel
theorem dX8_step_13 : decode cX8_step 13 = .ok (.invokevirtual 101, 3) := by decide +kernel
theorem dX8_step_16 : decode cX8_step 16 = .ok (.istore_n 2, 1) := by decide +kernel
theorem dX8_step_17 : decode cX8_step 17 = .ok (.iload_n 2, 1) := by decide +kernel
theorem dX8_step_18 : decode cX8_step 18 = .ok (.bipush (-106), 2) := by decide +kernel
theorem dX8_step_20 : decode cX8_step 20 = .ok (.if_icmp .ne 6, 3) := by decide +kernel
theorem dX8_step_23 : decode cX8_step 23 = .ok (.bipush (-106), 2) := by decide +kernel
theorem dX8_step_25 : decode cX8_step 25 = .ok (.ireturn, 1) := by decide +kernel
theorem dX8_step_26 : decode cX8_step 26 = .ok (.aload_n 0, 1) := by decide +kernel
theorem dX8_step_27 : decode cX8_step 27 = .ok (.getfield 26, 3) := by decide +kernel
theorem dX8_step_30 : decode cX8_step 30 = .ok (.getfield 52, 3) := by decide +kernel
theorem dX8_step_33 : decode cX8_step 33 = .ok (.getfield 104, 3) := by decide +kernel
theorem dX8_step_36 : decode cX8_step 36 = .ok (.iload_n 2, 1) := by decide +kernel
theorem dX8_step_37 : decode cX8_step 37 = .ok (.iaload, 1) := by decide +kernel
theorem dX8_step_38 : decode cX8_step 38 = .ok (.istore_n 3, 1) := by decide +kernel
theorem dX8_step_39 : decode cX8_step 39 = .ok (.aload_n 0, 1) := by decide +kernel
theorem dX8_step_40 : decode cX8_step 40 = .ok (.getfield 26, 3) := by decide +kernel
theorem dX8_step_43 : decode cX8_step 43 = .ok (.getfield 52, 3) := by decide +kernel
theorem dX8_step_46 : decode cX8_step 46 = .ok (.getfield 107, 3) := by decide +kernel
theorem dX8_step_49 : decode cX8_step 49 = .ok (.iload_n 2, 1) := by decide +kernel
theorem dX8_step_50 : decode cX8_step 50 = .ok (.iaload, 1) := by decide +kernel
theorem dX8_step_51 : decode cX8_step 51 = .ok (.istore 4, 2) := by decide +kernel
theorem dX8_step_53 : decode cX8_step 53 = .ok (.aload_n 0, 1) := by decide +kernel
theorem dX8_step_54 : decode cX8_step 54 = .ok (.getfield 26, 3) := by decide +kernel
theorem dX8_step_57 : decode cX8_step 57 = .ok (.getfield 110, 3) := by decide +kernel
theorem dX8_step_60 : decode cX8_step 60 = .ok (.getfield 114, 3) := by decide +kernel
theorem dX8_step_63 : decode cX8_step 63 = .ok (.iload 4, 2) := by decide +kernel
theorem dX8_step_65 : decode cX8_step 65 = .ok (.dup2, 1) := by decide +kernel
theorem dX8_step_66 : decode cX8_step 66 = .ok (.iaload, 1) := by decide +kernel
theorem dX8_step_67 : decode cX8_step 67 = .ok (.iconst 1, 1) := by decide +kernel
theorem dX8_step_68 : decode cX8_step 68 = .ok (.iadd, 1) := by decide +kernel
theorem dX8_step_69 : decode cX8_step 69 = .ok (.iastore, 1) := by decide +kernel
theorem dX8_step_70 : decode cX8_step 70 = .ok (.aload_n 0, 1) := by decide +kernel
theorem dX8_step_71 : decode cX8_step 71 = .ok (.getfield 26, 3) := by decide +kernel
theorem dX8_step_74 : decode cX8_step 74 = .ok (.getfield 110, 3) := by decide +kernel
theorem dX8_step_77 : decode cX8_step 77 = .ok (.getfield 119, 3) := by decide +kernel
theorem dX8_step_80 : decode cX8_step 80 = .ok (.iload 4, 2) := by decide +kernel
theorem dX8_step_82 : decode cX8_step 82 = .ok (.dup2, 1) := by decide +kernel
theorem dX8_step_83 : decode cX8_step 83 = .ok (.laload, 1) := by decide +kernel
theorem dX8_step_84 : decode cX8_step 84 = .ok (.aload_n 0, 1) := by decide +kernel
theorem dX8_step_85 : decode cX8_step 85 = .ok (.getfield 26, 3) := by decide +kernel
theorem dX8_step_88 : decode cX8_step 88 = .ok (.getfield 52, 3) := by decide +kernel
theorem dX8_step_91 : decode cX8_step 91 = .ok (.getfield 123, 3) := by decide +kernel
theorem dX8_step_94 : decode cX8_step 94 = .ok (.iload_n 2, 1) := by decide +kernel
theorem dX8_step_95 : decode cX8_step 95 = .ok (.iaload, 1) := by decide +kernel
theorem dX8_step_96 : decode cX8_step 96 = .ok (.i2l, 1) := by decide +kernel
theorem dX8_step_97 : decode cX8_step 97 = .ok (.ladd, 1) := by decide +kernel
theorem dX8_step_98 : decode cX8_step 98 = .ok (.lastore, 1) := by decide +kernel
theorem dX8_step_99 : decode cX8_step 99 = .ok (.aload_n 0, 1) := by decide +kernel
theorem dX8_step_100 : decode cX8_step 100 = .ok (.getfield 26, 3) := by decide +kernel
theorem dX8_step_103 : decode cX8_step 103 = .ok (.getfield 52, 3) := by decide +kernel
theorem dX8_step_106 : decode cX8_step 106 = .ok (.iload_n 2, 1) := by decide +kernel
theorem dX8_step_107 : decode cX8_step 107 = .ok (.invokevirtual 126, 3) := by decide +kernel
theorem dX8_step_110 : decode cX8_step 110 = .ok (.aload_n 0, 1) := by decide +kernel
theorem dX8_step_111 : decode cX8_step 111 = .ok (.getfield 33, 3) := by decide +kernel
theorem dX8_step_114 : decode cX8_step 114 = .ok (.iload_n 3, 1) := by decide +kernel
theorem dX8_step_115 : decode cX8_step 115 = .ok (.iload 4, 2) := by decide +kernel
theorem dX8_step_117 : decode cX8_step 117 = .ok (.aload_n 0, 1) := by decide +kernel
theorem dX8_step_118 : decode cX8_step 118 = .ok (.getfield 26, 3) := by decide +kernel
theorem dX8_step_121 : decode cX8_step 121 = .ok (.getfield 110, 3) := by decide +kernel
theorem dX8_step_124 : decode cX8_step 124 = .ok (.getfield 119, 3) := by decide +kernel
theorem dX8_step_127 : decode cX8_step 127 = .ok (.iload 4, 2) := by decide +kernel
theorem dX8_step_129 : decode cX8_step 129 = .ok (.laload, 1) := by decide +kernel
theorem dX8_step_130 : decode cX8_step 130 = .ok (.invokevirtual 130, 3) := by decide +kernel
theorem dX8_step_133 : decode cX8_step 133 = .ok (.iload 4, 2) := by decide +kernel
theorem dX8_step_135 : decode cX8_step 135 = .ok (.ireturn, 1) := by decide +kernel
theorem dX8_add_0 : decode cX8_add 0 = .ok (.iload_n 1, 1) := by decide +kernel
theorem dX8_add_1 : decode cX8_add 1 = .ok (.invokestatic 77, 3) := by decide +kernel
theorem dX8_add_4 : decode cX8_add 4 = .ok (.ifCond .ne 6, 3) := by decide +kernel
theorem dX8_add_7 : decode cX8_add 7 = .ok (.bipush (-101), 2) := by decide +kernel
theorem dX8_add_9 : decode cX8_add 9 = .ok (.ireturn, 1) := by decide +kernel
theorem dX8_add_10 : decode cX8_add 10 = .ok (.iload_n 3, 1) := by decide +kernel
theorem dX8_add_11 : decode cX8_add 11 = .ok (.invokestatic 85, 3) := by decide +kernel
theorem dX8_add_14 : decode cX8_add 14 = .ok (.ifCond .ne 6, 3) := by decide +kernel
theorem dX8_add_17 : decode cX8_add 17 = .ok (.bipush (-102), 2) := by decide +kernel
theorem dX8_add_19 : decode cX8_add 19 = .ok (.ireturn, 1) := by decide +kernel
theorem dX8_add_20 : decode cX8_add 20 = .ok (.aload_n 0, 1) := by decide +kernel
theorem dX8_add_21 : decode cX8_add 21 = .ok (.getfield 10, 3) := by decide +kernel
theorem dX8_add_24 : decode cX8_add 24 = .ok (.getfield 134, 3) := by decide +kernel
theorem dX8_add_27 : decode cX8_add 27 = .ok (.aload_n 0, 1) := by decide +kernel
theorem dX8_add_28 : decode cX8_add 28 = .ok (.getfield 10, 3) := by decide +kernel
theorem dX8_add_31 : decode cX8_add 31 = .ok (.iload_n 1, 1) := by decide +kernel
theorem dX8_add_32 : decode cX8_add 32 = .ok (.invokevirtual 81, 3) := by decide +kernel
theorem dX8_add_35 : decode cX8_add 35 = .ok (.iaload, 1) := by decide +kernel
theorem dX8_add_36 : decode cX8_add 36 = .ok (.iload_n 2, 1) := by decide +kernel
theorem dX8_add_37 : decode cX8_add 37 = .ok (.if_icmp .eq 6, 3) := by decide +kernel
theorem dX8_add_40 : decode cX8_add 40 = .ok (.bipush (-104), 2) := by decide +kernel
theorem dX8_add_42 : decode cX8_add 42 = .ok (.ireturn, 1) := by decide +kernel
theorem dX8_add_43 : decode cX8_add 43 = .ok (.aload_n 0, 1) := by decide +kernel
theorem dX8_add_44 : decode cX8_add 44 = .ok (.getfield 26, 3) := by decide +kernel
theorem dX8_add_47 : decode cX8_add 47 = .ok (.getfield 110, 3) := by decide +kernel
theorem dX8_add_50 : decode cX8_add 50 = .ok (.getfield 119, 3) := by decide +kernel
theorem dX8_add_53 : decode cX8_add 53 = .ok (.iload_n 1, 1) := by decide +kernel
theorem dX8_add_54 : decode cX8_add 54 = .ok (.dup2, 1) := by decide +kernel
theorem dX8_add_55 : decode cX8_add 55 = .ok (.laload, 1) := by decide +kernel
theorem dX8_add_56 : decode cX8_add 56 = .ok (.iload_n 3, 1) := by decide +kernel
theorem dX8_add_57 : decode cX8_add 57 = .ok (.i2l, 1) := by decide +kernel
theorem dX8_add_58 : decode cX8_add 58 = .ok (.ladd, 1) := by decide +kernel
theorem dX8_add_59 : decode cX8_add 59 = .ok (.lastore, 1) := by decide +kernel
theorem dX8_add_60 : decode cX8_add 60 = .ok (.iconst 1, 1) := by decide +kernel
theorem dX8_add_61 : decode cX8_add 61 = .ok (.ireturn, 1) := by decide +kernel
theorem dX8_scale_0 : decode cX8_scale 0 = .ok (.iload_n 1, 1) := by decide +kernel
theorem dX8_scale_1 : decode cX8_scale 1 = .ok (.iconst 1, 1) := by decide +kernel
theorem dX8_scale_2 : decode cX8_scale 2 = .ok (.if_icmp .lt 12, 3) := by decide +kernel
theorem dX8_scale_5 : decode cX8_scale 5 = .ok (.iload_n 2, 1) := by decide +kernel
theorem dX8_scale_6 : decode cX8_scale 6 = .ok (.ifCond .lt 8, 3) := by decide +kernel
theorem dX8_scale_9 : decode cX8_scale 9 = .ok (.iload_n 2, 1) := by decide +kernel
theorem dX8_scale_10 : decode cX8_scale 10 = .ok (.iconst 1, 1) := by decide +kernel
theorem dX8_scale_11 : decode cX8_scale 11 = .ok (.if_icmp .le 6, 3) := by decide +kernel
theorem dX8_scale_14 : decode cX8_scale 14 = .ok (.bipush (-102), 2) := by decide +kernel
theorem dX8_scale_16 : decode cX8_scale 16 = .ok (.ireturn, 1) := by decide +kernel
theorem dX8_scale_17 : decode cX8_scale 17 = .ok (.iload_n 1, 1) := by decide +kernel
theorem dX8_scale_18 : decode cX8_scale 18 = .ok (.aload_n 0, 1) := by decide +kernel
theorem dX8_scale_19 : decode cX8_scale 19 = .ok (.getfield 10, 3) := by decide +kernel
theorem dX8_scale_22 : decode cX8_scale 22 = .ok (.getfield 137, 3) := by decide +kernel
theorem dX8_scale_25 : decode cX8_scale 25 = .ok (.if_icmp .le 6, 3) := by decide +kernel
theorem dX8_scale_28 : decode cX8_scale 28 = .ok (.bipush (-105), 2) := by decide +kernel
theorem dX8_scale_30 : decode cX8_scale 30 = .ok (.ireturn, 1) := by decide +kernel
theorem dX8_scale_31 : decode cX8_scale 31 = .ok (.iload_n 2, 1) := by decide +kernel
theorem dX8_scale_32 : decode cX8_scale 32 = .ok (.ifCond .ne 21, 3) := by decide +kernel
theorem dX8_scale_35 : decode cX8_scale 35 = .ok (.aload_n 0, 1) := by decide +kernel
theorem dX8_scale_36 : decode cX8_scale 36 = .ok (.getfield 19, 3) := by decide +kernel
theorem dX8_scale_39 : decode cX8_scale 39 = .ok (.aload_n 0, 1) := by decide +kernel
theorem dX8_scale_40 : decode cX8_scale 40 = .ok (.getfield 10, 3) := by decide +kernel
theorem dX8_scale_43 : decode cX8_scale 43 = .ok (.getfield 140, 3) := by decide +kernel
theorem dX8_scale_46 : decode cX8_scale 46 = .ok (.iload_n 1, 1) := by decide +kernel
theorem dX8_scale_47 : decode cX8_scale 47 = .ok (.invokevirtual 143, 3) := by decide +kernel
theorem dX8_scale_50 : decode cX8_scale 50 = .ok (.goto 26, 3) := by decide +kernel
theorem dX8_scale_53 : decode cX8_scale 53 = .ok (.aload_n 0, 1) := by decide +kernel
theorem dX8_scale_54 : decode cX8_scale 54 = .ok (.getfield 19, 3) := by decide +kernel
theorem dX8_scale_57 : decode cX8_scale 57 = .ok (.aload_n 0, 1) := by decide +kernel
theorem dX8_scale_58 : decode cX8_scale 58 = .ok (.getfield 10, 3) := by decide +kernel
theorem dX8_scale_61 : decode cX8_scale 61 = .ok (.iload_n 1, 1) := by decide +kernel
theorem dX8_scale_62 : decode cX8_scale 62 = .ok (.aload_n 0, 1) := by decide +kernel
theorem dX8_scale_63 : decode cX8_scale 63 = .ok (.getfield 48, 3) := by decide +kernel
theorem dX8_scale_66 : decode cX8_scale 66 = .ok (.invokevirtual 146, 3) := by decide +kernel
theorem dX8_scale_69 : decode cX8_scale 69 = .ok (.iconst (-1), 1) := by decide +kernel
theorem dX8_scale_70 : decode cX8_scale 70 = .ok (.if_icmp .ne 6, 3) := by decide +kernel
theorem dX8_scale_73 : decode cX8_scale 73 = .ok (.bipush (-106), 2) := by decide +kernel
theorem dX8_scale_75 : decode cX8_scale 75 = .ok (.ireturn, 1) := by decide +kernel
theorem dX8_scale_76 : decode cX8_scale 76 = .ok (.aload_n 0, 1) := by decide +kernel
theorem dX8_scale_77 : decode cX8_scale 77 = .ok (.getfield 10, 3) := by decide +kernel
theorem dX8_scale_80 : decode cX8_scale 80 = .ok (.aload_n 0, 1) := by decide +kernel
theorem dX8_scale_81 : decode cX8_scale 81 = .ok (.getfield 19, 3) := by decide +kernel
theorem dX8_scale_84 : decode cX8_scale 84 = .ok (.getfield 150, 3) := by decide +kernel
theorem dX8_scale_87 : decode cX8_scale 87 = .ok (.iload_n 1, 1) := by decide +kernel
theorem dX8_scale_88 : decode cX8_scale 88 = .ok (.invokevirtual 151, 3) := by decide +kernel
theorem dX8_scale_91 : decode cX8_scale 91 = .ok (.ireturn, 1) := by decide +kernel
theorem dX8_moved_0 : decode cX8_moved 0 = .ok (.iload_n 1, 1) := by decide +kernel
theorem dX8_moved_1 : decode cX8_moved 1 = .ok (.ifCond .lt 14, 3) := by decide +kernel
theorem dX8_moved_4 : decode cX8_moved 4 = .ok (.iload_n 1, 1) := by decide +kernel
theorem dX8_moved_5 : decode cX8_moved 5 = .ok (.aload_n 0, 1) := by decide +kernel
theorem dX8_moved_6 : decode cX8_moved 6 = .ok (.getfield 10, 3) := by decide +kernel
theorem dX8_moved_9 : decode cX8_moved 9 = .ok (.getfield 155, 3) := by decide +kernel
theorem dX8_moved_12 : decode cX8_moved 12 = .ok (.if_icmp .lt 8, 3) := by decide +kernel
theorem dX8_moved_15 : decode cX8_moved 15 = .ok (.bipush (-106), 2) := by decide +kernel
theorem dX8_moved_17 : decode cX8_moved 17 = .ok (.goto 12, 3) := by decide +kernel
theorem dX8_moved_20 : decode cX8_moved 20 = .ok (.aload_n 0, 1) := by decide +kernel
theorem dX8_moved_21 : decode cX8_moved 21 = .ok (.getfield 10, 3) := by decide +kernel
theorem dX8_moved_24 : decode cX8_moved 24 = .ok (.getfield 158, 3) := by decide +kernel
theorem dX8_moved_27 : decode cX8_moved 27 = .ok (.iload_n 1, 1) := by decide +kernel
theorem dX8_moved_28 : decode cX8_moved 28 = .ok (.iaload, 1) := by decide +kernel
theorem dX8_moved_29 : decode cX8_moved 29 = .ok (.ireturn, 1) := by decide +kernel
theorem dX8_least_0 : decode cX8_least 0 = .ok (.iload_n 1, 1) := by decide +kernel
theorem dX8_least_1 : decode cX8_least 1 = .ok (.iconst 1, 1) := by decide +kernel
theorem dX8_least_2 : decode cX8_least 2 = .ok (.if_icmp .lt 14, 3) := by decide +kernel
theorem dX8_least_5 : decode cX8_least 5 = .ok (.iload_n 1, 1) := by decide +kernel
theorem dX8_least_6 : decode cX8_least 6 = .ok (.aload_n 0, 1) := by decide +kernel
theorem dX8_least_7 : decode cX8_least 7 = .ok (.getfield 10, 3) := by decide +kernel
theorem dX8_least_10 : decode cX8_least 10 = .ok (.getfield 137, 3) := by decide +kernel
theorem dX8_least_13 : decode cX8_least 13 = .ok (.if_icmp .le 7, 3) := by decide +kernel
theorem dX8_least_16 : decode cX8_least 16 = .ok (.ldc2_w 161, 3) := by decide +kernel
theorem dX8_least_19 : decode cX8_least 19 = .ok (.lreturn, 1) := by decide +kernel
theorem dX8_least_20 : decode cX8_least 20 = .ok (.aload_n 0, 1) := by decide +kernel
theorem dX8_least_21 : decode cX8_least 21 = .ok (.getfield 19, 3) := by decide +kernel
theorem dX8_least_24 : decode cX8_least 24 = .ok (.aload_n 0, 1) := by decide +kernel
theorem dX8_least_25 : decode cX8_least 25 = .ok (.getfield 10, 3) := by decide +kernel
theorem dX8_least_28 : decode cX8_least 28 = .ok (.iload_n 1, 1) := by decide +kernel
theorem dX8_least_29 : decode cX8_least 29 = .ok (.aload_n 0, 1) := by decide +kernel
theorem dX8_least_30 : decode cX8_least 30 = .ok (.getfield 48, 3) := by decide +kernel
theorem dX8_least_33 : decode cX8_least 33 = .ok (.invokevirtual 146, 3) := by decide +kernel
theorem dX8_least_36 : decode cX8_least 36 = .ok (.istore_n 2, 1) := by decide +kernel
theorem dX8_least_37 : decode cX8_least 37 = .ok (.iload_n 2, 1) := by decide +kernel
theorem dX8_least_38 : decode cX8_least 38 = .ok (.iconst (-1), 1) := by decide +kernel
theorem dX8_least_39 : decode cX8_least 39 = .ok (.if_icmp .ne 9, 3) := by decide +kernel
theorem dX8_least_42 : decode cX8_least 42 = .ok (.ldc2_w 161, 3) := by decide +kernel
theorem dX8_least_45 : decode cX8_least 45 = .ok (.goto 5, 3) := by decide +kernel
theorem dX8_least_48 : decode cX8_least 48 = .ok (.iload_n 2, 1) := by decide +kernel
theorem dX8_least_49 : decode cX8_least 49 = .ok (.i2l, 1) := by decide +kernel
theorem dX8_least_50 : decode cX8_least 50 = .ok (.lreturn, 1) := by decide +kernel
theorem dX8_groupAt_0 : decode cX8_groupAt 0 = .ok (.iload_n 1, 1) := by decide +kernel
theorem dX8_groupAt_1 : decode cX8_groupAt 1 = .ok (.ifCond .lt 14, 3) := by decide +kernel
theorem dX8_groupAt_4 : decode cX8_groupAt 4 = .ok (.iload_n 1, 1) := by decide +kernel
theorem dX8_groupAt_5 : decode cX8_groupAt 5 = .ok (.aload_n 0, 1) := by decide +kernel
theorem dX8_groupAt_6 : decode cX8_groupAt 6 = .ok (.getfield 10, 3) := by decide +kernel
theorem dX8_groupAt_9 : decode cX8_groupAt 9 = .ok (.getfield 140, 3) := by decide +kernel
theorem dX8_groupAt_12 : decode cX8_groupAt 12 = .ok (.if_icmp .lt 6, 3) := by decide +kernel
theorem dX8_groupAt_15 : decode cX8_groupAt 15 = .ok (.bipush (-101), 2) := by decide +kernel
theorem dX8_groupAt_17 : decode cX8_groupAt 17 = .ok (.ireturn, 1) := by decide +kernel
theorem dX8_groupAt_18 : decode cX8_groupAt 18 = .ok (.iload_n 2, 1) := by decide +kernel
theorem dX8_groupAt_19 : decode cX8_groupAt 19 = .ok (.tableswitch 65 0 3 #[29, 39, 49, 59], 29) := by decide +kernel
theorem dX8_groupAt_48 : decode cX8_groupAt 48 = .ok (.aload_n 0, 1) := by decide +kernel
theorem dX8_groupAt_49 : decode cX8_groupAt 49 = .ok (.getfield 10, 3) := by decide +kernel
theorem dX8_groupAt_52 : decode cX8_groupAt 52 = .ok (.getfield 95, 3) := by decide +kernel
theorem dX8_groupAt_55 : decode cX8_groupAt 55 = .ok (.iload_n 1, 1) := by decide +kernel
theorem dX8_groupAt_56 : decode cX8_groupAt 56 = .ok (.iaload, 1) := by decide +kernel
theorem dX8_groupAt_57 : decode cX8_groupAt 57 = .ok (.ireturn, 1) := by decide +kernel
theorem dX8_groupAt_58 : decode cX8_groupAt 58 = .ok (.aload_n 0, 1) := by decide +kernel
theorem dX8_groupAt_59 : decode cX8_groupAt 59 = .ok (.getfield 10, 3) := by decide +kernel
theorem dX8_groupAt_62 : decode cX8_groupAt 62 = .ok (.getfield 134, 3) := by decide +kernel
theorem dX8_groupAt_65 : decode cX8_groupAt 65 = .ok (.iload_n 1, 1) := by decide +kernel
theorem dX8_groupAt_66 : decode cX8_groupAt 66 = .ok (.iaload, 1) := by decide +kernel
theorem dX8_groupAt_67 : decode cX8_groupAt 67 = .ok (.ireturn, 1) := by decide +kernel
theorem dX8_groupAt_68 : decode cX8_groupAt 68 = .ok (.aload_n 0, 1) := by decide +kernel
theorem dX8_groupAt_69 : decode cX8_groupAt 69 = .ok (.getfield 10, 3) := by decide +kernel
theorem dX8_groupAt_72 : decode cX8_groupAt 72 = .ok (.getfield 91, 3) := by decide +kernel
theorem dX8_groupAt_75 : decode cX8_groupAt 75 = .ok (.iload_n 1, 1) := by decide +kernel
theorem dX8_groupAt_76 : decode cX8_groupAt 76 = .ok (.iaload, 1) := by decide +kernel
theorem dX8_groupAt_77 : decode cX8_groupAt 77 = .ok (.ireturn, 1) := by decide +kernel
theorem dX8_groupAt_78 : decode cX8_groupAt 78 = .ok (.aload_n 0, 1) := by decide +kernel
theorem dX8_groupAt_79 : decode cX8_groupAt 79 = .ok (.iload_n 1, 1) := by decide +kernel
theorem dX8_groupAt_80 : decode cX8_groupAt 80 = .ok (.invokevirtual 163, 3) := by decide +kernel
theorem dX8_groupAt_83 : decode cX8_groupAt 83 = .ok (.ireturn, 1) := by decide +kernel
theorem dX8_groupAt_84 : decode cX8_groupAt 84 = .ok (.bipush (-102), 2) := by decide +kernel
theorem dX8_groupAt_86 : decode cX8_groupAt 86 = .ok (.ireturn, 1) := by decide +kernel
theorem dX8_taskAt_0 : decode cX8_taskAt 0 = .ok (.aload_n 0, 1) := by decide +kernel
theorem dX8_taskAt_1 : decode cX8_taskAt 1 = .ok (.iload_n 1, 1) := by decide +kernel
theorem dX8_taskAt_2 : decode cX8_taskAt 2 = .ok (.invokevirtual 98, 3) := by decide +kernel
theorem dX8_taskAt_5 : decode cX8_taskAt 5 = .ok (.ifCond .ne 6, 3) := by decide +kernel
theorem dX8_taskAt_8 : decode cX8_taskAt 8 = .ok (.bipush (-101), 2) := by decide +kernel
theorem dX8_taskAt_10 : decode cX8_taskAt 10 = .ok (.ireturn, 1) := by decide +kernel
theorem dX8_taskAt_11 : decode cX8_taskAt 11 = .ok (.iload_n 2, 1) := by decide +kernel
theorem dX8_taskAt_12 : decode cX8_taskAt 12 = .ok (.tableswitch 75 0 4 #[36, 45, 54, 63, 69], 36) := by decide +kernel
theorem dX8_taskAt_48 : decode cX8_taskAt 48 = .ok (.aload_n 0, 1) := by decide +kernel
theorem dX8_taskAt_49 : decode cX8_taskAt 49 = .ok (.getfield 10, 3) := by decide +kernel
theorem dX8_taskAt_52 : decode cX8_taskAt 52 = .ok (.iload_n 1, 1) := by decide +kernel
theorem dX8_taskAt_53 : decode cX8_taskAt 53 = .ok (.invokevirtual 166, 3) := by decide +kernel
theorem dX8_taskAt_56 : decode cX8_taskAt 56 = .ok (.ireturn, 1) := by decide +kernel
theorem dX8_taskAt_57 : decode cX8_taskAt 57 = .ok (.aload_n 0, 1) := by decide +kernel
theorem dX8_taskAt_58 : decode cX8_taskAt 58 = .ok (.getfield 10, 3) := by decide +kernel
theorem dX8_taskAt_61 : decode cX8_taskAt 61 = .ok (.iload_n 1, 1) := by decide +kernel
theorem dX8_taskAt_62 : decode cX8_taskAt 62 = .ok (.invokevirtual 169, 3) := by decide +kernel
theorem dX8_taskAt_65 : decode cX8_taskAt 65 = .ok (.ireturn, 1) := by decide +kernel
theorem dX8_taskAt_66 : decode cX8_taskAt 66 = .ok (.aload_n 0, 1) := by decide +kernel
theorem dX8_taskAt_67 : decode cX8_taskAt 67 = .ok (.getfield 10, 3) := by decide +kernel
theorem dX8_taskAt_70 : decode cX8_taskAt 70 = .ok (.iload_n 1, 1) := by decide +kernel
theorem dX8_taskAt_71 : decode cX8_taskAt 71 = .ok (.invokevirtual 172, 3) := by decide +kernel
theorem dX8_taskAt_74 : decode cX8_taskAt 74 = .ok (.ireturn, 1) := by decide +kernel
theorem dX8_taskAt_75 : decode cX8_taskAt 75 = .ok (.aload_n 0, 1) := by decide +kernel
theorem dX8_taskAt_76 : decode cX8_taskAt 76 = .ok (.iload_n 1, 1) := by decide +kernel
theorem dX8_taskAt_77 : decode cX8_taskAt 77 = .ok (.invokevirtual 175, 3) := by decide +kernel
theorem dX8_taskAt_80 : decode cX8_taskAt 80 = .ok (.ireturn, 1) := by decide +kernel
theorem dX8_taskAt_81 : decode cX8_taskAt 81 = .ok (.aload_n 0, 1) := by decide +kernel
theorem dX8_taskAt_82 : decode cX8_taskAt 82 = .ok (.iload_n 1, 1) := by decide +kernel
theorem dX8_taskAt_83 : decode cX8_taskAt 83 = .ok (.invokevirtual 178, 3) := by decide +kernel
theorem dX8_taskAt_86 : decode cX8_taskAt 86 = .ok (.ireturn, 1) := by decide +kernel
theorem dX8_taskAt_87 : decode cX8_taskAt 87 = .ok (.bipush (-102), 2) := by decide +kernel
theorem dX8_taskAt_89 : decode cX8_taskAt 89 = .ok (.ireturn, 1) := by decide +kernel
theorem dX8_counted_0 : decode cX8_counted 0 = .ok (.iload_n 1, 1) := by decide +kernel
theorem dX8_counted_1 : decode cX8_counted 1 = .ok (.invokestatic 77, 3) := by decide +kernel
theorem dX8_counted_4 : decode cX8_counted 4 = .ok (.ifCond .eq 18, 3) := by decide +kernel
theorem dX8_counted_7 : decode cX8_counted 7 = .ok (.aload_n 0, 1) := by decide +kernel
theorem dX8_counted_8 : decode cX8_counted 8 = .ok (.getfield 26, 3) := by decide +kernel
theorem dX8_counted_11 : decode cX8_counted 11 = .ok (.getfield 110, 3) := by decide +kernel
theorem dX8_counted_14 : decode cX8_counted 14 = .ok (.getfield 114, 3) := by decide +kernel
theorem dX8_counted_17 : decode cX8_counted 17 = .ok (.iload_n 1, 1) := by decide +kernel
theorem dX8_counted_18 : decode cX8_counted 18 = .ok (.iaload, 1) := by decide +kernel
theorem dX8_counted_19 : decode cX8_counted 19 = .ok (.goto 5, 3) := by decide +kernel
theorem dX8_counted_22 : decode cX8_counted 22 = .ok (.bipush (-101), 2) := by decide +kernel
theorem dX8_counted_24 : decode cX8_counted 24 = .ok (.ireturn, 1) := by decide +kernel
theorem dX8_sum_0 : decode cX8_sum 0 = .ok (.iload_n 1, 1) := by decide +kernel
theorem dX8_sum_1 : decode cX8_sum 1 = .ok (.invokestatic 77, 3) := by decide +kernel
theorem dX8_sum_4 : decode cX8_sum 4 = .ok (.ifCond .eq 18, 3) := by decide +kernel
theorem dX8_sum_7 : decode cX8_sum 7 = .ok (.aload_n 0, 1) := by decide +kernel
theorem dX8_sum_8 : decode cX8_sum 8 = .ok (.getfield 26, 3) := by decide +kernel
theorem dX8_sum_11 : decode cX8_sum 11 = .ok (.getfield 110, 3) := by decide +kernel
theorem dX8_sum_14 : decode cX8_sum 14 = .ok (.getfield 119, 3) := by decide +kernel
theorem dX8_sum_17 : decode cX8_sum 17 = .ok (.iload_n 1, 1) := by decide +kernel
theorem dX8_sum_18 : decode cX8_sum 18 = .ok (.laload, 1) := by decide +kernel
theorem dX8_sum_19 : decode cX8_sum 19 = .ok (.goto 4, 3) := by decide +kernel
theorem dX8_sum_22 : decode cX8_sum 22 = .ok (.lconst 0, 1) := by decide +kernel
theorem dX8_sum_23 : decode cX8_sum 23 = .ok (.lreturn, 1) := by decide +kernel
theorem dX8_hot_0 : decode cX8_hot 0 = .ok (.aload_n 0, 1) := by decide +kernel
theorem dX8_hot_1 : decode cX8_hot 1 = .ok (.getfield 10, 3) := by decide +kernel
theorem dX8_hot_4 : decode cX8_hot 4 = .ok (.invokevirtual 181, 3) := by decide +kernel
theorem dX8_hot_7 : decode cX8_hot 7 = .ok (.istore_n 2, 1) := by decide +kernel
theorem dX8_hot_8 : decode cX8_hot 8 = .ok (.iconst 0, 1) := by decide +kernel
theorem dX8_hot_9 : decode cX8_hot 9 = .ok (.istore_n 3, 1) := by decide +kernel
theorem dX8_hot_10 : decode cX8_hot 10 = .ok (.iload_n 3, 1) := by decide +kernel
theorem dX8_hot_11 : decode cX8_hot 11 = .ok (.aload_n 0, 1) := by decide +kernel
theorem dX8_hot_12 : decode cX8_hot 12 = .ok (.getfield 10, 3) := by decide +kernel
theorem dX8_hot_15 : decode cX8_hot 15 = .ok (.getfield 140, 3) := by decide +kernel
theorem dX8_hot_18 : decode cX8_hot 18 = .ok (.if_icmp .ge 35, 3) := by decide +kernel
theorem dX8_hot_21 : decode cX8_hot 21 = .ok (.aload_n 0, 1) := by decide +kernel
theorem dX8_hot_22 : decode cX8_hot 22 = .ok (.getfield 10, 3) := by decide +kernel
theorem dX8_hot_25 : decode cX8_hot 25 = .ok (.iload_n 3, 1) := by decide +kernel
theorem dX8_hot_26 : decode cX8_hot 26 = .ok (.iload_n 2, 1) := by decide +kernel
theorem dX8_hot_27 : decode cX8_hot 27 = .ok (.invokevirtual 185, 3) := by decide +kernel
theorem dX8_hot_30 : decode cX8_hot 30 = .ok (.ifCond .eq 17, 3) := by decide +kernel
theorem dX8_hot_33 : decode cX8_hot 33 = .ok (.aload_n 0, 1) := by decide +kernel
theorem dX8_hot_34 : decode cX8_hot 34 = .ok (.getfield 10, 3) := by decide +kernel
theorem dX8_hot_37 : decode cX8_hot 37 = .ok (.iload_n 3, 1) := by decide +kernel
theorem dX8_hot_38 : decode cX8_hot 38 = .ok (.invokevirtual 189, 3) := by decide +kernel
theorem dX8_hot_41 : decode cX8_hot 41 = .ok (.iload_n 1, 1) := by decide +kernel
theorem dX8_hot_42 : decode cX8_hot 42 = .ok (.if_icmp .ne 5, 3) := by decide +kernel
theorem dX8_hot_45 : decode cX8_hot 45 = .ok (.iload_n 3, 1) := by decide +kernel
theorem dX8_hot_46 : decode cX8_hot 46 = .ok (.ireturn, 1) := by decide +kernel
theorem dX8_hot_47 : decode cX8_hot 47 = .ok (.iinc 3 1, 3) := by decide +kernel
theorem dX8_hot_50 : decode cX8_hot 50 = .ok (.goto (-40), 3) := by decide +kernel
theorem dX8_hot_53 : decode cX8_hot 53 = .ok (.bipush (-106), 2) := by decide +kernel
theorem dX8_hot_55 : decode cX8_hot 55 = .ok (.ireturn, 1) := by decide +kernel
theorem dX8_timer_0 : decode cX8_timer 0 = .ok (.iload_n 1, 1) := by decide +kernel
theorem dX8_timer_1 : decode cX8_timer 1 = .ok (.invokestatic 77, 3) := by decide +kernel
theorem dX8_timer_4 : decode cX8_timer 4 = .ok (.ifCond .ne 6, 3) := by decide +kernel
theorem dX8_timer_7 : decode cX8_timer 7 = .ok (.bipush (-101), 2) := by decide +kernel
theorem dX8_timer_9 : decode cX8_timer 9 = .ok (.ireturn, 1) := by decide +kernel
theorem dX8_timer_10 : decode cX8_timer 10 = .ok (.iload_n 2, 1) := by decide +kernel
theorem dX8_timer_11 : decode cX8_timer 11 = .ok (.aload_n 0, 1) := by decide +kernel
theorem dX8_timer_12 : decode cX8_timer 12 = .ok (.getfield 26, 3) := by decide +kernel
theorem dX8_timer_15 : decode cX8_timer 15 = .ok (.getfield 61, 3) := by decide +kernel
theorem dX8_timer_18 : decode cX8_timer 18 = .ok (.getfield 192, 3) := by decide +kernel
theorem dX8_timer_21 : decode cX8_timer 21 = .ok (.if_icmp .le 9, 3) := by decide +kernel
theorem dX8_timer_24 : decode cX8_timer 24 = .ok (.iload_n 2, 1) := by decide +kernel
theorem dX8_timer_25 : decode cX8_timer 25 = .ok (.ldc 195, 2) := by decide +kernel
theorem dX8_timer_27 : decode cX8_timer 27 = .ok (.if_icmp .le 6, 3) := by decide +kernel
theorem dX8_timer_30 : decode cX8_timer 30 = .ok (.bipush (-102), 2) := by decide +kernel
theorem dX8_timer_32 : decode cX8_timer 32 = .ok (.ireturn, 1) := by decide +kernel
theorem dX8_timer_33 : decode cX8_timer 33 = .ok (.aload_n 0, 1) := by decide +kernel
theorem dX8_timer_34 : decode cX8_timer 34 = .ok (.getfield 26, 3) := by decide +kernel
theorem dX8_timer_37 : decode cX8_timer 37 = .ok (.getfield 61, 3) := by decide +kernel
theorem dX8_timer_40 : decode cX8_timer 40 = .ok (.getfield 65, 3) := by decide +kernel
theorem dX8_timer_43 : decode cX8_timer 43 = .ok (.bipush 40, 2) := by decide +kernel
theorem dX8_timer_45 : decode cX8_timer 45 = .ok (.if_icmp .lt 6, 3) := by decide +kernel
theorem dX8_timer_48 : decode cX8_timer 48 = .ok (.bipush (-107), 2) := by decide +kernel
theorem dX8_timer_50 : decode cX8_timer 50 = .ok (.ireturn, 1) := by decide +kernel
theorem dX8_timer_51 : decode cX8_timer 51 = .ok (.aload_n 0, 1) := by decide +kernel
theorem dX8_timer_52 : decode cX8_timer 52 = .ok (.getfield 26, 3) := by decide +kernel
theorem dX8_timer_55 : decode cX8_timer 55 = .ok (.getfield 61, 3) := by decide +kernel
theorem dX8_timer_58 : decode cX8_timer 58 = .ok (.iload_n 1, 1) := by decide +kernel
theorem dX8_timer_59 : decode cX8_timer 59 = .ok (.iload_n 2, 1) := by decide +kernel
theorem dX8_timer_60 : decode cX8_timer 60 = .ok (.invokevirtual 196, 3) := by decide +kernel
theorem dX8_timer_63 : decode cX8_timer 63 = .ok (.aload_n 0, 1) := by decide +kernel
theorem dX8_timer_64 : decode cX8_timer 64 = .ok (.getfield 26, 3) := by decide +kernel
theorem dX8_timer_67 : decode cX8_timer 67 = .ok (.getfield 61, 3) := by decide +kernel
theorem dX8_timer_70 : decode cX8_timer 70 = .ok (.getfield 65, 3) := by decide +kernel
theorem dX8_timer_73 : decode cX8_timer 73 = .ok (.ireturn, 1) := by decide +kernel
theorem dX8_tick_0 : decode cX8_tick 0 = .ok (.iload_n 1, 1) := by decide +kernel
theorem dX8_tick_1 : decode cX8_tick 1 = .ok (.aload_n 0, 1) := by decide +kernel
theorem dX8_tick_2 : decode cX8_tick 2 = .ok (.getfield 26, 3) := by decide +kernel
theorem dX8_tick_5 : decode cX8_tick 5 = .ok (.getfield 61, 3) := by decide +kernel
theorem dX8_tick_8 : decode cX8_tick 8 = .ok (.getfield 192, 3) := by decide +kernel
theorem dX8_tick_11 : decode cX8_tick 11 = .ok (.if_icmp .lt 9, 3) := by decide +kernel
theorem dX8_tick_14 : decode cX8_tick 14 = .ok (.iload_n 1, 1) := by decide +kernel
theorem dX8_tick_15 : decode cX8_tick 15 = .ok (.ldc 195, 2) := by decide +kernel
theorem dX8_tick_17 : decode cX8_tick 17 = .ok (.if_icmp .le 6, 3) := by decide +kernel
theorem dX8_tick_20 : decode cX8_tick 20 = .ok (.bipush (-102), 2) := by decide +kernel
theorem dX8_tick_22 : decode cX8_tick 22 = .ok (.ireturn, 1) := by decide +kernel
theorem dX8_tick_23 : decode cX8_tick 23 = .ok (.aload_n 0, 1) := by decide +kernel
theorem dX8_tick_24 : decode cX8_tick 24 = .ok (.getfield 26, 3) := by decide +kernel
theorem dX8_tick_27 : decode cX8_tick 27 = .ok (.getfield 61, 3) := by decide +kernel
theorem dX8_tick_30 : decode cX8_tick 30 = .ok (.iload_n 1, 1) := by decide +kernel
theorem dX8_tick_31 : decode cX8_tick 31 = .ok (.invokevirtual 197, 3) := by decide +kernel
theorem dX8_tick_34 : decode cX8_tick 34 = .ok (.istore_n 2, 1) := by decide +kernel
theorem dX8_tick_35 : decode cX8_tick 35 = .ok (.iconst 0, 1) := by decide +kernel
theorem dX8_tick_36 : decode cX8_tick 36 = .ok (.istore_n 3, 1) := by decide +kernel
theorem dX8_tick_37 : decode cX8_tick 37 = .ok (.iload_n 3, 1) := by decide +kernel
theorem dX8_tick_38 : decode cX8_tick 38 = .ok (.iload_n 2, 1) := by decide +kernel
theorem dX8_tick_39 : decode cX8_tick 39 = .ok (.if_icmp .ge 82, 3) := by decide +kernel
theorem dX8_tick_42 : decode cX8_tick 42 = .ok (.aload_n 0, 1) := by decide +kernel
theorem dX8_tick_43 : decode cX8_tick 43 = .ok (.getfield 26, 3) := by decide +kernel
theorem dX8_tick_46 : decode cX8_tick 46 = .ok (.getfield 61, 3) := by decide +kernel
theorem dX8_tick_49 : decode cX8_tick 49 = .ok (.getfield 200, 3) := by decide +kernel
theorem dX8_tick_52 : decode cX8_tick 52 = .ok (.iload_n 3, 1) := by decide +kernel
theorem dX8_tick_53 : decode cX8_tick 53 = .ok (.iaload, 1) := by decide +kernel
theorem dX8_tick_54 : decode cX8_tick 54 = .ok (.istore 4, 2) := by decide +kernel
theorem dX8_tick_56 : decode cX8_tick 56 = .ok (.aload_n 0, 1) := by decide +kernel
theorem dX8_tick_57 : decode cX8_tick 57 = .ok (.getfield 40, 3) := by decide +kernel
theorem dX8_tick_60 : decode cX8_tick 60 = .ok (.iload 4, 2) := by decide +kernel
theorem dX8_tick_62 : decode cX8_tick 62 = .ok (.aload_n 0, 1) := by decide +kernel
theorem dX8_tick_63 : decode cX8_tick 63 = .ok (.getfield 26, 3) := by decide +kernel
theorem dX8_tick_66 : decode cX8_tick 66 = .ok (.getfield 61, 3) := by decide +kernel
theorem dX8_tick_69 : decode cX8_tick 69 = .ok (.getfield 201, 3) := by decide +kernel
theorem dX8_tick_72 : decode cX8_tick 72 = .ok (.iload_n 3, 1) := by decide +kernel
theorem dX8_tick_73 : decode cX8_tick 73 = .ok (.iaload, 1) := by decide +kernel
theorem dX8_tick_74 : decode cX8_tick 74 = .ok (.aload_n 0, 1) := by decide +kernel
theorem dX8_tick_75 : decode cX8_tick 75 = .ok (.getfield 26, 3) := by decide +kernel
theorem dX8_tick_78 : decode cX8_tick 78 = .ok (.getfield 110, 3) := by decide +kernel
theorem dX8_tick_81 : decode cX8_tick 81 = .ok (.getfield 114, 3) := by decide +kernel
theorem dX8_tick_84 : decode cX8_tick 84 = .ok (.iload 4, 2) := by decide +kernel
theorem dX8_tick_86 : decode cX8_tick 86 = .ok (.iaload, 1) := by decide +kernel
theorem dX8_tick_87 : decode cX8_tick 87 = .ok (.aload_n 0, 1) := by decide +kernel
theorem dX8_tick_88 : decode cX8_tick 88 = .ok (.getfield 26, 3) := by decide +kernel
theorem dX8_tick_91 : decode cX8_tick 91 = .ok (.getfield 110, 3) := by decide +kernel
theorem dX8_tick_94 : decode cX8_tick 94 = .ok (.getfield 119, 3) := by decide +kernel
theorem dX8_tick_97 : decode cX8_tick 97 = .ok (.iload 4, 2) := by decide +kernel
theorem dX8_tick_99 : decode cX8_tick 99 = .ok (.laload, 1) := by decide +kernel
theorem dX8_tick_100 : decode cX8_tick 100 = .ok (.invokevirtual 204, 3) := by decide +kernel
theorem dX8_tick_103 : decode cX8_tick 103 = .ok (.aload_n 0, 1) := by decide +kernel
theorem dX8_tick_104 : decode cX8_tick 104 = .ok (.getfield 26, 3) := by decide +kernel
theorem dX8_tick_107 : decode cX8_tick 107 = .ok (.getfield 110, 3) := by decide +kernel
theorem dX8_tick_110 : decode cX8_tick 110 = .ok (.iload 4, 2) := by decide +kernel
theorem dX8_tick_112 : decode cX8_tick 112 = .ok (.invokevirtual 207, 3) := by decide +kernel
theorem dX8_tick_115 : decode cX8_tick 115 = .ok (.iinc 3 1, 3) := by decide +kernel
theorem dX8_tick_118 : decode cX8_tick 118 = .ok (.goto (-81), 3) := by decide +kernel
theorem dX8_tick_121 : decode cX8_tick 121 = .ok (.aload_n 0, 1) := by decide +kernel
theorem dX8_tick_122 : decode cX8_tick 122 = .ok (.getfield 26, 3) := by decide +kernel
theorem dX8_tick_125 : decode cX8_tick 125 = .ok (.getfield 61, 3) := by decide +kernel
theorem dX8_tick_128 : decode cX8_tick 128 = .ok (.iload_n 2, 1) := by decide +kernel
theorem dX8_tick_129 : decode cX8_tick 129 = .ok (.invokevirtual 210, 3) := by decide +kernel
theorem dX8_tick_132 : decode cX8_tick 132 = .ok (.aload_n 0, 1) := by decide +kernel
theorem dX8_tick_133 : decode cX8_tick 133 = .ok (.getfield 26, 3) := by decide +kernel
theorem dX8_tick_136 : decode cX8_tick 136 = .ok (.getfield 61, 3) := by decide +kernel
theorem dX8_tick_139 : decode cX8_tick 139 = .ok (.iload_n 1, 1) := by decide +kernel
theorem dX8_tick_140 : decode cX8_tick 140 = .ok (.putfield 192, 3) := by decide +kernel
theorem dX8_tick_143 : decode cX8_tick 143 = .ok (.iload_n 2, 1) := by decide +kernel
theorem dX8_tick_144 : decode cX8_tick 144 = .ok (.ireturn, 1) := by decide +kernel
theorem dX8_out_0 : decode cX8_out 0 = .ok (.iload_n 2, 1) := by decide +kernel
theorem dX8_out_1 : decode cX8_out 1 = .ok (.ifCond .lt 8, 3) := by decide +kernel
theorem dX8_out_4 : decode cX8_out 4 = .ok (.iload_n 2, 1) := by decide +kernel
theorem dX8_out_5 : decode cX8_out 5 = .ok (.iconst 2, 1) := by decide +kernel
theorem dX8_out_6 : decode cX8_out 6 = .ok (.if_icmp .le 7, 3) := by decide +kernel
theorem dX8_out_9 : decode cX8_out 9 = .ok (.ldc2_w 213, 3) := by decide +kernel
theorem dX8_out_12 : decode cX8_out 12 = .ok (.lreturn, 1) := by decide +kernel
theorem dX8_out_13 : decode cX8_out 13 = .ok (.iload_n 1, 1) := by decide +kernel
theorem dX8_out_14 : decode cX8_out 14 = .ok (.ifCond .lt 14, 3) := by decide +kernel
theorem dX8_out_17 : decode cX8_out 17 = .ok (.iload_n 1, 1) := by decide +kernel
theorem dX8_out_18 : decode cX8_out 18 = .ok (.aload_n 0, 1) := by decide +kernel
theorem dX8_out_19 : decode cX8_out 19 = .ok (.getfield 33, 3) := by decide +kernel
theorem dX8_out_22 : decode cX8_out 22 = .ok (.getfield 215, 3) := by decide +kernel
theorem dX8_out_25 : decode cX8_out 25 = .ok (.if_icmp .lt 7, 3) := by decide +kernel
theorem dX8_out_28 : decode cX8_out 28 = .ok (.ldc2_w 216, 3) := by decide +kernel
theorem dX8_out_31 : decode cX8_out 31 = .ok (.lreturn, 1) := by decide +kernel
theorem dX8_out_32 : decode cX8_out 32 = .ok (.iload_n 2, 1) := by decide +kernel
theorem dX8_out_33 : decode cX8_out 33 = .ok (.lookupswitch 49 #[(0, 27), (1, 38)], 27) := by decide +kernel
theorem dX8_out_60 : decode cX8_out 60 = .ok (.aload_n 0, 1) := by decide +kernel
theorem dX8_out_61 : decode cX8_out 61 = .ok (.getfield 33, 3) := by decide +kernel
theorem dX8_out_64 : decode cX8_out 64 = .ok (.getfield 218, 3) := by decide +kernel
theorem dX8_out_67 : decode cX8_out 67 = .ok (.iload_n 1, 1) := by decide +kernel
theorem dX8_out_68 : decode cX8_out 68 = .ok (.iaload, 1) := by decide +kernel
theorem dX8_out_69 : decode cX8_out 69 = .ok (.i2l, 1) := by decide +kernel
theorem dX8_out_70 : decode cX8_out 70 = .ok (.lreturn, 1) := by decide +kernel
theorem dX8_out_71 : decode cX8_out 71 = .ok (.aload_n 0, 1) := by decide +kernel
theorem dX8_out_72 : decode cX8_out 72 = .ok (.getfield 33, 3) := by decide +kernel
theorem dX8_out_75 : decode cX8_out 75 = .ok (.getfield 219, 3) := by decide +kernel
theorem dX8_out_78 : decode cX8_out 78 = .ok (.iload_n 1, 1) := by decide +kernel
theorem dX8_out_79 : decode cX8_out 79 = .ok (.iaload, 1) := by decide +kernel
theorem dX8_out_80 : decode cX8_out 80 = .ok (.i2l, 1) := by decide +kernel
theorem dX8_out_81 : decode cX8_out 81 = .ok (.lreturn, 1) := by decide +kernel
theorem dX8_out_82 : decode cX8_out 82 = .ok (.aload_n 0, 1) := by decide +kernel
theorem dX8_out_83 : decode cX8_out 83 = .ok (.getfield 33, 3) := by decide +kernel
theorem dX8_out_86 : decode cX8_out 86 = .ok (.getfield 220, 3) := by decide +kernel
theorem dX8_out_89 : decode cX8_out 89 = .ok (.iload_n 1, 1) := by decide +kernel
theorem dX8_out_90 : decode cX8_out 90 = .ok (.laload, 1) := by decide +kernel
theorem dX8_out_91 : decode cX8_out 91 = .ok (.lreturn, 1) := by decide +kernel
theorem dX8_log_0 : decode cX8_log 0 = .ok (.iload_n 2, 1) := by decide +kernel
theorem dX8_log_1 : decode cX8_log 1 = .ok (.ifCond .lt 8, 3) := by decide +kernel
theorem dX8_log_4 : decode cX8_log 4 = .ok (.iload_n 2, 1) := by decide +kernel
theorem dX8_log_5 : decode cX8_log 5 = .ok (.iconst 3, 1) := by decide +kernel
theorem dX8_log_6 : decode cX8_log 6 = .ok (.if_icmp .le 7, 3) := by decide +kernel
theorem dX8_log_9 : decode cX8_log 9 = .ok (.ldc2_w 213, 3) := by decide +kernel
theorem dX8_log_12 : decode cX8_log 12 = .ok (.lreturn, 1) := by decide +kernel
theorem dX8_log_13 : decode cX8_log 13 = .ok (.iload_n 1, 1) := by decide +kernel
theorem dX8_log_14 : decode cX8_log 14 = .ok (.ifCond .lt 14, 3) := by decide +kernel
theorem dX8_log_17 : decode cX8_log 17 = .ok (.iload_n 1, 1) := by decide +kernel
theorem dX8_log_18 : decode cX8_log 18 = .ok (.aload_n 0, 1) := by decide +kernel
theorem dX8_log_19 : decode cX8_log 19 = .ok (.getfield 40, 3) := by decide +kernel
theorem dX8_log_22 : decode cX8_log 22 = .ok (.getfield 221, 3) := by decide +kernel
theorem dX8_log_25 : decode cX8_log 25 = .ok (.if_icmp .lt 7, 3) := by decide +kernel
theorem dX8_log_28 : decode cX8_log 28 = .ok (.ldc2_w 216, 3) := by decide +kernel
theorem dX8_log_31 : decode cX8_log 31 = .ok (.lreturn, 1) := by decide +kernel
theorem dX8_log_32 : decode cX8_log 32 = .ok (.aload_n 0, 1) := by decide +kernel
theorem dX8_log_33 : decode cX8_log 33 = .ok (.getfield 40, 3) := by decide +kernel
theorem dX8_log_36 : decode cX8_log 36 = .ok (.iload_n 1, 1) := by decide +kernel
theorem dX8_log_37 : decode cX8_log 37 = .ok (.invokevirtual 222, 3) := by decide +kernel
theorem dX8_log_40 : decode cX8_log 40 = .ok (.istore_n 3, 1) := by decide +kernel
theorem dX8_log_41 : decode cX8_log 41 = .ok (.iload_n 2, 1) := by decide +kernel
theorem dX8_log_42 : decode cX8_log 42 = .ok (.tableswitch 59 0 2 #[26, 37, 48], 26) := by decide +kernel
theorem dX8_log_68 : decode cX8_log 68 = .ok (.aload_n 0, 1) := by decide +kernel
theorem dX8_log_69 : decode cX8_log 69 = .ok (.getfield 40, 3) := by decide +kernel
theorem dX8_log_72 : decode cX8_log 72 = .ok (.getfield 225, 3) := by decide +kernel
theorem dX8_log_75 : decode cX8_log 75 = .ok (.iload_n 3, 1) := by decide +kernel
theorem dX8_log_76 : decode cX8_log 76 = .ok (.iaload, 1) := by decide +kernel
theorem dX8_log_77 : decode cX8_log 77 = .ok (.i2l, 1) := by decide +kernel
theorem dX8_log_78 : decode cX8_log 78 = .ok (.lreturn, 1) := by decide +kernel
theorem dX8_log_79 : decode cX8_log 79 = .ok (.aload_n 0, 1) := by decide +kernel
theorem dX8_log_80 : decode cX8_log 80 = .ok (.getfield 40, 3) := by decide +kernel
theorem dX8_log_83 : decode cX8_log 83 = .ok (.getfield 226, 3) := by decide +kernel
theorem dX8_log_86 : decode cX8_log 86 = .ok (.iload_n 3, 1) := by decide +kernel
theorem dX8_log_87 : decode cX8_log 87 = .ok (.iaload, 1) := by decide +kernel
theorem dX8_log_88 : decode cX8_log 88 = .ok (.i2l, 1) := by decide +kernel
theorem dX8_log_89 : decode cX8_log 89 = .ok (.lreturn, 1) := by decide +kernel
theorem dX8_log_90 : decode cX8_log 90 = .ok (.aload_n 0, 1) := by decide +kernel
theorem dX8_log_91 : decode cX8_log 91 = .ok (.getfield 40, 3) := by decide +kernel
theorem dX8_log_94 : decode cX8_log 94 = .ok (.getfield 227, 3) := by decide +kernel
theorem dX8_log_97 : decode cX8_log 97 = .ok (.iload_n 3, 1) := by decide +kernel
theorem dX8_log_98 : decode cX8_log 98 = .ok (.iaload, 1) := by decide +kernel
theorem dX8_log_99 : decode cX8_log 99 = .ok (.i2l, 1) := by decide +kernel
theorem dX8_log_100 : decode cX8_log 100 = .ok (.lreturn, 1) := by decide +kernel
theorem dX8_log_101 : decode cX8_log 101 = .ok (.aload_n 0, 1) := by decide +kernel
theorem dX8_log_102 : decode cX8_log 102 = .ok (.getfield 40, 3) := by decide +kernel
theorem dX8_log_105 : decode cX8_log 105 = .ok (.getfield 228, 3) := by decide +kernel
theorem dX8_log_108 : decode cX8_log 108 = .ok (.iload_n 3, 1) := by decide +kernel
theorem dX8_log_109 : decode cX8_log 109 = .ok (.laload, 1) := by decide +kernel
theorem dX8_log_110 : decode cX8_log 110 = .ok (.lreturn, 1) := by decide +kernel
theorem dX8_mark_0 : decode cX8_mark 0 = .ok (.aload_n 0, 1) := by decide +kernel
theorem dX8_mark_1 : decode cX8_mark 1 = .ok (.getfield 70, 3) := by decide +kernel
theorem dX8_mark_4 : decode cX8_mark 4 = .ok (.iconst 3, 1) := by decide +kernel
theorem dX8_mark_5 : decode cX8_mark 5 = .ok (.if_icmp .lt 6, 3) := by decide +kernel
theorem dX8_mark_8 : decode cX8_mark 8 = .ok (.bipush (-107), 2) := by decide +kernel
theorem dX8_mark_10 : decode cX8_mark 10 = .ok (.ireturn, 1) := by decide +kernel
theorem dX8_mark_11 : decode cX8_mark 11 = .ok (.aload_n 0, 1) := by decide +kernel
theorem dX8_mark_12 : decode cX8_mark 12 = .ok (.getfield 70, 3) := by decide +kernel
theorem dX8_mark_15 : decode cX8_mark 15 = .ok (.istore_n 1, 1) := by decide +kernel
theorem dX8_mark_16 : decode cX8_mark 16 = .ok (.aload_n 0, 1) := by decide +kernel
theorem dX8_mark_17 : decode cX8_mark 17 = .ok (.getfield 44, 3) := by decide +kernel
theorem dX8_mark_20 : decode cX8_mark 20 = .ok (.iload_n 1, 1) := by decide +kernel
theorem dX8_mark_21 : decode cX8_mark 21 = .ok (.aaload, 1) := by decide +kernel
theorem dX8_mark_22 : decode cX8_mark 22 = .ok (.ifnonnull 16, 3) := by decide +kernel
theorem dX8_mark_25 : decode cX8_mark 25 = .ok (.aload_n 0, 1) := by decide +kernel
theorem dX8_mark_26 : decode cX8_mark 26 = .ok (.getfield 44, 3) := by decide +kernel
theorem dX8_mark_29 : decode cX8_mark 29 = .ok (.iload_n 1, 1) := by decide +kernel
theorem dX8_mark_30 : decode cX8_mark 30 = .ok (.new 23, 3) := by decide +kernel
theorem dX8_mark_33 : decode cX8_mark 33 = .ok (.dup, 1) := by decide +kernel
theorem dX8_mark_34 : decode cX8_mark 34 = .ok (.invokespecial 25, 3) := by decide +kernel
theorem dX8_mark_37 : decode cX8_mark 37 = .ok (.aastore, 1) := by decide +kernel
theorem dX8_mark_38 : decode cX8_mark 38 = .ok (.aload_n 0, 1) := by decide +kernel
theorem dX8_mark_39 : decode cX8_mark 39 = .ok (.getfield 44, 3) := by decide +kernel
theorem dX8_mark_42 : decode cX8_mark 42 = .ok (.iload_n 1, 1) := by decide +kernel
theorem dX8_mark_43 : decode cX8_mark 43 = .ok (.aaload, 1) := by decide +kernel
theorem dX8_mark_44 : decode cX8_mark 44 = .ok (.aload_n 0, 1) := by decide +kernel
theorem dX8_mark_45 : decode cX8_mark 45 = .ok (.getfield 26, 3) := by decide +kernel
theorem dX8_mark_48 : decode cX8_mark 48 = .ok (.invokevirtual 229, 3) := by decide +kernel
theorem dX8_mark_51 : decode cX8_mark 51 = .ok (.aload_n 0, 1) := by decide +kernel
theorem dX8_mark_52 : decode cX8_mark 52 = .ok (.dup, 1) := by decide +kernel
theorem dX8_mark_53 : decode cX8_mark 53 = .ok (.getfield 70, 3) := by decide +kernel
theorem dX8_mark_56 : decode cX8_mark 56 = .ok (.iconst 1, 1) := by decide +kernel
theorem dX8_mark_57 : decode cX8_mark 57 = .ok (.iadd, 1) := by decide +kernel
theorem dX8_mark_58 : decode cX8_mark 58 = .ok (.putfield 70, 3) := by decide +kernel
theorem dX8_mark_61 : decode cX8_mark 61 = .ok (.iload_n 1, 1) := by decide +kernel
theorem dX8_mark_62 : decode cX8_mark 62 = .ok (.ireturn, 1) := by decide +kernel
theorem dX8_restore_0 : decode cX8_restore 0 = .ok (.iload_n 1, 1) := by decide +kernel
theorem dX8_restore_1 : decode cX8_restore 1 = .ok (.ifCond .lt 20, 3) := by decide +kernel
theorem dX8_restore_4 : decode cX8_restore 4 = .ok (.iload_n 1, 1) := by decide +kernel
theorem dX8_restore_5 : decode cX8_restore 5 = .ok (.aload_n 0, 1) := by decide +kernel
theorem dX8_restore_6 : decode cX8_restore 6 = .ok (.getfield 70, 3) := by decide +kernel
theorem dX8_restore_9 : decode cX8_restore 9 = .ok (.if_icmp .ge 12, 3) := by decide +kernel
theorem dX8_restore_12 : decode cX8_restore 12 = .ok (.aload_n 0, 1) := by decide +kernel
theorem dX8_restore_13 : decode cX8_restore 13 = .ok (.getfield 44, 3) := by decide +kernel
theorem dX8_restore_16 : decode cX8_restore 16 = .ok (.iload_n 1, 1) := by decide +kernel
theorem dX8_restore_17 : decode cX8_restore 17 = .ok (.aaload, 1) := by decide +kernel
theorem dX8_restore_18 : decode cX8_restore 18 = .ok (.ifnonnull 6, 3) := by decide +kernel
theorem dX8_restore_21 : decode cX8_restore 21 = .ok (.bipush (-101), 2) := by decide +kernel
theorem dX8_restore_23 : decode cX8_restore 23 = .ok (.ireturn, 1) := by decide +kernel
theorem dX8_restore_24 : decode cX8_restore 24 = .ok (.iload_n 2, 1) := by decide +kernel
theorem dX8_restore_25 : decode cX8_restore 25 = .ok (.iconst 1, 1) := by decide +kernel
theorem dX8_restore_26 : decode cX8_restore 26 = .ok (.if_icmp .ge 6, 3) := by decide +kernel
theorem dX8_restore_29 : decode cX8_restore 29 = .ok (.bipush (-102), 2) := by decide +kernel
theorem dX8_restore_31 : decode cX8_restore 31 = .ok (.ireturn, 1) := by decide +kernel
theorem dX8_restore_32 : decode cX8_restore 32 = .ok (.iload_n 2, 1) := by decide +kernel
theorem dX8_restore_33 : decode cX8_restore 33 = .ok (.aload_n 0, 1) := by decide +kernel
theorem dX8_restore_34 : decode cX8_restore 34 = .ok (.getfield 10, 3) := by decide +kernel
theorem dX8_restore_37 : decode cX8_restore 37 = .ok (.getfield 137, 3) := by decide +kernel
theorem dX8_restore_40 : decode cX8_restore 40 = .ok (.if_icmp .le 6, 3) := by decide +kernel
theorem dX8_restore_43 : decode cX8_restore 43 = .ok (.bipush (-105), 2) := by decide +kernel
theorem dX8_restore_45 : decode cX8_restore 45 = .ok (.ireturn, 1) := by decide +kernel
theorem dX8_restore_46 : decode cX8_restore 46 = .ok (.aload_n 0, 1) := by decide +kernel
theorem dX8_restore_47 : decode cX8_restore 47 = .ok (.getfield 26, 3) := by decide +kernel
theorem dX8_restore_50 : decode cX8_restore 50 = .ok (.aload_n 0, 1) := by decide +kernel
theorem dX8_restore_51 : decode cX8_restore 51 = .ok (.getfield 44, 3) := by decide +kernel
theorem dX8_restore_54 : decode cX8_restore 54 = .ok (.iload_n 1, 1) := by decide +kernel
theorem dX8_restore_55 : decode cX8_restore 55 = .ok (.aaload, 1) := by decide +kernel
theorem dX8_restore_56 : decode cX8_restore 56 = .ok (.invokevirtual 229, 3) := by decide +kernel
theorem dX8_restore_59 : decode cX8_restore 59 = .ok (.aload_n 0, 1) := by decide +kernel
theorem dX8_restore_60 : decode cX8_restore 60 = .ok (.getfield 19, 3) := by decide +kernel
theorem dX8_restore_63 : decode cX8_restore 63 = .ok (.aload_n 0, 1) := by decide +kernel
theorem dX8_restore_64 : decode cX8_restore 64 = .ok (.getfield 10, 3) := by decide +kernel
theorem dX8_restore_67 : decode cX8_restore 67 = .ok (.getfield 140, 3) := by decide +kernel
theorem dX8_restore_70 : decode cX8_restore 70 = .ok (.iload_n 2, 1) := by decide +kernel
theorem dX8_restore_71 : decode cX8_restore 71 = .ok (.invokevirtual 143, 3) := by decide +kernel
theorem dX8_restore_74 : decode cX8_restore 74 = .ok (.aload_n 0, 1) := by decide +kernel
theorem dX8_restore_75 : decode cX8_restore 75 = .ok (.getfield 10, 3) := by decide +kernel
theorem dX8_restore_78 : decode cX8_restore 78 = .ok (.aload_n 0, 1) := by decide +kernel
theorem dX8_restore_79 : decode cX8_restore 79 = .ok (.getfield 19, 3) := by decide +kernel
theorem dX8_restore_82 : decode cX8_restore 82 = .ok (.getfield 150, 3) := by decide +kernel
theorem dX8_restore_85 : decode cX8_restore 85 = .ok (.iload_n 2, 1) := by decide +kernel
theorem dX8_restore_86 : decode cX8_restore 86 = .ok (.invokevirtual 233, 3) := by decide +kernel
theorem dX8_restore_89 : decode cX8_restore 89 = .ok (.aload_n 0, 1) := by decide +kernel
theorem dX8_restore_90 : decode cX8_restore 90 = .ok (.getfield 33, 3) := by decide +kernel
theorem dX8_restore_93 : decode cX8_restore 93 = .ok (.iconst 0, 1) := by decide +kernel
theorem dX8_restore_94 : decode cX8_restore 94 = .ok (.putfield 215, 3) := by decide +kernel
theorem dX8_restore_97 : decode cX8_restore 97 = .ok (.aload_n 0, 1) := by decide +kernel
theorem dX8_restore_98 : decode cX8_restore 98 = .ok (.getfield 40, 3) := by decide +kernel
theorem dX8_restore_101 : decode cX8_restore 101 = .ok (.iconst 0, 1) := by decide +kernel
theorem dX8_restore_102 : decode cX8_restore 102 = .ok (.putfield 221, 3) := by decide +kernel
theorem dX8_restore_105 : decode cX8_restore 105 = .ok (.aload_n 0, 1) := by decide +kernel
theorem dX8_restore_106 : decode cX8_restore 106 = .ok (.getfield 26, 3) := by decide +kernel
theorem dX8_restore_109 : decode cX8_restore 109 = .ok (.getfield 52, 3) := by decide +kernel
theorem dX8_restore_112 : decode cX8_restore 112 = .ok (.getfield 237, 3) := by decide +kernel
theorem dX8_restore_115 : decode cX8_restore 115 = .ok (.ireturn, 1) := by decide +kernel
theorem dX8_digest_0 : decode cX8_digest 0 = .ok (.bipush 17, 2) := by decide +kernel
theorem dX8_digest_2 : decode cX8_digest 2 = .ok (.istore_n 1, 1) := by decide +kernel
theorem dX8_digest_3 : decode cX8_digest 3 = .ok (.iconst 0, 1) := by decide +kernel
theorem dX8_digest_4 : decode cX8_digest 4 = .ok (.istore_n 2, 1) := by decide +kernel
theorem dX8_digest_5 : decode cX8_digest 5 = .ok (.iload_n 2, 1) := by decide +kernel
theorem dX8_digest_6 : decode cX8_digest 6 = .ok (.aload_n 0, 1) := by decide +kernel
theorem dX8_digest_7 : decode cX8_digest 7 = .ok (.getfield 10, 3) := by decide +kernel
theorem dX8_digest_10 : decode cX8_digest 10 = .ok (.getfield 140, 3) := by decide +kernel
theorem dX8_digest_13 : decode cX8_digest 13 = .ok (.if_icmp .ge 37, 3) := by decide +kernel
theorem dX8_digest_16 : decode cX8_digest 16 = .ok (.bipush 31, 2) := by decide +kernel
theorem dX8_digest_18 : decode cX8_digest 18 = .ok (.iload_n 1, 1) := by decide +kernel
theorem dX8_digest_19 : decode cX8_digest 19 = .ok (.imul, 1) := by decide +kernel
theorem dX8_digest_20 : decode cX8_digest 20 = .ok (.bipush 100, 2) := by decide +kernel
theorem dX8_digest_22 : decode cX8_digest 22 = .ok (.aload_n 0, 1) := by decide +kernel
theorem dX8_digest_23 : decode cX8_digest 23 = .ok (.getfield 10, 3) := by decide +kernel
theorem dX8_digest_26 : decode cX8_digest 26 = .ok (.getfield 95, 3) := by decide +kernel
theorem dX8_digest_29 : decode cX8_digest 29 = .ok (.iload_n 2, 1) := by decide +kernel
theorem dX8_digest_30 : decode cX8_digest 30 = .ok (.iaload, 1) := by decide +kernel
theorem dX8_digest_31 : decode cX8_digest 31 = .ok (.imul, 1) := by decide +kernel
theorem dX8_digest_32 : decode cX8_digest 32 = .ok (.iadd, 1) := by decide +kernel
theorem dX8_digest_33 : decode cX8_digest 33 = .ok (.aload_n 0, 1) := by decide +kernel
theorem dX8_digest_34 : decode cX8_digest 34 = .ok (.getfield 10, 3) := by decide +kernel
theorem dX8_digest_37 : decode cX8_digest 37 = .ok (.getfield 134, 3) := by decide +kernel
theorem dX8_digest_40 : decode cX8_digest 40 = .ok (.iload_n 2, 1) := by decide +kernel
theorem dX8_digest_41 : decode cX8_digest 41 = .ok (.iaload, 1) := by decide +kernel
theorem dX8_digest_42 : decode cX8_digest 42 = .ok (.iadd, 1) := by decide +kernel
theorem dX8_digest_43 : decode cX8_digest 43 = .ok (.istore_n 1, 1) := by decide +kernel
theorem dX8_digest_44 : decode cX8_digest 44 = .ok (.iinc 2 1, 3) := by decide +kernel
theorem dX8_digest_47 : decode cX8_digest 47 = .ok (.goto (-42), 3) := by decide +kernel
theorem dX8_digest_50 : decode cX8_digest 50 = .ok (.iload_n 1, 1) := by decide +kernel
theorem dX8_digest_51 : decode cX8_digest 51 = .ok (.ireturn, 1) := by decide +kernel
theorem dX8_told_0 : decode cX8_told 0 = .ok (.iload_n 1, 1) := by decide +kernel
theorem dX8_told_1 : decode cX8_told 1 = .ok (.tableswitch 168 0 11 #[63, 71, 79, 87, 98, 109, 117, 125, 136, 147, 155, 160], 63) := by decide +kernel
theorem dX8_told_64 : decode cX8_told 64 = .ok (.aload_n 0, 1) := by decide +kernel
theorem dX8_told_65 : decode cX8_told 65 = .ok (.getfield 10, 3) := by decide +kernel
theorem dX8_told_68 : decode cX8_told 68 = .ok (.getfield 140, 3) := by decide +kernel
theorem dX8_told_71 : decode cX8_told 71 = .ok (.ireturn, 1) := by decide +kernel
theorem dX8_told_72 : decode cX8_told 72 = .ok (.aload_n 0, 1) := by decide +kernel
theorem dX8_told_73 : decode cX8_told 73 = .ok (.getfield 10, 3) := by decide +kernel
theorem dX8_told_76 : decode cX8_told 76 = .ok (.getfield 137, 3) := by decide +kernel
theorem dX8_told_79 : decode cX8_told 79 = .ok (.ireturn, 1) := by decide +kernel
theorem dX8_told_80 : decode cX8_told 80 = .ok (.aload_n 0, 1) := by decide +kernel
theorem dX8_told_81 : decode cX8_told 81 = .ok (.getfield 10, 3) := by decide +kernel
theorem dX8_told_84 : decode cX8_told 84 = .ok (.getfield 238, 3) := by decide +kernel
theorem dX8_told_87 : decode cX8_told 87 = .ok (.ireturn, 1) := by decide +kernel
theorem dX8_told_88 : decode cX8_told 88 = .ok (.aload_n 0, 1) := by decide +kernel
theorem dX8_told_89 : decode cX8_told 89 = .ok (.getfield 26, 3) := by decide +kernel
theorem dX8_told_92 : decode cX8_told 92 = .ok (.getfield 52, 3) := by decide +kernel
theorem dX8_told_95 : decode cX8_told 95 = .ok (.getfield 56, 3) := by decide +kernel
theorem dX8_told_98 : decode cX8_told 98 = .ok (.ireturn, 1) := by decide +kernel
theorem dX8_told_99 : decode cX8_told 99 = .ok (.aload_n 0, 1) := by decide +kernel
theorem dX8_told_100 : decode cX8_told 100 = .ok (.getfield 26, 3) := by decide +kernel
theorem dX8_told_103 : decode cX8_told 103 = .ok (.getfield 52, 3) := by decide +kernel
theorem dX8_told_106 : decode cX8_told 106 = .ok (.getfield 237, 3) := by decide +kernel
theorem dX8_told_109 : decode cX8_told 109 = .ok (.ireturn, 1) := by decide +kernel
theorem dX8_told_110 : decode cX8_told 110 = .ok (.aload_n 0, 1) := by decide +kernel
theorem dX8_told_111 : decode cX8_told 111 = .ok (.getfield 33, 3) := by decide +kernel
theorem dX8_told_114 : decode cX8_told 114 = .ok (.getfield 215, 3) := by decide +kernel
theorem dX8_told_117 : decode cX8_told 117 = .ok (.ireturn, 1) := by decide +kernel
theorem dX8_told_118 : decode cX8_told 118 = .ok (.aload_n 0, 1) := by decide +kernel
theorem dX8_told_119 : decode cX8_told 119 = .ok (.getfield 10, 3) := by decide +kernel
theorem dX8_told_122 : decode cX8_told 122 = .ok (.invokevirtual 181, 3) := by decide +kernel
theorem dX8_told_125 : decode cX8_told 125 = .ok (.ireturn, 1) := by decide +kernel
theorem dX8_told_126 : decode cX8_told 126 = .ok (.aload_n 0, 1) := by decide +kernel
theorem dX8_told_127 : decode cX8_told 127 = .ok (.getfield 26, 3) := by decide +kernel
theorem dX8_told_130 : decode cX8_told 130 = .ok (.getfield 61, 3) := by decide +kernel
theorem dX8_told_133 : decode cX8_told 133 = .ok (.getfield 65, 3) := by decide +kernel
theorem dX8_told_136 : decode cX8_told 136 = .ok (.ireturn, 1) := by decide +kernel
theorem dX8_told_137 : decode cX8_told 137 = .ok (.aload_n 0, 1) := by decide +kernel
theorem dX8_told_138 : decode cX8_told 138 = .ok (.getfield 26, 3) := by decide +kernel
theorem dX8_told_141 : decode cX8_told 141 = .ok (.getfield 61, 3) := by decide +kernel
theorem dX8_told_144 : decode cX8_told 144 = .ok (.getfield 192, 3) := by decide +kernel
theorem dX8_told_147 : decode cX8_told 147 = .ok (.ireturn, 1) := by decide +kernel
theorem dX8_told_148 : decode cX8_told 148 = .ok (.aload_n 0, 1) := by decide +kernel
theorem dX8_told_149 : decode cX8_told 149 = .ok (.getfield 40, 3) := by decide +kernel
theorem dX8_told_152 : decode cX8_told 152 = .ok (.getfield 221, 3) := by decide +kernel
theorem dX8_told_155 : decode cX8_told 155 = .ok (.ireturn, 1) := by decide +kernel
theorem dX8_told_156 : decode cX8_told 156 = .ok (.aload_n 0, 1) := by decide +kernel
theorem dX8_told_157 : decode cX8_told 157 = .ok (.getfield 70, 3) := by decide +kernel
theorem dX8_told_160 : decode cX8_told 160 = .ok (.ireturn, 1) := by decide +kernel
theorem dX8_told_161 : decode cX8_told 161 = .ok (.aload_n 0, 1) := by decide +kernel
theorem dX8_told_162 : decode cX8_told 162 = .ok (.getfield 10, 3) := by decide +kernel
theorem dX8_told_165 : decode cX8_told 165 = .ok (.getfield 241, 3) := by decide +kernel
theorem dX8_told_168 : decode cX8_told 168 = .ok (.ireturn, 1) := by decide +kernel
theorem dX8_told_169 : decode cX8_told 169 = .ok (.bipush (-102), 2) := by decide +kernel
theorem dX8_told_171 : decode cX8_told 171 = .ok (.ireturn, 1) := by decide +kernel
theorem dX8_clear_0 : decode cX8_clear 0 = .ok (.aload_n 0, 1) := by decide +kernel
theorem dX8_clear_1 : decode cX8_clear 1 = .ok (.getfield 26, 3) := by decide +kernel
theorem dX8_clear_4 : decode cX8_clear 4 = .ok (.getfield 52, 3) := by decide +kernel
theorem dX8_clear_7 : decode cX8_clear 7 = .ok (.getfield 56, 3) := by decide +kernel
theorem dX8_clear_10 : decode cX8_clear 10 = .ok (.istore_n 1, 1) := by decide +kernel
theorem dX8_clear_11 : decode cX8_clear 11 = .ok (.aload_n 0, 1) := by decide +kernel
theorem dX8_clear_12 : decode cX8_clear 12 = .ok (.getfield 10, 3) := by decide +kernel
theorem dX8_clear_15 : decode cX8_clear 15 = .ok (.invokevirtual 244, 3) := by decide +kernel
theorem dX8_clear_18 : decode cX8_clear 18 = .ok (.aload_n 0, 1) := by decide +kernel
theorem dX8_clear_19 : decode cX8_clear 19 = .ok (.getfield 26, 3) := by decide +kernel
theorem dX8_clear_22 : decode cX8_clear 22 = .ok (.invokevirtual 247, 3) := by decide +kernel
theorem dX8_clear_25 : decode cX8_clear 25 = .ok (.aload_n 0, 1) := by decide +kernel
theorem dX8_clear_26 : decode cX8_clear 26 = .ok (.getfield 33, 3) := by decide +kernel
theorem dX8_clear_29 : decode cX8_clear 29 = .ok (.iconst 0, 1) := by decide +kernel
theorem dX8_clear_30 : decode cX8_clear 30 = .ok (.putfield 215, 3) := by decide +kernel
theorem dX8_clear_33 : decode cX8_clear 33 = .ok (.aload_n 0, 1) := by decide +kernel
theorem dX8_clear_34 : decode cX8_clear 34 = .ok (.getfield 40, 3) := by decide +kernel
theorem dX8_clear_37 : decode cX8_clear 37 = .ok (.iconst 0, 1) := by decide +kernel
theorem dX8_clear_38 : decode cX8_clear 38 = .ok (.putfield 221, 3) := by decide +kernel
theorem dX8_clear_41 : decode cX8_clear 41 = .ok (.aload_n 0, 1) := by decide +kernel
theorem dX8_clear_42 : decode cX8_clear 42 = .ok (.iconst 0, 1) := by decide +kernel
theorem dX8_clear_43 : decode cX8_clear 43 = .ok (.putfield 70, 3) := by decide +kernel
theorem dX8_clear_46 : decode cX8_clear 46 = .ok (.aload_n 0, 1) := by decide +kernel
theorem dX8_clear_47 : decode cX8_clear 47 = .ok (.bipush 20, 2) := by decide +kernel
theorem dX8_clear_49 : decode cX8_clear 49 = .ok (.putfield 48, 3) := by decide +kernel
theorem dX8_clear_52 : decode cX8_clear 52 = .ok (.iload_n 1, 1) := by decide +kernel
theorem dX8_clear_53 : decode cX8_clear 53 = .ok (.ireturn, 1) := by decide +kernel
theorem dX8_isKey_0 : decode cX8_isKey 0 = .ok (.iload_n 0, 1) := by decide +kernel
theorem dX8_isKey_1 : decode cX8_isKey 1 = .ok (.ifCond .lt 13, 3) := by decide +kernel
theorem dX8_isKey_4 : decode cX8_isKey 4 = .ok (.iload_n 0, 1) := by decide +kernel
theorem dX8_isKey_5 : decode cX8_isKey 5 = .ok (.bipush 100, 2) := by decide +kernel
theorem dX8_isKey_7 : decode cX8_isKey 7 = .ok (.if_icmp .ge 7, 3) := by decide +kernel
theorem dX8_isKey_10 : decode cX8_isKey 10 = .ok (.iconst 1, 1) := by decide +kernel
theorem dX8_isKey_11 : decode cX8_isKey 11 = .ok (.goto 4, 3) := by decide +kernel
theorem dX8_isKey_14 : decode cX8_isKey 14 = .ok (.iconst 0, 1) := by decide +kernel
theorem dX8_isKey_15 : decode cX8_isKey 15 = .ok (.ireturn, 1) := by decide +kernel
theorem dX8_isValue_0 : decode cX8_isValue 0 = .ok (.iload_n 0, 1) := by decide +kernel
theorem dX8_isValue_1 : decode cX8_isValue 1 = .ok (.sipush (-1000), 3) := by decide +kernel
theorem dX8_isValue_4 : decode cX8_isValue 4 = .ok (.if_icmp .lt 14, 3) := by decide +kernel
theorem dX8_isValue_7 : decode cX8_isValue 7 = .ok (.iload_n 0, 1) := by decide +kernel
theorem dX8_isValue_8 : decode cX8_isValue 8 = .ok (.sipush 1000, 3) := by decide +kernel
theorem dX8_isValue_11 : decode cX8_isValue 11 = .ok (.if_icmp .gt 7, 3) := by decide +kernel
theorem dX8_isValue_14 : decode cX8_isValue 14 = .ok (.iconst 1, 1) := by decide +kernel
theorem dX8_isValue_15 : decode cX8_isValue 15 = .ok (.goto 4, 3) := by decide +kernel
theorem dX8_isValue_18 : decode cX8_isValue 18 = .ok (.iconst 0, 1) := by decide +kernel
theorem dX8_isValue_19 : decode cX8_isValue 19 = .ok (.ireturn, 1) := by decide +kernel
theorem dX8_isTask_0 : decode cX8_isTask 0 = .ok (.iload_n 1, 1) := by decide +kernel
theorem dX8_isTask_1 : decode cX8_isTask 1 = .ok (.ifCond .lt 18, 3) := by decide +kernel
theorem dX8_isTask_4 : decode cX8_isTask 4 = .ok (.iload_n 1, 1) := by decide +kernel
theorem dX8_isTask_5 : decode cX8_isTask 5 = .ok (.aload_n 0, 1) := by decide +kernel
theorem dX8_isTask_6 : decode cX8_isTask 6 = .ok (.getfield 10, 3) := by decide +kernel
theorem dX8_isTask_9 : decode cX8_isTask 9 = .ok (.getfield 238, 3) := by decide +kernel
theorem dX8_isTask_12 : decode cX8_isTask 12 = .ok (.if_icmp .ge 7, 3) := by decide +kernel
theorem dX8_isTask_15 : decode cX8_isTask 15 = .ok (.iconst 1, 1) := by decide +kernel
theorem dX8_isTask_16 : decode cX8_isTask 16 = .ok (.goto 4, 3) := by decide +kernel
theorem dX8_isTask_19 : decode cX8_isTask 19 = .ok (.iconst 0, 1) := by decide +kernel
theorem dX8_isTask_20 : decode cX8_isTask 20 = .ok (.ireturn, 1) := by decide +kernel
theorem dX8_waitsFor_0 : decode cX8_waitsFor 0 = .ok (.aload_n 0, 1) := by decide +kernel
theorem dX8_waitsFor_1 : decode cX8_waitsFor 1 = .ok (.getfield 10, 3) := by decide +kernel
theorem dX8_waitsFor_4 : decode cX8_waitsFor 4 = .ok (.getfield 95, 3) := by decide +kernel
theorem dX8_waitsFor_7 : decode cX8_waitsFor 7 = .ok (.aload_n 0, 1) := by decide +kernel
theorem dX8_waitsFor_8 : decode cX8_waitsFor 8 = .ok (.getfield 10, 3) := by decide +kernel
theorem dX8_waitsFor_11 : decode cX8_waitsFor 11 = .ok (.aload_n 0, 1) := by decide +kernel
theorem dX8_waitsFor_12 : decode cX8_waitsFor 12 = .ok (.getfield 26, 3) := by decide +kernel
theorem dX8_waitsFor_15 : decode cX8_waitsFor 15 = .ok (.getfield 52, 3) := by decide +kernel
theorem dX8_waitsFor_18 : decode cX8_waitsFor 18 = .ok (.getfield 107, 3) := by decide +kernel
theorem dX8_waitsFor_21 : decode cX8_waitsFor 21 = .ok (.iload_n 2, 1) := by decide +kernel
theorem dX8_waitsFor_22 : decode cX8_waitsFor 22 = .ok (.iaload, 1) := by decide +kernel
theorem dX8_waitsFor_23 : decode cX8_waitsFor 23 = .ok (.invokevirtual 81, 3) := by decide +kernel
theorem dX8_waitsFor_26 : decode cX8_waitsFor 26 = .ok (.iaload, 1) := by decide +kernel
theorem dX8_waitsFor_27 : decode cX8_waitsFor 27 = .ok (.iload_n 1, 1) := by decide +kernel
theorem dX8_waitsFor_28 : decode cX8_waitsFor 28 = .ok (.if_icmp .ne 7, 3) := by decide +kernel
theorem dX8_waitsFor_31 : decode cX8_waitsFor 31 = .ok (.iconst 1, 1) := by decide +kernel
theorem dX8_waitsFor_32 : decode cX8_waitsFor 32 = .ok (.goto 4, 3) := by decide +kernel
theorem dX8_waitsFor_35 : decode cX8_waitsFor 35 = .ok (.iconst 0, 1) := by decide +kernel
theorem dX8_waitsFor_36 : decode cX8_waitsFor 36 = .ok (.ireturn, 1) := by decide +kernel
theorem dX8_firstInLine_0 : decode cX8_firstInLine 0 = .ok (.iconst 0, 1) := by decide +kernel
theorem dX8_firstInLine_1 : decode cX8_firstInLine 1 = .ok (.istore_n 2, 1) := by decide +kernel
theorem dX8_firstInLine_2 : decode cX8_firstInLine 2 = .ok (.iload_n 2, 1) := by decide +kernel
theorem dX8_firstInLine_3 : decode cX8_firstInLine 3 = .ok (.aload_n 0, 1) := by decide +kernel
theorem dX8_firstInLine_4 : decode cX8_firstInLine 4 = .ok (.getfield 26, 3) := by decide +kernel
theorem dX8_firstInLine_7 : decode cX8_firstInLine 7 = .ok (.getfield 52, 3) := by decide +kernel
theorem dX8_firstInLine_10 : decode cX8_firstInLine 10 = .ok (.getfield 237, 3) := by decide +kernel
theorem dX8_firstInLine_13 : decode cX8_firstInLine 13 = .ok (.if_icmp .ge 20, 3) := by decide +kernel
theorem dX8_firstInLine_16 : decode cX8_firstInLine 16 = .ok (.aload_n 0, 1) := by decide +kernel
theorem dX8_firstInLine_17 : decode cX8_firstInLine 17 = .ok (.iload_n 1, 1) := by decide +kernel
theorem dX8_firstInLine_18 : decode cX8_firstInLine 18 = .ok (.iload_n 2, 1) := by decide +kernel
theorem dX8_firstInLine_19 : decode cX8_firstInLine 19 = .ok (.invokevirtual 248, 3) := by decide +kernel
theorem dX8_firstInLine_22 : decode cX8_firstInLine 22 = .ok (.ifCond .eq 5, 3) := by decide +kernel
theorem dX8_firstInLine_25 : decode cX8_firstInLine 25 = .ok (.iload_n 2, 1) := by decide +kernel
theorem dX8_firstInLine_26 : decode cX8_firstInLine 26 = .ok (.ireturn, 1) := by decide +kernel
theorem dX8_firstInLine_27 : decode cX8_firstInLine 27 = .ok (.iinc 2 1, 3) := by decide +kernel
theorem dX8_firstInLine_30 : decode cX8_firstInLine 30 = .ok (.goto (-28), 3) := by decide +kernel
theorem dX8_firstInLine_33 : decode cX8_firstInLine 33 = .ok (.bipush (-106), 2) := by decide +kernel
theorem dX8_firstInLine_35 : decode cX8_firstInLine 35 = .ok (.ireturn, 1) := by decide +kernel
theorem dX8_firstNumberInLine_0 : decode cX8_firstNumberInLine 0 = .ok (.aload_n 0, 1) := by decide +kernel
theorem dX8_firstNumberInLine_1 : decode cX8_firstNumberInLine 1 = .ok (.iload_n 1, 1) := by decide +kernel
theorem dX8_firstNumberInLine_2 : decode cX8_firstNumberInLine 2 = .ok (.invokevirtual 101, 3) := by decide +kernel
theorem dX8_firstNumberInLine_5 : decode cX8_firstNumberInLine 5 = .ok (.istore_n 2, 1) := by decide +kernel
theorem dX8_firstNumberInLine_6 : decode cX8_firstNumberInLine 6 = .ok (.iload_n 2, 1) := by decide +kernel
theorem dX8_firstNumberInLine_7 : decode cX8_firstNumberInLine 7 = .ok (.bipush (-106), 2) := by decide +kernel
theorem dX8_firstNumberInLine_9 : decode cX8_firstNumberInLine 9 = .ok (.if_icmp .ne 8, 3) := by decide +kernel
theorem dX8_firstNumberInLine_12 : decode cX8_firstNumberInLine 12 = .ok (.bipush (-106), 2) := by decide +kernel
theorem dX8_firstNumberInLine_14 : decode cX8_firstNumberInLine 14 = .ok (.goto 15, 3) := by decide +kernel
theorem dX8_firstNumberInLine_17 : decode cX8_firstNumberInLine 17 = .ok (.aload_n 0, 1) := by decide +kernel
theorem dX8_firstNumberInLine_18 : decode cX8_firstNumberInLine 18 = .ok (.getfield 26, 3) := by decide +kernel
theorem dX8_firstNumberInLine_21 : decode cX8_firstNumberInLine 21 = .ok (.getfield 52, 3) := by decide +kernel
theorem dX8_firstNumberInLine_24 : decode cX8_firstNumberInLine 24 = .ok (.getfield 104, 3) := by decide +kernel
theorem dX8_firstNumberInLine_27 : decode cX8_firstNumberInLine 27 = .ok (.iload_n 2, 1) := by decide +kernel
theorem dX8_firstNumberInLine_28 : decode cX8_firstNumberInLine 28 = .ok (.iaload, 1) := by decide +kernel
theorem dX8_firstNumberInLine_29 : decode cX8_firstNumberInLine 29 = .ok (.ireturn, 1) := by decide +kernel
theorem dX8_lengthOfLine_0 : decode cX8_lengthOfLine 0 = .ok (.iconst 0, 1) := by decide +kernel
theorem dX8_lengthOfLine_1 : decode cX8_lengthOfLine 1 = .ok (.istore_n 2, 1) := by decide +kernel
theorem dX8_lengthOfLine_2 : decode cX8_lengthOfLine 2 = .ok (.iconst 0, 1) := by decide +kernel
theorem dX8_lengthOfLine_3 : decode cX8_lengthOfLine 3 = .ok (.istore_n 3, 1) := by decide +kernel
theorem dX8_lengthOfLine_4 : decode cX8_lengthOfLine 4 = .ok (.iload_n 3, 1) := by decide +kernel
theorem dX8_lengthOfLine_5 : decode cX8_lengthOfLine 5 = .ok (.aload_n 0, 1) := by decide +kernel
theorem dX8_lengthOfLine_6 : decode cX8_lengthOfLine 6 = .ok (.getfield 26, 3) := by decide +kernel
theorem dX8_lengthOfLine_9 : decode cX8_lengthOfLine 9 = .ok (.getfield 52, 3) := by decide +kernel
theorem dX8_lengthOfLine_12 : decode cX8_lengthOfLine 12 = .ok (.getfield 237, 3) := by decide +kernel
theorem dX8_lengthOfLine_15 : decode cX8_lengthOfLine 15 = .ok (.if_icmp .ge 21, 3) := by decide +kernel
theorem dX8_lengthOfLine_18 : decode cX8_lengthOfLine 18 = .ok (.aload_n 0, 1) := by decide +kernel
theorem dX8_lengthOfLine_19 : decode cX8_lengthOfLine 19 = .ok (.iload_n 1, 1) := by decide +kernel
theorem dX8_lengthOfLine_20 : decode cX8_lengthOfLine 20 = .ok (.iload_n 3, 1) := by decide +kernel
theorem dX8_lengthOfLine_21 : decode cX8_lengthOfLine 21 = .ok (.invokevirtual 248, 3) := by decide +kernel
theorem dX8_lengthOfLine_24 : decode cX8_lengthOfLine 24 = .ok (.ifCond .eq 6, 3) := by decide +kernel
theorem dX8_lengthOfLine_27 : decode cX8_lengthOfLine 27 = .ok (.iinc 2 1, 3) := by decide +kernel
theorem dX8_lengthOfLine_30 : decode cX8_lengthOfLine 30 = .ok (.iinc 3 1, 3) := by decide +kernel
theorem dX8_lengthOfLine_33 : decode cX8_lengthOfLine 33 = .ok (.goto (-29), 3) := by decide +kernel
theorem dX8_lengthOfLine_36 : decode cX8_lengthOfLine 36 = .ok (.iload_n 2, 1) := by decide +kernel
theorem dX8_lengthOfLine_37 : decode cX8_lengthOfLine 37 = .ok (.ireturn, 1) := by decide +kernel
theorem dX8_waitingOfGroup_0 : decode cX8_waitingOfGroup 0 = .ok (.iconst 0, 1) := by decide +kernel
theorem dX8_waitingOfGroup_1 : decode cX8_waitingOfGroup 1 = .ok (.istore_n 2, 1) := by decide +kernel
theorem dX8_waitingOfGroup_2 : decode cX8_waitingOfGroup 2 = .ok (.iconst 0, 1) := by decide +kernel
theorem dX8_waitingOfGroup_3 : decode cX8_waitingOfGroup 3 = .ok (.istore_n 3, 1) := by decide +kernel
theorem dX8_waitingOfGroup_4 : decode cX8_waitingOfGroup 4 = .ok (.iload_n 3, 1) := by decide +kernel
theorem dX8_waitingOfGroup_5 : decode cX8_waitingOfGroup 5 = .ok (.aload_n 0, 1) := by decide +kernel
theorem dX8_waitingOfGroup_6 : decode cX8_waitingOfGroup 6 = .ok (.getfield 26, 3) := by decide +kernel
theorem dX8_waitingOfGroup_9 : decode cX8_waitingOfGroup 9 = .ok (.getfield 52, 3) := by decide +kernel
theorem dX8_waitingOfGroup_12 : decode cX8_waitingOfGroup 12 = .ok (.getfield 237, 3) := by decide +kernel
theorem dX8_waitingOfGroup_15 : decode cX8_waitingOfGroup 15 = .ok (.if_icmp .ge 35, 3) := by decide +kernel
theorem dX8_waitingOfGroup_18 : decode cX8_waitingOfGroup 18 = .ok (.aload_n 0, 1) := by decide +kernel
theorem dX8_waitingOfGroup_19 : decode cX8_waitingOfGroup 19 = .ok (.getfield 10, 3) := by decide +kernel
theorem dX8_waitingOfGroup_22 : decode cX8_waitingOfGroup 22 = .ok (.aload_n 0, 1) := by decide +kernel
theorem dX8_waitingOfGroup_23 : decode cX8_waitingOfGroup 23 = .ok (.getfield 26, 3) := by decide +kernel
theorem dX8_waitingOfGroup_26 : decode cX8_waitingOfGroup 26 = .ok (.getfield 52, 3) := by decide +kernel
theorem dX8_waitingOfGroup_29 : decode cX8_waitingOfGroup 29 = .ok (.getfield 107, 3) := by decide +kernel
theorem dX8_waitingOfGroup_32 : decode cX8_waitingOfGroup 32 = .ok (.iload_n 3, 1) := by decide +kernel
theorem dX8_waitingOfGroup_33 : decode cX8_waitingOfGroup 33 = .ok (.iaload, 1) := by decide +kernel
theorem dX8_waitingOfGroup_34 : decode cX8_waitingOfGroup 34 = .ok (.invokevirtual 81, 3) := by decide +kernel
theorem dX8_waitingOfGroup_37 : decode cX8_waitingOfGroup 37 = .ok (.iload_n 1, 1) := by decide +kernel
theorem dX8_waitingOfGroup_38 : decode cX8_waitingOfGroup 38 = .ok (.if_icmp .ne 6, 3) := by decide +kernel
theorem dX8_waitingOfGroup_41 : decode cX8_waitingOfGroup 41 = .ok (.iinc 2 1, 3) := by decide +kernel
theorem dX8_waitingOfGroup_44 : decode cX8_waitingOfGroup 44 = .ok (.iinc 3 1, 3) := by decide +kernel
theorem dX8_waitingOfGroup_47 : decode cX8_waitingOfGroup 47 = .ok (.goto (-43), 3) := by decide +kernel
theorem dX8_waitingOfGroup_50 : decode cX8_waitingOfGroup 50 = .ok (.iload_n 2, 1) := by decide +kernel
theorem dX8_waitingOfGroup_51 : decode cX8_waitingOfGroup 51 = .ok (.ireturn, 1) := by decide +kernel
theorem dX9_init_0 : decode cX9_init 0 = .ok (.aload_n 0, 1) := by decide +kernel
theorem dX9_init_1 : decode cX9_init 1 = .ok (.invokespecial 1, 3) := by decide +kernel
theorem dX9_init_4 : decode cX9_init 4 = .ok (.aload_n 0, 1) := by decide +kernel
theorem dX9_init_5 : decode cX9_init 5 = .ok (.bipush 32, 2) := by decide +kernel
theorem dX9_init_7 : decode cX9_init 7 = .ok (.newarray .int, 2) := by decide +kernel
theorem dX9_init_9 : decode cX9_init 9 = .ok (.putfield 7, 3) := by decide +kernel
theorem dX9_init_12 : decode cX9_init 12 = .ok (.aload_n 0, 1) := by decide +kernel
theorem dX9_init_13 : decode cX9_init 13 = .ok (.bipush 32, 2) := by decide +kernel
theorem dX9_init_15 : decode cX9_init 15 = .ok (.newarray .int, 2) := by decide +kernel
theorem dX9_init_17 : decode cX9_init 17 = .ok (.putfield 13, 3) := by decide +kernel
theorem dX9_init_20 : decode cX9_init 20 = .ok (.aload_n 0, 1) := by decide +kernel
theorem dX9_init_21 : decode cX9_init 21 = .ok (.bipush 32, 2) := by decide +kernel
theorem dX9_init_23 : decode cX9_init 23 = .ok (.newarray .int, 2) := by decide +kernel
theorem dX9_init_25 : decode cX9_init 25 = .ok (.putfield 16, 3) := by decide +kernel
theorem dX9_init_28 : decode cX9_init 28 = .ok (.aload_n 0, 1) := by decide +kernel
theorem dX9_init_29 : decode cX9_init 29 = .ok (.bipush 32, 2) := by decide +kernel
theorem dX9_init_31 : decode cX9_init 31 = .ok (.newarray .boolean, 2) := by decide +kernel
theorem dX9_init_33 : decode cX9_init 33 = .ok (.putfield 19, 3) := by decide +kernel
theorem dX9_init_36 : decode cX9_init 36 = .ok (.aload_n 0, 1) := by decide +kernel
theorem dX9_init_37 : decode cX9_init 37 = .ok (.sipush 400, 3) := by decide +kernel
theorem dX9_init_40 : decode cX9_init 40 = .ok (.newarray .int, 2) := by decide +kernel
theorem dX9_init_42 : decode cX9_init 42 = .ok (.putfield 23, 3) := by decide +kernel
theorem dX9_init_45 : decode cX9_init 45 = .ok (.aload_n 0, 1) := by decide +kernel
theorem dX9_init_46 : decode cX9_init 46 = .ok (.sipush 400, 3) := by decide +kernel
theorem dX9_init_49 : decode cX9_init 49 = .ok (.newarray .int, 2) := by decide +kernel
theorem dX9_init_51 : decode cX9_init 51 = .ok (.putfield 26, 3) := by decide +kernel
theorem dX9_init_54 : decode cX9_init 54 = .ok (.aload_n 0, 1) := by decide +kernel
theorem dX9_init_55 : decode cX9_init 55 = .ok (.sipush 400, 3) := by decide +kernel
theorem dX9_init_58 : decode cX9_init 58 = .ok (.newarray .boolean, 2) := by decide +kernel
theorem dX9_init_60 : decode cX9_init 60 = .ok (.putfield 29, 3) := by decide +kernel
theorem dX9_init_63 : decode cX9_init 63 = .ok (.aload_n 0, 1) := by decide +kernel
theorem dX9_init_64 : decode cX9_init 64 = .ok (.bipush 100, 2) := by decide +kernel
theorem dX9_init_66 : decode cX9_init 66 = .ok (.newarray .int, 2) := by decide +kernel
theorem dX9_init_68 : decode cX9_init 68 = .ok (.putfield 32, 3) := by decide +kernel
theorem dX9_init_71 : decode cX9_init 71 = .ok (.aload_n 0, 1) := by decide +kernel
theorem dX9_init_72 : decode cX9_init 72 = .ok (.bipush 100, 2) := by decide +kernel
theorem dX9_init_74 : decode cX9_init 74 = .ok (.newarray .long, 2) := by decide +kernel
theorem dX9_init_76 : decode cX9_init 76 = .ok (.putfield 35, 3) := by decide +kernel
theorem dX9_init_79 : decode cX9_init 79 = .ok (.aload_n 0, 1) := by decide +kernel
theorem dX9_init_80 : decode cX9_init 80 = .ok (.sipush 400, 3) := by decide +kernel
theorem dX9_init_83 : decode cX9_init 83 = .ok (.newarray .int, 2) := by decide +kernel
theorem dX9_init_85 : decode cX9_init 85 = .ok (.putfield 39, 3) := by decide +kernel
theorem dX9_init_88 : decode cX9_init 88 = .ok (.aload_n 0, 1) := by decide +kernel
theorem dX9_init_89 : decode cX9_init 89 = .ok (.sipush 400, 3) := by decide +kernel
theorem dX9_init_92 : decode cX9_init 92 = .ok (.newarray .int, 2) := by decide +kernel
theorem dX9_init_94 : decode cX9_init 94 = .ok (.putfield 42, 3) := by decide +kernel
theorem dX9_init_97 : decode cX9_init 97 = .ok (.aload_n 0, 1) := by decide +kernel
theorem dX9_init_98 : decode cX9_init 98 = .ok (.sipush 400, 3) := by decide +kernel
theorem dX9_init_101 : decode cX9_init 101 = .ok (.newarray .long, 2) := by decide +kernel
theorem dX9_init_103 : decode cX9_init 103 = .ok (.putfield 45, 3) := by decide +kernel
theorem dX9_init_106 : decode cX9_init 106 = .ok (.aload_n 0, 1) := by decide +kernel
theorem dX9_init_107 : decode cX9_init 107 = .ok (.bipush 40, 2) := by decide +kernel
theorem dX9_init_109 : decode cX9_init 109 = .ok (.newarray .int, 2) := by decide +kernel
theorem dX9_init_111 : decode cX9_init 111 = .ok (.putfield 48, 3) := by decide +kernel
theorem dX9_init_114 : decode cX9_init 114 = .ok (.aload_n 0, 1) := by decide +kernel
theorem dX9_init_115 : decode cX9_init 115 = .ok (.bipush 40, 2) := by decide +kernel
theorem dX9_init_117 : decode cX9_init 117 = .ok (.newarray .int, 2) := by decide +kernel
theorem dX9_init_119 : decode cX9_init 119 = .ok (.putfield 51, 3) := by decide +kernel
theorem dX9_init_122 : decode cX9_init 122 = .ok (.aload_n 0, 1) := by decide +kernel
theorem dX9_init_123 : decode cX9_init 123 = .ok (.bipush 32, 2) := by decide +kernel
theorem dX9_init_125 : decode cX9_init 125 = .ok (.newarray .int, 2) := by decide +kernel
theorem dX9_init_127 : decode cX9_init 127 = .ok (.putfield 54, 3) := by decide +kernel
theorem dX9_init_130 : decode cX9_init 130 = .ok (.aload_n 0, 1) := by decide +kernel
theorem dX9_init_131 : decode cX9_init 131 = .ok (.bipush 32, 2) := by decide +kernel
theorem dX9_init_133 : decode cX9_init 133 = .ok (.newarray .int, 2) := by decide +kernel
theorem dX9_init_135 : decode cX9_init 135 = .ok (.putfield 57, 3) := by decide +kernel
theorem dX9_init_138 : decode cX9_init 138 = .ok (.aload_n 0, 1) := by decide +kernel
theorem dX9_init_139 : decode cX9_init 139 = .ok (.bipush 32, 2) := by decide +kernel
theorem dX9_init_141 : decode cX9_init 141 = .ok (.newarray .int, 2) := by decide +kernel
theorem dX9_init_143 : decode cX9_init 143 = .ok (.putfield 60, 3) := by decide +kernel
theorem dX9_init_146 : decode cX9_init 146 = .ok (.aload_n 0, 1) := by decide +kernel
theorem dX9_init_147 : decode cX9_init 147 = .ok (.bipush 32, 2) := by decide +kernel
theorem dX9_init_149 : decode cX9_init 149 = .ok (.newarray .long, 2) := by decide +kernel
theorem dX9_init_151 : decode cX9_init 151 = .ok (.putfield 63, 3) := by decide +kernel
theorem dX9_init_154 : decode cX9_init 154 = .ok (.aload_n 0, 1) := by decide +kernel
theorem dX9_init_155 : decode cX9_init 155 = .ok (.iconst 3, 1) := by decide +kernel
theorem dX9_init_156 : decode cX9_init 156 = .ok (.newarray .int, 2) := by decide +kernel
theorem dX9_init_158 : decode cX9_init 158 = .ok (.putfield 66, 3) := by decide +kernel
theorem dX9_init_161 : decode cX9_init 161 = .ok (.aload_n 0, 1) := by decide +kernel
theorem dX9_init_162 : decode cX9_init 162 = .ok (.sipush 1200, 3) := by decide +kernel
theorem dX9_init_165 : decode cX9_init 165 = .ok (.newarray .int, 2) := by decide +kernel
theorem dX9_init_167 : decode cX9_init 167 = .ok (.putfield 69, 3) := by decide +kernel
theorem dX9_init_170 : decode cX9_init 170 = .ok (.aload_n 0, 1) := by decide +kernel
theorem dX9_init_171 : decode cX9_init 171 = .ok (.sipush 1200, 3) := by decide +kernel
theorem dX9_init_174 : decode cX9_init 174 = .ok (.newarray .int, 2) := by decide +kernel
theorem dX9_init_176 : decode cX9_init 176 = .ok (.putfield 72, 3) := by decide +kernel
theorem dX9_init_179 : decode cX9_init 179 = .ok (.aload_n 0, 1) := by decide +kernel
theorem dX9_init_180 : decode cX9_init 180 = .ok (.sipush 1200, 3) := by decide +kernel
theorem dX9_init_183 : decode cX9_init 183 = .ok (.newarray .boolean, 2) := by decide +kernel
theorem dX9_init_185 : decode cX9_init 185 = .ok (.putfield 75, 3) := by decide +kernel
theorem dX9_init_188 : decode cX9_init 188 = .ok (.aload_n 0, 1) := by decide +kernel
theorem dX9_init_189 : decode cX9_init 189 = .ok (.sipush 300, 3) := by decide +kernel
theorem dX9_init_192 : decode cX9_init 192 = .ok (.newarray .int, 2) := by decide +kernel
theorem dX9_init_194 : decode cX9_init 194 = .ok (.putfield 78, 3) := by decide +kernel
theorem dX9_init_197 : decode cX9_init 197 = .ok (.aload_n 0, 1) := by decide +kernel
theorem dX9_init_198 : decode cX9_init 198 = .ok (.sipush 300, 3) := by decide +kernel
theorem dX9_init_201 : decode cX9_init 201 = .ok (.newarray .long, 2) := by decide +kernel
theorem dX9_init_203 : decode cX9_init 203 = .ok (.putfield 81, 3) := by decide +kernel
theorem dX9_init_206 : decode cX9_init 206 = .ok (.aload_n 0, 1) := by decide +kernel
theorem dX9_init_207 : decode cX9_init 207 = .ok (.iconst 3, 1) := by decide +kernel
theorem dX9_init_208 : decode cX9_init 208 = .ok (.newarray .int, 2) := by decide +kernel
theorem dX9_init_210 : decode cX9_init 210 = .ok (.putfield 84, 3) := by decide +kernel
theorem dX9_init_213 : decode cX9_init 213 = .ok (.aload_n 0, 1) := by decide +kernel
theorem dX9_init_214 : decode cX9_init 214 = .ok (.iconst 3, 1) := by decide +kernel
theorem dX9_init_215 : decode cX9_init 215 = .ok (.newarray .int, 2) := by decide +kernel
theorem dX9_init_217 : decode cX9_init 217 = .ok (.putfield 87, 3) := by decide +kernel
theorem dX9_init_220 : decode cX9_init 220 = .ok (.aload_n 0, 1) := by decide +kernel
theorem dX9_init_221 : decode cX9_init 221 = .ok (.bipush 120, 2) := by decide +kernel
theorem dX9_init_223 : decode cX9_init 223 = .ok (.newarray .int, 2) := by decide +kernel
theorem dX9_init_225 : decode cX9_init 225 = .ok (.putfield 90, 3) := by decide +kernel
theorem dX9_init_228 : decode cX9_init 228 = .ok (.aload_n 0, 1) := by decide +kernel
theorem dX9_init_229 : decode cX9_init 229 = .ok (.bipush 120, 2) := by decide +kernel
theorem dX9_init_231 : decode cX9_init 231 = .ok (.newarray .int, 2) := by decide +kernel
theorem dX9_init_233 : decode cX9_init 233 = .ok (.putfield 93, 3) := by decide +kernel
theorem dX9_init_236 : decode cX9_init 236 = .ok (.aload_n 0, 1) := by decide +kernel
theorem dX9_init_237 : decode cX9_init 237 = .ok (.bipush 32, 2) := by decide +kernel
theorem dX9_init_239 : decode cX9_init 239 = .ok (.newarray .int, 2) := by decide +kernel
theorem dX9_init_241 : decode cX9_init 241 = .ok (.putfield 96, 3) := by decide +kernel
theorem dX9_init_244 : decode cX9_init 244 = .ok (.aload_n 0, 1) := by decide +kernel
theorem dX9_init_245 : decode cX9_init 245 = .ok (.sipush 429, 3) := by decide +kernel
theorem dX9_init_248 : decode cX9_init 248 = .ok (.newarray .long, 2) := by decide +kernel
theorem dX9_init_250 : decode cX9_init 250 = .ok (.putfield 99, 3) := by decide +kernel
theorem dX9_init_253 : decode cX9_init 253 = .ok (.aload_n 0, 1) := by decide +kernel
theorem dX9_init_254 : decode cX9_init 254 = .ok (.invokevirtual 102, 3) := by decide +kernel
theorem dX9_init_257 : decode cX9_init 257 = .ok (.return_, 1) := by decide +kernel
theorem dX9_in_0 : decode cX9_in 0 = .ok (.lload_n 0, 1) := by decide +kernel
theorem dX9_in_1 : decode cX9_in 1 = .ok (.lload_n 2, 1) := by decide +kernel
theorem dX9_in_2 : decode cX9_in 2 = .ok (.lcmp, 1) := by decide +kernel
theorem dX9_in_3 : decode cX9_in 3 = .ok (.ifCond .lt 14, 3) := by decide +kernel
theorem dX9_in_6 : decode cX9_in 6 = .ok (.lload_n 0, 1) := by decide +kernel
theorem dX9_in_7 : decode cX9_in 7 = .ok (.lload 4, 2) := by decide +kernel
theorem dX9_in_9 : decode cX9_in 9 = .ok (.lcmp, 1) := by decide +kernel
theorem dX9_in_10 : decode cX9_in 10 = .ok (.ifCond .gt 7, 3) := by decide +kernel
theorem dX9_in_13 : decode cX9_in 13 = .ok (.iconst 1, 1) := by decide +kernel
theorem dX9_in_14 : decode cX9_in 14 = .ok (.goto 4, 3) := by decide +kernel
theorem dX9_in_17 : decode cX9_in 17 = .ok (.iconst 0, 1) := by decide +kernel
theorem dX9_in_18 : decode cX9_in 18 = .ok (.ireturn, 1) := by decide +kernel
theorem dX9_begin_0 : decode cX9_begin 0 = .ok (.aload_n 0, 1) := by decide +kernel
theorem dX9_begin_1 : decode cX9_begin 1 = .ok (.bipush 20, 2) := by decide +kernel
theorem dX9_begin_3 : decode cX9_begin 3 = .ok (.putfield 105, 3) := by decide +kernel
theorem dX9_begin_6 : decode cX9_begin 6 = .ok (.aload_n 0, 1) := by decide +kernel
theorem dX9_begin_7 : decode cX9_begin 7 = .ok (.iconst 0, 1) := by decide +kernel
theorem dX9_begin_8 : decode cX9_begin 8 = .ok (.putfield 109, 3) := by decide +kernel
theorem dX9_begin_11 : decode cX9_begin 11 = .ok (.aload_n 0, 1) := by decide +kernel
theorem dX9_begin_12 : decode cX9_begin 12 = .ok (.iconst 0, 1) := by decide +kernel
theorem dX9_begin_13 : decode cX9_begin 13 = .ok (.putfield 112, 3) := by decide +kernel
theorem dX9_begin_16 : decode cX9_begin 16 = .ok (.aload_n 0, 1) := by decide +kernel
theorem dX9_begin_17 : decode cX9_begin 17 = .ok (.iconst 0, 1) := by decide +kernel
theorem dX9_begin_18 : decode cX9_begin 18 = .ok (.putfield 115, 3) := by decide +kernel
theorem dX9_begin_21 : decode cX9_begin 21 = .ok (.aload_n 0, 1) := by decide +kernel
theorem dX9_begin_22 : decode cX9_begin 22 = .ok (.iconst 0, 1) := by decide +kernel
theorem dX9_begin_23 : decode cX9_begin 23 = .ok (.putfield 118, 3) := by decide +kernel
theorem dX9_begin_26 : decode cX9_begin 26 = .ok (.aload_n 0, 1) := by decide +kernel
theorem dX9_begin_27 : decode cX9_begin 27 = .ok (.iconst 0, 1) := by decide +kernel
theorem dX9_begin_28 : decode cX9_begin 28 = .ok (.putfield 121, 3) := by decide +kernel
theorem dX9_begin_31 : decode cX9_begin 31 = .ok (.aload_n 0, 1) := by decide +kernel
theorem dX9_begin_32 : decode cX9_begin 32 = .ok (.iconst 0, 1) := by decide +kernel
theorem dX9_begin_33 : decode cX9_begin 33 = .ok (.putfield 124, 3) := by decide +kernel
theorem dX9_begin_36 : decode cX9_begin 36 = .ok (.aload_n 0, 1) := by decide +kernel
theorem dX9_begin_37 : decode cX9_begin 37 = .ok (.iconst 0, 1) := by decide +kernel
theorem dX9_begin_38 : decode cX9_begin 38 = .ok (.putfield 127, 3) := by decide +kernel
theorem dX9_begin_41 : decode cX9_begin 41 = .ok (.iconst 0, 1) := by decide +kernel
theorem dX9_begin_42 : decode cX9_begin 42 = .ok (.istore_n 1, 1) := by decide +kernel
theorem dX9_begin_43 : decode cX9_begin 43 = .ok (.iload_n 1, 1) := by decide +kernel
theorem dX9_begin_44 : decode cX9_begin 44 = .ok (.bipush 100, 2) := by decide +kernel
theorem dX9_begin_46 : decode cX9_begin 46 = .ok (.if_icmp .ge 23, 3) := by decide +kernel
theorem dX9_begin_49 : decode cX9_begin 49 = .ok (.aload_n 0, 1) := by decide +kernel
theorem dX9_begin_50 : decode cX9_begin 50 = .ok (.getfield 32, 3) := by decide +kernel
theorem dX9_begin_53 : decode cX9_begin 53 = .ok (.iload_n 1, 1) := by decide +kernel
theorem dX9_begin_54 : decode cX9_begin 54 = .ok (.iconst 0, 1) := by decide +kernel
theorem dX9_begin_55 : decode cX9_begin 55 = .ok (.iastore, 1) := by decide +kernel
theorem dX9_begin_56 : decode cX9_begin 56 = .ok (.aload_n 0, 1) := by decide +kernel
theorem dX9_begin_57 : decode cX9_begin 57 = .ok (.getfield 35, 3) := by decide +kernel
theorem dX9_begin_60 : decode cX9_begin 60 = .ok (.iload_n 1, 1) := by decide +kernel
theorem dX9_begin_61 : decode cX9_begin 61 = .ok (.lconst 0, 1) := by decide +kernel
theorem dX9_begin_62 : decode cX9_begin 62 = .ok (.lastore, 1) := by decide +kernel
theorem dX9_begin_63 : decode cX9_begin 63 = .ok (.iinc 1 1, 3) := by decide +kernel
theorem dX9_begin_66 : decode cX9_begin 66 = .ok (.goto (-23), 3) := by decide +kernel
theorem dX9_begin_69 : decode cX9_begin 69 = .ok (.iconst 0, 1) := by decide +kernel
theorem dX9_begin_70 : decode cX9_begin 70 = .ok (.istore_n 1, 1) := by decide +kernel
theorem dX9_begin_71 : decode cX9_begin 71 = .ok (.iload_n 1, 1) := by decide +kernel
theorem dX9_begin_72 : decode cX9_begin 72 = .ok (.bipush 32, 2) := by decide +kernel
theorem dX9_begin_74 : decode cX9_begin 74 = .ok (.if_icmp .ge 16, 3) := by decide +kernel
theorem dX9_begin_77 : decode cX9_begin 77 = .ok (.aload_n 0, 1) := by decide +kernel
theorem dX9_begin_78 : decode cX9_begin 78 = .ok (.getfield 19, 3) := by decide +kernel
theorem dX9_begin_81 : decode cX9_begin 81 = .ok (.iload_n 1, 1) := by decide +kernel
theorem dX9_begin_82 : decode cX9_begin 82 = .ok (.iconst 0, 1) := by decide +kernel
theorem dX9_begin_83 : decode cX9_begin 83 = .ok (.bastore, 1) := by decide +kernel
theorem dX9_begin_84 : decode cX9_begin 84 = .ok (.iinc 1 1, 3) := by decide +kernel
theorem dX9_begin_87 : decode cX9_begin 87 = .ok (.goto (-16), 3) := by decide +kernel
theorem dX9_begin_90 : decode cX9_begin 90 = .ok (.aload_n 0, 1) := by decide +kernel
theorem dX9_begin_91 : decode cX9_begin 91 = .ok (.bipush 8, 2) := by decide +kernel
theorem dX9_begin_93 : decode cX9_begin 93 = .ok (.iconst 4, 1) := by decide +kernel
theorem dX9_begin_94 : decode cX9_begin 94 = .ok (.invokevirtual 130, 3) := by decide +kernel
theorem dX9_begin_97 : decode cX9_begin 97 = .ok (.return_, 1) := by decide +kernel
theorem dX9_layShape_0 : decode cX9_layShape 0 = .ok (.aload_n 0, 1) := by decide +kernel
theorem dX9_layShape_1 : decode cX9_layShape 1 = .ok (.iload_n 1, 1) := by decide +kernel
theorem dX9_layShape_2 : decode cX9_layShape 2 = .ok (.putfield 134, 3) := by decide +kernel
theorem dX9_layShape_5 : decode cX9_layShape 5 = .ok (.aload_n 0, 1) := by decide +kernel
theorem dX9_layShape_6 : decode cX9_layShape 6 = .ok (.iload_n 2, 1) := by decide +kernel
theorem dX9_layShape_7 : decode cX9_layShape 7 = .ok (.putfield 137, 3) := by decide +kernel
theorem dX9_layShape_10 : decode cX9_layShape 10 = .ok (.aload_n 0, 1) := by decide +kernel
theorem dX9_layShape_11 : decode cX9_layShape 11 = .ok (.iconst 1, 1) := by decide +kernel
theorem dX9_layShape_12 : decode cX9_layShape 12 = .ok (.putfield 140, 3) := by decide +kernel
theorem dX9_layShape_15 : decode cX9_layShape 15 = .ok (.iconst 0, 1) := by decide +kernel
theorem dX9_layShape_16 : decode cX9_layShape 16 = .ok (.istore_n 3, 1) := by decide +kernel
theorem dX9_layShape_17 : decode cX9_layShape 17 = .ok (.iload_n 3, 1) := by decide +kernel
theorem dX9_layShape_18 : decode cX9_layShape 18 = .ok (.bipush 32, 2) := by decide +kernel
theorem dX9_layShape_20 : decode cX9_layShape 20 = .ok (.if_icmp .ge 30, 3) := by decide +kernel
theorem dX9_layShape_23 : decode cX9_layShape 23 = .ok (.aload_n 0, 1) := by decide +kernel
theorem dX9_layShape_24 : decode cX9_layShape 24 = .ok (.getfield 7, 3) := by decide +kernel
theorem dX9_layShape_27 : decode cX9_layShape 27 = .ok (.iload_n 3, 1) := by decide +kernel
theorem dX9_layShape_28 : decode cX9_layShape 28 = .ok (.iconst 0, 1) := by decide +kernel
theorem dX9_layShape_29 : decode cX9_layShape 29 = .ok (.iastore, 1) := by decide +kernel
theorem dX9_layShape_30 : decode cX9_layShape 30 = .ok (.aload_n 0, 1) := by decide +kernel
theorem dX9_layShape_31 : decode cX9_layShape 31 = .ok (.getfield 13, 3) := by decide +kernel
theorem dX9_layShape_34 : decode cX9_layShape 34 = .ok (.iload_n 3, 1) := by decide +kernel
theorem dX9_layShape_35 : decode cX9_layShape 35 = .ok (.iconst 1, 1) := by decide +kernel
theorem dX9_layShape_36 : decode cX9_layShape 36 = .ok (.iastore, 1) := by decide +kernel
theorem dX9_layShape_37 : decode cX9_layShape 37 = .ok (.aload_n 0, 1) := by decide +kernel
theorem dX9_layShape_38 : decode cX9_layShape 38 = .ok (.getfield 16, 3) := by decide +kernel
theorem dX9_layShape_41 : decode cX9_layShape 41 = .ok (.iload_n 3, 1) := by decide +kernel
theorem dX9_layShape_42 : decode cX9_layShape 42 = .ok (.iconst 0, 1) := by decide +kernel
theorem dX9_layShape_43 : decode cX9_layShape 43 = .ok (.iastore, 1) := by decide +kernel
theorem dX9_layShape_44 : decode cX9_layShape 44 = .ok (.iinc 3 1, 3) := by decide +kernel
theorem dX9_layShape_47 : decode cX9_layShape 47 = .ok (.goto (-30), 3) := by decide +kernel
theorem dX9_layShape_50 : decode cX9_layShape 50 = .ok (.return_, 1) := by decide +kernel
theorem dX9_shape_0 : decode cX9_shape 0 = .ok (.iload_n 1, 1) := by decide +kernel
theorem dX9_shape_1 : decode cX9_shape 1 = .ok (.i2l, 1) := by decide +kernel
theorem dX9_shape_2 : decode cX9_shape 2 = .ok (.ldc2_w 143, 3) := by decide +kernel
theorem dX9_shape_5 : decode cX9_shape 5 = .ok (.ldc2_w 145, 3) := by decide +kernel
theorem dX9_shape_8 : decode cX9_shape 8 = .ok (.invokestatic 147, 3) := by decide +kernel
theorem dX9_shape_11 : decode cX9_shape 11 = .ok (.ifCond .eq 20, 3) := by decide +kernel
theorem dX9_shape_14 : decode cX9_shape 14 = .ok (.iload_n 2, 1) := by decide +kernel
theorem dX9_shape_15 : decode cX9_shape 15 = .ok (.i2l, 1) := by decide +kernel
theorem dX9_shape_16 : decode cX9_shape 16 = .ok (.lconst 1, 1) := by decide +kernel
theorem dX9_shape_17 : decode cX9_shape 17 = .ok (.ldc2_w 151, 3) := by decide +kernel
theorem dX9_shape_20 : decode cX9_shape 20 = .ok (.invokestatic 147, 3) := by decide +kernel
theorem dX9_shape_23 : decode cX9_shape 23 = .ok (.ifCond .eq 8, 3) := by decide +kernel
theorem dX9_shape_26 : decode cX9_shape 26 = .ok (.iload_n 2, 1) := by decide +kernel
theorem dX9_shape_27 : decode cX9_shape 27 = .ok (.iload_n 1, 1) := by decide +kernel
theorem dX9_shape_28 : decode cX9_shape 28 = .ok (.if_icmp .le 6, 3) := by decide +kernel
theorem dX9_shape_31 : decode cX9_shape 31 = .ok (.bipush (-102), 2) := by decide +kernel
theorem dX9_shape_33 : decode cX9_shape 33 = .ok (.ireturn, 1) := by decide +kernel
theorem dX9_shape_34 : decode cX9_shape 34 = .ok (.aload_n 0, 1) := by decide +kernel
theorem dX9_shape_35 : decode cX9_shape 35 = .ok (.getfield 109, 3) := by decide +kernel
theorem dX9_shape_38 : decode cX9_shape 38 = .ok (.ifCond .gt 17, 3) := by decide +kernel
theorem dX9_shape_41 : decode cX9_shape 41 = .ok (.aload_n 0, 1) := by decide +kernel
theorem dX9_shape_42 : decode cX9_shape 42 = .ok (.getfield 118, 3) := by decide +kernel
theorem dX9_shape_45 : decode cX9_shape 45 = .ok (.ifCond .gt 10, 3) := by decide +kernel
theorem dX9_shape_48 : decode cX9_shape 48 = .ok (.aload_n 0, 1) := by decide +kernel
theorem dX9_shape_49 : decode cX9_shape 49 = .ok (.getfield 124, 3) := by decide +kernel
theorem dX9_shape_52 : decode cX9_shape 52 = .ok (.ifCond .le 6, 3) := by decide +kernel
theorem dX9_shape_55 : decode cX9_shape 55 = .ok (.bipush (-103), 2) := by decide +kernel
theorem dX9_shape_57 : decode cX9_shape 57 = .ok (.ireturn, 1) := by decide +kernel
theorem dX9_shape_58 : decode cX9_shape 58 = .ok (.aload_n 0, 1) := by decide +kernel
theorem dX9_shape_59 : decode cX9_shape 59 = .ok (.iload_n 1, 1) := by decide +kernel
theorem dX9_shape_60 : decode cX9_shape 60 = .ok (.iload_n 2, 1) := by decide +kernel
theorem dX9_shape_61 : decode cX9_shape 61 = .ok (.invokevirtual 130, 3) := by decide +kernel
theorem dX9_shape_64 : decode cX9_shape 64 = .ok (.iconst 1, 1) := by decide +kernel
theorem dX9_shape_65 : decode cX9_shape 65 = .ok (.ireturn, 1) := by decide +kernel
theorem dX9_slack_0 : decode cX9_slack 0 = .ok (.iload_n 1, 1) := by decide +kernel
theorem dX9_slack_1 : decode cX9_slack 1 = .ok (.i2l, 1) := by decide +kernel
theorem dX9_slack_2 : decode cX9_slack 2 = .ok (.lconst 0, 1) := by decide +kernel
theorem dX9_slack_3 : decode cX9_slack 3 = .ok (.ldc2_w 153, 3) := by decide +kernel
theorem dX9_slack_6 : decode cX9_slack 6 = .ok (.invokestatic 147, 3) := by decide +kernel
theorem dX9_slack_9 : decode cX9_slack 9 = .ok (.ifCond .ne 6, 3) := by decide +kernel
theorem dX9_slack_12 : decode cX9_slack 12 = .ok (.bipush (-102), 2) := by decide +kernel
theorem dX9_slack_14 : decode cX9_slack 14 = .ok (.ireturn, 1) := by decide +kernel
theorem dX9_slack_15 : decode cX9_slack 15 = .ok (.aload_n 0, 1) := by decide +kernel
theorem dX9_slack_16 : decode cX9_slack 16 = .ok (.getfield 105, 3) := by decide +kernel
theorem dX9_slack_19 : decode cX9_slack 19 = .ok (.istore_n 2, 1) := by decide +kernel
theorem dX9_slack_20 : decode cX9_slack 20 = .ok (.aload_n 0, 1) := by decide +kernel
theorem dX9_slack_21 : decode cX9_slack 21 = .ok (.iload_n 1, 1) := by decide +kernel
theorem dX9_slack_22 : decode cX9_slack 22 = .ok (.putfield 105, 3) := by decide +kernel
theorem dX9_slack_25 : decode cX9_slack 25 = .ok (.iload_n 2, 1) := by decide +kernel
theorem dX9_slack_26 : decode cX9_slack 26 = .ok (.ireturn, 1) := by decide +kernel
theorem dX9_noKey_0 : decode cX9_noKey 0 = .ok (.iload_n 0, 1) := by decide +kernel
theorem dX9_noKey_1 : decode cX9_noKey 1 = .ok (.ifCond .lt 9, 3) := by decide +kernel
theorem dX9_noKey_4 : decode cX9_noKey 4 = .ok (.iload_n 0, 1) := by decide +kernel
theorem dX9_noKey_5 : decode cX9_noKey 5 = .ok (.bipush 100, 2) := by decide +kernel
theorem dX9_noKey_7 : decode cX9_noKey 7 = .ok (.if_icmp .lt 7, 3) := by decide +kernel
theorem dX9_noKey_10 : decode cX9_noKey 10 = .ok (.iconst 1, 1) := by decide +kernel
theorem dX9_noKey_11 : decode cX9_noKey 11 = .ok (.goto 4, 3) := by decide +kernel
theorem dX9_noKey_14 : decode cX9_noKey 14 = .ok (.iconst 0, 1) := by decide +kernel
theorem dX9_noKey_15 : decode cX9_noKey 15 = .ok (.ireturn, 1) := by decide +kernel
theorem dX9_groupOf_0 : decode cX9_groupOf 0 = .ok (.iload_n 1, 1) := by decide +kernel
theorem dX9_groupOf_1 : decode cX9_groupOf 1 = .ok (.ldc 155, 2) := by decide +kernel
theorem dX9_groupOf_3 : decode cX9_groupOf 3 = .ok (.imul, 1) := by decide +kernel
theorem dX9_groupOf_4 : decode cX9_groupOf 4 = .ok (.bipush 7, 2) := by decide +kernel
theorem dX9_groupOf_6 : decode cX9_groupOf 6 = .ok (.iload_n 1, 1) := by decide +kernel
theorem dX9_groupOf_7 : decode cX9_groupOf 7 = .ok (.imul, 1) := by decide +kernel
theorem dX9_groupOf_8 : decode cX9_groupOf 8 = .ok (.iadd, 1) := by decide +kernel
theorem dX9_groupOf_9 : decode cX9_groupOf 9 = .ok (.istore_n 2, 1) := by decide +kernel
theorem dX9_groupOf_10 : decode cX9_groupOf 10 = .ok (.iload_n 2, 1) := by decide +kernel
theorem dX9_groupOf_11 : decode cX9_groupOf 11 = .ok (.iload_n 2, 1) := by decide +kernel
theorem dX9_groupOf_12 : decode cX9_groupOf 12 = .ok (.bipush 15, 2) := by decide +kernel
theorem dX9_groupOf_14 : decode cX9_groupOf 14 = .ok (.iushr, 1) := by decide +kernel
theorem dX9_groupOf_15 : decode cX9_groupOf 15 = .ok (.ixor, 1) := by decide +kernel
theorem dX9_groupOf_16 : decode cX9_groupOf 16 = .ok (.istore_n 3, 1) := by decide +kernel
theorem dX9_groupOf_17 : decode cX9_groupOf 17 = .ok (.iload_n 3, 1) := by decide +kernel
theorem dX9_groupOf_18 : decode cX9_groupOf 18 = .ok (.iconst 1, 1) := by decide +kernel
theorem dX9_groupOf_19 : decode cX9_groupOf 19 = .ok (.iushr, 1) := by decide +kernel
theorem dX9_groupOf_20 : decode cX9_groupOf 20 = .ok (.aload_n 0, 1) := by decide +kernel
theorem dX9_groupOf_21 : decode cX9_groupOf 21 = .ok (.getfield 134, 3) := by decide +kernel
theorem dX9_groupOf_24 : decode cX9_groupOf 24 = .ok (.irem, 1) := by decide +kernel
theorem dX9_groupOf_25 : decode cX9_groupOf 25 = .ok (.ireturn, 1) := by decide +kernel
theorem dX9_group_0 : decode cX9_group 0 = .ok (.iload_n 1, 1) := by decide +kernel
theorem dX9_group_1 : decode cX9_group 1 = .ok (.invokestatic 156, 3) := by decide +kernel
theorem dX9_group_4 : decode cX9_group 4 = .ok (.ifCond .eq 8, 3) := by decide +kernel
theorem dX9_group_7 : decode cX9_group 7 = .ok (.bipush (-101), 2) := by decide +kernel
theorem dX9_group_9 : decode cX9_group 9 = .ok (.goto 8, 3) := by decide +kernel
theorem dX9_group_12 : decode cX9_group 12 = .ok (.aload_n 0, 1) := by decide +kernel
theorem dX9_group_13 : decode cX9_group 13 = .ok (.iload_n 1, 1) := by decide +kernel
theorem dX9_group_14 : decode cX9_group 14 = .ok (.invokevirtual 160, 3) := by decide +kernel
theorem dX9_group_17 : decode cX9_group 17 = .ok (.ireturn, 1) := by decide +kernel
theorem dX9_row_0 : decode cX9_row 0 = .ok (.iload_n 1, 1) := by decide +kernel
theorem dX9_row_1 : decode cX9_row 1 = .ok (.invokestatic 156, 3) := by decide +kernel
theorem dX9_row_4 : decode cX9_row 4 = .ok (.ifCond .eq 6, 3) := by decide +kernel
theorem dX9_row_7 : decode cX9_row 7 = .ok (.bipush (-101), 2) := by decide +kernel
theorem dX9_row_9 : decode cX9_row 9 = .ok (.ireturn, 1) := by decide +kernel
theorem dX9_row_10 : decode cX9_row 10 = .ok (.iload_n 2, 1) := by decide +kernel
theorem dX9_row_11 : decode cX9_row 11 = .ok (.i2l, 1) := by decide +kernel
theorem dX9_row_12 : decode cX9_row 12 = .ok (.ldc2_w 164, 3) := by decide +kernel
theorem dX9_row_15 : decode cX9_row 15 = .ok (.ldc2_w 166, 3) := by decide +kernel
theorem dX9_row_18 : decode cX9_row 18 = .ok (.invokestatic 147, 3) := by decide +kernel
theorem dX9_row_21 : decode cX9_row 21 = .ok (.ifCond .ne 6, 3) := by decide +kernel
theorem dX9_row_24 : decode cX9_row 24 = .ok (.bipush (-102), 2) := by decide +kernel
theorem dX9_row_26 : decode cX9_row 26 = .ok (.ireturn, 1) := by decide +kernel
theorem dX9_row_27 : decode cX9_row 27 = .ok (.aload_n 0, 1) := by decide +kernel
theorem dX9_row_28 : decode cX9_row 28 = .ok (.getfield 109, 3) := by decide +kernel
theorem dX9_row_31 : decode cX9_row 31 = .ok (.sipush 400, 3) := by decide +kernel
theorem dX9_row_34 : decode cX9_row 34 = .ok (.if_icmp .ne 6, 3) := by decide +kernel
theorem dX9_row_37 : decode cX9_row 37 = .ok (.bipush (-107), 2) := by decide +kernel
theorem dX9_row_39 : decode cX9_row 39 = .ok (.ireturn, 1) := by decide +kernel
theorem dX9_row_40 : decode cX9_row 40 = .ok (.aload_n 0, 1) := by decide +kernel
theorem dX9_row_41 : decode cX9_row 41 = .ok (.getfield 23, 3) := by decide +kernel
theorem dX9_row_44 : decode cX9_row 44 = .ok (.aload_n 0, 1) := by decide +kernel
theorem dX9_row_45 : decode cX9_row 45 = .ok (.getfield 109, 3) := by decide +kernel
theorem dX9_row_48 : decode cX9_row 48 = .ok (.iload_n 1, 1) := by decide +kernel
theorem dX9_row_49 : decode cX9_row 49 = .ok (.iastore, 1) := by decide +kernel
end
section
theorem dX9_row_50 : decode cX9_row 50 = .ok (.aload_n 0, 1) := by decide +kernel
theorem dX9_row_51 : decode cX9_row 51 = .ok (.getfield 26, 3) := by decide +kernel
theorem dX9_row_54 : decode cX9_row 54 = .ok (.aload_n 0, 1) := by decide +kernel
theorem dX9_row_55 : decode cX9_row 55 = .ok (.getfield 109, 3) := by decide +kernel
theorem dX9_row_58 : decode cX9_row 58 = .ok (.iload_n 2, 1) := by decide +kernel
theorem dX9_row_59 : decode cX9_row 59 = .ok (.iastore, 1) := by decide +kernel
theorem dX9_row_60 : decode cX9_row 60 = .ok (.aload_n 0, 1) := by decide +kernel
theorem dX9_row_61 : decode cX9_row 61 = .ok (.getfield 29, 3) := by decide +kernel
theorem dX9_row_64 : decode cX9_row 64 = .ok (.aload_n 0, 1) := by decide +kernel
theorem dX9_row_65 : decode cX9_row 65 = .ok (.getfield 109, 3) := by decide +kernel
theorem dX9_row_68 : decode cX9_row 68 = .ok (.iconst 1, 1) := by decide +kernel
theorem dX9_row_69 : decode cX9_row 69 = .ok (.bastore, 1) := by decide +kernel
theorem dX9_row_70 : decode cX9_row 70 = .ok (.aload_n 0, 1) := by decide +kernel
theorem dX9_row_71 : decode cX9_row 71 = .ok (.dup, 1) := by decide +kernel
theorem dX9_row_72 : decode cX9_row 72 = .ok (.getfield 109, 3) := by decide +kernel
theorem dX9_row_75 : decode cX9_row 75 = .ok (.iconst 1, 1) := by decide +kernel
theorem dX9_row_76 : decode cX9_row 76 = .ok (.iadd, 1) := by decide +kernel
theorem dX9_row_77 : decode cX9_row 77 = .ok (.putfield 109, 3) := by decide +kernel
theorem dX9_row_80 : decode cX9_row 80 = .ok (.aload_n 0, 1) := by decide +kernel
theorem dX9_row_81 : decode cX9_row 81 = .ok (.getfield 16, 3) := by decide +kernel
theorem dX9_row_84 : decode cX9_row 84 = .ok (.aload_n 0, 1) := by decide +kernel
theorem dX9_row_85 : decode cX9_row 85 = .ok (.iload_n 1, 1) := by decide +kernel
theorem dX9_row_86 : decode cX9_row 86 = .ok (.invokevirtual 160, 3) := by decide +kernel
theorem dX9_row_89 : decode cX9_row 89 = .ok (.dup2, 1) := by decide +kernel
theorem dX9_row_90 : decode cX9_row 90 = .ok (.iaload, 1) := by decide +kernel
theorem dX9_row_91 : decode cX9_row 91 = .ok (.iconst 1, 1) := by decide +kernel
theorem dX9_row_92 : decode cX9_row 92 = .ok (.iadd, 1) := by decide +kernel
theorem dX9_row_93 : decode cX9_row 93 = .ok (.iastore, 1) := by decide +kernel
theorem dX9_row_94 : decode cX9_row 94 = .ok (.aload_n 0, 1) := by decide +kernel
theorem dX9_row_95 : decode cX9_row 95 = .ok (.getfield 7, 3) := by decide +kernel
theorem dX9_row_98 : decode cX9_row 98 = .ok (.aload_n 0, 1) := by decide +kernel
theorem dX9_row_99 : decode cX9_row 99 = .ok (.iload_n 1, 1) := by decide +kernel
theorem dX9_row_100 : decode cX9_row 100 = .ok (.invokevirtual 160, 3) := by decide +kernel
theorem dX9_row_103 : decode cX9_row 103 = .ok (.iaload, 1) := by decide +kernel
theorem dX9_row_104 : decode cX9_row 104 = .ok (.ireturn, 1) := by decide +kernel
theorem dX9_firstOf_0 : decode cX9_firstOf 0 = .ok (.iconst 0, 1) := by decide +kernel
theorem dX9_firstOf_1 : decode cX9_firstOf 1 = .ok (.istore_n 2, 1) := by decide +kernel
theorem dX9_firstOf_2 : decode cX9_firstOf 2 = .ok (.iload_n 2, 1) := by decide +kernel
theorem dX9_firstOf_3 : decode cX9_firstOf 3 = .ok (.aload_n 0, 1) := by decide +kernel
theorem dX9_firstOf_4 : decode cX9_firstOf 4 = .ok (.getfield 109, 3) := by decide +kernel
theorem dX9_firstOf_7 : decode cX9_firstOf 7 = .ok (.if_icmp .ge 39, 3) := by decide +kernel
theorem dX9_firstOf_10 : decode cX9_firstOf 10 = .ok (.aload_n 0, 1) := by decide +kernel
theorem dX9_firstOf_11 : decode cX9_firstOf 11 = .ok (.getfield 29, 3) := by decide +kernel
theorem dX9_firstOf_14 : decode cX9_firstOf 14 = .ok (.iload_n 2, 1) := by decide +kernel
theorem dX9_firstOf_15 : decode cX9_firstOf 15 = .ok (.baload, 1) := by decide +kernel
theorem dX9_firstOf_16 : decode cX9_firstOf 16 = .ok (.ifCond .eq 24, 3) := by decide +kernel
theorem dX9_firstOf_19 : decode cX9_firstOf 19 = .ok (.aload_n 0, 1) := by decide +kernel
theorem dX9_firstOf_20 : decode cX9_firstOf 20 = .ok (.getfield 7, 3) := by decide +kernel
theorem dX9_firstOf_23 : decode cX9_firstOf 23 = .ok (.aload_n 0, 1) := by decide +kernel
theorem dX9_firstOf_24 : decode cX9_firstOf 24 = .ok (.aload_n 0, 1) := by decide +kernel
theorem dX9_firstOf_25 : decode cX9_firstOf 25 = .ok (.getfield 23, 3) := by decide +kernel
theorem dX9_firstOf_28 : decode cX9_firstOf 28 = .ok (.iload_n 2, 1) := by decide +kernel
theorem dX9_firstOf_29 : decode cX9_firstOf 29 = .ok (.iaload, 1) := by decide +kernel
theorem dX9_firstOf_30 : decode cX9_firstOf 30 = .ok (.invokevirtual 160, 3) := by decide +kernel
theorem dX9_firstOf_33 : decode cX9_firstOf 33 = .ok (.iaload, 1) := by decide +kernel
theorem dX9_firstOf_34 : decode cX9_firstOf 34 = .ok (.iload_n 1, 1) := by decide +kernel
theorem dX9_firstOf_35 : decode cX9_firstOf 35 = .ok (.if_icmp .ne 5, 3) := by decide +kernel
theorem dX9_firstOf_38 : decode cX9_firstOf 38 = .ok (.iload_n 2, 1) := by decide +kernel
theorem dX9_firstOf_39 : decode cX9_firstOf 39 = .ok (.ireturn, 1) := by decide +kernel
theorem dX9_firstOf_40 : decode cX9_firstOf 40 = .ok (.iinc 2 1, 3) := by decide +kernel
theorem dX9_firstOf_43 : decode cX9_firstOf 43 = .ok (.goto (-41), 3) := by decide +kernel
theorem dX9_firstOf_46 : decode cX9_firstOf 46 = .ok (.bipush (-106), 2) := by decide +kernel
theorem dX9_firstOf_48 : decode cX9_firstOf 48 = .ok (.ireturn, 1) := by decide +kernel
theorem dX9_step_0 : decode cX9_step 0 = .ok (.iload_n 1, 1) := by decide +kernel
theorem dX9_step_1 : decode cX9_step 1 = .ok (.i2l, 1) := by decide +kernel
theorem dX9_step_2 : decode cX9_step 2 = .ok (.lconst 0, 1) := by decide +kernel
theorem dX9_step_3 : decode cX9_step 3 = .ok (.aload_n 0, 1) := by decide +kernel
theorem dX9_step_4 : decode cX9_step 4 = .ok (.getfield 140, 3) := by decide +kernel
theorem dX9_step_7 : decode cX9_step 7 = .ok (.iconst 1, 1) := by decide +kernel
theorem dX9_step_8 : decode cX9_step 8 = .ok (.isub, 1) := by decide +kernel
theorem dX9_step_9 : decode cX9_step 9 = .ok (.i2l, 1) := by decide +kernel
theorem dX9_step_10 : decode cX9_step 10 = .ok (.invokestatic 147, 3) := by decide +kernel
theorem dX9_step_13 : decode cX9_step 13 = .ok (.ifCond .ne 6, 3) := by decide +kernel
theorem dX9_step_16 : decode cX9_step 16 = .ok (.bipush (-101), 2) := by decide +kernel
theorem dX9_step_18 : decode cX9_step 18 = .ok (.ireturn, 1) := by decide +kernel
theorem dX9_step_19 : decode cX9_step 19 = .ok (.aload_n 0, 1) := by decide +kernel
theorem dX9_step_20 : decode cX9_step 20 = .ok (.iload_n 1, 1) := by decide +kernel
theorem dX9_step_21 : decode cX9_step 21 = .ok (.invokevirtual 168, 3) := by decide +kernel
theorem dX9_step_24 : decode cX9_step 24 = .ok (.istore_n 2, 1) := by decide +kernel
theorem dX9_step_25 : decode cX9_step 25 = .ok (.iload_n 2, 1) := by decide +kernel
theorem dX9_step_26 : decode cX9_step 26 = .ok (.ifCond .ge 6, 3) := by decide +kernel
theorem dX9_step_29 : decode cX9_step 29 = .ok (.bipush (-106), 2) := by decide +kernel
theorem dX9_step_31 : decode cX9_step 31 = .ok (.ireturn, 1) := by decide +kernel
theorem dX9_step_32 : decode cX9_step 32 = .ok (.aload_n 0, 1) := by decide +kernel
theorem dX9_step_33 : decode cX9_step 33 = .ok (.getfield 23, 3) := by decide +kernel
theorem dX9_step_36 : decode cX9_step 36 = .ok (.iload_n 2, 1) := by decide +kernel
theorem dX9_step_37 : decode cX9_step 37 = .ok (.iaload, 1) := by decide +kernel
theorem dX9_step_38 : decode cX9_step 38 = .ok (.istore_n 3, 1) := by decide +kernel
theorem dX9_step_39 : decode cX9_step 39 = .ok (.aload_n 0, 1) := by decide +kernel
theorem dX9_step_40 : decode cX9_step 40 = .ok (.getfield 29, 3) := by decide +kernel
theorem dX9_step_43 : decode cX9_step 43 = .ok (.iload_n 2, 1) := by decide +kernel
theorem dX9_step_44 : decode cX9_step 44 = .ok (.iconst 0, 1) := by decide +kernel
theorem dX9_step_45 : decode cX9_step 45 = .ok (.bastore, 1) := by decide +kernel
theorem dX9_step_46 : decode cX9_step 46 = .ok (.aload_n 0, 1) := by decide +kernel
theorem dX9_step_47 : decode cX9_step 47 = .ok (.getfield 32, 3) := by decide +kernel
theorem dX9_step_50 : decode cX9_step 50 = .ok (.iload_n 3, 1) := by decide +kernel
theorem dX9_step_51 : decode cX9_step 51 = .ok (.dup2, 1) := by decide +kernel
theorem dX9_step_52 : decode cX9_step 52 = .ok (.iaload, 1) := by decide +kernel
theorem dX9_step_53 : decode cX9_step 53 = .ok (.iconst 1, 1) := by decide +kernel
theorem dX9_step_54 : decode cX9_step 54 = .ok (.iadd, 1) := by decide +kernel
theorem dX9_step_55 : decode cX9_step 55 = .ok (.iastore, 1) := by decide +kernel
theorem dX9_step_56 : decode cX9_step 56 = .ok (.aload_n 0, 1) := by decide +kernel
theorem dX9_step_57 : decode cX9_step 57 = .ok (.getfield 35, 3) := by decide +kernel
theorem dX9_step_60 : decode cX9_step 60 = .ok (.iload_n 3, 1) := by decide +kernel
theorem dX9_step_61 : decode cX9_step 61 = .ok (.dup2, 1) := by decide +kernel
theorem dX9_step_62 : decode cX9_step 62 = .ok (.laload, 1) := by decide +kernel
theorem dX9_step_63 : decode cX9_step 63 = .ok (.aload_n 0, 1) := by decide +kernel
theorem dX9_step_64 : decode cX9_step 64 = .ok (.getfield 26, 3) := by decide +kernel
theorem dX9_step_67 : decode cX9_step 67 = .ok (.iload_n 2, 1) := by decide +kernel
theorem dX9_step_68 : decode cX9_step 68 = .ok (.iaload, 1) := by decide +kernel
theorem dX9_step_69 : decode cX9_step 69 = .ok (.i2l, 1) := by decide +kernel
theorem dX9_step_70 : decode cX9_step 70 = .ok (.ladd, 1) := by decide +kernel
theorem dX9_step_71 : decode cX9_step 71 = .ok (.lastore, 1) := by decide +kernel
theorem dX9_step_72 : decode cX9_step 72 = .ok (.aload_n 0, 1) := by decide +kernel
theorem dX9_step_73 : decode cX9_step 73 = .ok (.getfield 39, 3) := by decide +kernel
theorem dX9_step_76 : decode cX9_step 76 = .ok (.aload_n 0, 1) := by decide +kernel
theorem dX9_step_77 : decode cX9_step 77 = .ok (.getfield 112, 3) := by decide +kernel
theorem dX9_step_80 : decode cX9_step 80 = .ok (.iload_n 2, 1) := by decide +kernel
theorem dX9_step_81 : decode cX9_step 81 = .ok (.iastore, 1) := by decide +kernel
theorem dX9_step_82 : decode cX9_step 82 = .ok (.aload_n 0, 1) := by decide +kernel
theorem dX9_step_83 : decode cX9_step 83 = .ok (.getfield 42, 3) := by decide +kernel
theorem dX9_step_86 : decode cX9_step 86 = .ok (.aload_n 0, 1) := by decide +kernel
theorem dX9_step_87 : decode cX9_step 87 = .ok (.getfield 112, 3) := by decide +kernel
theorem dX9_step_90 : decode cX9_step 90 = .ok (.iload_n 3, 1) := by decide +kernel
theorem dX9_step_91 : decode cX9_step 91 = .ok (.iastore, 1) := by decide +kernel
theorem dX9_step_92 : decode cX9_step 92 = .ok (.aload_n 0, 1) := by decide +kernel
theorem dX9_step_93 : decode cX9_step 93 = .ok (.getfield 45, 3) := by decide +kernel
theorem dX9_step_96 : decode cX9_step 96 = .ok (.aload_n 0, 1) := by decide +kernel
theorem dX9_step_97 : decode cX9_step 97 = .ok (.getfield 112, 3) := by decide +kernel
theorem dX9_step_100 : decode cX9_step 100 = .ok (.aload_n 0, 1) := by decide +kernel
theorem dX9_step_101 : decode cX9_step 101 = .ok (.getfield 35, 3) := by decide +kernel
theorem dX9_step_104 : decode cX9_step 104 = .ok (.iload_n 3, 1) := by decide +kernel
theorem dX9_step_105 : decode cX9_step 105 = .ok (.laload, 1) := by decide +kernel
theorem dX9_step_106 : decode cX9_step 106 = .ok (.lastore, 1) := by decide +kernel
theorem dX9_step_107 : decode cX9_step 107 = .ok (.aload_n 0, 1) := by decide +kernel
theorem dX9_step_108 : decode cX9_step 108 = .ok (.dup, 1) := by decide +kernel
theorem dX9_step_109 : decode cX9_step 109 = .ok (.getfield 112, 3) := by decide +kernel
theorem dX9_step_112 : decode cX9_step 112 = .ok (.iconst 1, 1) := by decide +kernel
theorem dX9_step_113 : decode cX9_step 113 = .ok (.iadd, 1) := by decide +kernel
theorem dX9_step_114 : decode cX9_step 114 = .ok (.putfield 112, 3) := by decide +kernel
theorem dX9_step_117 : decode cX9_step 117 = .ok (.iload_n 3, 1) := by decide +kernel
theorem dX9_step_118 : decode cX9_step 118 = .ok (.ireturn, 1) := by decide +kernel
theorem dX9_add_0 : decode cX9_add 0 = .ok (.iload_n 1, 1) := by decide +kernel
theorem dX9_add_1 : decode cX9_add 1 = .ok (.invokestatic 156, 3) := by decide +kernel
theorem dX9_add_4 : decode cX9_add 4 = .ok (.ifCond .eq 6, 3) := by decide +kernel
theorem dX9_add_7 : decode cX9_add 7 = .ok (.bipush (-101), 2) := by decide +kernel
theorem dX9_add_9 : decode cX9_add 9 = .ok (.ireturn, 1) := by decide +kernel
theorem dX9_add_10 : decode cX9_add 10 = .ok (.iload_n 3, 1) := by decide +kernel
theorem dX9_add_11 : decode cX9_add 11 = .ok (.i2l, 1) := by decide +kernel
theorem dX9_add_12 : decode cX9_add 12 = .ok (.ldc2_w 164, 3) := by decide +kernel
theorem dX9_add_15 : decode cX9_add 15 = .ok (.ldc2_w 166, 3) := by decide +kernel
theorem dX9_add_18 : decode cX9_add 18 = .ok (.invokestatic 147, 3) := by decide +kernel
theorem dX9_add_21 : decode cX9_add 21 = .ok (.ifCond .ne 6, 3) := by decide +kernel
theorem dX9_add_24 : decode cX9_add 24 = .ok (.bipush (-102), 2) := by decide +kernel
theorem dX9_add_26 : decode cX9_add 26 = .ok (.ireturn, 1) := by decide +kernel
theorem dX9_add_27 : decode cX9_add 27 = .ok (.aload_n 0, 1) := by decide +kernel
theorem dX9_add_28 : decode cX9_add 28 = .ok (.getfield 13, 3) := by decide +kernel
theorem dX9_add_31 : decode cX9_add 31 = .ok (.aload_n 0, 1) := by decide +kernel
theorem dX9_add_32 : decode cX9_add 32 = .ok (.iload_n 1, 1) := by decide +kernel
theorem dX9_add_33 : decode cX9_add 33 = .ok (.invokevirtual 160, 3) := by decide +kernel
theorem dX9_add_36 : decode cX9_add 36 = .ok (.iaload, 1) := by decide +kernel
theorem dX9_add_37 : decode cX9_add 37 = .ok (.iload_n 2, 1) := by decide +kernel
theorem dX9_add_38 : decode cX9_add 38 = .ok (.if_icmp .eq 6, 3) := by decide +kernel
theorem dX9_add_41 : decode cX9_add 41 = .ok (.bipush (-104), 2) := by decide +kernel
theorem dX9_add_43 : decode cX9_add 43 = .ok (.ireturn, 1) := by decide +kernel
theorem dX9_add_44 : decode cX9_add 44 = .ok (.aload_n 0, 1) := by decide +kernel
theorem dX9_add_45 : decode cX9_add 45 = .ok (.getfield 35, 3) := by decide +kernel
theorem dX9_add_48 : decode cX9_add 48 = .ok (.iload_n 1, 1) := by decide +kernel
theorem dX9_add_49 : decode cX9_add 49 = .ok (.dup2, 1) := by decide +kernel
theorem dX9_add_50 : decode cX9_add 50 = .ok (.laload, 1) := by decide +kernel
theorem dX9_add_51 : decode cX9_add 51 = .ok (.iload_n 3, 1) := by decide +kernel
theorem dX9_add_52 : decode cX9_add 52 = .ok (.i2l, 1) := by decide +kernel
theorem dX9_add_53 : decode cX9_add 53 = .ok (.ladd, 1) := by decide +kernel
theorem dX9_add_54 : decode cX9_add 54 = .ok (.lastore, 1) := by decide +kernel
theorem dX9_add_55 : decode cX9_add 55 = .ok (.iconst 1, 1) := by decide +kernel
theorem dX9_add_56 : decode cX9_add 56 = .ok (.ireturn, 1) := by decide +kernel
theorem dX9_planEven_0 : decode cX9_planEven 0 = .ok (.iconst 0, 1) := by decide +kernel
theorem dX9_planEven_1 : decode cX9_planEven 1 = .ok (.istore_n 2, 1) := by decide +kernel
theorem dX9_planEven_2 : decode cX9_planEven 2 = .ok (.iload_n 2, 1) := by decide +kernel
theorem dX9_planEven_3 : decode cX9_planEven 3 = .ok (.iload_n 1, 1) := by decide +kernel
theorem dX9_planEven_4 : decode cX9_planEven 4 = .ok (.if_icmp .ge 45, 3) := by decide +kernel
theorem dX9_planEven_7 : decode cX9_planEven 7 = .ok (.iload_n 2, 1) := by decide +kernel
theorem dX9_planEven_8 : decode cX9_planEven 8 = .ok (.aload_n 0, 1) := by decide +kernel
theorem dX9_planEven_9 : decode cX9_planEven 9 = .ok (.getfield 134, 3) := by decide +kernel
theorem dX9_planEven_12 : decode cX9_planEven 12 = .ok (.imul, 1) := by decide +kernel
theorem dX9_planEven_13 : decode cX9_planEven 13 = .ok (.iload_n 1, 1) := by decide +kernel
theorem dX9_planEven_14 : decode cX9_planEven 14 = .ok (.idiv, 1) := by decide +kernel
theorem dX9_planEven_15 : decode cX9_planEven 15 = .ok (.istore_n 3, 1) := by decide +kernel
theorem dX9_planEven_16 : decode cX9_planEven 16 = .ok (.iload_n 3, 1) := by decide +kernel
theorem dX9_planEven_17 : decode cX9_planEven 17 = .ok (.iload_n 2, 1) := by decide +kernel
theorem dX9_planEven_18 : decode cX9_planEven 18 = .ok (.iconst 1, 1) := by decide +kernel
theorem dX9_planEven_19 : decode cX9_planEven 19 = .ok (.iadd, 1) := by decide +kernel
theorem dX9_planEven_20 : decode cX9_planEven 20 = .ok (.aload_n 0, 1) := by decide +kernel
theorem dX9_planEven_21 : decode cX9_planEven 21 = .ok (.getfield 134, 3) := by decide +kernel
theorem dX9_planEven_24 : decode cX9_planEven 24 = .ok (.imul, 1) := by decide +kernel
theorem dX9_planEven_25 : decode cX9_planEven 25 = .ok (.iload_n 1, 1) := by decide +kernel
theorem dX9_planEven_26 : decode cX9_planEven 26 = .ok (.idiv, 1) := by decide +kernel
theorem dX9_planEven_27 : decode cX9_planEven 27 = .ok (.if_icmp .ge 16, 3) := by decide +kernel
theorem dX9_planEven_30 : decode cX9_planEven 30 = .ok (.aload_n 0, 1) := by decide +kernel
theorem dX9_planEven_31 : decode cX9_planEven 31 = .ok (.getfield 96, 3) := by decide +kernel
theorem dX9_planEven_34 : decode cX9_planEven 34 = .ok (.iload_n 3, 1) := by decide +kernel
theorem dX9_planEven_35 : decode cX9_planEven 35 = .ok (.iload_n 2, 1) := by decide +kernel
theorem dX9_planEven_36 : decode cX9_planEven 36 = .ok (.iastore, 1) := by decide +kernel
theorem dX9_planEven_37 : decode cX9_planEven 37 = .ok (.iinc 3 1, 3) := by decide +kernel
theorem dX9_planEven_40 : decode cX9_planEven 40 = .ok (.goto (-24), 3) := by decide +kernel
theorem dX9_planEven_43 : decode cX9_planEven 43 = .ok (.iinc 2 1, 3) := by decide +kernel
theorem dX9_planEven_46 : decode cX9_planEven 46 = .ok (.goto (-44), 3) := by decide +kernel
theorem dX9_planEven_49 : decode cX9_planEven 49 = .ok (.return_, 1) := by decide +kernel
theorem dX9_total_0 : decode cX9_total 0 = .ok (.iconst 0, 1) := by decide +kernel
theorem dX9_total_1 : decode cX9_total 1 = .ok (.istore_n 1, 1) := by decide +kernel
theorem dX9_total_2 : decode cX9_total 2 = .ok (.iconst 0, 1) := by decide +kernel
theorem dX9_total_3 : decode cX9_total 3 = .ok (.istore_n 2, 1) := by decide +kernel
theorem dX9_total_4 : decode cX9_total 4 = .ok (.iload_n 2, 1) := by decide +kernel
theorem dX9_total_5 : decode cX9_total 5 = .ok (.aload_n 0, 1) := by decide +kernel
theorem dX9_total_6 : decode cX9_total 6 = .ok (.getfield 134, 3) := by decide +kernel
theorem dX9_total_9 : decode cX9_total 9 = .ok (.if_icmp .ge 18, 3) := by decide +kernel
theorem dX9_total_12 : decode cX9_total 12 = .ok (.iload_n 1, 1) := by decide +kernel
theorem dX9_total_13 : decode cX9_total 13 = .ok (.aload_n 0, 1) := by decide +kernel
theorem dX9_total_14 : decode cX9_total 14 = .ok (.getfield 16, 3) := by decide +kernel
theorem dX9_total_17 : decode cX9_total 17 = .ok (.iload_n 2, 1) := by decide +kernel
theorem dX9_total_18 : decode cX9_total 18 = .ok (.iaload, 1) := by decide +kernel
theorem dX9_total_19 : decode cX9_total 19 = .ok (.iadd, 1) := by decide +kernel
theorem dX9_total_20 : decode cX9_total 20 = .ok (.istore_n 1, 1) := by decide +kernel
theorem dX9_total_21 : decode cX9_total 21 = .ok (.iinc 2 1, 3) := by decide +kernel
theorem dX9_total_24 : decode cX9_total 24 = .ok (.goto (-20), 3) := by decide +kernel
theorem dX9_total_27 : decode cX9_total 27 = .ok (.iload_n 1, 1) := by decide +kernel
theorem dX9_total_28 : decode cX9_total 28 = .ok (.ireturn, 1) := by decide +kernel
theorem dX9_movedOf_0 : decode cX9_movedOf 0 = .ok (.lconst 0, 1) := by decide +kernel
theorem dX9_movedOf_1 : decode cX9_movedOf 1 = .ok (.lstore 4, 2) := by decide +kernel
theorem dX9_movedOf_3 : decode cX9_movedOf 3 = .ok (.iload_n 2, 1) := by decide +kernel
theorem dX9_movedOf_4 : decode cX9_movedOf 4 = .ok (.istore 6, 2) := by decide +kernel
theorem dX9_movedOf_6 : decode cX9_movedOf 6 = .ok (.iload 6, 2) := by decide +kernel
theorem dX9_movedOf_8 : decode cX9_movedOf 8 = .ok (.iload_n 3, 1) := by decide +kernel
theorem dX9_movedOf_9 : decode cX9_movedOf 9 = .ok (.if_icmp .ge 39, 3) := by decide +kernel
theorem dX9_movedOf_12 : decode cX9_movedOf 12 = .ok (.lload 4, 2) := by decide +kernel
theorem dX9_movedOf_14 : decode cX9_movedOf 14 = .ok (.aload_n 0, 1) := by decide +kernel
theorem dX9_movedOf_15 : decode cX9_movedOf 15 = .ok (.getfield 7, 3) := by decide +kernel
theorem dX9_movedOf_18 : decode cX9_movedOf 18 = .ok (.iload 6, 2) := by decide +kernel
theorem dX9_movedOf_20 : decode cX9_movedOf 20 = .ok (.iaload, 1) := by decide +kernel
theorem dX9_movedOf_21 : decode cX9_movedOf 21 = .ok (.iload_n 1, 1) := by decide +kernel
theorem dX9_movedOf_22 : decode cX9_movedOf 22 = .ok (.if_icmp .ne 7, 3) := by decide +kernel
theorem dX9_movedOf_25 : decode cX9_movedOf 25 = .ok (.lconst 0, 1) := by decide +kernel
theorem dX9_movedOf_26 : decode cX9_movedOf 26 = .ok (.goto 13, 3) := by decide +kernel
theorem dX9_movedOf_29 : decode cX9_movedOf 29 = .ok (.aload_n 0, 1) := by decide +kernel
theorem dX9_movedOf_30 : decode cX9_movedOf 30 = .ok (.getfield 16, 3) := by decide +kernel
theorem dX9_movedOf_33 : decode cX9_movedOf 33 = .ok (.iload 6, 2) := by decide +kernel
theorem dX9_movedOf_35 : decode cX9_movedOf 35 = .ok (.iaload, 1) := by decide +kernel
theorem dX9_movedOf_36 : decode cX9_movedOf 36 = .ok (.iconst 1, 1) := by decide +kernel
theorem dX9_movedOf_37 : decode cX9_movedOf 37 = .ok (.iadd, 1) := by decide +kernel
theorem dX9_movedOf_38 : decode cX9_movedOf 38 = .ok (.i2l, 1) := by decide +kernel
theorem dX9_movedOf_39 : decode cX9_movedOf 39 = .ok (.ladd, 1) := by decide +kernel
theorem dX9_movedOf_40 : decode cX9_movedOf 40 = .ok (.lstore 4, 2) := by decide +kernel
theorem dX9_movedOf_42 : decode cX9_movedOf 42 = .ok (.iinc 6 1, 3) := by decide +kernel
theorem dX9_movedOf_45 : decode cX9_movedOf 45 = .ok (.goto (-39), 3) := by decide +kernel
theorem dX9_movedOf_48 : decode cX9_movedOf 48 = .ok (.lload 4, 2) := by decide +kernel
theorem dX9_movedOf_50 : decode cX9_movedOf 50 = .ok (.lreturn, 1) := by decide +kernel
theorem dX9_weightOf_0 : decode cX9_weightOf 0 = .ok (.iconst 0, 1) := by decide +kernel
theorem dX9_weightOf_1 : decode cX9_weightOf 1 = .ok (.istore_n 3, 1) := by decide +kernel
theorem dX9_weightOf_2 : decode cX9_weightOf 2 = .ok (.iload_n 1, 1) := by decide +kernel
theorem dX9_weightOf_3 : decode cX9_weightOf 3 = .ok (.istore 4, 2) := by decide +kernel
theorem dX9_weightOf_5 : decode cX9_weightOf 5 = .ok (.iload 4, 2) := by decide +kernel
theorem dX9_weightOf_7 : decode cX9_weightOf 7 = .ok (.iload_n 2, 1) := by decide +kernel
theorem dX9_weightOf_8 : decode cX9_weightOf 8 = .ok (.if_icmp .ge 19, 3) := by decide +kernel
theorem dX9_weightOf_11 : decode cX9_weightOf 11 = .ok (.iload_n 3, 1) := by decide +kernel
theorem dX9_weightOf_12 : decode cX9_weightOf 12 = .ok (.aload_n 0, 1) := by decide +kernel
theorem dX9_weightOf_13 : decode cX9_weightOf 13 = .ok (.getfield 16, 3) := by decide +kernel
theorem dX9_weightOf_16 : decode cX9_weightOf 16 = .ok (.iload 4, 2) := by decide +kernel
theorem dX9_weightOf_18 : decode cX9_weightOf 18 = .ok (.iaload, 1) := by decide +kernel
theorem dX9_weightOf_19 : decode cX9_weightOf 19 = .ok (.iadd, 1) := by decide +kernel
theorem dX9_weightOf_20 : decode cX9_weightOf 20 = .ok (.istore_n 3, 1) := by decide +kernel
theorem dX9_weightOf_21 : decode cX9_weightOf 21 = .ok (.iinc 4 1, 3) := by decide +kernel
theorem dX9_weightOf_24 : decode cX9_weightOf 24 = .ok (.goto (-19), 3) := by decide +kernel
theorem dX9_weightOf_27 : decode cX9_weightOf 27 = .ok (.iload_n 3, 1) := by decide +kernel
theorem dX9_weightOf_28 : decode cX9_weightOf 28 = .ok (.ireturn, 1) := by decide +kernel
theorem dX9_limit_0 : decode cX9_limit 0 = .ok (.bipush 100, 2) := by decide +kernel
theorem dX9_limit_2 : decode cX9_limit 2 = .ok (.iload_n 1, 1) := by decide +kernel
theorem dX9_limit_3 : decode cX9_limit 3 = .ok (.imul, 1) := by decide +kernel
theorem dX9_limit_4 : decode cX9_limit 4 = .ok (.istore_n 2, 1) := by decide +kernel
theorem dX9_limit_5 : decode cX9_limit 5 = .ok (.aload_n 0, 1) := by decide +kernel
theorem dX9_limit_6 : decode cX9_limit 6 = .ok (.invokevirtual 171, 3) := by decide +kernel
theorem dX9_limit_9 : decode cX9_limit 9 = .ok (.bipush 100, 2) := by decide +kernel
theorem dX9_limit_11 : decode cX9_limit 11 = .ok (.aload_n 0, 1) := by decide +kernel
theorem dX9_limit_12 : decode cX9_limit 12 = .ok (.getfield 105, 3) := by decide +kernel
theorem dX9_limit_15 : decode cX9_limit 15 = .ok (.iadd, 1) := by decide +kernel
theorem dX9_limit_16 : decode cX9_limit 16 = .ok (.imul, 1) := by decide +kernel
theorem dX9_limit_17 : decode cX9_limit 17 = .ok (.iload_n 2, 1) := by decide +kernel
theorem dX9_limit_18 : decode cX9_limit 18 = .ok (.iadd, 1) := by decide +kernel
theorem dX9_limit_19 : decode cX9_limit 19 = .ok (.iconst 1, 1) := by decide +kernel
theorem dX9_limit_20 : decode cX9_limit 20 = .ok (.isub, 1) := by decide +kernel
theorem dX9_limit_21 : decode cX9_limit 21 = .ok (.iload_n 2, 1) := by decide +kernel
theorem dX9_limit_22 : decode cX9_limit 22 = .ok (.idiv, 1) := by decide +kernel
theorem dX9_limit_23 : decode cX9_limit 23 = .ok (.ireturn, 1) := by decide +kernel
theorem dX9_tryRange_0 : decode cX9_tryRange 0 = .ok (.aload_n 0, 1) := by decide +kernel
theorem dX9_tryRange_1 : decode cX9_tryRange 1 = .ok (.getfield 99, 3) := by decide +kernel
theorem dX9_tryRange_4 : decode cX9_tryRange 4 = .ok (.bipush 33, 2) := by decide +kernel
theorem dX9_tryRange_6 : decode cX9_tryRange 6 = .ok (.iload_n 1, 1) := by decide +kernel
theorem dX9_tryRange_7 : decode cX9_tryRange 7 = .ok (.iconst 1, 1) := by decide +kernel
theorem dX9_tryRange_8 : decode cX9_tryRange 8 = .ok (.iadd, 1) := by decide +kernel
theorem dX9_tryRange_9 : decode cX9_tryRange 9 = .ok (.imul, 1) := by decide +kernel
theorem dX9_tryRange_10 : decode cX9_tryRange 10 = .ok (.iload_n 3, 1) := by decide +kernel
theorem dX9_tryRange_11 : decode cX9_tryRange 11 = .ok (.iadd, 1) := by decide +kernel
theorem dX9_tryRange_12 : decode cX9_tryRange 12 = .ok (.laload, 1) := by decide +kernel
theorem dX9_tryRange_13 : decode cX9_tryRange 13 = .ok (.lstore 5, 2) := by decide +kernel
theorem dX9_tryRange_15 : decode cX9_tryRange 15 = .ok (.lload 5, 2) := by decide +kernel
theorem dX9_tryRange_17 : decode cX9_tryRange 17 = .ok (.lconst 0, 1) := by decide +kernel
theorem dX9_tryRange_18 : decode cX9_tryRange 18 = .ok (.lcmp, 1) := by decide +kernel
theorem dX9_tryRange_19 : decode cX9_tryRange 19 = .ok (.ifCond .lt 14, 3) := by decide +kernel
theorem dX9_tryRange_22 : decode cX9_tryRange 22 = .ok (.aload_n 0, 1) := by decide +kernel
theorem dX9_tryRange_23 : decode cX9_tryRange 23 = .ok (.iload_n 2, 1) := by decide +kernel
theorem dX9_tryRange_24 : decode cX9_tryRange 24 = .ok (.iload_n 3, 1) := by decide +kernel
theorem dX9_tryRange_25 : decode cX9_tryRange 25 = .ok (.invokevirtual 175, 3) := by decide +kernel
theorem dX9_tryRange_28 : decode cX9_tryRange 28 = .ok (.iload 4, 2) := by decide +kernel
theorem dX9_tryRange_30 : decode cX9_tryRange 30 = .ok (.if_icmp .le 9, 3) := by decide +kernel
theorem dX9_tryRange_33 : decode cX9_tryRange 33 = .ok (.ldc2_w 179, 3) := by decide +kernel
theorem dX9_tryRange_36 : decode cX9_tryRange 36 = .ok (.goto 13, 3) := by decide +kernel
theorem dX9_tryRange_39 : decode cX9_tryRange 39 = .ok (.lload 5, 2) := by decide +kernel
theorem dX9_tryRange_41 : decode cX9_tryRange 41 = .ok (.aload_n 0, 1) := by decide +kernel
theorem dX9_tryRange_42 : decode cX9_tryRange 42 = .ok (.iload_n 1, 1) := by decide +kernel
theorem dX9_tryRange_43 : decode cX9_tryRange 43 = .ok (.iload_n 2, 1) := by decide +kernel
theorem dX9_tryRange_44 : decode cX9_tryRange 44 = .ok (.iload_n 3, 1) := by decide +kernel
theorem dX9_tryRange_45 : decode cX9_tryRange 45 = .ok (.invokevirtual 181, 3) := by decide +kernel
theorem dX9_tryRange_48 : decode cX9_tryRange 48 = .ok (.ladd, 1) := by decide +kernel
theorem dX9_tryRange_49 : decode cX9_tryRange 49 = .ok (.lreturn, 1) := by decide +kernel
theorem dX9_findLeast_0 : decode cX9_findLeast 0 = .ok (.aload_n 0, 1) := by decide +kernel
theorem dX9_findLeast_1 : decode cX9_findLeast 1 = .ok (.iload_n 1, 1) := by decide +kernel
theorem dX9_findLeast_2 : decode cX9_findLeast 2 = .ok (.invokevirtual 185, 3) := by decide +kernel
theorem dX9_findLeast_5 : decode cX9_findLeast 5 = .ok (.istore_n 2, 1) := by decide +kernel
theorem dX9_findLeast_6 : decode cX9_findLeast 6 = .ok (.iconst 0, 1) := by decide +kernel
theorem dX9_findLeast_7 : decode cX9_findLeast 7 = .ok (.istore_n 3, 1) := by decide +kernel
theorem dX9_findLeast_8 : decode cX9_findLeast 8 = .ok (.iload_n 3, 1) := by decide +kernel
theorem dX9_findLeast_9 : decode cX9_findLeast 9 = .ok (.aload_n 0, 1) := by decide +kernel
theorem dX9_findLeast_10 : decode cX9_findLeast 10 = .ok (.getfield 134, 3) := by decide +kernel
theorem dX9_findLeast_13 : decode cX9_findLeast 13 = .ok (.if_icmp .gt 35, 3) := by decide +kernel
theorem dX9_findLeast_16 : decode cX9_findLeast 16 = .ok (.aload_n 0, 1) := by decide +kernel
theorem dX9_findLeast_17 : decode cX9_findLeast 17 = .ok (.getfield 99, 3) := by decide +kernel
theorem dX9_findLeast_20 : decode cX9_findLeast 20 = .ok (.bipush 33, 2) := by decide +kernel
theorem dX9_findLeast_22 : decode cX9_findLeast 22 = .ok (.iload_n 1, 1) := by decide +kernel
theorem dX9_findLeast_23 : decode cX9_findLeast 23 = .ok (.imul, 1) := by decide +kernel
theorem dX9_findLeast_24 : decode cX9_findLeast 24 = .ok (.iload_n 3, 1) := by decide +kernel
theorem dX9_findLeast_25 : decode cX9_findLeast 25 = .ok (.iadd, 1) := by decide +kernel
theorem dX9_findLeast_26 : decode cX9_findLeast 26 = .ok (.iload_n 3, 1) := by decide +kernel
theorem dX9_findLeast_27 : decode cX9_findLeast 27 = .ok (.aload_n 0, 1) := by decide +kernel
theorem dX9_findLeast_28 : decode cX9_findLeast 28 = .ok (.getfield 134, 3) := by decide +kernel
theorem dX9_findLeast_31 : decode cX9_findLeast 31 = .ok (.if_icmp .ne 7, 3) := by decide +kernel
theorem dX9_findLeast_34 : decode cX9_findLeast 34 = .ok (.lconst 0, 1) := by decide +kernel
theorem dX9_findLeast_35 : decode cX9_findLeast 35 = .ok (.goto 6, 3) := by decide +kernel
theorem dX9_findLeast_38 : decode cX9_findLeast 38 = .ok (.ldc2_w 179, 3) := by decide +kernel
theorem dX9_findLeast_41 : decode cX9_findLeast 41 = .ok (.lastore, 1) := by decide +kernel
theorem dX9_findLeast_42 : decode cX9_findLeast 42 = .ok (.iinc 3 1, 3) := by decide +kernel
theorem dX9_findLeast_45 : decode cX9_findLeast 45 = .ok (.goto (-37), 3) := by decide +kernel
theorem dX9_findLeast_48 : decode cX9_findLeast 48 = .ok (.iload_n 1, 1) := by decide +kernel
theorem dX9_findLeast_49 : decode cX9_findLeast 49 = .ok (.iconst 1, 1) := by decide +kernel
theorem dX9_findLeast_50 : decode cX9_findLeast 50 = .ok (.isub, 1) := by decide +kernel
theorem dX9_findLeast_51 : decode cX9_findLeast 51 = .ok (.istore_n 3, 1) := by decide +kernel
theorem dX9_findLeast_52 : decode cX9_findLeast 52 = .ok (.iload_n 3, 1) := by decide +kernel
theorem dX9_findLeast_53 : decode cX9_findLeast 53 = .ok (.ifCond .lt 110, 3) := by decide +kernel
theorem dX9_findLeast_56 : decode cX9_findLeast 56 = .ok (.iconst 0, 1) := by decide +kernel
theorem dX9_findLeast_57 : decode cX9_findLeast 57 = .ok (.istore 4, 2) := by decide +kernel
theorem dX9_findLeast_59 : decode cX9_findLeast 59 = .ok (.iload 4, 2) := by decide +kernel
theorem dX9_findLeast_61 : decode cX9_findLeast 61 = .ok (.aload_n 0, 1) := by decide +kernel
theorem dX9_findLeast_62 : decode cX9_findLeast 62 = .ok (.getfield 134, 3) := by decide +kernel
theorem dX9_findLeast_65 : decode cX9_findLeast 65 = .ok (.if_icmp .gt 92, 3) := by decide +kernel
theorem dX9_findLeast_68 : decode cX9_findLeast 68 = .ok (.ldc2_w 179, 3) := by decide +kernel
theorem dX9_findLeast_71 : decode cX9_findLeast 71 = .ok (.lstore 5, 2) := by decide +kernel
theorem dX9_findLeast_73 : decode cX9_findLeast 73 = .ok (.iload 4, 2) := by decide +kernel
theorem dX9_findLeast_75 : decode cX9_findLeast 75 = .ok (.iconst 1, 1) := by decide +kernel
theorem dX9_findLeast_76 : decode cX9_findLeast 76 = .ok (.iadd, 1) := by decide +kernel
theorem dX9_findLeast_77 : decode cX9_findLeast 77 = .ok (.istore 7, 2) := by decide +kernel
theorem dX9_findLeast_79 : decode cX9_findLeast 79 = .ok (.iload 7, 2) := by decide +kernel
theorem dX9_findLeast_81 : decode cX9_findLeast 81 = .ok (.aload_n 0, 1) := by decide +kernel
theorem dX9_findLeast_82 : decode cX9_findLeast 82 = .ok (.getfield 134, 3) := by decide +kernel
theorem dX9_findLeast_85 : decode cX9_findLeast 85 = .ok (.if_icmp .gt 52, 3) := by decide +kernel
theorem dX9_findLeast_88 : decode cX9_findLeast 88 = .ok (.aload_n 0, 1) := by decide +kernel
theorem dX9_findLeast_89 : decode cX9_findLeast 89 = .ok (.iload_n 3, 1) := by decide +kernel
theorem dX9_findLeast_90 : decode cX9_findLeast 90 = .ok (.iload 4, 2) := by decide +kernel
theorem dX9_findLeast_92 : decode cX9_findLeast 92 = .ok (.iload 7, 2) := by decide +kernel
theorem dX9_findLeast_94 : decode cX9_findLeast 94 = .ok (.iload_n 2, 1) := by decide +kernel
theorem dX9_findLeast_95 : decode cX9_findLeast 95 = .ok (.invokevirtual 188, 3) := by decide +kernel
theorem dX9_findLeast_98 : decode cX9_findLeast 98 = .ok (.lstore 8, 2) := by decide +kernel
theorem dX9_findLeast_100 : decode cX9_findLeast 100 = .ok (.lload 8, 2) := by decide +kernel
theorem dX9_findLeast_102 : decode cX9_findLeast 102 = .ok (.lconst 0, 1) := by decide +kernel
theorem dX9_findLeast_103 : decode cX9_findLeast 103 = .ok (.lcmp, 1) := by decide +kernel
theorem dX9_findLeast_104 : decode cX9_findLeast 104 = .ok (.ifCond .lt 23, 3) := by decide +kernel
theorem dX9_findLeast_107 : decode cX9_findLeast 107 = .ok (.lload 5, 2) := by decide +kernel
theorem dX9_findLeast_109 : decode cX9_findLeast 109 = .ok (.lconst 0, 1) := by decide +kernel
theorem dX9_findLeast_110 : decode cX9_findLeast 110 = .ok (.lcmp, 1) := by decide +kernel
theorem dX9_findLeast_111 : decode cX9_findLeast 111 = .ok (.ifCond .lt 11, 3) := by decide +kernel
theorem dX9_findLeast_114 : decode cX9_findLeast 114 = .ok (.lload 8, 2) := by decide +kernel
theorem dX9_findLeast_116 : decode cX9_findLeast 116 = .ok (.lload 5, 2) := by decide +kernel
theorem dX9_findLeast_118 : decode cX9_findLeast 118 = .ok (.lcmp, 1) := by decide +kernel
theorem dX9_findLeast_119 : decode cX9_findLeast 119 = .ok (.ifCond .ge 8, 3) := by decide +kernel
theorem dX9_findLeast_122 : decode cX9_findLeast 122 = .ok (.lload 8, 2) := by decide +kernel
theorem dX9_findLeast_124 : decode cX9_findLeast 124 = .ok (.goto 5, 3) := by decide +kernel
theorem dX9_findLeast_127 : decode cX9_findLeast 127 = .ok (.lload 5, 2) := by decide +kernel
theorem dX9_findLeast_129 : decode cX9_findLeast 129 = .ok (.lstore 5, 2) := by decide +kernel
theorem dX9_findLeast_131 : decode cX9_findLeast 131 = .ok (.iinc 7 1, 3) := by decide +kernel
theorem dX9_findLeast_134 : decode cX9_findLeast 134 = .ok (.goto (-55), 3) := by decide +kernel
theorem dX9_findLeast_137 : decode cX9_findLeast 137 = .ok (.aload_n 0, 1) := by decide +kernel
theorem dX9_findLeast_138 : decode cX9_findLeast 138 = .ok (.getfield 99, 3) := by decide +kernel
theorem dX9_findLeast_141 : decode cX9_findLeast 141 = .ok (.bipush 33, 2) := by decide +kernel
theorem dX9_findLeast_143 : decode cX9_findLeast 143 = .ok (.iload_n 3, 1) := by decide +kernel
theorem dX9_findLeast_144 : decode cX9_findLeast 144 = .ok (.imul, 1) := by decide +kernel
theorem dX9_findLeast_145 : decode cX9_findLeast 145 = .ok (.iload 4, 2) := by decide +kernel
theorem dX9_findLeast_147 : decode cX9_findLeast 147 = .ok (.iadd, 1) := by decide +kernel
theorem dX9_findLeast_148 : decode cX9_findLeast 148 = .ok (.lload 5, 2) := by decide +kernel
theorem dX9_findLeast_150 : decode cX9_findLeast 150 = .ok (.lastore, 1) := by decide +kernel
theorem dX9_findLeast_151 : decode cX9_findLeast 151 = .ok (.iinc 4 1, 3) := by decide +kernel
theorem dX9_findLeast_154 : decode cX9_findLeast 154 = .ok (.goto (-95), 3) := by decide +kernel
theorem dX9_findLeast_157 : decode cX9_findLeast 157 = .ok (.iinc 3 (-1), 3) := by decide +kernel
theorem dX9_findLeast_160 : decode cX9_findLeast 160 = .ok (.goto (-108), 3) := by decide +kernel
theorem dX9_findLeast_163 : decode cX9_findLeast 163 = .ok (.return_, 1) := by decide +kernel
theorem dX9_planLeast_0 : decode cX9_planLeast 0 = .ok (.aload_n 0, 1) := by decide +kernel
theorem dX9_planLeast_1 : decode cX9_planLeast 1 = .ok (.iload_n 1, 1) := by decide +kernel
theorem dX9_planLeast_2 : decode cX9_planLeast 2 = .ok (.invokevirtual 185, 3) := by decide +kernel
theorem dX9_planLeast_5 : decode cX9_planLeast 5 = .ok (.istore_n 2, 1) := by decide +kernel
theorem dX9_planLeast_6 : decode cX9_planLeast 6 = .ok (.iconst 0, 1) := by decide +kernel
theorem dX9_planLeast_7 : decode cX9_planLeast 7 = .ok (.istore_n 3, 1) := by decide +kernel
theorem dX9_planLeast_8 : decode cX9_planLeast 8 = .ok (.iconst 0, 1) := by decide +kernel
theorem dX9_planLeast_9 : decode cX9_planLeast 9 = .ok (.istore 4, 2) := by decide +kernel
theorem dX9_planLeast_11 : decode cX9_planLeast 11 = .ok (.iload 4, 2) := by decide +kernel
theorem dX9_planLeast_13 : decode cX9_planLeast 13 = .ok (.iload_n 1, 1) := by decide +kernel
theorem dX9_planLeast_14 : decode cX9_planLeast 14 = .ok (.if_icmp .ge 74, 3) := by decide +kernel
theorem dX9_planLeast_17 : decode cX9_planLeast 17 = .ok (.iload_n 3, 1) := by decide +kernel
theorem dX9_planLeast_18 : decode cX9_planLeast 18 = .ok (.iconst 1, 1) := by decide +kernel
theorem dX9_planLeast_19 : decode cX9_planLeast 19 = .ok (.iadd, 1) := by decide +kernel
theorem dX9_planLeast_20 : decode cX9_planLeast 20 = .ok (.istore 5, 2) := by decide +kernel
theorem dX9_planLeast_22 : decode cX9_planLeast 22 = .ok (.aload_n 0, 1) := by decide +kernel
theorem dX9_planLeast_23 : decode cX9_planLeast 23 = .ok (.iload 4, 2) := by decide +kernel
theorem dX9_planLeast_25 : decode cX9_planLeast 25 = .ok (.iload_n 3, 1) := by decide +kernel
theorem dX9_planLeast_26 : decode cX9_planLeast 26 = .ok (.iload 5, 2) := by decide +kernel
theorem dX9_planLeast_28 : decode cX9_planLeast 28 = .ok (.iload_n 2, 1) := by decide +kernel
theorem dX9_planLeast_29 : decode cX9_planLeast 29 = .ok (.invokevirtual 188, 3) := by decide +kernel
theorem dX9_planLeast_32 : decode cX9_planLeast 32 = .ok (.aload_n 0, 1) := by decide +kernel
theorem dX9_planLeast_33 : decode cX9_planLeast 33 = .ok (.getfield 99, 3) := by decide +kernel
theorem dX9_planLeast_36 : decode cX9_planLeast 36 = .ok (.bipush 33, 2) := by decide +kernel
theorem dX9_planLeast_38 : decode cX9_planLeast 38 = .ok (.iload 4, 2) := by decide +kernel
theorem dX9_planLeast_40 : decode cX9_planLeast 40 = .ok (.imul, 1) := by decide +kernel
theorem dX9_planLeast_41 : decode cX9_planLeast 41 = .ok (.iload_n 3, 1) := by decide +kernel
theorem dX9_planLeast_42 : decode cX9_planLeast 42 = .ok (.iadd, 1) := by decide +kernel
theorem dX9_planLeast_43 : decode cX9_planLeast 43 = .ok (.laload, 1) := by decide +kernel
theorem dX9_planLeast_44 : decode cX9_planLeast 44 = .ok (.lcmp, 1) := by decide +kernel
theorem dX9_planLeast_45 : decode cX9_planLeast 45 = .ok (.ifCond .eq 9, 3) := by decide +kernel
theorem dX9_planLeast_48 : decode cX9_planLeast 48 = .ok (.iinc 5 1, 3) := by decide +kernel
theorem dX9_planLeast_51 : decode cX9_planLeast 51 = .ok (.goto (-29), 3) := by decide +kernel
theorem dX9_planLeast_54 : decode cX9_planLeast 54 = .ok (.iload_n 3, 1) := by decide +kernel
theorem dX9_planLeast_55 : decode cX9_planLeast 55 = .ok (.istore 6, 2) := by decide +kernel
theorem dX9_planLeast_57 : decode cX9_planLeast 57 = .ok (.iload 6, 2) := by decide +kernel
theorem dX9_planLeast_59 : decode cX9_planLeast 59 = .ok (.iload 5, 2) := by decide +kernel
theorem dX9_planLeast_61 : decode cX9_planLeast 61 = .ok (.if_icmp .ge 18, 3) := by decide +kernel
theorem dX9_planLeast_64 : decode cX9_planLeast 64 = .ok (.aload_n 0, 1) := by decide +kernel
theorem dX9_planLeast_65 : decode cX9_planLeast 65 = .ok (.getfield 96, 3) := by decide +kernel
theorem dX9_planLeast_68 : decode cX9_planLeast 68 = .ok (.iload 6, 2) := by decide +kernel
theorem dX9_planLeast_70 : decode cX9_planLeast 70 = .ok (.iload 4, 2) := by decide +kernel
theorem dX9_planLeast_72 : decode cX9_planLeast 72 = .ok (.iastore, 1) := by decide +kernel
theorem dX9_planLeast_73 : decode cX9_planLeast 73 = .ok (.iinc 6 1, 3) := by decide +kernel
theorem dX9_planLeast_76 : decode cX9_planLeast 76 = .ok (.goto (-19), 3) := by decide +kernel
theorem dX9_planLeast_79 : decode cX9_planLeast 79 = .ok (.iload 5, 2) := by decide +kernel
theorem dX9_planLeast_81 : decode cX9_planLeast 81 = .ok (.istore_n 3, 1) := by decide +kernel
theorem dX9_planLeast_82 : decode cX9_planLeast 82 = .ok (.iinc 4 1, 3) := by decide +kernel
theorem dX9_planLeast_85 : decode cX9_planLeast 85 = .ok (.goto (-74), 3) := by decide +kernel
theorem dX9_planLeast_88 : decode cX9_planLeast 88 = .ok (.return_, 1) := by decide +kernel
theorem dX9_scale_0 : decode cX9_scale 0 = .ok (.iload_n 1, 1) := by decide +kernel
theorem dX9_scale_1 : decode cX9_scale 1 = .ok (.iconst 1, 1) := by decide +kernel
theorem dX9_scale_2 : decode cX9_scale 2 = .ok (.if_icmp .lt 13, 3) := by decide +kernel
theorem dX9_scale_5 : decode cX9_scale 5 = .ok (.iload_n 2, 1) := by decide +kernel
theorem dX9_scale_6 : decode cX9_scale 6 = .ok (.i2l, 1) := by decide +kernel
theorem dX9_scale_7 : decode cX9_scale 7 = .ok (.lconst 0, 1) := by decide +kernel
theorem dX9_scale_8 : decode cX9_scale 8 = .ok (.lconst 1, 1) := by decide +kernel
theorem dX9_scale_9 : decode cX9_scale 9 = .ok (.invokestatic 147, 3) := by decide +kernel
theorem dX9_scale_12 : decode cX9_scale 12 = .ok (.ifCond .ne 6, 3) := by decide +kernel
theorem dX9_scale_15 : decode cX9_scale 15 = .ok (.bipush (-102), 2) := by decide +kernel
theorem dX9_scale_17 : decode cX9_scale 17 = .ok (.ireturn, 1) := by decide +kernel
theorem dX9_scale_18 : decode cX9_scale 18 = .ok (.iload_n 1, 1) := by decide +kernel
theorem dX9_scale_19 : decode cX9_scale 19 = .ok (.aload_n 0, 1) := by decide +kernel
theorem dX9_scale_20 : decode cX9_scale 20 = .ok (.getfield 137, 3) := by decide +kernel
theorem dX9_scale_23 : decode cX9_scale 23 = .ok (.if_icmp .le 6, 3) := by decide +kernel
theorem dX9_scale_26 : decode cX9_scale 26 = .ok (.bipush (-105), 2) := by decide +kernel
theorem dX9_scale_28 : decode cX9_scale 28 = .ok (.ireturn, 1) := by decide +kernel
theorem dX9_scale_29 : decode cX9_scale 29 = .ok (.iload_n 2, 1) := by decide +kernel
theorem dX9_scale_30 : decode cX9_scale 30 = .ok (.ifCond .ne 11, 3) := by decide +kernel
theorem dX9_scale_33 : decode cX9_scale 33 = .ok (.aload_n 0, 1) := by decide +kernel
theorem dX9_scale_34 : decode cX9_scale 34 = .ok (.iload_n 1, 1) := by decide +kernel
theorem dX9_scale_35 : decode cX9_scale 35 = .ok (.invokevirtual 192, 3) := by decide +kernel
theorem dX9_scale_38 : decode cX9_scale 38 = .ok (.goto 27, 3) := by decide +kernel
theorem dX9_scale_41 : decode cX9_scale 41 = .ok (.aload_n 0, 1) := by decide +kernel
theorem dX9_scale_42 : decode cX9_scale 42 = .ok (.iload_n 1, 1) := by decide +kernel
theorem dX9_scale_43 : decode cX9_scale 43 = .ok (.invokevirtual 196, 3) := by decide +kernel
theorem dX9_scale_46 : decode cX9_scale 46 = .ok (.aload_n 0, 1) := by decide +kernel
theorem dX9_scale_47 : decode cX9_scale 47 = .ok (.getfield 99, 3) := by decide +kernel
theorem dX9_scale_50 : decode cX9_scale 50 = .ok (.iconst 0, 1) := by decide +kernel
theorem dX9_scale_51 : decode cX9_scale 51 = .ok (.laload, 1) := by decide +kernel
theorem dX9_scale_52 : decode cX9_scale 52 = .ok (.lconst 0, 1) := by decide +kernel
theorem dX9_scale_53 : decode cX9_scale 53 = .ok (.lcmp, 1) := by decide +kernel
theorem dX9_scale_54 : decode cX9_scale 54 = .ok (.ifCond .ge 6, 3) := by decide +kernel
theorem dX9_scale_57 : decode cX9_scale 57 = .ok (.bipush (-106), 2) := by decide +kernel
theorem dX9_scale_59 : decode cX9_scale 59 = .ok (.ireturn, 1) := by decide +kernel
theorem dX9_scale_60 : decode cX9_scale 60 = .ok (.aload_n 0, 1) := by decide +kernel
theorem dX9_scale_61 : decode cX9_scale 61 = .ok (.iload_n 1, 1) := by decide +kernel
theorem dX9_scale_62 : decode cX9_scale 62 = .ok (.invokevirtual 199, 3) := by decide +kernel
theorem dX9_scale_65 : decode cX9_scale 65 = .ok (.iconst 0, 1) := by decide +kernel
theorem dX9_scale_66 : decode cX9_scale 66 = .ok (.istore_n 3, 1) := by decide +kernel
theorem dX9_scale_67 : decode cX9_scale 67 = .ok (.iconst 0, 1) := by decide +kernel
theorem dX9_scale_68 : decode cX9_scale 68 = .ok (.istore 4, 2) := by decide +kernel
theorem dX9_scale_70 : decode cX9_scale 70 = .ok (.iload 4, 2) := by decide +kernel
theorem dX9_scale_72 : decode cX9_scale 72 = .ok (.bipush 32, 2) := by decide +kernel
theorem dX9_scale_74 : decode cX9_scale 74 = .ok (.if_icmp .ge 133, 3) := by decide +kernel
theorem dX9_scale_77 : decode cX9_scale 77 = .ok (.aload_n 0, 1) := by decide +kernel
theorem dX9_scale_78 : decode cX9_scale 78 = .ok (.getfield 19, 3) := by decide +kernel
theorem dX9_scale_81 : decode cX9_scale 81 = .ok (.iload 4, 2) := by decide +kernel
theorem dX9_scale_83 : decode cX9_scale 83 = .ok (.iload 4, 2) := by decide +kernel
theorem dX9_scale_85 : decode cX9_scale 85 = .ok (.aload_n 0, 1) := by decide +kernel
theorem dX9_scale_86 : decode cX9_scale 86 = .ok (.getfield 134, 3) := by decide +kernel
theorem dX9_scale_89 : decode cX9_scale 89 = .ok (.if_icmp .ge 24, 3) := by decide +kernel
theorem dX9_scale_92 : decode cX9_scale 92 = .ok (.aload_n 0, 1) := by decide +kernel
theorem dX9_scale_93 : decode cX9_scale 93 = .ok (.getfield 96, 3) := by decide +kernel
theorem dX9_scale_96 : decode cX9_scale 96 = .ok (.iload 4, 2) := by decide +kernel
theorem dX9_scale_98 : decode cX9_scale 98 = .ok (.iaload, 1) := by decide +kernel
theorem dX9_scale_99 : decode cX9_scale 99 = .ok (.aload_n 0, 1) := by decide +kernel
theorem dX9_scale_100 : decode cX9_scale 100 = .ok (.getfield 7, 3) := by decide +kernel
theorem dX9_scale_103 : decode cX9_scale 103 = .ok (.iload 4, 2) := by decide +kernel
theorem dX9_scale_105 : decode cX9_scale 105 = .ok (.iaload, 1) := by decide +kernel
theorem dX9_scale_106 : decode cX9_scale 106 = .ok (.if_icmp .eq 7, 3) := by decide +kernel
theorem dX9_scale_109 : decode cX9_scale 109 = .ok (.iconst 1, 1) := by decide +kernel
theorem dX9_scale_110 : decode cX9_scale 110 = .ok (.goto 4, 3) := by decide +kernel
theorem dX9_scale_113 : decode cX9_scale 113 = .ok (.iconst 0, 1) := by decide +kernel
theorem dX9_scale_114 : decode cX9_scale 114 = .ok (.bastore, 1) := by decide +kernel
theorem dX9_scale_115 : decode cX9_scale 115 = .ok (.iload_n 3, 1) := by decide +kernel
theorem dX9_scale_116 : decode cX9_scale 116 = .ok (.aload_n 0, 1) := by decide +kernel
theorem dX9_scale_117 : decode cX9_scale 117 = .ok (.getfield 19, 3) := by decide +kernel
theorem dX9_scale_120 : decode cX9_scale 120 = .ok (.iload 4, 2) := by decide +kernel
theorem dX9_scale_122 : decode cX9_scale 122 = .ok (.baload, 1) := by decide +kernel
theorem dX9_scale_123 : decode cX9_scale 123 = .ok (.ifCond .eq 7, 3) := by decide +kernel
theorem dX9_scale_126 : decode cX9_scale 126 = .ok (.iconst 1, 1) := by decide +kernel
theorem dX9_scale_127 : decode cX9_scale 127 = .ok (.goto 4, 3) := by decide +kernel
theorem dX9_scale_130 : decode cX9_scale 130 = .ok (.iconst 0, 1) := by decide +kernel
theorem dX9_scale_131 : decode cX9_scale 131 = .ok (.iadd, 1) := by decide +kernel
theorem dX9_scale_132 : decode cX9_scale 132 = .ok (.istore_n 3, 1) := by decide +kernel
theorem dX9_scale_133 : decode cX9_scale 133 = .ok (.aload_n 0, 1) := by decide +kernel
theorem dX9_scale_134 : decode cX9_scale 134 = .ok (.getfield 13, 3) := by decide +kernel
theorem dX9_scale_137 : decode cX9_scale 137 = .ok (.iload 4, 2) := by decide +kernel
theorem dX9_scale_139 : decode cX9_scale 139 = .ok (.dup2, 1) := by decide +kernel
theorem dX9_scale_140 : decode cX9_scale 140 = .ok (.iaload, 1) := by decide +kernel
theorem dX9_scale_141 : decode cX9_scale 141 = .ok (.aload_n 0, 1) := by decide +kernel
theorem dX9_scale_142 : decode cX9_scale 142 = .ok (.getfield 19, 3) := by decide +kernel
theorem dX9_scale_145 : decode cX9_scale 145 = .ok (.iload 4, 2) := by decide +kernel
theorem dX9_scale_147 : decode cX9_scale 147 = .ok (.baload, 1) := by decide +kernel
theorem dX9_scale_148 : decode cX9_scale 148 = .ok (.ifCond .eq 7, 3) := by decide +kernel
theorem dX9_scale_151 : decode cX9_scale 151 = .ok (.iconst 1, 1) := by decide +kernel
theorem dX9_scale_152 : decode cX9_scale 152 = .ok (.goto 4, 3) := by decide +kernel
theorem dX9_scale_155 : decode cX9_scale 155 = .ok (.iconst 0, 1) := by decide +kernel
theorem dX9_scale_156 : decode cX9_scale 156 = .ok (.iadd, 1) := by decide +kernel
theorem dX9_scale_157 : decode cX9_scale 157 = .ok (.iastore, 1) := by decide +kernel
theorem dX9_scale_158 : decode cX9_scale 158 = .ok (.aload_n 0, 1) := by decide +kernel
theorem dX9_scale_159 : decode cX9_scale 159 = .ok (.getfield 7, 3) := by decide +kernel
theorem dX9_scale_162 : decode cX9_scale 162 = .ok (.iload 4, 2) := by decide +kernel
theorem dX9_scale_164 : decode cX9_scale 164 = .ok (.iload 4, 2) := by decide +kernel
theorem dX9_scale_166 : decode cX9_scale 166 = .ok (.aload_n 0, 1) := by decide +kernel
theorem dX9_scale_167 : decode cX9_scale 167 = .ok (.getfield 134, 3) := by decide +kernel
theorem dX9_scale_170 : decode cX9_scale 170 = .ok (.if_icmp .ge 13, 3) := by decide +kernel
theorem dX9_scale_173 : decode cX9_scale 173 = .ok (.aload_n 0, 1) := by decide +kernel
theorem dX9_scale_174 : decode cX9_scale 174 = .ok (.getfield 96, 3) := by decide +kernel
theorem dX9_scale_177 : decode cX9_scale 177 = .ok (.iload 4, 2) := by decide +kernel
theorem dX9_scale_179 : decode cX9_scale 179 = .ok (.iaload, 1) := by decide +kernel
theorem dX9_scale_180 : decode cX9_scale 180 = .ok (.goto 4, 3) := by decide +kernel
theorem dX9_scale_183 : decode cX9_scale 183 = .ok (.iconst 0, 1) := by decide +kernel
theorem dX9_scale_184 : decode cX9_scale 184 = .ok (.iastore, 1) := by decide +kernel
theorem dX9_scale_185 : decode cX9_scale 185 = .ok (.aload_n 0, 1) := by decide +kernel
theorem dX9_scale_186 : decode cX9_scale 186 = .ok (.getfield 16, 3) := by decide +kernel
theorem dX9_scale_189 : decode cX9_scale 189 = .ok (.iload 4, 2) := by decide +kernel
theorem dX9_scale_191 : decode cX9_scale 191 = .ok (.aload_n 0, 1) := by decide +kernel
theorem dX9_scale_192 : decode cX9_scale 192 = .ok (.getfield 16, 3) := by decide +kernel
theorem dX9_scale_195 : decode cX9_scale 195 = .ok (.iload 4, 2) := by decide +kernel
theorem dX9_scale_197 : decode cX9_scale 197 = .ok (.iaload, 1) := by decide +kernel
theorem dX9_scale_198 : decode cX9_scale 198 = .ok (.iconst 2, 1) := by decide +kernel
theorem dX9_scale_199 : decode cX9_scale 199 = .ok (.idiv, 1) := by decide +kernel
theorem dX9_scale_200 : decode cX9_scale 200 = .ok (.iastore, 1) := by decide +kernel
theorem dX9_scale_201 : decode cX9_scale 201 = .ok (.iinc 4 1, 3) := by decide +kernel
theorem dX9_scale_204 : decode cX9_scale 204 = .ok (.goto (-134), 3) := by decide +kernel
theorem dX9_scale_207 : decode cX9_scale 207 = .ok (.aload_n 0, 1) := by decide +kernel
theorem dX9_scale_208 : decode cX9_scale 208 = .ok (.iload_n 1, 1) := by decide +kernel
theorem dX9_scale_209 : decode cX9_scale 209 = .ok (.putfield 140, 3) := by decide +kernel
theorem dX9_scale_212 : decode cX9_scale 212 = .ok (.aload_n 0, 1) := by decide +kernel
theorem dX9_scale_213 : decode cX9_scale 213 = .ok (.dup, 1) := by decide +kernel
theorem dX9_scale_214 : decode cX9_scale 214 = .ok (.getfield 127, 3) := by decide +kernel
theorem dX9_scale_217 : decode cX9_scale 217 = .ok (.iconst 1, 1) := by decide +kernel
theorem dX9_scale_218 : decode cX9_scale 218 = .ok (.iadd, 1) := by decide +kernel
theorem dX9_scale_219 : decode cX9_scale 219 = .ok (.putfield 127, 3) := by decide +kernel
theorem dX9_scale_222 : decode cX9_scale 222 = .ok (.iload_n 3, 1) := by decide +kernel
theorem dX9_scale_223 : decode cX9_scale 223 = .ok (.ireturn, 1) := by decide +kernel
theorem dX9_moved_0 : decode cX9_moved 0 = .ok (.iconst 0, 1) := by decide +kernel
theorem dX9_moved_1 : decode cX9_moved 1 = .ok (.istore_n 2, 1) := by decide +kernel
theorem dX9_moved_2 : decode cX9_moved 2 = .ok (.iconst 0, 1) := by decide +kernel
theorem dX9_moved_3 : decode cX9_moved 3 = .ok (.istore_n 3, 1) := by decide +kernel
theorem dX9_moved_4 : decode cX9_moved 4 = .ok (.iload_n 3, 1) := by decide +kernel
theorem dX9_moved_5 : decode cX9_moved 5 = .ok (.bipush 32, 2) := by decide +kernel
theorem dX9_moved_7 : decode cX9_moved 7 = .ok (.if_icmp .ge 28, 3) := by decide +kernel
theorem dX9_moved_10 : decode cX9_moved 10 = .ok (.aload_n 0, 1) := by decide +kernel
theorem dX9_moved_11 : decode cX9_moved 11 = .ok (.getfield 19, 3) := by decide +kernel
theorem dX9_moved_14 : decode cX9_moved 14 = .ok (.iload_n 3, 1) := by decide +kernel
theorem dX9_moved_15 : decode cX9_moved 15 = .ok (.baload, 1) := by decide +kernel
theorem dX9_moved_16 : decode cX9_moved 16 = .ok (.ifCond .eq 13, 3) := by decide +kernel
theorem dX9_moved_19 : decode cX9_moved 19 = .ok (.iload_n 2, 1) := by decide +kernel
theorem dX9_moved_20 : decode cX9_moved 20 = .ok (.iload_n 1, 1) := by decide +kernel
theorem dX9_moved_21 : decode cX9_moved 21 = .ok (.if_icmp .ne 5, 3) := by decide +kernel
theorem dX9_moved_24 : decode cX9_moved 24 = .ok (.iload_n 3, 1) := by decide +kernel
theorem dX9_moved_25 : decode cX9_moved 25 = .ok (.ireturn, 1) := by decide +kernel
theorem dX9_moved_26 : decode cX9_moved 26 = .ok (.iinc 2 1, 3) := by decide +kernel
theorem dX9_moved_29 : decode cX9_moved 29 = .ok (.iinc 3 1, 3) := by decide +kernel
theorem dX9_moved_32 : decode cX9_moved 32 = .ok (.goto (-28), 3) := by decide +kernel
theorem dX9_moved_35 : decode cX9_moved 35 = .ok (.bipush (-106), 2) := by decide +kernel
theorem dX9_moved_37 : decode cX9_moved 37 = .ok (.ireturn, 1) := by decide +kernel
theorem dX9_least_0 : decode cX9_least 0 = .ok (.iload_n 1, 1) := by decide +kernel
theorem dX9_least_1 : decode cX9_least 1 = .ok (.i2l, 1) := by decide +kernel
theorem dX9_least_2 : decode cX9_least 2 = .ok (.lconst 1, 1) := by decide +kernel
theorem dX9_least_3 : decode cX9_least 3 = .ok (.aload_n 0, 1) := by decide +kernel
theorem dX9_least_4 : decode cX9_least 4 = .ok (.getfield 137, 3) := by decide +kernel
theorem dX9_least_7 : decode cX9_least 7 = .ok (.i2l, 1) := by decide +kernel
theorem dX9_least_8 : decode cX9_least 8 = .ok (.invokestatic 147, 3) := by decide +kernel
theorem dX9_least_11 : decode cX9_least 11 = .ok (.ifCond .ne 7, 3) := by decide +kernel
theorem dX9_least_14 : decode cX9_least 14 = .ok (.ldc2_w 179, 3) := by decide +kernel
theorem dX9_least_17 : decode cX9_least 17 = .ok (.lreturn, 1) := by decide +kernel
theorem dX9_least_18 : decode cX9_least 18 = .ok (.aload_n 0, 1) := by decide +kernel
theorem dX9_least_19 : decode cX9_least 19 = .ok (.iload_n 1, 1) := by decide +kernel
theorem dX9_least_20 : decode cX9_least 20 = .ok (.invokevirtual 196, 3) := by decide +kernel
theorem dX9_least_23 : decode cX9_least 23 = .ok (.aload_n 0, 1) := by decide +kernel
theorem dX9_least_24 : decode cX9_least 24 = .ok (.getfield 99, 3) := by decide +kernel
theorem dX9_least_27 : decode cX9_least 27 = .ok (.iconst 0, 1) := by decide +kernel
theorem dX9_least_28 : decode cX9_least 28 = .ok (.laload, 1) := by decide +kernel
theorem dX9_least_29 : decode cX9_least 29 = .ok (.lreturn, 1) := by decide +kernel
theorem dX9_waitingOf_0 : decode cX9_waitingOf 0 = .ok (.iconst 0, 1) := by decide +kernel
theorem dX9_waitingOf_1 : decode cX9_waitingOf 1 = .ok (.istore_n 2, 1) := by decide +kernel
theorem dX9_waitingOf_2 : decode cX9_waitingOf 2 = .ok (.iconst 0, 1) := by decide +kernel
theorem dX9_waitingOf_3 : decode cX9_waitingOf 3 = .ok (.istore_n 3, 1) := by decide +kernel
theorem dX9_waitingOf_4 : decode cX9_waitingOf 4 = .ok (.iload_n 3, 1) := by decide +kernel
theorem dX9_waitingOf_5 : decode cX9_waitingOf 5 = .ok (.aload_n 0, 1) := by decide +kernel
theorem dX9_waitingOf_6 : decode cX9_waitingOf 6 = .ok (.getfield 109, 3) := by decide +kernel
theorem dX9_waitingOf_9 : decode cX9_waitingOf 9 = .ok (.if_icmp .ge 40, 3) := by decide +kernel
theorem dX9_waitingOf_12 : decode cX9_waitingOf 12 = .ok (.iload_n 2, 1) := by decide +kernel
theorem dX9_waitingOf_13 : decode cX9_waitingOf 13 = .ok (.aload_n 0, 1) := by decide +kernel
theorem dX9_waitingOf_14 : decode cX9_waitingOf 14 = .ok (.getfield 29, 3) := by decide +kernel
theorem dX9_waitingOf_17 : decode cX9_waitingOf 17 = .ok (.iload_n 3, 1) := by decide +kernel
theorem dX9_waitingOf_18 : decode cX9_waitingOf 18 = .ok (.baload, 1) := by decide +kernel
theorem dX9_waitingOf_19 : decode cX9_waitingOf 19 = .ok (.ifCond .eq 21, 3) := by decide +kernel
theorem dX9_waitingOf_22 : decode cX9_waitingOf 22 = .ok (.aload_n 0, 1) := by decide +kernel
theorem dX9_waitingOf_23 : decode cX9_waitingOf 23 = .ok (.aload_n 0, 1) := by decide +kernel
theorem dX9_waitingOf_24 : decode cX9_waitingOf 24 = .ok (.getfield 23, 3) := by decide +kernel
theorem dX9_waitingOf_27 : decode cX9_waitingOf 27 = .ok (.iload_n 3, 1) := by decide +kernel
theorem dX9_waitingOf_28 : decode cX9_waitingOf 28 = .ok (.iaload, 1) := by decide +kernel
theorem dX9_waitingOf_29 : decode cX9_waitingOf 29 = .ok (.invokevirtual 160, 3) := by decide +kernel
theorem dX9_waitingOf_32 : decode cX9_waitingOf 32 = .ok (.iload_n 1, 1) := by decide +kernel
theorem dX9_waitingOf_33 : decode cX9_waitingOf 33 = .ok (.if_icmp .ne 7, 3) := by decide +kernel
theorem dX9_waitingOf_36 : decode cX9_waitingOf 36 = .ok (.iconst 1, 1) := by decide +kernel
theorem dX9_waitingOf_37 : decode cX9_waitingOf 37 = .ok (.goto 4, 3) := by decide +kernel
theorem dX9_waitingOf_40 : decode cX9_waitingOf 40 = .ok (.iconst 0, 1) := by decide +kernel
theorem dX9_waitingOf_41 : decode cX9_waitingOf 41 = .ok (.iadd, 1) := by decide +kernel
theorem dX9_waitingOf_42 : decode cX9_waitingOf 42 = .ok (.istore_n 2, 1) := by decide +kernel
theorem dX9_waitingOf_43 : decode cX9_waitingOf 43 = .ok (.iinc 3 1, 3) := by decide +kernel
theorem dX9_waitingOf_46 : decode cX9_waitingOf 46 = .ok (.goto (-42), 3) := by decide +kernel
theorem dX9_waitingOf_49 : decode cX9_waitingOf 49 = .ok (.iload_n 2, 1) := by decide +kernel
theorem dX9_waitingOf_50 : decode cX9_waitingOf 50 = .ok (.ireturn, 1) := by decide +kernel
theorem dX9_groupAt_0 : decode cX9_groupAt 0 = .ok (.iload_n 1, 1) := by decide +kernel
theorem dX9_groupAt_1 : decode cX9_groupAt 1 = .ok (.i2l, 1) := by decide +kernel
theorem dX9_groupAt_2 : decode cX9_groupAt 2 = .ok (.lconst 0, 1) := by decide +kernel
theorem dX9_groupAt_3 : decode cX9_groupAt 3 = .ok (.aload_n 0, 1) := by decide +kernel
theorem dX9_groupAt_4 : decode cX9_groupAt 4 = .ok (.getfield 134, 3) := by decide +kernel
theorem dX9_groupAt_7 : decode cX9_groupAt 7 = .ok (.iconst 1, 1) := by decide +kernel
theorem dX9_groupAt_8 : decode cX9_groupAt 8 = .ok (.isub, 1) := by decide +kernel
theorem dX9_groupAt_9 : decode cX9_groupAt 9 = .ok (.i2l, 1) := by decide +kernel
theorem dX9_groupAt_10 : decode cX9_groupAt 10 = .ok (.invokestatic 147, 3) := by decide +kernel
theorem dX9_groupAt_13 : decode cX9_groupAt 13 = .ok (.ifCond .ne 6, 3) := by decide +kernel
theorem dX9_groupAt_16 : decode cX9_groupAt 16 = .ok (.bipush (-101), 2) := by decide +kernel
theorem dX9_groupAt_18 : decode cX9_groupAt 18 = .ok (.ireturn, 1) := by decide +kernel
theorem dX9_groupAt_19 : decode cX9_groupAt 19 = .ok (.iload_n 2, 1) := by decide +kernel
theorem dX9_groupAt_20 : decode cX9_groupAt 20 = .ok (.tableswitch 59 0 3 #[32, 39, 46, 53], 32) := by decide +kernel
theorem dX9_groupAt_52 : decode cX9_groupAt 52 = .ok (.aload_n 0, 1) := by decide +kernel
theorem dX9_groupAt_53 : decode cX9_groupAt 53 = .ok (.getfield 7, 3) := by decide +kernel
theorem dX9_groupAt_56 : decode cX9_groupAt 56 = .ok (.iload_n 1, 1) := by decide +kernel
theorem dX9_groupAt_57 : decode cX9_groupAt 57 = .ok (.iaload, 1) := by decide +kernel
theorem dX9_groupAt_58 : decode cX9_groupAt 58 = .ok (.ireturn, 1) := by decide +kernel
theorem dX9_groupAt_59 : decode cX9_groupAt 59 = .ok (.aload_n 0, 1) := by decide +kernel
theorem dX9_groupAt_60 : decode cX9_groupAt 60 = .ok (.getfield 13, 3) := by decide +kernel
theorem dX9_groupAt_63 : decode cX9_groupAt 63 = .ok (.iload_n 1, 1) := by decide +kernel
theorem dX9_groupAt_64 : decode cX9_groupAt 64 = .ok (.iaload, 1) := by decide +kernel
theorem dX9_groupAt_65 : decode cX9_groupAt 65 = .ok (.ireturn, 1) := by decide +kernel
theorem dX9_groupAt_66 : decode cX9_groupAt 66 = .ok (.aload_n 0, 1) := by decide +kernel
theorem dX9_groupAt_67 : decode cX9_groupAt 67 = .ok (.getfield 16, 3) := by decide +kernel
theorem dX9_groupAt_70 : decode cX9_groupAt 70 = .ok (.iload_n 1, 1) := by decide +kernel
theorem dX9_groupAt_71 : decode cX9_groupAt 71 = .ok (.iaload, 1) := by decide +kernel
theorem dX9_groupAt_72 : decode cX9_groupAt 72 = .ok (.ireturn, 1) := by decide +kernel
theorem dX9_groupAt_73 : decode cX9_groupAt 73 = .ok (.aload_n 0, 1) := by decide +kernel
theorem dX9_groupAt_74 : decode cX9_groupAt 74 = .ok (.iload_n 1, 1) := by decide +kernel
theorem dX9_groupAt_75 : decode cX9_groupAt 75 = .ok (.invokevirtual 202, 3) := by decide +kernel
theorem dX9_groupAt_78 : decode cX9_groupAt 78 = .ok (.ireturn, 1) := by decide +kernel
theorem dX9_groupAt_79 : decode cX9_groupAt 79 = .ok (.bipush (-102), 2) := by decide +kernel
theorem dX9_groupAt_81 : decode cX9_groupAt 81 = .ok (.ireturn, 1) := by decide +kernel
theorem dX9_taskAt_0 : decode cX9_taskAt 0 = .ok (.iload_n 1, 1) := by decide +kernel
theorem dX9_taskAt_1 : decode cX9_taskAt 1 = .ok (.i2l, 1) := by decide +kernel
theorem dX9_taskAt_2 : decode cX9_taskAt 2 = .ok (.lconst 0, 1) := by decide +kernel
theorem dX9_taskAt_3 : decode cX9_taskAt 3 = .ok (.aload_n 0, 1) := by decide +kernel
theorem dX9_taskAt_4 : decode cX9_taskAt 4 = .ok (.getfield 140, 3) := by decide +kernel
theorem dX9_taskAt_7 : decode cX9_taskAt 7 = .ok (.iconst 1, 1) := by decide +kernel
theorem dX9_taskAt_8 : decode cX9_taskAt 8 = .ok (.isub, 1) := by decide +kernel
theorem dX9_taskAt_9 : decode cX9_taskAt 9 = .ok (.i2l, 1) := by decide +kernel
theorem dX9_taskAt_10 : decode cX9_taskAt 10 = .ok (.invokestatic 147, 3) := by decide +kernel
theorem dX9_taskAt_13 : decode cX9_taskAt 13 = .ok (.ifCond .ne 6, 3) := by decide +kernel
theorem dX9_taskAt_16 : decode cX9_taskAt 16 = .ok (.bipush (-101), 2) := by decide +kernel
theorem dX9_taskAt_18 : decode cX9_taskAt 18 = .ok (.ireturn, 1) := by decide +kernel
theorem dX9_taskAt_19 : decode cX9_taskAt 19 = .ok (.bipush (-106), 2) := by decide +kernel
theorem dX9_taskAt_21 : decode cX9_taskAt 21 = .ok (.istore_n 3, 1) := by decide +kernel
theorem dX9_taskAt_22 : decode cX9_taskAt 22 = .ok (.iconst 0, 1) := by decide +kernel
theorem dX9_taskAt_23 : decode cX9_taskAt 23 = .ok (.istore 4, 2) := by decide +kernel
theorem dX9_taskAt_25 : decode cX9_taskAt 25 = .ok (.iconst 0, 1) := by decide +kernel
theorem dX9_taskAt_26 : decode cX9_taskAt 26 = .ok (.istore 5, 2) := by decide +kernel
theorem dX9_taskAt_28 : decode cX9_taskAt 28 = .ok (.iconst 0, 1) := by decide +kernel
theorem dX9_taskAt_29 : decode cX9_taskAt 29 = .ok (.istore 6, 2) := by decide +kernel
theorem dX9_taskAt_31 : decode cX9_taskAt 31 = .ok (.aload_n 0, 1) := by decide +kernel
theorem dX9_taskAt_32 : decode cX9_taskAt 32 = .ok (.getfield 134, 3) := by decide +kernel
theorem dX9_taskAt_35 : decode cX9_taskAt 35 = .ok (.iconst 1, 1) := by decide +kernel
theorem dX9_taskAt_36 : decode cX9_taskAt 36 = .ok (.isub, 1) := by decide +kernel
theorem dX9_taskAt_37 : decode cX9_taskAt 37 = .ok (.istore 7, 2) := by decide +kernel
theorem dX9_taskAt_39 : decode cX9_taskAt 39 = .ok (.iload 7, 2) := by decide +kernel
theorem dX9_taskAt_41 : decode cX9_taskAt 41 = .ok (.ifCond .lt 49, 3) := by decide +kernel
theorem dX9_taskAt_44 : decode cX9_taskAt 44 = .ok (.aload_n 0, 1) := by decide +kernel
theorem dX9_taskAt_45 : decode cX9_taskAt 45 = .ok (.getfield 7, 3) := by decide +kernel
theorem dX9_taskAt_48 : decode cX9_taskAt 48 = .ok (.iload 7, 2) := by decide +kernel
theorem dX9_taskAt_50 : decode cX9_taskAt 50 = .ok (.iaload, 1) := by decide +kernel
theorem dX9_taskAt_51 : decode cX9_taskAt 51 = .ok (.iload_n 1, 1) := by decide +kernel
theorem dX9_taskAt_52 : decode cX9_taskAt 52 = .ok (.if_icmp .ne 32, 3) := by decide +kernel
theorem dX9_taskAt_55 : decode cX9_taskAt 55 = .ok (.iload 7, 2) := by decide +kernel
theorem dX9_taskAt_57 : decode cX9_taskAt 57 = .ok (.istore_n 3, 1) := by decide +kernel
theorem dX9_taskAt_58 : decode cX9_taskAt 58 = .ok (.iinc 4 1, 3) := by decide +kernel
theorem dX9_taskAt_61 : decode cX9_taskAt 61 = .ok (.iload 5, 2) := by decide +kernel
theorem dX9_taskAt_63 : decode cX9_taskAt 63 = .ok (.aload_n 0, 1) := by decide +kernel
theorem dX9_taskAt_64 : decode cX9_taskAt 64 = .ok (.getfield 16, 3) := by decide +kernel
theorem dX9_taskAt_67 : decode cX9_taskAt 67 = .ok (.iload 7, 2) := by decide +kernel
theorem dX9_taskAt_69 : decode cX9_taskAt 69 = .ok (.iaload, 1) := by decide +kernel
theorem dX9_taskAt_70 : decode cX9_taskAt 70 = .ok (.iadd, 1) := by decide +kernel
theorem dX9_taskAt_71 : decode cX9_taskAt 71 = .ok (.istore 5, 2) := by decide +kernel
theorem dX9_taskAt_73 : decode cX9_taskAt 73 = .ok (.iload 6, 2) := by decide +kernel
theorem dX9_taskAt_75 : decode cX9_taskAt 75 = .ok (.aload_n 0, 1) := by decide +kernel
theorem dX9_taskAt_76 : decode cX9_taskAt 76 = .ok (.iload 7, 2) := by decide +kernel
theorem dX9_taskAt_78 : decode cX9_taskAt 78 = .ok (.invokevirtual 202, 3) := by decide +kernel
theorem dX9_taskAt_81 : decode cX9_taskAt 81 = .ok (.iadd, 1) := by decide +kernel
theorem dX9_taskAt_82 : decode cX9_taskAt 82 = .ok (.istore 6, 2) := by decide +kernel
theorem dX9_taskAt_84 : decode cX9_taskAt 84 = .ok (.iinc 7 (-1), 3) := by decide +kernel
theorem dX9_taskAt_87 : decode cX9_taskAt 87 = .ok (.goto (-48), 3) := by decide +kernel
theorem dX9_taskAt_90 : decode cX9_taskAt 90 = .ok (.iload_n 2, 1) := by decide +kernel
theorem dX9_taskAt_91 : decode cX9_taskAt 91 = .ok (.tableswitch 50 0 4 #[33, 35, 38, 41, 44], 33) := by decide +kernel
theorem dX9_taskAt_124 : decode cX9_taskAt 124 = .ok (.iload_n 3, 1) := by decide +kernel
theorem dX9_taskAt_125 : decode cX9_taskAt 125 = .ok (.ireturn, 1) := by decide +kernel
theorem dX9_taskAt_126 : decode cX9_taskAt 126 = .ok (.iload 4, 2) := by decide +kernel
theorem dX9_taskAt_128 : decode cX9_taskAt 128 = .ok (.ireturn, 1) := by decide +kernel
theorem dX9_taskAt_129 : decode cX9_taskAt 129 = .ok (.iload 5, 2) := by decide +kernel
theorem dX9_taskAt_131 : decode cX9_taskAt 131 = .ok (.ireturn, 1) := by decide +kernel
theorem dX9_taskAt_132 : decode cX9_taskAt 132 = .ok (.iload 6, 2) := by decide +kernel
theorem dX9_taskAt_134 : decode cX9_taskAt 134 = .ok (.ireturn, 1) := by decide +kernel
theorem dX9_taskAt_135 : decode cX9_taskAt 135 = .ok (.aload_n 0, 1) := by decide +kernel
theorem dX9_taskAt_136 : decode cX9_taskAt 136 = .ok (.iload_n 1, 1) := by decide +kernel
theorem dX9_taskAt_137 : decode cX9_taskAt 137 = .ok (.invokevirtual 168, 3) := by decide +kernel
theorem dX9_taskAt_140 : decode cX9_taskAt 140 = .ok (.ireturn, 1) := by decide +kernel
theorem dX9_taskAt_141 : decode cX9_taskAt 141 = .ok (.bipush (-102), 2) := by decide +kernel
theorem dX9_taskAt_143 : decode cX9_taskAt 143 = .ok (.ireturn, 1) := by decide +kernel
theorem dX9_counted_0 : decode cX9_counted 0 = .ok (.iload_n 1, 1) := by decide +kernel
theorem dX9_counted_1 : decode cX9_counted 1 = .ok (.invokestatic 156, 3) := by decide +kernel
theorem dX9_counted_4 : decode cX9_counted 4 = .ok (.ifCond .eq 8, 3) := by decide +kernel
theorem dX9_counted_7 : decode cX9_counted 7 = .ok (.bipush (-101), 2) := by decide +kernel
theorem dX9_counted_9 : decode cX9_counted 9 = .ok (.goto 9, 3) := by decide +kernel
theorem dX9_counted_12 : decode cX9_counted 12 = .ok (.aload_n 0, 1) := by decide +kernel
theorem dX9_counted_13 : decode cX9_counted 13 = .ok (.getfield 32, 3) := by decide +kernel
theorem dX9_counted_16 : decode cX9_counted 16 = .ok (.iload_n 1, 1) := by decide +kernel
theorem dX9_counted_17 : decode cX9_counted 17 = .ok (.iaload, 1) := by decide +kernel
theorem dX9_counted_18 : decode cX9_counted 18 = .ok (.ireturn, 1) := by decide +kernel
theorem dX9_sum_0 : decode cX9_sum 0 = .ok (.iload_n 1, 1) := by decide +kernel
theorem dX9_sum_1 : decode cX9_sum 1 = .ok (.invokestatic 156, 3) := by decide +kernel
theorem dX9_sum_4 : decode cX9_sum 4 = .ok (.ifCond .eq 7, 3) := by decide +kernel
theorem dX9_sum_7 : decode cX9_sum 7 = .ok (.lconst 0, 1) := by decide +kernel
theorem dX9_sum_8 : decode cX9_sum 8 = .ok (.goto 9, 3) := by decide +kernel
theorem dX9_sum_11 : decode cX9_sum 11 = .ok (.aload_n 0, 1) := by decide +kernel
theorem dX9_sum_12 : decode cX9_sum 12 = .ok (.getfield 35, 3) := by decide +kernel
theorem dX9_sum_15 : decode cX9_sum 15 = .ok (.iload_n 1, 1) := by decide +kernel
theorem dX9_sum_16 : decode cX9_sum 16 = .ok (.laload, 1) := by decide +kernel
theorem dX9_sum_17 : decode cX9_sum 17 = .ok (.lreturn, 1) := by decide +kernel
theorem dX9_before_0 : decode cX9_before 0 = .ok (.iconst 0, 1) := by decide +kernel
theorem dX9_before_1 : decode cX9_before 1 = .ok (.istore_n 3, 1) := by decide +kernel
theorem dX9_before_2 : decode cX9_before 2 = .ok (.iconst 0, 1) := by decide +kernel
theorem dX9_before_3 : decode cX9_before 3 = .ok (.istore 4, 2) := by decide +kernel
theorem dX9_before_5 : decode cX9_before 5 = .ok (.iload 4, 2) := by decide +kernel
theorem dX9_before_7 : decode cX9_before 7 = .ok (.aload_n 0, 1) := by decide +kernel
theorem dX9_before_8 : decode cX9_before 8 = .ok (.getfield 134, 3) := by decide +kernel
theorem dX9_before_11 : decode cX9_before 11 = .ok (.if_icmp .ge 85, 3) := by decide +kernel
theorem dX9_before_14 : decode cX9_before 14 = .ok (.aload_n 0, 1) := by decide +kernel
theorem dX9_before_15 : decode cX9_before 15 = .ok (.getfield 16, 3) := by decide +kernel
theorem dX9_before_18 : decode cX9_before 18 = .ok (.iload 4, 2) := by decide +kernel
theorem dX9_before_20 : decode cX9_before 20 = .ok (.iaload, 1) := by decide +kernel
theorem dX9_before_21 : decode cX9_before 21 = .ok (.aload_n 0, 1) := by decide +kernel
theorem dX9_before_22 : decode cX9_before 22 = .ok (.getfield 16, 3) := by decide +kernel
theorem dX9_before_25 : decode cX9_before 25 = .ok (.iload_n 1, 1) := by decide +kernel
theorem dX9_before_26 : decode cX9_before 26 = .ok (.iaload, 1) := by decide +kernel
theorem dX9_before_27 : decode cX9_before 27 = .ok (.if_icmp .gt 25, 3) := by decide +kernel
theorem dX9_before_30 : decode cX9_before 30 = .ok (.aload_n 0, 1) := by decide +kernel
theorem dX9_before_31 : decode cX9_before 31 = .ok (.getfield 16, 3) := by decide +kernel
theorem dX9_before_34 : decode cX9_before 34 = .ok (.iload 4, 2) := by decide +kernel
theorem dX9_before_36 : decode cX9_before 36 = .ok (.iaload, 1) := by decide +kernel
theorem dX9_before_37 : decode cX9_before 37 = .ok (.aload_n 0, 1) := by decide +kernel
theorem dX9_before_38 : decode cX9_before 38 = .ok (.getfield 16, 3) := by decide +kernel
theorem dX9_before_41 : decode cX9_before 41 = .ok (.iload_n 1, 1) := by decide +kernel
theorem dX9_before_42 : decode cX9_before 42 = .ok (.iaload, 1) := by decide +kernel
theorem dX9_before_43 : decode cX9_before 43 = .ok (.if_icmp .ne 13, 3) := by decide +kernel
theorem dX9_before_46 : decode cX9_before 46 = .ok (.iload 4, 2) := by decide +kernel
theorem dX9_before_48 : decode cX9_before 48 = .ok (.iload_n 1, 1) := by decide +kernel
theorem dX9_before_49 : decode cX9_before 49 = .ok (.if_icmp .ge 7, 3) := by decide +kernel
theorem dX9_before_52 : decode cX9_before 52 = .ok (.iconst 1, 1) := by decide +kernel
theorem dX9_before_53 : decode cX9_before 53 = .ok (.goto 4, 3) := by decide +kernel
theorem dX9_before_56 : decode cX9_before 56 = .ok (.iconst 0, 1) := by decide +kernel
theorem dX9_before_57 : decode cX9_before 57 = .ok (.istore 5, 2) := by decide +kernel
theorem dX9_before_59 : decode cX9_before 59 = .ok (.iload_n 3, 1) := by decide +kernel
theorem dX9_before_60 : decode cX9_before 60 = .ok (.iload 5, 2) := by decide +kernel
theorem dX9_before_62 : decode cX9_before 62 = .ok (.ifCond .eq 25, 3) := by decide +kernel
theorem dX9_before_65 : decode cX9_before 65 = .ok (.aload_n 0, 1) := by decide +kernel
theorem dX9_before_66 : decode cX9_before 66 = .ok (.getfield 16, 3) := by decide +kernel
theorem dX9_before_69 : decode cX9_before 69 = .ok (.iload 4, 2) := by decide +kernel
theorem dX9_before_71 : decode cX9_before 71 = .ok (.iaload, 1) := by decide +kernel
theorem dX9_before_72 : decode cX9_before 72 = .ok (.aload_n 0, 1) := by decide +kernel
theorem dX9_before_73 : decode cX9_before 73 = .ok (.getfield 134, 3) := by decide +kernel
theorem dX9_before_76 : decode cX9_before 76 = .ok (.imul, 1) := by decide +kernel
theorem dX9_before_77 : decode cX9_before 77 = .ok (.iconst 2, 1) := by decide +kernel
theorem dX9_before_78 : decode cX9_before 78 = .ok (.iload_n 2, 1) := by decide +kernel
theorem dX9_before_79 : decode cX9_before 79 = .ok (.imul, 1) := by decide +kernel
theorem dX9_before_80 : decode cX9_before 80 = .ok (.if_icmp .le 7, 3) := by decide +kernel
theorem dX9_before_83 : decode cX9_before 83 = .ok (.iconst 1, 1) := by decide +kernel
theorem dX9_before_84 : decode cX9_before 84 = .ok (.goto 4, 3) := by decide +kernel
theorem dX9_before_87 : decode cX9_before 87 = .ok (.iconst 0, 1) := by decide +kernel
theorem dX9_before_88 : decode cX9_before 88 = .ok (.iadd, 1) := by decide +kernel
theorem dX9_before_89 : decode cX9_before 89 = .ok (.istore_n 3, 1) := by decide +kernel
theorem dX9_before_90 : decode cX9_before 90 = .ok (.iinc 4 1, 3) := by decide +kernel
theorem dX9_before_93 : decode cX9_before 93 = .ok (.goto (-88), 3) := by decide +kernel
theorem dX9_before_96 : decode cX9_before 96 = .ok (.iload_n 3, 1) := by decide +kernel
theorem dX9_before_97 : decode cX9_before 97 = .ok (.ireturn, 1) := by decide +kernel
theorem dX9_hot_0 : decode cX9_hot 0 = .ok (.aload_n 0, 1) := by decide +kernel
theorem dX9_hot_1 : decode cX9_hot 1 = .ok (.invokevirtual 171, 3) := by decide +kernel
theorem dX9_hot_4 : decode cX9_hot 4 = .ok (.istore_n 2, 1) := by decide +kernel
theorem dX9_hot_5 : decode cX9_hot 5 = .ok (.bipush (-106), 2) := by decide +kernel
theorem dX9_hot_7 : decode cX9_hot 7 = .ok (.istore_n 3, 1) := by decide +kernel
theorem dX9_hot_8 : decode cX9_hot 8 = .ok (.iconst 0, 1) := by decide +kernel
theorem dX9_hot_9 : decode cX9_hot 9 = .ok (.istore 4, 2) := by decide +kernel
theorem dX9_hot_11 : decode cX9_hot 11 = .ok (.iload 4, 2) := by decide +kernel
theorem dX9_hot_13 : decode cX9_hot 13 = .ok (.aload_n 0, 1) := by decide +kernel
theorem dX9_hot_14 : decode cX9_hot 14 = .ok (.getfield 134, 3) := by decide +kernel
theorem dX9_hot_17 : decode cX9_hot 17 = .ok (.if_icmp .ge 45, 3) := by decide +kernel
theorem dX9_hot_20 : decode cX9_hot 20 = .ok (.aload_n 0, 1) := by decide +kernel
theorem dX9_hot_21 : decode cX9_hot 21 = .ok (.getfield 16, 3) := by decide +kernel
theorem dX9_hot_24 : decode cX9_hot 24 = .ok (.iload 4, 2) := by decide +kernel
theorem dX9_hot_26 : decode cX9_hot 26 = .ok (.iaload, 1) := by decide +kernel
theorem dX9_hot_27 : decode cX9_hot 27 = .ok (.aload_n 0, 1) := by decide +kernel
theorem dX9_hot_28 : decode cX9_hot 28 = .ok (.getfield 134, 3) := by decide +kernel
theorem dX9_hot_31 : decode cX9_hot 31 = .ok (.imul, 1) := by decide +kernel
theorem dX9_hot_32 : decode cX9_hot 32 = .ok (.iconst 2, 1) := by decide +kernel
theorem dX9_hot_33 : decode cX9_hot 33 = .ok (.iload_n 2, 1) := by decide +kernel
theorem dX9_hot_34 : decode cX9_hot 34 = .ok (.imul, 1) := by decide +kernel
theorem dX9_hot_35 : decode cX9_hot 35 = .ok (.if_icmp .le 19, 3) := by decide +kernel
theorem dX9_hot_38 : decode cX9_hot 38 = .ok (.aload_n 0, 1) := by decide +kernel
theorem dX9_hot_39 : decode cX9_hot 39 = .ok (.iload 4, 2) := by decide +kernel
theorem dX9_hot_41 : decode cX9_hot 41 = .ok (.iload_n 2, 1) := by decide +kernel
theorem dX9_hot_42 : decode cX9_hot 42 = .ok (.invokevirtual 205, 3) := by decide +kernel
theorem dX9_hot_45 : decode cX9_hot 45 = .ok (.iload_n 1, 1) := by decide +kernel
theorem dX9_hot_46 : decode cX9_hot 46 = .ok (.if_icmp .ne 8, 3) := by decide +kernel
theorem dX9_hot_49 : decode cX9_hot 49 = .ok (.iload 4, 2) := by decide +kernel
theorem dX9_hot_51 : decode cX9_hot 51 = .ok (.goto 4, 3) := by decide +kernel
theorem dX9_hot_54 : decode cX9_hot 54 = .ok (.iload_n 3, 1) := by decide +kernel
theorem dX9_hot_55 : decode cX9_hot 55 = .ok (.istore_n 3, 1) := by decide +kernel
theorem dX9_hot_56 : decode cX9_hot 56 = .ok (.iinc 4 1, 3) := by decide +kernel
theorem dX9_hot_59 : decode cX9_hot 59 = .ok (.goto (-48), 3) := by decide +kernel
theorem dX9_hot_62 : decode cX9_hot 62 = .ok (.iload_n 3, 1) := by decide +kernel
theorem dX9_hot_63 : decode cX9_hot 63 = .ok (.ireturn, 1) := by decide +kernel
theorem dX9_timer_0 : decode cX9_timer 0 = .ok (.iload_n 1, 1) := by decide +kernel
theorem dX9_timer_1 : decode cX9_timer 1 = .ok (.invokestatic 156, 3) := by decide +kernel
theorem dX9_timer_4 : decode cX9_timer 4 = .ok (.ifCond .eq 6, 3) := by decide +kernel
theorem dX9_timer_7 : decode cX9_timer 7 = .ok (.bipush (-101), 2) := by decide +kernel
theorem dX9_timer_9 : decode cX9_timer 9 = .ok (.ireturn, 1) := by decide +kernel
theorem dX9_timer_10 : decode cX9_timer 10 = .ok (.iload_n 2, 1) := by decide +kernel
theorem dX9_timer_11 : decode cX9_timer 11 = .ok (.aload_n 0, 1) := by decide +kernel
theorem dX9_timer_12 : decode cX9_timer 12 = .ok (.getfield 115, 3) := by decide +kernel
theorem dX9_timer_15 : decode cX9_timer 15 = .ok (.if_icmp .le 9, 3) := by decide +kernel
theorem dX9_timer_18 : decode cX9_timer 18 = .ok (.iload_n 2, 1) := by decide +kernel
theorem dX9_timer_19 : decode cX9_timer 19 = .ok (.ldc 208, 2) := by decide +kernel
theorem dX9_timer_21 : decode cX9_timer 21 = .ok (.if_icmp .le 6, 3) := by decide +kernel
theorem dX9_timer_24 : decode cX9_timer 24 = .ok (.bipush (-102), 2) := by decide +kernel
theorem dX9_timer_26 : decode cX9_timer 26 = .ok (.ireturn, 1) := by decide +kernel
theorem dX9_timer_27 : decode cX9_timer 27 = .ok (.aload_n 0, 1) := by decide +kernel
theorem dX9_timer_28 : decode cX9_timer 28 = .ok (.getfield 118, 3) := by decide +kernel
theorem dX9_timer_31 : decode cX9_timer 31 = .ok (.bipush 40, 2) := by decide +kernel
theorem dX9_timer_33 : decode cX9_timer 33 = .ok (.if_icmp .ne 6, 3) := by decide +kernel
theorem dX9_timer_36 : decode cX9_timer 36 = .ok (.bipush (-107), 2) := by decide +kernel
theorem dX9_timer_38 : decode cX9_timer 38 = .ok (.ireturn, 1) := by decide +kernel
theorem dX9_timer_39 : decode cX9_timer 39 = .ok (.aload_n 0, 1) := by decide +kernel
theorem dX9_timer_40 : decode cX9_timer 40 = .ok (.getfield 48, 3) := by decide +kernel
theorem dX9_timer_43 : decode cX9_timer 43 = .ok (.aload_n 0, 1) := by decide +kernel
theorem dX9_timer_44 : decode cX9_timer 44 = .ok (.getfield 118, 3) := by decide +kernel
theorem dX9_timer_47 : decode cX9_timer 47 = .ok (.iload_n 1, 1) := by decide +kernel
theorem dX9_timer_48 : decode cX9_timer 48 = .ok (.iastore, 1) := by decide +kernel
theorem dX9_timer_49 : decode cX9_timer 49 = .ok (.aload_n 0, 1) := by decide +kernel
theorem dX9_timer_50 : decode cX9_timer 50 = .ok (.getfield 51, 3) := by decide +kernel
theorem dX9_timer_53 : decode cX9_timer 53 = .ok (.aload_n 0, 1) := by decide +kernel
theorem dX9_timer_54 : decode cX9_timer 54 = .ok (.getfield 118, 3) := by decide +kernel
theorem dX9_timer_57 : decode cX9_timer 57 = .ok (.iload_n 2, 1) := by decide +kernel
theorem dX9_timer_58 : decode cX9_timer 58 = .ok (.iastore, 1) := by decide +kernel
theorem dX9_timer_59 : decode cX9_timer 59 = .ok (.aload_n 0, 1) := by decide +kernel
theorem dX9_timer_60 : decode cX9_timer 60 = .ok (.dup, 1) := by decide +kernel
theorem dX9_timer_61 : decode cX9_timer 61 = .ok (.getfield 118, 3) := by decide +kernel
theorem dX9_timer_64 : decode cX9_timer 64 = .ok (.iconst 1, 1) := by decide +kernel
theorem dX9_timer_65 : decode cX9_timer 65 = .ok (.iadd, 1) := by decide +kernel
theorem dX9_timer_66 : decode cX9_timer 66 = .ok (.putfield 118, 3) := by decide +kernel
theorem dX9_timer_69 : decode cX9_timer 69 = .ok (.aload_n 0, 1) := by decide +kernel
theorem dX9_timer_70 : decode cX9_timer 70 = .ok (.getfield 118, 3) := by decide +kernel
theorem dX9_timer_73 : decode cX9_timer 73 = .ok (.ireturn, 1) := by decide +kernel
theorem dX9_due_0 : decode cX9_due 0 = .ok (.bipush (-106), 2) := by decide +kernel
theorem dX9_due_2 : decode cX9_due 2 = .ok (.istore_n 2, 1) := by decide +kernel
theorem dX9_due_3 : decode cX9_due 3 = .ok (.iconst 0, 1) := by decide +kernel
theorem dX9_due_4 : decode cX9_due 4 = .ok (.istore_n 3, 1) := by decide +kernel
theorem dX9_due_5 : decode cX9_due 5 = .ok (.iload_n 3, 1) := by decide +kernel
theorem dX9_due_6 : decode cX9_due 6 = .ok (.aload_n 0, 1) := by decide +kernel
theorem dX9_due_7 : decode cX9_due 7 = .ok (.getfield 118, 3) := by decide +kernel
theorem dX9_due_10 : decode cX9_due 10 = .ok (.if_icmp .ge 100, 3) := by decide +kernel
theorem dX9_due_13 : decode cX9_due 13 = .ok (.iload_n 2, 1) := by decide +kernel
theorem dX9_due_14 : decode cX9_due 14 = .ok (.ifCond .ge 7, 3) := by decide +kernel
theorem dX9_due_17 : decode cX9_due 17 = .ok (.iconst 0, 1) := by decide +kernel
theorem dX9_due_18 : decode cX9_due 18 = .ok (.goto 4, 3) := by decide +kernel
theorem dX9_due_21 : decode cX9_due 21 = .ok (.iload_n 2, 1) := by decide +kernel
theorem dX9_due_22 : decode cX9_due 22 = .ok (.istore 4, 2) := by decide +kernel
theorem dX9_due_24 : decode cX9_due 24 = .ok (.aload_n 0, 1) := by decide +kernel
theorem dX9_due_25 : decode cX9_due 25 = .ok (.getfield 51, 3) := by decide +kernel
theorem dX9_due_28 : decode cX9_due 28 = .ok (.iload_n 3, 1) := by decide +kernel
theorem dX9_due_29 : decode cX9_due 29 = .ok (.iaload, 1) := by decide +kernel
theorem dX9_due_30 : decode cX9_due 30 = .ok (.aload_n 0, 1) := by decide +kernel
theorem dX9_due_31 : decode cX9_due 31 = .ok (.getfield 51, 3) := by decide +kernel
theorem dX9_due_34 : decode cX9_due 34 = .ok (.iload 4, 2) := by decide +kernel
theorem dX9_due_36 : decode cX9_due 36 = .ok (.iaload, 1) := by decide +kernel
theorem dX9_due_37 : decode cX9_due 37 = .ok (.if_icmp .lt 35, 3) := by decide +kernel
theorem dX9_due_40 : decode cX9_due 40 = .ok (.aload_n 0, 1) := by decide +kernel
theorem dX9_due_41 : decode cX9_due 41 = .ok (.getfield 51, 3) := by decide +kernel
theorem dX9_due_44 : decode cX9_due 44 = .ok (.iload_n 3, 1) := by decide +kernel
theorem dX9_due_45 : decode cX9_due 45 = .ok (.iaload, 1) := by decide +kernel
theorem dX9_due_46 : decode cX9_due 46 = .ok (.aload_n 0, 1) := by decide +kernel
theorem dX9_due_47 : decode cX9_due 47 = .ok (.getfield 51, 3) := by decide +kernel
theorem dX9_due_50 : decode cX9_due 50 = .ok (.iload 4, 2) := by decide +kernel
theorem dX9_due_52 : decode cX9_due 52 = .ok (.iaload, 1) := by decide +kernel
theorem dX9_due_53 : decode cX9_due 53 = .ok (.if_icmp .ne 23, 3) := by decide +kernel
theorem dX9_due_56 : decode cX9_due 56 = .ok (.aload_n 0, 1) := by decide +kernel
theorem dX9_due_57 : decode cX9_due 57 = .ok (.getfield 48, 3) := by decide +kernel
theorem dX9_due_60 : decode cX9_due 60 = .ok (.iload_n 3, 1) := by decide +kernel
theorem dX9_due_61 : decode cX9_due 61 = .ok (.iaload, 1) := by decide +kernel
theorem dX9_due_62 : decode cX9_due 62 = .ok (.aload_n 0, 1) := by decide +kernel
theorem dX9_due_63 : decode cX9_due 63 = .ok (.getfield 48, 3) := by decide +kernel
theorem dX9_due_66 : decode cX9_due 66 = .ok (.iload 4, 2) := by decide +kernel
theorem dX9_due_68 : decode cX9_due 68 = .ok (.iaload, 1) := by decide +kernel
theorem dX9_due_69 : decode cX9_due 69 = .ok (.if_icmp .ge 7, 3) := by decide +kernel
theorem dX9_due_72 : decode cX9_due 72 = .ok (.iconst 1, 1) := by decide +kernel
theorem dX9_due_73 : decode cX9_due 73 = .ok (.goto 4, 3) := by decide +kernel
theorem dX9_due_76 : decode cX9_due 76 = .ok (.iconst 0, 1) := by decide +kernel
theorem dX9_due_77 : decode cX9_due 77 = .ok (.istore 5, 2) := by decide +kernel
theorem dX9_due_79 : decode cX9_due 79 = .ok (.aload_n 0, 1) := by decide +kernel
theorem dX9_due_80 : decode cX9_due 80 = .ok (.getfield 51, 3) := by decide +kernel
theorem dX9_due_83 : decode cX9_due 83 = .ok (.iload_n 3, 1) := by decide +kernel
theorem dX9_due_84 : decode cX9_due 84 = .ok (.iaload, 1) := by decide +kernel
theorem dX9_due_85 : decode cX9_due 85 = .ok (.iload_n 1, 1) := by decide +kernel
theorem dX9_due_86 : decode cX9_due 86 = .ok (.if_icmp .gt 16, 3) := by decide +kernel
theorem dX9_due_89 : decode cX9_due 89 = .ok (.iload_n 2, 1) := by decide +kernel
theorem dX9_due_90 : decode cX9_due 90 = .ok (.ifCond .lt 8, 3) := by decide +kernel
theorem dX9_due_93 : decode cX9_due 93 = .ok (.iload 5, 2) := by decide +kernel
theorem dX9_due_95 : decode cX9_due 95 = .ok (.ifCond .eq 7, 3) := by decide +kernel
theorem dX9_due_98 : decode cX9_due 98 = .ok (.iload_n 3, 1) := by decide +kernel
theorem dX9_due_99 : decode cX9_due 99 = .ok (.goto 4, 3) := by decide +kernel
theorem dX9_due_102 : decode cX9_due 102 = .ok (.iload_n 2, 1) := by decide +kernel
theorem dX9_due_103 : decode cX9_due 103 = .ok (.istore_n 2, 1) := by decide +kernel
theorem dX9_due_104 : decode cX9_due 104 = .ok (.iinc 3 1, 3) := by decide +kernel
theorem dX9_due_107 : decode cX9_due 107 = .ok (.goto (-102), 3) := by decide +kernel
theorem dX9_due_110 : decode cX9_due 110 = .ok (.iload_n 2, 1) := by decide +kernel
theorem dX9_due_111 : decode cX9_due 111 = .ok (.ireturn, 1) := by decide +kernel
theorem dX9_ring_0 : decode cX9_ring 0 = .ok (.aload_n 0, 1) := by decide +kernel
theorem dX9_ring_1 : decode cX9_ring 1 = .ok (.getfield 48, 3) := by decide +kernel
theorem dX9_ring_4 : decode cX9_ring 4 = .ok (.iload_n 1, 1) := by decide +kernel
theorem dX9_ring_5 : decode cX9_ring 5 = .ok (.iaload, 1) := by decide +kernel
theorem dX9_ring_6 : decode cX9_ring 6 = .ok (.istore_n 2, 1) := by decide +kernel
theorem dX9_ring_7 : decode cX9_ring 7 = .ok (.aload_n 0, 1) := by decide +kernel
theorem dX9_ring_8 : decode cX9_ring 8 = .ok (.getfield 121, 3) := by decide +kernel
theorem dX9_ring_11 : decode cX9_ring 11 = .ok (.bipush 32, 2) := by decide +kernel
theorem dX9_ring_13 : decode cX9_ring 13 = .ok (.irem, 1) := by decide +kernel
theorem dX9_ring_14 : decode cX9_ring 14 = .ok (.istore_n 3, 1) := by decide +kernel
theorem dX9_ring_15 : decode cX9_ring 15 = .ok (.aload_n 0, 1) := by decide +kernel
theorem dX9_ring_16 : decode cX9_ring 16 = .ok (.getfield 54, 3) := by decide +kernel
theorem dX9_ring_19 : decode cX9_ring 19 = .ok (.iload_n 3, 1) := by decide +kernel
theorem dX9_ring_20 : decode cX9_ring 20 = .ok (.iload_n 2, 1) := by decide +kernel
theorem dX9_ring_21 : decode cX9_ring 21 = .ok (.iastore, 1) := by decide +kernel
theorem dX9_ring_22 : decode cX9_ring 22 = .ok (.aload_n 0, 1) := by decide +kernel
theorem dX9_ring_23 : decode cX9_ring 23 = .ok (.getfield 57, 3) := by decide +kernel
theorem dX9_ring_26 : decode cX9_ring 26 = .ok (.iload_n 3, 1) := by decide +kernel
theorem dX9_ring_27 : decode cX9_ring 27 = .ok (.aload_n 0, 1) := by decide +kernel
theorem dX9_ring_28 : decode cX9_ring 28 = .ok (.getfield 51, 3) := by decide +kernel
theorem dX9_ring_31 : decode cX9_ring 31 = .ok (.iload_n 1, 1) := by decide +kernel
theorem dX9_ring_32 : decode cX9_ring 32 = .ok (.iaload, 1) := by decide +kernel
theorem dX9_ring_33 : decode cX9_ring 33 = .ok (.iastore, 1) := by decide +kernel
theorem dX9_ring_34 : decode cX9_ring 34 = .ok (.aload_n 0, 1) := by decide +kernel
theorem dX9_ring_35 : decode cX9_ring 35 = .ok (.getfield 60, 3) := by decide +kernel
theorem dX9_ring_38 : decode cX9_ring 38 = .ok (.iload_n 3, 1) := by decide +kernel
theorem dX9_ring_39 : decode cX9_ring 39 = .ok (.aload_n 0, 1) := by decide +kernel
theorem dX9_ring_40 : decode cX9_ring 40 = .ok (.getfield 32, 3) := by decide +kernel
theorem dX9_ring_43 : decode cX9_ring 43 = .ok (.iload_n 2, 1) := by decide +kernel
theorem dX9_ring_44 : decode cX9_ring 44 = .ok (.iaload, 1) := by decide +kernel
theorem dX9_ring_45 : decode cX9_ring 45 = .ok (.iastore, 1) := by decide +kernel
theorem dX9_ring_46 : decode cX9_ring 46 = .ok (.aload_n 0, 1) := by decide +kernel
theorem dX9_ring_47 : decode cX9_ring 47 = .ok (.getfield 63, 3) := by decide +kernel
theorem dX9_ring_50 : decode cX9_ring 50 = .ok (.iload_n 3, 1) := by decide +kernel
theorem dX9_ring_51 : decode cX9_ring 51 = .ok (.aload_n 0, 1) := by decide +kernel
theorem dX9_ring_52 : decode cX9_ring 52 = .ok (.getfield 35, 3) := by decide +kernel
theorem dX9_ring_55 : decode cX9_ring 55 = .ok (.iload_n 2, 1) := by decide +kernel
theorem dX9_ring_56 : decode cX9_ring 56 = .ok (.laload, 1) := by decide +kernel
theorem dX9_ring_57 : decode cX9_ring 57 = .ok (.lastore, 1) := by decide +kernel
theorem dX9_ring_58 : decode cX9_ring 58 = .ok (.aload_n 0, 1) := by decide +kernel
theorem dX9_ring_59 : decode cX9_ring 59 = .ok (.dup, 1) := by decide +kernel
theorem dX9_ring_60 : decode cX9_ring 60 = .ok (.getfield 121, 3) := by decide +kernel
theorem dX9_ring_63 : decode cX9_ring 63 = .ok (.iconst 1, 1) := by decide +kernel
theorem dX9_ring_64 : decode cX9_ring 64 = .ok (.iadd, 1) := by decide +kernel
theorem dX9_ring_65 : decode cX9_ring 65 = .ok (.putfield 121, 3) := by decide +kernel
theorem dX9_ring_68 : decode cX9_ring 68 = .ok (.aload_n 0, 1) := by decide +kernel
theorem dX9_ring_69 : decode cX9_ring 69 = .ok (.getfield 32, 3) := by decide +kernel
theorem dX9_ring_72 : decode cX9_ring 72 = .ok (.iload_n 2, 1) := by decide +kernel
theorem dX9_ring_73 : decode cX9_ring 73 = .ok (.iconst 0, 1) := by decide +kernel
theorem dX9_ring_74 : decode cX9_ring 74 = .ok (.iastore, 1) := by decide +kernel
theorem dX9_ring_75 : decode cX9_ring 75 = .ok (.aload_n 0, 1) := by decide +kernel
theorem dX9_ring_76 : decode cX9_ring 76 = .ok (.getfield 35, 3) := by decide +kernel
theorem dX9_ring_79 : decode cX9_ring 79 = .ok (.iload_n 2, 1) := by decide +kernel
theorem dX9_ring_80 : decode cX9_ring 80 = .ok (.lconst 0, 1) := by decide +kernel
theorem dX9_ring_81 : decode cX9_ring 81 = .ok (.lastore, 1) := by decide +kernel
theorem dX9_ring_82 : decode cX9_ring 82 = .ok (.aload_n 0, 1) := by decide +kernel
theorem dX9_ring_83 : decode cX9_ring 83 = .ok (.dup, 1) := by decide +kernel
theorem dX9_ring_84 : decode cX9_ring 84 = .ok (.getfield 118, 3) := by decide +kernel
theorem dX9_ring_87 : decode cX9_ring 87 = .ok (.iconst 1, 1) := by decide +kernel
theorem dX9_ring_88 : decode cX9_ring 88 = .ok (.isub, 1) := by decide +kernel
theorem dX9_ring_89 : decode cX9_ring 89 = .ok (.putfield 118, 3) := by decide +kernel
theorem dX9_ring_92 : decode cX9_ring 92 = .ok (.iload_n 1, 1) := by decide +kernel
theorem dX9_ring_93 : decode cX9_ring 93 = .ok (.istore 4, 2) := by decide +kernel
theorem dX9_ring_95 : decode cX9_ring 95 = .ok (.iload 4, 2) := by decide +kernel
theorem dX9_ring_97 : decode cX9_ring 97 = .ok (.aload_n 0, 1) := by decide +kernel
theorem dX9_ring_98 : decode cX9_ring 98 = .ok (.getfield 118, 3) := by decide +kernel
theorem dX9_ring_101 : decode cX9_ring 101 = .ok (.if_icmp .ge 41, 3) := by decide +kernel
theorem dX9_ring_104 : decode cX9_ring 104 = .ok (.aload_n 0, 1) := by decide +kernel
theorem dX9_ring_105 : decode cX9_ring 105 = .ok (.getfield 48, 3) := by decide +kernel
theorem dX9_ring_108 : decode cX9_ring 108 = .ok (.iload 4, 2) := by decide +kernel
theorem dX9_ring_110 : decode cX9_ring 110 = .ok (.aload_n 0, 1) := by decide +kernel
theorem dX9_ring_111 : decode cX9_ring 111 = .ok (.getfield 48, 3) := by decide +kernel
theorem dX9_ring_114 : decode cX9_ring 114 = .ok (.iload 4, 2) := by decide +kernel
theorem dX9_ring_116 : decode cX9_ring 116 = .ok (.iconst 1, 1) := by decide +kernel
theorem dX9_ring_117 : decode cX9_ring 117 = .ok (.iadd, 1) := by decide +kernel
theorem dX9_ring_118 : decode cX9_ring 118 = .ok (.iaload, 1) := by decide +kernel
theorem dX9_ring_119 : decode cX9_ring 119 = .ok (.iastore, 1) := by decide +kernel
theorem dX9_ring_120 : decode cX9_ring 120 = .ok (.aload_n 0, 1) := by decide +kernel
theorem dX9_ring_121 : decode cX9_ring 121 = .ok (.getfield 51, 3) := by decide +kernel
theorem dX9_ring_124 : decode cX9_ring 124 = .ok (.iload 4, 2) := by decide +kernel
theorem dX9_ring_126 : decode cX9_ring 126 = .ok (.aload_n 0, 1) := by decide +kernel
theorem dX9_ring_127 : decode cX9_ring 127 = .ok (.getfield 51, 3) := by decide +kernel
theorem dX9_ring_130 : decode cX9_ring 130 = .ok (.iload 4, 2) := by decide +kernel
theorem dX9_ring_132 : decode cX9_ring 132 = .ok (.iconst 1, 1) := by decide +kernel
theorem dX9_ring_133 : decode cX9_ring 133 = .ok (.iadd, 1) := by decide +kernel
theorem dX9_ring_134 : decode cX9_ring 134 = .ok (.iaload, 1) := by decide +kernel
theorem dX9_ring_135 : decode cX9_ring 135 = .ok (.iastore, 1) := by decide +kernel
theorem dX9_ring_136 : decode cX9_ring 136 = .ok (.iinc 4 1, 3) := by decide +kernel
theorem dX9_ring_139 : decode cX9_ring 139 = .ok (.goto (-44), 3) := by decide +kernel
theorem dX9_ring_142 : decode cX9_ring 142 = .ok (.return_, 1) := by decide +kernel
theorem dX9_tick_0 : decode cX9_tick 0 = .ok (.iload_n 1, 1) := by decide +kernel
theorem dX9_tick_1 : decode cX9_tick 1 = .ok (.aload_n 0, 1) := by decide +kernel
theorem dX9_tick_2 : decode cX9_tick 2 = .ok (.getfield 115, 3) := by decide +kernel
theorem dX9_tick_5 : decode cX9_tick 5 = .ok (.if_icmp .lt 9, 3) := by decide +kernel
theorem dX9_tick_8 : decode cX9_tick 8 = .ok (.iload_n 1, 1) := by decide +kernel
theorem dX9_tick_9 : decode cX9_tick 9 = .ok (.ldc 208, 2) := by decide +kernel
theorem dX9_tick_11 : decode cX9_tick 11 = .ok (.if_icmp .le 6, 3) := by decide +kernel
theorem dX9_tick_14 : decode cX9_tick 14 = .ok (.bipush (-102), 2) := by decide +kernel
theorem dX9_tick_16 : decode cX9_tick 16 = .ok (.ireturn, 1) := by decide +kernel
theorem dX9_tick_17 : decode cX9_tick 17 = .ok (.iconst 0, 1) := by decide +kernel
theorem dX9_tick_18 : decode cX9_tick 18 = .ok (.istore_n 2, 1) := by decide +kernel
theorem dX9_tick_19 : decode cX9_tick 19 = .ok (.aload_n 0, 1) := by decide +kernel
theorem dX9_tick_20 : decode cX9_tick 20 = .ok (.iload_n 1, 1) := by decide +kernel
theorem dX9_tick_21 : decode cX9_tick 21 = .ok (.invokevirtual 209, 3) := by decide +kernel
theorem dX9_tick_24 : decode cX9_tick 24 = .ok (.istore_n 3, 1) := by decide +kernel
theorem dX9_tick_25 : decode cX9_tick 25 = .ok (.iload_n 3, 1) := by decide +kernel
theorem dX9_tick_26 : decode cX9_tick 26 = .ok (.ifCond .lt 20, 3) := by decide +kernel
theorem dX9_tick_29 : decode cX9_tick 29 = .ok (.aload_n 0, 1) := by decide +kernel
theorem dX9_tick_30 : decode cX9_tick 30 = .ok (.iload_n 3, 1) := by decide +kernel
theorem dX9_tick_31 : decode cX9_tick 31 = .ok (.invokevirtual 212, 3) := by decide +kernel
theorem dX9_tick_34 : decode cX9_tick 34 = .ok (.iinc 2 1, 3) := by decide +kernel
theorem dX9_tick_37 : decode cX9_tick 37 = .ok (.aload_n 0, 1) := by decide +kernel
theorem dX9_tick_38 : decode cX9_tick 38 = .ok (.iload_n 1, 1) := by decide +kernel
theorem dX9_tick_39 : decode cX9_tick 39 = .ok (.invokevirtual 209, 3) := by decide +kernel
theorem dX9_tick_42 : decode cX9_tick 42 = .ok (.istore_n 3, 1) := by decide +kernel
theorem dX9_tick_43 : decode cX9_tick 43 = .ok (.goto (-18), 3) := by decide +kernel
theorem dX9_tick_46 : decode cX9_tick 46 = .ok (.aload_n 0, 1) := by decide +kernel
theorem dX9_tick_47 : decode cX9_tick 47 = .ok (.iload_n 1, 1) := by decide +kernel
theorem dX9_tick_48 : decode cX9_tick 48 = .ok (.putfield 115, 3) := by decide +kernel
theorem dX9_tick_51 : decode cX9_tick 51 = .ok (.iload_n 2, 1) := by decide +kernel
theorem dX9_tick_52 : decode cX9_tick 52 = .ok (.ireturn, 1) := by decide +kernel
theorem dX9_out_0 : decode cX9_out 0 = .ok (.iload_n 2, 1) := by decide +kernel
theorem dX9_out_1 : decode cX9_out 1 = .ok (.i2l, 1) := by decide +kernel
theorem dX9_out_2 : decode cX9_out 2 = .ok (.lconst 0, 1) := by decide +kernel
theorem dX9_out_3 : decode cX9_out 3 = .ok (.ldc2_w 143, 3) := by decide +kernel
theorem dX9_out_6 : decode cX9_out 6 = .ok (.invokestatic 147, 3) := by decide +kernel
theorem dX9_out_9 : decode cX9_out 9 = .ok (.ifCond .ne 7, 3) := by decide +kernel
theorem dX9_out_12 : decode cX9_out 12 = .ok (.ldc2_w 215, 3) := by decide +kernel
theorem dX9_out_15 : decode cX9_out 15 = .ok (.lreturn, 1) := by decide +kernel
theorem dX9_out_16 : decode cX9_out 16 = .ok (.iload_n 1, 1) := by decide +kernel
theorem dX9_out_17 : decode cX9_out 17 = .ok (.i2l, 1) := by decide +kernel
theorem dX9_out_18 : decode cX9_out 18 = .ok (.lconst 0, 1) := by decide +kernel
theorem dX9_out_19 : decode cX9_out 19 = .ok (.aload_n 0, 1) := by decide +kernel
theorem dX9_out_20 : decode cX9_out 20 = .ok (.getfield 112, 3) := by decide +kernel
theorem dX9_out_23 : decode cX9_out 23 = .ok (.iconst 1, 1) := by decide +kernel
theorem dX9_out_24 : decode cX9_out 24 = .ok (.isub, 1) := by decide +kernel
theorem dX9_out_25 : decode cX9_out 25 = .ok (.i2l, 1) := by decide +kernel
theorem dX9_out_26 : decode cX9_out 26 = .ok (.invokestatic 147, 3) := by decide +kernel
theorem dX9_out_29 : decode cX9_out 29 = .ok (.ifCond .ne 7, 3) := by decide +kernel
theorem dX9_out_32 : decode cX9_out 32 = .ok (.ldc2_w 217, 3) := by decide +kernel
theorem dX9_out_35 : decode cX9_out 35 = .ok (.lreturn, 1) := by decide +kernel
theorem dX9_out_36 : decode cX9_out 36 = .ok (.iload_n 2, 1) := by decide +kernel
theorem dX9_out_37 : decode cX9_out 37 = .ok (.ifCond .ne 13, 3) := by decide +kernel
theorem dX9_out_40 : decode cX9_out 40 = .ok (.aload_n 0, 1) := by decide +kernel
theorem dX9_out_41 : decode cX9_out 41 = .ok (.getfield 39, 3) := by decide +kernel
theorem dX9_out_44 : decode cX9_out 44 = .ok (.iload_n 1, 1) := by decide +kernel
theorem dX9_out_45 : decode cX9_out 45 = .ok (.iaload, 1) := by decide +kernel
theorem dX9_out_46 : decode cX9_out 46 = .ok (.i2l, 1) := by decide +kernel
theorem dX9_out_47 : decode cX9_out 47 = .ok (.goto 24, 3) := by decide +kernel
theorem dX9_out_50 : decode cX9_out 50 = .ok (.iload_n 2, 1) := by decide +kernel
theorem dX9_out_51 : decode cX9_out 51 = .ok (.iconst 1, 1) := by decide +kernel
theorem dX9_out_52 : decode cX9_out 52 = .ok (.if_icmp .ne 13, 3) := by decide +kernel
theorem dX9_out_55 : decode cX9_out 55 = .ok (.aload_n 0, 1) := by decide +kernel
theorem dX9_out_56 : decode cX9_out 56 = .ok (.getfield 42, 3) := by decide +kernel
theorem dX9_out_59 : decode cX9_out 59 = .ok (.iload_n 1, 1) := by decide +kernel
theorem dX9_out_60 : decode cX9_out 60 = .ok (.iaload, 1) := by decide +kernel
theorem dX9_out_61 : decode cX9_out 61 = .ok (.i2l, 1) := by decide +kernel
theorem dX9_out_62 : decode cX9_out 62 = .ok (.goto 9, 3) := by decide +kernel
theorem dX9_out_65 : decode cX9_out 65 = .ok (.aload_n 0, 1) := by decide +kernel
theorem dX9_out_66 : decode cX9_out 66 = .ok (.getfield 45, 3) := by decide +kernel
theorem dX9_out_69 : decode cX9_out 69 = .ok (.iload_n 1, 1) := by decide +kernel
theorem dX9_out_70 : decode cX9_out 70 = .ok (.laload, 1) := by decide +kernel
theorem dX9_out_71 : decode cX9_out 71 = .ok (.lreturn, 1) := by decide +kernel
theorem dX9_keptLogs_0 : decode cX9_keptLogs 0 = .ok (.aload_n 0, 1) := by decide +kernel
theorem dX9_keptLogs_1 : decode cX9_keptLogs 1 = .ok (.getfield 121, 3) := by decide +kernel
theorem dX9_keptLogs_4 : decode cX9_keptLogs 4 = .ok (.bipush 32, 2) := by decide +kernel
theorem dX9_keptLogs_6 : decode cX9_keptLogs 6 = .ok (.if_icmp .ge 10, 3) := by decide +kernel
theorem dX9_keptLogs_9 : decode cX9_keptLogs 9 = .ok (.aload_n 0, 1) := by decide +kernel
theorem dX9_keptLogs_10 : decode cX9_keptLogs 10 = .ok (.getfield 121, 3) := by decide +kernel
theorem dX9_keptLogs_13 : decode cX9_keptLogs 13 = .ok (.goto 5, 3) := by decide +kernel
theorem dX9_keptLogs_16 : decode cX9_keptLogs 16 = .ok (.bipush 32, 2) := by decide +kernel
theorem dX9_keptLogs_18 : decode cX9_keptLogs 18 = .ok (.ireturn, 1) := by decide +kernel
theorem dX9_log_0 : decode cX9_log 0 = .ok (.iload_n 2, 1) := by decide +kernel
theorem dX9_log_1 : decode cX9_log 1 = .ok (.i2l, 1) := by decide +kernel
theorem dX9_log_2 : decode cX9_log 2 = .ok (.lconst 0, 1) := by decide +kernel
theorem dX9_log_3 : decode cX9_log 3 = .ok (.ldc2_w 219, 3) := by decide +kernel
theorem dX9_log_6 : decode cX9_log 6 = .ok (.invokestatic 147, 3) := by decide +kernel
theorem dX9_log_9 : decode cX9_log 9 = .ok (.ifCond .ne 7, 3) := by decide +kernel
theorem dX9_log_12 : decode cX9_log 12 = .ok (.ldc2_w 215, 3) := by decide +kernel
theorem dX9_log_15 : decode cX9_log 15 = .ok (.lreturn, 1) := by decide +kernel
theorem dX9_log_16 : decode cX9_log 16 = .ok (.iload_n 1, 1) := by decide +kernel
theorem dX9_log_17 : decode cX9_log 17 = .ok (.i2l, 1) := by decide +kernel
theorem dX9_log_18 : decode cX9_log 18 = .ok (.lconst 0, 1) := by decide +kernel
theorem dX9_log_19 : decode cX9_log 19 = .ok (.aload_n 0, 1) := by decide +kernel
theorem dX9_log_20 : decode cX9_log 20 = .ok (.invokevirtual 221, 3) := by decide +kernel
theorem dX9_log_23 : decode cX9_log 23 = .ok (.iconst 1, 1) := by decide +kernel
theorem dX9_log_24 : decode cX9_log 24 = .ok (.isub, 1) := by decide +kernel
theorem dX9_log_25 : decode cX9_log 25 = .ok (.i2l, 1) := by decide +kernel
theorem dX9_log_26 : decode cX9_log 26 = .ok (.invokestatic 147, 3) := by decide +kernel
theorem dX9_log_29 : decode cX9_log 29 = .ok (.ifCond .ne 7, 3) := by decide +kernel
theorem dX9_log_32 : decode cX9_log 32 = .ok (.ldc2_w 217, 3) := by decide +kernel
theorem dX9_log_35 : decode cX9_log 35 = .ok (.lreturn, 1) := by decide +kernel
theorem dX9_log_36 : decode cX9_log 36 = .ok (.aload_n 0, 1) := by decide +kernel
theorem dX9_log_37 : decode cX9_log 37 = .ok (.getfield 121, 3) := by decide +kernel
theorem dX9_log_40 : decode cX9_log 40 = .ok (.iconst 1, 1) := by decide +kernel
theorem dX9_log_41 : decode cX9_log 41 = .ok (.isub, 1) := by decide +kernel
theorem dX9_log_42 : decode cX9_log 42 = .ok (.iload_n 1, 1) := by decide +kernel
theorem dX9_log_43 : decode cX9_log 43 = .ok (.isub, 1) := by decide +kernel
theorem dX9_log_44 : decode cX9_log 44 = .ok (.bipush 32, 2) := by decide +kernel
theorem dX9_log_46 : decode cX9_log 46 = .ok (.irem, 1) := by decide +kernel
theorem dX9_log_47 : decode cX9_log 47 = .ok (.istore_n 3, 1) := by decide +kernel
theorem dX9_log_48 : decode cX9_log 48 = .ok (.iload_n 2, 1) := by decide +kernel
theorem dX9_log_49 : decode cX9_log 49 = .ok (.ifCond .ne 13, 3) := by decide +kernel
theorem dX9_log_52 : decode cX9_log 52 = .ok (.aload_n 0, 1) := by decide +kernel
theorem dX9_log_53 : decode cX9_log 53 = .ok (.getfield 54, 3) := by decide +kernel
theorem dX9_log_56 : decode cX9_log 56 = .ok (.iload_n 3, 1) := by decide +kernel
theorem dX9_log_57 : decode cX9_log 57 = .ok (.iaload, 1) := by decide +kernel
theorem dX9_log_58 : decode cX9_log 58 = .ok (.i2l, 1) := by decide +kernel
theorem dX9_log_59 : decode cX9_log 59 = .ok (.goto 39, 3) := by decide +kernel
theorem dX9_log_62 : decode cX9_log 62 = .ok (.iload_n 2, 1) := by decide +kernel
theorem dX9_log_63 : decode cX9_log 63 = .ok (.iconst 1, 1) := by decide +kernel
theorem dX9_log_64 : decode cX9_log 64 = .ok (.if_icmp .ne 13, 3) := by decide +kernel
theorem dX9_log_67 : decode cX9_log 67 = .ok (.aload_n 0, 1) := by decide +kernel
theorem dX9_log_68 : decode cX9_log 68 = .ok (.getfield 57, 3) := by decide +kernel
theorem dX9_log_71 : decode cX9_log 71 = .ok (.iload_n 3, 1) := by decide +kernel
theorem dX9_log_72 : decode cX9_log 72 = .ok (.iaload, 1) := by decide +kernel
theorem dX9_log_73 : decode cX9_log 73 = .ok (.i2l, 1) := by decide +kernel
theorem dX9_log_74 : decode cX9_log 74 = .ok (.goto 24, 3) := by decide +kernel
theorem dX9_log_77 : decode cX9_log 77 = .ok (.iload_n 2, 1) := by decide +kernel
theorem dX9_log_78 : decode cX9_log 78 = .ok (.iconst 2, 1) := by decide +kernel
theorem dX9_log_79 : decode cX9_log 79 = .ok (.if_icmp .ne 13, 3) := by decide +kernel
theorem dX9_log_82 : decode cX9_log 82 = .ok (.aload_n 0, 1) := by decide +kernel
end
section
theorem dX9_log_83 : decode cX9_log 83 = .ok (.getfield 60, 3) := by decide +kernel
theorem dX9_log_86 : decode cX9_log 86 = .ok (.iload_n 3, 1) := by decide +kernel
theorem dX9_log_87 : decode cX9_log 87 = .ok (.iaload, 1) := by decide +kernel
theorem dX9_log_88 : decode cX9_log 88 = .ok (.i2l, 1) := by decide +kernel
theorem dX9_log_89 : decode cX9_log 89 = .ok (.goto 9, 3) := by decide +kernel
theorem dX9_log_92 : decode cX9_log 92 = .ok (.aload_n 0, 1) := by decide +kernel
theorem dX9_log_93 : decode cX9_log 93 = .ok (.getfield 63, 3) := by decide +kernel
theorem dX9_log_96 : decode cX9_log 96 = .ok (.iload_n 3, 1) := by decide +kernel
theorem dX9_log_97 : decode cX9_log 97 = .ok (.laload, 1) := by decide +kernel
theorem dX9_log_98 : decode cX9_log 98 = .ok (.lreturn, 1) := by decide +kernel
theorem dX9_mark_0 : decode cX9_mark 0 = .ok (.aload_n 0, 1) := by decide +kernel
theorem dX9_mark_1 : decode cX9_mark 1 = .ok (.getfield 124, 3) := by decide +kernel
theorem dX9_mark_4 : decode cX9_mark 4 = .ok (.iconst 3, 1) := by decide +kernel
theorem dX9_mark_5 : decode cX9_mark 5 = .ok (.if_icmp .ne 6, 3) := by decide +kernel
theorem dX9_mark_8 : decode cX9_mark 8 = .ok (.bipush (-107), 2) := by decide +kernel
theorem dX9_mark_10 : decode cX9_mark 10 = .ok (.ireturn, 1) := by decide +kernel
theorem dX9_mark_11 : decode cX9_mark 11 = .ok (.aload_n 0, 1) := by decide +kernel
theorem dX9_mark_12 : decode cX9_mark 12 = .ok (.getfield 124, 3) := by decide +kernel
theorem dX9_mark_15 : decode cX9_mark 15 = .ok (.istore_n 1, 1) := by decide +kernel
theorem dX9_mark_16 : decode cX9_mark 16 = .ok (.iconst 0, 1) := by decide +kernel
theorem dX9_mark_17 : decode cX9_mark 17 = .ok (.istore_n 2, 1) := by decide +kernel
theorem dX9_mark_18 : decode cX9_mark 18 = .ok (.iload_n 2, 1) := by decide +kernel
theorem dX9_mark_19 : decode cX9_mark 19 = .ok (.bipush 100, 2) := by decide +kernel
theorem dX9_mark_21 : decode cX9_mark 21 = .ok (.if_icmp .ge 43, 3) := by decide +kernel
theorem dX9_mark_24 : decode cX9_mark 24 = .ok (.aload_n 0, 1) := by decide +kernel
theorem dX9_mark_25 : decode cX9_mark 25 = .ok (.getfield 78, 3) := by decide +kernel
theorem dX9_mark_28 : decode cX9_mark 28 = .ok (.bipush 100, 2) := by decide +kernel
theorem dX9_mark_30 : decode cX9_mark 30 = .ok (.iload_n 1, 1) := by decide +kernel
theorem dX9_mark_31 : decode cX9_mark 31 = .ok (.imul, 1) := by decide +kernel
theorem dX9_mark_32 : decode cX9_mark 32 = .ok (.iload_n 2, 1) := by decide +kernel
theorem dX9_mark_33 : decode cX9_mark 33 = .ok (.iadd, 1) := by decide +kernel
theorem dX9_mark_34 : decode cX9_mark 34 = .ok (.aload_n 0, 1) := by decide +kernel
theorem dX9_mark_35 : decode cX9_mark 35 = .ok (.getfield 32, 3) := by decide +kernel
theorem dX9_mark_38 : decode cX9_mark 38 = .ok (.iload_n 2, 1) := by decide +kernel
theorem dX9_mark_39 : decode cX9_mark 39 = .ok (.iaload, 1) := by decide +kernel
theorem dX9_mark_40 : decode cX9_mark 40 = .ok (.iastore, 1) := by decide +kernel
theorem dX9_mark_41 : decode cX9_mark 41 = .ok (.aload_n 0, 1) := by decide +kernel
theorem dX9_mark_42 : decode cX9_mark 42 = .ok (.getfield 81, 3) := by decide +kernel
theorem dX9_mark_45 : decode cX9_mark 45 = .ok (.bipush 100, 2) := by decide +kernel
theorem dX9_mark_47 : decode cX9_mark 47 = .ok (.iload_n 1, 1) := by decide +kernel
theorem dX9_mark_48 : decode cX9_mark 48 = .ok (.imul, 1) := by decide +kernel
theorem dX9_mark_49 : decode cX9_mark 49 = .ok (.iload_n 2, 1) := by decide +kernel
theorem dX9_mark_50 : decode cX9_mark 50 = .ok (.iadd, 1) := by decide +kernel
theorem dX9_mark_51 : decode cX9_mark 51 = .ok (.aload_n 0, 1) := by decide +kernel
theorem dX9_mark_52 : decode cX9_mark 52 = .ok (.getfield 35, 3) := by decide +kernel
theorem dX9_mark_55 : decode cX9_mark 55 = .ok (.iload_n 2, 1) := by decide +kernel
theorem dX9_mark_56 : decode cX9_mark 56 = .ok (.laload, 1) := by decide +kernel
theorem dX9_mark_57 : decode cX9_mark 57 = .ok (.lastore, 1) := by decide +kernel
theorem dX9_mark_58 : decode cX9_mark 58 = .ok (.iinc 2 1, 3) := by decide +kernel
theorem dX9_mark_61 : decode cX9_mark 61 = .ok (.goto (-43), 3) := by decide +kernel
theorem dX9_mark_64 : decode cX9_mark 64 = .ok (.iconst 0, 1) := by decide +kernel
theorem dX9_mark_65 : decode cX9_mark 65 = .ok (.istore_n 2, 1) := by decide +kernel
theorem dX9_mark_66 : decode cX9_mark 66 = .ok (.iload_n 2, 1) := by decide +kernel
theorem dX9_mark_67 : decode cX9_mark 67 = .ok (.aload_n 0, 1) := by decide +kernel
theorem dX9_mark_68 : decode cX9_mark 68 = .ok (.getfield 109, 3) := by decide +kernel
theorem dX9_mark_71 : decode cX9_mark 71 = .ok (.if_icmp .ge 63, 3) := by decide +kernel
theorem dX9_mark_74 : decode cX9_mark 74 = .ok (.aload_n 0, 1) := by decide +kernel
theorem dX9_mark_75 : decode cX9_mark 75 = .ok (.getfield 69, 3) := by decide +kernel
theorem dX9_mark_78 : decode cX9_mark 78 = .ok (.sipush 400, 3) := by decide +kernel
theorem dX9_mark_81 : decode cX9_mark 81 = .ok (.iload_n 1, 1) := by decide +kernel
theorem dX9_mark_82 : decode cX9_mark 82 = .ok (.imul, 1) := by decide +kernel
theorem dX9_mark_83 : decode cX9_mark 83 = .ok (.iload_n 2, 1) := by decide +kernel
theorem dX9_mark_84 : decode cX9_mark 84 = .ok (.iadd, 1) := by decide +kernel
theorem dX9_mark_85 : decode cX9_mark 85 = .ok (.aload_n 0, 1) := by decide +kernel
theorem dX9_mark_86 : decode cX9_mark 86 = .ok (.getfield 23, 3) := by decide +kernel
theorem dX9_mark_89 : decode cX9_mark 89 = .ok (.iload_n 2, 1) := by decide +kernel
theorem dX9_mark_90 : decode cX9_mark 90 = .ok (.iaload, 1) := by decide +kernel
theorem dX9_mark_91 : decode cX9_mark 91 = .ok (.iastore, 1) := by decide +kernel
theorem dX9_mark_92 : decode cX9_mark 92 = .ok (.aload_n 0, 1) := by decide +kernel
theorem dX9_mark_93 : decode cX9_mark 93 = .ok (.getfield 72, 3) := by decide +kernel
theorem dX9_mark_96 : decode cX9_mark 96 = .ok (.sipush 400, 3) := by decide +kernel
theorem dX9_mark_99 : decode cX9_mark 99 = .ok (.iload_n 1, 1) := by decide +kernel
theorem dX9_mark_100 : decode cX9_mark 100 = .ok (.imul, 1) := by decide +kernel
theorem dX9_mark_101 : decode cX9_mark 101 = .ok (.iload_n 2, 1) := by decide +kernel
theorem dX9_mark_102 : decode cX9_mark 102 = .ok (.iadd, 1) := by decide +kernel
theorem dX9_mark_103 : decode cX9_mark 103 = .ok (.aload_n 0, 1) := by decide +kernel
theorem dX9_mark_104 : decode cX9_mark 104 = .ok (.getfield 26, 3) := by decide +kernel
theorem dX9_mark_107 : decode cX9_mark 107 = .ok (.iload_n 2, 1) := by decide +kernel
theorem dX9_mark_108 : decode cX9_mark 108 = .ok (.iaload, 1) := by decide +kernel
theorem dX9_mark_109 : decode cX9_mark 109 = .ok (.iastore, 1) := by decide +kernel
theorem dX9_mark_110 : decode cX9_mark 110 = .ok (.aload_n 0, 1) := by decide +kernel
theorem dX9_mark_111 : decode cX9_mark 111 = .ok (.getfield 75, 3) := by decide +kernel
theorem dX9_mark_114 : decode cX9_mark 114 = .ok (.sipush 400, 3) := by decide +kernel
theorem dX9_mark_117 : decode cX9_mark 117 = .ok (.iload_n 1, 1) := by decide +kernel
theorem dX9_mark_118 : decode cX9_mark 118 = .ok (.imul, 1) := by decide +kernel
theorem dX9_mark_119 : decode cX9_mark 119 = .ok (.iload_n 2, 1) := by decide +kernel
theorem dX9_mark_120 : decode cX9_mark 120 = .ok (.iadd, 1) := by decide +kernel
theorem dX9_mark_121 : decode cX9_mark 121 = .ok (.aload_n 0, 1) := by decide +kernel
theorem dX9_mark_122 : decode cX9_mark 122 = .ok (.getfield 29, 3) := by decide +kernel
theorem dX9_mark_125 : decode cX9_mark 125 = .ok (.iload_n 2, 1) := by decide +kernel
theorem dX9_mark_126 : decode cX9_mark 126 = .ok (.baload, 1) := by decide +kernel
theorem dX9_mark_127 : decode cX9_mark 127 = .ok (.bastore, 1) := by decide +kernel
theorem dX9_mark_128 : decode cX9_mark 128 = .ok (.iinc 2 1, 3) := by decide +kernel
theorem dX9_mark_131 : decode cX9_mark 131 = .ok (.goto (-65), 3) := by decide +kernel
theorem dX9_mark_134 : decode cX9_mark 134 = .ok (.iconst 0, 1) := by decide +kernel
theorem dX9_mark_135 : decode cX9_mark 135 = .ok (.istore_n 2, 1) := by decide +kernel
theorem dX9_mark_136 : decode cX9_mark 136 = .ok (.iload_n 2, 1) := by decide +kernel
theorem dX9_mark_137 : decode cX9_mark 137 = .ok (.aload_n 0, 1) := by decide +kernel
theorem dX9_mark_138 : decode cX9_mark 138 = .ok (.getfield 118, 3) := by decide +kernel
theorem dX9_mark_141 : decode cX9_mark 141 = .ok (.if_icmp .ge 43, 3) := by decide +kernel
theorem dX9_mark_144 : decode cX9_mark 144 = .ok (.aload_n 0, 1) := by decide +kernel
theorem dX9_mark_145 : decode cX9_mark 145 = .ok (.getfield 90, 3) := by decide +kernel
theorem dX9_mark_148 : decode cX9_mark 148 = .ok (.bipush 40, 2) := by decide +kernel
theorem dX9_mark_150 : decode cX9_mark 150 = .ok (.iload_n 1, 1) := by decide +kernel
theorem dX9_mark_151 : decode cX9_mark 151 = .ok (.imul, 1) := by decide +kernel
theorem dX9_mark_152 : decode cX9_mark 152 = .ok (.iload_n 2, 1) := by decide +kernel
theorem dX9_mark_153 : decode cX9_mark 153 = .ok (.iadd, 1) := by decide +kernel
theorem dX9_mark_154 : decode cX9_mark 154 = .ok (.aload_n 0, 1) := by decide +kernel
theorem dX9_mark_155 : decode cX9_mark 155 = .ok (.getfield 48, 3) := by decide +kernel
theorem dX9_mark_158 : decode cX9_mark 158 = .ok (.iload_n 2, 1) := by decide +kernel
theorem dX9_mark_159 : decode cX9_mark 159 = .ok (.iaload, 1) := by decide +kernel
theorem dX9_mark_160 : decode cX9_mark 160 = .ok (.iastore, 1) := by decide +kernel
theorem dX9_mark_161 : decode cX9_mark 161 = .ok (.aload_n 0, 1) := by decide +kernel
theorem dX9_mark_162 : decode cX9_mark 162 = .ok (.getfield 93, 3) := by decide +kernel
theorem dX9_mark_165 : decode cX9_mark 165 = .ok (.bipush 40, 2) := by decide +kernel
theorem dX9_mark_167 : decode cX9_mark 167 = .ok (.iload_n 1, 1) := by decide +kernel
theorem dX9_mark_168 : decode cX9_mark 168 = .ok (.imul, 1) := by decide +kernel
theorem dX9_mark_169 : decode cX9_mark 169 = .ok (.iload_n 2, 1) := by decide +kernel
theorem dX9_mark_170 : decode cX9_mark 170 = .ok (.iadd, 1) := by decide +kernel
theorem dX9_mark_171 : decode cX9_mark 171 = .ok (.aload_n 0, 1) := by decide +kernel
theorem dX9_mark_172 : decode cX9_mark 172 = .ok (.getfield 51, 3) := by decide +kernel
theorem dX9_mark_175 : decode cX9_mark 175 = .ok (.iload_n 2, 1) := by decide +kernel
theorem dX9_mark_176 : decode cX9_mark 176 = .ok (.iaload, 1) := by decide +kernel
theorem dX9_mark_177 : decode cX9_mark 177 = .ok (.iastore, 1) := by decide +kernel
theorem dX9_mark_178 : decode cX9_mark 178 = .ok (.iinc 2 1, 3) := by decide +kernel
theorem dX9_mark_181 : decode cX9_mark 181 = .ok (.goto (-45), 3) := by decide +kernel
theorem dX9_mark_184 : decode cX9_mark 184 = .ok (.aload_n 0, 1) := by decide +kernel
theorem dX9_mark_185 : decode cX9_mark 185 = .ok (.getfield 66, 3) := by decide +kernel
theorem dX9_mark_188 : decode cX9_mark 188 = .ok (.iload_n 1, 1) := by decide +kernel
theorem dX9_mark_189 : decode cX9_mark 189 = .ok (.aload_n 0, 1) := by decide +kernel
theorem dX9_mark_190 : decode cX9_mark 190 = .ok (.getfield 109, 3) := by decide +kernel
theorem dX9_mark_193 : decode cX9_mark 193 = .ok (.iastore, 1) := by decide +kernel
theorem dX9_mark_194 : decode cX9_mark 194 = .ok (.aload_n 0, 1) := by decide +kernel
theorem dX9_mark_195 : decode cX9_mark 195 = .ok (.getfield 87, 3) := by decide +kernel
theorem dX9_mark_198 : decode cX9_mark 198 = .ok (.iload_n 1, 1) := by decide +kernel
theorem dX9_mark_199 : decode cX9_mark 199 = .ok (.aload_n 0, 1) := by decide +kernel
theorem dX9_mark_200 : decode cX9_mark 200 = .ok (.getfield 118, 3) := by decide +kernel
theorem dX9_mark_203 : decode cX9_mark 203 = .ok (.iastore, 1) := by decide +kernel
theorem dX9_mark_204 : decode cX9_mark 204 = .ok (.aload_n 0, 1) := by decide +kernel
theorem dX9_mark_205 : decode cX9_mark 205 = .ok (.getfield 84, 3) := by decide +kernel
theorem dX9_mark_208 : decode cX9_mark 208 = .ok (.iload_n 1, 1) := by decide +kernel
theorem dX9_mark_209 : decode cX9_mark 209 = .ok (.aload_n 0, 1) := by decide +kernel
theorem dX9_mark_210 : decode cX9_mark 210 = .ok (.getfield 115, 3) := by decide +kernel
theorem dX9_mark_213 : decode cX9_mark 213 = .ok (.iastore, 1) := by decide +kernel
theorem dX9_mark_214 : decode cX9_mark 214 = .ok (.aload_n 0, 1) := by decide +kernel
theorem dX9_mark_215 : decode cX9_mark 215 = .ok (.dup, 1) := by decide +kernel
theorem dX9_mark_216 : decode cX9_mark 216 = .ok (.getfield 124, 3) := by decide +kernel
theorem dX9_mark_219 : decode cX9_mark 219 = .ok (.iconst 1, 1) := by decide +kernel
theorem dX9_mark_220 : decode cX9_mark 220 = .ok (.iadd, 1) := by decide +kernel
theorem dX9_mark_221 : decode cX9_mark 221 = .ok (.putfield 124, 3) := by decide +kernel
theorem dX9_mark_224 : decode cX9_mark 224 = .ok (.iload_n 1, 1) := by decide +kernel
theorem dX9_mark_225 : decode cX9_mark 225 = .ok (.ireturn, 1) := by decide +kernel
theorem dX9_restore_0 : decode cX9_restore 0 = .ok (.iload_n 1, 1) := by decide +kernel
theorem dX9_restore_1 : decode cX9_restore 1 = .ok (.i2l, 1) := by decide +kernel
theorem dX9_restore_2 : decode cX9_restore 2 = .ok (.lconst 0, 1) := by decide +kernel
theorem dX9_restore_3 : decode cX9_restore 3 = .ok (.aload_n 0, 1) := by decide +kernel
theorem dX9_restore_4 : decode cX9_restore 4 = .ok (.getfield 124, 3) := by decide +kernel
theorem dX9_restore_7 : decode cX9_restore 7 = .ok (.iconst 1, 1) := by decide +kernel
theorem dX9_restore_8 : decode cX9_restore 8 = .ok (.isub, 1) := by decide +kernel
theorem dX9_restore_9 : decode cX9_restore 9 = .ok (.i2l, 1) := by decide +kernel
theorem dX9_restore_10 : decode cX9_restore 10 = .ok (.invokestatic 147, 3) := by decide +kernel
theorem dX9_restore_13 : decode cX9_restore 13 = .ok (.ifCond .ne 6, 3) := by decide +kernel
theorem dX9_restore_16 : decode cX9_restore 16 = .ok (.bipush (-101), 2) := by decide +kernel
theorem dX9_restore_18 : decode cX9_restore 18 = .ok (.ireturn, 1) := by decide +kernel
theorem dX9_restore_19 : decode cX9_restore 19 = .ok (.iload_n 2, 1) := by decide +kernel
theorem dX9_restore_20 : decode cX9_restore 20 = .ok (.iconst 1, 1) := by decide +kernel
theorem dX9_restore_21 : decode cX9_restore 21 = .ok (.if_icmp .ge 6, 3) := by decide +kernel
theorem dX9_restore_24 : decode cX9_restore 24 = .ok (.bipush (-102), 2) := by decide +kernel
theorem dX9_restore_26 : decode cX9_restore 26 = .ok (.ireturn, 1) := by decide +kernel
theorem dX9_restore_27 : decode cX9_restore 27 = .ok (.iload_n 2, 1) := by decide +kernel
theorem dX9_restore_28 : decode cX9_restore 28 = .ok (.aload_n 0, 1) := by decide +kernel
theorem dX9_restore_29 : decode cX9_restore 29 = .ok (.getfield 137, 3) := by decide +kernel
theorem dX9_restore_32 : decode cX9_restore 32 = .ok (.if_icmp .le 6, 3) := by decide +kernel
theorem dX9_restore_35 : decode cX9_restore 35 = .ok (.bipush (-105), 2) := by decide +kernel
theorem dX9_restore_37 : decode cX9_restore 37 = .ok (.ireturn, 1) := by decide +kernel
theorem dX9_restore_38 : decode cX9_restore 38 = .ok (.iconst 0, 1) := by decide +kernel
theorem dX9_restore_39 : decode cX9_restore 39 = .ok (.istore_n 3, 1) := by decide +kernel
theorem dX9_restore_40 : decode cX9_restore 40 = .ok (.iload_n 3, 1) := by decide +kernel
theorem dX9_restore_41 : decode cX9_restore 41 = .ok (.bipush 100, 2) := by decide +kernel
theorem dX9_restore_43 : decode cX9_restore 43 = .ok (.if_icmp .ge 43, 3) := by decide +kernel
theorem dX9_restore_46 : decode cX9_restore 46 = .ok (.aload_n 0, 1) := by decide +kernel
theorem dX9_restore_47 : decode cX9_restore 47 = .ok (.getfield 32, 3) := by decide +kernel
theorem dX9_restore_50 : decode cX9_restore 50 = .ok (.iload_n 3, 1) := by decide +kernel
theorem dX9_restore_51 : decode cX9_restore 51 = .ok (.aload_n 0, 1) := by decide +kernel
theorem dX9_restore_52 : decode cX9_restore 52 = .ok (.getfield 78, 3) := by decide +kernel
theorem dX9_restore_55 : decode cX9_restore 55 = .ok (.bipush 100, 2) := by decide +kernel
theorem dX9_restore_57 : decode cX9_restore 57 = .ok (.iload_n 1, 1) := by decide +kernel
theorem dX9_restore_58 : decode cX9_restore 58 = .ok (.imul, 1) := by decide +kernel
theorem dX9_restore_59 : decode cX9_restore 59 = .ok (.iload_n 3, 1) := by decide +kernel
theorem dX9_restore_60 : decode cX9_restore 60 = .ok (.iadd, 1) := by decide +kernel
theorem dX9_restore_61 : decode cX9_restore 61 = .ok (.iaload, 1) := by decide +kernel
theorem dX9_restore_62 : decode cX9_restore 62 = .ok (.iastore, 1) := by decide +kernel
theorem dX9_restore_63 : decode cX9_restore 63 = .ok (.aload_n 0, 1) := by decide +kernel
theorem dX9_restore_64 : decode cX9_restore 64 = .ok (.getfield 35, 3) := by decide +kernel
theorem dX9_restore_67 : decode cX9_restore 67 = .ok (.iload_n 3, 1) := by decide +kernel
theorem dX9_restore_68 : decode cX9_restore 68 = .ok (.aload_n 0, 1) := by decide +kernel
theorem dX9_restore_69 : decode cX9_restore 69 = .ok (.getfield 81, 3) := by decide +kernel
theorem dX9_restore_72 : decode cX9_restore 72 = .ok (.bipush 100, 2) := by decide +kernel
theorem dX9_restore_74 : decode cX9_restore 74 = .ok (.iload_n 1, 1) := by decide +kernel
theorem dX9_restore_75 : decode cX9_restore 75 = .ok (.imul, 1) := by decide +kernel
theorem dX9_restore_76 : decode cX9_restore 76 = .ok (.iload_n 3, 1) := by decide +kernel
theorem dX9_restore_77 : decode cX9_restore 77 = .ok (.iadd, 1) := by decide +kernel
theorem dX9_restore_78 : decode cX9_restore 78 = .ok (.laload, 1) := by decide +kernel
theorem dX9_restore_79 : decode cX9_restore 79 = .ok (.lastore, 1) := by decide +kernel
theorem dX9_restore_80 : decode cX9_restore 80 = .ok (.iinc 3 1, 3) := by decide +kernel
theorem dX9_restore_83 : decode cX9_restore 83 = .ok (.goto (-43), 3) := by decide +kernel
theorem dX9_restore_86 : decode cX9_restore 86 = .ok (.aload_n 0, 1) := by decide +kernel
theorem dX9_restore_87 : decode cX9_restore 87 = .ok (.aload_n 0, 1) := by decide +kernel
theorem dX9_restore_88 : decode cX9_restore 88 = .ok (.getfield 66, 3) := by decide +kernel
theorem dX9_restore_91 : decode cX9_restore 91 = .ok (.iload_n 1, 1) := by decide +kernel
theorem dX9_restore_92 : decode cX9_restore 92 = .ok (.iaload, 1) := by decide +kernel
theorem dX9_restore_93 : decode cX9_restore 93 = .ok (.putfield 109, 3) := by decide +kernel
theorem dX9_restore_96 : decode cX9_restore 96 = .ok (.iconst 0, 1) := by decide +kernel
theorem dX9_restore_97 : decode cX9_restore 97 = .ok (.istore_n 3, 1) := by decide +kernel
theorem dX9_restore_98 : decode cX9_restore 98 = .ok (.iload_n 3, 1) := by decide +kernel
theorem dX9_restore_99 : decode cX9_restore 99 = .ok (.aload_n 0, 1) := by decide +kernel
theorem dX9_restore_100 : decode cX9_restore 100 = .ok (.getfield 109, 3) := by decide +kernel
theorem dX9_restore_103 : decode cX9_restore 103 = .ok (.if_icmp .ge 63, 3) := by decide +kernel
theorem dX9_restore_106 : decode cX9_restore 106 = .ok (.aload_n 0, 1) := by decide +kernel
theorem dX9_restore_107 : decode cX9_restore 107 = .ok (.getfield 23, 3) := by decide +kernel
theorem dX9_restore_110 : decode cX9_restore 110 = .ok (.iload_n 3, 1) := by decide +kernel
theorem dX9_restore_111 : decode cX9_restore 111 = .ok (.aload_n 0, 1) := by decide +kernel
theorem dX9_restore_112 : decode cX9_restore 112 = .ok (.getfield 69, 3) := by decide +kernel
theorem dX9_restore_115 : decode cX9_restore 115 = .ok (.sipush 400, 3) := by decide +kernel
theorem dX9_restore_118 : decode cX9_restore 118 = .ok (.iload_n 1, 1) := by decide +kernel
theorem dX9_restore_119 : decode cX9_restore 119 = .ok (.imul, 1) := by decide +kernel
theorem dX9_restore_120 : decode cX9_restore 120 = .ok (.iload_n 3, 1) := by decide +kernel
theorem dX9_restore_121 : decode cX9_restore 121 = .ok (.iadd, 1) := by decide +kernel
theorem dX9_restore_122 : decode cX9_restore 122 = .ok (.iaload, 1) := by decide +kernel
theorem dX9_restore_123 : decode cX9_restore 123 = .ok (.iastore, 1) := by decide +kernel
theorem dX9_restore_124 : decode cX9_restore 124 = .ok (.aload_n 0, 1) := by decide +kernel
theorem dX9_restore_125 : decode cX9_restore 125 = .ok (.getfield 26, 3) := by decide +kernel
theorem dX9_restore_128 : decode cX9_restore 128 = .ok (.iload_n 3, 1) := by decide +kernel
theorem dX9_restore_129 : decode cX9_restore 129 = .ok (.aload_n 0, 1) := by decide +kernel
theorem dX9_restore_130 : decode cX9_restore 130 = .ok (.getfield 72, 3) := by decide +kernel
theorem dX9_restore_133 : decode cX9_restore 133 = .ok (.sipush 400, 3) := by decide +kernel
theorem dX9_restore_136 : decode cX9_restore 136 = .ok (.iload_n 1, 1) := by decide +kernel
theorem dX9_restore_137 : decode cX9_restore 137 = .ok (.imul, 1) := by decide +kernel
theorem dX9_restore_138 : decode cX9_restore 138 = .ok (.iload_n 3, 1) := by decide +kernel
theorem dX9_restore_139 : decode cX9_restore 139 = .ok (.iadd, 1) := by decide +kernel
theorem dX9_restore_140 : decode cX9_restore 140 = .ok (.iaload, 1) := by decide +kernel
theorem dX9_restore_141 : decode cX9_restore 141 = .ok (.iastore, 1) := by decide +kernel
theorem dX9_restore_142 : decode cX9_restore 142 = .ok (.aload_n 0, 1) := by decide +kernel
theorem dX9_restore_143 : decode cX9_restore 143 = .ok (.getfield 29, 3) := by decide +kernel
theorem dX9_restore_146 : decode cX9_restore 146 = .ok (.iload_n 3, 1) := by decide +kernel
theorem dX9_restore_147 : decode cX9_restore 147 = .ok (.aload_n 0, 1) := by decide +kernel
theorem dX9_restore_148 : decode cX9_restore 148 = .ok (.getfield 75, 3) := by decide +kernel
theorem dX9_restore_151 : decode cX9_restore 151 = .ok (.sipush 400, 3) := by decide +kernel
theorem dX9_restore_154 : decode cX9_restore 154 = .ok (.iload_n 1, 1) := by decide +kernel
theorem dX9_restore_155 : decode cX9_restore 155 = .ok (.imul, 1) := by decide +kernel
theorem dX9_restore_156 : decode cX9_restore 156 = .ok (.iload_n 3, 1) := by decide +kernel
theorem dX9_restore_157 : decode cX9_restore 157 = .ok (.iadd, 1) := by decide +kernel
theorem dX9_restore_158 : decode cX9_restore 158 = .ok (.baload, 1) := by decide +kernel
theorem dX9_restore_159 : decode cX9_restore 159 = .ok (.bastore, 1) := by decide +kernel
theorem dX9_restore_160 : decode cX9_restore 160 = .ok (.iinc 3 1, 3) := by decide +kernel
theorem dX9_restore_163 : decode cX9_restore 163 = .ok (.goto (-65), 3) := by decide +kernel
theorem dX9_restore_166 : decode cX9_restore 166 = .ok (.aload_n 0, 1) := by decide +kernel
theorem dX9_restore_167 : decode cX9_restore 167 = .ok (.aload_n 0, 1) := by decide +kernel
theorem dX9_restore_168 : decode cX9_restore 168 = .ok (.getfield 87, 3) := by decide +kernel
theorem dX9_restore_171 : decode cX9_restore 171 = .ok (.iload_n 1, 1) := by decide +kernel
theorem dX9_restore_172 : decode cX9_restore 172 = .ok (.iaload, 1) := by decide +kernel
theorem dX9_restore_173 : decode cX9_restore 173 = .ok (.putfield 118, 3) := by decide +kernel
theorem dX9_restore_176 : decode cX9_restore 176 = .ok (.iconst 0, 1) := by decide +kernel
theorem dX9_restore_177 : decode cX9_restore 177 = .ok (.istore_n 3, 1) := by decide +kernel
theorem dX9_restore_178 : decode cX9_restore 178 = .ok (.iload_n 3, 1) := by decide +kernel
theorem dX9_restore_179 : decode cX9_restore 179 = .ok (.aload_n 0, 1) := by decide +kernel
theorem dX9_restore_180 : decode cX9_restore 180 = .ok (.getfield 118, 3) := by decide +kernel
theorem dX9_restore_183 : decode cX9_restore 183 = .ok (.if_icmp .ge 43, 3) := by decide +kernel
theorem dX9_restore_186 : decode cX9_restore 186 = .ok (.aload_n 0, 1) := by decide +kernel
theorem dX9_restore_187 : decode cX9_restore 187 = .ok (.getfield 48, 3) := by decide +kernel
theorem dX9_restore_190 : decode cX9_restore 190 = .ok (.iload_n 3, 1) := by decide +kernel
theorem dX9_restore_191 : decode cX9_restore 191 = .ok (.aload_n 0, 1) := by decide +kernel
theorem dX9_restore_192 : decode cX9_restore 192 = .ok (.getfield 90, 3) := by decide +kernel
theorem dX9_restore_195 : decode cX9_restore 195 = .ok (.bipush 40, 2) := by decide +kernel
theorem dX9_restore_197 : decode cX9_restore 197 = .ok (.iload_n 1, 1) := by decide +kernel
theorem dX9_restore_198 : decode cX9_restore 198 = .ok (.imul, 1) := by decide +kernel
theorem dX9_restore_199 : decode cX9_restore 199 = .ok (.iload_n 3, 1) := by decide +kernel
theorem dX9_restore_200 : decode cX9_restore 200 = .ok (.iadd, 1) := by decide +kernel
theorem dX9_restore_201 : decode cX9_restore 201 = .ok (.iaload, 1) := by decide +kernel
theorem dX9_restore_202 : decode cX9_restore 202 = .ok (.iastore, 1) := by decide +kernel
theorem dX9_restore_203 : decode cX9_restore 203 = .ok (.aload_n 0, 1) := by decide +kernel
theorem dX9_restore_204 : decode cX9_restore 204 = .ok (.getfield 51, 3) := by decide +kernel
theorem dX9_restore_207 : decode cX9_restore 207 = .ok (.iload_n 3, 1) := by decide +kernel
theorem dX9_restore_208 : decode cX9_restore 208 = .ok (.aload_n 0, 1) := by decide +kernel
theorem dX9_restore_209 : decode cX9_restore 209 = .ok (.getfield 93, 3) := by decide +kernel
theorem dX9_restore_212 : decode cX9_restore 212 = .ok (.bipush 40, 2) := by decide +kernel
theorem dX9_restore_214 : decode cX9_restore 214 = .ok (.iload_n 1, 1) := by decide +kernel
theorem dX9_restore_215 : decode cX9_restore 215 = .ok (.imul, 1) := by decide +kernel
theorem dX9_restore_216 : decode cX9_restore 216 = .ok (.iload_n 3, 1) := by decide +kernel
theorem dX9_restore_217 : decode cX9_restore 217 = .ok (.iadd, 1) := by decide +kernel
theorem dX9_restore_218 : decode cX9_restore 218 = .ok (.iaload, 1) := by decide +kernel
theorem dX9_restore_219 : decode cX9_restore 219 = .ok (.iastore, 1) := by decide +kernel
theorem dX9_restore_220 : decode cX9_restore 220 = .ok (.iinc 3 1, 3) := by decide +kernel
theorem dX9_restore_223 : decode cX9_restore 223 = .ok (.goto (-45), 3) := by decide +kernel
theorem dX9_restore_226 : decode cX9_restore 226 = .ok (.aload_n 0, 1) := by decide +kernel
theorem dX9_restore_227 : decode cX9_restore 227 = .ok (.aload_n 0, 1) := by decide +kernel
theorem dX9_restore_228 : decode cX9_restore 228 = .ok (.getfield 84, 3) := by decide +kernel
theorem dX9_restore_231 : decode cX9_restore 231 = .ok (.iload_n 1, 1) := by decide +kernel
theorem dX9_restore_232 : decode cX9_restore 232 = .ok (.iaload, 1) := by decide +kernel
theorem dX9_restore_233 : decode cX9_restore 233 = .ok (.putfield 115, 3) := by decide +kernel
theorem dX9_restore_236 : decode cX9_restore 236 = .ok (.aload_n 0, 1) := by decide +kernel
theorem dX9_restore_237 : decode cX9_restore 237 = .ok (.iload_n 2, 1) := by decide +kernel
theorem dX9_restore_238 : decode cX9_restore 238 = .ok (.invokevirtual 192, 3) := by decide +kernel
theorem dX9_restore_241 : decode cX9_restore 241 = .ok (.iconst 0, 1) := by decide +kernel
theorem dX9_restore_242 : decode cX9_restore 242 = .ok (.istore_n 3, 1) := by decide +kernel
theorem dX9_restore_243 : decode cX9_restore 243 = .ok (.iload_n 3, 1) := by decide +kernel
theorem dX9_restore_244 : decode cX9_restore 244 = .ok (.aload_n 0, 1) := by decide +kernel
theorem dX9_restore_245 : decode cX9_restore 245 = .ok (.getfield 134, 3) := by decide +kernel
theorem dX9_restore_248 : decode cX9_restore 248 = .ok (.if_icmp .ge 38, 3) := by decide +kernel
theorem dX9_restore_251 : decode cX9_restore 251 = .ok (.aload_n 0, 1) := by decide +kernel
theorem dX9_restore_252 : decode cX9_restore 252 = .ok (.getfield 7, 3) := by decide +kernel
theorem dX9_restore_255 : decode cX9_restore 255 = .ok (.iload_n 3, 1) := by decide +kernel
theorem dX9_restore_256 : decode cX9_restore 256 = .ok (.aload_n 0, 1) := by decide +kernel
theorem dX9_restore_257 : decode cX9_restore 257 = .ok (.getfield 96, 3) := by decide +kernel
theorem dX9_restore_260 : decode cX9_restore 260 = .ok (.iload_n 3, 1) := by decide +kernel
theorem dX9_restore_261 : decode cX9_restore 261 = .ok (.iaload, 1) := by decide +kernel
theorem dX9_restore_262 : decode cX9_restore 262 = .ok (.iastore, 1) := by decide +kernel
theorem dX9_restore_263 : decode cX9_restore 263 = .ok (.aload_n 0, 1) := by decide +kernel
theorem dX9_restore_264 : decode cX9_restore 264 = .ok (.getfield 13, 3) := by decide +kernel
theorem dX9_restore_267 : decode cX9_restore 267 = .ok (.iload_n 3, 1) := by decide +kernel
theorem dX9_restore_268 : decode cX9_restore 268 = .ok (.dup2, 1) := by decide +kernel
theorem dX9_restore_269 : decode cX9_restore 269 = .ok (.iaload, 1) := by decide +kernel
theorem dX9_restore_270 : decode cX9_restore 270 = .ok (.iconst 1, 1) := by decide +kernel
theorem dX9_restore_271 : decode cX9_restore 271 = .ok (.iadd, 1) := by decide +kernel
theorem dX9_restore_272 : decode cX9_restore 272 = .ok (.iastore, 1) := by decide +kernel
theorem dX9_restore_273 : decode cX9_restore 273 = .ok (.aload_n 0, 1) := by decide +kernel
theorem dX9_restore_274 : decode cX9_restore 274 = .ok (.getfield 16, 3) := by decide +kernel
theorem dX9_restore_277 : decode cX9_restore 277 = .ok (.iload_n 3, 1) := by decide +kernel
theorem dX9_restore_278 : decode cX9_restore 278 = .ok (.iconst 0, 1) := by decide +kernel
theorem dX9_restore_279 : decode cX9_restore 279 = .ok (.iastore, 1) := by decide +kernel
theorem dX9_restore_280 : decode cX9_restore 280 = .ok (.iinc 3 1, 3) := by decide +kernel
theorem dX9_restore_283 : decode cX9_restore 283 = .ok (.goto (-40), 3) := by decide +kernel
theorem dX9_restore_286 : decode cX9_restore 286 = .ok (.aload_n 0, 1) := by decide +kernel
theorem dX9_restore_287 : decode cX9_restore 287 = .ok (.iload_n 2, 1) := by decide +kernel
theorem dX9_restore_288 : decode cX9_restore 288 = .ok (.putfield 140, 3) := by decide +kernel
theorem dX9_restore_291 : decode cX9_restore 291 = .ok (.aload_n 0, 1) := by decide +kernel
theorem dX9_restore_292 : decode cX9_restore 292 = .ok (.iconst 0, 1) := by decide +kernel
theorem dX9_restore_293 : decode cX9_restore 293 = .ok (.putfield 112, 3) := by decide +kernel
theorem dX9_restore_296 : decode cX9_restore 296 = .ok (.aload_n 0, 1) := by decide +kernel
theorem dX9_restore_297 : decode cX9_restore 297 = .ok (.iconst 0, 1) := by decide +kernel
theorem dX9_restore_298 : decode cX9_restore 298 = .ok (.putfield 121, 3) := by decide +kernel
theorem dX9_restore_301 : decode cX9_restore 301 = .ok (.aload_n 0, 1) := by decide +kernel
theorem dX9_restore_302 : decode cX9_restore 302 = .ok (.invokevirtual 224, 3) := by decide +kernel
theorem dX9_restore_305 : decode cX9_restore 305 = .ok (.ireturn, 1) := by decide +kernel
theorem dX9_waiting_0 : decode cX9_waiting 0 = .ok (.iconst 0, 1) := by decide +kernel
theorem dX9_waiting_1 : decode cX9_waiting 1 = .ok (.istore_n 1, 1) := by decide +kernel
theorem dX9_waiting_2 : decode cX9_waiting 2 = .ok (.iconst 0, 1) := by decide +kernel
theorem dX9_waiting_3 : decode cX9_waiting 3 = .ok (.istore_n 2, 1) := by decide +kernel
theorem dX9_waiting_4 : decode cX9_waiting 4 = .ok (.iload_n 2, 1) := by decide +kernel
theorem dX9_waiting_5 : decode cX9_waiting 5 = .ok (.aload_n 0, 1) := by decide +kernel
theorem dX9_waiting_6 : decode cX9_waiting 6 = .ok (.getfield 109, 3) := by decide +kernel
theorem dX9_waiting_9 : decode cX9_waiting 9 = .ok (.if_icmp .ge 26, 3) := by decide +kernel
theorem dX9_waiting_12 : decode cX9_waiting 12 = .ok (.iload_n 1, 1) := by decide +kernel
theorem dX9_waiting_13 : decode cX9_waiting 13 = .ok (.aload_n 0, 1) := by decide +kernel
theorem dX9_waiting_14 : decode cX9_waiting 14 = .ok (.getfield 29, 3) := by decide +kernel
theorem dX9_waiting_17 : decode cX9_waiting 17 = .ok (.iload_n 2, 1) := by decide +kernel
theorem dX9_waiting_18 : decode cX9_waiting 18 = .ok (.baload, 1) := by decide +kernel
theorem dX9_waiting_19 : decode cX9_waiting 19 = .ok (.ifCond .eq 7, 3) := by decide +kernel
theorem dX9_waiting_22 : decode cX9_waiting 22 = .ok (.iconst 1, 1) := by decide +kernel
theorem dX9_waiting_23 : decode cX9_waiting 23 = .ok (.goto 4, 3) := by decide +kernel
theorem dX9_waiting_26 : decode cX9_waiting 26 = .ok (.iconst 0, 1) := by decide +kernel
theorem dX9_waiting_27 : decode cX9_waiting 27 = .ok (.iadd, 1) := by decide +kernel
theorem dX9_waiting_28 : decode cX9_waiting 28 = .ok (.istore_n 1, 1) := by decide +kernel
theorem dX9_waiting_29 : decode cX9_waiting 29 = .ok (.iinc 2 1, 3) := by decide +kernel
theorem dX9_waiting_32 : decode cX9_waiting 32 = .ok (.goto (-28), 3) := by decide +kernel
theorem dX9_waiting_35 : decode cX9_waiting 35 = .ok (.iload_n 1, 1) := by decide +kernel
theorem dX9_waiting_36 : decode cX9_waiting 36 = .ok (.ireturn, 1) := by decide +kernel
theorem dX9_digest_0 : decode cX9_digest 0 = .ok (.bipush 17, 2) := by decide +kernel
theorem dX9_digest_2 : decode cX9_digest 2 = .ok (.istore_n 1, 1) := by decide +kernel
theorem dX9_digest_3 : decode cX9_digest 3 = .ok (.iconst 0, 1) := by decide +kernel
theorem dX9_digest_4 : decode cX9_digest 4 = .ok (.istore_n 2, 1) := by decide +kernel
theorem dX9_digest_5 : decode cX9_digest 5 = .ok (.iload_n 2, 1) := by decide +kernel
theorem dX9_digest_6 : decode cX9_digest 6 = .ok (.aload_n 0, 1) := by decide +kernel
theorem dX9_digest_7 : decode cX9_digest 7 = .ok (.getfield 134, 3) := by decide +kernel
theorem dX9_digest_10 : decode cX9_digest 10 = .ok (.if_icmp .ge 31, 3) := by decide +kernel
theorem dX9_digest_13 : decode cX9_digest 13 = .ok (.bipush 31, 2) := by decide +kernel
theorem dX9_digest_15 : decode cX9_digest 15 = .ok (.iload_n 1, 1) := by decide +kernel
theorem dX9_digest_16 : decode cX9_digest 16 = .ok (.imul, 1) := by decide +kernel
theorem dX9_digest_17 : decode cX9_digest 17 = .ok (.bipush 100, 2) := by decide +kernel
theorem dX9_digest_19 : decode cX9_digest 19 = .ok (.aload_n 0, 1) := by decide +kernel
theorem dX9_digest_20 : decode cX9_digest 20 = .ok (.getfield 7, 3) := by decide +kernel
theorem dX9_digest_23 : decode cX9_digest 23 = .ok (.iload_n 2, 1) := by decide +kernel
theorem dX9_digest_24 : decode cX9_digest 24 = .ok (.iaload, 1) := by decide +kernel
theorem dX9_digest_25 : decode cX9_digest 25 = .ok (.imul, 1) := by decide +kernel
theorem dX9_digest_26 : decode cX9_digest 26 = .ok (.iadd, 1) := by decide +kernel
theorem dX9_digest_27 : decode cX9_digest 27 = .ok (.aload_n 0, 1) := by decide +kernel
theorem dX9_digest_28 : decode cX9_digest 28 = .ok (.getfield 13, 3) := by decide +kernel
theorem dX9_digest_31 : decode cX9_digest 31 = .ok (.iload_n 2, 1) := by decide +kernel
theorem dX9_digest_32 : decode cX9_digest 32 = .ok (.iaload, 1) := by decide +kernel
theorem dX9_digest_33 : decode cX9_digest 33 = .ok (.iadd, 1) := by decide +kernel
theorem dX9_digest_34 : decode cX9_digest 34 = .ok (.istore_n 1, 1) := by decide +kernel
theorem dX9_digest_35 : decode cX9_digest 35 = .ok (.iinc 2 1, 3) := by decide +kernel
theorem dX9_digest_38 : decode cX9_digest 38 = .ok (.goto (-33), 3) := by decide +kernel
theorem dX9_digest_41 : decode cX9_digest 41 = .ok (.iload_n 1, 1) := by decide +kernel
theorem dX9_digest_42 : decode cX9_digest 42 = .ok (.ireturn, 1) := by decide +kernel
theorem dX9_told_0 : decode cX9_told 0 = .ok (.iload_n 1, 1) := by decide +kernel
theorem dX9_told_1 : decode cX9_told 1 = .ok (.tableswitch 123 0 11 #[63, 68, 73, 78, 83, 88, 93, 98, 103, 108, 113, 118], 63) := by decide +kernel
theorem dX9_told_64 : decode cX9_told 64 = .ok (.aload_n 0, 1) := by decide +kernel
theorem dX9_told_65 : decode cX9_told 65 = .ok (.getfield 134, 3) := by decide +kernel
theorem dX9_told_68 : decode cX9_told 68 = .ok (.ireturn, 1) := by decide +kernel
theorem dX9_told_69 : decode cX9_told 69 = .ok (.aload_n 0, 1) := by decide +kernel
theorem dX9_told_70 : decode cX9_told 70 = .ok (.getfield 137, 3) := by decide +kernel
theorem dX9_told_73 : decode cX9_told 73 = .ok (.ireturn, 1) := by decide +kernel
theorem dX9_told_74 : decode cX9_told 74 = .ok (.aload_n 0, 1) := by decide +kernel
theorem dX9_told_75 : decode cX9_told 75 = .ok (.getfield 140, 3) := by decide +kernel
theorem dX9_told_78 : decode cX9_told 78 = .ok (.ireturn, 1) := by decide +kernel
theorem dX9_told_79 : decode cX9_told 79 = .ok (.aload_n 0, 1) := by decide +kernel
theorem dX9_told_80 : decode cX9_told 80 = .ok (.getfield 109, 3) := by decide +kernel
theorem dX9_told_83 : decode cX9_told 83 = .ok (.ireturn, 1) := by decide +kernel
theorem dX9_told_84 : decode cX9_told 84 = .ok (.aload_n 0, 1) := by decide +kernel
theorem dX9_told_85 : decode cX9_told 85 = .ok (.invokevirtual 224, 3) := by decide +kernel
theorem dX9_told_88 : decode cX9_told 88 = .ok (.ireturn, 1) := by decide +kernel
theorem dX9_told_89 : decode cX9_told 89 = .ok (.aload_n 0, 1) := by decide +kernel
theorem dX9_told_90 : decode cX9_told 90 = .ok (.getfield 112, 3) := by decide +kernel
theorem dX9_told_93 : decode cX9_told 93 = .ok (.ireturn, 1) := by decide +kernel
theorem dX9_told_94 : decode cX9_told 94 = .ok (.aload_n 0, 1) := by decide +kernel
theorem dX9_told_95 : decode cX9_told 95 = .ok (.invokevirtual 171, 3) := by decide +kernel
theorem dX9_told_98 : decode cX9_told 98 = .ok (.ireturn, 1) := by decide +kernel
theorem dX9_told_99 : decode cX9_told 99 = .ok (.aload_n 0, 1) := by decide +kernel
theorem dX9_told_100 : decode cX9_told 100 = .ok (.getfield 118, 3) := by decide +kernel
theorem dX9_told_103 : decode cX9_told 103 = .ok (.ireturn, 1) := by decide +kernel
theorem dX9_told_104 : decode cX9_told 104 = .ok (.aload_n 0, 1) := by decide +kernel
theorem dX9_told_105 : decode cX9_told 105 = .ok (.getfield 115, 3) := by decide +kernel
theorem dX9_told_108 : decode cX9_told 108 = .ok (.ireturn, 1) := by decide +kernel
theorem dX9_told_109 : decode cX9_told 109 = .ok (.aload_n 0, 1) := by decide +kernel
theorem dX9_told_110 : decode cX9_told 110 = .ok (.invokevirtual 221, 3) := by decide +kernel
theorem dX9_told_113 : decode cX9_told 113 = .ok (.ireturn, 1) := by decide +kernel
theorem dX9_told_114 : decode cX9_told 114 = .ok (.aload_n 0, 1) := by decide +kernel
theorem dX9_told_115 : decode cX9_told 115 = .ok (.getfield 124, 3) := by decide +kernel
theorem dX9_told_118 : decode cX9_told 118 = .ok (.ireturn, 1) := by decide +kernel
theorem dX9_told_119 : decode cX9_told 119 = .ok (.aload_n 0, 1) := by decide +kernel
theorem dX9_told_120 : decode cX9_told 120 = .ok (.getfield 127, 3) := by decide +kernel
theorem dX9_told_123 : decode cX9_told 123 = .ok (.ireturn, 1) := by decide +kernel
theorem dX9_told_124 : decode cX9_told 124 = .ok (.bipush (-102), 2) := by decide +kernel
theorem dX9_told_126 : decode cX9_told 126 = .ok (.ireturn, 1) := by decide +kernel
theorem dX9_clear_0 : decode cX9_clear 0 = .ok (.aload_n 0, 1) := by decide +kernel
theorem dX9_clear_1 : decode cX9_clear 1 = .ok (.getfield 109, 3) := by decide +kernel
theorem dX9_clear_4 : decode cX9_clear 4 = .ok (.istore_n 1, 1) := by decide +kernel
theorem dX9_clear_5 : decode cX9_clear 5 = .ok (.aload_n 0, 1) := by decide +kernel
theorem dX9_clear_6 : decode cX9_clear 6 = .ok (.invokevirtual 102, 3) := by decide +kernel
theorem dX9_clear_9 : decode cX9_clear 9 = .ok (.iload_n 1, 1) := by decide +kernel
theorem dX9_clear_10 : decode cX9_clear 10 = .ok (.ireturn, 1) := by decide +kernel
theorem dJ9_floorMod_7cf53_0 : decode cJ9_floorMod_7cf53 0 = .ok (.iload_n 0, 1) := by decide +kernel
theorem dJ9_floorMod_7cf53_1 : decode cJ9_floorMod_7cf53 1 = .ok (.iload_n 1, 1) := by decide +kernel
theorem dJ9_floorMod_7cf53_2 : decode cJ9_floorMod_7cf53 2 = .ok (.irem, 1) := by decide +kernel
theorem dJ9_floorMod_7cf53_3 : decode cJ9_floorMod_7cf53 3 = .ok (.istore_n 2, 1) := by decide +kernel
theorem dJ9_floorMod_7cf53_4 : decode cJ9_floorMod_7cf53 4 = .ok (.iload_n 0, 1) := by decide +kernel
theorem dJ9_floorMod_7cf53_5 : decode cJ9_floorMod_7cf53 5 = .ok (.iload_n 1, 1) := by decide +kernel
theorem dJ9_floorMod_7cf53_6 : decode cJ9_floorMod_7cf53 6 = .ok (.ixor, 1) := by decide +kernel
theorem dJ9_floorMod_7cf53_7 : decode cJ9_floorMod_7cf53 7 = .ok (.ifCond .ge 11, 3) := by decide +kernel
theorem dJ9_floorMod_7cf53_10 : decode cJ9_floorMod_7cf53 10 = .ok (.iload_n 2, 1) := by decide +kernel
theorem dJ9_floorMod_7cf53_11 : decode cJ9_floorMod_7cf53 11 = .ok (.ifCond .eq 7, 3) := by decide +kernel
theorem dJ9_floorMod_7cf53_14 : decode cJ9_floorMod_7cf53 14 = .ok (.iload_n 2, 1) := by decide +kernel
theorem dJ9_floorMod_7cf53_15 : decode cJ9_floorMod_7cf53 15 = .ok (.iload_n 1, 1) := by decide +kernel
theorem dJ9_floorMod_7cf53_16 : decode cJ9_floorMod_7cf53 16 = .ok (.iadd, 1) := by decide +kernel
theorem dJ9_floorMod_7cf53_17 : decode cJ9_floorMod_7cf53 17 = .ok (.ireturn, 1) := by decide +kernel
theorem dJ9_floorMod_7cf53_18 : decode cJ9_floorMod_7cf53 18 = .ok (.iload_n 2, 1) := by decide +kernel
theorem dJ9_floorMod_7cf53_19 : decode cJ9_floorMod_7cf53 19 = .ok (.ireturn, 1) := by decide +kernel
theorem dJ9_min_7cf53_0 : decode cJ9_min_7cf53 0 = .ok (.iload_n 0, 1) := by decide +kernel
theorem dJ9_min_7cf53_1 : decode cJ9_min_7cf53 1 = .ok (.iload_n 1, 1) := by decide +kernel
theorem dJ9_min_7cf53_2 : decode cJ9_min_7cf53 2 = .ok (.if_icmp .gt 7, 3) := by decide +kernel
theorem dJ9_min_7cf53_5 : decode cJ9_min_7cf53 5 = .ok (.iload_n 0, 1) := by decide +kernel
theorem dJ9_min_7cf53_6 : decode cJ9_min_7cf53 6 = .ok (.goto 4, 3) := by decide +kernel
theorem dJ9_min_7cf53_9 : decode cJ9_min_7cf53 9 = .ok (.iload_n 1, 1) := by decide +kernel
theorem dJ9_min_7cf53_10 : decode cJ9_min_7cf53 10 = .ok (.ireturn, 1) := by decide +kernel
theorem dJ7_fill_d0a16_0 : decode cJ7_fill_d0a16 0 = .ok (.iconst 0, 1) := by decide +kernel
theorem dJ7_fill_d0a16_1 : decode cJ7_fill_d0a16 1 = .ok (.istore_n 3, 1) := by decide +kernel
theorem dJ7_fill_d0a16_2 : decode cJ7_fill_d0a16 2 = .ok (.aload_n 0, 1) := by decide +kernel
theorem dJ7_fill_d0a16_3 : decode cJ7_fill_d0a16 3 = .ok (.arraylength, 1) := by decide +kernel
theorem dJ7_fill_d0a16_4 : decode cJ7_fill_d0a16 4 = .ok (.istore 4, 2) := by decide +kernel
theorem dJ7_fill_d0a16_6 : decode cJ7_fill_d0a16 6 = .ok (.iload_n 3, 1) := by decide +kernel
theorem dJ7_fill_d0a16_7 : decode cJ7_fill_d0a16 7 = .ok (.iload 4, 2) := by decide +kernel
theorem dJ7_fill_d0a16_9 : decode cJ7_fill_d0a16 9 = .ok (.if_icmp .ge 13, 3) := by decide +kernel
theorem dJ7_fill_d0a16_12 : decode cJ7_fill_d0a16 12 = .ok (.aload_n 0, 1) := by decide +kernel
theorem dJ7_fill_d0a16_13 : decode cJ7_fill_d0a16 13 = .ok (.iload_n 3, 1) := by decide +kernel
theorem dJ7_fill_d0a16_14 : decode cJ7_fill_d0a16 14 = .ok (.lload_n 1, 1) := by decide +kernel
theorem dJ7_fill_d0a16_15 : decode cJ7_fill_d0a16 15 = .ok (.lastore, 1) := by decide +kernel
theorem dJ7_fill_d0a16_16 : decode cJ7_fill_d0a16 16 = .ok (.iinc 3 1, 3) := by decide +kernel
theorem dJ7_fill_d0a16_19 : decode cJ7_fill_d0a16 19 = .ok (.goto (-13), 3) := by decide +kernel
theorem dJ7_fill_d0a16_22 : decode cJ7_fill_d0a16 22 = .ok (.return_, 1) := by decide +kernel
theorem dJ7_fill_53178_0 : decode cJ7_fill_53178 0 = .ok (.iconst 0, 1) := by decide +kernel
theorem dJ7_fill_53178_1 : decode cJ7_fill_53178 1 = .ok (.istore_n 2, 1) := by decide +kernel
theorem dJ7_fill_53178_2 : decode cJ7_fill_53178 2 = .ok (.aload_n 0, 1) := by decide +kernel
theorem dJ7_fill_53178_3 : decode cJ7_fill_53178 3 = .ok (.arraylength, 1) := by decide +kernel
theorem dJ7_fill_53178_4 : decode cJ7_fill_53178 4 = .ok (.istore_n 3, 1) := by decide +kernel
theorem dJ7_fill_53178_5 : decode cJ7_fill_53178 5 = .ok (.iload_n 2, 1) := by decide +kernel
theorem dJ7_fill_53178_6 : decode cJ7_fill_53178 6 = .ok (.iload_n 3, 1) := by decide +kernel
theorem dJ7_fill_53178_7 : decode cJ7_fill_53178 7 = .ok (.if_icmp .ge 13, 3) := by decide +kernel
theorem dJ7_fill_53178_10 : decode cJ7_fill_53178 10 = .ok (.aload_n 0, 1) := by decide +kernel
theorem dJ7_fill_53178_11 : decode cJ7_fill_53178 11 = .ok (.iload_n 2, 1) := by decide +kernel
theorem dJ7_fill_53178_12 : decode cJ7_fill_53178 12 = .ok (.iload_n 1, 1) := by decide +kernel
theorem dJ7_fill_53178_13 : decode cJ7_fill_53178 13 = .ok (.iastore, 1) := by decide +kernel
theorem dJ7_fill_53178_14 : decode cJ7_fill_53178 14 = .ok (.iinc 2 1, 3) := by decide +kernel
theorem dJ7_fill_53178_17 : decode cJ7_fill_53178 17 = .ok (.goto (-12), 3) := by decide +kernel
theorem dJ7_fill_53178_20 : decode cJ7_fill_53178 20 = .ok (.return_, 1) := by decide +kernel
theorem dL_law_0 : decode cL_law 0 = .ok (.new 7, 3) := by decide +kernel
theorem dL_law_3 : decode cL_law 3 = .ok (.dup, 1) := by decide +kernel
theorem dL_law_4 : decode cL_law 4 = .ok (.invokespecial 9, 3) := by decide +kernel
theorem dL_law_7 : decode cL_law 7 = .ok (.astore_n 1, 1) := by decide +kernel
theorem dL_law_8 : decode cL_law 8 = .ok (.new 10, 3) := by decide +kernel
theorem dL_law_11 : decode cL_law 11 = .ok (.dup, 1) := by decide +kernel
theorem dL_law_12 : decode cL_law 12 = .ok (.invokespecial 12, 3) := by decide +kernel
theorem dL_law_15 : decode cL_law 15 = .ok (.astore_n 2, 1) := by decide +kernel
theorem dL_law_16 : decode cL_law 16 = .ok (.iconst 0, 1) := by decide +kernel
theorem dL_law_17 : decode cL_law 17 = .ok (.istore_n 3, 1) := by decide +kernel
theorem dL_law_18 : decode cL_law 18 = .ok (.iload_n 3, 1) := by decide +kernel
theorem dL_law_19 : decode cL_law 19 = .ok (.aload_n 0, 1) := by decide +kernel
theorem dL_law_20 : decode cL_law 20 = .ok (.arraylength, 1) := by decide +kernel
theorem dL_law_21 : decode cL_law 21 = .ok (.iconst 4, 1) := by decide +kernel
theorem dL_law_22 : decode cL_law 22 = .ok (.isub, 1) := by decide +kernel
theorem dL_law_23 : decode cL_law 23 = .ok (.if_icmp .gt 736, 3) := by decide +kernel
theorem dL_law_26 : decode cL_law 26 = .ok (.aload_n 0, 1) := by decide +kernel
theorem dL_law_27 : decode cL_law 27 = .ok (.iload_n 3, 1) := by decide +kernel
theorem dL_law_28 : decode cL_law 28 = .ok (.iaload, 1) := by decide +kernel
theorem dL_law_29 : decode cL_law 29 = .ok (.bipush 31, 2) := by decide +kernel
theorem dL_law_31 : decode cL_law 31 = .ok (.iand, 1) := by decide +kernel
theorem dL_law_32 : decode cL_law 32 = .ok (.tableswitch 721 0 22 #[108, 141, 164, 187, 220, 243, 286, 319, 342, 366, 399, 432, 455, 479, 502, 535, 558, 592, 626, 639, 672, 685, 708], 108) := by decide +kernel
theorem dL_law_140 : decode cL_law 140 = .ok (.aload_n 1, 1) := by decide +kernel
theorem dL_law_141 : decode cL_law 141 = .ok (.aload_n 0, 1) := by decide +kernel
theorem dL_law_142 : decode cL_law 142 = .ok (.iload_n 3, 1) := by decide +kernel
theorem dL_law_143 : decode cL_law 143 = .ok (.iconst 1, 1) := by decide +kernel
theorem dL_law_144 : decode cL_law 144 = .ok (.iadd, 1) := by decide +kernel
theorem dL_law_145 : decode cL_law 145 = .ok (.iaload, 1) := by decide +kernel
theorem dL_law_146 : decode cL_law 146 = .ok (.aload_n 0, 1) := by decide +kernel
theorem dL_law_147 : decode cL_law 147 = .ok (.iload_n 3, 1) := by decide +kernel
theorem dL_law_148 : decode cL_law 148 = .ok (.iconst 2, 1) := by decide +kernel
theorem dL_law_149 : decode cL_law 149 = .ok (.iadd, 1) := by decide +kernel
theorem dL_law_150 : decode cL_law 150 = .ok (.iaload, 1) := by decide +kernel
theorem dL_law_151 : decode cL_law 151 = .ok (.invokevirtual 13, 3) := by decide +kernel
theorem dL_law_154 : decode cL_law 154 = .ok (.aload_n 2, 1) := by decide +kernel
theorem dL_law_155 : decode cL_law 155 = .ok (.aload_n 0, 1) := by decide +kernel
theorem dL_law_156 : decode cL_law 156 = .ok (.iload_n 3, 1) := by decide +kernel
theorem dL_law_157 : decode cL_law 157 = .ok (.iconst 1, 1) := by decide +kernel
theorem dL_law_158 : decode cL_law 158 = .ok (.iadd, 1) := by decide +kernel
theorem dL_law_159 : decode cL_law 159 = .ok (.iaload, 1) := by decide +kernel
theorem dL_law_160 : decode cL_law 160 = .ok (.aload_n 0, 1) := by decide +kernel
theorem dL_law_161 : decode cL_law 161 = .ok (.iload_n 3, 1) := by decide +kernel
theorem dL_law_162 : decode cL_law 162 = .ok (.iconst 2, 1) := by decide +kernel
theorem dL_law_163 : decode cL_law 163 = .ok (.iadd, 1) := by decide +kernel
theorem dL_law_164 : decode cL_law 164 = .ok (.iaload, 1) := by decide +kernel
theorem dL_law_165 : decode cL_law 165 = .ok (.invokevirtual 17, 3) := by decide +kernel
theorem dL_law_168 : decode cL_law 168 = .ok (.if_icmp .eq 585, 3) := by decide +kernel
theorem dL_law_171 : decode cL_law 171 = .ok (.iconst 0, 1) := by decide +kernel
theorem dL_law_172 : decode cL_law 172 = .ok (.ireturn, 1) := by decide +kernel
theorem dL_law_173 : decode cL_law 173 = .ok (.aload_n 1, 1) := by decide +kernel
theorem dL_law_174 : decode cL_law 174 = .ok (.aload_n 0, 1) := by decide +kernel
theorem dL_law_175 : decode cL_law 175 = .ok (.iload_n 3, 1) := by decide +kernel
theorem dL_law_176 : decode cL_law 176 = .ok (.iconst 1, 1) := by decide +kernel
theorem dL_law_177 : decode cL_law 177 = .ok (.iadd, 1) := by decide +kernel
theorem dL_law_178 : decode cL_law 178 = .ok (.iaload, 1) := by decide +kernel
theorem dL_law_179 : decode cL_law 179 = .ok (.invokevirtual 18, 3) := by decide +kernel
theorem dL_law_182 : decode cL_law 182 = .ok (.aload_n 2, 1) := by decide +kernel
theorem dL_law_183 : decode cL_law 183 = .ok (.aload_n 0, 1) := by decide +kernel
theorem dL_law_184 : decode cL_law 184 = .ok (.iload_n 3, 1) := by decide +kernel
theorem dL_law_185 : decode cL_law 185 = .ok (.iconst 1, 1) := by decide +kernel
theorem dL_law_186 : decode cL_law 186 = .ok (.iadd, 1) := by decide +kernel
theorem dL_law_187 : decode cL_law 187 = .ok (.iaload, 1) := by decide +kernel
theorem dL_law_188 : decode cL_law 188 = .ok (.invokevirtual 22, 3) := by decide +kernel
theorem dL_law_191 : decode cL_law 191 = .ok (.if_icmp .eq 562, 3) := by decide +kernel
theorem dL_law_194 : decode cL_law 194 = .ok (.iconst 0, 1) := by decide +kernel
theorem dL_law_195 : decode cL_law 195 = .ok (.ireturn, 1) := by decide +kernel
theorem dL_law_196 : decode cL_law 196 = .ok (.aload_n 1, 1) := by decide +kernel
theorem dL_law_197 : decode cL_law 197 = .ok (.aload_n 0, 1) := by decide +kernel
theorem dL_law_198 : decode cL_law 198 = .ok (.iload_n 3, 1) := by decide +kernel
theorem dL_law_199 : decode cL_law 199 = .ok (.iconst 1, 1) := by decide +kernel
theorem dL_law_200 : decode cL_law 200 = .ok (.iadd, 1) := by decide +kernel
theorem dL_law_201 : decode cL_law 201 = .ok (.iaload, 1) := by decide +kernel
theorem dL_law_202 : decode cL_law 202 = .ok (.invokevirtual 23, 3) := by decide +kernel
theorem dL_law_205 : decode cL_law 205 = .ok (.aload_n 2, 1) := by decide +kernel
theorem dL_law_206 : decode cL_law 206 = .ok (.aload_n 0, 1) := by decide +kernel
theorem dL_law_207 : decode cL_law 207 = .ok (.iload_n 3, 1) := by decide +kernel
theorem dL_law_208 : decode cL_law 208 = .ok (.iconst 1, 1) := by decide +kernel
theorem dL_law_209 : decode cL_law 209 = .ok (.iadd, 1) := by decide +kernel
theorem dL_law_210 : decode cL_law 210 = .ok (.iaload, 1) := by decide +kernel
theorem dL_law_211 : decode cL_law 211 = .ok (.invokevirtual 26, 3) := by decide +kernel
theorem dL_law_214 : decode cL_law 214 = .ok (.if_icmp .eq 539, 3) := by decide +kernel
theorem dL_law_217 : decode cL_law 217 = .ok (.iconst 0, 1) := by decide +kernel
theorem dL_law_218 : decode cL_law 218 = .ok (.ireturn, 1) := by decide +kernel
theorem dL_law_219 : decode cL_law 219 = .ok (.aload_n 1, 1) := by decide +kernel
theorem dL_law_220 : decode cL_law 220 = .ok (.aload_n 0, 1) := by decide +kernel
theorem dL_law_221 : decode cL_law 221 = .ok (.iload_n 3, 1) := by decide +kernel
theorem dL_law_222 : decode cL_law 222 = .ok (.iconst 1, 1) := by decide +kernel
theorem dL_law_223 : decode cL_law 223 = .ok (.iadd, 1) := by decide +kernel
theorem dL_law_224 : decode cL_law 224 = .ok (.iaload, 1) := by decide +kernel
theorem dL_law_225 : decode cL_law 225 = .ok (.aload_n 0, 1) := by decide +kernel
theorem dL_law_226 : decode cL_law 226 = .ok (.iload_n 3, 1) := by decide +kernel
theorem dL_law_227 : decode cL_law 227 = .ok (.iconst 2, 1) := by decide +kernel
theorem dL_law_228 : decode cL_law 228 = .ok (.iadd, 1) := by decide +kernel
theorem dL_law_229 : decode cL_law 229 = .ok (.iaload, 1) := by decide +kernel
theorem dL_law_230 : decode cL_law 230 = .ok (.invokevirtual 27, 3) := by decide +kernel
theorem dL_law_233 : decode cL_law 233 = .ok (.aload_n 2, 1) := by decide +kernel
theorem dL_law_234 : decode cL_law 234 = .ok (.aload_n 0, 1) := by decide +kernel
theorem dL_law_235 : decode cL_law 235 = .ok (.iload_n 3, 1) := by decide +kernel
theorem dL_law_236 : decode cL_law 236 = .ok (.iconst 1, 1) := by decide +kernel
theorem dL_law_237 : decode cL_law 237 = .ok (.iadd, 1) := by decide +kernel
theorem dL_law_238 : decode cL_law 238 = .ok (.iaload, 1) := by decide +kernel
theorem dL_law_239 : decode cL_law 239 = .ok (.aload_n 0, 1) := by decide +kernel
theorem dL_law_240 : decode cL_law 240 = .ok (.iload_n 3, 1) := by decide +kernel
theorem dL_law_241 : decode cL_law 241 = .ok (.iconst 2, 1) := by decide +kernel
theorem dL_law_242 : decode cL_law 242 = .ok (.iadd, 1) := by decide +kernel
theorem dL_law_243 : decode cL_law 243 = .ok (.iaload, 1) := by decide +kernel
theorem dL_law_244 : decode cL_law 244 = .ok (.invokevirtual 30, 3) := by decide +kernel
theorem dL_law_247 : decode cL_law 247 = .ok (.if_icmp .eq 506, 3) := by decide +kernel
theorem dL_law_250 : decode cL_law 250 = .ok (.iconst 0, 1) := by decide +kernel
theorem dL_law_251 : decode cL_law 251 = .ok (.ireturn, 1) := by decide +kernel
theorem dL_law_252 : decode cL_law 252 = .ok (.aload_n 1, 1) := by decide +kernel
theorem dL_law_253 : decode cL_law 253 = .ok (.aload_n 0, 1) := by decide +kernel
theorem dL_law_254 : decode cL_law 254 = .ok (.iload_n 3, 1) := by decide +kernel
theorem dL_law_255 : decode cL_law 255 = .ok (.iconst 1, 1) := by decide +kernel
theorem dL_law_256 : decode cL_law 256 = .ok (.iadd, 1) := by decide +kernel
theorem dL_law_257 : decode cL_law 257 = .ok (.iaload, 1) := by decide +kernel
theorem dL_law_258 : decode cL_law 258 = .ok (.invokevirtual 31, 3) := by decide +kernel
theorem dL_law_261 : decode cL_law 261 = .ok (.aload_n 2, 1) := by decide +kernel
theorem dL_law_262 : decode cL_law 262 = .ok (.aload_n 0, 1) := by decide +kernel
theorem dL_law_263 : decode cL_law 263 = .ok (.iload_n 3, 1) := by decide +kernel
theorem dL_law_264 : decode cL_law 264 = .ok (.iconst 1, 1) := by decide +kernel
theorem dL_law_265 : decode cL_law 265 = .ok (.iadd, 1) := by decide +kernel
theorem dL_law_266 : decode cL_law 266 = .ok (.iaload, 1) := by decide +kernel
theorem dL_law_267 : decode cL_law 267 = .ok (.invokevirtual 34, 3) := by decide +kernel
theorem dL_law_270 : decode cL_law 270 = .ok (.if_icmp .eq 483, 3) := by decide +kernel
theorem dL_law_273 : decode cL_law 273 = .ok (.iconst 0, 1) := by decide +kernel
theorem dL_law_274 : decode cL_law 274 = .ok (.ireturn, 1) := by decide +kernel
theorem dL_law_275 : decode cL_law 275 = .ok (.aload_n 1, 1) := by decide +kernel
theorem dL_law_276 : decode cL_law 276 = .ok (.aload_n 0, 1) := by decide +kernel
theorem dL_law_277 : decode cL_law 277 = .ok (.iload_n 3, 1) := by decide +kernel
theorem dL_law_278 : decode cL_law 278 = .ok (.iconst 1, 1) := by decide +kernel
theorem dL_law_279 : decode cL_law 279 = .ok (.iadd, 1) := by decide +kernel
theorem dL_law_280 : decode cL_law 280 = .ok (.iaload, 1) := by decide +kernel
theorem dL_law_281 : decode cL_law 281 = .ok (.aload_n 0, 1) := by decide +kernel
theorem dL_law_282 : decode cL_law 282 = .ok (.iload_n 3, 1) := by decide +kernel
theorem dL_law_283 : decode cL_law 283 = .ok (.iconst 2, 1) := by decide +kernel
theorem dL_law_284 : decode cL_law 284 = .ok (.iadd, 1) := by decide +kernel
theorem dL_law_285 : decode cL_law 285 = .ok (.iaload, 1) := by decide +kernel
theorem dL_law_286 : decode cL_law 286 = .ok (.aload_n 0, 1) := by decide +kernel
theorem dL_law_287 : decode cL_law 287 = .ok (.iload_n 3, 1) := by decide +kernel
theorem dL_law_288 : decode cL_law 288 = .ok (.iconst 3, 1) := by decide +kernel
theorem dL_law_289 : decode cL_law 289 = .ok (.iadd, 1) := by decide +kernel
theorem dL_law_290 : decode cL_law 290 = .ok (.iaload, 1) := by decide +kernel
theorem dL_law_291 : decode cL_law 291 = .ok (.invokevirtual 35, 3) := by decide +kernel
theorem dL_law_294 : decode cL_law 294 = .ok (.aload_n 2, 1) := by decide +kernel
theorem dL_law_295 : decode cL_law 295 = .ok (.aload_n 0, 1) := by decide +kernel
theorem dL_law_296 : decode cL_law 296 = .ok (.iload_n 3, 1) := by decide +kernel
theorem dL_law_297 : decode cL_law 297 = .ok (.iconst 1, 1) := by decide +kernel
theorem dL_law_298 : decode cL_law 298 = .ok (.iadd, 1) := by decide +kernel
theorem dL_law_299 : decode cL_law 299 = .ok (.iaload, 1) := by decide +kernel
theorem dL_law_300 : decode cL_law 300 = .ok (.aload_n 0, 1) := by decide +kernel
theorem dL_law_301 : decode cL_law 301 = .ok (.iload_n 3, 1) := by decide +kernel
theorem dL_law_302 : decode cL_law 302 = .ok (.iconst 2, 1) := by decide +kernel
theorem dL_law_303 : decode cL_law 303 = .ok (.iadd, 1) := by decide +kernel
theorem dL_law_304 : decode cL_law 304 = .ok (.iaload, 1) := by decide +kernel
theorem dL_law_305 : decode cL_law 305 = .ok (.aload_n 0, 1) := by decide +kernel
theorem dL_law_306 : decode cL_law 306 = .ok (.iload_n 3, 1) := by decide +kernel
theorem dL_law_307 : decode cL_law 307 = .ok (.iconst 3, 1) := by decide +kernel
theorem dL_law_308 : decode cL_law 308 = .ok (.iadd, 1) := by decide +kernel
theorem dL_law_309 : decode cL_law 309 = .ok (.iaload, 1) := by decide +kernel
theorem dL_law_310 : decode cL_law 310 = .ok (.invokevirtual 39, 3) := by decide +kernel
theorem dL_law_313 : decode cL_law 313 = .ok (.if_icmp .eq 440, 3) := by decide +kernel
theorem dL_law_316 : decode cL_law 316 = .ok (.iconst 0, 1) := by decide +kernel
theorem dL_law_317 : decode cL_law 317 = .ok (.ireturn, 1) := by decide +kernel
theorem dL_law_318 : decode cL_law 318 = .ok (.aload_n 1, 1) := by decide +kernel
theorem dL_law_319 : decode cL_law 319 = .ok (.aload_n 0, 1) := by decide +kernel
theorem dL_law_320 : decode cL_law 320 = .ok (.iload_n 3, 1) := by decide +kernel
theorem dL_law_321 : decode cL_law 321 = .ok (.iconst 1, 1) := by decide +kernel
theorem dL_law_322 : decode cL_law 322 = .ok (.iadd, 1) := by decide +kernel
theorem dL_law_323 : decode cL_law 323 = .ok (.iaload, 1) := by decide +kernel
theorem dL_law_324 : decode cL_law 324 = .ok (.aload_n 0, 1) := by decide +kernel
theorem dL_law_325 : decode cL_law 325 = .ok (.iload_n 3, 1) := by decide +kernel
theorem dL_law_326 : decode cL_law 326 = .ok (.iconst 2, 1) := by decide +kernel
theorem dL_law_327 : decode cL_law 327 = .ok (.iadd, 1) := by decide +kernel
theorem dL_law_328 : decode cL_law 328 = .ok (.iaload, 1) := by decide +kernel
theorem dL_law_329 : decode cL_law 329 = .ok (.invokevirtual 40, 3) := by decide +kernel
theorem dL_law_332 : decode cL_law 332 = .ok (.aload_n 2, 1) := by decide +kernel
theorem dL_law_333 : decode cL_law 333 = .ok (.aload_n 0, 1) := by decide +kernel
theorem dL_law_334 : decode cL_law 334 = .ok (.iload_n 3, 1) := by decide +kernel
theorem dL_law_335 : decode cL_law 335 = .ok (.iconst 1, 1) := by decide +kernel
theorem dL_law_336 : decode cL_law 336 = .ok (.iadd, 1) := by decide +kernel
theorem dL_law_337 : decode cL_law 337 = .ok (.iaload, 1) := by decide +kernel
theorem dL_law_338 : decode cL_law 338 = .ok (.aload_n 0, 1) := by decide +kernel
theorem dL_law_339 : decode cL_law 339 = .ok (.iload_n 3, 1) := by decide +kernel
theorem dL_law_340 : decode cL_law 340 = .ok (.iconst 2, 1) := by decide +kernel
theorem dL_law_341 : decode cL_law 341 = .ok (.iadd, 1) := by decide +kernel
theorem dL_law_342 : decode cL_law 342 = .ok (.iaload, 1) := by decide +kernel
theorem dL_law_343 : decode cL_law 343 = .ok (.invokevirtual 43, 3) := by decide +kernel
theorem dL_law_346 : decode cL_law 346 = .ok (.if_icmp .eq 407, 3) := by decide +kernel
theorem dL_law_349 : decode cL_law 349 = .ok (.iconst 0, 1) := by decide +kernel
theorem dL_law_350 : decode cL_law 350 = .ok (.ireturn, 1) := by decide +kernel
theorem dL_law_351 : decode cL_law 351 = .ok (.aload_n 1, 1) := by decide +kernel
theorem dL_law_352 : decode cL_law 352 = .ok (.aload_n 0, 1) := by decide +kernel
theorem dL_law_353 : decode cL_law 353 = .ok (.iload_n 3, 1) := by decide +kernel
theorem dL_law_354 : decode cL_law 354 = .ok (.iconst 1, 1) := by decide +kernel
theorem dL_law_355 : decode cL_law 355 = .ok (.iadd, 1) := by decide +kernel
theorem dL_law_356 : decode cL_law 356 = .ok (.iaload, 1) := by decide +kernel
theorem dL_law_357 : decode cL_law 357 = .ok (.invokevirtual 44, 3) := by decide +kernel
theorem dL_law_360 : decode cL_law 360 = .ok (.aload_n 2, 1) := by decide +kernel
theorem dL_law_361 : decode cL_law 361 = .ok (.aload_n 0, 1) := by decide +kernel
theorem dL_law_362 : decode cL_law 362 = .ok (.iload_n 3, 1) := by decide +kernel
theorem dL_law_363 : decode cL_law 363 = .ok (.iconst 1, 1) := by decide +kernel
theorem dL_law_364 : decode cL_law 364 = .ok (.iadd, 1) := by decide +kernel
theorem dL_law_365 : decode cL_law 365 = .ok (.iaload, 1) := by decide +kernel
theorem dL_law_366 : decode cL_law 366 = .ok (.invokevirtual 47, 3) := by decide +kernel
theorem dL_law_369 : decode cL_law 369 = .ok (.if_icmp .eq 384, 3) := by decide +kernel
theorem dL_law_372 : decode cL_law 372 = .ok (.iconst 0, 1) := by decide +kernel
theorem dL_law_373 : decode cL_law 373 = .ok (.ireturn, 1) := by decide +kernel
theorem dL_law_374 : decode cL_law 374 = .ok (.aload_n 1, 1) := by decide +kernel
theorem dL_law_375 : decode cL_law 375 = .ok (.aload_n 0, 1) := by decide +kernel
theorem dL_law_376 : decode cL_law 376 = .ok (.iload_n 3, 1) := by decide +kernel
theorem dL_law_377 : decode cL_law 377 = .ok (.iconst 1, 1) := by decide +kernel
theorem dL_law_378 : decode cL_law 378 = .ok (.iadd, 1) := by decide +kernel
theorem dL_law_379 : decode cL_law 379 = .ok (.iaload, 1) := by decide +kernel
theorem dL_law_380 : decode cL_law 380 = .ok (.invokevirtual 48, 3) := by decide +kernel
theorem dL_law_383 : decode cL_law 383 = .ok (.aload_n 2, 1) := by decide +kernel
theorem dL_law_384 : decode cL_law 384 = .ok (.aload_n 0, 1) := by decide +kernel
theorem dL_law_385 : decode cL_law 385 = .ok (.iload_n 3, 1) := by decide +kernel
theorem dL_law_386 : decode cL_law 386 = .ok (.iconst 1, 1) := by decide +kernel
theorem dL_law_387 : decode cL_law 387 = .ok (.iadd, 1) := by decide +kernel
theorem dL_law_388 : decode cL_law 388 = .ok (.iaload, 1) := by decide +kernel
theorem dL_law_389 : decode cL_law 389 = .ok (.invokevirtual 52, 3) := by decide +kernel
theorem dL_law_392 : decode cL_law 392 = .ok (.lcmp, 1) := by decide +kernel
theorem dL_law_393 : decode cL_law 393 = .ok (.ifCond .eq 360, 3) := by decide +kernel
theorem dL_law_396 : decode cL_law 396 = .ok (.iconst 0, 1) := by decide +kernel
theorem dL_law_397 : decode cL_law 397 = .ok (.ireturn, 1) := by decide +kernel
theorem dL_law_398 : decode cL_law 398 = .ok (.aload_n 1, 1) := by decide +kernel
theorem dL_law_399 : decode cL_law 399 = .ok (.aload_n 0, 1) := by decide +kernel
theorem dL_law_400 : decode cL_law 400 = .ok (.iload_n 3, 1) := by decide +kernel
theorem dL_law_401 : decode cL_law 401 = .ok (.iconst 1, 1) := by decide +kernel
theorem dL_law_402 : decode cL_law 402 = .ok (.iadd, 1) := by decide +kernel
theorem dL_law_403 : decode cL_law 403 = .ok (.iaload, 1) := by decide +kernel
theorem dL_law_404 : decode cL_law 404 = .ok (.aload_n 0, 1) := by decide +kernel
theorem dL_law_405 : decode cL_law 405 = .ok (.iload_n 3, 1) := by decide +kernel
theorem dL_law_406 : decode cL_law 406 = .ok (.iconst 2, 1) := by decide +kernel
theorem dL_law_407 : decode cL_law 407 = .ok (.iadd, 1) := by decide +kernel
theorem dL_law_408 : decode cL_law 408 = .ok (.iaload, 1) := by decide +kernel
theorem dL_law_409 : decode cL_law 409 = .ok (.invokevirtual 53, 3) := by decide +kernel
theorem dL_law_412 : decode cL_law 412 = .ok (.aload_n 2, 1) := by decide +kernel
theorem dL_law_413 : decode cL_law 413 = .ok (.aload_n 0, 1) := by decide +kernel
theorem dL_law_414 : decode cL_law 414 = .ok (.iload_n 3, 1) := by decide +kernel
theorem dL_law_415 : decode cL_law 415 = .ok (.iconst 1, 1) := by decide +kernel
theorem dL_law_416 : decode cL_law 416 = .ok (.iadd, 1) := by decide +kernel
theorem dL_law_417 : decode cL_law 417 = .ok (.iaload, 1) := by decide +kernel
theorem dL_law_418 : decode cL_law 418 = .ok (.aload_n 0, 1) := by decide +kernel
theorem dL_law_419 : decode cL_law 419 = .ok (.iload_n 3, 1) := by decide +kernel
theorem dL_law_420 : decode cL_law 420 = .ok (.iconst 2, 1) := by decide +kernel
theorem dL_law_421 : decode cL_law 421 = .ok (.iadd, 1) := by decide +kernel
theorem dL_law_422 : decode cL_law 422 = .ok (.iaload, 1) := by decide +kernel
theorem dL_law_423 : decode cL_law 423 = .ok (.invokevirtual 56, 3) := by decide +kernel
theorem dL_law_426 : decode cL_law 426 = .ok (.if_icmp .eq 327, 3) := by decide +kernel
theorem dL_law_429 : decode cL_law 429 = .ok (.iconst 0, 1) := by decide +kernel
theorem dL_law_430 : decode cL_law 430 = .ok (.ireturn, 1) := by decide +kernel
theorem dL_law_431 : decode cL_law 431 = .ok (.aload_n 1, 1) := by decide +kernel
theorem dL_law_432 : decode cL_law 432 = .ok (.aload_n 0, 1) := by decide +kernel
theorem dL_law_433 : decode cL_law 433 = .ok (.iload_n 3, 1) := by decide +kernel
theorem dL_law_434 : decode cL_law 434 = .ok (.iconst 1, 1) := by decide +kernel
theorem dL_law_435 : decode cL_law 435 = .ok (.iadd, 1) := by decide +kernel
theorem dL_law_436 : decode cL_law 436 = .ok (.iaload, 1) := by decide +kernel
theorem dL_law_437 : decode cL_law 437 = .ok (.aload_n 0, 1) := by decide +kernel
theorem dL_law_438 : decode cL_law 438 = .ok (.iload_n 3, 1) := by decide +kernel
theorem dL_law_439 : decode cL_law 439 = .ok (.iconst 2, 1) := by decide +kernel
theorem dL_law_440 : decode cL_law 440 = .ok (.iadd, 1) := by decide +kernel
theorem dL_law_441 : decode cL_law 441 = .ok (.iaload, 1) := by decide +kernel
theorem dL_law_442 : decode cL_law 442 = .ok (.invokevirtual 57, 3) := by decide +kernel
theorem dL_law_445 : decode cL_law 445 = .ok (.aload_n 2, 1) := by decide +kernel
theorem dL_law_446 : decode cL_law 446 = .ok (.aload_n 0, 1) := by decide +kernel
theorem dL_law_447 : decode cL_law 447 = .ok (.iload_n 3, 1) := by decide +kernel
theorem dL_law_448 : decode cL_law 448 = .ok (.iconst 1, 1) := by decide +kernel
theorem dL_law_449 : decode cL_law 449 = .ok (.iadd, 1) := by decide +kernel
theorem dL_law_450 : decode cL_law 450 = .ok (.iaload, 1) := by decide +kernel
theorem dL_law_451 : decode cL_law 451 = .ok (.aload_n 0, 1) := by decide +kernel
theorem dL_law_452 : decode cL_law 452 = .ok (.iload_n 3, 1) := by decide +kernel
theorem dL_law_453 : decode cL_law 453 = .ok (.iconst 2, 1) := by decide +kernel
theorem dL_law_454 : decode cL_law 454 = .ok (.iadd, 1) := by decide +kernel
theorem dL_law_455 : decode cL_law 455 = .ok (.iaload, 1) := by decide +kernel
theorem dL_law_456 : decode cL_law 456 = .ok (.invokevirtual 60, 3) := by decide +kernel
theorem dL_law_459 : decode cL_law 459 = .ok (.if_icmp .eq 294, 3) := by decide +kernel
theorem dL_law_462 : decode cL_law 462 = .ok (.iconst 0, 1) := by decide +kernel
theorem dL_law_463 : decode cL_law 463 = .ok (.ireturn, 1) := by decide +kernel
theorem dL_law_464 : decode cL_law 464 = .ok (.aload_n 1, 1) := by decide +kernel
theorem dL_law_465 : decode cL_law 465 = .ok (.aload_n 0, 1) := by decide +kernel
theorem dL_law_466 : decode cL_law 466 = .ok (.iload_n 3, 1) := by decide +kernel
theorem dL_law_467 : decode cL_law 467 = .ok (.iconst 1, 1) := by decide +kernel
theorem dL_law_468 : decode cL_law 468 = .ok (.iadd, 1) := by decide +kernel
theorem dL_law_469 : decode cL_law 469 = .ok (.iaload, 1) := by decide +kernel
theorem dL_law_470 : decode cL_law 470 = .ok (.invokevirtual 61, 3) := by decide +kernel
theorem dL_law_473 : decode cL_law 473 = .ok (.aload_n 2, 1) := by decide +kernel
theorem dL_law_474 : decode cL_law 474 = .ok (.aload_n 0, 1) := by decide +kernel
theorem dL_law_475 : decode cL_law 475 = .ok (.iload_n 3, 1) := by decide +kernel
theorem dL_law_476 : decode cL_law 476 = .ok (.iconst 1, 1) := by decide +kernel
theorem dL_law_477 : decode cL_law 477 = .ok (.iadd, 1) := by decide +kernel
theorem dL_law_478 : decode cL_law 478 = .ok (.iaload, 1) := by decide +kernel
theorem dL_law_479 : decode cL_law 479 = .ok (.invokevirtual 64, 3) := by decide +kernel
theorem dL_law_482 : decode cL_law 482 = .ok (.if_icmp .eq 271, 3) := by decide +kernel
theorem dL_law_485 : decode cL_law 485 = .ok (.iconst 0, 1) := by decide +kernel
theorem dL_law_486 : decode cL_law 486 = .ok (.ireturn, 1) := by decide +kernel
theorem dL_law_487 : decode cL_law 487 = .ok (.aload_n 1, 1) := by decide +kernel
theorem dL_law_488 : decode cL_law 488 = .ok (.aload_n 0, 1) := by decide +kernel
theorem dL_law_489 : decode cL_law 489 = .ok (.iload_n 3, 1) := by decide +kernel
theorem dL_law_490 : decode cL_law 490 = .ok (.iconst 1, 1) := by decide +kernel
theorem dL_law_491 : decode cL_law 491 = .ok (.iadd, 1) := by decide +kernel
theorem dL_law_492 : decode cL_law 492 = .ok (.iaload, 1) := by decide +kernel
theorem dL_law_493 : decode cL_law 493 = .ok (.invokevirtual 65, 3) := by decide +kernel
theorem dL_law_496 : decode cL_law 496 = .ok (.aload_n 2, 1) := by decide +kernel
theorem dL_law_497 : decode cL_law 497 = .ok (.aload_n 0, 1) := by decide +kernel
theorem dL_law_498 : decode cL_law 498 = .ok (.iload_n 3, 1) := by decide +kernel
theorem dL_law_499 : decode cL_law 499 = .ok (.iconst 1, 1) := by decide +kernel
theorem dL_law_500 : decode cL_law 500 = .ok (.iadd, 1) := by decide +kernel
theorem dL_law_501 : decode cL_law 501 = .ok (.iaload, 1) := by decide +kernel
theorem dL_law_502 : decode cL_law 502 = .ok (.invokevirtual 68, 3) := by decide +kernel
theorem dL_law_505 : decode cL_law 505 = .ok (.lcmp, 1) := by decide +kernel
theorem dL_law_506 : decode cL_law 506 = .ok (.ifCond .eq 247, 3) := by decide +kernel
theorem dL_law_509 : decode cL_law 509 = .ok (.iconst 0, 1) := by decide +kernel
theorem dL_law_510 : decode cL_law 510 = .ok (.ireturn, 1) := by decide +kernel
theorem dL_law_511 : decode cL_law 511 = .ok (.aload_n 1, 1) := by decide +kernel
theorem dL_law_512 : decode cL_law 512 = .ok (.aload_n 0, 1) := by decide +kernel
theorem dL_law_513 : decode cL_law 513 = .ok (.iload_n 3, 1) := by decide +kernel
theorem dL_law_514 : decode cL_law 514 = .ok (.iconst 1, 1) := by decide +kernel
theorem dL_law_515 : decode cL_law 515 = .ok (.iadd, 1) := by decide +kernel
theorem dL_law_516 : decode cL_law 516 = .ok (.iaload, 1) := by decide +kernel
theorem dL_law_517 : decode cL_law 517 = .ok (.invokevirtual 69, 3) := by decide +kernel
theorem dL_law_520 : decode cL_law 520 = .ok (.aload_n 2, 1) := by decide +kernel
theorem dL_law_521 : decode cL_law 521 = .ok (.aload_n 0, 1) := by decide +kernel
theorem dL_law_522 : decode cL_law 522 = .ok (.iload_n 3, 1) := by decide +kernel
theorem dL_law_523 : decode cL_law 523 = .ok (.iconst 1, 1) := by decide +kernel
theorem dL_law_524 : decode cL_law 524 = .ok (.iadd, 1) := by decide +kernel
theorem dL_law_525 : decode cL_law 525 = .ok (.iaload, 1) := by decide +kernel
theorem dL_law_526 : decode cL_law 526 = .ok (.invokevirtual 72, 3) := by decide +kernel
theorem dL_law_529 : decode cL_law 529 = .ok (.if_icmp .eq 224, 3) := by decide +kernel
theorem dL_law_532 : decode cL_law 532 = .ok (.iconst 0, 1) := by decide +kernel
theorem dL_law_533 : decode cL_law 533 = .ok (.ireturn, 1) := by decide +kernel
theorem dL_law_534 : decode cL_law 534 = .ok (.aload_n 1, 1) := by decide +kernel
theorem dL_law_535 : decode cL_law 535 = .ok (.aload_n 0, 1) := by decide +kernel
theorem dL_law_536 : decode cL_law 536 = .ok (.iload_n 3, 1) := by decide +kernel
theorem dL_law_537 : decode cL_law 537 = .ok (.iconst 1, 1) := by decide +kernel
theorem dL_law_538 : decode cL_law 538 = .ok (.iadd, 1) := by decide +kernel
theorem dL_law_539 : decode cL_law 539 = .ok (.iaload, 1) := by decide +kernel
theorem dL_law_540 : decode cL_law 540 = .ok (.aload_n 0, 1) := by decide +kernel
theorem dL_law_541 : decode cL_law 541 = .ok (.iload_n 3, 1) := by decide +kernel
theorem dL_law_542 : decode cL_law 542 = .ok (.iconst 2, 1) := by decide +kernel
theorem dL_law_543 : decode cL_law 543 = .ok (.iadd, 1) := by decide +kernel
theorem dL_law_544 : decode cL_law 544 = .ok (.iaload, 1) := by decide +kernel
theorem dL_law_545 : decode cL_law 545 = .ok (.invokevirtual 73, 3) := by decide +kernel
theorem dL_law_548 : decode cL_law 548 = .ok (.aload_n 2, 1) := by decide +kernel
theorem dL_law_549 : decode cL_law 549 = .ok (.aload_n 0, 1) := by decide +kernel
theorem dL_law_550 : decode cL_law 550 = .ok (.iload_n 3, 1) := by decide +kernel
theorem dL_law_551 : decode cL_law 551 = .ok (.iconst 1, 1) := by decide +kernel
theorem dL_law_552 : decode cL_law 552 = .ok (.iadd, 1) := by decide +kernel
theorem dL_law_553 : decode cL_law 553 = .ok (.iaload, 1) := by decide +kernel
theorem dL_law_554 : decode cL_law 554 = .ok (.aload_n 0, 1) := by decide +kernel
theorem dL_law_555 : decode cL_law 555 = .ok (.iload_n 3, 1) := by decide +kernel
theorem dL_law_556 : decode cL_law 556 = .ok (.iconst 2, 1) := by decide +kernel
theorem dL_law_557 : decode cL_law 557 = .ok (.iadd, 1) := by decide +kernel
theorem dL_law_558 : decode cL_law 558 = .ok (.iaload, 1) := by decide +kernel
theorem dL_law_559 : decode cL_law 559 = .ok (.invokevirtual 76, 3) := by decide +kernel
theorem dL_law_562 : decode cL_law 562 = .ok (.if_icmp .eq 191, 3) := by decide +kernel
theorem dL_law_565 : decode cL_law 565 = .ok (.iconst 0, 1) := by decide +kernel
theorem dL_law_566 : decode cL_law 566 = .ok (.ireturn, 1) := by decide +kernel
theorem dL_law_567 : decode cL_law 567 = .ok (.aload_n 1, 1) := by decide +kernel
theorem dL_law_568 : decode cL_law 568 = .ok (.aload_n 0, 1) := by decide +kernel
theorem dL_law_569 : decode cL_law 569 = .ok (.iload_n 3, 1) := by decide +kernel
theorem dL_law_570 : decode cL_law 570 = .ok (.iconst 1, 1) := by decide +kernel
theorem dL_law_571 : decode cL_law 571 = .ok (.iadd, 1) := by decide +kernel
theorem dL_law_572 : decode cL_law 572 = .ok (.iaload, 1) := by decide +kernel
theorem dL_law_573 : decode cL_law 573 = .ok (.invokevirtual 77, 3) := by decide +kernel
theorem dL_law_576 : decode cL_law 576 = .ok (.aload_n 2, 1) := by decide +kernel
theorem dL_law_577 : decode cL_law 577 = .ok (.aload_n 0, 1) := by decide +kernel
theorem dL_law_578 : decode cL_law 578 = .ok (.iload_n 3, 1) := by decide +kernel
theorem dL_law_579 : decode cL_law 579 = .ok (.iconst 1, 1) := by decide +kernel
theorem dL_law_580 : decode cL_law 580 = .ok (.iadd, 1) := by decide +kernel
theorem dL_law_581 : decode cL_law 581 = .ok (.iaload, 1) := by decide +kernel
theorem dL_law_582 : decode cL_law 582 = .ok (.invokevirtual 80, 3) := by decide +kernel
theorem dL_law_585 : decode cL_law 585 = .ok (.if_icmp .eq 168, 3) := by decide +kernel
theorem dL_law_588 : decode cL_law 588 = .ok (.iconst 0, 1) := by decide +kernel
theorem dL_law_589 : decode cL_law 589 = .ok (.ireturn, 1) := by decide +kernel
theorem dL_law_590 : decode cL_law 590 = .ok (.aload_n 1, 1) := by decide +kernel
theorem dL_law_591 : decode cL_law 591 = .ok (.aload_n 0, 1) := by decide +kernel
theorem dL_law_592 : decode cL_law 592 = .ok (.iload_n 3, 1) := by decide +kernel
theorem dL_law_593 : decode cL_law 593 = .ok (.iconst 1, 1) := by decide +kernel
theorem dL_law_594 : decode cL_law 594 = .ok (.iadd, 1) := by decide +kernel
theorem dL_law_595 : decode cL_law 595 = .ok (.iaload, 1) := by decide +kernel
theorem dL_law_596 : decode cL_law 596 = .ok (.aload_n 0, 1) := by decide +kernel
theorem dL_law_597 : decode cL_law 597 = .ok (.iload_n 3, 1) := by decide +kernel
theorem dL_law_598 : decode cL_law 598 = .ok (.iconst 2, 1) := by decide +kernel
theorem dL_law_599 : decode cL_law 599 = .ok (.iadd, 1) := by decide +kernel
theorem dL_law_600 : decode cL_law 600 = .ok (.iaload, 1) := by decide +kernel
theorem dL_law_601 : decode cL_law 601 = .ok (.invokevirtual 81, 3) := by decide +kernel
theorem dL_law_604 : decode cL_law 604 = .ok (.aload_n 2, 1) := by decide +kernel
theorem dL_law_605 : decode cL_law 605 = .ok (.aload_n 0, 1) := by decide +kernel
theorem dL_law_606 : decode cL_law 606 = .ok (.iload_n 3, 1) := by decide +kernel
theorem dL_law_607 : decode cL_law 607 = .ok (.iconst 1, 1) := by decide +kernel
theorem dL_law_608 : decode cL_law 608 = .ok (.iadd, 1) := by decide +kernel
theorem dL_law_609 : decode cL_law 609 = .ok (.iaload, 1) := by decide +kernel
theorem dL_law_610 : decode cL_law 610 = .ok (.aload_n 0, 1) := by decide +kernel
theorem dL_law_611 : decode cL_law 611 = .ok (.iload_n 3, 1) := by decide +kernel
theorem dL_law_612 : decode cL_law 612 = .ok (.iconst 2, 1) := by decide +kernel
theorem dL_law_613 : decode cL_law 613 = .ok (.iadd, 1) := by decide +kernel
theorem dL_law_614 : decode cL_law 614 = .ok (.iaload, 1) := by decide +kernel
theorem dL_law_615 : decode cL_law 615 = .ok (.invokevirtual 85, 3) := by decide +kernel
theorem dL_law_618 : decode cL_law 618 = .ok (.lcmp, 1) := by decide +kernel
theorem dL_law_619 : decode cL_law 619 = .ok (.ifCond .eq 134, 3) := by decide +kernel
theorem dL_law_622 : decode cL_law 622 = .ok (.iconst 0, 1) := by decide +kernel
theorem dL_law_623 : decode cL_law 623 = .ok (.ireturn, 1) := by decide +kernel
theorem dL_law_624 : decode cL_law 624 = .ok (.aload_n 1, 1) := by decide +kernel
theorem dL_law_625 : decode cL_law 625 = .ok (.aload_n 0, 1) := by decide +kernel
theorem dL_law_626 : decode cL_law 626 = .ok (.iload_n 3, 1) := by decide +kernel
theorem dL_law_627 : decode cL_law 627 = .ok (.iconst 1, 1) := by decide +kernel
theorem dL_law_628 : decode cL_law 628 = .ok (.iadd, 1) := by decide +kernel
theorem dL_law_629 : decode cL_law 629 = .ok (.iaload, 1) := by decide +kernel
theorem dL_law_630 : decode cL_law 630 = .ok (.aload_n 0, 1) := by decide +kernel
theorem dL_law_631 : decode cL_law 631 = .ok (.iload_n 3, 1) := by decide +kernel
theorem dL_law_632 : decode cL_law 632 = .ok (.iconst 2, 1) := by decide +kernel
theorem dL_law_633 : decode cL_law 633 = .ok (.iadd, 1) := by decide +kernel
theorem dL_law_634 : decode cL_law 634 = .ok (.iaload, 1) := by decide +kernel
theorem dL_law_635 : decode cL_law 635 = .ok (.invokevirtual 86, 3) := by decide +kernel
theorem dL_law_638 : decode cL_law 638 = .ok (.aload_n 2, 1) := by decide +kernel
theorem dL_law_639 : decode cL_law 639 = .ok (.aload_n 0, 1) := by decide +kernel
theorem dL_law_640 : decode cL_law 640 = .ok (.iload_n 3, 1) := by decide +kernel
theorem dL_law_641 : decode cL_law 641 = .ok (.iconst 1, 1) := by decide +kernel
theorem dL_law_642 : decode cL_law 642 = .ok (.iadd, 1) := by decide +kernel
theorem dL_law_643 : decode cL_law 643 = .ok (.iaload, 1) := by decide +kernel
theorem dL_law_644 : decode cL_law 644 = .ok (.aload_n 0, 1) := by decide +kernel
theorem dL_law_645 : decode cL_law 645 = .ok (.iload_n 3, 1) := by decide +kernel
theorem dL_law_646 : decode cL_law 646 = .ok (.iconst 2, 1) := by decide +kernel
theorem dL_law_647 : decode cL_law 647 = .ok (.iadd, 1) := by decide +kernel
theorem dL_law_648 : decode cL_law 648 = .ok (.iaload, 1) := by decide +kernel
theorem dL_law_649 : decode cL_law 649 = .ok (.invokevirtual 89, 3) := by decide +kernel
theorem dL_law_652 : decode cL_law 652 = .ok (.lcmp, 1) := by decide +kernel
theorem dL_law_653 : decode cL_law 653 = .ok (.ifCond .eq 100, 3) := by decide +kernel
theorem dL_law_656 : decode cL_law 656 = .ok (.iconst 0, 1) := by decide +kernel
theorem dL_law_657 : decode cL_law 657 = .ok (.ireturn, 1) := by decide +kernel
theorem dL_law_658 : decode cL_law 658 = .ok (.aload_n 1, 1) := by decide +kernel
theorem dL_law_659 : decode cL_law 659 = .ok (.invokevirtual 90, 3) := by decide +kernel
theorem dL_law_662 : decode cL_law 662 = .ok (.aload_n 2, 1) := by decide +kernel
theorem dL_law_663 : decode cL_law 663 = .ok (.invokevirtual 94, 3) := by decide +kernel
theorem dL_law_666 : decode cL_law 666 = .ok (.if_icmp .eq 87, 3) := by decide +kernel
theorem dL_law_669 : decode cL_law 669 = .ok (.iconst 0, 1) := by decide +kernel
theorem dL_law_670 : decode cL_law 670 = .ok (.ireturn, 1) := by decide +kernel
theorem dL_law_671 : decode cL_law 671 = .ok (.aload_n 1, 1) := by decide +kernel
theorem dL_law_672 : decode cL_law 672 = .ok (.aload_n 0, 1) := by decide +kernel
theorem dL_law_673 : decode cL_law 673 = .ok (.iload_n 3, 1) := by decide +kernel
theorem dL_law_674 : decode cL_law 674 = .ok (.iconst 1, 1) := by decide +kernel
theorem dL_law_675 : decode cL_law 675 = .ok (.iadd, 1) := by decide +kernel
theorem dL_law_676 : decode cL_law 676 = .ok (.iaload, 1) := by decide +kernel
theorem dL_law_677 : decode cL_law 677 = .ok (.aload_n 0, 1) := by decide +kernel
theorem dL_law_678 : decode cL_law 678 = .ok (.iload_n 3, 1) := by decide +kernel
theorem dL_law_679 : decode cL_law 679 = .ok (.iconst 2, 1) := by decide +kernel
theorem dL_law_680 : decode cL_law 680 = .ok (.iadd, 1) := by decide +kernel
theorem dL_law_681 : decode cL_law 681 = .ok (.iaload, 1) := by decide +kernel
theorem dL_law_682 : decode cL_law 682 = .ok (.invokevirtual 95, 3) := by decide +kernel
theorem dL_law_685 : decode cL_law 685 = .ok (.aload_n 2, 1) := by decide +kernel
theorem dL_law_686 : decode cL_law 686 = .ok (.aload_n 0, 1) := by decide +kernel
theorem dL_law_687 : decode cL_law 687 = .ok (.iload_n 3, 1) := by decide +kernel
theorem dL_law_688 : decode cL_law 688 = .ok (.iconst 1, 1) := by decide +kernel
theorem dL_law_689 : decode cL_law 689 = .ok (.iadd, 1) := by decide +kernel
theorem dL_law_690 : decode cL_law 690 = .ok (.iaload, 1) := by decide +kernel
theorem dL_law_691 : decode cL_law 691 = .ok (.aload_n 0, 1) := by decide +kernel
theorem dL_law_692 : decode cL_law 692 = .ok (.iload_n 3, 1) := by decide +kernel
theorem dL_law_693 : decode cL_law 693 = .ok (.iconst 2, 1) := by decide +kernel
theorem dL_law_694 : decode cL_law 694 = .ok (.iadd, 1) := by decide +kernel
theorem dL_law_695 : decode cL_law 695 = .ok (.iaload, 1) := by decide +kernel
theorem dL_law_696 : decode cL_law 696 = .ok (.invokevirtual 98, 3) := by decide +kernel
theorem dL_law_699 : decode cL_law 699 = .ok (.if_icmp .eq 54, 3) := by decide +kernel
theorem dL_law_702 : decode cL_law 702 = .ok (.iconst 0, 1) := by decide +kernel
theorem dL_law_703 : decode cL_law 703 = .ok (.ireturn, 1) := by decide +kernel
theorem dL_law_704 : decode cL_law 704 = .ok (.aload_n 1, 1) := by decide +kernel
theorem dL_law_705 : decode cL_law 705 = .ok (.invokevirtual 99, 3) := by decide +kernel
theorem dL_law_708 : decode cL_law 708 = .ok (.aload_n 2, 1) := by decide +kernel
theorem dL_law_709 : decode cL_law 709 = .ok (.invokevirtual 102, 3) := by decide +kernel
theorem dL_law_712 : decode cL_law 712 = .ok (.if_icmp .eq 41, 3) := by decide +kernel
theorem dL_law_715 : decode cL_law 715 = .ok (.iconst 0, 1) := by decide +kernel
theorem dL_law_716 : decode cL_law 716 = .ok (.ireturn, 1) := by decide +kernel
theorem dL_law_717 : decode cL_law 717 = .ok (.aload_n 1, 1) := by decide +kernel
theorem dL_law_718 : decode cL_law 718 = .ok (.aload_n 0, 1) := by decide +kernel
theorem dL_law_719 : decode cL_law 719 = .ok (.iload_n 3, 1) := by decide +kernel
theorem dL_law_720 : decode cL_law 720 = .ok (.iconst 1, 1) := by decide +kernel
theorem dL_law_721 : decode cL_law 721 = .ok (.iadd, 1) := by decide +kernel
theorem dL_law_722 : decode cL_law 722 = .ok (.iaload, 1) := by decide +kernel
theorem dL_law_723 : decode cL_law 723 = .ok (.invokevirtual 103, 3) := by decide +kernel
theorem dL_law_726 : decode cL_law 726 = .ok (.aload_n 2, 1) := by decide +kernel
theorem dL_law_727 : decode cL_law 727 = .ok (.aload_n 0, 1) := by decide +kernel
theorem dL_law_728 : decode cL_law 728 = .ok (.iload_n 3, 1) := by decide +kernel
theorem dL_law_729 : decode cL_law 729 = .ok (.iconst 1, 1) := by decide +kernel
theorem dL_law_730 : decode cL_law 730 = .ok (.iadd, 1) := by decide +kernel
theorem dL_law_731 : decode cL_law 731 = .ok (.iaload, 1) := by decide +kernel
theorem dL_law_732 : decode cL_law 732 = .ok (.invokevirtual 106, 3) := by decide +kernel
theorem dL_law_735 : decode cL_law 735 = .ok (.if_icmp .eq 18, 3) := by decide +kernel
theorem dL_law_738 : decode cL_law 738 = .ok (.iconst 0, 1) := by decide +kernel
theorem dL_law_739 : decode cL_law 739 = .ok (.ireturn, 1) := by decide +kernel
theorem dL_law_740 : decode cL_law 740 = .ok (.aload_n 1, 1) := by decide +kernel
theorem dL_law_741 : decode cL_law 741 = .ok (.invokevirtual 107, 3) := by decide +kernel
theorem dL_law_744 : decode cL_law 744 = .ok (.aload_n 2, 1) := by decide +kernel
theorem dL_law_745 : decode cL_law 745 = .ok (.invokevirtual 110, 3) := by decide +kernel
theorem dL_law_748 : decode cL_law 748 = .ok (.if_icmp .eq 5, 3) := by decide +kernel
theorem dL_law_751 : decode cL_law 751 = .ok (.iconst 0, 1) := by decide +kernel
theorem dL_law_752 : decode cL_law 752 = .ok (.ireturn, 1) := by decide +kernel
theorem dL_law_753 : decode cL_law 753 = .ok (.iinc 3 4, 3) := by decide +kernel
theorem dL_law_756 : decode cL_law 756 = .ok (.goto (-738), 3) := by decide +kernel
theorem dL_law_759 : decode cL_law 759 = .ok (.iconst 1, 1) := by decide +kernel
theorem dL_law_760 : decode cL_law 760 = .ok (.ireturn, 1) := by decide +kernel
end
section
/-- n cells from b on hold M -/
def kH (D : va_G) (b : Nat) (M : Nat → va_E) (n : Nat) (H : Heap) : Prop := H.size = b + n ∧ ∀ i, i < n → va_at D vwCl (b + i, M i) H
/-- but for the places w nothing has changed -/
def kF (w : List Nat) (M M' : Nat → va_E) : Prop := ∀ i, i ∉ w → M' i = M i
abbrev kA (b : Nat) : Nat → Prop := fun q => b ≤ q
def kW (D : va_G) (b : Nat) (M : Nat → va_E) (n : Nat) (H0 H : Heap) (locs : List Loc) : Prop := kH D b M n H ∧ va_S (kA b) H0 H locs
abbrev kT (cI cJ cZ cH cR : ClassId) : List (ClassId × FieldType) := [(cI, .int), (cJ, .long), (cZ, .boolean), (cH, .object RX0), (cR, .array .int)]
def kAOA (U : State) : Prop := (Cond.arrayOver (.array .int)).before #[] U = true
theorem kAOA.moved {u U : State} (hvm : u.vm.Alike U.vm) (h : kAOA u) : kAOA U := by
  obtain ⟨comp, c, k, h1, h2, h3, h4, h5⟩ := arrayOver_specB h
  obtain ⟨k', hk', he⟩ := hvm.2.2 _ _ h3
  have hi : (U.vm.classes.findIdx? fun (x : Class) => match x.kind with | .array component _ => component == comp | _ => false) = some c := by
    refine (va_idx_bare U.vm comp).symm.trans ?_
    first | rw [hvm.bare_eq] | rw [← hvm.bare_eq]
    exact (va_idx_bare u.vm comp).trans h2
  have hkind : k'.kind = .array comp (.array .int) := by rw [he]; exact h4
  have f1 : U.vm.findClass (FieldType.array .int).toString = some comp := by rw [hvm.findClass]; exact h1
  have f2 : U.vm.findClass ("[" ++ (FieldType.array .int).toString) = some c := by rw [hvm.findClass]; exact h5
  unfold kAOA Cond.before Cond.holds
  simp only [Cond.value]
  rw [f1, Option.bind_some]
  refine (congrArg (fun o : Option Nat => (o.bind (fun c => (U.vm.classes[c]?).map fun (k : Class) => match k.kind with | .array _ ty => decide (ty = FieldType.array .int) && decide (U.vm.findClass ("[" ++ (FieldType.array .int).toString) = some c) | _ => false) == some true)) hi).trans ?_
  simp [hk', hkind, f2]
def kK (D : va_G) (ty : List (ClassId × FieldType)) (U : State) : Prop := va_K D vwCl ty U ∧ va_AO RX0 U ∧ kAOA U
theorem kK.moved {D : va_G} {ty : List (ClassId × FieldType)} {u U : State} (hvm : u.vm.Alike U.vm) (h : kK D ty u) : kK D ty U := ⟨va_K.moved hvm h.1, h.2.1.moved hvm, h.2.2.moved hvm⟩
def kPre (D : va_G) (ty : List (ClassId × FieldType)) (b : Nat) (M : Nat → va_E) (n : Nat) : State → Prop := fun U => kH D b M n U.heap ∧ kK D ty U
def kB (D : va_G) (ty : List (ClassId × FieldType)) (b : Nat) : ((Nat → va_E) × Nat) → State → Prop := fun u t => kH D b u.1 u.2 t.heap ∧ kK D ty t
def kC (p : Program) (s : State) (m : MethodId) (c : Code) (args : Array Value) (cc : ByteArray) (nL : Nat) (own : String) (D : va_G) (ty : List (ClassId × FieldType)) : Prop :=
  p.tables.exec = Jvm.exec ∧ c.code = cc ∧ c.maxLocals = nL ∧ s.vm.findClass own = some m.cls ∧ (∀ w ∈ kBig, w.before args s = true) ∧ kK D ty s
/-- a method's words: its code, and all -/
abbrev kw (y : MethodName) (cc : ByteArray) (nL : Nat) (ret : Option FieldType) : List Cond := Cond.code y cc nL ret :: kBig
theorem kF_rf {w : List Nat} {M : Nat → va_E} : kF w M M := fun _ _ => rfl
theorem kF_st {w l : List Nat} {M0 M M1 : Nat → va_E} (h0 : kF w M0 M) (h : kF l M M1) (hl : ∀ x ∈ l, x ∈ w) : kF w M0 M1 := fun i hi => (h i (fun q => hi (hl i q))).trans (h0 i hi)
theorem kF_mo {w l : List Nat} {M M1 : Nat → va_E} (h : kF l M M1) (hl : ∀ x ∈ l, x ∈ w) : kF w M M1 := fun i hi => h i (fun q => hi (hl i q))
theorem kF_up {M : Nat → va_E} {i : Nat} {e : va_E} : kF [i] M (va_up M i e) := fun j hj => if_neg (fun q => hj (by rw [q]; exact List.mem_singleton_self _))
theorem kH_up {D : va_G} {b n i : Nat} {M : Nat → va_E} {H H1 : Heap} {e : va_E} (h : kH D b M n H) (hz : H1.size = H.size) (ho : ∀ q, q ≠ b + i → H1[q]? = H[q]?) (hn : va_at D vwCl (b + i, e) H1) : kH D b (va_up M i e) n H1 := by
  refine ⟨by rw [hz]; exact h.1, fun j hj => ?_⟩
  by_cases q : j = i
  · subst q
    rw [show va_up M j e j = e from if_pos rfl]
    exact hn
  · rw [show va_up M i e j = M j from if_neg q]
    exact (h.2 j hj).kept (ho _ (by omega))
theorem kS_up {b i : Nat} {H0 H H1 : Heap} {locs : List Loc} {k : Nat} (hS : va_S (kA b) H0 H locs) (hz : H1.size = H.size) (ho : ∀ q, q ≠ b + i → H1[q]? = H[q]?) : va_S (kA b) H0 H1 (locs ++ [⟨b + i, k⟩]) := hS.put hz ho (Nat.le_add_right b i)
theorem kP1 {D : va_G} {b n i : Nat} {M : Nat → va_E} {H : Heap} (h : kH D b M n H) (hi : i < n) : va_P D vwCl [(b + i, M i)] H := fun k q hq => by
  have h0 : k < 1 := (List.getElem?_eq_some_iff.mp hq).1
  rw [show k = 0 by omega] at hq
  cases hq
  exact h.2 i hi
theorem kD1 {b i : Nat} {M : Nat → va_E} : va_D (kA b) [(b + i, M i)] := by
  refine ⟨fun i j p q hi hj _ => ?_, fun k q hq => ?_⟩
  · have h0 : i < 1 := (List.getElem?_eq_some_iff.mp hi).1
    have h1 : j < 1 := (List.getElem?_eq_some_iff.mp hj).1
    omega
  · have h0 : k < 1 := (List.getElem?_eq_some_iff.mp hq).1
    rw [show k = 0 by omega] at hq
    cases hq
    exact Nat.le_add_right _ _
section KR
variable {p : Program} {l : Launch} {e : Env} {R : Room} {s : State} {m : MethodId} {args : Array Value} {below : List Frame} {meth : Method} {c : Code} {H : Heap} {locs : List Loc} {cells slots : Nat} {Q : State → Prop}
variable {cc : ByteArray} {pc nL : Nat} {ls : Array Slot} {rest : List Value} {D : va_G} {own : String} {b n : Nat} {M : Nat → va_E} {H0 : Heap} {ty : List (ClassId × FieldType)} {cI cJ cZ cH cR : ClassId}
theorem k_get (C : kC p s m c args cc nL own D ty) (h : kW D b M n H0 H locs) (i : Nat) (hi : i < n) {ci : Nat} {fs : List Value} (he : M i = .inr (ci, fs)) {Cn : String} {T : u_T} {N : Nat} (hc : vwCl[ci]? = some (Cn, T, N)) (hin : ∀ w ∈ u_ws Cn T N, w ∈ kBig) (k : Nat) (hk : k < N) {index : Nat} (hl : Cond.fieldLink own index (T k).1 (T k).2.1 (T k).2.2.1 ∈ kBig) {v : Value} (hv : fs[k]? = some v) (hd : decode cc pc = .ok (.getfield index, 3))
    (kk : W p l e R s m args below meth c H locs cells slots Q (F0 m (pc + 3) ls (v :: rest))) : W p l e R s m args below meth c H locs cells slots Q (F0 m pc ls (.ref (b + i) :: rest)) := by
  obtain ⟨hx, hb, -, ho, hts, hK, -⟩ := C
  exact va_get (D := D) hx hb hts hin ho hK (kP1 h.1 hi) 0 (by rw [he]; rfl) hc k hk (hts _ hl) (fun _ h => h) hv hd kk
theorem k_put (C : kC p s m c args cc nL own D ty) (h : kW D b M n H0 H locs) (i : Nat) (hi : i < n) {ci : Nat} {fs : List Value} (he : M i = .inr (ci, fs)) {Cn : String} {T : u_T} {N : Nat} (hc : vwCl[ci]? = some (Cn, T, N)) (hin : ∀ w ∈ u_ws Cn T N, w ∈ kBig) (ty0 : Nat → FieldType) (hty : ∀ k, k < N → parseFieldDescriptor (T k).2.2.1 = some (ty0 k)) (hnm : ∀ a, a < N → ∀ b, b < N → a ≠ b → (T a).2.1 ≠ (T b).2.1) (k : Nat) (hk : k < N) {index : Nat} (hlk : Cond.fieldLink own index (T k).1 (T k).2.1 (T k).2.2.1 ∈ kBig) (hfin : (T k).2.2.2 = false) {tf : FieldType} {v : Value} (hdp : parseFieldDescriptor (T k).2.2.1 = some tf) (hn : narrow tf v = v) (hfit : fits tf v = true) (hl : k < fs.length)
    (hd : decode cc pc = .ok (.putfield index, 3)) (kk : ∀ (M1 : Nat → va_E) (H1 : Heap) (locs1 : List Loc), kW D b M1 n H0 H1 locs1 → M1 i = .inr (ci, fs.set k v) → kF [i] M M1 → W p l e R s m args below meth c H1 locs1 cells slots Q (F0 m (pc + 3) ls rest)) : W p l e R s m args below meth c H locs cells slots Q (F0 m pc ls (v :: .ref (b + i) :: rest)) := by
  obtain ⟨hx, hb, -, hown, hts, hK, -⟩ := C
  have hap := va_apart (own := own) hts hin ty0 hty hnm hK hc
  have h9 := h.1.2 i hi
  rw [he] at h9
  obtain ⟨r, h1, cell, q1, q2, q3, q4⟩ := h9
  have hr : r = (Cn, T, N) := Option.some.inj (h1.symm.trans hc)
  subst hr
  obtain ⟨hS, hfc, kC, hkC, hkind⟩ := hK.1 ci _ hc
  obtain ⟨cf, kf, fi, f, hi9, hsl⟩ := hS k hk
  have hlay := hts _ (hin _ (u_in_lay hk))
  unfold u_lay at hlay
  rw [if_neg (by rw [hfin]; decide)] at hlay
  have hst := (u_facts hfc hkC (u_lays hts hin hk) hi9).1
  have h6 := u_store hfc hkC hkind hlay hi9 hdp hn hfit
  refine W.putK hx hb (f := f) ⟨hown, hts _ hlk, ⟨_, _, _, hi9⟩, hst⟩ (by rw [q2]; exact h6) q1 q3 (by rw [hsl]; exact k2_hasslot (q4 k hk)) rfl rfl hd fun H' e1 e2 e3 => ?_
  rw [hsl] at e1 ⊢
  exact kk (va_up M i (.inr (ci, fs.set k v))) H' _ ⟨kH_up h.1 e2 e3 ⟨_, hc, t_OB.to (V := updV (vp_V fs) k v) ⟨_, e1, q2, q3, t_set q4 hap hk v⟩ (fun j _ => vp_updV_set hl v j)⟩, kS_up h.2 e2 e3⟩ (if_pos rfl) kF_up
theorem k_putF (C : kC p s m c args cc nL own D ty) (h : kW D b M n H0 H locs) (i : Nat) (hi : i < n) {ci : Nat} {fs : List Value} (he : M i = .inr (ci, fs)) {Cn : String} {T : u_T} {N : Nat} (hc : vwCl[ci]? = some (Cn, T, N)) (hin : ∀ w ∈ u_ws Cn T N, w ∈ kBig) (ty0 : Nat → FieldType) (hty : ∀ k, k < N → parseFieldDescriptor (T k).2.2.1 = some (ty0 k)) (hnm : ∀ a, a < N → ∀ b, b < N → a ≠ b → (T a).2.1 ≠ (T b).2.1) (k : Nat) (hk : k < N) {index : Nat} (hlk : Cond.fieldLink own index (T k).1 (T k).2.1 (T k).2.2.1 ∈ kBig) (hfin : (T k).2.2.2 = true) (hin2 : meth.name = "<init>") (hdecl : (T k).1 = own) {tf : FieldType} {v : Value} (hdp : parseFieldDescriptor (T k).2.2.1 = some tf) (hn : narrow tf v = v) (hfit : fits tf v = true) (hl : k < fs.length)
    (hd : decode cc pc = .ok (.putfield index, 3)) (kk : ∀ (M1 : Nat → va_E) (H1 : Heap) (locs1 : List Loc), kW D b M1 n H0 H1 locs1 → M1 i = .inr (ci, fs.set k v) → kF [i] M M1 → W p l e R s m args below meth c H1 locs1 cells slots Q (F0 m (pc + 3) ls rest)) : W p l e R s m args below meth c H locs cells slots Q (F0 m pc ls (v :: .ref (b + i) :: rest)) := by
  obtain ⟨hx, hb, -, hown, hts, hK, -⟩ := C
  have hap := va_apart (own := own) hts hin ty0 hty hnm hK hc
  have h9 := h.1.2 i hi
  rw [he] at h9
  obtain ⟨r, h1, cell, q1, q2, q3, q4⟩ := h9
  have hr : r = (Cn, T, N) := Option.some.inj (h1.symm.trans hc)
  subst hr
  obtain ⟨hS, hfc, kC, hkC, hkind⟩ := hK.1 ci _ hc
  obtain ⟨cf, kf, fi, f, hi9, hsl⟩ := hS k hk
  have hlay := hts _ (hin _ (u_in_lay hk))
  unfold u_lay at hlay
  rw [if_pos hfin] at hlay
  have hst := (u_facts hfc hkC (u_lays hts hin hk) hi9).1
  have hcf : m.cls = cf := by
    obtain ⟨_, _, c', _, _, _, -, -, hf', -, -, -, hown2, -⟩ := Cond.laysFinal_spec hlay
    have e1 : c' = cf := by have := hi9.symm.trans hf'; simp at this; exact this.1.symm
    rw [hdecl] at hown2
    rw [← e1]; exact Option.some.inj (hown.symm.trans hown2)
  have h6 := u_fits hfc hkC hkind (Or.inr hlay) hi9 hdp hn hfit
  refine W.putFinK hx hb hown (hts _ hlk) hi9 hst hcf hin2 (by rw [q2]; exact h6) q1 q3 (by rw [hsl]; exact k2_hasslot (q4 k hk)) rfl rfl hd fun H' e1 e2 e3 => ?_
  rw [hsl] at e1 ⊢
  exact kk (va_up M i (.inr (ci, fs.set k v))) H' _ ⟨kH_up h.1 e2 e3 ⟨_, hc, t_OB.to (V := updV (vp_V fs) k v) ⟨_, e1, q2, q3, t_set q4 hap hk v⟩ (fun j _ => vp_updV_set hl v j)⟩, kS_up h.2 e2 e3⟩ (if_pos rfl) kF_up
/-- reads of arrays, at a number j -/
theorem k_iald (C : kC p s m c args cc nL own D (kT cI cJ cZ cH cR)) (h : kW D b M n H0 H locs) (i : Nat) (hi : i < n) {N : Nat} {f : Nat → Int32} (he : M i = .inl (cI, N, .inl f)) {j : Nat} (hj : j < N) (hN : N < 2 ^ 31) (hd : decode cc pc = .ok (.iaload, 1))
    (kk : W p l e R s m args below meth c H locs cells slots Q (F0 m (pc + 1) ls (.int (f j) :: rest))) : W p l e R s m args below meth c H locs cells slots Q (F0 m pc ls (.int (nI j) :: .ref (b + i) :: rest)) := by
  refine va_iald C.1 C.2.1 C.2.2.2.2.2.1 (kP1 h.1 hi) 0 0 (by rw [he]; rfl) rfl (vp_in_nI hj hN) hd ?_
  rw [nI_clamp (by omega)]
  exact kk
theorem k_lald (C : kC p s m c args cc nL own D (kT cI cJ cZ cH cR)) (h : kW D b M n H0 H locs) (i : Nat) (hi : i < n) {N : Nat} {f : Nat → Int64} (he : M i = .inl (cJ, N, .inr (.inl f))) {j : Nat} (hj : j < N) (hN : N < 2 ^ 31) (hd : decode cc pc = .ok (.laload, 1))
    (kk : W p l e R s m args below meth c H locs cells slots Q (F0 m (pc + 1) ls (.long (f j) :: rest))) : W p l e R s m args below meth c H locs cells slots Q (F0 m pc ls (.int (nI j) :: .ref (b + i) :: rest)) := by
  refine va_lald C.1 C.2.1 C.2.2.2.2.2.1 (kP1 h.1 hi) 0 1 (by rw [he]; rfl) rfl (vp_in_nI hj hN) hd ?_
  rw [nI_clamp (by omega)]
  exact kk
theorem k_zald (C : kC p s m c args cc nL own D (kT cI cJ cZ cH cR)) (h : kW D b M n H0 H locs) (i : Nat) (hi : i < n) {N : Nat} {f : Nat → Int32} (he : M i = .inl (cZ, N, .inl f)) {j : Nat} (hj : j < N) (hN : N < 2 ^ 31) (hd : decode cc pc = .ok (.baload, 1))
    (kk : W p l e R s m args below meth c H locs cells slots Q (F0 m (pc + 1) ls (.int (f j) :: rest))) : W p l e R s m args below meth c H locs cells slots Q (F0 m pc ls (.int (nI j) :: .ref (b + i) :: rest)) := by
  refine va_zald C.1 C.2.1 C.2.2.2.2.2.1 (kP1 h.1 hi) 0 2 (by rw [he]; rfl) rfl (vp_in_nI hj hN) hd ?_
  rw [nI_clamp (by omega)]
  exact kk
theorem k_qald (C : kC p s m c args cc nL own D (kT cI cJ cZ cH cR)) (h : kW D b M n H0 H locs) (i : Nat) (hi : i < n) {N : Nat} {f : Nat → Option Nat} (he : M i = .inl (cH, N, .inr (.inr (.inr (.inr f))))) {j : Nat} (hj : j < N) (hN : N < 2 ^ 31) {v : Value} (hv : va_rf (f j) = v) (hd : decode cc pc = .ok (.aaload, 1))
    (kk : W p l e R s m args below meth c H locs cells slots Q (F0 m (pc + 1) ls (v :: rest))) : W p l e R s m args below meth c H locs cells slots Q (F0 m pc ls (.int (nI j) :: .ref (b + i) :: rest)) := by
  subst hv
  refine va_aldq (C := RX0) C.1 C.2.1 C.2.2.2.2.2.1 (kP1 h.1 hi) 0 3 (by rw [he]; rfl) rfl (vp_in_nI hj hN) hd ?_
  rw [nI_clamp (by omega)]
  exact kk
theorem k_rald (C : kC p s m c args cc nL own D (kT cI cJ cZ cH cR)) (h : kW D b M n H0 H locs) (i : Nat) (hi : i < n) {N : Nat} {f : Nat → Option Nat} (he : M i = .inl (cR, N, .inr (.inr (.inr (.inr f))))) {j : Nat} (hj : j < N) (hN : N < 2 ^ 31) {v : Value} (hv : va_rf (f j) = v) (hd : decode cc pc = .ok (.aaload, 1))
    (kk : W p l e R s m args below meth c H locs cells slots Q (F0 m (pc + 1) ls (v :: rest))) : W p l e R s m args below meth c H locs cells slots Q (F0 m pc ls (.int (nI j) :: .ref (b + i) :: rest)) := by
  subst hv
  have hz : ((nI j).toNatClampNeg) = j := nI_clamp (by omega)
  have hP := kP1 h.1 hi
  have hP : H[b + i]? = some (vp_cell cR (N, .inr (.inr (.inr (.inr f))))) := hP 0 (b + i, .inl (cR, N, .inr (.inr (.inr (.inr f))))) (by rw [he]; rfl)
  exact W.aald (v := va_rf (f j)) (ty := .array .int) C.1 C.2.1 hP ((C.2.2.2.2.2.1.2 4 _ rfl).1 N (fun j => va_rf (f j))) rfl (fun q => by cases q) (by show ¬ (_ < 0 ∨ (arrV _ _ _).slots.size ≤ _); rw [arrV_size]; exact vp_in_nI hj hN) (by show (arrV _ _ _).slots[_]? = _; rw [hz, arrV_read _ _ hj]) rfl rfl hd kk
theorem k_alen (C : kC p s m c args cc nL own D (kT cI cJ cZ cH cR)) (h : kW D b M n H0 H locs) (i : Nat) (hi : i < n) {cA : ClassId} {x : vp_A} (he : M i = .inl (cA, x)) (t0 : Nat) {tt : FieldType} (ht : (kT cI cJ cZ cH cR)[t0]? = some (cA, tt)) (hd : decode cc pc = .ok (.arraylength, 1))
    (kk : W p l e R s m args below meth c H locs cells slots Q (F0 m (pc + 1) ls (.int (nI x.1) :: rest))) : W p l e R s m args below meth c H locs cells slots Q (F0 m pc ls (.ref (b + i) :: rest)) :=
  va_alen C.1 C.2.1 C.2.2.2.2.2.1 (kP1 h.1 hi) 0 t0 (by rw [he]; rfl) ht rfl hd kk
/-- stores -/
theorem k_iast (C : kC p s m c args cc nL own D (kT cI cJ cZ cH cR)) (h : kW D b M n H0 H locs) (i : Nat) (hi : i < n) {N : Nat} {f : Nat → Int32} (he : M i = .inl (cI, N, .inl f)) {j : Nat} {x : Int32} (hj : j < N) (hN : N < 2 ^ 31) (hd : decode cc pc = .ok (.iastore, 1))
    (kk : ∀ (M1 : Nat → va_E) (H1 : Heap) (locs1 : List Loc), kW D b M1 n H0 H1 locs1 → M1 i = .inl (cI, N, .inl (upd f j x)) → kF [i] M M1 → W p l e R s m args below meth c H1 locs1 cells slots Q (F0 m (pc + 1) ls rest)) : W p l e R s m args below meth c H locs cells slots Q (F0 m pc ls (.int x :: .int (nI j) :: .ref (b + i) :: rest)) := by
  have hz : ((nI j).toNatClampNeg) = j := nI_clamp (by omega)
  have hP := kP1 h.1 hi 0 (b + i, .inl (cI, N, .inl f)) (by rw [he]; rfl)
  refine W.iast C.1 C.2.1 hP ((C.2.2.2.2.2.1.2 0 _ rfl).1 N (fun j => .int (f j))) (fun q => by cases q) (by show ¬ (_ < 0 ∨ (arrV _ _ _).slots.size ≤ _); rw [arrV_size]; exact vp_in_nI hj hN) rfl rfl hd fun H1 e z oq => ?_
  refine kk (va_up M i (.inl (cI, N, .inl (upd f j x)))) H1 _ ⟨kH_up h.1 z oq ?_, kS_up h.2 z oq⟩ (if_pos rfl) kF_up
  show H1[b + i]? = some (vp_cell _ _)
  rw [e, hz, vp_cell_i, vp_cell_i, arrV_store]
  congr 2
  funext q
  by_cases hq : q = j
  · subst hq
    simp [updV, upd]
  · simp [updV, upd, hq]
theorem k_last (C : kC p s m c args cc nL own D (kT cI cJ cZ cH cR)) (h : kW D b M n H0 H locs) (i : Nat) (hi : i < n) {N : Nat} {f : Nat → Int64} (he : M i = .inl (cJ, N, .inr (.inl f))) {j : Nat} {x : Int64} (hj : j < N) (hN : N < 2 ^ 31) (hd : decode cc pc = .ok (.lastore, 1))
    (kk : ∀ (M1 : Nat → va_E) (H1 : Heap) (locs1 : List Loc), kW D b M1 n H0 H1 locs1 → M1 i = .inl (cJ, N, .inr (.inl (vp_updL f j x))) → kF [i] M M1 → W p l e R s m args below meth c H1 locs1 cells slots Q (F0 m (pc + 1) ls rest)) : W p l e R s m args below meth c H locs cells slots Q (F0 m pc ls (.long x :: .int (nI j) :: .ref (b + i) :: rest)) := by
  have hz : ((nI j).toNatClampNeg) = j := nI_clamp (by omega)
  have hP := kP1 h.1 hi 0 (b + i, .inl (cJ, N, .inr (.inl f))) (by rw [he]; rfl)
  refine W.last C.1 C.2.1 hP ((C.2.2.2.2.2.1.2 1 _ rfl).1 N (fun j => .long (f j))) (fun q => by cases q) (by show ¬ (_ < 0 ∨ (arrV _ _ _).slots.size ≤ _); rw [arrV_size]; exact vp_in_nI hj hN) rfl rfl hd fun H1 e z oq => ?_
  refine kk (va_up M i (.inl (cJ, N, .inr (.inl (vp_updL f j x))))) H1 _ ⟨kH_up h.1 z oq ?_, kS_up h.2 z oq⟩ (if_pos rfl) kF_up
  show H1[b + i]? = some (vp_cell _ _)
  rw [e, hz, vp_cell_l, vp_cell_l, arrV_store]
  congr 2
  funext q
  by_cases hq : q = j
  · subst hq
    simp [updV, vp_updL]
  · simp [updV, vp_updL, hq]
theorem k_zast (C : kC p s m c args cc nL own D (kT cI cJ cZ cH cR)) (h : kW D b M n H0 H locs) (i : Nat) (hi : i < n) {N : Nat} {f : Nat → Int32} (he : M i = .inl (cZ, N, .inl f)) {j : Nat} {x : Int32} (hx : x = 0 ∨ x = 1) (hj : j < N) (hN : N < 2 ^ 31) (hd : decode cc pc = .ok (.bastore, 1))
    (kk : ∀ (M1 : Nat → va_E) (H1 : Heap) (locs1 : List Loc), kW D b M1 n H0 H1 locs1 → M1 i = .inl (cZ, N, .inl (upd f j x)) → kF [i] M M1 → W p l e R s m args below meth c H1 locs1 cells slots Q (F0 m (pc + 1) ls rest)) : W p l e R s m args below meth c H locs cells slots Q (F0 m pc ls (.int x :: .int (nI j) :: .ref (b + i) :: rest)) := by
  have hz : ((nI j).toNatClampNeg) = j := nI_clamp (by omega)
  have hP := kP1 h.1 hi 0 (b + i, .inl (cZ, N, .inl f)) (by rw [he]; rfl)
  refine W.zast C.1 C.2.1 hP ((C.2.2.2.2.2.1.2 2 _ rfl).1 N (fun j => .int (f j))) (fun q => by cases q) (by show ¬ (_ < 0 ∨ (arrV _ _ _).slots.size ≤ _); rw [arrV_size]; exact vp_in_nI hj hN) rfl rfl hd fun H1 e z oq => ?_
  refine kk (va_up M i (.inl (cZ, N, .inl (upd f j x)))) H1 _ ⟨kH_up h.1 z oq ?_, kS_up h.2 z oq⟩ (if_pos rfl) kF_up
  show H1[b + i]? = some (vp_cell _ _)
  rw [e, hz, show narrow .boolean (.int x) = .int x by rcases hx with rfl | rfl <;> rfl, vp_cell_i, vp_cell_i, arrV_store]
  congr 2
  funext q
  by_cases hq : q = j
  · subst hq
    simp [updV, upd]
  · simp [updV, upd, hq]
theorem k_qast (C : kC p s m c args cc nL own D (kT cI cJ cZ cH cR)) (h : kW D b M n H0 H locs) (i : Nat) (hi : i < n) {N : Nat} {f : Nat → Option Nat} (he : M i = .inl (cH, N, .inr (.inr (.inr (.inr f))))) (i2 : Nat) (hi2 : i2 < n) {vs : List Value} (he2 : M i2 = .inr (0, vs)) {j : Nat} (hj : j < N) (hN : N < 2 ^ 31) (hd : decode cc pc = .ok (.aastore, 1))
    (kk : ∀ (M1 : Nat → va_E) (H1 : Heap) (locs1 : List Loc), kW D b M1 n H0 H1 locs1 → M1 i = .inl (cH, N, .inr (.inr (.inr (.inr (va_up f j (some (b + i2))))))) → kF [i] M M1 → W p l e R s m args below meth c H1 locs1 cells slots Q (F0 m (pc + 1) ls rest)) : W p l e R s m args below meth c H locs cells slots Q (F0 m pc ls (.ref (b + i2) :: .int (nI j) :: .ref (b + i) :: rest)) := by
  have hz : ((nI j).toNatClampNeg) = j := nI_clamp (by omega)
  have hP := kP1 h.1 hi 0 (b + i, .inl (cH, N, .inr (.inr (.inr (.inr f))))) (by rw [he]; rfl)
  have hP2 := kP1 h.1 hi2 0 (b + i2, .inr (0, vs)) (by rw [he2]; rfl)
  obtain ⟨r', hr', cellV, g1, g2, g3, -⟩ := hP2
  have hcls := (C.2.2.2.2.2.1.1 0 (RX0, TX0, 3) rfl).2
  obtain ⟨kA, comp, k1, k2, k3, -⟩ := (C.2.2.2.2.2.1.2 3 _ rfl).2
  have hcomp : comp = D.1 0 := Option.some.inj (k3.symm.trans hcls.1)
  subst hcomp
  obtain ⟨kC, hkC, -⟩ := hcls.2
  refine W.aast C.1 C.2.1 hP (fun q h => by cases h) (fun h => by cases h) k1 k2 rfl hkC ⟨nI_pos (by omega), by show _ < (arrV _ _ _).slots.size; rw [arrV_size, hz]; exact hj⟩ g1 (fun q h => by rw [g3] at h; cases h) (by rw [g2]; exact hkC) (by rw [g2]; exact va_assign hcls) rfl rfl hd fun H1 e z oq => ?_
  refine kk (va_up M i (.inl (cH, N, .inr (.inr (.inr (.inr (va_up f j (some (b + i2))))))))) H1 _ ⟨kH_up h.1 z oq ?_, kS_up h.2 z oq⟩ (if_pos rfl) kF_up
  show H1[b + i]? = some (vp_cell _ _)
  rw [e, hz, vp_cell_q, vp_cell_q, arrV_store]
  congr 2
  funext q
  by_cases hq : q = j
  · subst hq
    simp [updV, va_up, va_rf]
  · simp [updV, va_up, hq]
/-- cells come at the end -/
theorem kW_push (h : kW D b M n H0 H locs) {H1 : Heap} {e : va_E} (z : H1.size = H.size + 1) (o : ∀ q, q < H.size → H1[q]? = H[q]?) (hn : va_at D vwCl (b + n, e) H1) : kW D b (va_up M n e) (n + 1) H0 H1 locs := by
  refine ⟨⟨by rw [z, h.1.1]; omega, fun j hj => ?_⟩, Nat.le_trans h.2.1 (by omega), fun x h1 h2 => (o x (Nat.lt_of_lt_of_le h1 h.2.1)).trans (h.2.2.1 x h1 h2), h.2.2.2⟩
  by_cases q : j = n
  · subst q
    rw [show va_up M j e j = e from if_pos rfl]
    exact hn
  · rw [show va_up M n e j = M j from if_neg q]
    have := h.1.2 j (by omega)
    exact this.kept (o _ (by rw [h.1.1]; show b + j < b + n; omega))
theorem k_new (C : kC p s m c args cc nL own D ty) (h : kW D b M n H0 H locs) {ci : Nat} {Cn : String} {T : u_T} {N : Nat} (hc : vwCl[ci]? = some (Cn, T, N)) (hin : ∀ w ∈ u_ws Cn T N, w ∈ kBig) (ty0 : Nat → FieldType) (hty : ∀ k, k < N → parseFieldDescriptor (T k).2.2.1 = some (ty0 k)) {index : Nat} (hcl : Cond.classLink own index Cn ∈ kBig) (hinst : Cond.instantiable Cn N ∈ kBig) (hini : Cond.initialized Cn ∈ kBig) {fs : List Value} (hfs : ∀ j, j < N → defaultValue (ty0 j) = vp_V fs j) (hcells : cells + 1 ≤ R.cells) (hslots : slots + N ≤ R.slots) (hd : decode cc pc = .ok (.new index, 3))
    (kk : ∀ (M1 : Nat → va_E) (H1 : Heap), kW D b M1 (n + 1) H0 H1 locs → M1 n = .inr (ci, fs) → kF [n] M M1 → W p l e R s m args below meth c H1 locs (cells + 1) (slots + N) Q (F0 m (pc + 3) ls (.ref (b + n) :: rest))) : W p l e R s m args below meth c H locs cells slots Q (F0 m pc ls rest) := by
  obtain ⟨hx, hb, -, hown, hts, hK, -⟩ := C
  have hKn := hK.1 ci _ hc
  refine W.newcK hx hb hown (hts _ hcl) (hts _ hinst) (hts _ hini) rfl hd hcells hslots hKn.2.1 (h := b + n) h.1.1 fun H1 kC hkC e1 z1 o1 => ?_
  exact kk (va_up M n (.inr (ci, fs))) H1 (kW_push h (by rw [z1, h.1.1]) (fun q hq => o1 q (by rw [h.1.1] at hq; exact hq)) ⟨_, hc, (u_born ty0 hts hin hKn hkC e1 hty).to hfs⟩) (if_pos rfl) kF_up
theorem k_newI (C : kC p s m c args cc nL own D (kT cI cJ cZ cH cR)) (h : kW D b M n H0 H locs) (ha : Cond.arrayClass .int ∈ kBig) {v : Int32} (N : Nat) (hv : v = nI N) (hN : N * 4 ≤ 536870912) (hcells : cells + 1 ≤ R.cells) (hslots : slots + N ≤ R.slots) (hd : decode cc pc = .ok (.newarray .int, 2))
    (kk : ∀ (M1 : Nat → va_E) (H1 : Heap), kW D b M1 (n + 1) H0 H1 locs → M1 n = .inl (cI, N, .inl (fun _ => 0)) → kF [n] M M1 → W p l e R s m args below meth c H1 locs (cells + 1) (slots + N) Q (F0 m (pc + 2) ls (.ref (b + n) :: rest))) : W p l e R s m args below meth c H locs cells slots Q (F0 m pc ls (.int v :: rest)) := by
  subst hv
  refine va_newaK C.1 C.2.1 (atype := .int) (C.2.2.2.2.1 _ ha) rfl hd rfl (nI_pos (by omega)) (nI_clamp (by omega)) hN hcells hslots (h := b + n) h.1.1 fun H1 cA e1 z1 o1 hAr hNm => ?_
  have hc : cA = cI := Option.some.inj (hNm.symm.trans (C.2.2.2.2.2.1.2 0 _ rfl).2)
  subst hc
  exact kk (va_up M n (.inl (cA, N, .inl (fun _ => 0)))) H1 (kW_push h (by rw [z1, h.1.1]) (fun q hq => o1 q (by rw [h.1.1] at hq; exact hq)) (show H1[b + n]? = some (vp_cell _ _) from e1)) (if_pos rfl) kF_up
theorem k_newJ (C : kC p s m c args cc nL own D (kT cI cJ cZ cH cR)) (h : kW D b M n H0 H locs) (ha : Cond.arrayClass .long ∈ kBig) {v : Int32} (N : Nat) (hv : v = nI N) (hN : N * 8 ≤ 536870912) (hcells : cells + 1 ≤ R.cells) (hslots : slots + N ≤ R.slots) (hd : decode cc pc = .ok (.newarray .long, 2))
    (kk : ∀ (M1 : Nat → va_E) (H1 : Heap), kW D b M1 (n + 1) H0 H1 locs → M1 n = .inl (cJ, N, .inr (.inl (fun _ => 0))) → kF [n] M M1 → W p l e R s m args below meth c H1 locs (cells + 1) (slots + N) Q (F0 m (pc + 2) ls (.ref (b + n) :: rest))) : W p l e R s m args below meth c H locs cells slots Q (F0 m pc ls (.int v :: rest)) := by
  subst hv
  refine va_newaK C.1 C.2.1 (atype := .long) (C.2.2.2.2.1 _ ha) rfl hd rfl (nI_pos (by omega)) (nI_clamp (by omega)) hN hcells hslots (h := b + n) h.1.1 fun H1 cA e1 z1 o1 hAr hNm => ?_
  have hc : cA = cJ := Option.some.inj (hNm.symm.trans (C.2.2.2.2.2.1.2 1 _ rfl).2)
  subst hc
  exact kk (va_up M n (.inl (cA, N, .inr (.inl (fun _ => 0))))) H1 (kW_push h (by rw [z1, h.1.1]) (fun q hq => o1 q (by rw [h.1.1] at hq; exact hq)) (show H1[b + n]? = some (vp_cell _ _) from e1)) (if_pos rfl) kF_up
theorem k_newZ (C : kC p s m c args cc nL own D (kT cI cJ cZ cH cR)) (h : kW D b M n H0 H locs) (ha : Cond.arrayClass .boolean ∈ kBig) {v : Int32} (N : Nat) (hv : v = nI N) (hN : N * 1 ≤ 536870912) (hcells : cells + 1 ≤ R.cells) (hslots : slots + N ≤ R.slots) (hd : decode cc pc = .ok (.newarray .boolean, 2))
    (kk : ∀ (M1 : Nat → va_E) (H1 : Heap), kW D b M1 (n + 1) H0 H1 locs → M1 n = .inl (cZ, N, .inl (fun _ => 0)) → kF [n] M M1 → W p l e R s m args below meth c H1 locs (cells + 1) (slots + N) Q (F0 m (pc + 2) ls (.ref (b + n) :: rest))) : W p l e R s m args below meth c H locs cells slots Q (F0 m pc ls (.int v :: rest)) := by
  subst hv
  refine va_newaK C.1 C.2.1 (atype := .boolean) (C.2.2.2.2.1 _ ha) rfl hd rfl (nI_pos (by omega)) (nI_clamp (by omega)) hN hcells hslots (h := b + n) h.1.1 fun H1 cA e1 z1 o1 hAr hNm => ?_
  have hc : cA = cZ := Option.some.inj (hNm.symm.trans (C.2.2.2.2.2.1.2 2 _ rfl).2)
  subst hc
  exact kk (va_up M n (.inl (cA, N, .inl (fun _ => 0)))) H1 (kW_push h (by rw [z1, h.1.1]) (fun q hq => o1 q (by rw [h.1.1] at hq; exact hq)) (show H1[b + n]? = some (vp_cell _ _) from e1)) (if_pos rfl) kF_up
theorem k_newq (C : kC p s m c args cc nL own D (kT cI cJ cZ cH cR)) (h : kW D b M n H0 H locs) {index : Nat} (hcl : Cond.classLink own index RX0 ∈ kBig) {v : Int32} (N : Nat) (hv : v = nI N) (hN : N * 4 ≤ 536870912) (hcells : cells + 1 ≤ R.cells) (hslots : slots + N ≤ R.slots) (hd : decode cc pc = .ok (.anewarray index, 3))
    (kk : ∀ (M1 : Nat → va_E) (H1 : Heap), kW D b M1 (n + 1) H0 H1 locs → M1 n = .inl (cH, N, .inr (.inr (.inr (.inr (fun _ => none))))) → kF [n] M M1 → W p l e R s m args below meth c H1 locs (cells + 1) (slots + N) Q (F0 m (pc + 3) ls (.ref (b + n) :: rest))) : W p l e R s m args below meth c H locs cells slots Q (F0 m pc ls (.int v :: rest)) := by
  subst hv
  have hz : ((nI N).toNatClampNeg) = N := nI_clamp (by omega)
  refine W.anew C.1 C.2.1 C.2.2.2.1 (C.2.2.2.2.1 _ hcl) (va_AO.use C.2.2.2.2.2.2.1) rfl hd rfl (nI_pos (by omega)) (by rw [hz]; exact hN) hcells (by rw [hz]; exact hslots) fun cA kA comp f1 f2 f3 f4 => ?_
  rw [hz]
  obtain ⟨kA', comp', -, -, -, hnm⟩ := (C.2.2.2.2.2.1.2 3 _ rfl).2
  have hc : cA = cH := Option.some.inj (f1.symm.trans hnm)
  subst hc
  generalize hH1 : H.push ({ cls := cA, slots := Array.replicate N .null, vm := .none } : Cell) = H1
  have z1 : H1.size = H.size + 1 := by rw [← hH1, Array.size_push]
  have e1 : H1[H.size]? = some (arrV cA N (fun _ => .null)) := by rw [← hH1, Array.getElem?_push_size, ← arrV_new]
  have o1 : ∀ q : Nat, q < H.size → H1[q]? = H[q]? := fun q hq => by rw [← hH1, Array.getElem?_push, if_neg (Nat.ne_of_lt hq)]
  have e2 : H1[b + n]? = some (arrV cA N (fun _ => .null)) := by rw [← h.1.1]; exact e1
  have kk' := kk (va_up M n (.inl (cA, N, .inr (.inr (.inr (.inr (fun _ => none))))))) H1 (kW_push h z1 o1 (by show H1[b + n]? = some (vp_cell _ _); rw [vp_cell_q]; exact e2)) (if_pos rfl) kF_up
  rw [← h.1.1] at kk'
  exact kk'
end KR
end
section
theorem kFB {D : va_G} {ty : List (ClassId × FieldType)} {b n : Nat} {M : Nat → va_E} {av : List Value} : FrameBlind (va_Pc av (kPre D ty b M n)) := fun a U g mk q => by
  obtain ⟨q0, qH, qK⟩ := q
  exact ⟨q0, qH, kK.moved (u := U) (U := U.calling g mk a) (Vm.Alike.refl U.vm) qK⟩
theorem kGood {w : Cond} (h : w ∈ kBig) : GoodIn kBig (w :: kBig) := fun x hx => by
  rcases List.mem_cons.mp hx with rfl | hx
  · exact kBig_good _ h
  · exact kBig_good _ hx
section KQ
variable {p : Program} {l : Launch} {e : Env} {R : Room} {s : State} {m : MethodId} {args : Array Value} {below : List Frame} {meth : Method} {c : Code} {H : Heap} {locs : List Loc} {cells slots : Nat} {Q : State → Prop}
variable {cc : ByteArray} {pc nL : Nat} {ls : Array Slot} {rest st0 : List Value} {D : va_G} {own : String} {b n : Nat} {M : Nat → va_E} {H0 : Heap} {ty : List (ClassId × FieldType)} {cI cJ cZ cH cR : ClassId}
variable {y : MethodName} {by_ : ByteArray} {maxL mc ms k fr lo index : Nat} {ret : Option FieldType} {As : List Value}
/-- what a virtual call needs: four words, its room -/
def kV (own C : String) (index : Nat) (y : MethodName) (by_ : ByteArray) (maxL : Nat) (ret : Option FieldType) (k : Nat) : Prop :=
  Cond.methodLink own index y ∈ kBig ∧ Cond.instanceMethod y ∈ kBig ∧ Cond.selects C y y ∈ kBig ∧ Cond.initialized C ∈ kBig ∧ Cond.code y by_ maxL ret ∈ kBig ∧ y.cls = C ∧ y.cls ≠ "java/lang/invoke/MethodHandle" ∧ y.cls ≠ "java/lang/invoke/VarHandle" ∧ (parseMethodDescriptor y.desc).map (fun d => d.parameters.length) = some k
def kSt (own : String) (index : Nat) (y : MethodName) (by_ : ByteArray) (maxL : Nat) (ret : Option FieldType) (k : Nat) : Prop :=
  Cond.methodLink own index y ∈ kBig ∧ Cond.static y ∈ kBig ∧ Cond.initialized y.cls ∈ kBig ∧ Cond.code y by_ maxL ret ∈ kBig ∧ y.cls ≠ "java/lang/invoke/MethodHandle" ∧ y.cls ≠ "java/lang/invoke/VarHandle" ∧ (parseMethodDescriptor y.desc).map (fun d => d.parameters.length) = some k
def kIn (own : String) (index : Nat) (y : MethodName) (by_ : ByteArray) (maxL : Nat) (k : Nat) : Prop :=
  Cond.methodLink own index y ∈ kBig ∧ Cond.instanceMethod y ∈ kBig ∧ Cond.initialized y.cls ∈ kBig ∧ Cond.code y by_ maxL none ∈ kBig ∧ y.name = "<init>" ∧ y.cls ≠ "java/lang/invoke/MethodHandle" ∧ y.cls ≠ "java/lang/invoke/VarHandle" ∧ (parseMethodDescriptor y.desc).map (fun d => d.parameters.length) = some k
theorem k_cwV (hts : ∀ w ∈ kBig, w.before args s = true) {C : String} {rm : Room} (h : kV own C index y by_ maxL ret k) (hrc : rm.cells = mc) (hrs : rm.slots = ms) (hR : rm.frames + 1 ≤ R.frames ∧ 8 + (maxL + 11) + rm.locals ≤ R.locals) : CallW R s args own C index y by_ maxL ret (kw y by_ maxL ret) rm mc ms k := by
  obtain ⟨h1, h2, h3, h4, h5, h6, h7, h8, h9⟩ := h
  subst h6
  exact ⟨callB_of k hts (kGood h5) rfl hrc hrs (hts _ h4) (hts _ h1) ⟨h7, h8, h9⟩ hR, hts _ h2, hts _ h3⟩
theorem k_cwS (hts : ∀ w ∈ kBig, w.before args s = true) {rm : Room} (h : kSt own index y by_ maxL ret k) (hrc : rm.cells = mc) (hrs : rm.slots = ms) (hR : rm.frames + 1 ≤ R.frames ∧ 8 + (maxL + 11) + rm.locals ≤ R.locals) : CallB R s args own index y by_ maxL ret (kw y by_ maxL ret) rm mc ms k ∧ (Cond.static y).before args s = true := by
  obtain ⟨h1, h2, h4, h5, h7, h8, h9⟩ := h
  exact ⟨callB_of k hts (kGood h5) rfl hrc hrs (hts _ h4) (hts _ h1) ⟨h7, h8, h9⟩ hR, hts _ h2⟩
theorem k_cwI (hts : ∀ w ∈ kBig, w.before args s = true) {rm : Room} (h : kIn own index y by_ maxL k) (hrc : rm.cells = mc) (hrs : rm.slots = ms) (hR : rm.frames + 1 ≤ R.frames ∧ 8 + (maxL + 11) + rm.locals ≤ R.locals) : CallB R s args own index y by_ maxL none (kw y by_ maxL none) rm mc ms k ∧ y.name = "<init>" ∧ (Cond.instanceMethod y).before args s = true := by
  obtain ⟨h1, h2, h4, h5, h6, h7, h8, h9⟩ := h
  exact ⟨callB_of k hts (kGood h5) rfl hrc hrs (hts _ h4) (hts _ h1) ⟨h7, h8, h9⟩ hR, h6, hts _ h2⟩
theorem k_preV (C : kC p s m c args cc nL own D ty) (h : kW D b M n H0 H locs) (i : Nat) (hi : i < n) {ci : Nat} {fs : List Value} (he : M i = .inr (ci, fs)) {Cn : String} {T : u_T} {N : Nat} (hc : vwCl[ci]? = some (Cn, T, N)) : PreV s H Cn (b + i) (va_Pc (.ref (b + i) :: As) (kPre D ty b M n)) As :=
  ⟨kFB, va_recv (q := (Cn, T, N)) (fs := fs) C.2.2.2.2.2.1 (kP1 h.1 hi) hc (q0 := 0) (by rw [he]; rfl), fun U hU hW => ⟨rfl, by rw [hU]; exact h.1, kK.moved hW.alike C.2.2.2.2.2⟩⟩
theorem k_preS (C : kC p s m c args cc nL own D ty) (h : kW D b M n H0 H locs) : PreS s H (va_Pc As (kPre D ty b M n)) As :=
  ⟨kFB, fun U hU hW => ⟨rfl, by rw [hU]; exact h.1, kK.moved hW.alike C.2.2.2.2.2⟩⟩
theorem kA_ok (h : kW D b M n H0 H locs) (hb0 : b ≤ H0.size) : ∀ q, q < H.size → kA b q → kA b q := fun _ _ h => h
/-- virtual calls -/
theorem k_vi (C : kC p s m c args cc nL own D ty) (h : kW D b M n H0 H locs) (i : Nat) (hi : i < n) {ci : Nat} {fs : List Value} (he : M i = .inr (ci, fs)) {Cn : String} {T : u_T} {N : Nat} (hc : vwCl[ci]? = some (Cn, T, N)) {post : Int32 → ((Nat → va_E) × Nat) → Prop} (hM : Met l y (kw y by_ maxL ret) ({ frames := fr, cells := mc, slots := ms, locals := lo }) (va_Pc (.ref (b + i) :: As) (kPre D ty b M n)) (va_Qi post (kB D ty b) (kA b)) mc ms (kA b)) (hV : kV own Cn index y by_ maxL ret As.length) (hst : st0 = As.reverse ++ .ref (b + i) :: rest) (hls : ls.size = nL) (hR : fr + 1 ≤ R.frames ∧ 8 + (maxL + 11) + lo ≤ R.locals) (hr8 : (rest.map fun v => v.category).sum ≤ 8) (hf : cells + mc ≤ R.cells ∧ slots + ms ≤ R.slots) (hd : decode cc pc = .ok (.invokevirtual index, 3))
    (kk : ∀ (r : Int32) (M1 : Nat → va_E) (n1 : Nat) (H1 : Heap) (locs1 : List Loc), post r (M1, n1) → kW D b M1 n1 H0 H1 locs1 → W p l e R s m args below meth c H1 locs1 (cells + mc) (slots + ms) Q (F0 m (pc + 3) ls (.int r :: rest))) : W p l e R s m args below meth c H locs cells slots Q (F0 m pc ls st0) := by
  refine va_calli (va_runV ⟨C.1, C.2.1, C.2.2.1, C.2.2.2.1, C.2.2.2.2.1⟩ hM (k_cwV C.2.2.2.2.1 hV rfl rfl hR) (k_preV C h i hi he hc) rfl rfl hls hst (lv_room hr8) hd hf) h.2 (fun q _ h => h) (fun q h => h) (fun r u t H1 locs1 ht hvm hw hB hz1 hk1 hS => ?_)
  exact kk r u.1 u.2 H1 locs1 hw ⟨by rw [← ht]; exact hB.1, hS⟩
theorem k_vl (C : kC p s m c args cc nL own D ty) (h : kW D b M n H0 H locs) (i : Nat) (hi : i < n) {ci : Nat} {fs : List Value} (he : M i = .inr (ci, fs)) {Cn : String} {T : u_T} {N : Nat} (hc : vwCl[ci]? = some (Cn, T, N)) {post : Int64 → ((Nat → va_E) × Nat) → Prop} (hM : Met l y (kw y by_ maxL ret) ({ frames := fr, cells := mc, slots := ms, locals := lo }) (va_Pc (.ref (b + i) :: As) (kPre D ty b M n)) (va_Ql post (kB D ty b) (kA b)) mc ms (kA b)) (hV : kV own Cn index y by_ maxL ret As.length) (hst : st0 = As.reverse ++ .ref (b + i) :: rest) (hls : ls.size = nL) (hR : fr + 1 ≤ R.frames ∧ 8 + (maxL + 11) + lo ≤ R.locals) (hr8 : (rest.map fun v => v.category).sum ≤ 8) (hf : cells + mc ≤ R.cells ∧ slots + ms ≤ R.slots) (hd : decode cc pc = .ok (.invokevirtual index, 3))
    (kk : ∀ (r : Int64) (M1 : Nat → va_E) (n1 : Nat) (H1 : Heap) (locs1 : List Loc), post r (M1, n1) → kW D b M1 n1 H0 H1 locs1 → W p l e R s m args below meth c H1 locs1 (cells + mc) (slots + ms) Q (F0 m (pc + 3) ls (.long r :: rest))) : W p l e R s m args below meth c H locs cells slots Q (F0 m pc ls st0) := by
  refine va_calll (va_runV ⟨C.1, C.2.1, C.2.2.1, C.2.2.2.1, C.2.2.2.2.1⟩ hM (k_cwV C.2.2.2.2.1 hV rfl rfl hR) (k_preV C h i hi he hc) rfl rfl hls hst (lv_room hr8) hd hf) h.2 (fun q _ h => h) (fun q h => h) (fun r u t H1 locs1 ht hvm hw hB hz1 hk1 hS => ?_)
  exact kk r u.1 u.2 H1 locs1 hw ⟨by rw [← ht]; exact hB.1, hS⟩
theorem k_vv (C : kC p s m c args cc nL own D ty) (h : kW D b M n H0 H locs) (i : Nat) (hi : i < n) {ci : Nat} {fs : List Value} (he : M i = .inr (ci, fs)) {Cn : String} {T : u_T} {N : Nat} (hc : vwCl[ci]? = some (Cn, T, N)) {post : ((Nat → va_E) × Nat) → Prop} (hM : Met l y (kw y by_ maxL ret) ({ frames := fr, cells := mc, slots := ms, locals := lo }) (va_Pc (.ref (b + i) :: As) (kPre D ty b M n)) (va_Qv post (kB D ty b) (kA b)) mc ms (kA b)) (hV : kV own Cn index y by_ maxL ret As.length) (hst : st0 = As.reverse ++ .ref (b + i) :: rest) (hls : ls.size = nL) (hR : fr + 1 ≤ R.frames ∧ 8 + (maxL + 11) + lo ≤ R.locals) (hr8 : (rest.map fun v => v.category).sum ≤ 8) (hf : cells + mc ≤ R.cells ∧ slots + ms ≤ R.slots) (hd : decode cc pc = .ok (.invokevirtual index, 3))
    (kk : ∀ (M1 : Nat → va_E) (n1 : Nat) (H1 : Heap) (locs1 : List Loc), post (M1, n1) → kW D b M1 n1 H0 H1 locs1 → W p l e R s m args below meth c H1 locs1 (cells + mc) (slots + ms) Q (F0 m (pc + 3) ls rest)) : W p l e R s m args below meth c H locs cells slots Q (F0 m pc ls st0) := by
  refine va_callv (va_runV ⟨C.1, C.2.1, C.2.2.1, C.2.2.2.1, C.2.2.2.2.1⟩ hM (k_cwV C.2.2.2.2.1 hV rfl rfl hR) (k_preV C h i hi he hc) rfl rfl hls hst (lv_room hr8) hd hf) h.2 (fun q _ h => h) (fun q h => h) (fun u t H1 locs1 ht hvm hw hB hz1 hk1 hS => ?_)
  exact kk u.1 u.2 H1 locs1 hw ⟨by rw [← ht]; exact hB.1, hS⟩
/-- constructors -/
theorem k_cv (C : kC p s m c args cc nL own D ty) (h : kW D b M n H0 H locs) {i : Nat} {post : ((Nat → va_E) × Nat) → Prop} (hM : Met l y (kw y by_ maxL none) ({ frames := fr, cells := mc, slots := ms, locals := lo }) (va_Pc (.ref (b + i) :: As) (kPre D ty b M n)) (va_Qv post (kB D ty b) (kA b)) mc ms (kA b)) (hV : kIn own index y by_ maxL As.length) (hst : st0 = As.reverse ++ .ref (b + i) :: rest) (hls : ls.size = nL) (hR : fr + 1 ≤ R.frames ∧ 8 + (maxL + 11) + lo ≤ R.locals) (hr8 : (rest.map fun v => v.category).sum ≤ 8) (hf : cells + mc ≤ R.cells ∧ slots + ms ≤ R.slots) (hd : decode cc pc = .ok (.invokespecial index, 3))
    (kk : ∀ (M1 : Nat → va_E) (n1 : Nat) (H1 : Heap) (locs1 : List Loc), post (M1, n1) → kW D b M1 n1 H0 H1 locs1 → W p l e R s m args below meth c H1 locs1 (cells + mc) (slots + ms) Q (F0 m (pc + 3) ls rest)) : W p l e R s m args below meth c H locs cells slots Q (F0 m pc ls st0) := by
  refine va_callv (va_runI ⟨C.1, C.2.1, C.2.2.1, C.2.2.2.1, C.2.2.2.2.1⟩ hM (k_cwI C.2.2.2.2.1 hV rfl rfl hR) (k_preS C h) rfl rfl hls hst (lv_room hr8) hd hf) h.2 (fun q _ h => h) (fun q h => h) (fun u t H1 locs1 ht hvm hw hB hz1 hk1 hS => ?_)
  exact kk u.1 u.2 H1 locs1 hw ⟨by rw [← ht]; exact hB.1, hS⟩
/-- static calls -/
theorem k_si (C : kC p s m c args cc nL own D ty) (h : kW D b M n H0 H locs) {post : Int32 → ((Nat → va_E) × Nat) → Prop} (hM : Met l y (kw y by_ maxL ret) ({ frames := fr, cells := mc, slots := ms, locals := lo }) (va_Pc As (kPre D ty b M n)) (va_Qi post (kB D ty b) (kA b)) mc ms (kA b)) (hV : kSt own index y by_ maxL ret As.length) (hst : st0 = As.reverse ++ rest) (hls : ls.size = nL) (hR : fr + 1 ≤ R.frames ∧ 8 + (maxL + 11) + lo ≤ R.locals) (hr8 : (rest.map fun v => v.category).sum ≤ 8) (hf : cells + mc ≤ R.cells ∧ slots + ms ≤ R.slots) (hd : decode cc pc = .ok (.invokestatic index, 3))
    (kk : ∀ (r : Int32) (M1 : Nat → va_E) (n1 : Nat) (H1 : Heap) (locs1 : List Loc), post r (M1, n1) → kW D b M1 n1 H0 H1 locs1 → W p l e R s m args below meth c H1 locs1 (cells + mc) (slots + ms) Q (F0 m (pc + 3) ls (.int r :: rest))) : W p l e R s m args below meth c H locs cells slots Q (F0 m pc ls st0) := by
  refine va_calli (va_runS ⟨C.1, C.2.1, C.2.2.1, C.2.2.2.1, C.2.2.2.2.1⟩ hM (k_cwS C.2.2.2.2.1 hV rfl rfl hR) (k_preS C h) rfl rfl hls hst (lv_room hr8) hd hf) h.2 (fun q _ h => h) (fun q h => h) (fun r u t H1 locs1 ht hvm hw hB hz1 hk1 hS => ?_)
  exact kk r u.1 u.2 H1 locs1 hw ⟨by rw [← ht]; exact hB.1, hS⟩
theorem k_sv (C : kC p s m c args cc nL own D ty) (h : kW D b M n H0 H locs) {post : ((Nat → va_E) × Nat) → Prop} (hM : Met l y (kw y by_ maxL ret) ({ frames := fr, cells := mc, slots := ms, locals := lo }) (va_Pc As (kPre D ty b M n)) (va_Qv post (kB D ty b) (kA b)) mc ms (kA b)) (hV : kSt own index y by_ maxL ret As.length) (hst : st0 = As.reverse ++ rest) (hls : ls.size = nL) (hR : fr + 1 ≤ R.frames ∧ 8 + (maxL + 11) + lo ≤ R.locals) (hr8 : (rest.map fun v => v.category).sum ≤ 8) (hf : cells + mc ≤ R.cells ∧ slots + ms ≤ R.slots) (hd : decode cc pc = .ok (.invokestatic index, 3))
    (kk : ∀ (M1 : Nat → va_E) (n1 : Nat) (H1 : Heap) (locs1 : List Loc), post (M1, n1) → kW D b M1 n1 H0 H1 locs1 → W p l e R s m args below meth c H1 locs1 (cells + mc) (slots + ms) Q (F0 m (pc + 3) ls rest)) : W p l e R s m args below meth c H locs cells slots Q (F0 m pc ls st0) := by
  refine va_callv (va_runS ⟨C.1, C.2.1, C.2.2.1, C.2.2.2.1, C.2.2.2.2.1⟩ hM (k_cwS C.2.2.2.2.1 hV rfl rfl hR) (k_preS C h) rfl rfl hls hst (lv_room hr8) hd hf) h.2 (fun q _ h => h) (fun q h => h) (fun u t H1 locs1 ht hvm hw hB hz1 hk1 hS => ?_)
  exact kk u.1 u.2 H1 locs1 hw ⟨by rw [← ht]; exact hB.1, hS⟩
/-- returns -/
theorem k_iret {post : Int32 → ((Nat → va_E) × Nat) → Prop} {v : Int32} (C : kC p s m c args cc nL own D ty) (h : kW D b M n s.heap H locs) (hr : meth.sig.returnType = some .int) (hlocks : meth.locks = false) (hp : post v (M, n)) (hd : decode cc pc = .ok (.ireturn, 1)) : W p l e R s m args below meth c H locs cells slots (MQ below (va_Qi post (kB D ty b) (kA b)) args s cells slots (kA b)) (F0 m pc ls [.int v]) :=
  W.iret (v := v) C.1 C.2.1 hr (fun t ht hW => ⟨⟨v, (M, n), rfl, hp, by rw [ht]; exact h.1, kK.moved hW.alike C.2.2.2.2.2⟩, h.2.F ht⟩) h.2.2.2 hd hlocks
theorem k_zret {post : Int32 → ((Nat → va_E) × Nat) → Prop} {v : Int32} (C : kC p s m c args cc nL own D ty) (h : kW D b M n s.heap H locs) (hr : meth.sig.returnType = some .boolean) (hlocks : meth.locks = false) (hv : v = 0 ∨ v = 1) (hp : post v (M, n)) (hd : decode cc pc = .ok (.ireturn, 1)) : W p l e R s m args below meth c H locs cells slots (MQ below (va_Qi post (kB D ty b) (kA b)) args s cells slots (kA b)) (F0 m pc ls [.int v]) :=
  W.zret (v := v) C.1 C.2.1 hr (by rcases hv with rfl | rfl <;> rfl) (fun t ht hW => ⟨⟨v, (M, n), rfl, hp, by rw [ht]; exact h.1, kK.moved hW.alike C.2.2.2.2.2⟩, h.2.F ht⟩) h.2.2.2 hd hlocks
theorem k_lret {post : Int64 → ((Nat → va_E) × Nat) → Prop} {v : Int64} (C : kC p s m c args cc nL own D ty) (h : kW D b M n s.heap H locs) (hr : meth.sig.returnType = some .long) (hlocks : meth.locks = false) (hp : post v (M, n)) (hd : decode cc pc = .ok (.lreturn, 1)) : W p l e R s m args below meth c H locs cells slots (MQ below (va_Ql post (kB D ty b) (kA b)) args s cells slots (kA b)) (F0 m pc ls [.long v]) :=
  W.lret (v := v) C.1 C.2.1 hr (fun t ht hW => ⟨⟨v, (M, n), rfl, hp, by rw [ht]; exact h.1, kK.moved hW.alike C.2.2.2.2.2⟩, h.2.F ht⟩) h.2.2.2 hd hlocks
theorem k_vret {post : ((Nat → va_E) × Nat) → Prop} (C : kC p s m c args cc nL own D ty) (h : kW D b M n s.heap H locs) (hr : meth.sig.returnType = none) (hlocks : meth.locks = false) (hp : post (M, n)) (hd : decode cc pc = .ok (.return_, 1)) : W p l e R s m args below meth c H locs cells slots (MQ below (va_Qv post (kB D ty b) (kA b)) args s cells slots (kA b)) (F0 m pc ls []) :=
  W.vret C.1 C.2.1 hr (fun t ht hW => ⟨⟨(M, n), rfl, hp, by rw [ht]; exact h.1, kK.moved hW.alike C.2.2.2.2.2⟩, h.2.F ht⟩) h.2.2.2 hd hlocks
end KQ
theorem k_ofW {l : Launch} {y : MethodName} {ws ws' : List Cond} {rm : Room} {Pc : Array Value → State → Prop} {Qc : Array Value → State → Outcome → State → Prop} {mc ms : Nat} {free : Addr → Prop} {cc : ByteArray} {maxL : Nat} {ret : Option FieldType}
    (hy : plainFor y = true) (hw : ws = Cond.code y cc maxL ret :: ws')
    (body : ∀ p e s m args below meth c s₁, BodyLoose p l y (headSpec ws rm) cc maxL ret e s m args below meth c s₁ → c.maxLocals = maxL → Pc args s →
      W p l e (headSpec ws rm).room s m args below meth c s.heap [] 0 0 (MQ below Qc args s mc ms free) (entryFrame m args maxL)) : Met l y ws rm Pc Qc mc ms free := by
  refine MetFree.of_bodySF (code := cc) (maxLocals := maxL) (ret := ret) hy ?_ ?_
  · intro args s m h hn
    obtain ⟨meth, c, h1, h2, h3, h4, h5, h6, -, -⟩ := Cond.code_spec hn (atoms_spec (ws := ws) h _ (by rw [hw]; exact List.mem_cons_self))
    exact ⟨meth, c, h1, h2, h3, h4, h5, h6⟩
  · intro p e s m args below meth c s₁ B hml hP _
    have hh0 : s₁.heap = s.heap := by rw [B.state]; rfl
    obtain ⟨t, a1, o, b1, b2, b3⟩ := body p e s m args below meth c s₁ B hml hP s₁ hh0 (Stand.of_body B)
    exact ⟨t, o, a1, b1, b2, ⟨b3.1, b3.2⟩⟩
/-- a contract out of a walk of the body -/
theorem k_met {l : Launch} {y : MethodName} {cc : ByteArray} {maxL : Nat} {ret : Option FieldType} {D : va_G} {ty : List (ClassId × FieldType)} {b n : Nat} {M : Nat → va_E} {rm : Room} {av : List Value} {Qc : Array Value → State → Outcome → State → Prop} {mc ms : Nat} (hy : plainFor y = true) (hav : (lg_sl av).length ≤ maxL)
    (body : ∀ (p : Program) (e : Env) (s : State) (m : MethodId) (below : List Frame) (meth : Method) (c : Code) (ls : Array Slot), kC p s m c av.toArray cc maxL y.cls D ty → kW D b M n s.heap s.heap [] → meth.sig.returnType = ret → meth.locks = false → meth.name = y.name → lv_has ls maxL (lv_args 0 av) → W p l e rm s m av.toArray below meth c s.heap [] 0 0 (MQ below Qc av.toArray s mc ms (kA b)) (F0 m 0 ls [])) : Met l y (kw y cc maxL ret) rm (va_Pc av (kPre D ty b M n)) Qc mc ms (kA b) := by
  refine k_ofW (cc := cc) (maxL := maxL) (ret := ret) hy rfl ?_
  intro p e s m args below meth c s₁ B hml hv
  obtain ⟨rfl, hH, hK⟩ := hv
  have hts := atoms_spec (ws := kw y cc maxL ret) B.pre
  have hl := lv_entry av (n := maxL) hav
  rw [lg_entry_eq]
  generalize (lg_sl av ++ List.replicate (maxL - (lg_sl av).length) Slot.unset).toArray = ls at hl ⊢
  exact body p e s m below meth c ls ⟨B.exec, B.bytes, hml, findClass_of_methodNamed B.named, fun w h => hts w (List.mem_cons_of_mem _ h), hK⟩ ⟨hH, va_S.rf⟩ B.returns B.notSynchronized (name_of_methodNamed B.named B.method).1 hl
end
section
theorem vr_outer (c : ClassId) (N h0 : Nat) : ∀ i : Nat, Jvm.Free.Multi.outerC c N h0 i = arrV c N (fun j => va_rf (if j < i then some (h0 + 1 + j) else none))
  | 0 => by
    show ({ cls := c, slots := Array.replicate N .null, vm := .none } : Cell) = _
    rw [arrV_new]
    refine congrArg (arrV c N) (funext fun j => ?_)
    simp [va_rf]
  | i + 1 => by
    show (Jvm.Free.Multi.outerC c N h0 i).setSlot i (.ref (h0 + 1 + i)) = _
    rw [vr_outer c N h0 i, arrV_store]
    refine congrArg (arrV c N) (funext fun j => ?_)
    by_cases e : j = i
    · subst e
      simp [updV, va_rf]
    · by_cases h : j < i
      · simp [updV, e, h, Nat.lt_succ_of_lt h]
      · simp [updV, e, h, show ¬ j < i + 1 by omega]
section KM
variable {p : Program} {l : Launch} {e : Env} {R : Room} {s : State} {m : MethodId} {args : Array Value} {below : List Frame} {meth : Method} {c : Code} {H : Heap} {locs : List Loc} {cells slots : Nat} {Q : State → Prop}
variable {cc : ByteArray} {pc nL : Nat} {ls : Array Slot} {rest : List Value} {D : va_G} {own : String} {b n : Nat} {M : Nat → va_E} {H0 : Heap} {cI cJ cZ cH cR : ClassId}
/-- new int[N][K] -/
theorem k_mna (C : kC p s m c args cc nL own D (kT cI cJ cZ cH cR)) (h : kW D b M n H0 H locs) {index : Nat} (hcl : Cond.classLink own index ("[" ++ (FieldType.array .int).toString) ∈ kBig) (ha : Cond.arrayClass .int ∈ kBig) {v w : Int32} (N K : Nat) (hv : v = nI N) (hw : w = nI K) (hN : N < 1000) (hK : K < 1000) (hcells : cells + (1 + N) ≤ R.cells) (hslots : slots + (N + N * K) ≤ R.slots) (hd : decode cc pc = .ok (.multianewarray index 2, 4))
    (kk : ∀ (M1 : Nat → va_E) (H1 : Heap), kW D b M1 (n + 1 + N) H0 H1 locs → M1 n = .inl (cR, N, .inr (.inr (.inr (.inr (fun i => if i < N then some (b + n + 1 + i) else none))))) → (∀ i, i < N → M1 (n + 1 + i) = .inl (cI, K, .inl (fun _ => 0))) → (∀ i, i < n → M1 i = M i) → W p l e R s m args below meth c H1 locs (cells + 1 + N) (slots + N + N * K) Q (F0 m (pc + 4) ls (.ref (b + n) :: rest))) : W p l e R s m args below meth c H locs cells slots Q (F0 m pc ls (.int w :: .int v :: rest)) := by
  subst hv
  subst hw
  have zN : ((nI N).toNatClampNeg) = N := nI_clamp (by omega)
  have zK : ((nI K).toNatClampNeg) = K := nI_clamp (by omega)
  intro T hT Xs
  obtain ⟨vm₁, cA, comp, -, fA, fC, hO, -, X', step⟩ := Xs.multianewarray2F C.1 C.2.2.2.1 (C.2.2.2.2.1 _ hcl) (ty := .int) (show (Cond.arrayOver (.array .int)).before args s = true from C.2.2.2.2.2.2.2) (C.2.2.2.2.1 _ ha) (g := F0 m pc ls (.int (nI K) :: .int (nI N) :: rest)) rfl (by rw [C.2.1]; exact hd) rfl (nI_pos (by omega)) (nI_pos (by omega)) (by omega) (by rw [zK]; show K * 4 ≤ _; omega) (by omega) rfl rfl (by rw [zN]; exact hcells) (by rw [zN, zK]; exact hslots)
  rw [zN, zK] at X' step
  have hcI : comp = cI := Option.some.inj (fC.symm.trans (C.2.2.2.2.2.1.2 0 _ rfl).2)
  have hcR : cA = cR := Option.some.inj (fA.symm.trans (C.2.2.2.2.2.1.2 4 _ rfl).2)
  subst hcI
  subst hcR
  generalize hF : Jvm.Free.Multi.fill (T.setVm vm₁) cA comp N K (defaultValue .int) N = F at X' step
  have hTh : (T.setVm vm₁).heap = H := hT
  obtain ⟨f1, f2, -, -⟩ := Jvm.Free.Multi.fill_facts (T.setVm vm₁) cA comp N K (defaultValue .int) N
  rw [hF, hTh] at f1 f2
  have hold : ∀ x : Nat, x < H.size → F.heap[x]? = H[x]? := fun x hx => by
    have := Jvm.Free.Multi.fill_old (T.setVm vm₁) cA comp N K (defaultValue .int) (a := x) (by rw [hTh]; exact hx) N
    rw [hF, hTh] at this
    exact this
  have hrow : ∀ j : Nat, j < N → F.heap[H.size + 1 + j]? = some (Jvm.Free.Multi.innerC comp K (defaultValue .int)) := fun j hj => by
    have := Jvm.Free.Multi.fill_inner (T.setVm vm₁) cA comp N K (defaultValue .int) N j hj
    rw [hF, hTh] at this
    exact this
  have hin : Jvm.Free.Multi.innerC comp K (defaultValue .int) = vp_cell comp (K, .inl (fun _ => 0)) := by
    rw [vp_cell_i]
    exact arrV_new ..
  rw [hin] at hrow
  rw [vr_outer] at f2
  have hsz : H.size = b + n := h.1.1
  have M9 : ∃ M1 : Nat → va_E, M1 n = .inl (cA, N, .inr (.inr (.inr (.inr (fun i => if i < N then some (b + n + 1 + i) else none))))) ∧ (∀ i, i < N → M1 (n + 1 + i) = .inl (comp, K, .inl (fun _ => 0))) ∧ (∀ i, i < n → M1 i = M i) := by
    refine ⟨fun i => if i < n then M i else if i = n then .inl (cA, N, .inr (.inr (.inr (.inr (fun i => if i < N then some (b + n + 1 + i) else none))))) else .inl (comp, K, .inl (fun _ => 0)), ?_, ?_, ?_⟩
    · simp
    · intro i _
      simp only []
      rw [if_neg (by omega), if_neg (by omega)]
    · intro i hi
      simp only []
      rw [if_pos hi]
  obtain ⟨M1, m1, m2, m3⟩ := M9
  have hH : ∀ i, i < n + 1 + N → va_at D vwCl (b + i, M1 i) F.heap := by
    intro i hi
    by_cases q : i < n
    · rw [m3 i q]
      exact (h.1.2 i q).kept (hold _ (by rw [hsz]; show b + i < b + n; omega))
    · by_cases q2 : i = n
      · subst q2
        rw [m1]
        show F.heap[b + i]? = some (vp_cell _ _)
        rw [vp_cell_q, ← hsz]
        exact f2
      · obtain ⟨j, rfl⟩ : ∃ j, i = n + 1 + j := ⟨i - (n + 1), by omega⟩
        rw [m2 j (by omega)]
        have := hrow j (by omega)
        rw [hsz, show b + n + 1 + j = b + (n + 1 + j) by omega] at this
        exact this
  obtain ⟨t, a1, b1⟩ := kk M1 F.heap ⟨⟨by rw [f1, hsz]; omega, hH⟩, by rw [f1]; have := h.2.1; omega, fun x h1 h2 => (hold x (Nat.lt_of_lt_of_le h1 h.2.1)).trans (h.2.2.1 x h1 h2), h.2.2.2⟩ m1 m2 m3 F rfl X'
  refine ⟨t, step t ?_, b1⟩
  have e : T.heap.size = b + n := by rw [hT]; exact hsz
  rw [e]
  exact a1
/-- System.arraycopy over ints -/
theorem k_copyi (C : kC p s m c args cc nL own D (kT cI cJ cZ cH cR)) (h : kW D b M n H0 H locs) (hls : ls.size = nL) {index : Nat} (hl : Cond.methodLink own index arraycopyName ∈ kBig) (hnat : Cond.native arraycopyName ∈ kBig) (hstat : Cond.static arraycopyName ∈ kBig) (hini : Cond.initialized "java/lang/System" ∈ kBig) (i0 i1 : Nat) (hi0 : i0 < n) (hi1 : i1 < n) {n0 n1 : Nat} {f g : Nat → Int32} (he0 : M i0 = .inl (cI, n0, .inl f)) (he1 : M i1 = .inl (cI, n1, .inl g)) {sp dp k : Nat} (h4 : sp + k ≤ n0) (h5 : dp + k ≤ n1) (hn0 : n0 < 2 ^ 31) (hn1 : n1 < 2 ^ 31)
    (hframes : 1 ≤ R.frames) (hlocals : (rest.map fun v => v.category).sum + (nativeFrameWords "java/lang/System" "arraycopy" 5 + 11) ≤ R.locals) (hd : decode cc pc = .ok (.invokestatic index, 3))
    (kk : ∀ (M1 : Nat → va_E) (H1 : Heap) (locs1 : List Loc), kW D b M1 n H0 H1 locs1 → M1 i1 = .inl (cI, n1, .inl (va_cpy f g sp dp k)) → kF [i1] M M1 → W p l e R s m args below meth c H1 locs1 cells slots Q (F0 m (pc + 3) ls rest)) : W p l e R s m args below meth c H locs cells slots Q (F0 m pc ls (.int (nI k) :: .int (nI dp) :: .ref (b + i1) :: .int (nI sp) :: .ref (b + i0) :: rest)) := by
  have z1 : ((nI sp).toNatClampNeg) = sp := nI_clamp (by omega)
  have z2 : ((nI dp).toNatClampNeg) = dp := nI_clamp (by omega)
  have z3 : ((nI k).toNatClampNeg) = k := nI_clamp (by omega)
  have t1 : (nI sp).toInt = (sp : Int) := nI_toInt (by omega)
  have t2 : (nI dp).toInt = (dp : Int) := nI_toInt (by omega)
  have t3 : (nI k).toInt = (k : Int) := nI_toInt (by omega)
  intro T hT X
  have hc0 : H[b + i0]? = some (vp_cell cI (n0, .inl f)) := kP1 h.1 hi0 0 (b + i0, .inl (cI, n0, .inl f)) (by rw [he0]; rfl)
  have hc1 : H[b + i1]? = some (vp_cell cI (n1, .inl g)) := kP1 h.1 hi1 0 (b + i1, .inl (cI, n1, .inl g)) (by rw [he1]; rfl)
  obtain ⟨-, k0, hk0, cm0, hkk0⟩ := (C.2.2.2.2.2.1.2 0 _ rfl).1 n0 (fun j => .int (f j))
  obtain ⟨-, k1, hk1, cm1, hkk1⟩ := (C.2.2.2.2.2.1.2 0 _ rfl).1 n1 (fun j => .int (g j))
  obtain ⟨vm', X', step⟩ := X.arraycopy C.1 C.2.2.2.1 (C.2.2.2.2.1 _ hl) (C.2.2.2.2.1 _ hnat) (C.2.2.2.2.1 _ hstat) (C.2.2.2.2.1 _ hini) (src := b + i0) (dst := b + i1) (cs := vp_cell cI (n0, .inl f)) (cd := vp_cell cI (n1, .inl g)) (srcPos := nI sp) (destPos := nI dp) (n := nI k) (by rw [hT]; exact hc0) (by rw [hT]; exact hc1)
    (fun _ h => by cases h) (fun _ h => by cases h) (fun h => by cases h) (fun h => by cases h) hk0 hk1 hkk0 hkk1 (by simp [refKind]) (nI_pos (by omega)) (nI_pos (by omega)) (nI_pos (by omega))
    (by rw [t1, t3]; show ¬ _ > ((arrV cI n0 (fun j => .int (f j))).slots.size : Int); rw [arrV_size]; omega)
    (by rw [t2, t3]; show ¬ _ > ((arrV cI n1 (fun j => .int (g j))).slots.size : Int); rw [arrV_size]; omega)
    (fun vm₁ _ i hi => by
      rw [z3] at hi
      have e : (vp_cell cI (n0, .inl f)).slots.getD ((nI sp).toNatClampNeg + i) .null = .int (f (sp + i)) := by
        show (arrV cI n0 (fun j => .int (f j))).slots.getD _ _ = _
        rw [z1, Array.getD_eq_getD_getElem?, arrV_read _ _ (by omega)]
        rfl
      refine ⟨?_, ?_⟩
      · rw [e]
        rfl
      · rw [e]
        exact trivial)
    (g := F0 m pc ls (.int (nI k) :: .int (nI dp) :: .ref (b + i1) :: .int (nI sp) :: .ref (b + i0) :: rest)) rfl (by rw [C.2.2.1]; exact hls) (rest := rest) rfl (by rw [C.2.1]; exact hd) hframes (by show 2 * 0 + _ + _ ≤ _; omega)
  have e1 : copied (vp_cell cI (n0, .inl f)) (vp_cell cI (n1, .inl g)) (nI sp) (nI dp) (nI k) = vp_cell cI (n1, .inl (va_cpy f g sp dp k)) := by
    have e9 : copied (vp_cell cI (n0, .inl f)) (vp_cell cI (n1, .inl g)) (nI sp) (nI dp) (nI k) = vp_cell cI (n1, .inl (va_cpy f g (nI sp).toNatClampNeg (nI dp).toNatClampNeg (nI k).toNatClampNeg)) := va_copied (fun z => .int z) cI cI f g (by rw [z1, z3]; exact h4)
    rw [z1, z2, z3] at e9
    exact e9
  rw [e1] at X' step
  have hlt : b + i1 < H.size := (Array.getElem?_eq_some_iff.mp hc1).1
  have hheap : ((T.setVm vm').setCell (b + i1) (vp_cell cI (n1, .inl (va_cpy f g sp dp k)))).heap = H.setIfInBounds (b + i1) (vp_cell cI (n1, .inl (va_cpy f g sp dp k))) := by rw [← hT]; rfl
  have oq : ∀ q : Nat, q ≠ b + i1 → (H.setIfInBounds (b + i1) (vp_cell cI (n1, .inl (va_cpy f g sp dp k))))[q]? = H[q]? := fun q hq => by simp [Array.getElem?_setIfInBounds, Ne.symm hq]
  obtain ⟨t, a1, b1⟩ := kk (va_up M i1 (.inl (cI, n1, .inl (va_cpy f g sp dp k)))) _ _ ⟨kH_up h.1 (by simp) oq (show (H.setIfInBounds (b + i1) _)[b + i1]? = some _ by simp [Array.getElem?_setIfInBounds, hlt]), ⟨by simp; exact h.2.1, fun q g1 g2 => by
      rw [oq q (fun e => g2 (by rw [e]; exact Nat.le_add_right _ _))]
      exact h.2.2.1 q g1 g2, fun q hq => by
      rcases List.mem_append.mp hq with h9 | h9
      · exact h.2.2.2 q h9
      · obtain ⟨z, -, hz⟩ := List.mem_map.mp h9
        rw [← hz]
        exact Nat.le_add_right _ _⟩⟩ (if_pos rfl) kF_up _ hheap X'
  exact ⟨t, step t a1, b1⟩
theorem k_copyl (C : kC p s m c args cc nL own D (kT cI cJ cZ cH cR)) (h : kW D b M n H0 H locs) (hls : ls.size = nL) {index : Nat} (hl : Cond.methodLink own index arraycopyName ∈ kBig) (hnat : Cond.native arraycopyName ∈ kBig) (hstat : Cond.static arraycopyName ∈ kBig) (hini : Cond.initialized "java/lang/System" ∈ kBig) (i0 i1 : Nat) (hi0 : i0 < n) (hi1 : i1 < n) {n0 n1 : Nat} {f g : Nat → Int64} (he0 : M i0 = .inl (cJ, n0, .inr (.inl f))) (he1 : M i1 = .inl (cJ, n1, .inr (.inl g))) {sp dp k : Nat} (h4 : sp + k ≤ n0) (h5 : dp + k ≤ n1) (hn0 : n0 < 2 ^ 31) (hn1 : n1 < 2 ^ 31)
    (hframes : 1 ≤ R.frames) (hlocals : (rest.map fun v => v.category).sum + (nativeFrameWords "java/lang/System" "arraycopy" 5 + 11) ≤ R.locals) (hd : decode cc pc = .ok (.invokestatic index, 3))
    (kk : ∀ (M1 : Nat → va_E) (H1 : Heap) (locs1 : List Loc), kW D b M1 n H0 H1 locs1 → M1 i1 = .inl (cJ, n1, .inr (.inl (va_cpy f g sp dp k))) → kF [i1] M M1 → W p l e R s m args below meth c H1 locs1 cells slots Q (F0 m (pc + 3) ls rest)) : W p l e R s m args below meth c H locs cells slots Q (F0 m pc ls (.int (nI k) :: .int (nI dp) :: .ref (b + i1) :: .int (nI sp) :: .ref (b + i0) :: rest)) := by
  have z1 : ((nI sp).toNatClampNeg) = sp := nI_clamp (by omega)
  have z2 : ((nI dp).toNatClampNeg) = dp := nI_clamp (by omega)
  have z3 : ((nI k).toNatClampNeg) = k := nI_clamp (by omega)
  have t1 : (nI sp).toInt = (sp : Int) := nI_toInt (by omega)
  have t2 : (nI dp).toInt = (dp : Int) := nI_toInt (by omega)
  have t3 : (nI k).toInt = (k : Int) := nI_toInt (by omega)
  intro T hT X
  have hc0 : H[b + i0]? = some (vp_cell cJ (n0, .inr (.inl f))) := kP1 h.1 hi0 0 (b + i0, .inl (cJ, n0, .inr (.inl f))) (by rw [he0]; rfl)
  have hc1 : H[b + i1]? = some (vp_cell cJ (n1, .inr (.inl g))) := kP1 h.1 hi1 0 (b + i1, .inl (cJ, n1, .inr (.inl g))) (by rw [he1]; rfl)
  obtain ⟨-, k0, hk0, cm0, hkk0⟩ := (C.2.2.2.2.2.1.2 1 _ rfl).1 n0 (fun j => .long (f j))
  obtain ⟨-, k1, hk1, cm1, hkk1⟩ := (C.2.2.2.2.2.1.2 1 _ rfl).1 n1 (fun j => .long (g j))
  obtain ⟨vm', X', step⟩ := X.arraycopy C.1 C.2.2.2.1 (C.2.2.2.2.1 _ hl) (C.2.2.2.2.1 _ hnat) (C.2.2.2.2.1 _ hstat) (C.2.2.2.2.1 _ hini) (src := b + i0) (dst := b + i1) (cs := vp_cell cJ (n0, .inr (.inl f))) (cd := vp_cell cJ (n1, .inr (.inl g))) (srcPos := nI sp) (destPos := nI dp) (n := nI k) (by rw [hT]; exact hc0) (by rw [hT]; exact hc1)
    (fun _ h => by cases h) (fun _ h => by cases h) (fun h => by cases h) (fun h => by cases h) hk0 hk1 hkk0 hkk1 (by simp [refKind]) (nI_pos (by omega)) (nI_pos (by omega)) (nI_pos (by omega))
    (by rw [t1, t3]; show ¬ _ > ((arrV cJ n0 (fun j => .long (f j))).slots.size : Int); rw [arrV_size]; omega)
    (by rw [t2, t3]; show ¬ _ > ((arrV cJ n1 (fun j => .long (g j))).slots.size : Int); rw [arrV_size]; omega)
    (fun vm₁ _ i hi => by
      rw [z3] at hi
      have e : (vp_cell cJ (n0, .inr (.inl f))).slots.getD ((nI sp).toNatClampNeg + i) .null = .long (f (sp + i)) := by
        show (arrV cJ n0 (fun j => .long (f j))).slots.getD _ _ = _
        rw [z1, Array.getD_eq_getD_getElem?, arrV_read _ _ (by omega)]
        rfl
      refine ⟨?_, ?_⟩
      · rw [e]
        rfl
      · rw [e]
        exact trivial)
    (g := F0 m pc ls (.int (nI k) :: .int (nI dp) :: .ref (b + i1) :: .int (nI sp) :: .ref (b + i0) :: rest)) rfl (by rw [C.2.2.1]; exact hls) (rest := rest) rfl (by rw [C.2.1]; exact hd) hframes (by show 2 * 0 + _ + _ ≤ _; omega)
  have e1 : copied (vp_cell cJ (n0, .inr (.inl f))) (vp_cell cJ (n1, .inr (.inl g))) (nI sp) (nI dp) (nI k) = vp_cell cJ (n1, .inr (.inl (va_cpy f g sp dp k))) := by
    have e9 : copied (vp_cell cJ (n0, .inr (.inl f))) (vp_cell cJ (n1, .inr (.inl g))) (nI sp) (nI dp) (nI k) = vp_cell cJ (n1, .inr (.inl (va_cpy f g (nI sp).toNatClampNeg (nI dp).toNatClampNeg (nI k).toNatClampNeg))) := va_copied (fun z => .long z) cJ cJ f g (by rw [z1, z3]; exact h4)
    rw [z1, z2, z3] at e9
    exact e9
  rw [e1] at X' step
  have hlt : b + i1 < H.size := (Array.getElem?_eq_some_iff.mp hc1).1
  have hheap : ((T.setVm vm').setCell (b + i1) (vp_cell cJ (n1, .inr (.inl (va_cpy f g sp dp k))))).heap = H.setIfInBounds (b + i1) (vp_cell cJ (n1, .inr (.inl (va_cpy f g sp dp k)))) := by rw [← hT]; rfl
  have oq : ∀ q : Nat, q ≠ b + i1 → (H.setIfInBounds (b + i1) (vp_cell cJ (n1, .inr (.inl (va_cpy f g sp dp k)))))[q]? = H[q]? := fun q hq => by simp [Array.getElem?_setIfInBounds, Ne.symm hq]
  obtain ⟨t, a1, b1⟩ := kk (va_up M i1 (.inl (cJ, n1, .inr (.inl (va_cpy f g sp dp k))))) _ _ ⟨kH_up h.1 (by simp) oq (show (H.setIfInBounds (b + i1) _)[b + i1]? = some _ by simp [Array.getElem?_setIfInBounds, hlt]), ⟨by simp; exact h.2.1, fun q g1 g2 => by
      rw [oq q (fun e => g2 (by rw [e]; exact Nat.le_add_right _ _))]
      exact h.2.2.1 q g1 g2, fun q hq => by
      rcases List.mem_append.mp hq with h9 | h9
      · exact h.2.2.2 q h9
      · obtain ⟨z, -, hz⟩ := List.mem_map.mp h9
        rw [← hz]
        exact Nat.le_add_right _ _⟩⟩ (if_pos rfl) kF_up _ hheap X'
  exact ⟨t, step t a1, b1⟩
end KM
end
section
section KZ
variable {p : Program} {l : Launch} {e : Env} {R : Room} {s : State} {m : MethodId} {args : Array Value} {below : List Frame} {meth : Method} {c : Code} {H : Heap} {locs : List Loc} {cells slots : Nat} {Q : State → Prop} {pc : Nat} {ls : Array Slot} {rest : List Value}
theorem k_topi {x : Int32} (y : Int32) (h : x = y) (k : W p l e R s m args below meth c H locs cells slots Q (F0 m pc ls (.int y :: rest))) : W p l e R s m args below meth c H locs cells slots Q (F0 m pc ls (.int x :: rest)) := by rw [h]; exact k
theorem k_topl {x : Int64} (y : Int64) (h : x = y) (k : W p l e R s m args below meth c H locs cells slots Q (F0 m pc ls (.long y :: rest))) : W p l e R s m args below meth c H locs cells slots Q (F0 m pc ls (.long x :: rest)) := by rw [h]; exact k
end KZ
theorem k_inc (i k : Nat) : nI i + Int32.ofInt (k : Int) = nI (i + k) := nI_add i k
theorem k_sw {x : Int32} {lo hi : Int} : (x.toInt < lo ∨ hi < x.toInt) ∨ ∃ k : Int, lo ≤ k ∧ k ≤ hi ∧ x.toInt = k := by
  by_cases h1 : x.toInt < lo
  · exact Or.inl (Or.inl h1)
  · by_cases h2 : hi < x.toInt
    · exact Or.inl (Or.inr h2)
    · exact Or.inr ⟨_, by omega, by omega, rfl⟩
theorem k_eqk {x : Int32} (k : Int32) (h : x.toInt = k.toInt) : x = k := Int32.toInt_inj.mp h
section KMT
variable {l : Launch} {y : MethodName} {cc : ByteArray} {maxL : Nat} {D : va_G} {ty : List (ClassId × FieldType)} {b n : Nat} {M : Nat → va_E} {rm : Room} {av : List Value} {mc ms : Nat}
theorem k_metI {post : Int32 → ((Nat → va_E) × Nat) → Prop} (hy : plainFor y = true) (hav : (lg_sl av).length ≤ maxL)
    (body : ∀ (p : Program) (e : Env) (s : State) (m : MethodId) (below : List Frame) (meth : Method) (c : Code) (ls : Array Slot) (Q : State → Prop), kC p s m c av.toArray cc maxL y.cls D ty → kW D b M n s.heap s.heap [] →
      (∀ {v : Int32} {M1 : Nat → va_E} {n1 : Nat} {H : Heap} {locs : List Loc} {pc : Nat} {ls : Array Slot} (cells slots : Nat), cells ≤ mc → slots ≤ ms → kW D b M1 n1 s.heap H locs → post v (M1, n1) → decode cc pc = .ok (.ireturn, 1) → W p l e rm s m av.toArray below meth c H locs cells slots Q (F0 m pc ls [.int v])) → meth.name = y.name → lv_has ls maxL (lv_args 0 av) → W p l e rm s m av.toArray below meth c s.heap [] 0 0 Q (F0 m 0 ls [])) : Met l y (kw y cc maxL (some .int)) rm (va_Pc av (kPre D ty b M n)) (va_Qi post (kB D ty b) (kA b)) mc ms (kA b) :=
  k_met hy hav (fun p e s m below meth c ls C hw hr hlk hnm hl => body p e s m below meth c ls _ C hw (fun cells slots h1 h2 hw hp hd => W.widen (k := mc) (n := ms) h1 h2 (k_iret C hw hr hlk hp hd)) hnm hl)
theorem k_metZ {post : Int32 → ((Nat → va_E) × Nat) → Prop} (hy : plainFor y = true) (hav : (lg_sl av).length ≤ maxL)
    (body : ∀ (p : Program) (e : Env) (s : State) (m : MethodId) (below : List Frame) (meth : Method) (c : Code) (ls : Array Slot) (Q : State → Prop), kC p s m c av.toArray cc maxL y.cls D ty → kW D b M n s.heap s.heap [] →
      (∀ {v : Int32} {M1 : Nat → va_E} {n1 : Nat} {H : Heap} {locs : List Loc} {pc : Nat} {ls : Array Slot} (cells slots : Nat), cells ≤ mc → slots ≤ ms → kW D b M1 n1 s.heap H locs → (v = 0 ∨ v = 1) → post v (M1, n1) → decode cc pc = .ok (.ireturn, 1) → W p l e rm s m av.toArray below meth c H locs cells slots Q (F0 m pc ls [.int v])) → meth.name = y.name → lv_has ls maxL (lv_args 0 av) → W p l e rm s m av.toArray below meth c s.heap [] 0 0 Q (F0 m 0 ls [])) : Met l y (kw y cc maxL (some .boolean)) rm (va_Pc av (kPre D ty b M n)) (va_Qi post (kB D ty b) (kA b)) mc ms (kA b) :=
  k_met hy hav (fun p e s m below meth c ls C hw hr hlk hnm hl => body p e s m below meth c ls _ C hw (fun cells slots h1 h2 hw hv hp hd => W.widen (k := mc) (n := ms) h1 h2 (k_zret C hw hr hlk hv hp hd)) hnm hl)
theorem k_metL {post : Int64 → ((Nat → va_E) × Nat) → Prop} (hy : plainFor y = true) (hav : (lg_sl av).length ≤ maxL)
    (body : ∀ (p : Program) (e : Env) (s : State) (m : MethodId) (below : List Frame) (meth : Method) (c : Code) (ls : Array Slot) (Q : State → Prop), kC p s m c av.toArray cc maxL y.cls D ty → kW D b M n s.heap s.heap [] →
      (∀ {v : Int64} {M1 : Nat → va_E} {n1 : Nat} {H : Heap} {locs : List Loc} {pc : Nat} {ls : Array Slot} (cells slots : Nat), cells ≤ mc → slots ≤ ms → kW D b M1 n1 s.heap H locs → post v (M1, n1) → decode cc pc = .ok (.lreturn, 1) → W p l e rm s m av.toArray below meth c H locs cells slots Q (F0 m pc ls [.long v])) → meth.name = y.name → lv_has ls maxL (lv_args 0 av) → W p l e rm s m av.toArray below meth c s.heap [] 0 0 Q (F0 m 0 ls [])) : Met l y (kw y cc maxL (some .long)) rm (va_Pc av (kPre D ty b M n)) (va_Ql post (kB D ty b) (kA b)) mc ms (kA b) :=
  k_met hy hav (fun p e s m below meth c ls C hw hr hlk hnm hl => body p e s m below meth c ls _ C hw (fun cells slots h1 h2 hw hp hd => W.widen (k := mc) (n := ms) h1 h2 (k_lret C hw hr hlk hp hd)) hnm hl)
theorem k_metV {post : ((Nat → va_E) × Nat) → Prop} (hy : plainFor y = true) (hav : (lg_sl av).length ≤ maxL)
    (body : ∀ (p : Program) (e : Env) (s : State) (m : MethodId) (below : List Frame) (meth : Method) (c : Code) (ls : Array Slot) (Q : State → Prop), kC p s m c av.toArray cc maxL y.cls D ty → kW D b M n s.heap s.heap [] →
      (∀ {M1 : Nat → va_E} {n1 : Nat} {H : Heap} {locs : List Loc} {pc : Nat} {ls : Array Slot} (cells slots : Nat), cells ≤ mc → slots ≤ ms → kW D b M1 n1 s.heap H locs → post (M1, n1) → decode cc pc = .ok (.return_, 1) → W p l e rm s m av.toArray below meth c H locs cells slots Q (F0 m pc ls [])) → meth.name = y.name → lv_has ls maxL (lv_args 0 av) → W p l e rm s m av.toArray below meth c s.heap [] 0 0 Q (F0 m 0 ls [])) : Met l y (kw y cc maxL none) rm (va_Pc av (kPre D ty b M n)) (va_Qv post (kB D ty b) (kA b)) mc ms (kA b) :=
  k_met hy hav (fun p e s m below meth c ls C hw hr hlk hnm hl => body p e s m below meth c ls _ C hw (fun cells slots h1 h2 hw hp hd => W.widen (k := mc) (n := ms) h1 h2 (k_vret C hw hr hlk hp hd)) hnm hl)
end KMT
/-- sums and counts -/
def sm (f : Nat → Int32) : Nat → Int32
  | 0 => 0
  | k + 1 => sm f k + f k
/-- how many j < k have P -/
def cnt (P : Nat → Bool) : Nat → Nat
  | 0 => 0
  | k + 1 => cnt P k + if P k then 1 else 0
/-- the first j < k with P, or k -/
def fst (P : Nat → Bool) : Nat → Nat
  | 0 => 0
  | k + 1 => if fst P k < k then fst P k else if P k then k else k + 1
theorem fst_le (P : Nat → Bool) : ∀ k, fst P k ≤ k
  | 0 => Nat.le_refl _
  | k + 1 => by
    have := fst_le P k
    unfold fst
    split
    · omega
    · split <;> omega
theorem fst_none {P : Nat → Bool} : ∀ {k : Nat}, (∀ j, j < k → P j = false) → fst P k = k
  | 0, _ => rfl
  | k + 1, h => by
    have h1 := fst_none (k := k) (fun j hj => h j (by omega))
    unfold fst
    rw [h1, if_neg (by omega), h k (by omega)]
    rfl
theorem fst_at {P : Nat → Bool} {i : Nat} (h : ∀ j, j < i → P j = false) (hi : P i = true) : ∀ {k : Nat}, i < k → fst P k = i
  | 0, hk => by omega
  | k + 1, hk => by
    by_cases q : i < k
    · have h1 := fst_at h hi q
      unfold fst
      rw [h1, if_pos q]
    · have e : i = k := by omega
      subst e
      unfold fst
      rw [fst_none h, if_neg (by omega), hi]
      rfl
/-- the group of a key: the same number for both -/
def gx (G key : Int32) : Int32 := (((key * -1640531535 + nI 7 * key) ^^^ ((key * -1640531535 + nI 7 * key).toUInt32 >>> ((nI 15).toUInt32 &&& Int32.toUInt32 31)).toInt32).toUInt32 >>> ((nI 1).toUInt32 &&& Int32.toUInt32 31)).toInt32
def gof (G : Nat) (key : Int32) : Nat := (gx (nI G) key).toBitVec.toNat % G
theorem gx_small (G key : Int32) : (gx G key).toBitVec.toNat < 2 ^ 31 := by
  unfold gx
  rw [pk_ushr _ _ 1 (by decide)]
  have := (((key * -1640531535 + nI 7 * key) ^^^ ((key * -1640531535 + nI 7 * key).toUInt32 >>> ((nI 15).toUInt32 &&& Int32.toUInt32 31)).toInt32).toBitVec).isLt
  omega
theorem gx_nI (G key : Int32) : gx G key = nI (gx G key).toBitVec.toNat := by
  apply Int32.toBitVec_inj.mp
  apply BitVec.eq_of_toNat_eq
  rw [pk_tn (by have := gx_small G key; omega)]
theorem gof_lt {G : Nat} (h : 0 < G) (key : Int32) : gof G key < G := Nat.mod_lt _ h
theorem gof_eq {G : Nat} (h : 0 < G) (hG : G ≤ 32) (key : Int32) : gx (nI G) key - gx (nI G) key / nI G * nI G = nI (gof G key) := by
  have e := gx_nI (nI G) key
  have hs := gx_small (nI G) key
  unfold gof
  generalize (gx (nI G) key).toBitVec.toNat = z at e hs ⊢
  rw [e]
  exact pk_rem hs h (by omega)
theorem k_extI {D : va_G} {b n : Nat} {M : Nat → va_E} {H0 H : Heap} {locs : List Loc} (h : kW D b M n H0 H locs) (i : Nat) (hi : i < n) {cA : ClassId} {N : Nat} {f : Nat → Int32} (he : M i = .inl (cA, N, .inl f)) (g : Nat → Int32) (hg : ∀ j, j < N → f j = g j) : ∃ M1, kW D b M1 n H0 H locs ∧ M1 i = .inl (cA, N, .inl g) ∧ kF [i] M M1 := by
  refine ⟨va_up M i (.inl (cA, N, .inl g)), ⟨kH_up h.1 rfl (fun _ _ => rfl) ?_, h.2⟩, if_pos rfl, kF_up⟩
  have h1 := h.1.2 i hi
  rw [he] at h1
  have h2 : H[b + i]? = some (arrV cA N (fun j => .int (f j))) := h1
  show H[b + i]? = some (arrV cA N (fun j => .int (g j)))
  rw [h2]
  congr 1
  unfold arrV
  congr 1
  apply Array.ext
  · simp
  · intro j h3 h4
    simp at h3
    simp [hg j h3]
theorem k_extJ {D : va_G} {b n : Nat} {M : Nat → va_E} {H0 H : Heap} {locs : List Loc} (h : kW D b M n H0 H locs) (i : Nat) (hi : i < n) {cA : ClassId} {N : Nat} {f : Nat → Int64} (he : M i = .inl (cA, N, .inr (.inl f))) (g : Nat → Int64) (hg : ∀ j, j < N → f j = g j) : ∃ M1, kW D b M1 n H0 H locs ∧ M1 i = .inl (cA, N, .inr (.inl g)) ∧ kF [i] M M1 := by
  refine ⟨va_up M i (.inl (cA, N, .inr (.inl g))), ⟨kH_up h.1 rfl (fun _ _ => rfl) ?_, h.2⟩, if_pos rfl, kF_up⟩
  have h1 := h.1.2 i hi
  rw [he] at h1
  have h2 : H[b + i]? = some (arrV cA N (fun j => .long (f j))) := h1
  show H[b + i]? = some (arrV cA N (fun j => .long (g j)))
  rw [h2]
  congr 1
  unfold arrV
  congr 1
  apply Array.ext
  · simp
  · intro j h3 h4
    simp at h3
    simp [hg j h3]
/-- i places filled with v -/
def fil {α : Type} (f : Nat → α) (v : α) (i : Nat) : Nat → α := fun j => if j < i then v else f j
theorem fil_0 {α : Type} (f : Nat → α) (v : α) : fil f v 0 = f := funext fun j => if_neg (Nat.not_lt_zero j)
theorem fil_s {f : Nat → Int32} {v : Int32} {i : Nat} : upd (fil f v i) i v = fil f v (i + 1) := funext fun j => by
  unfold upd fil
  by_cases h : j = i
  · subst h; simp
  · by_cases h2 : j < i
    · simp [h, h2, Nat.lt_succ_of_lt h2]
    · simp [h, h2, show ¬ j < i + 1 by omega]
theorem fil_sL {f : Nat → Int64} {v : Int64} {i : Nat} : vp_updL (fil f v i) i v = fil f v (i + 1) := funext fun j => by
  unfold vp_updL fil
  by_cases h : j = i
  · subst h; simp
  · by_cases h2 : j < i
    · simp [h, h2, Nat.lt_succ_of_lt h2]
    · simp [h, h2, show ¬ j < i + 1 by omega]
def fI (P : Nat → Bool) (k : Nat) : Int32 := if fst P k < k then nI (fst P k) else -106
theorem fI_none {P : Nat → Bool} {k : Nat} (h : ∀ j, j < k → P j = false) : fI P k = -106 := by unfold fI; rw [fst_none h, if_neg (by omega)]
theorem fI_at {P : Nat → Bool} {i k : Nat} (h : ∀ j, j < i → P j = false) (hi : P i = true) (hk : i < k) : fI P k = nI i := by unfold fI; rw [fst_at h hi hk, if_pos hk]
theorem sm_s (f : Nat → Int32) (k : Nat) : sm f (k + 1) = sm f k + f k := rfl
theorem cnt_t {P : Nat → Bool} {k : Nat} (h : P k = true) : cnt P (k + 1) = cnt P k + 1 := by
  show cnt P k + (if P k then 1 else 0) = _
  rw [if_pos h]
theorem cnt_f {P : Nat → Bool} {k : Nat} (h : P k = false) : cnt P (k + 1) = cnt P k := by
  show cnt P k + (if P k then 1 else 0) = _
  rw [if_neg (by rw [h]; decide)]
  rfl
theorem cnt_le (P : Nat → Bool) : ∀ k, cnt P k ≤ k
  | 0 => Nat.le_refl _
  | k + 1 => by
    have := cnt_le P k
    show cnt P k + (if P k then 1 else 0) ≤ _
    split <;> omega
end
section
theorem kv_X3_24 : kV RX3 RX3 24 yX3_begin cX3_begin 1 none 0 := ⟨q_43, q_44, q_45, q_14, q_46, by decide +kernel⟩
theorem kv_X3_34 : kV RX3 RX3 34 yX3_giveAllToOne cX3_giveAllToOne 3 none 2 := ⟨q_49, q_50, q_51, q_14, q_52, by decide +kernel⟩
theorem kv_X3_47 : kSt RX3 47 yJ7_fill_53178 cJ7_fill_53178 4 none 2 := ⟨q_56, q_57, q_58, q_59, by decide +kernel⟩
set_option maxHeartbeats 4000000 in
set_option maxRecDepth 100000 in
/-- Arrays.fill(int[], int) -/
theorem c_J7_fill_53178 {l : Launch} {D : va_G} {cI cJ cZ cH cR : ClassId} {b : Nat} {n : Nat} {M : Nat → va_E}   {P N : Nat} {f : Nat → Int32} {v : Int32}  (hnP : P < n) (hP : M P = .inl (cI, N, .inl f)) (hN : N < 1000) : Met l yJ7_fill_53178 (kw yJ7_fill_53178 cJ7_fill_53178 4 none) ({ frames := 0, cells := 0, slots := 0, locals := 0 }) (va_Pc [.ref (b + P), .int v] (kPre D (kT cI cJ cZ cH cR) b M n)) (va_Qv (fun (u : (Nat → va_E) × Nat) => u.2 = n ∧ kF [P] M u.1 ∧ u.1 P = .inl (cI, N, .inl (fil f v N))) (kB D (kT cI cJ cZ cH cR) b) (kA b)) 0 0 (kA b) := by
  refine k_metV (by decide +kernel) (Nat.le_of_ble_eq_true rfl) ?_
  intro p e s m below meth c ls Q C hw hret hnm hl
  have hl : lv_has ls 4 [(0, .ref (b + P)), (1, .int v)] := hl
  have hFF : kF [P] M M := kF_rf
  refine lv_iconst (v := nI 0) C.1 C.2.1 dJ7_fill_53178_0 (by decide) ?_
  refine lv_istore_n (lv' := [(2, .int (nI 0)), (0, .ref (b + P)), (1, .int v)]) C.1 C.2.1 dJ7_fill_53178_1 rfl hl (by decide) rfl (fun ls hl => ?_)
  refine lv_aload_n C.1 C.2.1 dJ7_fill_53178_2 rfl (lv_at hl 1 rfl) ?_
  refine k_alen C hw P hnP hP 0 rfl dJ7_fill_53178_3 ?_
  refine k_topi (y := nI N) rfl ?_
  refine lv_istore_n (lv' := [(3, .int (nI N)), (2, .int (nI 0)), (0, .ref (b + P)), (1, .int v)]) C.1 C.2.1 dJ7_fill_53178_4 rfl hl (by decide) rfl (fun ls hl => ?_)
  have L5 : ∀ (N9 : Nat) (i : Nat) (Mx : Nat → va_E), (N - i < N9) → (i ≤ N) → kF [P] M Mx → Mx P = .inl (cI, N, .inl (fil f v i)) → ∀ (ls : Array Slot) (H : Heap) (locs : List Loc), lv_has ls 4 [(3, .int (nI N)), (2, .int (nI i)), (0, .ref (b + P)), (1, .int v)] → kW D b Mx n s.heap H locs → W p l e ({ frames := 0, cells := 0, slots := 0, locals := 0 } : Room) s m ([.ref (b + P), .int v] : List Value).toArray below meth c H locs 0 0 Q (F0 m 5 ls []) := by
    intro N9
    induction N9 with
    | zero => intro i Mx hm hi hFF hP ls H locs hl hw; omega
    | succ N9 ih =>
      intro i Mx hm hi hFF hP ls H locs hl hw
      refine lv_iload_n C.1 C.2.1 dJ7_fill_53178_5 rfl (lv_at hl 1 rfl) ?_
      refine lv_iload_n C.1 C.2.1 dJ7_fill_53178_6 rfl (lv_at hl 0 rfl) ?_
      refine lv_icmp_ge (tgt := 20) C.1 C.2.1 dJ7_fill_53178_7 (by decide) (fun c7 => ?_) (fun c7 => ?_)
      · have q := (nI_leI (by omega) (by omega)).mp c7
        have q : i = N := by omega
        rw [q] at hP
        exact hret _ _ (Nat.le_of_ble_eq_true rfl) (Nat.le_of_ble_eq_true rfl) hw (⟨rfl, hFF, hP⟩) dJ7_fill_53178_20
      · have q : ¬ N ≤ i := fun z => c7 ((nI_leI (by omega) (by omega)).mpr z)
        refine lv_aload_n C.1 C.2.1 dJ7_fill_53178_10 rfl (lv_at hl 2 rfl) ?_
        refine lv_iload_n C.1 C.2.1 dJ7_fill_53178_11 rfl (lv_at hl 1 rfl) ?_
        refine lv_iload_n C.1 C.2.1 dJ7_fill_53178_12 rfl (lv_at hl 3 rfl) ?_
        refine k_iast C hw P hnP hP (by omega) (by first | decide | omega) dJ7_fill_53178_13 (fun M_1 H locs hw hP hF => ?_)
        have hFF := kF_st hFF hF (by first | decide | simp)
        rw [fil_s] at hP
        refine lv_iinc (v := (nI (i + 1))) (lv' := [(2, .int (nI (i + 1))), (3, .int (nI N)), (0, .ref (b + P)), (1, .int v)]) C.1 C.2.1 dJ7_fill_53178_14 hl (k := 1) rfl (k_inc _ 1) (by decide) rfl (fun ls hl => ?_)
        refine lv_goto (tgt := 5) C.1 C.2.1 dJ7_fill_53178_17 (by decide) ?_
        exact ih  (i + 1) M_1 (by omega) (by omega) hFF hP  ls _ _ (lv_sub hl [1, 0, 2, 3] rfl) hw
  exact L5 (_ + 1) (0) M (Nat.lt_succ_self _) (Nat.zero_le _) hFF hP  ls _ _ (lv_sub hl [0, 1, 2, 3] rfl) hw

set_option maxHeartbeats 4000000 in
set_option maxRecDepth 100000 in
/-- Arrays.fill(long[], long) -/
theorem c_J7_fill_d0a16 {l : Launch} {D : va_G} {cI cJ cZ cH cR : ClassId} {b : Nat} {n : Nat} {M : Nat → va_E}   {P N : Nat} {f : Nat → Int64} {v : Int64}  (hnP : P < n) (hP : M P = .inl (cJ, N, .inr (.inl f))) (hN : N < 1000) : Met l yJ7_fill_d0a16 (kw yJ7_fill_d0a16 cJ7_fill_d0a16 5 none) ({ frames := 0, cells := 0, slots := 0, locals := 0 }) (va_Pc [.ref (b + P), .long v] (kPre D (kT cI cJ cZ cH cR) b M n)) (va_Qv (fun (u : (Nat → va_E) × Nat) => u.2 = n ∧ kF [P] M u.1 ∧ u.1 P = .inl (cJ, N, .inr (.inl (fil f v N)))) (kB D (kT cI cJ cZ cH cR) b) (kA b)) 0 0 (kA b) := by
  refine k_metV (by decide +kernel) (Nat.le_of_ble_eq_true rfl) ?_
  intro p e s m below meth c ls Q C hw hret hnm hl
  have hl : lv_has ls 5 [(0, .ref (b + P)), (1, .long v)] := hl
  have hFF : kF [P] M M := kF_rf
  refine lv_iconst (v := nI 0) C.1 C.2.1 dJ7_fill_d0a16_0 (by decide) ?_
  refine lv_istore_n (lv' := [(3, .int (nI 0)), (0, .ref (b + P)), (1, .long v)]) C.1 C.2.1 dJ7_fill_d0a16_1 rfl hl (by decide) rfl (fun ls hl => ?_)
  refine lv_aload_n C.1 C.2.1 dJ7_fill_d0a16_2 rfl (lv_at hl 1 rfl) ?_
  refine k_alen C hw P hnP hP 1 rfl dJ7_fill_d0a16_3 ?_
  refine k_topi (y := nI N) rfl ?_
  refine lv_istore (lv' := [(4, .int (nI N)), (3, .int (nI 0)), (0, .ref (b + P)), (1, .long v)]) C.1 C.2.1 dJ7_fill_d0a16_4 hl (by decide) rfl (fun ls hl => ?_)
  have L6 : ∀ (N9 : Nat) (i : Nat) (Mx : Nat → va_E), (N - i < N9) → (i ≤ N) → kF [P] M Mx → Mx P = .inl (cJ, N, .inr (.inl (fil f v i))) → ∀ (ls : Array Slot) (H : Heap) (locs : List Loc), lv_has ls 5 [(4, .int (nI N)), (3, .int (nI i)), (0, .ref (b + P)), (1, .long v)] → kW D b Mx n s.heap H locs → W p l e ({ frames := 0, cells := 0, slots := 0, locals := 0 } : Room) s m ([.ref (b + P), .long v] : List Value).toArray below meth c H locs 0 0 Q (F0 m 6 ls []) := by
    intro N9
    induction N9 with
    | zero => intro i Mx hm hi hFF hP ls H locs hl hw; omega
    | succ N9 ih =>
      intro i Mx hm hi hFF hP ls H locs hl hw
      refine lv_iload_n C.1 C.2.1 dJ7_fill_d0a16_6 rfl (lv_at hl 1 rfl) ?_
      refine lv_iload C.1 C.2.1 dJ7_fill_d0a16_7 (lv_at hl 0 rfl) ?_
      refine lv_icmp_ge (tgt := 22) C.1 C.2.1 dJ7_fill_d0a16_9 (by decide) (fun c9 => ?_) (fun c9 => ?_)
      · have q := (nI_leI (by omega) (by omega)).mp c9
        have q : i = N := by omega
        rw [q] at hP
        exact hret _ _ (Nat.le_of_ble_eq_true rfl) (Nat.le_of_ble_eq_true rfl) hw (⟨rfl, hFF, hP⟩) dJ7_fill_d0a16_22
      · have q : ¬ N ≤ i := fun z => c9 ((nI_leI (by omega) (by omega)).mpr z)
        refine lv_aload_n C.1 C.2.1 dJ7_fill_d0a16_12 rfl (lv_at hl 2 rfl) ?_
        refine lv_iload_n C.1 C.2.1 dJ7_fill_d0a16_13 rfl (lv_at hl 1 rfl) ?_
        refine lv_lload_n C.1 C.2.1 dJ7_fill_d0a16_14 rfl (lv_at hl 3 rfl) ?_
        refine k_last C hw P hnP hP (by omega) (by first | decide | omega) dJ7_fill_d0a16_15 (fun M_1 H locs hw hP hF => ?_)
        have hFF := kF_st hFF hF (by first | decide | simp)
        rw [fil_sL] at hP
        refine lv_iinc (v := (nI (i + 1))) (lv' := [(3, .int (nI (i + 1))), (4, .int (nI N)), (0, .ref (b + P)), (1, .long v)]) C.1 C.2.1 dJ7_fill_d0a16_16 hl (k := 1) rfl (k_inc _ 1) (by decide) rfl (fun ls hl => ?_)
        refine lv_goto (tgt := 6) C.1 C.2.1 dJ7_fill_d0a16_19 (by decide) ?_
        exact ih  (i + 1) M_1 (by omega) (by omega) hFF hP  ls _ _ (lv_sub hl [1, 0, 2, 3] rfl) hw
  exact L6 (_ + 1) (0) M (Nat.lt_succ_self _) (Nat.zero_le _) hFF hP  ls _ _ (lv_sub hl [0, 1, 2, 3] rfl) hw

set_option maxHeartbeats 4000000 in
set_option maxRecDepth 100000 in
theorem c_X3_groupOf {l : Launch} {D : va_G} {cI cJ cZ cH cR : ClassId} {b : Nat} {n : Nat} {M : Nat → va_E}  {G : Nat} {mo : Nat} {ta : Nat} {sc : Int32} {mv : Nat} {key : Int32} (hn : 2 ≤ n) (h1 : M 1 = .inr (3, [.int (nI G), .int (nI mo), .int (nI ta), .int sc, .int (nI mv), .ref (b + 2), .ref (b + 3), .ref (b + 4), .ref (b + 5)])) (hG0 : 0 < G) (hG : G ≤ 32) : Met l yX3_groupOf (kw yX3_groupOf cX3_groupOf 4 (some .int)) ({ frames := 0, cells := 0, slots := 0, locals := 0 }) (va_Pc [.ref (b + 1), .int key] (kPre D (kT cI cJ cZ cH cR) b M n)) (va_Qi (fun (r : Int32) (u : (Nat → va_E) × Nat) => r = (nI (gof G key)) ∧ u.2 = n ∧ u.1 = M) (kB D (kT cI cJ cZ cH cR) b) (kA b)) 0 0 (kA b) := by
  refine k_metI (by decide +kernel) (Nat.le_of_ble_eq_true rfl) ?_
  intro p e s m below meth c ls Q C hw hret hnm hl
  have hl : lv_has ls 4 [(0, .ref (b + 1)), (1, .int key)] := hl
  refine lv_iload_n C.1 C.2.1 dX3_groupOf_0 rfl (lv_at hl 1 rfl) ?_
  refine lv_ldc C.1 C.2.1 C.2.2.2.1 (C.2.2.2.2.1 _ q_213) dX3_groupOf_1 ?_
  refine lv_imul C.1 C.2.1 dX3_groupOf_3 ?_
  refine lv_bipush (v := nI 7) C.1 C.2.1 dX3_groupOf_4 (by decide) ?_
  refine lv_iload_n C.1 C.2.1 dX3_groupOf_6 rfl (lv_at hl 1 rfl) ?_
  refine lv_imul C.1 C.2.1 dX3_groupOf_7 ?_
  refine lv_iadd C.1 C.2.1 dX3_groupOf_8 ?_
  refine lv_topi (fun x1 ex1 => ?_)
  refine lv_istore_n (lv' := [(2, .int x1), (0, .ref (b + 1)), (1, .int key)]) C.1 C.2.1 dX3_groupOf_9 rfl hl (by decide) rfl (fun ls hl => ?_)
  refine lv_iload_n C.1 C.2.1 dX3_groupOf_10 rfl (lv_at hl 0 rfl) ?_
  refine lv_iload_n C.1 C.2.1 dX3_groupOf_11 rfl (lv_at hl 0 rfl) ?_
  refine lv_bipush (v := nI 15) C.1 C.2.1 dX3_groupOf_12 (by decide) ?_
  refine lv_iushr C.1 C.2.1 dX3_groupOf_14 rfl ?_
  refine lv_ixor C.1 C.2.1 dX3_groupOf_15 ?_
  refine lv_topi (fun y1 ey1 => ?_)
  refine lv_istore_n (lv' := [(3, .int y1), (2, .int x1), (0, .ref (b + 1)), (1, .int key)]) C.1 C.2.1 dX3_groupOf_16 rfl hl (by decide) rfl (fun ls hl => ?_)
  refine lv_iload_n C.1 C.2.1 dX3_groupOf_17 rfl (lv_at hl 0 rfl) ?_
  refine lv_iconst (v := nI 1) C.1 C.2.1 dX3_groupOf_18 (by decide) ?_
  refine lv_iushr C.1 C.2.1 dX3_groupOf_19 rfl ?_
  refine lv_aload_n C.1 C.2.1 dX3_groupOf_20 rfl (lv_at hl 2 rfl) ?_
  refine k_get C hw 1 (by omega) h1 rfl inlX3 0 (by decide) q_53 rfl dX3_groupOf_21 ?_
  refine lv_irem C.1 C.2.1 dX3_groupOf_24 (nI_ne0 (by omega) (by omega)) ?_
  exact hret _ _ (Nat.le_of_ble_eq_true rfl) (Nat.le_of_ble_eq_true rfl) hw (⟨by subst ey1; subst ex1; exact gof_eq (by omega) (by omega) key, rfl, rfl⟩) dX3_groupOf_25

set_option maxHeartbeats 4000000 in
set_option maxRecDepth 100000 in
theorem c_X3_totalWeight {l : Launch} {D : va_G} {cI cJ cZ cH cR : ClassId} {b : Nat} {n : Nat} {M : Nat → va_E}  {G : Nat} {mo : Nat} {ta : Nat} {sc : Int32} {mv : Nat} {we : Nat → Int32}  (hn : 5 ≤ n) (h1 : M 1 = .inr (3, [.int (nI G), .int (nI mo), .int (nI ta), .int sc, .int (nI mv), .ref (b + 2), .ref (b + 3), .ref (b + 4), .ref (b + 5)])) (h4 : M 4 = .inl (cI, 32, .inl we)) (hG0 : 0 < G) (hG : G ≤ 32) : Met l yX3_totalWeight (kw yX3_totalWeight cX3_totalWeight 3 (some .int)) ({ frames := 0, cells := 0, slots := 0, locals := 0 }) (va_Pc [.ref (b + 1)] (kPre D (kT cI cJ cZ cH cR) b M n)) (va_Qi (fun (r : Int32) (u : (Nat → va_E) × Nat) => r = (sm we G) ∧ u.2 = n ∧ u.1 = M) (kB D (kT cI cJ cZ cH cR) b) (kA b)) 0 0 (kA b) := by
  refine k_metI (by decide +kernel) (Nat.le_of_ble_eq_true rfl) ?_
  intro p e s m below meth c ls Q C hw hret hnm hl
  have hl : lv_has ls 3 [(0, .ref (b + 1))] := hl
  refine lv_iconst (v := nI 0) C.1 C.2.1 dX3_totalWeight_0 (by decide) ?_
  refine lv_istore_n (lv' := [(1, .int (nI 0)), (0, .ref (b + 1))]) C.1 C.2.1 dX3_totalWeight_1 rfl hl (by decide) rfl (fun ls hl => ?_)
  refine lv_iconst (v := nI 0) C.1 C.2.1 dX3_totalWeight_2 (by decide) ?_
  refine lv_istore_n (lv' := [(2, .int (nI 0)), (1, .int (nI 0)), (0, .ref (b + 1))]) C.1 C.2.1 dX3_totalWeight_3 rfl hl (by decide) rfl (fun ls hl => ?_)
  have L4 : ∀ (N9 : Nat) (i : Nat) (a : Int32), (G - i < N9) → (i ≤ G) → (a = sm we i) → ∀ (ls : Array Slot) (H : Heap) (locs : List Loc), lv_has ls 3 [(2, .int (nI i)), (1, .int a), (0, .ref (b + 1))] → kW D b M n s.heap H locs → W p l e ({ frames := 0, cells := 0, slots := 0, locals := 0 } : Room) s m ([.ref (b + 1)] : List Value).toArray below meth c H locs 0 0 Q (F0 m 4 ls []) := by
    intro N9
    induction N9 with
    | zero => intro i a hm hi ha ls H locs hl hw; omega
    | succ N9 ih =>
      intro i a hm hi ha ls H locs hl hw
      refine lv_iload_n C.1 C.2.1 dX3_totalWeight_4 rfl (lv_at hl 0 rfl) ?_
      refine lv_aload_n C.1 C.2.1 dX3_totalWeight_5 rfl (lv_at hl 2 rfl) ?_
      refine k_get C hw 1 (by omega) h1 rfl inlX3 0 (by decide) q_53 rfl dX3_totalWeight_6 ?_
      refine lv_icmp_ge (tgt := 27) C.1 C.2.1 dX3_totalWeight_9 (by decide) (fun c9 => ?_) (fun c9 => ?_)
      · have q9 := (nI_leI (by omega) (by omega)).mp c9
        have q9 : i = G := by omega
        refine lv_iload_n C.1 C.2.1 dX3_totalWeight_27 rfl (lv_at hl 1 rfl) ?_
        exact hret _ _ (Nat.le_of_ble_eq_true rfl) (Nat.le_of_ble_eq_true rfl) hw (⟨by rw [ha, q9], rfl, rfl⟩) dX3_totalWeight_28
      · have q9 : ¬ G ≤ i := fun z => c9 ((nI_leI (by omega) (by omega)).mpr z)
        refine lv_iload_n C.1 C.2.1 dX3_totalWeight_12 rfl (lv_at hl 1 rfl) ?_
        refine lv_aload_n C.1 C.2.1 dX3_totalWeight_13 rfl (lv_at hl 2 rfl) ?_
        refine k_get C hw 1 (by omega) h1 rfl inlX3 7 (by decide) q_41 rfl dX3_totalWeight_14 ?_
        refine lv_iload_n C.1 C.2.1 dX3_totalWeight_17 rfl (lv_at hl 0 rfl) ?_
        refine k_iald C hw 4 (by omega) h4 (by omega) (by first | decide | omega) dX3_totalWeight_18 ?_
        refine lv_iadd C.1 C.2.1 dX3_totalWeight_19 ?_
        refine lv_topi (fun a2 ea2 => ?_)
        refine lv_istore_n (lv' := [(1, .int a2), (2, .int (nI i)), (0, .ref (b + 1))]) C.1 C.2.1 dX3_totalWeight_20 rfl hl (by decide) rfl (fun ls hl => ?_)
        refine lv_iinc (v := (nI (i + 1))) (lv' := [(2, .int (nI (i + 1))), (1, .int a2), (0, .ref (b + 1))]) C.1 C.2.1 dX3_totalWeight_21 hl (k := 1) rfl (k_inc _ 1) (by decide) rfl (fun ls hl => ?_)
        refine lv_goto (tgt := 4) C.1 C.2.1 dX3_totalWeight_24 (by decide) ?_
        exact ih  (i + 1) (a2) (by omega) (by omega) (by rw [ea2, ha]; rfl) ls _ _ (lv_sub hl [0, 1, 2] rfl) hw
  exact L4 (_ + 1) (0) (nI 0) (Nat.lt_succ_self _) (Nat.zero_le _) (rfl) ls _ _ (lv_sub hl [0, 1, 2] rfl) hw

set_option maxHeartbeats 4000000 in
set_option maxRecDepth 100000 in
theorem c_X3_firstOf {l : Launch} {D : va_G} {cI cJ cZ cH cR : ClassId} {b : Nat} {n : Nat} {M : Nat → va_E}  {G : Nat} {mo : Nat} {ta : Nat} {sc : Int32} {mv : Nat} {ow : Nat → Int32} {t : Int32} (hn : 3 ≤ n) (h1 : M 1 = .inr (3, [.int (nI G), .int (nI mo), .int (nI ta), .int sc, .int (nI mv), .ref (b + 2), .ref (b + 3), .ref (b + 4), .ref (b + 5)])) (h2 : M 2 = .inl (cI, 32, .inl ow)) (hG0 : 0 < G) (hG : G ≤ 32) : Met l yX3_firstOf (kw yX3_firstOf cX3_firstOf 3 (some .int)) ({ frames := 0, cells := 0, slots := 0, locals := 0 }) (va_Pc [.ref (b + 1), .int t] (kPre D (kT cI cJ cZ cH cR) b M n)) (va_Qi (fun (r : Int32) (u : (Nat → va_E) × Nat) => r = (fI (fun g => ow g == t) G) ∧ u.2 = n ∧ u.1 = M) (kB D (kT cI cJ cZ cH cR) b) (kA b)) 0 0 (kA b) := by
  refine k_metI (by decide +kernel) (Nat.le_of_ble_eq_true rfl) ?_
  intro p e s m below meth c ls Q C hw hret hnm hl
  have hl : lv_has ls 3 [(0, .ref (b + 1)), (1, .int t)] := hl
  refine lv_iconst (v := nI 0) C.1 C.2.1 dX3_firstOf_0 (by decide) ?_
  refine lv_istore_n (lv' := [(2, .int (nI 0)), (0, .ref (b + 1)), (1, .int t)]) C.1 C.2.1 dX3_firstOf_1 rfl hl (by decide) rfl (fun ls hl => ?_)
  have L2 : ∀ (N9 : Nat) (i : Nat) , (G - i < N9) → (i ≤ G) → (∀ j, j < i → (ow j == t) = false) → ∀ (ls : Array Slot) (H : Heap) (locs : List Loc), lv_has ls 3 [(2, .int (nI i)), (0, .ref (b + 1)), (1, .int t)] → kW D b M n s.heap H locs → W p l e ({ frames := 0, cells := 0, slots := 0, locals := 0 } : Room) s m ([.ref (b + 1), .int t] : List Value).toArray below meth c H locs 0 0 Q (F0 m 2 ls []) := by
    intro N9
    induction N9 with
    | zero => intro i hm hi ha ls H locs hl hw; omega
    | succ N9 ih =>
      intro i hm hi ha ls H locs hl hw
      refine lv_iload_n C.1 C.2.1 dX3_firstOf_2 rfl (lv_at hl 0 rfl) ?_
      refine lv_aload_n C.1 C.2.1 dX3_firstOf_3 rfl (lv_at hl 1 rfl) ?_
      refine k_get C hw 1 (by omega) h1 rfl inlX3 0 (by decide) q_53 rfl dX3_firstOf_4 ?_
      refine lv_icmp_ge (tgt := 28) C.1 C.2.1 dX3_firstOf_7 (by decide) (fun c7 => ?_) (fun c7 => ?_)
      · have q7 := (nI_leI (by omega) (by omega)).mp c7
        have q7 : i = G := by omega
        refine lv_bipush (v := (-106)) C.1 C.2.1 dX3_firstOf_28 (by decide) ?_
        exact hret _ _ (Nat.le_of_ble_eq_true rfl) (Nat.le_of_ble_eq_true rfl) hw (⟨by rw [← q7, fI_none ha], rfl, rfl⟩) dX3_firstOf_30
      · have q7 : ¬ G ≤ i := fun z => c7 ((nI_leI (by omega) (by omega)).mpr z)
        refine lv_aload_n C.1 C.2.1 dX3_firstOf_10 rfl (lv_at hl 1 rfl) ?_
        refine k_get C hw 1 (by omega) h1 rfl inlX3 5 (by decide) q_39 rfl dX3_firstOf_11 ?_
        refine lv_iload_n C.1 C.2.1 dX3_firstOf_14 rfl (lv_at hl 0 rfl) ?_
        refine k_iald C hw 2 (by omega) h2 (by omega) (by first | decide | omega) dX3_firstOf_15 ?_
        refine lv_iload_n C.1 C.2.1 dX3_firstOf_16 rfl (lv_at hl 2 rfl) ?_
        refine lv_icmp_ne (tgt := 22) C.1 C.2.1 dX3_firstOf_17 (by decide) (fun c17 => ?_) (fun c17 => ?_)
        · refine lv_iinc (v := (nI (i + 1))) (lv' := [(2, .int (nI (i + 1))), (0, .ref (b + 1)), (1, .int t)]) C.1 C.2.1 dX3_firstOf_22 hl (k := 0) rfl (k_inc _ 1) (by decide) rfl (fun ls hl => ?_)
          refine lv_goto (tgt := 2) C.1 C.2.1 dX3_firstOf_25 (by decide) ?_
          exact ih  (i + 1) (by omega) (by omega) (fun j hj => by rcases Nat.lt_succ_iff_lt_or_eq.mp hj with h | h; exact ha j h; rw [h]; simpa using c17) ls _ _ (lv_sub hl [0, 1, 2] rfl) hw
        · refine lv_iload_n C.1 C.2.1 dX3_firstOf_20 rfl (lv_at hl 0 rfl) ?_
          exact hret _ _ (Nat.le_of_ble_eq_true rfl) (Nat.le_of_ble_eq_true rfl) hw (⟨by rw [fI_at ha (by simpa using c17) (by omega)], rfl, rfl⟩) dX3_firstOf_21
  exact L2 (_ + 1) (0) (Nat.lt_succ_self _) (Nat.zero_le _) (fun j hj => absurd hj (Nat.not_lt_zero j)) ls _ _ (lv_sub hl [0, 1, 2] rfl) hw

set_option maxHeartbeats 4000000 in
set_option maxRecDepth 100000 in
theorem c_X3_countOf {l : Launch} {D : va_G} {cI cJ cZ cH cR : ClassId} {b : Nat} {n : Nat} {M : Nat → va_E}  {G : Nat} {mo : Nat} {ta : Nat} {sc : Int32} {mv : Nat} {ow : Nat → Int32} {t : Int32} (hn : 3 ≤ n) (h1 : M 1 = .inr (3, [.int (nI G), .int (nI mo), .int (nI ta), .int sc, .int (nI mv), .ref (b + 2), .ref (b + 3), .ref (b + 4), .ref (b + 5)])) (h2 : M 2 = .inl (cI, 32, .inl ow)) (hG0 : 0 < G) (hG : G ≤ 32) : Met l yX3_countOf (kw yX3_countOf cX3_countOf 4 (some .int)) ({ frames := 0, cells := 0, slots := 0, locals := 0 }) (va_Pc [.ref (b + 1), .int t] (kPre D (kT cI cJ cZ cH cR) b M n)) (va_Qi (fun (r : Int32) (u : (Nat → va_E) × Nat) => r = (nI (cnt (fun g => ow g == t) G)) ∧ u.2 = n ∧ u.1 = M) (kB D (kT cI cJ cZ cH cR) b) (kA b)) 0 0 (kA b) := by
  refine k_metI (by decide +kernel) (Nat.le_of_ble_eq_true rfl) ?_
  intro p e s m below meth c ls Q C hw hret hnm hl
  have hl : lv_has ls 4 [(0, .ref (b + 1)), (1, .int t)] := hl
  refine lv_iconst (v := nI 0) C.1 C.2.1 dX3_countOf_0 (by decide) ?_
  refine lv_istore_n (lv' := [(2, .int (nI 0)), (0, .ref (b + 1)), (1, .int t)]) C.1 C.2.1 dX3_countOf_1 rfl hl (by decide) rfl (fun ls hl => ?_)
  refine lv_iconst (v := nI 0) C.1 C.2.1 dX3_countOf_2 (by decide) ?_
  refine lv_istore_n (lv' := [(3, .int (nI 0)), (2, .int (nI 0)), (0, .ref (b + 1)), (1, .int t)]) C.1 C.2.1 dX3_countOf_3 rfl hl (by decide) rfl (fun ls hl => ?_)
  have L4 : ∀ (N9 : Nat) (i : Nat) (a : Nat), (G - i < N9) → (i ≤ G) → (a = cnt (fun g => ow g == t) i) → ∀ (ls : Array Slot) (H : Heap) (locs : List Loc), lv_has ls 4 [(3, .int (nI i)), (2, .int (nI a)), (0, .ref (b + 1)), (1, .int t)] → kW D b M n s.heap H locs → W p l e ({ frames := 0, cells := 0, slots := 0, locals := 0 } : Room) s m ([.ref (b + 1), .int t] : List Value).toArray below meth c H locs 0 0 Q (F0 m 4 ls []) := by
    intro N9
    induction N9 with
    | zero => intro i a hm hi ha ls H locs hl hw; omega
    | succ N9 ih =>
      intro i a hm hi ha ls H locs hl hw
      refine lv_iload_n C.1 C.2.1 dX3_countOf_4 rfl (lv_at hl 0 rfl) ?_
      refine lv_aload_n C.1 C.2.1 dX3_countOf_5 rfl (lv_at hl 2 rfl) ?_
      refine k_get C hw 1 (by omega) h1 rfl inlX3 0 (by decide) q_53 rfl dX3_countOf_6 ?_
      refine lv_icmp_ge (tgt := 31) C.1 C.2.1 dX3_countOf_9 (by decide) (fun c9 => ?_) (fun c9 => ?_)
      · have q9 := (nI_leI (by omega) (by omega)).mp c9
        have q9 : i = G := by omega
        refine lv_iload_n C.1 C.2.1 dX3_countOf_31 rfl (lv_at hl 1 rfl) ?_
        exact hret _ _ (Nat.le_of_ble_eq_true rfl) (Nat.le_of_ble_eq_true rfl) hw (⟨by rw [ha, q9], rfl, rfl⟩) dX3_countOf_32
      · have q9 : ¬ G ≤ i := fun z => c9 ((nI_leI (by omega) (by omega)).mpr z)
        refine lv_aload_n C.1 C.2.1 dX3_countOf_12 rfl (lv_at hl 2 rfl) ?_
        refine k_get C hw 1 (by omega) h1 rfl inlX3 5 (by decide) q_39 rfl dX3_countOf_13 ?_
        refine lv_iload_n C.1 C.2.1 dX3_countOf_16 rfl (lv_at hl 0 rfl) ?_
        refine k_iald C hw 2 (by omega) h2 (by omega) (by first | decide | omega) dX3_countOf_17 ?_
        refine lv_iload_n C.1 C.2.1 dX3_countOf_18 rfl (lv_at hl 3 rfl) ?_
        refine lv_icmp_ne (tgt := 25) C.1 C.2.1 dX3_countOf_19 (by decide) (fun c19 => ?_) (fun c19 => ?_)
        · refine lv_iinc (v := (nI (i + 1))) (lv' := [(3, .int (nI (i + 1))), (2, .int (nI a)), (0, .ref (b + 1)), (1, .int t)]) C.1 C.2.1 dX3_countOf_25 hl (k := 0) rfl (k_inc _ 1) (by decide) rfl (fun ls hl => ?_)
          refine lv_goto (tgt := 4) C.1 C.2.1 dX3_countOf_28 (by decide) ?_
          exact ih  (i + 1) (a) (by omega) (by omega) (by rw [ha, cnt_f (by simpa using c19)]) ls _ _ (lv_sub hl [0, 1, 2, 3] rfl) hw
        · refine lv_iinc (v := (nI (a + 1))) (lv' := [(2, .int (nI (a + 1))), (3, .int (nI i)), (0, .ref (b + 1)), (1, .int t)]) C.1 C.2.1 dX3_countOf_22 hl (k := 1) rfl (k_inc _ 1) (by decide) rfl (fun ls hl => ?_)
          refine lv_iinc (v := (nI (i + 1))) (lv' := [(3, .int (nI (i + 1))), (2, .int (nI (a + 1))), (0, .ref (b + 1)), (1, .int t)]) C.1 C.2.1 dX3_countOf_25 hl (k := 1) rfl (k_inc _ 1) (by decide) rfl (fun ls hl => ?_)
          refine lv_goto (tgt := 4) C.1 C.2.1 dX3_countOf_28 (by decide) ?_
          exact ih  (i + 1) (a + 1) (by omega) (by omega) (by rw [ha, cnt_t (by simpa using c19)]) ls _ _ (lv_sub hl [0, 1, 2, 3] rfl) hw
  exact L4 (_ + 1) (0) (0) (Nat.lt_succ_self _) (Nat.zero_le _) (rfl) ls _ _ (lv_sub hl [0, 1, 2, 3] rfl) hw

set_option maxHeartbeats 4000000 in
set_option maxRecDepth 100000 in
theorem c_X3_weightOf {l : Launch} {D : va_G} {cI cJ cZ cH cR : ClassId} {b : Nat} {n : Nat} {M : Nat → va_E}  {G : Nat} {mo : Nat} {ta : Nat} {sc : Int32} {mv : Nat} {ow : Nat → Int32} {we : Nat → Int32} {t : Int32} (hn : 5 ≤ n) (h1 : M 1 = .inr (3, [.int (nI G), .int (nI mo), .int (nI ta), .int sc, .int (nI mv), .ref (b + 2), .ref (b + 3), .ref (b + 4), .ref (b + 5)])) (h2 : M 2 = .inl (cI, 32, .inl ow)) (h4 : M 4 = .inl (cI, 32, .inl we)) (hG0 : 0 < G) (hG : G ≤ 32) : Met l yX3_weightOf (kw yX3_weightOf cX3_weightOf 4 (some .int)) ({ frames := 0, cells := 0, slots := 0, locals := 0 }) (va_Pc [.ref (b + 1), .int t] (kPre D (kT cI cJ cZ cH cR) b M n)) (va_Qi (fun (r : Int32) (u : (Nat → va_E) × Nat) => r = (sm (fun g => if ow g = t then we g else 0) G) ∧ u.2 = n ∧ u.1 = M) (kB D (kT cI cJ cZ cH cR) b) (kA b)) 0 0 (kA b) := by
  refine k_metI (by decide +kernel) (Nat.le_of_ble_eq_true rfl) ?_
  intro p e s m below meth c ls Q C hw hret hnm hl
  have hl : lv_has ls 4 [(0, .ref (b + 1)), (1, .int t)] := hl
  refine lv_iconst (v := nI 0) C.1 C.2.1 dX3_weightOf_0 (by decide) ?_
  refine lv_istore_n (lv' := [(2, .int (nI 0)), (0, .ref (b + 1)), (1, .int t)]) C.1 C.2.1 dX3_weightOf_1 rfl hl (by decide) rfl (fun ls hl => ?_)
  refine lv_iconst (v := nI 0) C.1 C.2.1 dX3_weightOf_2 (by decide) ?_
  refine lv_istore_n (lv' := [(3, .int (nI 0)), (2, .int (nI 0)), (0, .ref (b + 1)), (1, .int t)]) C.1 C.2.1 dX3_weightOf_3 rfl hl (by decide) rfl (fun ls hl => ?_)
  have L4 : ∀ (N9 : Nat) (i : Nat) (a : Int32), (G - i < N9) → (i ≤ G) → (a = sm (fun g => if ow g = t then we g else 0) i) → ∀ (ls : Array Slot) (H : Heap) (locs : List Loc), lv_has ls 4 [(3, .int (nI i)), (2, .int a), (0, .ref (b + 1)), (1, .int t)] → kW D b M n s.heap H locs → W p l e ({ frames := 0, cells := 0, slots := 0, locals := 0 } : Room) s m ([.ref (b + 1), .int t] : List Value).toArray below meth c H locs 0 0 Q (F0 m 4 ls []) := by
    intro N9
    induction N9 with
    | zero => intro i a hm hi ha ls H locs hl hw; omega
    | succ N9 ih =>
      intro i a hm hi ha ls H locs hl hw
      refine lv_iload_n C.1 C.2.1 dX3_weightOf_4 rfl (lv_at hl 0 rfl) ?_
      refine lv_aload_n C.1 C.2.1 dX3_weightOf_5 rfl (lv_at hl 2 rfl) ?_
      refine k_get C hw 1 (by omega) h1 rfl inlX3 0 (by decide) q_53 rfl dX3_weightOf_6 ?_
      refine lv_icmp_ge (tgt := 37) C.1 C.2.1 dX3_weightOf_9 (by decide) (fun c9 => ?_) (fun c9 => ?_)
      · have q9 := (nI_leI (by omega) (by omega)).mp c9
        have q9 : i = G := by omega
        refine lv_iload_n C.1 C.2.1 dX3_weightOf_37 rfl (lv_at hl 1 rfl) ?_
        exact hret _ _ (Nat.le_of_ble_eq_true rfl) (Nat.le_of_ble_eq_true rfl) hw (⟨by rw [ha, q9], rfl, rfl⟩) dX3_weightOf_38
      · have q9 : ¬ G ≤ i := fun z => c9 ((nI_leI (by omega) (by omega)).mpr z)
        refine lv_aload_n C.1 C.2.1 dX3_weightOf_12 rfl (lv_at hl 2 rfl) ?_
        refine k_get C hw 1 (by omega) h1 rfl inlX3 5 (by decide) q_39 rfl dX3_weightOf_13 ?_
        refine lv_iload_n C.1 C.2.1 dX3_weightOf_16 rfl (lv_at hl 0 rfl) ?_
        refine k_iald C hw 2 (by omega) h2 (by omega) (by first | decide | omega) dX3_weightOf_17 ?_
        refine lv_iload_n C.1 C.2.1 dX3_weightOf_18 rfl (lv_at hl 3 rfl) ?_
        refine lv_icmp_ne (tgt := 31) C.1 C.2.1 dX3_weightOf_19 (by decide) (fun c19 => ?_) (fun c19 => ?_)
        · refine lv_iinc (v := (nI (i + 1))) (lv' := [(3, .int (nI (i + 1))), (2, .int a), (0, .ref (b + 1)), (1, .int t)]) C.1 C.2.1 dX3_weightOf_31 hl (k := 0) rfl (k_inc _ 1) (by decide) rfl (fun ls hl => ?_)
          refine lv_goto (tgt := 4) C.1 C.2.1 dX3_weightOf_34 (by decide) ?_
          exact ih  (i + 1) (a) (by omega) (by omega) (by rw [ha, sm_s]; simp [c19]) ls _ _ (lv_sub hl [0, 1, 2, 3] rfl) hw
        · refine lv_iload_n C.1 C.2.1 dX3_weightOf_22 rfl (lv_at hl 1 rfl) ?_
          refine lv_aload_n C.1 C.2.1 dX3_weightOf_23 rfl (lv_at hl 2 rfl) ?_
          refine k_get C hw 1 (by omega) h1 rfl inlX3 7 (by decide) q_41 rfl dX3_weightOf_24 ?_
          refine lv_iload_n C.1 C.2.1 dX3_weightOf_27 rfl (lv_at hl 0 rfl) ?_
          refine k_iald C hw 4 (by omega) h4 (by omega) (by first | decide | omega) dX3_weightOf_28 ?_
          refine lv_iadd C.1 C.2.1 dX3_weightOf_29 ?_
          refine lv_topi (fun a2 ea2 => ?_)
          refine lv_istore_n (lv' := [(2, .int a2), (3, .int (nI i)), (0, .ref (b + 1)), (1, .int t)]) C.1 C.2.1 dX3_weightOf_30 rfl hl (by decide) rfl (fun ls hl => ?_)
          refine lv_iinc (v := (nI (i + 1))) (lv' := [(3, .int (nI (i + 1))), (2, .int a2), (0, .ref (b + 1)), (1, .int t)]) C.1 C.2.1 dX3_weightOf_31 hl (k := 1) rfl (k_inc _ 1) (by decide) rfl (fun ls hl => ?_)
          refine lv_goto (tgt := 4) C.1 C.2.1 dX3_weightOf_34 (by decide) ?_
          exact ih  (i + 1) (a2) (by omega) (by omega) (by rw [ea2, ha, sm_s]; simp [c19]) ls _ _ (lv_sub hl [0, 1, 2, 3] rfl) hw
  exact L4 (_ + 1) (0) (nI 0) (Nat.lt_succ_self _) (Nat.zero_le _) (rfl) ls _ _ (lv_sub hl [0, 1, 2, 3] rfl) hw

set_option maxHeartbeats 4000000 in
set_option maxRecDepth 100000 in
theorem c_X3_isHot {l : Launch} {D : va_G} {cI cJ cZ cH cR : ClassId} {b : Nat} {n : Nat} {M : Nat → va_E}  {G : Nat} {mo : Nat} {ta : Nat} {sc : Int32} {mv : Nat} {we : Nat → Int32} {g : Nat} {t : Int32} (hn : 5 ≤ n) (h1 : M 1 = .inr (3, [.int (nI G), .int (nI mo), .int (nI ta), .int sc, .int (nI mv), .ref (b + 2), .ref (b + 3), .ref (b + 4), .ref (b + 5)])) (h4 : M 4 = .inl (cI, 32, .inl we)) (hG0 : 0 < G) (hG : G ≤ 32) (hg : g < G) : Met l yX3_isHot (kw yX3_isHot cX3_isHot 3 (some .boolean)) ({ frames := 0, cells := 0, slots := 0, locals := 0 }) (va_Pc [.ref (b + 1), .int (nI g), .int t] (kPre D (kT cI cJ cZ cH cR) b M n)) (va_Qi (fun (r : Int32) (u : (Nat → va_E) × Nat) => r = (if we g * nI G ≤ nI 2 * t then 0 else 1) ∧ u.2 = n ∧ u.1 = M) (kB D (kT cI cJ cZ cH cR) b) (kA b)) 0 0 (kA b) := by
  refine k_metZ (by decide +kernel) (Nat.le_of_ble_eq_true rfl) ?_
  intro p e s m below meth c ls Q C hw hret hnm hl
  have hl : lv_has ls 3 [(0, .ref (b + 1)), (1, .int (nI g)), (2, .int t)] := hl
  refine lv_aload_n C.1 C.2.1 dX3_isHot_0 rfl (lv_at hl 0 rfl) ?_
  refine k_get C hw 1 (by omega) h1 rfl inlX3 7 (by decide) q_41 rfl dX3_isHot_1 ?_
  refine lv_iload_n C.1 C.2.1 dX3_isHot_4 rfl (lv_at hl 1 rfl) ?_
  refine k_iald C hw 4 (by omega) h4 (by omega) (by first | decide | omega) dX3_isHot_5 ?_
  refine lv_aload_n C.1 C.2.1 dX3_isHot_6 rfl (lv_at hl 0 rfl) ?_
  refine k_get C hw 1 (by omega) h1 rfl inlX3 0 (by decide) q_53 rfl dX3_isHot_7 ?_
  refine lv_imul C.1 C.2.1 dX3_isHot_10 ?_
  refine lv_iconst (v := nI 2) C.1 C.2.1 dX3_isHot_11 (by decide) ?_
  refine lv_iload_n C.1 C.2.1 dX3_isHot_12 rfl (lv_at hl 2 rfl) ?_
  refine lv_imul C.1 C.2.1 dX3_isHot_13 ?_
  refine lv_icmp_le (tgt := 21) C.1 C.2.1 dX3_isHot_14 (by decide) (fun c14 => ?_) (fun c14 => ?_)
  · refine lv_iconst (v := nI 0) C.1 C.2.1 dX3_isHot_21 (by decide) ?_
    exact hret _ _ (Nat.le_of_ble_eq_true rfl) (Nat.le_of_ble_eq_true rfl) hw (by first | exact Or.inl rfl | exact Or.inr rfl) (⟨by rw [if_pos c14]; rfl, rfl, rfl⟩) dX3_isHot_22
  · refine lv_iconst (v := nI 1) C.1 C.2.1 dX3_isHot_17 (by decide) ?_
    refine lv_goto (tgt := 22) C.1 C.2.1 dX3_isHot_18 (by decide) ?_
    exact hret _ _ (Nat.le_of_ble_eq_true rfl) (Nat.le_of_ble_eq_true rfl) hw (by first | exact Or.inl rfl | exact Or.inr rfl) (⟨by rw [if_neg c14]; rfl, rfl, rfl⟩) dX3_isHot_22

set_option maxHeartbeats 4000000 in
set_option maxRecDepth 100000 in
theorem c_X3_costToGive {l : Launch} {D : va_G} {cI cJ cZ cH cR : ClassId} {b : Nat} {n : Nat} {M : Nat → va_E}  {G : Nat} {mo : Nat} {ta : Nat} {sc : Int32} {mv : Nat} {ow : Nat → Int32} {we : Nat → Int32} {g : Nat} {t : Int32} (hn : 5 ≤ n) (h1 : M 1 = .inr (3, [.int (nI G), .int (nI mo), .int (nI ta), .int sc, .int (nI mv), .ref (b + 2), .ref (b + 3), .ref (b + 4), .ref (b + 5)])) (h2 : M 2 = .inl (cI, 32, .inl ow)) (h4 : M 4 = .inl (cI, 32, .inl we)) (hG0 : 0 < G) (hG : G ≤ 32) (hg : g < G) : Met l yX3_costToGive (kw yX3_costToGive cX3_costToGive 3 (some .int)) ({ frames := 0, cells := 0, slots := 0, locals := 0 }) (va_Pc [.ref (b + 1), .int (nI g), .int t] (kPre D (kT cI cJ cZ cH cR) b M n)) (va_Qi (fun (r : Int32) (u : (Nat → va_E) × Nat) => r = (if ow g = t then 0 else we g + nI 1) ∧ u.2 = n ∧ u.1 = M) (kB D (kT cI cJ cZ cH cR) b) (kA b)) 0 0 (kA b) := by
  refine k_metI (by decide +kernel) (Nat.le_of_ble_eq_true rfl) ?_
  intro p e s m below meth c ls Q C hw hret hnm hl
  have hl : lv_has ls 3 [(0, .ref (b + 1)), (1, .int (nI g)), (2, .int t)] := hl
  refine lv_aload_n C.1 C.2.1 dX3_costToGive_0 rfl (lv_at hl 0 rfl) ?_
  refine k_get C hw 1 (by omega) h1 rfl inlX3 5 (by decide) q_39 rfl dX3_costToGive_1 ?_
  refine lv_iload_n C.1 C.2.1 dX3_costToGive_4 rfl (lv_at hl 1 rfl) ?_
  refine k_iald C hw 2 (by omega) h2 (by omega) (by first | decide | omega) dX3_costToGive_5 ?_
  refine lv_iload_n C.1 C.2.1 dX3_costToGive_6 rfl (lv_at hl 2 rfl) ?_
  refine lv_icmp_ne (tgt := 14) C.1 C.2.1 dX3_costToGive_7 (by decide) (fun c7 => ?_) (fun c7 => ?_)
  · refine lv_aload_n C.1 C.2.1 dX3_costToGive_14 rfl (lv_at hl 0 rfl) ?_
    refine k_get C hw 1 (by omega) h1 rfl inlX3 7 (by decide) q_41 rfl dX3_costToGive_15 ?_
    refine lv_iload_n C.1 C.2.1 dX3_costToGive_18 rfl (lv_at hl 1 rfl) ?_
    refine k_iald C hw 4 (by omega) h4 (by omega) (by first | decide | omega) dX3_costToGive_19 ?_
    refine lv_iconst (v := nI 1) C.1 C.2.1 dX3_costToGive_20 (by decide) ?_
    refine lv_iadd C.1 C.2.1 dX3_costToGive_21 ?_
    exact hret _ _ (Nat.le_of_ble_eq_true rfl) (Nat.le_of_ble_eq_true rfl) hw (⟨by rw [if_neg c7], rfl, rfl⟩) dX3_costToGive_22
  · refine lv_iconst (v := nI 0) C.1 C.2.1 dX3_costToGive_10 (by decide) ?_
    refine lv_goto (tgt := 22) C.1 C.2.1 dX3_costToGive_11 (by decide) ?_
    exact hret _ _ (Nat.le_of_ble_eq_true rfl) (Nat.le_of_ble_eq_true rfl) hw (⟨by rw [if_pos c7]; rfl, rfl, rfl⟩) dX3_costToGive_22

set_option maxHeartbeats 4000000 in
set_option maxRecDepth 100000 in
theorem c_X3_aheadOf {l : Launch} {D : va_G} {cI cJ cZ cH cR : ClassId} {b : Nat} {n : Nat} {M : Nat → va_E}  {G : Nat} {mo : Nat} {ta : Nat} {sc : Int32} {mv : Nat} {we : Nat → Int32} {g : Nat} (hn : 5 ≤ n) (h1 : M 1 = .inr (3, [.int (nI G), .int (nI mo), .int (nI ta), .int sc, .int (nI mv), .ref (b + 2), .ref (b + 3), .ref (b + 4), .ref (b + 5)])) (h4 : M 4 = .inl (cI, 32, .inl we)) (hG0 : 0 < G) (hG : G ≤ 32) (hg : g < G) : Met l yX3_aheadOf (kw yX3_aheadOf cX3_aheadOf 6 (some .int)) ({ frames := 0, cells := 0, slots := 0, locals := 0 }) (va_Pc [.ref (b + 1), .int (nI g)] (kPre D (kT cI cJ cZ cH cR) b M n)) (va_Qi (fun (r : Int32) (u : (Nat → va_E) × Nat) => r = (nI (cnt (fun o => decide (we g < we o) || (we o == we g && decide (o < g))) G)) ∧ u.2 = n ∧ u.1 = M) (kB D (kT cI cJ cZ cH cR) b) (kA b)) 0 0 (kA b) := by
  refine k_metI (by decide +kernel) (Nat.le_of_ble_eq_true rfl) ?_
  intro p e s m below meth c ls Q C hw hret hnm hl
  have hl : lv_has ls 6 [(0, .ref (b + 1)), (1, .int (nI g))] := hl
  refine lv_iconst (v := nI 0) C.1 C.2.1 dX3_aheadOf_0 (by decide) ?_
  refine lv_istore_n (lv' := [(2, .int (nI 0)), (0, .ref (b + 1)), (1, .int (nI g))]) C.1 C.2.1 dX3_aheadOf_1 rfl hl (by decide) rfl (fun ls hl => ?_)
  refine lv_iconst (v := nI 0) C.1 C.2.1 dX3_aheadOf_2 (by decide) ?_
  refine lv_istore_n (lv' := [(3, .int (nI 0)), (2, .int (nI 0)), (0, .ref (b + 1)), (1, .int (nI g))]) C.1 C.2.1 dX3_aheadOf_3 rfl hl (by decide) rfl (fun ls hl => ?_)
  have L4 : ∀ (N9 : Nat) (i : Nat) (a : Nat), (G - i < N9) → (i ≤ G) → (a = cnt (fun o => decide (we g < we o) || (we o == we g && decide (o < g))) i) → ∀ (ls : Array Slot) (H : Heap) (locs : List Loc), lv_has ls 6 [(3, .int (nI i)), (2, .int (nI a)), (0, .ref (b + 1)), (1, .int (nI g))] → kW D b M n s.heap H locs → W p l e ({ frames := 0, cells := 0, slots := 0, locals := 0 } : Room) s m ([.ref (b + 1), .int (nI g)] : List Value).toArray below meth c H locs 0 0 Q (F0 m 4 ls []) := by
    intro N9
    induction N9 with
    | zero => intro i a hm hi ha ls H locs hl hw; omega
    | succ N9 ih =>
      intro i a hm hi ha ls H locs hl hw
      refine lv_iload_n C.1 C.2.1 dX3_aheadOf_4 rfl (lv_at hl 0 rfl) ?_
      refine lv_aload_n C.1 C.2.1 dX3_aheadOf_5 rfl (lv_at hl 2 rfl) ?_
      refine k_get C hw 1 (by omega) h1 rfl inlX3 0 (by decide) q_53 rfl dX3_aheadOf_6 ?_
      refine lv_icmp_ge (tgt := 80) C.1 C.2.1 dX3_aheadOf_9 (by decide) (fun c9 => ?_) (fun c9 => ?_)
      · have q9 := (nI_leI (by omega) (by omega)).mp c9
        have q9 : i = G := by omega
        refine lv_iload_n C.1 C.2.1 dX3_aheadOf_80 rfl (lv_at hl 1 rfl) ?_
        exact hret _ _ (Nat.le_of_ble_eq_true rfl) (Nat.le_of_ble_eq_true rfl) hw (⟨by rw [ha, q9], rfl, rfl⟩) dX3_aheadOf_81
      · have q9 : ¬ G ≤ i := fun z => c9 ((nI_leI (by omega) (by omega)).mpr z)
        refine lv_aload_n C.1 C.2.1 dX3_aheadOf_12 rfl (lv_at hl 2 rfl) ?_
        refine k_get C hw 1 (by omega) h1 rfl inlX3 7 (by decide) q_41 rfl dX3_aheadOf_13 ?_
        refine lv_iload_n C.1 C.2.1 dX3_aheadOf_16 rfl (lv_at hl 0 rfl) ?_
        refine k_iald C hw 4 (by omega) h4 (by omega) (by first | decide | omega) dX3_aheadOf_17 ?_
        refine lv_aload_n C.1 C.2.1 dX3_aheadOf_18 rfl (lv_at hl 2 rfl) ?_
        refine k_get C hw 1 (by omega) h1 rfl inlX3 7 (by decide) q_41 rfl dX3_aheadOf_19 ?_
        refine lv_iload_n C.1 C.2.1 dX3_aheadOf_22 rfl (lv_at hl 3 rfl) ?_
        refine k_iald C hw 4 (by omega) h4 (by omega) (by first | decide | omega) dX3_aheadOf_23 ?_
        refine lv_icmp_le (tgt := 31) C.1 C.2.1 dX3_aheadOf_24 (by decide) (fun c24 => ?_) (fun c24 => ?_)
        · refine lv_iconst (v := nI 0) C.1 C.2.1 dX3_aheadOf_31 (by decide) ?_
          refine lv_istore (lv' := [(4, .int (nI 0)), (3, .int (nI i)), (2, .int (nI a)), (0, .ref (b + 1)), (1, .int (nI g))]) C.1 C.2.1 dX3_aheadOf_32 hl (by decide) rfl (fun ls hl => ?_)
          refine lv_aload_n C.1 C.2.1 dX3_aheadOf_34 rfl (lv_at hl 3 rfl) ?_
          refine k_get C hw 1 (by omega) h1 rfl inlX3 7 (by decide) q_41 rfl dX3_aheadOf_35 ?_
          refine lv_iload_n C.1 C.2.1 dX3_aheadOf_38 rfl (lv_at hl 1 rfl) ?_
          refine k_iald C hw 4 (by omega) h4 (by omega) (by first | decide | omega) dX3_aheadOf_39 ?_
          refine lv_aload_n C.1 C.2.1 dX3_aheadOf_40 rfl (lv_at hl 3 rfl) ?_
          refine k_get C hw 1 (by omega) h1 rfl inlX3 7 (by decide) q_41 rfl dX3_aheadOf_41 ?_
          refine lv_iload_n C.1 C.2.1 dX3_aheadOf_44 rfl (lv_at hl 4 rfl) ?_
          refine k_iald C hw 4 (by omega) h4 (by omega) (by first | decide | omega) dX3_aheadOf_45 ?_
          refine lv_icmp_ne (tgt := 58) C.1 C.2.1 dX3_aheadOf_46 (by decide) (fun c46 => ?_) (fun c46 => ?_)
          · refine lv_iconst (v := nI 0) C.1 C.2.1 dX3_aheadOf_58 (by decide) ?_
            refine lv_istore (lv' := [(5, .int (nI 0)), (4, .int (nI 0)), (3, .int (nI i)), (2, .int (nI a)), (0, .ref (b + 1)), (1, .int (nI g))]) C.1 C.2.1 dX3_aheadOf_59 hl (by decide) rfl (fun ls hl => ?_)
            refine lv_iload C.1 C.2.1 dX3_aheadOf_61 (lv_at hl 1 rfl) ?_
            refine lv_if_ne (tgt := 71) C.1 C.2.1 dX3_aheadOf_63 (by decide) (fun c63 => ?_) (fun c63 => ?_)
            · exact absurd rfl c63
            · refine lv_iload C.1 C.2.1 dX3_aheadOf_66 (lv_at hl 0 rfl) ?_
              refine lv_if_eq (tgt := 74) C.1 C.2.1 dX3_aheadOf_68 (by decide) (fun c68 => ?_) (fun c68 => ?_)
              · refine lv_iinc (v := (nI (i + 1))) (lv' := [(3, .int (nI (i + 1))), (5, .int (nI 0)), (4, .int (nI 0)), (2, .int (nI a)), (0, .ref (b + 1)), (1, .int (nI g))]) C.1 C.2.1 dX3_aheadOf_74 hl (k := 2) rfl (k_inc _ 1) (by decide) rfl (fun ls hl => ?_)
                refine lv_goto (tgt := 4) C.1 C.2.1 dX3_aheadOf_77 (by decide) ?_
                exact ih  (i + 1) (a) (by omega) (by omega) (by rw [ha, cnt_f (by have h9 : ¬ we g < we i := Int32.not_lt.mpr c24; simp [h9, c46])]) ls _ _ (lv_sub hl [0, 3, 4, 5] rfl) hw
              · exact absurd rfl c68
          · refine lv_iload_n C.1 C.2.1 dX3_aheadOf_49 rfl (lv_at hl 1 rfl) ?_
            refine lv_iload_n C.1 C.2.1 dX3_aheadOf_50 rfl (lv_at hl 4 rfl) ?_
            refine lv_icmp_ge (tgt := 58) C.1 C.2.1 dX3_aheadOf_51 (by decide) (fun c51 => ?_) (fun c51 => ?_)
            · refine lv_iconst (v := nI 0) C.1 C.2.1 dX3_aheadOf_58 (by decide) ?_
              refine lv_istore (lv' := [(5, .int (nI 0)), (4, .int (nI 0)), (3, .int (nI i)), (2, .int (nI a)), (0, .ref (b + 1)), (1, .int (nI g))]) C.1 C.2.1 dX3_aheadOf_59 hl (by decide) rfl (fun ls hl => ?_)
              refine lv_iload C.1 C.2.1 dX3_aheadOf_61 (lv_at hl 1 rfl) ?_
              refine lv_if_ne (tgt := 71) C.1 C.2.1 dX3_aheadOf_63 (by decide) (fun c63 => ?_) (fun c63 => ?_)
              · exact absurd rfl c63
              · refine lv_iload C.1 C.2.1 dX3_aheadOf_66 (lv_at hl 0 rfl) ?_
                refine lv_if_eq (tgt := 74) C.1 C.2.1 dX3_aheadOf_68 (by decide) (fun c68 => ?_) (fun c68 => ?_)
                · refine lv_iinc (v := (nI (i + 1))) (lv' := [(3, .int (nI (i + 1))), (5, .int (nI 0)), (4, .int (nI 0)), (2, .int (nI a)), (0, .ref (b + 1)), (1, .int (nI g))]) C.1 C.2.1 dX3_aheadOf_74 hl (k := 2) rfl (k_inc _ 1) (by decide) rfl (fun ls hl => ?_)
                  refine lv_goto (tgt := 4) C.1 C.2.1 dX3_aheadOf_77 (by decide) ?_
                  exact ih  (i + 1) (a) (by omega) (by omega) (by rw [ha, cnt_f (by have h9 : ¬ we g < we i := Int32.not_lt.mpr c24; have h8 : ¬ i < g := fun z => absurd ((nI_leI (by omega) (by omega)).mp c51) (by omega); simp [h9, h8])]) ls _ _ (lv_sub hl [0, 3, 4, 5] rfl) hw
                · exact absurd rfl c68
            · refine lv_iconst (v := nI 1) C.1 C.2.1 dX3_aheadOf_54 (by decide) ?_
              refine lv_goto (tgt := 59) C.1 C.2.1 dX3_aheadOf_55 (by decide) ?_
              refine lv_istore (lv' := [(5, .int (nI 1)), (4, .int (nI 0)), (3, .int (nI i)), (2, .int (nI a)), (0, .ref (b + 1)), (1, .int (nI g))]) C.1 C.2.1 dX3_aheadOf_59 hl (by decide) rfl (fun ls hl => ?_)
              refine lv_iload C.1 C.2.1 dX3_aheadOf_61 (lv_at hl 1 rfl) ?_
              refine lv_if_ne (tgt := 71) C.1 C.2.1 dX3_aheadOf_63 (by decide) (fun c63 => ?_) (fun c63 => ?_)
              · exact absurd rfl c63
              · refine lv_iload C.1 C.2.1 dX3_aheadOf_66 (lv_at hl 0 rfl) ?_
                refine lv_if_eq (tgt := 74) C.1 C.2.1 dX3_aheadOf_68 (by decide) (fun c68 => ?_) (fun c68 => ?_)
                · exact absurd c68 (by decide)
                · refine lv_iinc (v := (nI (a + 1))) (lv' := [(2, .int (nI (a + 1))), (5, .int (nI 1)), (4, .int (nI 0)), (3, .int (nI i)), (0, .ref (b + 1)), (1, .int (nI g))]) C.1 C.2.1 dX3_aheadOf_71 hl (k := 3) rfl (k_inc _ 1) (by decide) rfl (fun ls hl => ?_)
                  refine lv_iinc (v := (nI (i + 1))) (lv' := [(3, .int (nI (i + 1))), (2, .int (nI (a + 1))), (5, .int (nI 1)), (4, .int (nI 0)), (0, .ref (b + 1)), (1, .int (nI g))]) C.1 C.2.1 dX3_aheadOf_74 hl (k := 3) rfl (k_inc _ 1) (by decide) rfl (fun ls hl => ?_)
                  refine lv_goto (tgt := 4) C.1 C.2.1 dX3_aheadOf_77 (by decide) ?_
                  exact ih  (i + 1) (a + 1) (by omega) (by omega) (by rw [ha, cnt_t (by have h7 : we i = we g := c46; have h8 : i < g := Nat.not_le.mp (fun z => c51 ((nI_leI (by omega) (by omega)).mpr z)); simp [h7, h8])]) ls _ _ (lv_sub hl [0, 1, 4, 5] rfl) hw
        · refine lv_iconst (v := nI 1) C.1 C.2.1 dX3_aheadOf_27 (by decide) ?_
          refine lv_goto (tgt := 32) C.1 C.2.1 dX3_aheadOf_28 (by decide) ?_
          refine lv_istore (lv' := [(4, .int (nI 1)), (3, .int (nI i)), (2, .int (nI a)), (0, .ref (b + 1)), (1, .int (nI g))]) C.1 C.2.1 dX3_aheadOf_32 hl (by decide) rfl (fun ls hl => ?_)
          refine lv_aload_n C.1 C.2.1 dX3_aheadOf_34 rfl (lv_at hl 3 rfl) ?_
          refine k_get C hw 1 (by omega) h1 rfl inlX3 7 (by decide) q_41 rfl dX3_aheadOf_35 ?_
          refine lv_iload_n C.1 C.2.1 dX3_aheadOf_38 rfl (lv_at hl 1 rfl) ?_
          refine k_iald C hw 4 (by omega) h4 (by omega) (by first | decide | omega) dX3_aheadOf_39 ?_
          refine lv_aload_n C.1 C.2.1 dX3_aheadOf_40 rfl (lv_at hl 3 rfl) ?_
          refine k_get C hw 1 (by omega) h1 rfl inlX3 7 (by decide) q_41 rfl dX3_aheadOf_41 ?_
          refine lv_iload_n C.1 C.2.1 dX3_aheadOf_44 rfl (lv_at hl 4 rfl) ?_
          refine k_iald C hw 4 (by omega) h4 (by omega) (by first | decide | omega) dX3_aheadOf_45 ?_
          refine lv_icmp_ne (tgt := 58) C.1 C.2.1 dX3_aheadOf_46 (by decide) (fun c46 => ?_) (fun c46 => ?_)
          · refine lv_iconst (v := nI 0) C.1 C.2.1 dX3_aheadOf_58 (by decide) ?_
            refine lv_istore (lv' := [(5, .int (nI 0)), (4, .int (nI 1)), (3, .int (nI i)), (2, .int (nI a)), (0, .ref (b + 1)), (1, .int (nI g))]) C.1 C.2.1 dX3_aheadOf_59 hl (by decide) rfl (fun ls hl => ?_)
            refine lv_iload C.1 C.2.1 dX3_aheadOf_61 (lv_at hl 1 rfl) ?_
            refine lv_if_ne (tgt := 71) C.1 C.2.1 dX3_aheadOf_63 (by decide) (fun c63 => ?_) (fun c63 => ?_)
            · refine lv_iinc (v := (nI (a + 1))) (lv' := [(2, .int (nI (a + 1))), (5, .int (nI 0)), (4, .int (nI 1)), (3, .int (nI i)), (0, .ref (b + 1)), (1, .int (nI g))]) C.1 C.2.1 dX3_aheadOf_71 hl (k := 3) rfl (k_inc _ 1) (by decide) rfl (fun ls hl => ?_)
              refine lv_iinc (v := (nI (i + 1))) (lv' := [(3, .int (nI (i + 1))), (2, .int (nI (a + 1))), (5, .int (nI 0)), (4, .int (nI 1)), (0, .ref (b + 1)), (1, .int (nI g))]) C.1 C.2.1 dX3_aheadOf_74 hl (k := 3) rfl (k_inc _ 1) (by decide) rfl (fun ls hl => ?_)
              refine lv_goto (tgt := 4) C.1 C.2.1 dX3_aheadOf_77 (by decide) ?_
              exact ih  (i + 1) (a + 1) (by omega) (by omega) (by rw [ha, cnt_t (by have h9 : we g < we i := Int32.not_le.mp c24; simp [h9])]) ls _ _ (lv_sub hl [0, 1, 4, 5] rfl) hw
            · exact absurd c63 (by decide)
          · refine lv_iload_n C.1 C.2.1 dX3_aheadOf_49 rfl (lv_at hl 1 rfl) ?_
            refine lv_iload_n C.1 C.2.1 dX3_aheadOf_50 rfl (lv_at hl 4 rfl) ?_
            refine lv_icmp_ge (tgt := 58) C.1 C.2.1 dX3_aheadOf_51 (by decide) (fun c51 => ?_) (fun c51 => ?_)
            · refine lv_iconst (v := nI 0) C.1 C.2.1 dX3_aheadOf_58 (by decide) ?_
              refine lv_istore (lv' := [(5, .int (nI 0)), (4, .int (nI 1)), (3, .int (nI i)), (2, .int (nI a)), (0, .ref (b + 1)), (1, .int (nI g))]) C.1 C.2.1 dX3_aheadOf_59 hl (by decide) rfl (fun ls hl => ?_)
              refine lv_iload C.1 C.2.1 dX3_aheadOf_61 (lv_at hl 1 rfl) ?_
              refine lv_if_ne (tgt := 71) C.1 C.2.1 dX3_aheadOf_63 (by decide) (fun c63 => ?_) (fun c63 => ?_)
              · refine lv_iinc (v := (nI (a + 1))) (lv' := [(2, .int (nI (a + 1))), (5, .int (nI 0)), (4, .int (nI 1)), (3, .int (nI i)), (0, .ref (b + 1)), (1, .int (nI g))]) C.1 C.2.1 dX3_aheadOf_71 hl (k := 3) rfl (k_inc _ 1) (by decide) rfl (fun ls hl => ?_)
                refine lv_iinc (v := (nI (i + 1))) (lv' := [(3, .int (nI (i + 1))), (2, .int (nI (a + 1))), (5, .int (nI 0)), (4, .int (nI 1)), (0, .ref (b + 1)), (1, .int (nI g))]) C.1 C.2.1 dX3_aheadOf_74 hl (k := 3) rfl (k_inc _ 1) (by decide) rfl (fun ls hl => ?_)
                refine lv_goto (tgt := 4) C.1 C.2.1 dX3_aheadOf_77 (by decide) ?_
                exact ih  (i + 1) (a + 1) (by omega) (by omega) (by rw [ha, cnt_t (by have h9 : we g < we i := Int32.not_le.mp c24; simp [h9])]) ls _ _ (lv_sub hl [0, 1, 4, 5] rfl) hw
              · exact absurd c63 (by decide)
            · refine lv_iconst (v := nI 1) C.1 C.2.1 dX3_aheadOf_54 (by decide) ?_
              refine lv_goto (tgt := 59) C.1 C.2.1 dX3_aheadOf_55 (by decide) ?_
              refine lv_istore (lv' := [(5, .int (nI 1)), (4, .int (nI 1)), (3, .int (nI i)), (2, .int (nI a)), (0, .ref (b + 1)), (1, .int (nI g))]) C.1 C.2.1 dX3_aheadOf_59 hl (by decide) rfl (fun ls hl => ?_)
              refine lv_iload C.1 C.2.1 dX3_aheadOf_61 (lv_at hl 1 rfl) ?_
              refine lv_if_ne (tgt := 71) C.1 C.2.1 dX3_aheadOf_63 (by decide) (fun c63 => ?_) (fun c63 => ?_)
              · refine lv_iinc (v := (nI (a + 1))) (lv' := [(2, .int (nI (a + 1))), (5, .int (nI 1)), (4, .int (nI 1)), (3, .int (nI i)), (0, .ref (b + 1)), (1, .int (nI g))]) C.1 C.2.1 dX3_aheadOf_71 hl (k := 3) rfl (k_inc _ 1) (by decide) rfl (fun ls hl => ?_)
                refine lv_iinc (v := (nI (i + 1))) (lv' := [(3, .int (nI (i + 1))), (2, .int (nI (a + 1))), (5, .int (nI 1)), (4, .int (nI 1)), (0, .ref (b + 1)), (1, .int (nI g))]) C.1 C.2.1 dX3_aheadOf_74 hl (k := 3) rfl (k_inc _ 1) (by decide) rfl (fun ls hl => ?_)
                refine lv_goto (tgt := 4) C.1 C.2.1 dX3_aheadOf_77 (by decide) ?_
                exact ih  (i + 1) (a + 1) (by omega) (by omega) (by rw [ha, cnt_t (by have h9 : we g < we i := Int32.not_le.mp c24; simp [h9])]) ls _ _ (lv_sub hl [0, 1, 4, 5] rfl) hw
              · exact absurd c63 (by decide)
  exact L4 (_ + 1) (0) (0) (Nat.lt_succ_self _) (Nat.zero_le _) (rfl) ls _ _ (lv_sub hl [0, 1, 2, 3] rfl) hw

set_option maxHeartbeats 4000000 in
set_option maxRecDepth 100000 in
theorem c_X3_giveAllToOne {l : Launch} {D : va_G} {cI cJ cZ cH cR : ClassId} {b : Nat} {n : Nat} {M : Nat → va_E}  {G : Nat} {mo : Nat} {ta : Nat} {sc : Int32} {mv : Nat} {ow : Nat → Int32} {ep : Nat → Int32} {we : Nat → Int32} {g1 m1 : Nat} (hn : 5 ≤ n) (h1 : M 1 = .inr (3, [.int (nI G), .int (nI mo), .int (nI ta), .int sc, .int (nI mv), .ref (b + 2), .ref (b + 3), .ref (b + 4), .ref (b + 5)])) (h2 : M 2 = .inl (cI, 32, .inl ow)) (h3 : M 3 = .inl (cI, 32, .inl ep)) (h4 : M 4 = .inl (cI, 32, .inl we))  : Met l yX3_giveAllToOne (kw yX3_giveAllToOne cX3_giveAllToOne 3 none) ({ frames := 1, cells := 0, slots := 0, locals := 23 }) (va_Pc [.ref (b + 1), .int (nI g1), .int (nI m1)] (kPre D (kT cI cJ cZ cH cR) b M n)) (va_Qv (fun (u : (Nat → va_E) × Nat) => u.2 = n ∧ kF [1, 2, 3, 4] M u.1 ∧ u.1 1 = .inr (3, [.int (nI g1), .int (nI m1), .int (nI 1), .int sc, .int (nI mv), .ref (b + 2), .ref (b + 3), .ref (b + 4), .ref (b + 5)]) ∧ u.1 2 = .inl (cI, 32, .inl (fun _ => 0)) ∧ u.1 3 = .inl (cI, 32, .inl (fun _ => 1)) ∧ u.1 4 = .inl (cI, 32, .inl (fun _ => 0))) (kB D (kT cI cJ cZ cH cR) b) (kA b)) 0 0 (kA b) := by
  refine k_metV (by decide +kernel) (Nat.le_of_ble_eq_true rfl) ?_
  intro p e s m below meth c ls Q C hw hret hnm hl
  have hl : lv_has ls 3 [(0, .ref (b + 1)), (1, .int (nI g1)), (2, .int (nI m1))] := hl
  have hFF : kF [1, 2, 3, 4] M M := kF_rf
  refine lv_aload_n C.1 C.2.1 dX3_giveAllToOne_0 rfl (lv_at hl 0 rfl) ?_
  refine lv_iload_n C.1 C.2.1 dX3_giveAllToOne_1 rfl (lv_at hl 1 rfl) ?_
  refine k_put (tf := .int) C hw 1 (by omega) h1 rfl inlX3 tyX3 tyX3_ok nmX3 0 (by decide) q_53 rfl (by decide +kernel) rfl rfl (Nat.le_of_ble_eq_true rfl) dX3_giveAllToOne_2 (fun M_1 H locs hw h1 hF => ?_)
  have h1 : M_1 1 = .inr (3, [.int (nI g1), .int (nI mo), .int (nI ta), .int sc, .int (nI mv), .ref (b + 2), .ref (b + 3), .ref (b + 4), .ref (b + 5)]) := h1
  have h2 := (hF 2 (by decide)).trans h2
  have h3 := (hF 3 (by decide)).trans h3
  have h4 := (hF 4 (by decide)).trans h4
  have hFF := kF_st hFF hF (by first | decide | simp)
  refine lv_aload_n C.1 C.2.1 dX3_giveAllToOne_5 rfl (lv_at hl 0 rfl) ?_
  refine lv_iload_n C.1 C.2.1 dX3_giveAllToOne_6 rfl (lv_at hl 2 rfl) ?_
  refine k_put (tf := .int) C hw 1 (by omega) h1 rfl inlX3 tyX3 tyX3_ok nmX3 1 (by decide) q_54 rfl (by decide +kernel) rfl rfl (Nat.le_of_ble_eq_true rfl) dX3_giveAllToOne_7 (fun M_2 H locs hw h1 hF => ?_)
  have h1 : M_2 1 = .inr (3, [.int (nI g1), .int (nI m1), .int (nI ta), .int sc, .int (nI mv), .ref (b + 2), .ref (b + 3), .ref (b + 4), .ref (b + 5)]) := h1
  have h2 := (hF 2 (by decide)).trans h2
  have h3 := (hF 3 (by decide)).trans h3
  have h4 := (hF 4 (by decide)).trans h4
  have hFF := kF_st hFF hF (by first | decide | simp)
  refine lv_aload_n C.1 C.2.1 dX3_giveAllToOne_10 rfl (lv_at hl 0 rfl) ?_
  refine lv_iconst (v := nI 1) C.1 C.2.1 dX3_giveAllToOne_11 (by decide) ?_
  refine k_put (tf := .int) C hw 1 (by omega) h1 rfl inlX3 tyX3 tyX3_ok nmX3 2 (by decide) q_55 rfl (by decide +kernel) rfl rfl (Nat.le_of_ble_eq_true rfl) dX3_giveAllToOne_12 (fun M_3 H locs hw h1 hF => ?_)
  have h1 : M_3 1 = .inr (3, [.int (nI g1), .int (nI m1), .int (nI 1), .int sc, .int (nI mv), .ref (b + 2), .ref (b + 3), .ref (b + 4), .ref (b + 5)]) := h1
  have h2 := (hF 2 (by decide)).trans h2
  have h3 := (hF 3 (by decide)).trans h3
  have h4 := (hF 4 (by decide)).trans h4
  have hFF := kF_st hFF hF (by first | decide | simp)
  refine lv_aload_n C.1 C.2.1 dX3_giveAllToOne_15 rfl (lv_at hl 0 rfl) ?_
  refine k_get C hw 1 (by omega) h1 rfl inlX3 5 (by decide) q_39 rfl dX3_giveAllToOne_16 ?_
  refine lv_iconst (v := nI 0) C.1 C.2.1 dX3_giveAllToOne_19 (by decide) ?_
  refine k_sv C hw (c_J7_fill_53178 (by omega) h2 (by omega)) kv_X3_47 rfl hl.1 ⟨Nat.le_of_ble_eq_true rfl, Nat.le_of_ble_eq_true rfl⟩ (Nat.le_of_ble_eq_true rfl) ⟨Nat.le_of_ble_eq_true rfl, Nat.le_of_ble_eq_true rfl⟩ dX3_giveAllToOne_20 (fun M_4 n9 H locs hp hw => ?_)
  obtain ⟨en9, hF, h2⟩ := hp
  have en9 : n9 = n := en9
  rw [en9] at hw
  have h1 := (hF 1 (by decide)).trans h1
  have h3 := (hF 3 (by decide)).trans h3
  have h4 := (hF 4 (by decide)).trans h4
  have hFF := kF_st hFF hF (by first | decide | simp)
  refine lv_aload_n C.1 C.2.1 dX3_giveAllToOne_23 rfl (lv_at hl 0 rfl) ?_
  refine k_get C hw 1 (by omega) h1 rfl inlX3 6 (by decide) q_40 rfl dX3_giveAllToOne_24 ?_
  refine lv_iconst (v := nI 1) C.1 C.2.1 dX3_giveAllToOne_27 (by decide) ?_
  refine k_sv C hw (c_J7_fill_53178 (by omega) h3 (by omega)) kv_X3_47 rfl hl.1 ⟨Nat.le_of_ble_eq_true rfl, Nat.le_of_ble_eq_true rfl⟩ (Nat.le_of_ble_eq_true rfl) ⟨Nat.le_of_ble_eq_true rfl, Nat.le_of_ble_eq_true rfl⟩ dX3_giveAllToOne_28 (fun M_5 n9 H locs hp hw => ?_)
  obtain ⟨en9, hF, h3⟩ := hp
  have en9 : n9 = n := en9
  rw [en9] at hw
  have h1 := (hF 1 (by decide)).trans h1
  have h2 := (hF 2 (by decide)).trans h2
  have h4 := (hF 4 (by decide)).trans h4
  have hFF := kF_st hFF hF (by first | decide | simp)
  refine lv_aload_n C.1 C.2.1 dX3_giveAllToOne_31 rfl (lv_at hl 0 rfl) ?_
  refine k_get C hw 1 (by omega) h1 rfl inlX3 7 (by decide) q_41 rfl dX3_giveAllToOne_32 ?_
  refine lv_iconst (v := nI 0) C.1 C.2.1 dX3_giveAllToOne_35 (by decide) ?_
  refine k_sv C hw (c_J7_fill_53178 (by omega) h4 (by omega)) kv_X3_47 rfl hl.1 ⟨Nat.le_of_ble_eq_true rfl, Nat.le_of_ble_eq_true rfl⟩ (Nat.le_of_ble_eq_true rfl) ⟨Nat.le_of_ble_eq_true rfl, Nat.le_of_ble_eq_true rfl⟩ dX3_giveAllToOne_36 (fun M_6 n9 H locs hp hw => ?_)
  obtain ⟨en9, hF, h4⟩ := hp
  have en9 : n9 = n := en9
  rw [en9] at hw
  have h1 := (hF 1 (by decide)).trans h1
  have h2 := (hF 2 (by decide)).trans h2
  have h3 := (hF 3 (by decide)).trans h3
  have hFF := kF_st hFF hF (by first | decide | simp)
  obtain ⟨M_7, hw, h2, hF⟩ := k_extI hw 2 (by omega) h2 (fun _ => 0) (fun j hj => if_pos hj)
  have h1 := (hF 1 (by decide)).trans h1
  have h3 := (hF 3 (by decide)).trans h3
  have h4 := (hF 4 (by decide)).trans h4
  have hFF := kF_st hFF hF (by first | decide | simp)
  obtain ⟨M_8, hw, h3, hF⟩ := k_extI hw 3 (by omega) h3 (fun _ => 1) (fun j hj => if_pos hj)
  have h1 := (hF 1 (by decide)).trans h1
  have h2 := (hF 2 (by decide)).trans h2
  have h4 := (hF 4 (by decide)).trans h4
  have hFF := kF_st hFF hF (by first | decide | simp)
  obtain ⟨M_9, hw, h4, hF⟩ := k_extI hw 4 (by omega) h4 (fun _ => 0) (fun j hj => if_pos hj)
  have h1 := (hF 1 (by decide)).trans h1
  have h2 := (hF 2 (by decide)).trans h2
  have h3 := (hF 3 (by decide)).trans h3
  have hFF := kF_st hFF hF (by first | decide | simp)
  exact hret _ _ (Nat.le_of_ble_eq_true rfl) (Nat.le_of_ble_eq_true rfl) hw (⟨rfl, hFF, h1, h2, h3, h4⟩) dX3_giveAllToOne_39

set_option maxHeartbeats 4000000 in
set_option maxRecDepth 100000 in
theorem c_X3_begin {l : Launch} {D : va_G} {cI cJ cZ cH cR : ClassId} {b : Nat} {n : Nat} {M : Nat → va_E}  {G : Nat} {mo : Nat} {ta : Nat} {sc : Int32} {mv : Nat} {ow : Nat → Int32} {ep : Nat → Int32} {we : Nat → Int32}  (hn : 5 ≤ n) (h1 : M 1 = .inr (3, [.int (nI G), .int (nI mo), .int (nI ta), .int sc, .int (nI mv), .ref (b + 2), .ref (b + 3), .ref (b + 4), .ref (b + 5)])) (h2 : M 2 = .inl (cI, 32, .inl ow)) (h3 : M 3 = .inl (cI, 32, .inl ep)) (h4 : M 4 = .inl (cI, 32, .inl we))  : Met l yX3_begin (kw yX3_begin cX3_begin 1 none) ({ frames := 2, cells := 0, slots := 0, locals := 45 }) (va_Pc [.ref (b + 1)] (kPre D (kT cI cJ cZ cH cR) b M n)) (va_Qv (fun (u : (Nat → va_E) × Nat) => u.2 = n ∧ kF [1, 2, 3, 4] M u.1 ∧ u.1 1 = .inr (3, [.int (nI 8), .int (nI 4), .int (nI 1), .int (nI 0), .int (nI 0), .ref (b + 2), .ref (b + 3), .ref (b + 4), .ref (b + 5)]) ∧ u.1 2 = .inl (cI, 32, .inl (fun _ => 0)) ∧ u.1 3 = .inl (cI, 32, .inl (fun _ => 1)) ∧ u.1 4 = .inl (cI, 32, .inl (fun _ => 0))) (kB D (kT cI cJ cZ cH cR) b) (kA b)) 0 0 (kA b) := by
  refine k_metV (by decide +kernel) (Nat.le_of_ble_eq_true rfl) ?_
  intro p e s m below meth c ls Q C hw hret hnm hl
  have hl : lv_has ls 1 [(0, .ref (b + 1))] := hl
  have hFF : kF [1, 2, 3, 4] M M := kF_rf
  refine lv_aload_n C.1 C.2.1 dX3_begin_0 rfl (lv_at hl 0 rfl) ?_
  refine lv_iconst (v := nI 0) C.1 C.2.1 dX3_begin_1 (by decide) ?_
  refine k_put (tf := .int) C hw 1 (by omega) h1 rfl inlX3 tyX3 tyX3_ok nmX3 3 (by decide) q_47 rfl (by decide +kernel) rfl rfl (Nat.le_of_ble_eq_true rfl) dX3_begin_2 (fun M_1 H locs hw h1 hF => ?_)
  have h1 : M_1 1 = .inr (3, [.int (nI G), .int (nI mo), .int (nI ta), .int (nI 0), .int (nI mv), .ref (b + 2), .ref (b + 3), .ref (b + 4), .ref (b + 5)]) := h1
  have h2 := (hF 2 (by decide)).trans h2
  have h3 := (hF 3 (by decide)).trans h3
  have h4 := (hF 4 (by decide)).trans h4
  have hFF := kF_st hFF hF (by first | decide | simp)
  refine lv_aload_n C.1 C.2.1 dX3_begin_5 rfl (lv_at hl 0 rfl) ?_
  refine lv_iconst (v := nI 0) C.1 C.2.1 dX3_begin_6 (by decide) ?_
  refine k_put (tf := .int) C hw 1 (by omega) h1 rfl inlX3 tyX3 tyX3_ok nmX3 4 (by decide) q_48 rfl (by decide +kernel) rfl rfl (Nat.le_of_ble_eq_true rfl) dX3_begin_7 (fun M_2 H locs hw h1 hF => ?_)
  have h1 : M_2 1 = .inr (3, [.int (nI G), .int (nI mo), .int (nI ta), .int (nI 0), .int (nI 0), .ref (b + 2), .ref (b + 3), .ref (b + 4), .ref (b + 5)]) := h1
  have h2 := (hF 2 (by decide)).trans h2
  have h3 := (hF 3 (by decide)).trans h3
  have h4 := (hF 4 (by decide)).trans h4
  have hFF := kF_st hFF hF (by first | decide | simp)
  refine lv_aload_n C.1 C.2.1 dX3_begin_10 rfl (lv_at hl 0 rfl) ?_
  refine lv_bipush (v := nI 8) C.1 C.2.1 dX3_begin_11 (by decide) ?_
  refine lv_iconst (v := nI 4) C.1 C.2.1 dX3_begin_13 (by decide) ?_
  refine k_vv C hw 1 (by omega) h1 rfl (c_X3_giveAllToOne (by omega) h1 h2 h3 h4 ) kv_X3_34 rfl hl.1 ⟨Nat.le_of_ble_eq_true rfl, Nat.le_of_ble_eq_true rfl⟩ (Nat.le_of_ble_eq_true rfl) ⟨Nat.le_of_ble_eq_true rfl, Nat.le_of_ble_eq_true rfl⟩ dX3_begin_14 (fun M_3 n9 H locs hp hw => ?_)
  obtain ⟨en9, hF, h1, h2, h3, h4⟩ := hp
  have en9 : n9 = n := en9
  rw [en9] at hw
  have hFF := kF_st hFF hF (by first | decide | simp)
  exact hret _ _ (Nat.le_of_ble_eq_true rfl) (Nat.le_of_ble_eq_true rfl) hw (⟨rfl, hFF, h1, h2, h3, h4⟩) dX3_begin_17

set_option maxHeartbeats 4000000 in
set_option maxRecDepth 100000 in
theorem c_X3_init {l : Launch} {D : va_G} {cI cJ cZ cH cR : ClassId} {b : Nat} {M : Nat → va_E}     (h1 : M 1 = .inr (3, [.int 0, .int 0, .int 0, .int 0, .int 0, .null, .null, .null, .null]))  : Met l yX3_init (kw yX3_init cX3_init 1 none) ({ frames := 3, cells := 4, slots := 128, locals := 65 }) (va_Pc [.ref (b + 1)] (kPre D (kT cI cJ cZ cH cR) b M 2)) (va_Qv (fun (u : (Nat → va_E) × Nat) => u.2 = 6 ∧ kF [1, 2, 3, 4, 5] M u.1 ∧ u.1 1 = .inr (3, [.int (nI 8), .int (nI 4), .int (nI 1), .int (nI 0), .int (nI 0), .ref (b + 2), .ref (b + 3), .ref (b + 4), .ref (b + 5)]) ∧ u.1 2 = .inl (cI, 32, .inl (fun _ => 0)) ∧ u.1 3 = .inl (cI, 32, .inl (fun _ => 1)) ∧ u.1 4 = .inl (cI, 32, .inl (fun _ => 0)) ∧ u.1 5 = .inl (cI, 32, .inl (fun _ => 0))) (kB D (kT cI cJ cZ cH cR) b) (kA b)) 4 128 (kA b) := by
  refine k_metV (by decide +kernel) (Nat.le_of_ble_eq_true rfl) ?_
  intro p e s m below meth c ls Q C hw hret hnm hl
  have hl : lv_has ls 1 [(0, .ref (b + 1))] := hl
  have hFF : kF [1, 2, 3, 4, 5] M M := kF_rf
  refine lv_aload_n C.1 C.2.1 dX3_init_0 rfl (lv_at hl 0 rfl) ?_
  refine W.objInit C.1 C.2.1 C.2.2.2.1 (C.2.2.2.2.1 _ q_37) (C.2.2.2.2.1 _ q_10) (C.2.2.2.2.1 _ q_11) rfl (by rw [C.2.2.1]; exact hl.1) rfl dX3_init_1 (Nat.le_of_ble_eq_true rfl) (Nat.le_of_ble_eq_true rfl) ?_
  refine W.eq (g2 := F0 m 4 ls []) rfl ?_
  refine lv_aload_n C.1 C.2.1 dX3_init_4 rfl (lv_at hl 0 rfl) ?_
  refine lv_bipush (v := nI 32) C.1 C.2.1 dX3_init_5 (by decide) ?_
  refine k_newI C hw q_38 32 rfl (by decide) (Nat.le_of_ble_eq_true rfl) (Nat.le_of_ble_eq_true rfl) dX3_init_7 (fun M_1 H hw h2 hF => ?_)
  have h1 := (hF 1 (by decide)).trans h1
  have hFF := kF_st hFF hF (by first | decide | simp)
  refine k_putF (tf := .array .int) C hw 1 (by decide) h1 rfl inlX3 tyX3 tyX3_ok nmX3 5 (by decide) q_39 rfl hnm rfl (by decide +kernel) rfl rfl (Nat.le_of_ble_eq_true rfl) dX3_init_9 (fun M_2 H locs hw h1 hF => ?_)
  have h1 : M_2 1 = .inr (3, [.int 0, .int 0, .int 0, .int 0, .int 0, .ref (b + 2), .null, .null, .null]) := h1
  have h2 := (hF 2 (by decide)).trans h2
  have hFF := kF_st hFF hF (by first | decide | simp)
  refine lv_aload_n C.1 C.2.1 dX3_init_12 rfl (lv_at hl 0 rfl) ?_
  refine lv_bipush (v := nI 32) C.1 C.2.1 dX3_init_13 (by decide) ?_
  refine k_newI C hw q_38 32 rfl (by decide) (Nat.le_of_ble_eq_true rfl) (Nat.le_of_ble_eq_true rfl) dX3_init_15 (fun M_3 H hw h3 hF => ?_)
  have h1 := (hF 1 (by decide)).trans h1
  have h2 := (hF 2 (by decide)).trans h2
  have hFF := kF_st hFF hF (by first | decide | simp)
  refine k_putF (tf := .array .int) C hw 1 (by decide) h1 rfl inlX3 tyX3 tyX3_ok nmX3 6 (by decide) q_40 rfl hnm rfl (by decide +kernel) rfl rfl (Nat.le_of_ble_eq_true rfl) dX3_init_17 (fun M_4 H locs hw h1 hF => ?_)
  have h1 : M_4 1 = .inr (3, [.int 0, .int 0, .int 0, .int 0, .int 0, .ref (b + 2), .ref (b + 3), .null, .null]) := h1
  have h2 := (hF 2 (by decide)).trans h2
  have h3 := (hF 3 (by decide)).trans h3
  have hFF := kF_st hFF hF (by first | decide | simp)
  refine lv_aload_n C.1 C.2.1 dX3_init_20 rfl (lv_at hl 0 rfl) ?_
  refine lv_bipush (v := nI 32) C.1 C.2.1 dX3_init_21 (by decide) ?_
  refine k_newI C hw q_38 32 rfl (by decide) (Nat.le_of_ble_eq_true rfl) (Nat.le_of_ble_eq_true rfl) dX3_init_23 (fun M_5 H hw h4 hF => ?_)
  have h1 := (hF 1 (by decide)).trans h1
  have h2 := (hF 2 (by decide)).trans h2
  have h3 := (hF 3 (by decide)).trans h3
  have hFF := kF_st hFF hF (by first | decide | simp)
  refine k_putF (tf := .array .int) C hw 1 (by decide) h1 rfl inlX3 tyX3 tyX3_ok nmX3 7 (by decide) q_41 rfl hnm rfl (by decide +kernel) rfl rfl (Nat.le_of_ble_eq_true rfl) dX3_init_25 (fun M_6 H locs hw h1 hF => ?_)
  have h1 : M_6 1 = .inr (3, [.int 0, .int 0, .int 0, .int 0, .int 0, .ref (b + 2), .ref (b + 3), .ref (b + 4), .null]) := h1
  have h2 := (hF 2 (by decide)).trans h2
  have h3 := (hF 3 (by decide)).trans h3
  have h4 := (hF 4 (by decide)).trans h4
  have hFF := kF_st hFF hF (by first | decide | simp)
  refine lv_aload_n C.1 C.2.1 dX3_init_28 rfl (lv_at hl 0 rfl) ?_
  refine lv_bipush (v := nI 32) C.1 C.2.1 dX3_init_29 (by decide) ?_
  refine k_newI C hw q_38 32 rfl (by decide) (Nat.le_of_ble_eq_true rfl) (Nat.le_of_ble_eq_true rfl) dX3_init_31 (fun M_7 H hw h5 hF => ?_)
  have h1 := (hF 1 (by decide)).trans h1
  have h2 := (hF 2 (by decide)).trans h2
  have h3 := (hF 3 (by decide)).trans h3
  have h4 := (hF 4 (by decide)).trans h4
  have hFF := kF_st hFF hF (by first | decide | simp)
  refine k_putF (tf := .array .int) C hw 1 (by decide) h1 rfl inlX3 tyX3 tyX3_ok nmX3 8 (by decide) q_42 rfl hnm rfl (by decide +kernel) rfl rfl (Nat.le_of_ble_eq_true rfl) dX3_init_33 (fun M_8 H locs hw h1 hF => ?_)
  have h1 : M_8 1 = .inr (3, [.int 0, .int 0, .int 0, .int 0, .int 0, .ref (b + 2), .ref (b + 3), .ref (b + 4), .ref (b + 5)]) := h1
  have h2 := (hF 2 (by decide)).trans h2
  have h3 := (hF 3 (by decide)).trans h3
  have h4 := (hF 4 (by decide)).trans h4
  have h5 := (hF 5 (by decide)).trans h5
  have hFF := kF_st hFF hF (by first | decide | simp)
  refine lv_aload_n C.1 C.2.1 dX3_init_36 rfl (lv_at hl 0 rfl) ?_
  refine k_vv C hw 1 (by decide) h1 rfl (c_X3_begin (by decide) h1 h2 h3 h4 ) kv_X3_24 rfl hl.1 ⟨Nat.le_of_ble_eq_true rfl, Nat.le_of_ble_eq_true rfl⟩ (Nat.le_of_ble_eq_true rfl) ⟨Nat.le_of_ble_eq_true rfl, Nat.le_of_ble_eq_true rfl⟩ dX3_init_37 (fun M_9 n9 H locs hp hw => ?_)
  obtain ⟨en9, hF, h1, h2, h3, h4⟩ := hp
  have en9 : n9 = 6 := en9
  rw [en9] at hw
  have h5 := (hF 5 (by decide)).trans h5
  have hFF := kF_st hFF hF (by first | decide | simp)
  exact hret _ _ (Nat.le_of_ble_eq_true rfl) (Nat.le_of_ble_eq_true rfl) hw (⟨rfl, hFF, h1, h2, h3, h4, h5⟩) dX3_init_40
end
section
/-- floorMod by 32, as the code has it -/
def fm32 (x : Int32) : Int32 := if 0 ≤ x ^^^ nI 32 then x - x / nI 32 * nI 32 else if x - x / nI 32 * nI 32 = 0 then x - x / nI 32 * nI 32 else x - x / nI 32 * nI 32 + nI 32
set_option maxRecDepth 100000 in
theorem fm32_all : ∀ a, a < 32 → ∀ i, i < 32 → fm32 (nI a - nI 1 - nI i) = nI ((a + 63 - i) % 32) := by decide +kernel
theorem fm32_at {a i : Nat} (ha : a < 32) (hi : i < 32) : fm32 (nI a - nI 1 - nI i) = nI ((a + 63 - i) % 32) := fm32_all a ha i hi
/-- a new timer (k, t) comes ahead of (k2, t2) -/
abbrev tah (k t k2 t2 : Int32) : Prop := t < t2 ∨ (t = t2 ∧ k < k2)
/-- its place among the first i: behind the last that it does not come ahead of -/
def tpl (k t : Int32) (tk tt : Nat → Int32) : Nat → Nat
  | 0 => 0
  | i + 1 => if tah k t (tk i) (tt i) then tpl k t tk tt i else i + 1
theorem tpl_le (k t : Int32) (tk tt : Nat → Int32) : ∀ i, tpl k t tk tt i ≤ i
  | 0 => Nat.le_refl _
  | i + 1 => by
    have := tpl_le k t tk tt i
    unfold tpl
    split <;> omega
theorem tpl_s {k t : Int32} {tk tt : Nat → Int32} {i : Nat} (hi : 0 < i) (h : tah k t (tk (i - 1)) (tt (i - 1))) : tpl k t tk tt (i - 1) = tpl k t tk tt i := by
  obtain ⟨j, rfl⟩ : ∃ j, i = j + 1 := ⟨i - 1, by omega⟩
  conv => rhs; unfold tpl
  exact (if_pos h).symm
theorem tpl_e {k t : Int32} {tk tt : Nat → Int32} {i : Nat} (hi : 0 < i) (h : ¬ tah k t (tk (i - 1)) (tt (i - 1))) : tpl k t tk tt i = i := by
  obtain ⟨j, rfl⟩ : ∃ j, i = j + 1 := ⟨i - 1, by omega⟩
  unfold tpl
  exact if_neg h
theorem cpy00 {α : Type} {f g : Nat → α} {n j : Nat} (h : j < n) : va_cpy f g 0 0 n j = f j := by
  unfold va_cpy
  rw [if_pos ⟨Nat.zero_le _, by omega⟩]
  simp
theorem nI_min {x y : Nat} (hx : x < 1000) (hy : y < 1000) : (if nI y < nI x then nI y else nI x) = nI (min x y) := by
  by_cases h : y < x
  · rw [if_pos (nI_lt h (by omega)), Nat.min_eq_right (by omega)]
  · rw [if_neg (nI_nlt (by omega) (by omega)), Nat.min_eq_left (by omega)]
end
section
theorem kv_X0_9 : kIn RX0 9 yX6_init cX6_init 1 0 := ⟨q_84, q_85, q_74, q_86, by decide +kernel⟩
theorem kv_X0_18 : kIn RX0 18 yX5_init cX5_init 1 0 := ⟨q_91, q_92, q_78, q_93, by decide +kernel⟩
theorem kv_X0_25 : kIn RX0 25 yX7_init cX7_init 1 0 := ⟨q_98, q_99, q_82, q_100, by decide +kernel⟩
theorem kv_X0_30 : kV RX0 RX6 30 yX6_begin cX6_begin 1 none 0 := ⟨q_663, q_664, q_665, q_74, q_666, by decide +kernel⟩
theorem kv_X0_33 : kV RX0 RX5 33 yX5_begin cX5_begin 1 none 0 := ⟨q_671, q_672, q_673, q_78, q_674, by decide +kernel⟩
theorem kv_X0_34 : kV RX0 RX7 34 yX7_begin cX7_begin 1 none 0 := ⟨q_675, q_676, q_677, q_82, q_678, by decide +kernel⟩
theorem kv_X0_35 : kV RX0 RX6 35 yX6_copyFrom cX6_copyFrom 2 none 1 := ⟨q_603, q_604, q_605, q_74, q_606, by decide +kernel⟩
theorem kv_X0_39 : kV RX0 RX5 39 yX5_copyFrom cX5_copyFrom 2 none 1 := ⟨q_608, q_609, q_610, q_78, q_611, by decide +kernel⟩
theorem kv_X0_42 : kV RX0 RX7 42 yX7_copyFrom cX7_copyFrom 2 none 1 := ⟨q_612, q_613, q_614, q_82, q_615, by decide +kernel⟩
theorem kv_X1_38 : kSt RX1 38 yJ9_floorMod_7cf53 cJ9_floorMod_7cf53 3 (some .int) 2 := ⟨q_582, q_583, q_584, q_585, by decide +kernel⟩
theorem kv_X6_19 : kSt RX6 19 yJ7_fill_53178 cJ7_fill_53178 4 none 2 := ⟨q_667, q_57, q_58, q_59, by decide +kernel⟩
theorem kv_X6_25 : kSt RX6 25 yJ7_fill_d0a16 cJ7_fill_d0a16 5 none 2 := ⟨q_668, q_669, q_58, q_670, by decide +kernel⟩
theorem kv_X7_25 : kV RX7 RX7 25 yX7_placeFor cX7_placeFor 4 (some .int) 2 := ⟨q_500, q_501, q_502, q_82, q_503, by decide +kernel⟩
theorem kv_X7_35 : kV RX7 RX7 35 yX7_comesAhead cX7_comesAhead 4 (some .boolean) 3 := ⟨q_504, q_505, q_506, q_82, q_507, by decide +kernel⟩
set_option maxHeartbeats 4000000 in
set_option maxRecDepth 100000 in
theorem c_X6_init_22 {l : Launch} {D : va_G} {cI cJ cZ cH cR : ClassId} {b : Nat} {M : Nat → va_E}     (h23 : M 23 = .inr (6, [.null, .null]))  : Met l yX6_init (kw yX6_init cX6_init 1 none) ({ frames := 1, cells := 2, slots := 200, locals := 12 }) (va_Pc [.ref (b + 23)] (kPre D (kT cI cJ cZ cH cR) b M 24)) (va_Qv (fun (u : (Nat → va_E) × Nat) => u.2 = 26 ∧ kF [23, 24, 25] M u.1 ∧ u.1 23 = .inr (6, [.ref (b + 24), .ref (b + 25)]) ∧ u.1 24 = .inl (cI, 100, .inl (fun _ => 0)) ∧ u.1 25 = .inl (cJ, 100, .inr (.inl (fun _ => 0)))) (kB D (kT cI cJ cZ cH cR) b) (kA b)) 2 200 (kA b) := by
  refine k_metV (by decide +kernel) (Nat.le_of_ble_eq_true rfl) ?_
  intro p e s m below meth c ls Q C hw hret hnm hl
  have hl : lv_has ls 1 [(0, .ref (b + 23))] := hl
  have hFF : kF [23, 24, 25] M M := kF_rf
  refine lv_aload_n C.1 C.2.1 dX6_init_0 rfl (lv_at hl 0 rfl) ?_
  refine W.objInit C.1 C.2.1 C.2.2.2.1 (C.2.2.2.2.1 _ q_87) (C.2.2.2.2.1 _ q_10) (C.2.2.2.2.1 _ q_11) rfl (by rw [C.2.2.1]; exact hl.1) rfl dX6_init_1 (Nat.le_of_ble_eq_true rfl) (Nat.le_of_ble_eq_true rfl) ?_
  refine W.eq (g2 := F0 m 4 ls []) rfl ?_
  refine lv_aload_n C.1 C.2.1 dX6_init_4 rfl (lv_at hl 0 rfl) ?_
  refine lv_bipush (v := nI 100) C.1 C.2.1 dX6_init_5 (by decide) ?_
  refine k_newI C hw q_38 100 rfl (by decide) (Nat.le_of_ble_eq_true rfl) (Nat.le_of_ble_eq_true rfl) dX6_init_7 (fun M_1 H hw h24 hF => ?_)
  have h23 := (hF 23 (by decide)).trans h23
  have hFF := kF_st hFF hF (by first | decide | simp)
  refine k_putF (tf := .array .int) C hw 23 (by decide) h23 rfl inlX6 tyX6 tyX6_ok nmX6 0 (by decide) q_88 rfl hnm rfl (by decide +kernel) rfl rfl (Nat.le_of_ble_eq_true rfl) dX6_init_9 (fun M_2 H locs hw h23 hF => ?_)
  have h23 : M_2 23 = .inr (6, [.ref (b + 24), .null]) := h23
  have h24 := (hF 24 (by decide)).trans h24
  have hFF := kF_st hFF hF (by first | decide | simp)
  refine lv_aload_n C.1 C.2.1 dX6_init_12 rfl (lv_at hl 0 rfl) ?_
  refine lv_bipush (v := nI 100) C.1 C.2.1 dX6_init_13 (by decide) ?_
  refine k_newJ C hw q_89 100 rfl (by decide) (Nat.le_of_ble_eq_true rfl) (Nat.le_of_ble_eq_true rfl) dX6_init_15 (fun M_3 H hw h25 hF => ?_)
  have h23 := (hF 23 (by decide)).trans h23
  have h24 := (hF 24 (by decide)).trans h24
  have hFF := kF_st hFF hF (by first | decide | simp)
  refine k_putF (tf := .array .long) C hw 23 (by decide) h23 rfl inlX6 tyX6 tyX6_ok nmX6 1 (by decide) q_90 rfl hnm rfl (by decide +kernel) rfl rfl (Nat.le_of_ble_eq_true rfl) dX6_init_17 (fun M_4 H locs hw h23 hF => ?_)
  have h23 : M_4 23 = .inr (6, [.ref (b + 24), .ref (b + 25)]) := h23
  have h24 := (hF 24 (by decide)).trans h24
  have h25 := (hF 25 (by decide)).trans h25
  have hFF := kF_st hFF hF (by first | decide | simp)
  exact hret _ _ (Nat.le_of_ble_eq_true rfl) (Nat.le_of_ble_eq_true rfl) hw (⟨rfl, hFF, h23, h24, h25⟩) dX6_init_20

set_option maxHeartbeats 4000000 in
set_option maxRecDepth 100000 in
theorem c_X5_init_22 {l : Launch} {D : va_G} {cI cJ cZ cH cR : ClassId} {b : Nat} {M : Nat → va_E}     (h26 : M 26 = .inr (5, [.null, .null, .null, .int 0, .int 0]))  : Met l yX5_init (kw yX5_init cX5_init 1 none) ({ frames := 1, cells := 3, slots := 1200, locals := 12 }) (va_Pc [.ref (b + 26)] (kPre D (kT cI cJ cZ cH cR) b M 27)) (va_Qv (fun (u : (Nat → va_E) × Nat) => u.2 = 30 ∧ kF [26, 27, 28, 29] M u.1 ∧ u.1 26 = .inr (5, [.ref (b + 27), .ref (b + 28), .ref (b + 29), .int (nI 0), .int (nI 0)]) ∧ u.1 27 = .inl (cI, 400, .inl (fun _ => 0)) ∧ u.1 28 = .inl (cI, 400, .inl (fun _ => 0)) ∧ u.1 29 = .inl (cI, 400, .inl (fun _ => 0))) (kB D (kT cI cJ cZ cH cR) b) (kA b)) 3 1200 (kA b) := by
  refine k_metV (by decide +kernel) (Nat.le_of_ble_eq_true rfl) ?_
  intro p e s m below meth c ls Q C hw hret hnm hl
  have hl : lv_has ls 1 [(0, .ref (b + 26))] := hl
  have hFF : kF [26, 27, 28, 29] M M := kF_rf
  refine lv_aload_n C.1 C.2.1 dX5_init_0 rfl (lv_at hl 0 rfl) ?_
  refine W.objInit C.1 C.2.1 C.2.2.2.1 (C.2.2.2.2.1 _ q_94) (C.2.2.2.2.1 _ q_10) (C.2.2.2.2.1 _ q_11) rfl (by rw [C.2.2.1]; exact hl.1) rfl dX5_init_1 (Nat.le_of_ble_eq_true rfl) (Nat.le_of_ble_eq_true rfl) ?_
  refine W.eq (g2 := F0 m 4 ls []) rfl ?_
  refine lv_aload_n C.1 C.2.1 dX5_init_4 rfl (lv_at hl 0 rfl) ?_
  refine lv_sipush (v := nI 400) C.1 C.2.1 dX5_init_5 (by decide) ?_
  refine k_newI C hw q_38 400 rfl (by decide) (Nat.le_of_ble_eq_true rfl) (Nat.le_of_ble_eq_true rfl) dX5_init_8 (fun M_1 H hw h27 hF => ?_)
  have h26 := (hF 26 (by decide)).trans h26
  have hFF := kF_st hFF hF (by first | decide | simp)
  refine k_putF (tf := .array .int) C hw 26 (by decide) h26 rfl inlX5 tyX5 tyX5_ok nmX5 0 (by decide) q_95 rfl hnm rfl (by decide +kernel) rfl rfl (Nat.le_of_ble_eq_true rfl) dX5_init_10 (fun M_2 H locs hw h26 hF => ?_)
  have h26 : M_2 26 = .inr (5, [.ref (b + 27), .null, .null, .int 0, .int 0]) := h26
  have h27 := (hF 27 (by decide)).trans h27
  have hFF := kF_st hFF hF (by first | decide | simp)
  refine lv_aload_n C.1 C.2.1 dX5_init_13 rfl (lv_at hl 0 rfl) ?_
  refine lv_sipush (v := nI 400) C.1 C.2.1 dX5_init_14 (by decide) ?_
  refine k_newI C hw q_38 400 rfl (by decide) (Nat.le_of_ble_eq_true rfl) (Nat.le_of_ble_eq_true rfl) dX5_init_17 (fun M_3 H hw h28 hF => ?_)
  have h26 := (hF 26 (by decide)).trans h26
  have h27 := (hF 27 (by decide)).trans h27
  have hFF := kF_st hFF hF (by first | decide | simp)
  refine k_putF (tf := .array .int) C hw 26 (by decide) h26 rfl inlX5 tyX5 tyX5_ok nmX5 1 (by decide) q_96 rfl hnm rfl (by decide +kernel) rfl rfl (Nat.le_of_ble_eq_true rfl) dX5_init_19 (fun M_4 H locs hw h26 hF => ?_)
  have h26 : M_4 26 = .inr (5, [.ref (b + 27), .ref (b + 28), .null, .int 0, .int 0]) := h26
  have h27 := (hF 27 (by decide)).trans h27
  have h28 := (hF 28 (by decide)).trans h28
  have hFF := kF_st hFF hF (by first | decide | simp)
  refine lv_aload_n C.1 C.2.1 dX5_init_22 rfl (lv_at hl 0 rfl) ?_
  refine lv_sipush (v := nI 400) C.1 C.2.1 dX5_init_23 (by decide) ?_
  refine k_newI C hw q_38 400 rfl (by decide) (Nat.le_of_ble_eq_true rfl) (Nat.le_of_ble_eq_true rfl) dX5_init_26 (fun M_5 H hw h29 hF => ?_)
  have h26 := (hF 26 (by decide)).trans h26
  have h27 := (hF 27 (by decide)).trans h27
  have h28 := (hF 28 (by decide)).trans h28
  have hFF := kF_st hFF hF (by first | decide | simp)
  refine k_putF (tf := .array .int) C hw 26 (by decide) h26 rfl inlX5 tyX5 tyX5_ok nmX5 2 (by decide) q_97 rfl hnm rfl (by decide +kernel) rfl rfl (Nat.le_of_ble_eq_true rfl) dX5_init_28 (fun M_6 H locs hw h26 hF => ?_)
  have h26 : M_6 26 = .inr (5, [.ref (b + 27), .ref (b + 28), .ref (b + 29), .int 0, .int 0]) := h26
  have h27 := (hF 27 (by decide)).trans h27
  have h28 := (hF 28 (by decide)).trans h28
  have h29 := (hF 29 (by decide)).trans h29
  have hFF := kF_st hFF hF (by first | decide | simp)
  exact hret _ _ (Nat.le_of_ble_eq_true rfl) (Nat.le_of_ble_eq_true rfl) hw (⟨rfl, hFF, h26, h27, h28, h29⟩) dX5_init_31

set_option maxHeartbeats 4000000 in
set_option maxRecDepth 100000 in
theorem c_X7_init_22 {l : Launch} {D : va_G} {cI cJ cZ cH cR : ClassId} {b : Nat} {M : Nat → va_E}     (h30 : M 30 = .inr (7, [.null, .null, .int 0, .int 0]))  : Met l yX7_init (kw yX7_init cX7_init 1 none) ({ frames := 1, cells := 2, slots := 80, locals := 12 }) (va_Pc [.ref (b + 30)] (kPre D (kT cI cJ cZ cH cR) b M 31)) (va_Qv (fun (u : (Nat → va_E) × Nat) => u.2 = 33 ∧ kF [30, 31, 32] M u.1 ∧ u.1 30 = .inr (7, [.ref (b + 31), .ref (b + 32), .int (nI 0), .int (0)]) ∧ u.1 31 = .inl (cI, 40, .inl (fun _ => 0)) ∧ u.1 32 = .inl (cI, 40, .inl (fun _ => 0))) (kB D (kT cI cJ cZ cH cR) b) (kA b)) 2 80 (kA b) := by
  refine k_metV (by decide +kernel) (Nat.le_of_ble_eq_true rfl) ?_
  intro p e s m below meth c ls Q C hw hret hnm hl
  have hl : lv_has ls 1 [(0, .ref (b + 30))] := hl
  have hFF : kF [30, 31, 32] M M := kF_rf
  refine lv_aload_n C.1 C.2.1 dX7_init_0 rfl (lv_at hl 0 rfl) ?_
  refine W.objInit C.1 C.2.1 C.2.2.2.1 (C.2.2.2.2.1 _ q_101) (C.2.2.2.2.1 _ q_10) (C.2.2.2.2.1 _ q_11) rfl (by rw [C.2.2.1]; exact hl.1) rfl dX7_init_1 (Nat.le_of_ble_eq_true rfl) (Nat.le_of_ble_eq_true rfl) ?_
  refine W.eq (g2 := F0 m 4 ls []) rfl ?_
  refine lv_aload_n C.1 C.2.1 dX7_init_4 rfl (lv_at hl 0 rfl) ?_
  refine lv_bipush (v := nI 40) C.1 C.2.1 dX7_init_5 (by decide) ?_
  refine k_newI C hw q_38 40 rfl (by decide) (Nat.le_of_ble_eq_true rfl) (Nat.le_of_ble_eq_true rfl) dX7_init_7 (fun M_1 H hw h31 hF => ?_)
  have h30 := (hF 30 (by decide)).trans h30
  have hFF := kF_st hFF hF (by first | decide | simp)
  refine k_putF (tf := .array .int) C hw 30 (by decide) h30 rfl inlX7 tyX7 tyX7_ok nmX7 0 (by decide) q_102 rfl hnm rfl (by decide +kernel) rfl rfl (Nat.le_of_ble_eq_true rfl) dX7_init_9 (fun M_2 H locs hw h30 hF => ?_)
  have h30 : M_2 30 = .inr (7, [.ref (b + 31), .null, .int 0, .int 0]) := h30
  have h31 := (hF 31 (by decide)).trans h31
  have hFF := kF_st hFF hF (by first | decide | simp)
  refine lv_aload_n C.1 C.2.1 dX7_init_12 rfl (lv_at hl 0 rfl) ?_
  refine lv_bipush (v := nI 40) C.1 C.2.1 dX7_init_13 (by decide) ?_
  refine k_newI C hw q_38 40 rfl (by decide) (Nat.le_of_ble_eq_true rfl) (Nat.le_of_ble_eq_true rfl) dX7_init_15 (fun M_3 H hw h32 hF => ?_)
  have h30 := (hF 30 (by decide)).trans h30
  have h31 := (hF 31 (by decide)).trans h31
  have hFF := kF_st hFF hF (by first | decide | simp)
  refine k_putF (tf := .array .int) C hw 30 (by decide) h30 rfl inlX7 tyX7 tyX7_ok nmX7 1 (by decide) q_103 rfl hnm rfl (by decide +kernel) rfl rfl (Nat.le_of_ble_eq_true rfl) dX7_init_17 (fun M_4 H locs hw h30 hF => ?_)
  have h30 : M_4 30 = .inr (7, [.ref (b + 31), .ref (b + 32), .int 0, .int 0]) := h30
  have h31 := (hF 31 (by decide)).trans h31
  have h32 := (hF 32 (by decide)).trans h32
  have hFF := kF_st hFF hF (by first | decide | simp)
  exact hret _ _ (Nat.le_of_ble_eq_true rfl) (Nat.le_of_ble_eq_true rfl) hw (⟨rfl, hFF, h30, h31, h32⟩) dX7_init_20

set_option maxHeartbeats 4000000 in
set_option maxRecDepth 100000 in
theorem c_X0_init_22 {l : Launch} {D : va_G} {cI cJ cZ cH cR : ClassId} {b : Nat} {M : Nat → va_E}     (h22 : M 22 = .inr (0, [.null, .null, .null]))  : Met l yX0_init (kw yX0_init cX0_init 1 none) ({ frames := 2, cells := 10, slots := 1491, locals := 32 }) (va_Pc [.ref (b + 22)] (kPre D (kT cI cJ cZ cH cR) b M 23)) (va_Qv (fun (u : (Nat → va_E) × Nat) => u.2 = 33 ∧ kF [22, 23, 24, 25, 26, 27, 28, 29, 30, 31, 32] M u.1 ∧ u.1 22 = .inr (0, [.ref (b + 23), .ref (b + 26), .ref (b + 30)]) ∧ u.1 23 = .inr (6, [.ref (b + 24), .ref (b + 25)]) ∧ u.1 24 = .inl (cI, 100, .inl (fun _ => 0)) ∧ u.1 25 = .inl (cJ, 100, .inr (.inl (fun _ => 0))) ∧ u.1 26 = .inr (5, [.ref (b + 27), .ref (b + 28), .ref (b + 29), .int (nI 0), .int (nI 0)]) ∧ u.1 27 = .inl (cI, 400, .inl (fun _ => 0)) ∧ u.1 28 = .inl (cI, 400, .inl (fun _ => 0)) ∧ u.1 29 = .inl (cI, 400, .inl (fun _ => 0)) ∧ u.1 30 = .inr (7, [.ref (b + 31), .ref (b + 32), .int (nI 0), .int (0)]) ∧ u.1 31 = .inl (cI, 40, .inl (fun _ => 0)) ∧ u.1 32 = .inl (cI, 40, .inl (fun _ => 0))) (kB D (kT cI cJ cZ cH cR) b) (kA b)) 10 1491 (kA b) := by
  refine k_metV (by decide +kernel) (Nat.le_of_ble_eq_true rfl) ?_
  intro p e s m below meth c ls Q C hw hret hnm hl
  have hl : lv_has ls 1 [(0, .ref (b + 22))] := hl
  have hFF : kF [22, 23, 24, 25, 26, 27, 28, 29, 30, 31, 32] M M := kF_rf
  refine lv_aload_n C.1 C.2.1 dX0_init_0 rfl (lv_at hl 0 rfl) ?_
  refine W.objInit C.1 C.2.1 C.2.2.2.1 (C.2.2.2.2.1 _ q_71) (C.2.2.2.2.1 _ q_10) (C.2.2.2.2.1 _ q_11) rfl (by rw [C.2.2.1]; exact hl.1) rfl dX0_init_1 (Nat.le_of_ble_eq_true rfl) (Nat.le_of_ble_eq_true rfl) ?_
  refine W.eq (g2 := F0 m 4 ls []) rfl ?_
  refine lv_aload_n C.1 C.2.1 dX0_init_4 rfl (lv_at hl 0 rfl) ?_
  refine k_new (fs := [.null, .null]) C hw (ci := 6) rfl inlX6 tyX6 tyX6_ok q_72 q_73 q_74 (by decide +kernel) (Nat.le_of_ble_eq_true rfl) (Nat.le_of_ble_eq_true rfl) dX0_init_5 (fun M_1 H hw h23 hF => ?_)
  have h22 := (hF 22 (by decide)).trans h22
  have hFF := kF_st hFF hF (by first | decide | simp)
  refine lv_dup C.1 C.2.1 dX0_init_8 rfl ?_
  refine k_cv C hw (c_X6_init_22 h23 ) kv_X0_9 rfl hl.1 ⟨Nat.le_of_ble_eq_true rfl, Nat.le_of_ble_eq_true rfl⟩ (Nat.le_of_ble_eq_true rfl) ⟨Nat.le_of_ble_eq_true rfl, Nat.le_of_ble_eq_true rfl⟩ dX0_init_9 (fun M_2 n9 H locs hp hw => ?_)
  obtain ⟨en9, hF, h23, h24, h25⟩ := hp
  have en9 : n9 = 26 := en9
  rw [en9] at hw
  have h22 := (hF 22 (by decide)).trans h22
  have hFF := kF_st hFF hF (by first | decide | simp)
  refine k_putF (tf := .object "KeyGroups$States") C hw 22 (by decide) h22 rfl inlX0 tyX0 tyX0_ok nmX0 0 (by decide) q_75 rfl hnm rfl (by decide +kernel) rfl rfl (Nat.le_of_ble_eq_true rfl) dX0_init_12 (fun M_3 H locs hw h22 hF => ?_)
  have h22 : M_3 22 = .inr (0, [.ref (b + 23), .null, .null]) := h22
  have h23 := (hF 23 (by decide)).trans h23
  have h24 := (hF 24 (by decide)).trans h24
  have h25 := (hF 25 (by decide)).trans h25
  have hFF := kF_st hFF hF (by first | decide | simp)
  refine lv_aload_n C.1 C.2.1 dX0_init_15 rfl (lv_at hl 0 rfl) ?_
  refine k_new (fs := [.null, .null, .null, .int 0, .int 0]) C hw (ci := 5) rfl inlX5 tyX5 tyX5_ok q_76 q_77 q_78 (by decide +kernel) (Nat.le_of_ble_eq_true rfl) (Nat.le_of_ble_eq_true rfl) dX0_init_16 (fun M_4 H hw h26 hF => ?_)
  have h22 := (hF 22 (by decide)).trans h22
  have h23 := (hF 23 (by decide)).trans h23
  have h24 := (hF 24 (by decide)).trans h24
  have h25 := (hF 25 (by decide)).trans h25
  have hFF := kF_st hFF hF (by first | decide | simp)
  refine lv_dup C.1 C.2.1 dX0_init_19 rfl ?_
  refine k_cv C hw (c_X5_init_22 h26 ) kv_X0_18 rfl hl.1 ⟨Nat.le_of_ble_eq_true rfl, Nat.le_of_ble_eq_true rfl⟩ (Nat.le_of_ble_eq_true rfl) ⟨Nat.le_of_ble_eq_true rfl, Nat.le_of_ble_eq_true rfl⟩ dX0_init_20 (fun M_5 n9 H locs hp hw => ?_)
  obtain ⟨en9, hF, h26, h27, h28, h29⟩ := hp
  have en9 : n9 = 30 := en9
  rw [en9] at hw
  have h22 := (hF 22 (by decide)).trans h22
  have h23 := (hF 23 (by decide)).trans h23
  have h24 := (hF 24 (by decide)).trans h24
  have h25 := (hF 25 (by decide)).trans h25
  have hFF := kF_st hFF hF (by first | decide | simp)
  refine k_putF (tf := .object "KeyGroups$Rows") C hw 22 (by decide) h22 rfl inlX0 tyX0 tyX0_ok nmX0 1 (by decide) q_79 rfl hnm rfl (by decide +kernel) rfl rfl (Nat.le_of_ble_eq_true rfl) dX0_init_23 (fun M_6 H locs hw h22 hF => ?_)
  have h22 : M_6 22 = .inr (0, [.ref (b + 23), .ref (b + 26), .null]) := h22
  have h23 := (hF 23 (by decide)).trans h23
  have h24 := (hF 24 (by decide)).trans h24
  have h25 := (hF 25 (by decide)).trans h25
  have h26 := (hF 26 (by decide)).trans h26
  have h27 := (hF 27 (by decide)).trans h27
  have h28 := (hF 28 (by decide)).trans h28
  have h29 := (hF 29 (by decide)).trans h29
  have hFF := kF_st hFF hF (by first | decide | simp)
  refine lv_aload_n C.1 C.2.1 dX0_init_26 rfl (lv_at hl 0 rfl) ?_
  refine k_new (fs := [.null, .null, .int 0, .int 0]) C hw (ci := 7) rfl inlX7 tyX7 tyX7_ok q_80 q_81 q_82 (by decide +kernel) (Nat.le_of_ble_eq_true rfl) (Nat.le_of_ble_eq_true rfl) dX0_init_27 (fun M_7 H hw h30 hF => ?_)
  have h22 := (hF 22 (by decide)).trans h22
  have h23 := (hF 23 (by decide)).trans h23
  have h24 := (hF 24 (by decide)).trans h24
  have h25 := (hF 25 (by decide)).trans h25
  have h26 := (hF 26 (by decide)).trans h26
  have h27 := (hF 27 (by decide)).trans h27
  have h28 := (hF 28 (by decide)).trans h28
  have h29 := (hF 29 (by decide)).trans h29
  have hFF := kF_st hFF hF (by first | decide | simp)
  refine lv_dup C.1 C.2.1 dX0_init_30 rfl ?_
  refine k_cv C hw (c_X7_init_22 h30 ) kv_X0_25 rfl hl.1 ⟨Nat.le_of_ble_eq_true rfl, Nat.le_of_ble_eq_true rfl⟩ (Nat.le_of_ble_eq_true rfl) ⟨Nat.le_of_ble_eq_true rfl, Nat.le_of_ble_eq_true rfl⟩ dX0_init_31 (fun M_8 n9 H locs hp hw => ?_)
  obtain ⟨en9, hF, h30, h31, h32⟩ := hp
  have en9 : n9 = 33 := en9
  rw [en9] at hw
  have h22 := (hF 22 (by decide)).trans h22
  have h23 := (hF 23 (by decide)).trans h23
  have h24 := (hF 24 (by decide)).trans h24
  have h25 := (hF 25 (by decide)).trans h25
  have h26 := (hF 26 (by decide)).trans h26
  have h27 := (hF 27 (by decide)).trans h27
  have h28 := (hF 28 (by decide)).trans h28
  have h29 := (hF 29 (by decide)).trans h29
  have hFF := kF_st hFF hF (by first | decide | simp)
  refine k_putF (tf := .object "KeyGroups$Timers") C hw 22 (by decide) h22 rfl inlX0 tyX0 tyX0_ok nmX0 2 (by decide) q_83 rfl hnm rfl (by decide +kernel) rfl rfl (Nat.le_of_ble_eq_true rfl) dX0_init_34 (fun M_9 H locs hw h22 hF => ?_)
  have h22 : M_9 22 = .inr (0, [.ref (b + 23), .ref (b + 26), .ref (b + 30)]) := h22
  have h23 := (hF 23 (by decide)).trans h23
  have h24 := (hF 24 (by decide)).trans h24
  have h25 := (hF 25 (by decide)).trans h25
  have h26 := (hF 26 (by decide)).trans h26
  have h27 := (hF 27 (by decide)).trans h27
  have h28 := (hF 28 (by decide)).trans h28
  have h29 := (hF 29 (by decide)).trans h29
  have h30 := (hF 30 (by decide)).trans h30
  have h31 := (hF 31 (by decide)).trans h31
  have h32 := (hF 32 (by decide)).trans h32
  have hFF := kF_st hFF hF (by first | decide | simp)
  exact hret _ _ (Nat.le_of_ble_eq_true rfl) (Nat.le_of_ble_eq_true rfl) hw (⟨rfl, hFF, h22, h23, h24, h25, h26, h27, h28, h29, h30, h31, h32⟩) dX0_init_37

set_option maxHeartbeats 4000000 in
set_option maxRecDepth 100000 in
theorem c_X6_init_74 {l : Launch} {D : va_G} {cI cJ cZ cH cR : ClassId} {b : Nat} {M : Nat → va_E}     (h75 : M 75 = .inr (6, [.null, .null]))  : Met l yX6_init (kw yX6_init cX6_init 1 none) ({ frames := 1, cells := 2, slots := 200, locals := 12 }) (va_Pc [.ref (b + 75)] (kPre D (kT cI cJ cZ cH cR) b M 76)) (va_Qv (fun (u : (Nat → va_E) × Nat) => u.2 = 78 ∧ kF [75, 76, 77] M u.1 ∧ u.1 75 = .inr (6, [.ref (b + 76), .ref (b + 77)]) ∧ u.1 76 = .inl (cI, 100, .inl (fun _ => 0)) ∧ u.1 77 = .inl (cJ, 100, .inr (.inl (fun _ => 0)))) (kB D (kT cI cJ cZ cH cR) b) (kA b)) 2 200 (kA b) := by
  refine k_metV (by decide +kernel) (Nat.le_of_ble_eq_true rfl) ?_
  intro p e s m below meth c ls Q C hw hret hnm hl
  have hl : lv_has ls 1 [(0, .ref (b + 75))] := hl
  have hFF : kF [75, 76, 77] M M := kF_rf
  refine lv_aload_n C.1 C.2.1 dX6_init_0 rfl (lv_at hl 0 rfl) ?_
  refine W.objInit C.1 C.2.1 C.2.2.2.1 (C.2.2.2.2.1 _ q_87) (C.2.2.2.2.1 _ q_10) (C.2.2.2.2.1 _ q_11) rfl (by rw [C.2.2.1]; exact hl.1) rfl dX6_init_1 (Nat.le_of_ble_eq_true rfl) (Nat.le_of_ble_eq_true rfl) ?_
  refine W.eq (g2 := F0 m 4 ls []) rfl ?_
  refine lv_aload_n C.1 C.2.1 dX6_init_4 rfl (lv_at hl 0 rfl) ?_
  refine lv_bipush (v := nI 100) C.1 C.2.1 dX6_init_5 (by decide) ?_
  refine k_newI C hw q_38 100 rfl (by decide) (Nat.le_of_ble_eq_true rfl) (Nat.le_of_ble_eq_true rfl) dX6_init_7 (fun M_1 H hw h76 hF => ?_)
  have h75 := (hF 75 (by decide)).trans h75
  have hFF := kF_st hFF hF (by first | decide | simp)
  refine k_putF (tf := .array .int) C hw 75 (by decide) h75 rfl inlX6 tyX6 tyX6_ok nmX6 0 (by decide) q_88 rfl hnm rfl (by decide +kernel) rfl rfl (Nat.le_of_ble_eq_true rfl) dX6_init_9 (fun M_2 H locs hw h75 hF => ?_)
  have h75 : M_2 75 = .inr (6, [.ref (b + 76), .null]) := h75
  have h76 := (hF 76 (by decide)).trans h76
  have hFF := kF_st hFF hF (by first | decide | simp)
  refine lv_aload_n C.1 C.2.1 dX6_init_12 rfl (lv_at hl 0 rfl) ?_
  refine lv_bipush (v := nI 100) C.1 C.2.1 dX6_init_13 (by decide) ?_
  refine k_newJ C hw q_89 100 rfl (by decide) (Nat.le_of_ble_eq_true rfl) (Nat.le_of_ble_eq_true rfl) dX6_init_15 (fun M_3 H hw h77 hF => ?_)
  have h75 := (hF 75 (by decide)).trans h75
  have h76 := (hF 76 (by decide)).trans h76
  have hFF := kF_st hFF hF (by first | decide | simp)
  refine k_putF (tf := .array .long) C hw 75 (by decide) h75 rfl inlX6 tyX6 tyX6_ok nmX6 1 (by decide) q_90 rfl hnm rfl (by decide +kernel) rfl rfl (Nat.le_of_ble_eq_true rfl) dX6_init_17 (fun M_4 H locs hw h75 hF => ?_)
  have h75 : M_4 75 = .inr (6, [.ref (b + 76), .ref (b + 77)]) := h75
  have h76 := (hF 76 (by decide)).trans h76
  have h77 := (hF 77 (by decide)).trans h77
  have hFF := kF_st hFF hF (by first | decide | simp)
  exact hret _ _ (Nat.le_of_ble_eq_true rfl) (Nat.le_of_ble_eq_true rfl) hw (⟨rfl, hFF, h75, h76, h77⟩) dX6_init_20

set_option maxHeartbeats 4000000 in
set_option maxRecDepth 100000 in
theorem c_X5_init_74 {l : Launch} {D : va_G} {cI cJ cZ cH cR : ClassId} {b : Nat} {M : Nat → va_E}     (h78 : M 78 = .inr (5, [.null, .null, .null, .int 0, .int 0]))  : Met l yX5_init (kw yX5_init cX5_init 1 none) ({ frames := 1, cells := 3, slots := 1200, locals := 12 }) (va_Pc [.ref (b + 78)] (kPre D (kT cI cJ cZ cH cR) b M 79)) (va_Qv (fun (u : (Nat → va_E) × Nat) => u.2 = 82 ∧ kF [78, 79, 80, 81] M u.1 ∧ u.1 78 = .inr (5, [.ref (b + 79), .ref (b + 80), .ref (b + 81), .int (nI 0), .int (nI 0)]) ∧ u.1 79 = .inl (cI, 400, .inl (fun _ => 0)) ∧ u.1 80 = .inl (cI, 400, .inl (fun _ => 0)) ∧ u.1 81 = .inl (cI, 400, .inl (fun _ => 0))) (kB D (kT cI cJ cZ cH cR) b) (kA b)) 3 1200 (kA b) := by
  refine k_metV (by decide +kernel) (Nat.le_of_ble_eq_true rfl) ?_
  intro p e s m below meth c ls Q C hw hret hnm hl
  have hl : lv_has ls 1 [(0, .ref (b + 78))] := hl
  have hFF : kF [78, 79, 80, 81] M M := kF_rf
  refine lv_aload_n C.1 C.2.1 dX5_init_0 rfl (lv_at hl 0 rfl) ?_
  refine W.objInit C.1 C.2.1 C.2.2.2.1 (C.2.2.2.2.1 _ q_94) (C.2.2.2.2.1 _ q_10) (C.2.2.2.2.1 _ q_11) rfl (by rw [C.2.2.1]; exact hl.1) rfl dX5_init_1 (Nat.le_of_ble_eq_true rfl) (Nat.le_of_ble_eq_true rfl) ?_
  refine W.eq (g2 := F0 m 4 ls []) rfl ?_
  refine lv_aload_n C.1 C.2.1 dX5_init_4 rfl (lv_at hl 0 rfl) ?_
  refine lv_sipush (v := nI 400) C.1 C.2.1 dX5_init_5 (by decide) ?_
  refine k_newI C hw q_38 400 rfl (by decide) (Nat.le_of_ble_eq_true rfl) (Nat.le_of_ble_eq_true rfl) dX5_init_8 (fun M_1 H hw h79 hF => ?_)
  have h78 := (hF 78 (by decide)).trans h78
  have hFF := kF_st hFF hF (by first | decide | simp)
  refine k_putF (tf := .array .int) C hw 78 (by decide) h78 rfl inlX5 tyX5 tyX5_ok nmX5 0 (by decide) q_95 rfl hnm rfl (by decide +kernel) rfl rfl (Nat.le_of_ble_eq_true rfl) dX5_init_10 (fun M_2 H locs hw h78 hF => ?_)
  have h78 : M_2 78 = .inr (5, [.ref (b + 79), .null, .null, .int 0, .int 0]) := h78
  have h79 := (hF 79 (by decide)).trans h79
  have hFF := kF_st hFF hF (by first | decide | simp)
  refine lv_aload_n C.1 C.2.1 dX5_init_13 rfl (lv_at hl 0 rfl) ?_
  refine lv_sipush (v := nI 400) C.1 C.2.1 dX5_init_14 (by decide) ?_
  refine k_newI C hw q_38 400 rfl (by decide) (Nat.le_of_ble_eq_true rfl) (Nat.le_of_ble_eq_true rfl) dX5_init_17 (fun M_3 H hw h80 hF => ?_)
  have h78 := (hF 78 (by decide)).trans h78
  have h79 := (hF 79 (by decide)).trans h79
  have hFF := kF_st hFF hF (by first | decide | simp)
  refine k_putF (tf := .array .int) C hw 78 (by decide) h78 rfl inlX5 tyX5 tyX5_ok nmX5 1 (by decide) q_96 rfl hnm rfl (by decide +kernel) rfl rfl (Nat.le_of_ble_eq_true rfl) dX5_init_19 (fun M_4 H locs hw h78 hF => ?_)
  have h78 : M_4 78 = .inr (5, [.ref (b + 79), .ref (b + 80), .null, .int 0, .int 0]) := h78
  have h79 := (hF 79 (by decide)).trans h79
  have h80 := (hF 80 (by decide)).trans h80
  have hFF := kF_st hFF hF (by first | decide | simp)
  refine lv_aload_n C.1 C.2.1 dX5_init_22 rfl (lv_at hl 0 rfl) ?_
  refine lv_sipush (v := nI 400) C.1 C.2.1 dX5_init_23 (by decide) ?_
  refine k_newI C hw q_38 400 rfl (by decide) (Nat.le_of_ble_eq_true rfl) (Nat.le_of_ble_eq_true rfl) dX5_init_26 (fun M_5 H hw h81 hF => ?_)
  have h78 := (hF 78 (by decide)).trans h78
  have h79 := (hF 79 (by decide)).trans h79
  have h80 := (hF 80 (by decide)).trans h80
  have hFF := kF_st hFF hF (by first | decide | simp)
  refine k_putF (tf := .array .int) C hw 78 (by decide) h78 rfl inlX5 tyX5 tyX5_ok nmX5 2 (by decide) q_97 rfl hnm rfl (by decide +kernel) rfl rfl (Nat.le_of_ble_eq_true rfl) dX5_init_28 (fun M_6 H locs hw h78 hF => ?_)
  have h78 : M_6 78 = .inr (5, [.ref (b + 79), .ref (b + 80), .ref (b + 81), .int 0, .int 0]) := h78
  have h79 := (hF 79 (by decide)).trans h79
  have h80 := (hF 80 (by decide)).trans h80
  have h81 := (hF 81 (by decide)).trans h81
  have hFF := kF_st hFF hF (by first | decide | simp)
  exact hret _ _ (Nat.le_of_ble_eq_true rfl) (Nat.le_of_ble_eq_true rfl) hw (⟨rfl, hFF, h78, h79, h80, h81⟩) dX5_init_31

set_option maxHeartbeats 4000000 in
set_option maxRecDepth 100000 in
theorem c_X7_init_74 {l : Launch} {D : va_G} {cI cJ cZ cH cR : ClassId} {b : Nat} {M : Nat → va_E}     (h82 : M 82 = .inr (7, [.null, .null, .int 0, .int 0]))  : Met l yX7_init (kw yX7_init cX7_init 1 none) ({ frames := 1, cells := 2, slots := 80, locals := 12 }) (va_Pc [.ref (b + 82)] (kPre D (kT cI cJ cZ cH cR) b M 83)) (va_Qv (fun (u : (Nat → va_E) × Nat) => u.2 = 85 ∧ kF [82, 83, 84] M u.1 ∧ u.1 82 = .inr (7, [.ref (b + 83), .ref (b + 84), .int (nI 0), .int (0)]) ∧ u.1 83 = .inl (cI, 40, .inl (fun _ => 0)) ∧ u.1 84 = .inl (cI, 40, .inl (fun _ => 0))) (kB D (kT cI cJ cZ cH cR) b) (kA b)) 2 80 (kA b) := by
  refine k_metV (by decide +kernel) (Nat.le_of_ble_eq_true rfl) ?_
  intro p e s m below meth c ls Q C hw hret hnm hl
  have hl : lv_has ls 1 [(0, .ref (b + 82))] := hl
  have hFF : kF [82, 83, 84] M M := kF_rf
  refine lv_aload_n C.1 C.2.1 dX7_init_0 rfl (lv_at hl 0 rfl) ?_
  refine W.objInit C.1 C.2.1 C.2.2.2.1 (C.2.2.2.2.1 _ q_101) (C.2.2.2.2.1 _ q_10) (C.2.2.2.2.1 _ q_11) rfl (by rw [C.2.2.1]; exact hl.1) rfl dX7_init_1 (Nat.le_of_ble_eq_true rfl) (Nat.le_of_ble_eq_true rfl) ?_
  refine W.eq (g2 := F0 m 4 ls []) rfl ?_
  refine lv_aload_n C.1 C.2.1 dX7_init_4 rfl (lv_at hl 0 rfl) ?_
  refine lv_bipush (v := nI 40) C.1 C.2.1 dX7_init_5 (by decide) ?_
  refine k_newI C hw q_38 40 rfl (by decide) (Nat.le_of_ble_eq_true rfl) (Nat.le_of_ble_eq_true rfl) dX7_init_7 (fun M_1 H hw h83 hF => ?_)
  have h82 := (hF 82 (by decide)).trans h82
  have hFF := kF_st hFF hF (by first | decide | simp)
  refine k_putF (tf := .array .int) C hw 82 (by decide) h82 rfl inlX7 tyX7 tyX7_ok nmX7 0 (by decide) q_102 rfl hnm rfl (by decide +kernel) rfl rfl (Nat.le_of_ble_eq_true rfl) dX7_init_9 (fun M_2 H locs hw h82 hF => ?_)
  have h82 : M_2 82 = .inr (7, [.ref (b + 83), .null, .int 0, .int 0]) := h82
  have h83 := (hF 83 (by decide)).trans h83
  have hFF := kF_st hFF hF (by first | decide | simp)
  refine lv_aload_n C.1 C.2.1 dX7_init_12 rfl (lv_at hl 0 rfl) ?_
  refine lv_bipush (v := nI 40) C.1 C.2.1 dX7_init_13 (by decide) ?_
  refine k_newI C hw q_38 40 rfl (by decide) (Nat.le_of_ble_eq_true rfl) (Nat.le_of_ble_eq_true rfl) dX7_init_15 (fun M_3 H hw h84 hF => ?_)
  have h82 := (hF 82 (by decide)).trans h82
  have h83 := (hF 83 (by decide)).trans h83
  have hFF := kF_st hFF hF (by first | decide | simp)
  refine k_putF (tf := .array .int) C hw 82 (by decide) h82 rfl inlX7 tyX7 tyX7_ok nmX7 1 (by decide) q_103 rfl hnm rfl (by decide +kernel) rfl rfl (Nat.le_of_ble_eq_true rfl) dX7_init_17 (fun M_4 H locs hw h82 hF => ?_)
  have h82 : M_4 82 = .inr (7, [.ref (b + 83), .ref (b + 84), .int 0, .int 0]) := h82
  have h83 := (hF 83 (by decide)).trans h83
  have h84 := (hF 84 (by decide)).trans h84
  have hFF := kF_st hFF hF (by first | decide | simp)
  exact hret _ _ (Nat.le_of_ble_eq_true rfl) (Nat.le_of_ble_eq_true rfl) hw (⟨rfl, hFF, h82, h83, h84⟩) dX7_init_20

set_option maxHeartbeats 4000000 in
set_option maxRecDepth 100000 in
theorem c_X0_init_74 {l : Launch} {D : va_G} {cI cJ cZ cH cR : ClassId} {b : Nat} {M : Nat → va_E}     (h74 : M 74 = .inr (0, [.null, .null, .null]))  : Met l yX0_init (kw yX0_init cX0_init 1 none) ({ frames := 2, cells := 10, slots := 1491, locals := 32 }) (va_Pc [.ref (b + 74)] (kPre D (kT cI cJ cZ cH cR) b M 75)) (va_Qv (fun (u : (Nat → va_E) × Nat) => u.2 = 85 ∧ kF [74, 75, 76, 77, 78, 79, 80, 81, 82, 83, 84] M u.1 ∧ u.1 74 = .inr (0, [.ref (b + 75), .ref (b + 78), .ref (b + 82)]) ∧ u.1 75 = .inr (6, [.ref (b + 76), .ref (b + 77)]) ∧ u.1 76 = .inl (cI, 100, .inl (fun _ => 0)) ∧ u.1 77 = .inl (cJ, 100, .inr (.inl (fun _ => 0))) ∧ u.1 78 = .inr (5, [.ref (b + 79), .ref (b + 80), .ref (b + 81), .int (nI 0), .int (nI 0)]) ∧ u.1 79 = .inl (cI, 400, .inl (fun _ => 0)) ∧ u.1 80 = .inl (cI, 400, .inl (fun _ => 0)) ∧ u.1 81 = .inl (cI, 400, .inl (fun _ => 0)) ∧ u.1 82 = .inr (7, [.ref (b + 83), .ref (b + 84), .int (nI 0), .int (0)]) ∧ u.1 83 = .inl (cI, 40, .inl (fun _ => 0)) ∧ u.1 84 = .inl (cI, 40, .inl (fun _ => 0))) (kB D (kT cI cJ cZ cH cR) b) (kA b)) 10 1491 (kA b) := by
  refine k_metV (by decide +kernel) (Nat.le_of_ble_eq_true rfl) ?_
  intro p e s m below meth c ls Q C hw hret hnm hl
  have hl : lv_has ls 1 [(0, .ref (b + 74))] := hl
  have hFF : kF [74, 75, 76, 77, 78, 79, 80, 81, 82, 83, 84] M M := kF_rf
  refine lv_aload_n C.1 C.2.1 dX0_init_0 rfl (lv_at hl 0 rfl) ?_
  refine W.objInit C.1 C.2.1 C.2.2.2.1 (C.2.2.2.2.1 _ q_71) (C.2.2.2.2.1 _ q_10) (C.2.2.2.2.1 _ q_11) rfl (by rw [C.2.2.1]; exact hl.1) rfl dX0_init_1 (Nat.le_of_ble_eq_true rfl) (Nat.le_of_ble_eq_true rfl) ?_
  refine W.eq (g2 := F0 m 4 ls []) rfl ?_
  refine lv_aload_n C.1 C.2.1 dX0_init_4 rfl (lv_at hl 0 rfl) ?_
  refine k_new (fs := [.null, .null]) C hw (ci := 6) rfl inlX6 tyX6 tyX6_ok q_72 q_73 q_74 (by decide +kernel) (Nat.le_of_ble_eq_true rfl) (Nat.le_of_ble_eq_true rfl) dX0_init_5 (fun M_1 H hw h75 hF => ?_)
  have h74 := (hF 74 (by decide)).trans h74
  have hFF := kF_st hFF hF (by first | decide | simp)
  refine lv_dup C.1 C.2.1 dX0_init_8 rfl ?_
  refine k_cv C hw (c_X6_init_74 h75 ) kv_X0_9 rfl hl.1 ⟨Nat.le_of_ble_eq_true rfl, Nat.le_of_ble_eq_true rfl⟩ (Nat.le_of_ble_eq_true rfl) ⟨Nat.le_of_ble_eq_true rfl, Nat.le_of_ble_eq_true rfl⟩ dX0_init_9 (fun M_2 n9 H locs hp hw => ?_)
  obtain ⟨en9, hF, h75, h76, h77⟩ := hp
  have en9 : n9 = 78 := en9
  rw [en9] at hw
  have h74 := (hF 74 (by decide)).trans h74
  have hFF := kF_st hFF hF (by first | decide | simp)
  refine k_putF (tf := .object "KeyGroups$States") C hw 74 (by decide) h74 rfl inlX0 tyX0 tyX0_ok nmX0 0 (by decide) q_75 rfl hnm rfl (by decide +kernel) rfl rfl (Nat.le_of_ble_eq_true rfl) dX0_init_12 (fun M_3 H locs hw h74 hF => ?_)
  have h74 : M_3 74 = .inr (0, [.ref (b + 75), .null, .null]) := h74
  have h75 := (hF 75 (by decide)).trans h75
  have h76 := (hF 76 (by decide)).trans h76
  have h77 := (hF 77 (by decide)).trans h77
  have hFF := kF_st hFF hF (by first | decide | simp)
  refine lv_aload_n C.1 C.2.1 dX0_init_15 rfl (lv_at hl 0 rfl) ?_
  refine k_new (fs := [.null, .null, .null, .int 0, .int 0]) C hw (ci := 5) rfl inlX5 tyX5 tyX5_ok q_76 q_77 q_78 (by decide +kernel) (Nat.le_of_ble_eq_true rfl) (Nat.le_of_ble_eq_true rfl) dX0_init_16 (fun M_4 H hw h78 hF => ?_)
  have h74 := (hF 74 (by decide)).trans h74
  have h75 := (hF 75 (by decide)).trans h75
  have h76 := (hF 76 (by decide)).trans h76
  have h77 := (hF 77 (by decide)).trans h77
  have hFF := kF_st hFF hF (by first | decide | simp)
  refine lv_dup C.1 C.2.1 dX0_init_19 rfl ?_
  refine k_cv C hw (c_X5_init_74 h78 ) kv_X0_18 rfl hl.1 ⟨Nat.le_of_ble_eq_true rfl, Nat.le_of_ble_eq_true rfl⟩ (Nat.le_of_ble_eq_true rfl) ⟨Nat.le_of_ble_eq_true rfl, Nat.le_of_ble_eq_true rfl⟩ dX0_init_20 (fun M_5 n9 H locs hp hw => ?_)
  obtain ⟨en9, hF, h78, h79, h80, h81⟩ := hp
  have en9 : n9 = 82 := en9
  rw [en9] at hw
  have h74 := (hF 74 (by decide)).trans h74
  have h75 := (hF 75 (by decide)).trans h75
  have h76 := (hF 76 (by decide)).trans h76
  have h77 := (hF 77 (by decide)).trans h77
  have hFF := kF_st hFF hF (by first | decide | simp)
  refine k_putF (tf := .object "KeyGroups$Rows") C hw 74 (by decide) h74 rfl inlX0 tyX0 tyX0_ok nmX0 1 (by decide) q_79 rfl hnm rfl (by decide +kernel) rfl rfl (Nat.le_of_ble_eq_true rfl) dX0_init_23 (fun M_6 H locs hw h74 hF => ?_)
  have h74 : M_6 74 = .inr (0, [.ref (b + 75), .ref (b + 78), .null]) := h74
  have h75 := (hF 75 (by decide)).trans h75
  have h76 := (hF 76 (by decide)).trans h76
  have h77 := (hF 77 (by decide)).trans h77
  have h78 := (hF 78 (by decide)).trans h78
  have h79 := (hF 79 (by decide)).trans h79
  have h80 := (hF 80 (by decide)).trans h80
  have h81 := (hF 81 (by decide)).trans h81
  have hFF := kF_st hFF hF (by first | decide | simp)
  refine lv_aload_n C.1 C.2.1 dX0_init_26 rfl (lv_at hl 0 rfl) ?_
  refine k_new (fs := [.null, .null, .int 0, .int 0]) C hw (ci := 7) rfl inlX7 tyX7 tyX7_ok q_80 q_81 q_82 (by decide +kernel) (Nat.le_of_ble_eq_true rfl) (Nat.le_of_ble_eq_true rfl) dX0_init_27 (fun M_7 H hw h82 hF => ?_)
  have h74 := (hF 74 (by decide)).trans h74
  have h75 := (hF 75 (by decide)).trans h75
  have h76 := (hF 76 (by decide)).trans h76
  have h77 := (hF 77 (by decide)).trans h77
  have h78 := (hF 78 (by decide)).trans h78
  have h79 := (hF 79 (by decide)).trans h79
  have h80 := (hF 80 (by decide)).trans h80
  have h81 := (hF 81 (by decide)).trans h81
  have hFF := kF_st hFF hF (by first | decide | simp)
  refine lv_dup C.1 C.2.1 dX0_init_30 rfl ?_
  refine k_cv C hw (c_X7_init_74 h82 ) kv_X0_25 rfl hl.1 ⟨Nat.le_of_ble_eq_true rfl, Nat.le_of_ble_eq_true rfl⟩ (Nat.le_of_ble_eq_true rfl) ⟨Nat.le_of_ble_eq_true rfl, Nat.le_of_ble_eq_true rfl⟩ dX0_init_31 (fun M_8 n9 H locs hp hw => ?_)
  obtain ⟨en9, hF, h82, h83, h84⟩ := hp
  have en9 : n9 = 85 := en9
  rw [en9] at hw
  have h74 := (hF 74 (by decide)).trans h74
  have h75 := (hF 75 (by decide)).trans h75
  have h76 := (hF 76 (by decide)).trans h76
  have h77 := (hF 77 (by decide)).trans h77
  have h78 := (hF 78 (by decide)).trans h78
  have h79 := (hF 79 (by decide)).trans h79
  have h80 := (hF 80 (by decide)).trans h80
  have h81 := (hF 81 (by decide)).trans h81
  have hFF := kF_st hFF hF (by first | decide | simp)
  refine k_putF (tf := .object "KeyGroups$Timers") C hw 74 (by decide) h74 rfl inlX0 tyX0 tyX0_ok nmX0 2 (by decide) q_83 rfl hnm rfl (by decide +kernel) rfl rfl (Nat.le_of_ble_eq_true rfl) dX0_init_34 (fun M_9 H locs hw h74 hF => ?_)
  have h74 : M_9 74 = .inr (0, [.ref (b + 75), .ref (b + 78), .ref (b + 82)]) := h74
  have h75 := (hF 75 (by decide)).trans h75
  have h76 := (hF 76 (by decide)).trans h76
  have h77 := (hF 77 (by decide)).trans h77
  have h78 := (hF 78 (by decide)).trans h78
  have h79 := (hF 79 (by decide)).trans h79
  have h80 := (hF 80 (by decide)).trans h80
  have h81 := (hF 81 (by decide)).trans h81
  have h82 := (hF 82 (by decide)).trans h82
  have h83 := (hF 83 (by decide)).trans h83
  have h84 := (hF 84 (by decide)).trans h84
  have hFF := kF_st hFF hF (by first | decide | simp)
  exact hret _ _ (Nat.le_of_ble_eq_true rfl) (Nat.le_of_ble_eq_true rfl) hw (⟨rfl, hFF, h74, h75, h76, h77, h78, h79, h80, h81, h82, h83, h84⟩) dX0_init_37

set_option maxHeartbeats 4000000 in
set_option maxRecDepth 100000 in
theorem c_X6_init_85 {l : Launch} {D : va_G} {cI cJ cZ cH cR : ClassId} {b : Nat} {M : Nat → va_E}     (h86 : M 86 = .inr (6, [.null, .null]))  : Met l yX6_init (kw yX6_init cX6_init 1 none) ({ frames := 1, cells := 2, slots := 200, locals := 12 }) (va_Pc [.ref (b + 86)] (kPre D (kT cI cJ cZ cH cR) b M 87)) (va_Qv (fun (u : (Nat → va_E) × Nat) => u.2 = 89 ∧ kF [86, 87, 88] M u.1 ∧ u.1 86 = .inr (6, [.ref (b + 87), .ref (b + 88)]) ∧ u.1 87 = .inl (cI, 100, .inl (fun _ => 0)) ∧ u.1 88 = .inl (cJ, 100, .inr (.inl (fun _ => 0)))) (kB D (kT cI cJ cZ cH cR) b) (kA b)) 2 200 (kA b) := by
  refine k_metV (by decide +kernel) (Nat.le_of_ble_eq_true rfl) ?_
  intro p e s m below meth c ls Q C hw hret hnm hl
  have hl : lv_has ls 1 [(0, .ref (b + 86))] := hl
  have hFF : kF [86, 87, 88] M M := kF_rf
  refine lv_aload_n C.1 C.2.1 dX6_init_0 rfl (lv_at hl 0 rfl) ?_
  refine W.objInit C.1 C.2.1 C.2.2.2.1 (C.2.2.2.2.1 _ q_87) (C.2.2.2.2.1 _ q_10) (C.2.2.2.2.1 _ q_11) rfl (by rw [C.2.2.1]; exact hl.1) rfl dX6_init_1 (Nat.le_of_ble_eq_true rfl) (Nat.le_of_ble_eq_true rfl) ?_
  refine W.eq (g2 := F0 m 4 ls []) rfl ?_
  refine lv_aload_n C.1 C.2.1 dX6_init_4 rfl (lv_at hl 0 rfl) ?_
  refine lv_bipush (v := nI 100) C.1 C.2.1 dX6_init_5 (by decide) ?_
  refine k_newI C hw q_38 100 rfl (by decide) (Nat.le_of_ble_eq_true rfl) (Nat.le_of_ble_eq_true rfl) dX6_init_7 (fun M_1 H hw h87 hF => ?_)
  have h86 := (hF 86 (by decide)).trans h86
  have hFF := kF_st hFF hF (by first | decide | simp)
  refine k_putF (tf := .array .int) C hw 86 (by decide) h86 rfl inlX6 tyX6 tyX6_ok nmX6 0 (by decide) q_88 rfl hnm rfl (by decide +kernel) rfl rfl (Nat.le_of_ble_eq_true rfl) dX6_init_9 (fun M_2 H locs hw h86 hF => ?_)
  have h86 : M_2 86 = .inr (6, [.ref (b + 87), .null]) := h86
  have h87 := (hF 87 (by decide)).trans h87
  have hFF := kF_st hFF hF (by first | decide | simp)
  refine lv_aload_n C.1 C.2.1 dX6_init_12 rfl (lv_at hl 0 rfl) ?_
  refine lv_bipush (v := nI 100) C.1 C.2.1 dX6_init_13 (by decide) ?_
  refine k_newJ C hw q_89 100 rfl (by decide) (Nat.le_of_ble_eq_true rfl) (Nat.le_of_ble_eq_true rfl) dX6_init_15 (fun M_3 H hw h88 hF => ?_)
  have h86 := (hF 86 (by decide)).trans h86
  have h87 := (hF 87 (by decide)).trans h87
  have hFF := kF_st hFF hF (by first | decide | simp)
  refine k_putF (tf := .array .long) C hw 86 (by decide) h86 rfl inlX6 tyX6 tyX6_ok nmX6 1 (by decide) q_90 rfl hnm rfl (by decide +kernel) rfl rfl (Nat.le_of_ble_eq_true rfl) dX6_init_17 (fun M_4 H locs hw h86 hF => ?_)
  have h86 : M_4 86 = .inr (6, [.ref (b + 87), .ref (b + 88)]) := h86
  have h87 := (hF 87 (by decide)).trans h87
  have h88 := (hF 88 (by decide)).trans h88
  have hFF := kF_st hFF hF (by first | decide | simp)
  exact hret _ _ (Nat.le_of_ble_eq_true rfl) (Nat.le_of_ble_eq_true rfl) hw (⟨rfl, hFF, h86, h87, h88⟩) dX6_init_20

set_option maxHeartbeats 4000000 in
set_option maxRecDepth 100000 in
theorem c_X5_init_85 {l : Launch} {D : va_G} {cI cJ cZ cH cR : ClassId} {b : Nat} {M : Nat → va_E}     (h89 : M 89 = .inr (5, [.null, .null, .null, .int 0, .int 0]))  : Met l yX5_init (kw yX5_init cX5_init 1 none) ({ frames := 1, cells := 3, slots := 1200, locals := 12 }) (va_Pc [.ref (b + 89)] (kPre D (kT cI cJ cZ cH cR) b M 90)) (va_Qv (fun (u : (Nat → va_E) × Nat) => u.2 = 93 ∧ kF [89, 90, 91, 92] M u.1 ∧ u.1 89 = .inr (5, [.ref (b + 90), .ref (b + 91), .ref (b + 92), .int (nI 0), .int (nI 0)]) ∧ u.1 90 = .inl (cI, 400, .inl (fun _ => 0)) ∧ u.1 91 = .inl (cI, 400, .inl (fun _ => 0)) ∧ u.1 92 = .inl (cI, 400, .inl (fun _ => 0))) (kB D (kT cI cJ cZ cH cR) b) (kA b)) 3 1200 (kA b) := by
  refine k_metV (by decide +kernel) (Nat.le_of_ble_eq_true rfl) ?_
  intro p e s m below meth c ls Q C hw hret hnm hl
  have hl : lv_has ls 1 [(0, .ref (b + 89))] := hl
  have hFF : kF [89, 90, 91, 92] M M := kF_rf
  refine lv_aload_n C.1 C.2.1 dX5_init_0 rfl (lv_at hl 0 rfl) ?_
  refine W.objInit C.1 C.2.1 C.2.2.2.1 (C.2.2.2.2.1 _ q_94) (C.2.2.2.2.1 _ q_10) (C.2.2.2.2.1 _ q_11) rfl (by rw [C.2.2.1]; exact hl.1) rfl dX5_init_1 (Nat.le_of_ble_eq_true rfl) (Nat.le_of_ble_eq_true rfl) ?_
  refine W.eq (g2 := F0 m 4 ls []) rfl ?_
  refine lv_aload_n C.1 C.2.1 dX5_init_4 rfl (lv_at hl 0 rfl) ?_
  refine lv_sipush (v := nI 400) C.1 C.2.1 dX5_init_5 (by decide) ?_
  refine k_newI C hw q_38 400 rfl (by decide) (Nat.le_of_ble_eq_true rfl) (Nat.le_of_ble_eq_true rfl) dX5_init_8 (fun M_1 H hw h90 hF => ?_)
  have h89 := (hF 89 (by decide)).trans h89
  have hFF := kF_st hFF hF (by first | decide | simp)
  refine k_putF (tf := .array .int) C hw 89 (by decide) h89 rfl inlX5 tyX5 tyX5_ok nmX5 0 (by decide) q_95 rfl hnm rfl (by decide +kernel) rfl rfl (Nat.le_of_ble_eq_true rfl) dX5_init_10 (fun M_2 H locs hw h89 hF => ?_)
  have h89 : M_2 89 = .inr (5, [.ref (b + 90), .null, .null, .int 0, .int 0]) := h89
  have h90 := (hF 90 (by decide)).trans h90
  have hFF := kF_st hFF hF (by first | decide | simp)
  refine lv_aload_n C.1 C.2.1 dX5_init_13 rfl (lv_at hl 0 rfl) ?_
  refine lv_sipush (v := nI 400) C.1 C.2.1 dX5_init_14 (by decide) ?_
  refine k_newI C hw q_38 400 rfl (by decide) (Nat.le_of_ble_eq_true rfl) (Nat.le_of_ble_eq_true rfl) dX5_init_17 (fun M_3 H hw h91 hF => ?_)
  have h89 := (hF 89 (by decide)).trans h89
  have h90 := (hF 90 (by decide)).trans h90
  have hFF := kF_st hFF hF (by first | decide | simp)
  refine k_putF (tf := .array .int) C hw 89 (by decide) h89 rfl inlX5 tyX5 tyX5_ok nmX5 1 (by decide) q_96 rfl hnm rfl (by decide +kernel) rfl rfl (Nat.le_of_ble_eq_true rfl) dX5_init_19 (fun M_4 H locs hw h89 hF => ?_)
  have h89 : M_4 89 = .inr (5, [.ref (b + 90), .ref (b + 91), .null, .int 0, .int 0]) := h89
  have h90 := (hF 90 (by decide)).trans h90
  have h91 := (hF 91 (by decide)).trans h91
  have hFF := kF_st hFF hF (by first | decide | simp)
  refine lv_aload_n C.1 C.2.1 dX5_init_22 rfl (lv_at hl 0 rfl) ?_
  refine lv_sipush (v := nI 400) C.1 C.2.1 dX5_init_23 (by decide) ?_
  refine k_newI C hw q_38 400 rfl (by decide) (Nat.le_of_ble_eq_true rfl) (Nat.le_of_ble_eq_true rfl) dX5_init_26 (fun M_5 H hw h92 hF => ?_)
  have h89 := (hF 89 (by decide)).trans h89
  have h90 := (hF 90 (by decide)).trans h90
  have h91 := (hF 91 (by decide)).trans h91
  have hFF := kF_st hFF hF (by first | decide | simp)
  refine k_putF (tf := .array .int) C hw 89 (by decide) h89 rfl inlX5 tyX5 tyX5_ok nmX5 2 (by decide) q_97 rfl hnm rfl (by decide +kernel) rfl rfl (Nat.le_of_ble_eq_true rfl) dX5_init_28 (fun M_6 H locs hw h89 hF => ?_)
  have h89 : M_6 89 = .inr (5, [.ref (b + 90), .ref (b + 91), .ref (b + 92), .int 0, .int 0]) := h89
  have h90 := (hF 90 (by decide)).trans h90
  have h91 := (hF 91 (by decide)).trans h91
  have h92 := (hF 92 (by decide)).trans h92
  have hFF := kF_st hFF hF (by first | decide | simp)
  exact hret _ _ (Nat.le_of_ble_eq_true rfl) (Nat.le_of_ble_eq_true rfl) hw (⟨rfl, hFF, h89, h90, h91, h92⟩) dX5_init_31

set_option maxHeartbeats 4000000 in
set_option maxRecDepth 100000 in
theorem c_X7_init_85 {l : Launch} {D : va_G} {cI cJ cZ cH cR : ClassId} {b : Nat} {M : Nat → va_E}     (h93 : M 93 = .inr (7, [.null, .null, .int 0, .int 0]))  : Met l yX7_init (kw yX7_init cX7_init 1 none) ({ frames := 1, cells := 2, slots := 80, locals := 12 }) (va_Pc [.ref (b + 93)] (kPre D (kT cI cJ cZ cH cR) b M 94)) (va_Qv (fun (u : (Nat → va_E) × Nat) => u.2 = 96 ∧ kF [93, 94, 95] M u.1 ∧ u.1 93 = .inr (7, [.ref (b + 94), .ref (b + 95), .int (nI 0), .int (0)]) ∧ u.1 94 = .inl (cI, 40, .inl (fun _ => 0)) ∧ u.1 95 = .inl (cI, 40, .inl (fun _ => 0))) (kB D (kT cI cJ cZ cH cR) b) (kA b)) 2 80 (kA b) := by
  refine k_metV (by decide +kernel) (Nat.le_of_ble_eq_true rfl) ?_
  intro p e s m below meth c ls Q C hw hret hnm hl
  have hl : lv_has ls 1 [(0, .ref (b + 93))] := hl
  have hFF : kF [93, 94, 95] M M := kF_rf
  refine lv_aload_n C.1 C.2.1 dX7_init_0 rfl (lv_at hl 0 rfl) ?_
  refine W.objInit C.1 C.2.1 C.2.2.2.1 (C.2.2.2.2.1 _ q_101) (C.2.2.2.2.1 _ q_10) (C.2.2.2.2.1 _ q_11) rfl (by rw [C.2.2.1]; exact hl.1) rfl dX7_init_1 (Nat.le_of_ble_eq_true rfl) (Nat.le_of_ble_eq_true rfl) ?_
  refine W.eq (g2 := F0 m 4 ls []) rfl ?_
  refine lv_aload_n C.1 C.2.1 dX7_init_4 rfl (lv_at hl 0 rfl) ?_
  refine lv_bipush (v := nI 40) C.1 C.2.1 dX7_init_5 (by decide) ?_
  refine k_newI C hw q_38 40 rfl (by decide) (Nat.le_of_ble_eq_true rfl) (Nat.le_of_ble_eq_true rfl) dX7_init_7 (fun M_1 H hw h94 hF => ?_)
  have h93 := (hF 93 (by decide)).trans h93
  have hFF := kF_st hFF hF (by first | decide | simp)
  refine k_putF (tf := .array .int) C hw 93 (by decide) h93 rfl inlX7 tyX7 tyX7_ok nmX7 0 (by decide) q_102 rfl hnm rfl (by decide +kernel) rfl rfl (Nat.le_of_ble_eq_true rfl) dX7_init_9 (fun M_2 H locs hw h93 hF => ?_)
  have h93 : M_2 93 = .inr (7, [.ref (b + 94), .null, .int 0, .int 0]) := h93
  have h94 := (hF 94 (by decide)).trans h94
  have hFF := kF_st hFF hF (by first | decide | simp)
  refine lv_aload_n C.1 C.2.1 dX7_init_12 rfl (lv_at hl 0 rfl) ?_
  refine lv_bipush (v := nI 40) C.1 C.2.1 dX7_init_13 (by decide) ?_
  refine k_newI C hw q_38 40 rfl (by decide) (Nat.le_of_ble_eq_true rfl) (Nat.le_of_ble_eq_true rfl) dX7_init_15 (fun M_3 H hw h95 hF => ?_)
  have h93 := (hF 93 (by decide)).trans h93
  have h94 := (hF 94 (by decide)).trans h94
  have hFF := kF_st hFF hF (by first | decide | simp)
  refine k_putF (tf := .array .int) C hw 93 (by decide) h93 rfl inlX7 tyX7 tyX7_ok nmX7 1 (by decide) q_103 rfl hnm rfl (by decide +kernel) rfl rfl (Nat.le_of_ble_eq_true rfl) dX7_init_17 (fun M_4 H locs hw h93 hF => ?_)
  have h93 : M_4 93 = .inr (7, [.ref (b + 94), .ref (b + 95), .int 0, .int 0]) := h93
  have h94 := (hF 94 (by decide)).trans h94
  have h95 := (hF 95 (by decide)).trans h95
  have hFF := kF_st hFF hF (by first | decide | simp)
  exact hret _ _ (Nat.le_of_ble_eq_true rfl) (Nat.le_of_ble_eq_true rfl) hw (⟨rfl, hFF, h93, h94, h95⟩) dX7_init_20

set_option maxHeartbeats 4000000 in
set_option maxRecDepth 100000 in
theorem c_X0_init_85 {l : Launch} {D : va_G} {cI cJ cZ cH cR : ClassId} {b : Nat} {M : Nat → va_E}     (h85 : M 85 = .inr (0, [.null, .null, .null]))  : Met l yX0_init (kw yX0_init cX0_init 1 none) ({ frames := 2, cells := 10, slots := 1491, locals := 32 }) (va_Pc [.ref (b + 85)] (kPre D (kT cI cJ cZ cH cR) b M 86)) (va_Qv (fun (u : (Nat → va_E) × Nat) => u.2 = 96 ∧ kF [85, 86, 87, 88, 89, 90, 91, 92, 93, 94, 95] M u.1 ∧ u.1 85 = .inr (0, [.ref (b + 86), .ref (b + 89), .ref (b + 93)]) ∧ u.1 86 = .inr (6, [.ref (b + 87), .ref (b + 88)]) ∧ u.1 87 = .inl (cI, 100, .inl (fun _ => 0)) ∧ u.1 88 = .inl (cJ, 100, .inr (.inl (fun _ => 0))) ∧ u.1 89 = .inr (5, [.ref (b + 90), .ref (b + 91), .ref (b + 92), .int (nI 0), .int (nI 0)]) ∧ u.1 90 = .inl (cI, 400, .inl (fun _ => 0)) ∧ u.1 91 = .inl (cI, 400, .inl (fun _ => 0)) ∧ u.1 92 = .inl (cI, 400, .inl (fun _ => 0)) ∧ u.1 93 = .inr (7, [.ref (b + 94), .ref (b + 95), .int (nI 0), .int (0)]) ∧ u.1 94 = .inl (cI, 40, .inl (fun _ => 0)) ∧ u.1 95 = .inl (cI, 40, .inl (fun _ => 0))) (kB D (kT cI cJ cZ cH cR) b) (kA b)) 10 1491 (kA b) := by
  refine k_metV (by decide +kernel) (Nat.le_of_ble_eq_true rfl) ?_
  intro p e s m below meth c ls Q C hw hret hnm hl
  have hl : lv_has ls 1 [(0, .ref (b + 85))] := hl
  have hFF : kF [85, 86, 87, 88, 89, 90, 91, 92, 93, 94, 95] M M := kF_rf
  refine lv_aload_n C.1 C.2.1 dX0_init_0 rfl (lv_at hl 0 rfl) ?_
  refine W.objInit C.1 C.2.1 C.2.2.2.1 (C.2.2.2.2.1 _ q_71) (C.2.2.2.2.1 _ q_10) (C.2.2.2.2.1 _ q_11) rfl (by rw [C.2.2.1]; exact hl.1) rfl dX0_init_1 (Nat.le_of_ble_eq_true rfl) (Nat.le_of_ble_eq_true rfl) ?_
  refine W.eq (g2 := F0 m 4 ls []) rfl ?_
  refine lv_aload_n C.1 C.2.1 dX0_init_4 rfl (lv_at hl 0 rfl) ?_
  refine k_new (fs := [.null, .null]) C hw (ci := 6) rfl inlX6 tyX6 tyX6_ok q_72 q_73 q_74 (by decide +kernel) (Nat.le_of_ble_eq_true rfl) (Nat.le_of_ble_eq_true rfl) dX0_init_5 (fun M_1 H hw h86 hF => ?_)
  have h85 := (hF 85 (by decide)).trans h85
  have hFF := kF_st hFF hF (by first | decide | simp)
  refine lv_dup C.1 C.2.1 dX0_init_8 rfl ?_
  refine k_cv C hw (c_X6_init_85 h86 ) kv_X0_9 rfl hl.1 ⟨Nat.le_of_ble_eq_true rfl, Nat.le_of_ble_eq_true rfl⟩ (Nat.le_of_ble_eq_true rfl) ⟨Nat.le_of_ble_eq_true rfl, Nat.le_of_ble_eq_true rfl⟩ dX0_init_9 (fun M_2 n9 H locs hp hw => ?_)
  obtain ⟨en9, hF, h86, h87, h88⟩ := hp
  have en9 : n9 = 89 := en9
  rw [en9] at hw
  have h85 := (hF 85 (by decide)).trans h85
  have hFF := kF_st hFF hF (by first | decide | simp)
  refine k_putF (tf := .object "KeyGroups$States") C hw 85 (by decide) h85 rfl inlX0 tyX0 tyX0_ok nmX0 0 (by decide) q_75 rfl hnm rfl (by decide +kernel) rfl rfl (Nat.le_of_ble_eq_true rfl) dX0_init_12 (fun M_3 H locs hw h85 hF => ?_)
  have h85 : M_3 85 = .inr (0, [.ref (b + 86), .null, .null]) := h85
  have h86 := (hF 86 (by decide)).trans h86
  have h87 := (hF 87 (by decide)).trans h87
  have h88 := (hF 88 (by decide)).trans h88
  have hFF := kF_st hFF hF (by first | decide | simp)
  refine lv_aload_n C.1 C.2.1 dX0_init_15 rfl (lv_at hl 0 rfl) ?_
  refine k_new (fs := [.null, .null, .null, .int 0, .int 0]) C hw (ci := 5) rfl inlX5 tyX5 tyX5_ok q_76 q_77 q_78 (by decide +kernel) (Nat.le_of_ble_eq_true rfl) (Nat.le_of_ble_eq_true rfl) dX0_init_16 (fun M_4 H hw h89 hF => ?_)
  have h85 := (hF 85 (by decide)).trans h85
  have h86 := (hF 86 (by decide)).trans h86
  have h87 := (hF 87 (by decide)).trans h87
  have h88 := (hF 88 (by decide)).trans h88
  have hFF := kF_st hFF hF (by first | decide | simp)
  refine lv_dup C.1 C.2.1 dX0_init_19 rfl ?_
  refine k_cv C hw (c_X5_init_85 h89 ) kv_X0_18 rfl hl.1 ⟨Nat.le_of_ble_eq_true rfl, Nat.le_of_ble_eq_true rfl⟩ (Nat.le_of_ble_eq_true rfl) ⟨Nat.le_of_ble_eq_true rfl, Nat.le_of_ble_eq_true rfl⟩ dX0_init_20 (fun M_5 n9 H locs hp hw => ?_)
  obtain ⟨en9, hF, h89, h90, h91, h92⟩ := hp
  have en9 : n9 = 93 := en9
  rw [en9] at hw
  have h85 := (hF 85 (by decide)).trans h85
  have h86 := (hF 86 (by decide)).trans h86
  have h87 := (hF 87 (by decide)).trans h87
  have h88 := (hF 88 (by decide)).trans h88
  have hFF := kF_st hFF hF (by first | decide | simp)
  refine k_putF (tf := .object "KeyGroups$Rows") C hw 85 (by decide) h85 rfl inlX0 tyX0 tyX0_ok nmX0 1 (by decide) q_79 rfl hnm rfl (by decide +kernel) rfl rfl (Nat.le_of_ble_eq_true rfl) dX0_init_23 (fun M_6 H locs hw h85 hF => ?_)
  have h85 : M_6 85 = .inr (0, [.ref (b + 86), .ref (b + 89), .null]) := h85
  have h86 := (hF 86 (by decide)).trans h86
  have h87 := (hF 87 (by decide)).trans h87
  have h88 := (hF 88 (by decide)).trans h88
  have h89 := (hF 89 (by decide)).trans h89
  have h90 := (hF 90 (by decide)).trans h90
  have h91 := (hF 91 (by decide)).trans h91
  have h92 := (hF 92 (by decide)).trans h92
  have hFF := kF_st hFF hF (by first | decide | simp)
  refine lv_aload_n C.1 C.2.1 dX0_init_26 rfl (lv_at hl 0 rfl) ?_
  refine k_new (fs := [.null, .null, .int 0, .int 0]) C hw (ci := 7) rfl inlX7 tyX7 tyX7_ok q_80 q_81 q_82 (by decide +kernel) (Nat.le_of_ble_eq_true rfl) (Nat.le_of_ble_eq_true rfl) dX0_init_27 (fun M_7 H hw h93 hF => ?_)
  have h85 := (hF 85 (by decide)).trans h85
  have h86 := (hF 86 (by decide)).trans h86
  have h87 := (hF 87 (by decide)).trans h87
  have h88 := (hF 88 (by decide)).trans h88
  have h89 := (hF 89 (by decide)).trans h89
  have h90 := (hF 90 (by decide)).trans h90
  have h91 := (hF 91 (by decide)).trans h91
  have h92 := (hF 92 (by decide)).trans h92
  have hFF := kF_st hFF hF (by first | decide | simp)
  refine lv_dup C.1 C.2.1 dX0_init_30 rfl ?_
  refine k_cv C hw (c_X7_init_85 h93 ) kv_X0_25 rfl hl.1 ⟨Nat.le_of_ble_eq_true rfl, Nat.le_of_ble_eq_true rfl⟩ (Nat.le_of_ble_eq_true rfl) ⟨Nat.le_of_ble_eq_true rfl, Nat.le_of_ble_eq_true rfl⟩ dX0_init_31 (fun M_8 n9 H locs hp hw => ?_)
  obtain ⟨en9, hF, h93, h94, h95⟩ := hp
  have en9 : n9 = 96 := en9
  rw [en9] at hw
  have h85 := (hF 85 (by decide)).trans h85
  have h86 := (hF 86 (by decide)).trans h86
  have h87 := (hF 87 (by decide)).trans h87
  have h88 := (hF 88 (by decide)).trans h88
  have h89 := (hF 89 (by decide)).trans h89
  have h90 := (hF 90 (by decide)).trans h90
  have h91 := (hF 91 (by decide)).trans h91
  have h92 := (hF 92 (by decide)).trans h92
  have hFF := kF_st hFF hF (by first | decide | simp)
  refine k_putF (tf := .object "KeyGroups$Timers") C hw 85 (by decide) h85 rfl inlX0 tyX0 tyX0_ok nmX0 2 (by decide) q_83 rfl hnm rfl (by decide +kernel) rfl rfl (Nat.le_of_ble_eq_true rfl) dX0_init_34 (fun M_9 H locs hw h85 hF => ?_)
  have h85 : M_9 85 = .inr (0, [.ref (b + 86), .ref (b + 89), .ref (b + 93)]) := h85
  have h86 := (hF 86 (by decide)).trans h86
  have h87 := (hF 87 (by decide)).trans h87
  have h88 := (hF 88 (by decide)).trans h88
  have h89 := (hF 89 (by decide)).trans h89
  have h90 := (hF 90 (by decide)).trans h90
  have h91 := (hF 91 (by decide)).trans h91
  have h92 := (hF 92 (by decide)).trans h92
  have h93 := (hF 93 (by decide)).trans h93
  have h94 := (hF 94 (by decide)).trans h94
  have h95 := (hF 95 (by decide)).trans h95
  have hFF := kF_st hFF hF (by first | decide | simp)
  exact hret _ _ (Nat.le_of_ble_eq_true rfl) (Nat.le_of_ble_eq_true rfl) hw (⟨rfl, hFF, h85, h86, h87, h88, h89, h90, h91, h92, h93, h94, h95⟩) dX0_init_37

set_option maxHeartbeats 4000000 in
set_option maxRecDepth 100000 in
theorem c_X6_init_96 {l : Launch} {D : va_G} {cI cJ cZ cH cR : ClassId} {b : Nat} {M : Nat → va_E}     (h97 : M 97 = .inr (6, [.null, .null]))  : Met l yX6_init (kw yX6_init cX6_init 1 none) ({ frames := 1, cells := 2, slots := 200, locals := 12 }) (va_Pc [.ref (b + 97)] (kPre D (kT cI cJ cZ cH cR) b M 98)) (va_Qv (fun (u : (Nat → va_E) × Nat) => u.2 = 100 ∧ kF [97, 98, 99] M u.1 ∧ u.1 97 = .inr (6, [.ref (b + 98), .ref (b + 99)]) ∧ u.1 98 = .inl (cI, 100, .inl (fun _ => 0)) ∧ u.1 99 = .inl (cJ, 100, .inr (.inl (fun _ => 0)))) (kB D (kT cI cJ cZ cH cR) b) (kA b)) 2 200 (kA b) := by
  refine k_metV (by decide +kernel) (Nat.le_of_ble_eq_true rfl) ?_
  intro p e s m below meth c ls Q C hw hret hnm hl
  have hl : lv_has ls 1 [(0, .ref (b + 97))] := hl
  have hFF : kF [97, 98, 99] M M := kF_rf
  refine lv_aload_n C.1 C.2.1 dX6_init_0 rfl (lv_at hl 0 rfl) ?_
  refine W.objInit C.1 C.2.1 C.2.2.2.1 (C.2.2.2.2.1 _ q_87) (C.2.2.2.2.1 _ q_10) (C.2.2.2.2.1 _ q_11) rfl (by rw [C.2.2.1]; exact hl.1) rfl dX6_init_1 (Nat.le_of_ble_eq_true rfl) (Nat.le_of_ble_eq_true rfl) ?_
  refine W.eq (g2 := F0 m 4 ls []) rfl ?_
  refine lv_aload_n C.1 C.2.1 dX6_init_4 rfl (lv_at hl 0 rfl) ?_
  refine lv_bipush (v := nI 100) C.1 C.2.1 dX6_init_5 (by decide) ?_
  refine k_newI C hw q_38 100 rfl (by decide) (Nat.le_of_ble_eq_true rfl) (Nat.le_of_ble_eq_true rfl) dX6_init_7 (fun M_1 H hw h98 hF => ?_)
  have h97 := (hF 97 (by decide)).trans h97
  have hFF := kF_st hFF hF (by first | decide | simp)
  refine k_putF (tf := .array .int) C hw 97 (by decide) h97 rfl inlX6 tyX6 tyX6_ok nmX6 0 (by decide) q_88 rfl hnm rfl (by decide +kernel) rfl rfl (Nat.le_of_ble_eq_true rfl) dX6_init_9 (fun M_2 H locs hw h97 hF => ?_)
  have h97 : M_2 97 = .inr (6, [.ref (b + 98), .null]) := h97
  have h98 := (hF 98 (by decide)).trans h98
  have hFF := kF_st hFF hF (by first | decide | simp)
  refine lv_aload_n C.1 C.2.1 dX6_init_12 rfl (lv_at hl 0 rfl) ?_
  refine lv_bipush (v := nI 100) C.1 C.2.1 dX6_init_13 (by decide) ?_
  refine k_newJ C hw q_89 100 rfl (by decide) (Nat.le_of_ble_eq_true rfl) (Nat.le_of_ble_eq_true rfl) dX6_init_15 (fun M_3 H hw h99 hF => ?_)
  have h97 := (hF 97 (by decide)).trans h97
  have h98 := (hF 98 (by decide)).trans h98
  have hFF := kF_st hFF hF (by first | decide | simp)
  refine k_putF (tf := .array .long) C hw 97 (by decide) h97 rfl inlX6 tyX6 tyX6_ok nmX6 1 (by decide) q_90 rfl hnm rfl (by decide +kernel) rfl rfl (Nat.le_of_ble_eq_true rfl) dX6_init_17 (fun M_4 H locs hw h97 hF => ?_)
  have h97 : M_4 97 = .inr (6, [.ref (b + 98), .ref (b + 99)]) := h97
  have h98 := (hF 98 (by decide)).trans h98
  have h99 := (hF 99 (by decide)).trans h99
  have hFF := kF_st hFF hF (by first | decide | simp)
  exact hret _ _ (Nat.le_of_ble_eq_true rfl) (Nat.le_of_ble_eq_true rfl) hw (⟨rfl, hFF, h97, h98, h99⟩) dX6_init_20

set_option maxHeartbeats 4000000 in
set_option maxRecDepth 100000 in
theorem c_X5_init_96 {l : Launch} {D : va_G} {cI cJ cZ cH cR : ClassId} {b : Nat} {M : Nat → va_E}     (h100 : M 100 = .inr (5, [.null, .null, .null, .int 0, .int 0]))  : Met l yX5_init (kw yX5_init cX5_init 1 none) ({ frames := 1, cells := 3, slots := 1200, locals := 12 }) (va_Pc [.ref (b + 100)] (kPre D (kT cI cJ cZ cH cR) b M 101)) (va_Qv (fun (u : (Nat → va_E) × Nat) => u.2 = 104 ∧ kF [100, 101, 102, 103] M u.1 ∧ u.1 100 = .inr (5, [.ref (b + 101), .ref (b + 102), .ref (b + 103), .int (nI 0), .int (nI 0)]) ∧ u.1 101 = .inl (cI, 400, .inl (fun _ => 0)) ∧ u.1 102 = .inl (cI, 400, .inl (fun _ => 0)) ∧ u.1 103 = .inl (cI, 400, .inl (fun _ => 0))) (kB D (kT cI cJ cZ cH cR) b) (kA b)) 3 1200 (kA b) := by
  refine k_metV (by decide +kernel) (Nat.le_of_ble_eq_true rfl) ?_
  intro p e s m below meth c ls Q C hw hret hnm hl
  have hl : lv_has ls 1 [(0, .ref (b + 100))] := hl
  have hFF : kF [100, 101, 102, 103] M M := kF_rf
  refine lv_aload_n C.1 C.2.1 dX5_init_0 rfl (lv_at hl 0 rfl) ?_
  refine W.objInit C.1 C.2.1 C.2.2.2.1 (C.2.2.2.2.1 _ q_94) (C.2.2.2.2.1 _ q_10) (C.2.2.2.2.1 _ q_11) rfl (by rw [C.2.2.1]; exact hl.1) rfl dX5_init_1 (Nat.le_of_ble_eq_true rfl) (Nat.le_of_ble_eq_true rfl) ?_
  refine W.eq (g2 := F0 m 4 ls []) rfl ?_
  refine lv_aload_n C.1 C.2.1 dX5_init_4 rfl (lv_at hl 0 rfl) ?_
  refine lv_sipush (v := nI 400) C.1 C.2.1 dX5_init_5 (by decide) ?_
  refine k_newI C hw q_38 400 rfl (by decide) (Nat.le_of_ble_eq_true rfl) (Nat.le_of_ble_eq_true rfl) dX5_init_8 (fun M_1 H hw h101 hF => ?_)
  have h100 := (hF 100 (by decide)).trans h100
  have hFF := kF_st hFF hF (by first | decide | simp)
  refine k_putF (tf := .array .int) C hw 100 (by decide) h100 rfl inlX5 tyX5 tyX5_ok nmX5 0 (by decide) q_95 rfl hnm rfl (by decide +kernel) rfl rfl (Nat.le_of_ble_eq_true rfl) dX5_init_10 (fun M_2 H locs hw h100 hF => ?_)
  have h100 : M_2 100 = .inr (5, [.ref (b + 101), .null, .null, .int 0, .int 0]) := h100
  have h101 := (hF 101 (by decide)).trans h101
  have hFF := kF_st hFF hF (by first | decide | simp)
  refine lv_aload_n C.1 C.2.1 dX5_init_13 rfl (lv_at hl 0 rfl) ?_
  refine lv_sipush (v := nI 400) C.1 C.2.1 dX5_init_14 (by decide) ?_
  refine k_newI C hw q_38 400 rfl (by decide) (Nat.le_of_ble_eq_true rfl) (Nat.le_of_ble_eq_true rfl) dX5_init_17 (fun M_3 H hw h102 hF => ?_)
  have h100 := (hF 100 (by decide)).trans h100
  have h101 := (hF 101 (by decide)).trans h101
  have hFF := kF_st hFF hF (by first | decide | simp)
  refine k_putF (tf := .array .int) C hw 100 (by decide) h100 rfl inlX5 tyX5 tyX5_ok nmX5 1 (by decide) q_96 rfl hnm rfl (by decide +kernel) rfl rfl (Nat.le_of_ble_eq_true rfl) dX5_init_19 (fun M_4 H locs hw h100 hF => ?_)
  have h100 : M_4 100 = .inr (5, [.ref (b + 101), .ref (b + 102), .null, .int 0, .int 0]) := h100
  have h101 := (hF 101 (by decide)).trans h101
  have h102 := (hF 102 (by decide)).trans h102
  have hFF := kF_st hFF hF (by first | decide | simp)
  refine lv_aload_n C.1 C.2.1 dX5_init_22 rfl (lv_at hl 0 rfl) ?_
  refine lv_sipush (v := nI 400) C.1 C.2.1 dX5_init_23 (by decide) ?_
  refine k_newI C hw q_38 400 rfl (by decide) (Nat.le_of_ble_eq_true rfl) (Nat.le_of_ble_eq_true rfl) dX5_init_26 (fun M_5 H hw h103 hF => ?_)
  have h100 := (hF 100 (by decide)).trans h100
  have h101 := (hF 101 (by decide)).trans h101
  have h102 := (hF 102 (by decide)).trans h102
  have hFF := kF_st hFF hF (by first | decide | simp)
  refine k_putF (tf := .array .int) C hw 100 (by decide) h100 rfl inlX5 tyX5 tyX5_ok nmX5 2 (by decide) q_97 rfl hnm rfl (by decide +kernel) rfl rfl (Nat.le_of_ble_eq_true rfl) dX5_init_28 (fun M_6 H locs hw h100 hF => ?_)
  have h100 : M_6 100 = .inr (5, [.ref (b + 101), .ref (b + 102), .ref (b + 103), .int 0, .int 0]) := h100
  have h101 := (hF 101 (by decide)).trans h101
  have h102 := (hF 102 (by decide)).trans h102
  have h103 := (hF 103 (by decide)).trans h103
  have hFF := kF_st hFF hF (by first | decide | simp)
  exact hret _ _ (Nat.le_of_ble_eq_true rfl) (Nat.le_of_ble_eq_true rfl) hw (⟨rfl, hFF, h100, h101, h102, h103⟩) dX5_init_31

set_option maxHeartbeats 4000000 in
set_option maxRecDepth 100000 in
theorem c_X7_init_96 {l : Launch} {D : va_G} {cI cJ cZ cH cR : ClassId} {b : Nat} {M : Nat → va_E}     (h104 : M 104 = .inr (7, [.null, .null, .int 0, .int 0]))  : Met l yX7_init (kw yX7_init cX7_init 1 none) ({ frames := 1, cells := 2, slots := 80, locals := 12 }) (va_Pc [.ref (b + 104)] (kPre D (kT cI cJ cZ cH cR) b M 105)) (va_Qv (fun (u : (Nat → va_E) × Nat) => u.2 = 107 ∧ kF [104, 105, 106] M u.1 ∧ u.1 104 = .inr (7, [.ref (b + 105), .ref (b + 106), .int (nI 0), .int (0)]) ∧ u.1 105 = .inl (cI, 40, .inl (fun _ => 0)) ∧ u.1 106 = .inl (cI, 40, .inl (fun _ => 0))) (kB D (kT cI cJ cZ cH cR) b) (kA b)) 2 80 (kA b) := by
  refine k_metV (by decide +kernel) (Nat.le_of_ble_eq_true rfl) ?_
  intro p e s m below meth c ls Q C hw hret hnm hl
  have hl : lv_has ls 1 [(0, .ref (b + 104))] := hl
  have hFF : kF [104, 105, 106] M M := kF_rf
  refine lv_aload_n C.1 C.2.1 dX7_init_0 rfl (lv_at hl 0 rfl) ?_
  refine W.objInit C.1 C.2.1 C.2.2.2.1 (C.2.2.2.2.1 _ q_101) (C.2.2.2.2.1 _ q_10) (C.2.2.2.2.1 _ q_11) rfl (by rw [C.2.2.1]; exact hl.1) rfl dX7_init_1 (Nat.le_of_ble_eq_true rfl) (Nat.le_of_ble_eq_true rfl) ?_
  refine W.eq (g2 := F0 m 4 ls []) rfl ?_
  refine lv_aload_n C.1 C.2.1 dX7_init_4 rfl (lv_at hl 0 rfl) ?_
  refine lv_bipush (v := nI 40) C.1 C.2.1 dX7_init_5 (by decide) ?_
  refine k_newI C hw q_38 40 rfl (by decide) (Nat.le_of_ble_eq_true rfl) (Nat.le_of_ble_eq_true rfl) dX7_init_7 (fun M_1 H hw h105 hF => ?_)
  have h104 := (hF 104 (by decide)).trans h104
  have hFF := kF_st hFF hF (by first | decide | simp)
  refine k_putF (tf := .array .int) C hw 104 (by decide) h104 rfl inlX7 tyX7 tyX7_ok nmX7 0 (by decide) q_102 rfl hnm rfl (by decide +kernel) rfl rfl (Nat.le_of_ble_eq_true rfl) dX7_init_9 (fun M_2 H locs hw h104 hF => ?_)
  have h104 : M_2 104 = .inr (7, [.ref (b + 105), .null, .int 0, .int 0]) := h104
  have h105 := (hF 105 (by decide)).trans h105
  have hFF := kF_st hFF hF (by first | decide | simp)
  refine lv_aload_n C.1 C.2.1 dX7_init_12 rfl (lv_at hl 0 rfl) ?_
  refine lv_bipush (v := nI 40) C.1 C.2.1 dX7_init_13 (by decide) ?_
  refine k_newI C hw q_38 40 rfl (by decide) (Nat.le_of_ble_eq_true rfl) (Nat.le_of_ble_eq_true rfl) dX7_init_15 (fun M_3 H hw h106 hF => ?_)
  have h104 := (hF 104 (by decide)).trans h104
  have h105 := (hF 105 (by decide)).trans h105
  have hFF := kF_st hFF hF (by first | decide | simp)
  refine k_putF (tf := .array .int) C hw 104 (by decide) h104 rfl inlX7 tyX7 tyX7_ok nmX7 1 (by decide) q_103 rfl hnm rfl (by decide +kernel) rfl rfl (Nat.le_of_ble_eq_true rfl) dX7_init_17 (fun M_4 H locs hw h104 hF => ?_)
  have h104 : M_4 104 = .inr (7, [.ref (b + 105), .ref (b + 106), .int 0, .int 0]) := h104
  have h105 := (hF 105 (by decide)).trans h105
  have h106 := (hF 106 (by decide)).trans h106
  have hFF := kF_st hFF hF (by first | decide | simp)
  exact hret _ _ (Nat.le_of_ble_eq_true rfl) (Nat.le_of_ble_eq_true rfl) hw (⟨rfl, hFF, h104, h105, h106⟩) dX7_init_20

set_option maxHeartbeats 4000000 in
set_option maxRecDepth 100000 in
theorem c_X0_init_96 {l : Launch} {D : va_G} {cI cJ cZ cH cR : ClassId} {b : Nat} {M : Nat → va_E}     (h96 : M 96 = .inr (0, [.null, .null, .null]))  : Met l yX0_init (kw yX0_init cX0_init 1 none) ({ frames := 2, cells := 10, slots := 1491, locals := 32 }) (va_Pc [.ref (b + 96)] (kPre D (kT cI cJ cZ cH cR) b M 97)) (va_Qv (fun (u : (Nat → va_E) × Nat) => u.2 = 107 ∧ kF [96, 97, 98, 99, 100, 101, 102, 103, 104, 105, 106] M u.1 ∧ u.1 96 = .inr (0, [.ref (b + 97), .ref (b + 100), .ref (b + 104)]) ∧ u.1 97 = .inr (6, [.ref (b + 98), .ref (b + 99)]) ∧ u.1 98 = .inl (cI, 100, .inl (fun _ => 0)) ∧ u.1 99 = .inl (cJ, 100, .inr (.inl (fun _ => 0))) ∧ u.1 100 = .inr (5, [.ref (b + 101), .ref (b + 102), .ref (b + 103), .int (nI 0), .int (nI 0)]) ∧ u.1 101 = .inl (cI, 400, .inl (fun _ => 0)) ∧ u.1 102 = .inl (cI, 400, .inl (fun _ => 0)) ∧ u.1 103 = .inl (cI, 400, .inl (fun _ => 0)) ∧ u.1 104 = .inr (7, [.ref (b + 105), .ref (b + 106), .int (nI 0), .int (0)]) ∧ u.1 105 = .inl (cI, 40, .inl (fun _ => 0)) ∧ u.1 106 = .inl (cI, 40, .inl (fun _ => 0))) (kB D (kT cI cJ cZ cH cR) b) (kA b)) 10 1491 (kA b) := by
  refine k_metV (by decide +kernel) (Nat.le_of_ble_eq_true rfl) ?_
  intro p e s m below meth c ls Q C hw hret hnm hl
  have hl : lv_has ls 1 [(0, .ref (b + 96))] := hl
  have hFF : kF [96, 97, 98, 99, 100, 101, 102, 103, 104, 105, 106] M M := kF_rf
  refine lv_aload_n C.1 C.2.1 dX0_init_0 rfl (lv_at hl 0 rfl) ?_
  refine W.objInit C.1 C.2.1 C.2.2.2.1 (C.2.2.2.2.1 _ q_71) (C.2.2.2.2.1 _ q_10) (C.2.2.2.2.1 _ q_11) rfl (by rw [C.2.2.1]; exact hl.1) rfl dX0_init_1 (Nat.le_of_ble_eq_true rfl) (Nat.le_of_ble_eq_true rfl) ?_
  refine W.eq (g2 := F0 m 4 ls []) rfl ?_
  refine lv_aload_n C.1 C.2.1 dX0_init_4 rfl (lv_at hl 0 rfl) ?_
  refine k_new (fs := [.null, .null]) C hw (ci := 6) rfl inlX6 tyX6 tyX6_ok q_72 q_73 q_74 (by decide +kernel) (Nat.le_of_ble_eq_true rfl) (Nat.le_of_ble_eq_true rfl) dX0_init_5 (fun M_1 H hw h97 hF => ?_)
  have h96 := (hF 96 (by decide)).trans h96
  have hFF := kF_st hFF hF (by first | decide | simp)
  refine lv_dup C.1 C.2.1 dX0_init_8 rfl ?_
  refine k_cv C hw (c_X6_init_96 h97 ) kv_X0_9 rfl hl.1 ⟨Nat.le_of_ble_eq_true rfl, Nat.le_of_ble_eq_true rfl⟩ (Nat.le_of_ble_eq_true rfl) ⟨Nat.le_of_ble_eq_true rfl, Nat.le_of_ble_eq_true rfl⟩ dX0_init_9 (fun M_2 n9 H locs hp hw => ?_)
  obtain ⟨en9, hF, h97, h98, h99⟩ := hp
  have en9 : n9 = 100 := en9
  rw [en9] at hw
  have h96 := (hF 96 (by decide)).trans h96
  have hFF := kF_st hFF hF (by first | decide | simp)
  refine k_putF (tf := .object "KeyGroups$States") C hw 96 (by decide) h96 rfl inlX0 tyX0 tyX0_ok nmX0 0 (by decide) q_75 rfl hnm rfl (by decide +kernel) rfl rfl (Nat.le_of_ble_eq_true rfl) dX0_init_12 (fun M_3 H locs hw h96 hF => ?_)
  have h96 : M_3 96 = .inr (0, [.ref (b + 97), .null, .null]) := h96
  have h97 := (hF 97 (by decide)).trans h97
  have h98 := (hF 98 (by decide)).trans h98
  have h99 := (hF 99 (by decide)).trans h99
  have hFF := kF_st hFF hF (by first | decide | simp)
  refine lv_aload_n C.1 C.2.1 dX0_init_15 rfl (lv_at hl 0 rfl) ?_
  refine k_new (fs := [.null, .null, .null, .int 0, .int 0]) C hw (ci := 5) rfl inlX5 tyX5 tyX5_ok q_76 q_77 q_78 (by decide +kernel) (Nat.le_of_ble_eq_true rfl) (Nat.le_of_ble_eq_true rfl) dX0_init_16 (fun M_4 H hw h100 hF => ?_)
  have h96 := (hF 96 (by decide)).trans h96
  have h97 := (hF 97 (by decide)).trans h97
  have h98 := (hF 98 (by decide)).trans h98
  have h99 := (hF 99 (by decide)).trans h99
  have hFF := kF_st hFF hF (by first | decide | simp)
  refine lv_dup C.1 C.2.1 dX0_init_19 rfl ?_
  refine k_cv C hw (c_X5_init_96 h100 ) kv_X0_18 rfl hl.1 ⟨Nat.le_of_ble_eq_true rfl, Nat.le_of_ble_eq_true rfl⟩ (Nat.le_of_ble_eq_true rfl) ⟨Nat.le_of_ble_eq_true rfl, Nat.le_of_ble_eq_true rfl⟩ dX0_init_20 (fun M_5 n9 H locs hp hw => ?_)
  obtain ⟨en9, hF, h100, h101, h102, h103⟩ := hp
  have en9 : n9 = 104 := en9
  rw [en9] at hw
  have h96 := (hF 96 (by decide)).trans h96
  have h97 := (hF 97 (by decide)).trans h97
  have h98 := (hF 98 (by decide)).trans h98
  have h99 := (hF 99 (by decide)).trans h99
  have hFF := kF_st hFF hF (by first | decide | simp)
  refine k_putF (tf := .object "KeyGroups$Rows") C hw 96 (by decide) h96 rfl inlX0 tyX0 tyX0_ok nmX0 1 (by decide) q_79 rfl hnm rfl (by decide +kernel) rfl rfl (Nat.le_of_ble_eq_true rfl) dX0_init_23 (fun M_6 H locs hw h96 hF => ?_)
  have h96 : M_6 96 = .inr (0, [.ref (b + 97), .ref (b + 100), .null]) := h96
  have h97 := (hF 97 (by decide)).trans h97
  have h98 := (hF 98 (by decide)).trans h98
  have h99 := (hF 99 (by decide)).trans h99
  have h100 := (hF 100 (by decide)).trans h100
  have h101 := (hF 101 (by decide)).trans h101
  have h102 := (hF 102 (by decide)).trans h102
  have h103 := (hF 103 (by decide)).trans h103
  have hFF := kF_st hFF hF (by first | decide | simp)
  refine lv_aload_n C.1 C.2.1 dX0_init_26 rfl (lv_at hl 0 rfl) ?_
  refine k_new (fs := [.null, .null, .int 0, .int 0]) C hw (ci := 7) rfl inlX7 tyX7 tyX7_ok q_80 q_81 q_82 (by decide +kernel) (Nat.le_of_ble_eq_true rfl) (Nat.le_of_ble_eq_true rfl) dX0_init_27 (fun M_7 H hw h104 hF => ?_)
  have h96 := (hF 96 (by decide)).trans h96
  have h97 := (hF 97 (by decide)).trans h97
  have h98 := (hF 98 (by decide)).trans h98
  have h99 := (hF 99 (by decide)).trans h99
  have h100 := (hF 100 (by decide)).trans h100
  have h101 := (hF 101 (by decide)).trans h101
  have h102 := (hF 102 (by decide)).trans h102
  have h103 := (hF 103 (by decide)).trans h103
  have hFF := kF_st hFF hF (by first | decide | simp)
  refine lv_dup C.1 C.2.1 dX0_init_30 rfl ?_
  refine k_cv C hw (c_X7_init_96 h104 ) kv_X0_25 rfl hl.1 ⟨Nat.le_of_ble_eq_true rfl, Nat.le_of_ble_eq_true rfl⟩ (Nat.le_of_ble_eq_true rfl) ⟨Nat.le_of_ble_eq_true rfl, Nat.le_of_ble_eq_true rfl⟩ dX0_init_31 (fun M_8 n9 H locs hp hw => ?_)
  obtain ⟨en9, hF, h104, h105, h106⟩ := hp
  have en9 : n9 = 107 := en9
  rw [en9] at hw
  have h96 := (hF 96 (by decide)).trans h96
  have h97 := (hF 97 (by decide)).trans h97
  have h98 := (hF 98 (by decide)).trans h98
  have h99 := (hF 99 (by decide)).trans h99
  have h100 := (hF 100 (by decide)).trans h100
  have h101 := (hF 101 (by decide)).trans h101
  have h102 := (hF 102 (by decide)).trans h102
  have h103 := (hF 103 (by decide)).trans h103
  have hFF := kF_st hFF hF (by first | decide | simp)
  refine k_putF (tf := .object "KeyGroups$Timers") C hw 96 (by decide) h96 rfl inlX0 tyX0 tyX0_ok nmX0 2 (by decide) q_83 rfl hnm rfl (by decide +kernel) rfl rfl (Nat.le_of_ble_eq_true rfl) dX0_init_34 (fun M_9 H locs hw h96 hF => ?_)
  have h96 : M_9 96 = .inr (0, [.ref (b + 97), .ref (b + 100), .ref (b + 104)]) := h96
  have h97 := (hF 97 (by decide)).trans h97
  have h98 := (hF 98 (by decide)).trans h98
  have h99 := (hF 99 (by decide)).trans h99
  have h100 := (hF 100 (by decide)).trans h100
  have h101 := (hF 101 (by decide)).trans h101
  have h102 := (hF 102 (by decide)).trans h102
  have h103 := (hF 103 (by decide)).trans h103
  have h104 := (hF 104 (by decide)).trans h104
  have h105 := (hF 105 (by decide)).trans h105
  have h106 := (hF 106 (by decide)).trans h106
  have hFF := kF_st hFF hF (by first | decide | simp)
  exact hret _ _ (Nat.le_of_ble_eq_true rfl) (Nat.le_of_ble_eq_true rfl) hw (⟨rfl, hFF, h96, h97, h98, h99, h100, h101, h102, h103, h104, h105, h106⟩) dX0_init_37

set_option maxHeartbeats 4000000 in
set_option maxRecDepth 100000 in
theorem c_X6_begin {l : Launch} {D : va_G} {cI cJ cZ cH cR : ClassId} {b : Nat} {n : Nat} {M : Nat → va_E}  {ct : Nat → Int32} {su : Nat → Int64}  (hn : 26 ≤ n) (h23 : M 23 = .inr (6, [.ref (b + 24), .ref (b + 25)])) (h24 : M 24 = .inl (cI, 100, .inl ct)) (h25 : M 25 = .inl (cJ, 100, .inr (.inl su)))  : Met l yX6_begin (kw yX6_begin cX6_begin 1 none) ({ frames := 1, cells := 0, slots := 0, locals := 24 }) (va_Pc [.ref (b + 23)] (kPre D (kT cI cJ cZ cH cR) b M n)) (va_Qv (fun (u : (Nat → va_E) × Nat) => u.2 = n ∧ kF [24, 25] M u.1 ∧ u.1 24 = .inl (cI, 100, .inl (fun _ => 0)) ∧ u.1 25 = .inl (cJ, 100, .inr (.inl (fun _ => 0)))) (kB D (kT cI cJ cZ cH cR) b) (kA b)) 0 0 (kA b) := by
  refine k_metV (by decide +kernel) (Nat.le_of_ble_eq_true rfl) ?_
  intro p e s m below meth c ls Q C hw hret hnm hl
  have hl : lv_has ls 1 [(0, .ref (b + 23))] := hl
  have hFF : kF [24, 25] M M := kF_rf
  refine lv_aload_n C.1 C.2.1 dX6_begin_0 rfl (lv_at hl 0 rfl) ?_
  refine k_get C hw 23 (by omega) h23 rfl inlX6 0 (by decide) q_88 rfl dX6_begin_1 ?_
  refine lv_iconst (v := nI 0) C.1 C.2.1 dX6_begin_4 (by decide) ?_
  refine k_sv C hw (c_J7_fill_53178 (by omega) h24 (by omega)) kv_X6_19 rfl hl.1 ⟨Nat.le_of_ble_eq_true rfl, Nat.le_of_ble_eq_true rfl⟩ (Nat.le_of_ble_eq_true rfl) ⟨Nat.le_of_ble_eq_true rfl, Nat.le_of_ble_eq_true rfl⟩ dX6_begin_5 (fun M_1 n9 H locs hp hw => ?_)
  obtain ⟨en9, hF, h24⟩ := hp
  have en9 : n9 = n := en9
  rw [en9] at hw
  have h23 := (hF 23 (by decide)).trans h23
  have h25 := (hF 25 (by decide)).trans h25
  have hFF := kF_st hFF hF (by first | decide | simp)
  refine lv_aload_n C.1 C.2.1 dX6_begin_8 rfl (lv_at hl 0 rfl) ?_
  refine k_get C hw 23 (by omega) h23 rfl inlX6 1 (by decide) q_90 rfl dX6_begin_9 ?_
  refine lv_lconst (v := 0) C.1 C.2.1 dX6_begin_12 rfl ?_
  refine k_sv C hw (c_J7_fill_d0a16 (by omega) h25 (by omega)) kv_X6_25 rfl hl.1 ⟨Nat.le_of_ble_eq_true rfl, Nat.le_of_ble_eq_true rfl⟩ (Nat.le_of_ble_eq_true rfl) ⟨Nat.le_of_ble_eq_true rfl, Nat.le_of_ble_eq_true rfl⟩ dX6_begin_13 (fun M_2 n9 H locs hp hw => ?_)
  obtain ⟨en9, hF, h25⟩ := hp
  have en9 : n9 = n := en9
  rw [en9] at hw
  have h23 := (hF 23 (by decide)).trans h23
  have h24 := (hF 24 (by decide)).trans h24
  have hFF := kF_st hFF hF (by first | decide | simp)
  obtain ⟨M_3, hw, h24, hF⟩ := k_extI hw 24 (by omega) h24 (fun _ => 0) (fun j hj => if_pos hj)
  have h23 := (hF 23 (by decide)).trans h23
  have h25 := (hF 25 (by decide)).trans h25
  have hFF := kF_st hFF hF (by first | decide | simp)
  obtain ⟨M_4, hw, h25, hF⟩ := k_extJ hw 25 (by omega) h25 (fun _ => 0) (fun j hj => if_pos hj)
  have h23 := (hF 23 (by decide)).trans h23
  have h24 := (hF 24 (by decide)).trans h24
  have hFF := kF_st hFF hF (by first | decide | simp)
  exact hret _ _ (Nat.le_of_ble_eq_true rfl) (Nat.le_of_ble_eq_true rfl) hw (⟨rfl, hFF, h24, h25⟩) dX6_begin_16

set_option maxHeartbeats 4000000 in
set_option maxRecDepth 100000 in
theorem c_X5_begin {l : Launch} {D : va_G} {cI cJ cZ cH cR : ClassId} {b : Nat} {n : Nat} {M : Nat → va_E}  {rs : Nat} {ca : Nat}  (hn : 27 ≤ n) (h26 : M 26 = .inr (5, [.ref (b + 27), .ref (b + 28), .ref (b + 29), .int (nI rs), .int (nI ca)]))  : Met l yX5_begin (kw yX5_begin cX5_begin 1 none) ({ frames := 0, cells := 0, slots := 0, locals := 0 }) (va_Pc [.ref (b + 26)] (kPre D (kT cI cJ cZ cH cR) b M n)) (va_Qv (fun (u : (Nat → va_E) × Nat) => u.2 = n ∧ kF [26] M u.1 ∧ u.1 26 = .inr (5, [.ref (b + 27), .ref (b + 28), .ref (b + 29), .int (nI 0), .int (nI 0)])) (kB D (kT cI cJ cZ cH cR) b) (kA b)) 0 0 (kA b) := by
  refine k_metV (by decide +kernel) (Nat.le_of_ble_eq_true rfl) ?_
  intro p e s m below meth c ls Q C hw hret hnm hl
  have hl : lv_has ls 1 [(0, .ref (b + 26))] := hl
  have hFF : kF [26] M M := kF_rf
  refine lv_aload_n C.1 C.2.1 dX5_begin_0 rfl (lv_at hl 0 rfl) ?_
  refine lv_iconst (v := nI 0) C.1 C.2.1 dX5_begin_1 (by decide) ?_
  refine k_put (tf := .int) C hw 26 (by omega) h26 rfl inlX5 tyX5 tyX5_ok nmX5 3 (by decide) q_239 rfl (by decide +kernel) rfl rfl (Nat.le_of_ble_eq_true rfl) dX5_begin_2 (fun M_1 H locs hw h26 hF => ?_)
  have h26 : M_1 26 = .inr (5, [.ref (b + 27), .ref (b + 28), .ref (b + 29), .int (nI 0), .int (nI ca)]) := h26
  have hFF := kF_st hFF hF (by first | decide | simp)
  refine lv_aload_n C.1 C.2.1 dX5_begin_5 rfl (lv_at hl 0 rfl) ?_
  refine lv_iconst (v := nI 0) C.1 C.2.1 dX5_begin_6 (by decide) ?_
  refine k_put (tf := .int) C hw 26 (by omega) h26 rfl inlX5 tyX5 tyX5_ok nmX5 4 (by decide) q_240 rfl (by decide +kernel) rfl rfl (Nat.le_of_ble_eq_true rfl) dX5_begin_7 (fun M_2 H locs hw h26 hF => ?_)
  have h26 : M_2 26 = .inr (5, [.ref (b + 27), .ref (b + 28), .ref (b + 29), .int (nI 0), .int (nI 0)]) := h26
  have hFF := kF_st hFF hF (by first | decide | simp)
  exact hret _ _ (Nat.le_of_ble_eq_true rfl) (Nat.le_of_ble_eq_true rfl) hw (⟨rfl, hFF, h26⟩) dX5_begin_10

set_option maxHeartbeats 4000000 in
set_option maxRecDepth 100000 in
theorem c_X7_begin {l : Launch} {D : va_G} {cI cJ cZ cH cR : ClassId} {b : Nat} {n : Nat} {M : Nat → va_E}  {ts : Nat} {tr : Int32}  (hn : 31 ≤ n) (h30 : M 30 = .inr (7, [.ref (b + 31), .ref (b + 32), .int (nI ts), .int tr]))  : Met l yX7_begin (kw yX7_begin cX7_begin 1 none) ({ frames := 0, cells := 0, slots := 0, locals := 0 }) (va_Pc [.ref (b + 30)] (kPre D (kT cI cJ cZ cH cR) b M n)) (va_Qv (fun (u : (Nat → va_E) × Nat) => u.2 = n ∧ kF [30] M u.1 ∧ u.1 30 = .inr (7, [.ref (b + 31), .ref (b + 32), .int (nI 0), .int (nI 0)])) (kB D (kT cI cJ cZ cH cR) b) (kA b)) 0 0 (kA b) := by
  refine k_metV (by decide +kernel) (Nat.le_of_ble_eq_true rfl) ?_
  intro p e s m below meth c ls Q C hw hret hnm hl
  have hl : lv_has ls 1 [(0, .ref (b + 30))] := hl
  have hFF : kF [30] M M := kF_rf
  refine lv_aload_n C.1 C.2.1 dX7_begin_0 rfl (lv_at hl 0 rfl) ?_
  refine lv_iconst (v := nI 0) C.1 C.2.1 dX7_begin_1 (by decide) ?_
  refine k_put (tf := .int) C hw 30 (by omega) h30 rfl inlX7 tyX7 tyX7_ok nmX7 2 (by decide) q_498 rfl (by decide +kernel) rfl rfl (Nat.le_of_ble_eq_true rfl) dX7_begin_2 (fun M_1 H locs hw h30 hF => ?_)
  have h30 : M_1 30 = .inr (7, [.ref (b + 31), .ref (b + 32), .int (nI 0), .int tr]) := h30
  have hFF := kF_st hFF hF (by first | decide | simp)
  refine lv_aload_n C.1 C.2.1 dX7_begin_5 rfl (lv_at hl 0 rfl) ?_
  refine lv_iconst (v := nI 0) C.1 C.2.1 dX7_begin_6 (by decide) ?_
  refine k_put (tf := .int) C hw 30 (by omega) h30 rfl inlX7 tyX7 tyX7_ok nmX7 3 (by decide) q_616 rfl (by decide +kernel) rfl rfl (Nat.le_of_ble_eq_true rfl) dX7_begin_7 (fun M_2 H locs hw h30 hF => ?_)
  have h30 : M_2 30 = .inr (7, [.ref (b + 31), .ref (b + 32), .int (nI 0), .int (nI 0)]) := h30
  have hFF := kF_st hFF hF (by first | decide | simp)
  exact hret _ _ (Nat.le_of_ble_eq_true rfl) (Nat.le_of_ble_eq_true rfl) hw (⟨rfl, hFF, h30⟩) dX7_begin_10

set_option maxHeartbeats 4000000 in
set_option maxRecDepth 100000 in
theorem c_X0_begin {l : Launch} {D : va_G} {cI cJ cZ cH cR : ClassId} {b : Nat} {n : Nat} {M : Nat → va_E}  {ct : Nat → Int32} {su : Nat → Int64} {rs : Nat} {ca : Nat} {ts : Nat} {tr : Int32}  (hn : 31 ≤ n) (h22 : M 22 = .inr (0, [.ref (b + 23), .ref (b + 26), .ref (b + 30)])) (h23 : M 23 = .inr (6, [.ref (b + 24), .ref (b + 25)])) (h24 : M 24 = .inl (cI, 100, .inl ct)) (h25 : M 25 = .inl (cJ, 100, .inr (.inl su))) (h26 : M 26 = .inr (5, [.ref (b + 27), .ref (b + 28), .ref (b + 29), .int (nI rs), .int (nI ca)])) (h30 : M 30 = .inr (7, [.ref (b + 31), .ref (b + 32), .int (nI ts), .int tr]))  : Met l yX0_begin (kw yX0_begin cX0_begin 1 none) ({ frames := 2, cells := 0, slots := 0, locals := 44 }) (va_Pc [.ref (b + 22)] (kPre D (kT cI cJ cZ cH cR) b M n)) (va_Qv (fun (u : (Nat → va_E) × Nat) => u.2 = n ∧ kF [24, 25, 26, 30] M u.1 ∧ u.1 24 = .inl (cI, 100, .inl (fun _ => 0)) ∧ u.1 25 = .inl (cJ, 100, .inr (.inl (fun _ => 0))) ∧ u.1 26 = .inr (5, [.ref (b + 27), .ref (b + 28), .ref (b + 29), .int (nI 0), .int (nI 0)]) ∧ u.1 30 = .inr (7, [.ref (b + 31), .ref (b + 32), .int (nI 0), .int (nI 0)])) (kB D (kT cI cJ cZ cH cR) b) (kA b)) 0 0 (kA b) := by
  refine k_metV (by decide +kernel) (Nat.le_of_ble_eq_true rfl) ?_
  intro p e s m below meth c ls Q C hw hret hnm hl
  have hl : lv_has ls 1 [(0, .ref (b + 22))] := hl
  have hFF : kF [24, 25, 26, 30] M M := kF_rf
  refine lv_aload_n C.1 C.2.1 dX0_begin_0 rfl (lv_at hl 0 rfl) ?_
  refine k_get C hw 22 (by omega) h22 rfl inlX0 0 (by decide) q_75 rfl dX0_begin_1 ?_
  refine k_vv C hw 23 (by omega) h23 rfl (c_X6_begin (by omega) h23 h24 h25 ) kv_X0_30 rfl hl.1 ⟨Nat.le_of_ble_eq_true rfl, Nat.le_of_ble_eq_true rfl⟩ (Nat.le_of_ble_eq_true rfl) ⟨Nat.le_of_ble_eq_true rfl, Nat.le_of_ble_eq_true rfl⟩ dX0_begin_4 (fun M_1 n9 H locs hp hw => ?_)
  obtain ⟨en9, hF, h24, h25⟩ := hp
  have en9 : n9 = n := en9
  rw [en9] at hw
  have h22 := (hF 22 (by decide)).trans h22
  have h23 := (hF 23 (by decide)).trans h23
  have h26 := (hF 26 (by decide)).trans h26
  have h30 := (hF 30 (by decide)).trans h30
  have hFF := kF_st hFF hF (by first | decide | simp)
  refine lv_aload_n C.1 C.2.1 dX0_begin_7 rfl (lv_at hl 0 rfl) ?_
  refine k_get C hw 22 (by omega) h22 rfl inlX0 1 (by decide) q_79 rfl dX0_begin_8 ?_
  refine k_vv C hw 26 (by omega) h26 rfl (c_X5_begin (by omega) h26 ) kv_X0_33 rfl hl.1 ⟨Nat.le_of_ble_eq_true rfl, Nat.le_of_ble_eq_true rfl⟩ (Nat.le_of_ble_eq_true rfl) ⟨Nat.le_of_ble_eq_true rfl, Nat.le_of_ble_eq_true rfl⟩ dX0_begin_11 (fun M_2 n9 H locs hp hw => ?_)
  obtain ⟨en9, hF, h26⟩ := hp
  have en9 : n9 = n := en9
  rw [en9] at hw
  have h22 := (hF 22 (by decide)).trans h22
  have h23 := (hF 23 (by decide)).trans h23
  have h24 := (hF 24 (by decide)).trans h24
  have h25 := (hF 25 (by decide)).trans h25
  have h30 := (hF 30 (by decide)).trans h30
  have hFF := kF_st hFF hF (by first | decide | simp)
  refine lv_aload_n C.1 C.2.1 dX0_begin_14 rfl (lv_at hl 0 rfl) ?_
  refine k_get C hw 22 (by omega) h22 rfl inlX0 2 (by decide) q_83 rfl dX0_begin_15 ?_
  refine k_vv C hw 30 (by omega) h30 rfl (c_X7_begin (by omega) h30 ) kv_X0_34 rfl hl.1 ⟨Nat.le_of_ble_eq_true rfl, Nat.le_of_ble_eq_true rfl⟩ (Nat.le_of_ble_eq_true rfl) ⟨Nat.le_of_ble_eq_true rfl, Nat.le_of_ble_eq_true rfl⟩ dX0_begin_18 (fun M_3 n9 H locs hp hw => ?_)
  obtain ⟨en9, hF, h30⟩ := hp
  have en9 : n9 = n := en9
  rw [en9] at hw
  have h22 := (hF 22 (by decide)).trans h22
  have h23 := (hF 23 (by decide)).trans h23
  have h24 := (hF 24 (by decide)).trans h24
  have h25 := (hF 25 (by decide)).trans h25
  have h26 := (hF 26 (by decide)).trans h26
  have hFF := kF_st hFF hF (by first | decide | simp)
  exact hret _ _ (Nat.le_of_ble_eq_true rfl) (Nat.le_of_ble_eq_true rfl) hw (⟨rfl, hFF, h24, h25, h26, h30⟩) dX0_begin_21

set_option maxHeartbeats 4000000 in
set_option maxRecDepth 100000 in
theorem c_X6_forget {l : Launch} {D : va_G} {cI cJ cZ cH cR : ClassId} {b : Nat} {n : Nat} {M : Nat → va_E}  {ct : Nat → Int32} {su : Nat → Int64} {k : Nat} (hn : 26 ≤ n) (h23 : M 23 = .inr (6, [.ref (b + 24), .ref (b + 25)])) (h24 : M 24 = .inl (cI, 100, .inl ct)) (h25 : M 25 = .inl (cJ, 100, .inr (.inl su))) (hk : k < 100) : Met l yX6_forget (kw yX6_forget cX6_forget 2 none) ({ frames := 0, cells := 0, slots := 0, locals := 0 }) (va_Pc [.ref (b + 23), .int (nI k)] (kPre D (kT cI cJ cZ cH cR) b M n)) (va_Qv (fun (u : (Nat → va_E) × Nat) => u.2 = n ∧ kF [24, 25] M u.1 ∧ u.1 24 = .inl (cI, 100, .inl (upd ct k (nI 0))) ∧ u.1 25 = .inl (cJ, 100, .inr (.inl (vp_updL su k 0)))) (kB D (kT cI cJ cZ cH cR) b) (kA b)) 0 0 (kA b) := by
  refine k_metV (by decide +kernel) (Nat.le_of_ble_eq_true rfl) ?_
  intro p e s m below meth c ls Q C hw hret hnm hl
  have hl : lv_has ls 2 [(0, .ref (b + 23)), (1, .int (nI k))] := hl
  have hFF : kF [24, 25] M M := kF_rf
  refine lv_aload_n C.1 C.2.1 dX6_forget_0 rfl (lv_at hl 0 rfl) ?_
  refine k_get C hw 23 (by omega) h23 rfl inlX6 0 (by decide) q_88 rfl dX6_forget_1 ?_
  refine lv_iload_n C.1 C.2.1 dX6_forget_4 rfl (lv_at hl 1 rfl) ?_
  refine lv_iconst (v := nI 0) C.1 C.2.1 dX6_forget_5 (by decide) ?_
  refine k_iast C hw 24 (by omega) h24 (by omega) (by first | decide | omega) dX6_forget_6 (fun M_1 H locs hw h24 hF => ?_)
  have h23 := (hF 23 (by decide)).trans h23
  have h25 := (hF 25 (by decide)).trans h25
  have hFF := kF_st hFF hF (by first | decide | simp)
  refine lv_aload_n C.1 C.2.1 dX6_forget_7 rfl (lv_at hl 0 rfl) ?_
  refine k_get C hw 23 (by omega) h23 rfl inlX6 1 (by decide) q_90 rfl dX6_forget_8 ?_
  refine lv_iload_n C.1 C.2.1 dX6_forget_11 rfl (lv_at hl 1 rfl) ?_
  refine lv_lconst (v := 0) C.1 C.2.1 dX6_forget_12 rfl ?_
  refine k_last C hw 25 (by omega) h25 (by omega) (by first | decide | omega) dX6_forget_13 (fun M_2 H locs hw h25 hF => ?_)
  have h23 := (hF 23 (by decide)).trans h23
  have h24 := (hF 24 (by decide)).trans h24
  have hFF := kF_st hFF hF (by first | decide | simp)
  exact hret _ _ (Nat.le_of_ble_eq_true rfl) (Nat.le_of_ble_eq_true rfl) hw (⟨rfl, hFF, h24, h25⟩) dX6_forget_14

set_option maxHeartbeats 4000000 in
set_option maxRecDepth 100000 in
theorem c_X6_copyFrom_74_22 {l : Launch} {D : va_G} {cI cJ cZ cH cR : ClassId} {b : Nat} {n : Nat} {M : Nat → va_E}  {ct0 : Nat → Int32} {su0 : Nat → Int64} {ct : Nat → Int32} {su : Nat → Int64}  (hn : 78 ≤ n) (h75 : M 75 = .inr (6, [.ref (b + 76), .ref (b + 77)])) (h76 : M 76 = .inl (cI, 100, .inl ct0)) (h77 : M 77 = .inl (cJ, 100, .inr (.inl su0))) (h23 : M 23 = .inr (6, [.ref (b + 24), .ref (b + 25)])) (h24 : M 24 = .inl (cI, 100, .inl ct)) (h25 : M 25 = .inl (cJ, 100, .inr (.inl su)))  : Met l yX6_copyFrom (kw yX6_copyFrom cX6_copyFrom 2 none) ({ frames := 1, cells := 0, slots := 0, locals := 40 }) (va_Pc [.ref (b + 75), .ref (b + 23)] (kPre D (kT cI cJ cZ cH cR) b M n)) (va_Qv (fun (u : (Nat → va_E) × Nat) => u.2 = n ∧ kF [76, 77] M u.1 ∧ u.1 76 = .inl (cI, 100, .inl ct) ∧ u.1 77 = .inl (cJ, 100, .inr (.inl su))) (kB D (kT cI cJ cZ cH cR) b) (kA b)) 0 0 (kA b) := by
  refine k_metV (by decide +kernel) (Nat.le_of_ble_eq_true rfl) ?_
  intro p e s m below meth c ls Q C hw hret hnm hl
  have hl : lv_has ls 2 [(0, .ref (b + 75)), (1, .ref (b + 23))] := hl
  have hFF : kF [76, 77] M M := kF_rf
  refine lv_aload_n C.1 C.2.1 dX6_copyFrom_0 rfl (lv_at hl 1 rfl) ?_
  refine k_get C hw 23 (by omega) h23 rfl inlX6 0 (by decide) q_88 rfl dX6_copyFrom_1 ?_
  refine lv_iconst (v := nI 0) C.1 C.2.1 dX6_copyFrom_4 (by decide) ?_
  refine lv_aload_n C.1 C.2.1 dX6_copyFrom_5 rfl (lv_at hl 0 rfl) ?_
  refine k_get C hw 75 (by omega) h75 rfl inlX6 0 (by decide) q_88 rfl dX6_copyFrom_6 ?_
  refine lv_iconst (v := nI 0) C.1 C.2.1 dX6_copyFrom_9 (by decide) ?_
  refine lv_bipush (v := nI 100) C.1 C.2.1 dX6_copyFrom_10 (by decide) ?_
  refine k_copyi C hw hl.1 q_607 q_276 q_277 q_278 24 76 (by omega) (by omega) h24 h76 (by omega) (by omega) (by decide) (by decide) (Nat.le_of_ble_eq_true rfl) (by decide) dX6_copyFrom_12 (fun M_1 H locs hw h76 hF => ?_)
  have h75 := (hF 75 (by decide)).trans h75
  have h77 := (hF 77 (by decide)).trans h77
  have h23 := (hF 23 (by decide)).trans h23
  have h24 := (hF 24 (by decide)).trans h24
  have h25 := (hF 25 (by decide)).trans h25
  have hFF := kF_st hFF hF (by first | decide | simp)
  refine lv_aload_n C.1 C.2.1 dX6_copyFrom_15 rfl (lv_at hl 1 rfl) ?_
  refine k_get C hw 23 (by omega) h23 rfl inlX6 1 (by decide) q_90 rfl dX6_copyFrom_16 ?_
  refine lv_iconst (v := nI 0) C.1 C.2.1 dX6_copyFrom_19 (by decide) ?_
  refine lv_aload_n C.1 C.2.1 dX6_copyFrom_20 rfl (lv_at hl 0 rfl) ?_
  refine k_get C hw 75 (by omega) h75 rfl inlX6 1 (by decide) q_90 rfl dX6_copyFrom_21 ?_
  refine lv_iconst (v := nI 0) C.1 C.2.1 dX6_copyFrom_24 (by decide) ?_
  refine lv_bipush (v := nI 100) C.1 C.2.1 dX6_copyFrom_25 (by decide) ?_
  refine k_copyl C hw hl.1 q_607 q_276 q_277 q_278 25 77 (by omega) (by omega) h25 h77 (by omega) (by omega) (by decide) (by decide) (Nat.le_of_ble_eq_true rfl) (by decide) dX6_copyFrom_27 (fun M_2 H locs hw h77 hF => ?_)
  have h75 := (hF 75 (by decide)).trans h75
  have h76 := (hF 76 (by decide)).trans h76
  have h23 := (hF 23 (by decide)).trans h23
  have h24 := (hF 24 (by decide)).trans h24
  have h25 := (hF 25 (by decide)).trans h25
  have hFF := kF_st hFF hF (by first | decide | simp)
  obtain ⟨M_3, hw, h76, hF⟩ := k_extI hw 76 (by omega) h76 (ct) (fun j hj => cpy00 hj)
  have h75 := (hF 75 (by decide)).trans h75
  have h77 := (hF 77 (by decide)).trans h77
  have h23 := (hF 23 (by decide)).trans h23
  have h24 := (hF 24 (by decide)).trans h24
  have h25 := (hF 25 (by decide)).trans h25
  have hFF := kF_st hFF hF (by first | decide | simp)
  obtain ⟨M_4, hw, h77, hF⟩ := k_extJ hw 77 (by omega) h77 (su) (fun j hj => cpy00 hj)
  have h75 := (hF 75 (by decide)).trans h75
  have h76 := (hF 76 (by decide)).trans h76
  have h23 := (hF 23 (by decide)).trans h23
  have h24 := (hF 24 (by decide)).trans h24
  have h25 := (hF 25 (by decide)).trans h25
  have hFF := kF_st hFF hF (by first | decide | simp)
  exact hret _ _ (Nat.le_of_ble_eq_true rfl) (Nat.le_of_ble_eq_true rfl) hw (⟨rfl, hFF, h76, h77⟩) dX6_copyFrom_30

set_option maxHeartbeats 4000000 in
set_option maxRecDepth 100000 in
theorem c_X5_copyFrom_74_22 {l : Launch} {D : va_G} {cI cJ cZ cH cR : ClassId} {b : Nat} {n : Nat} {M : Nat → va_E}  {rs0 : Nat} {ca0 : Nat} {rn0 : Nat → Int32} {rk0 : Nat → Int32} {rv0 : Nat → Int32} {rs : Nat} {ca : Nat} {rn : Nat → Int32} {rk : Nat → Int32} {rv : Nat → Int32}  (hn : 82 ≤ n) (h78 : M 78 = .inr (5, [.ref (b + 79), .ref (b + 80), .ref (b + 81), .int (nI rs0), .int (nI ca0)])) (h79 : M 79 = .inl (cI, 400, .inl rn0)) (h80 : M 80 = .inl (cI, 400, .inl rk0)) (h81 : M 81 = .inl (cI, 400, .inl rv0)) (h26 : M 26 = .inr (5, [.ref (b + 27), .ref (b + 28), .ref (b + 29), .int (nI rs), .int (nI ca)])) (h27 : M 27 = .inl (cI, 400, .inl rn)) (h28 : M 28 = .inl (cI, 400, .inl rk)) (h29 : M 29 = .inl (cI, 400, .inl rv)) (hs : rs ≤ 400) : Met l yX5_copyFrom (kw yX5_copyFrom cX5_copyFrom 2 none) ({ frames := 1, cells := 0, slots := 0, locals := 40 }) (va_Pc [.ref (b + 78), .ref (b + 26)] (kPre D (kT cI cJ cZ cH cR) b M n)) (va_Qv (fun (u : (Nat → va_E) × Nat) => u.2 = n ∧ kF [78, 79, 80, 81] M u.1 ∧ u.1 78 = .inr (5, [.ref (b + 79), .ref (b + 80), .ref (b + 81), .int (nI rs), .int (nI ca)]) ∧ u.1 79 = .inl (cI, 400, .inl (va_cpy rn rn0 0 0 rs)) ∧ u.1 80 = .inl (cI, 400, .inl (va_cpy rk rk0 0 0 rs)) ∧ u.1 81 = .inl (cI, 400, .inl (va_cpy rv rv0 0 0 rs))) (kB D (kT cI cJ cZ cH cR) b) (kA b)) 0 0 (kA b) := by
  refine k_metV (by decide +kernel) (Nat.le_of_ble_eq_true rfl) ?_
  intro p e s m below meth c ls Q C hw hret hnm hl
  have hl : lv_has ls 2 [(0, .ref (b + 78)), (1, .ref (b + 26))] := hl
  have hFF : kF [78, 79, 80, 81] M M := kF_rf
  refine lv_aload_n C.1 C.2.1 dX5_copyFrom_0 rfl (lv_at hl 1 rfl) ?_
  refine k_get C hw 26 (by omega) h26 rfl inlX5 0 (by decide) q_95 rfl dX5_copyFrom_1 ?_
  refine lv_iconst (v := nI 0) C.1 C.2.1 dX5_copyFrom_4 (by decide) ?_
  refine lv_aload_n C.1 C.2.1 dX5_copyFrom_5 rfl (lv_at hl 0 rfl) ?_
  refine k_get C hw 78 (by omega) h78 rfl inlX5 0 (by decide) q_95 rfl dX5_copyFrom_6 ?_
  refine lv_iconst (v := nI 0) C.1 C.2.1 dX5_copyFrom_9 (by decide) ?_
  refine lv_aload_n C.1 C.2.1 dX5_copyFrom_10 rfl (lv_at hl 1 rfl) ?_
  refine k_get C hw 26 (by omega) h26 rfl inlX5 3 (by decide) q_239 rfl dX5_copyFrom_11 ?_
  refine k_copyi C hw hl.1 q_275 q_276 q_277 q_278 27 79 (by omega) (by omega) h27 h79 (by omega) (by omega) (by decide) (by decide) (Nat.le_of_ble_eq_true rfl) (by decide) dX5_copyFrom_14 (fun M_1 H locs hw h79 hF => ?_)
  have h78 := (hF 78 (by decide)).trans h78
  have h80 := (hF 80 (by decide)).trans h80
  have h81 := (hF 81 (by decide)).trans h81
  have h26 := (hF 26 (by decide)).trans h26
  have h27 := (hF 27 (by decide)).trans h27
  have h28 := (hF 28 (by decide)).trans h28
  have h29 := (hF 29 (by decide)).trans h29
  have hFF := kF_st hFF hF (by first | decide | simp)
  refine lv_aload_n C.1 C.2.1 dX5_copyFrom_17 rfl (lv_at hl 1 rfl) ?_
  refine k_get C hw 26 (by omega) h26 rfl inlX5 1 (by decide) q_96 rfl dX5_copyFrom_18 ?_
  refine lv_iconst (v := nI 0) C.1 C.2.1 dX5_copyFrom_21 (by decide) ?_
  refine lv_aload_n C.1 C.2.1 dX5_copyFrom_22 rfl (lv_at hl 0 rfl) ?_
  refine k_get C hw 78 (by omega) h78 rfl inlX5 1 (by decide) q_96 rfl dX5_copyFrom_23 ?_
  refine lv_iconst (v := nI 0) C.1 C.2.1 dX5_copyFrom_26 (by decide) ?_
  refine lv_aload_n C.1 C.2.1 dX5_copyFrom_27 rfl (lv_at hl 1 rfl) ?_
  refine k_get C hw 26 (by omega) h26 rfl inlX5 3 (by decide) q_239 rfl dX5_copyFrom_28 ?_
  refine k_copyi C hw hl.1 q_275 q_276 q_277 q_278 28 80 (by omega) (by omega) h28 h80 (by omega) (by omega) (by decide) (by decide) (Nat.le_of_ble_eq_true rfl) (by decide) dX5_copyFrom_31 (fun M_2 H locs hw h80 hF => ?_)
  have h78 := (hF 78 (by decide)).trans h78
  have h79 := (hF 79 (by decide)).trans h79
  have h81 := (hF 81 (by decide)).trans h81
  have h26 := (hF 26 (by decide)).trans h26
  have h27 := (hF 27 (by decide)).trans h27
  have h28 := (hF 28 (by decide)).trans h28
  have h29 := (hF 29 (by decide)).trans h29
  have hFF := kF_st hFF hF (by first | decide | simp)
  refine lv_aload_n C.1 C.2.1 dX5_copyFrom_34 rfl (lv_at hl 1 rfl) ?_
  refine k_get C hw 26 (by omega) h26 rfl inlX5 2 (by decide) q_97 rfl dX5_copyFrom_35 ?_
  refine lv_iconst (v := nI 0) C.1 C.2.1 dX5_copyFrom_38 (by decide) ?_
  refine lv_aload_n C.1 C.2.1 dX5_copyFrom_39 rfl (lv_at hl 0 rfl) ?_
  refine k_get C hw 78 (by omega) h78 rfl inlX5 2 (by decide) q_97 rfl dX5_copyFrom_40 ?_
  refine lv_iconst (v := nI 0) C.1 C.2.1 dX5_copyFrom_43 (by decide) ?_
  refine lv_aload_n C.1 C.2.1 dX5_copyFrom_44 rfl (lv_at hl 1 rfl) ?_
  refine k_get C hw 26 (by omega) h26 rfl inlX5 3 (by decide) q_239 rfl dX5_copyFrom_45 ?_
  refine k_copyi C hw hl.1 q_275 q_276 q_277 q_278 29 81 (by omega) (by omega) h29 h81 (by omega) (by omega) (by decide) (by decide) (Nat.le_of_ble_eq_true rfl) (by decide) dX5_copyFrom_48 (fun M_3 H locs hw h81 hF => ?_)
  have h78 := (hF 78 (by decide)).trans h78
  have h79 := (hF 79 (by decide)).trans h79
  have h80 := (hF 80 (by decide)).trans h80
  have h26 := (hF 26 (by decide)).trans h26
  have h27 := (hF 27 (by decide)).trans h27
  have h28 := (hF 28 (by decide)).trans h28
  have h29 := (hF 29 (by decide)).trans h29
  have hFF := kF_st hFF hF (by first | decide | simp)
  refine lv_aload_n C.1 C.2.1 dX5_copyFrom_51 rfl (lv_at hl 0 rfl) ?_
  refine lv_aload_n C.1 C.2.1 dX5_copyFrom_52 rfl (lv_at hl 1 rfl) ?_
  refine k_get C hw 26 (by omega) h26 rfl inlX5 3 (by decide) q_239 rfl dX5_copyFrom_53 ?_
  refine k_put (tf := .int) C hw 78 (by omega) h78 rfl inlX5 tyX5 tyX5_ok nmX5 3 (by decide) q_239 rfl (by decide +kernel) rfl rfl (Nat.le_of_ble_eq_true rfl) dX5_copyFrom_56 (fun M_4 H locs hw h78 hF => ?_)
  have h78 : M_4 78 = .inr (5, [.ref (b + 79), .ref (b + 80), .ref (b + 81), .int (nI rs), .int (nI ca0)]) := h78
  have h79 := (hF 79 (by decide)).trans h79
  have h80 := (hF 80 (by decide)).trans h80
  have h81 := (hF 81 (by decide)).trans h81
  have h26 := (hF 26 (by decide)).trans h26
  have h27 := (hF 27 (by decide)).trans h27
  have h28 := (hF 28 (by decide)).trans h28
  have h29 := (hF 29 (by decide)).trans h29
  have hFF := kF_st hFF hF (by first | decide | simp)
  refine lv_aload_n C.1 C.2.1 dX5_copyFrom_59 rfl (lv_at hl 0 rfl) ?_
  refine lv_aload_n C.1 C.2.1 dX5_copyFrom_60 rfl (lv_at hl 1 rfl) ?_
  refine k_get C hw 26 (by omega) h26 rfl inlX5 4 (by decide) q_240 rfl dX5_copyFrom_61 ?_
  refine k_put (tf := .int) C hw 78 (by omega) h78 rfl inlX5 tyX5 tyX5_ok nmX5 4 (by decide) q_240 rfl (by decide +kernel) rfl rfl (Nat.le_of_ble_eq_true rfl) dX5_copyFrom_64 (fun M_5 H locs hw h78 hF => ?_)
  have h78 : M_5 78 = .inr (5, [.ref (b + 79), .ref (b + 80), .ref (b + 81), .int (nI rs), .int (nI ca)]) := h78
  have h79 := (hF 79 (by decide)).trans h79
  have h80 := (hF 80 (by decide)).trans h80
  have h81 := (hF 81 (by decide)).trans h81
  have h26 := (hF 26 (by decide)).trans h26
  have h27 := (hF 27 (by decide)).trans h27
  have h28 := (hF 28 (by decide)).trans h28
  have h29 := (hF 29 (by decide)).trans h29
  have hFF := kF_st hFF hF (by first | decide | simp)
  exact hret _ _ (Nat.le_of_ble_eq_true rfl) (Nat.le_of_ble_eq_true rfl) hw (⟨rfl, hFF, h78, h79, h80, h81⟩) dX5_copyFrom_67

set_option maxHeartbeats 4000000 in
set_option maxRecDepth 100000 in
theorem c_X7_copyFrom_74_22 {l : Launch} {D : va_G} {cI cJ cZ cH cR : ClassId} {b : Nat} {n : Nat} {M : Nat → va_E}  {ts0 : Nat} {tr0 : Int32} {tk0 : Nat → Int32} {tt0 : Nat → Int32} {ts : Nat} {tr : Int32} {tk : Nat → Int32} {tt : Nat → Int32}  (hn : 85 ≤ n) (h82 : M 82 = .inr (7, [.ref (b + 83), .ref (b + 84), .int (nI ts0), .int tr0])) (h83 : M 83 = .inl (cI, 40, .inl tk0)) (h84 : M 84 = .inl (cI, 40, .inl tt0)) (h30 : M 30 = .inr (7, [.ref (b + 31), .ref (b + 32), .int (nI ts), .int tr])) (h31 : M 31 = .inl (cI, 40, .inl tk)) (h32 : M 32 = .inl (cI, 40, .inl tt)) (ht : ts ≤ 40) : Met l yX7_copyFrom (kw yX7_copyFrom cX7_copyFrom 2 none) ({ frames := 1, cells := 0, slots := 0, locals := 40 }) (va_Pc [.ref (b + 82), .ref (b + 30)] (kPre D (kT cI cJ cZ cH cR) b M n)) (va_Qv (fun (u : (Nat → va_E) × Nat) => u.2 = n ∧ kF [82, 83, 84] M u.1 ∧ u.1 82 = .inr (7, [.ref (b + 83), .ref (b + 84), .int (nI ts), .int (tr)]) ∧ u.1 83 = .inl (cI, 40, .inl (va_cpy tk tk0 0 0 ts)) ∧ u.1 84 = .inl (cI, 40, .inl (va_cpy tt tt0 0 0 ts))) (kB D (kT cI cJ cZ cH cR) b) (kA b)) 0 0 (kA b) := by
  refine k_metV (by decide +kernel) (Nat.le_of_ble_eq_true rfl) ?_
  intro p e s m below meth c ls Q C hw hret hnm hl
  have hl : lv_has ls 2 [(0, .ref (b + 82)), (1, .ref (b + 30))] := hl
  have hFF : kF [82, 83, 84] M M := kF_rf
  refine lv_aload_n C.1 C.2.1 dX7_copyFrom_0 rfl (lv_at hl 1 rfl) ?_
  refine k_get C hw 30 (by omega) h30 rfl inlX7 0 (by decide) q_102 rfl dX7_copyFrom_1 ?_
  refine lv_iconst (v := nI 0) C.1 C.2.1 dX7_copyFrom_4 (by decide) ?_
  refine lv_aload_n C.1 C.2.1 dX7_copyFrom_5 rfl (lv_at hl 0 rfl) ?_
  refine k_get C hw 82 (by omega) h82 rfl inlX7 0 (by decide) q_102 rfl dX7_copyFrom_6 ?_
  refine lv_iconst (v := nI 0) C.1 C.2.1 dX7_copyFrom_9 (by decide) ?_
  refine lv_aload_n C.1 C.2.1 dX7_copyFrom_10 rfl (lv_at hl 1 rfl) ?_
  refine k_get C hw 30 (by omega) h30 rfl inlX7 2 (by decide) q_498 rfl dX7_copyFrom_11 ?_
  refine k_copyi C hw hl.1 q_499 q_276 q_277 q_278 31 83 (by omega) (by omega) h31 h83 (by omega) (by omega) (by decide) (by decide) (Nat.le_of_ble_eq_true rfl) (by decide) dX7_copyFrom_14 (fun M_1 H locs hw h83 hF => ?_)
  have h82 := (hF 82 (by decide)).trans h82
  have h84 := (hF 84 (by decide)).trans h84
  have h30 := (hF 30 (by decide)).trans h30
  have h31 := (hF 31 (by decide)).trans h31
  have h32 := (hF 32 (by decide)).trans h32
  have hFF := kF_st hFF hF (by first | decide | simp)
  refine lv_aload_n C.1 C.2.1 dX7_copyFrom_17 rfl (lv_at hl 1 rfl) ?_
  refine k_get C hw 30 (by omega) h30 rfl inlX7 1 (by decide) q_103 rfl dX7_copyFrom_18 ?_
  refine lv_iconst (v := nI 0) C.1 C.2.1 dX7_copyFrom_21 (by decide) ?_
  refine lv_aload_n C.1 C.2.1 dX7_copyFrom_22 rfl (lv_at hl 0 rfl) ?_
  refine k_get C hw 82 (by omega) h82 rfl inlX7 1 (by decide) q_103 rfl dX7_copyFrom_23 ?_
  refine lv_iconst (v := nI 0) C.1 C.2.1 dX7_copyFrom_26 (by decide) ?_
  refine lv_aload_n C.1 C.2.1 dX7_copyFrom_27 rfl (lv_at hl 1 rfl) ?_
  refine k_get C hw 30 (by omega) h30 rfl inlX7 2 (by decide) q_498 rfl dX7_copyFrom_28 ?_
  refine k_copyi C hw hl.1 q_499 q_276 q_277 q_278 32 84 (by omega) (by omega) h32 h84 (by omega) (by omega) (by decide) (by decide) (Nat.le_of_ble_eq_true rfl) (by decide) dX7_copyFrom_31 (fun M_2 H locs hw h84 hF => ?_)
  have h82 := (hF 82 (by decide)).trans h82
  have h83 := (hF 83 (by decide)).trans h83
  have h30 := (hF 30 (by decide)).trans h30
  have h31 := (hF 31 (by decide)).trans h31
  have h32 := (hF 32 (by decide)).trans h32
  have hFF := kF_st hFF hF (by first | decide | simp)
  refine lv_aload_n C.1 C.2.1 dX7_copyFrom_34 rfl (lv_at hl 0 rfl) ?_
  refine lv_aload_n C.1 C.2.1 dX7_copyFrom_35 rfl (lv_at hl 1 rfl) ?_
  refine k_get C hw 30 (by omega) h30 rfl inlX7 2 (by decide) q_498 rfl dX7_copyFrom_36 ?_
  refine k_put (tf := .int) C hw 82 (by omega) h82 rfl inlX7 tyX7 tyX7_ok nmX7 2 (by decide) q_498 rfl (by decide +kernel) rfl rfl (Nat.le_of_ble_eq_true rfl) dX7_copyFrom_39 (fun M_3 H locs hw h82 hF => ?_)
  have h82 : M_3 82 = .inr (7, [.ref (b + 83), .ref (b + 84), .int (nI ts), .int tr0]) := h82
  have h83 := (hF 83 (by decide)).trans h83
  have h84 := (hF 84 (by decide)).trans h84
  have h30 := (hF 30 (by decide)).trans h30
  have h31 := (hF 31 (by decide)).trans h31
  have h32 := (hF 32 (by decide)).trans h32
  have hFF := kF_st hFF hF (by first | decide | simp)
  refine lv_aload_n C.1 C.2.1 dX7_copyFrom_42 rfl (lv_at hl 0 rfl) ?_
  refine lv_aload_n C.1 C.2.1 dX7_copyFrom_43 rfl (lv_at hl 1 rfl) ?_
  refine k_get C hw 30 (by omega) h30 rfl inlX7 3 (by decide) q_616 rfl dX7_copyFrom_44 ?_
  refine k_put (tf := .int) C hw 82 (by omega) h82 rfl inlX7 tyX7 tyX7_ok nmX7 3 (by decide) q_616 rfl (by decide +kernel) rfl rfl (Nat.le_of_ble_eq_true rfl) dX7_copyFrom_47 (fun M_4 H locs hw h82 hF => ?_)
  have h82 : M_4 82 = .inr (7, [.ref (b + 83), .ref (b + 84), .int (nI ts), .int tr]) := h82
  have h83 := (hF 83 (by decide)).trans h83
  have h84 := (hF 84 (by decide)).trans h84
  have h30 := (hF 30 (by decide)).trans h30
  have h31 := (hF 31 (by decide)).trans h31
  have h32 := (hF 32 (by decide)).trans h32
  have hFF := kF_st hFF hF (by first | decide | simp)
  exact hret _ _ (Nat.le_of_ble_eq_true rfl) (Nat.le_of_ble_eq_true rfl) hw (⟨rfl, hFF, h82, h83, h84⟩) dX7_copyFrom_50

set_option maxHeartbeats 4000000 in
set_option maxRecDepth 100000 in
theorem c_X0_copyFrom_74_22 {l : Launch} {D : va_G} {cI cJ cZ cH cR : ClassId} {b : Nat} {n : Nat} {M : Nat → va_E}  {ct0 : Nat → Int32} {su0 : Nat → Int64} {rs0 : Nat} {ca0 : Nat} {rn0 : Nat → Int32} {rk0 : Nat → Int32} {rv0 : Nat → Int32} {ts0 : Nat} {tr0 : Int32} {tk0 : Nat → Int32} {tt0 : Nat → Int32} {ct : Nat → Int32} {su : Nat → Int64} {rs : Nat} {ca : Nat} {rn : Nat → Int32} {rk : Nat → Int32} {rv : Nat → Int32} {ts : Nat} {tr : Int32} {tk : Nat → Int32} {tt : Nat → Int32}  (hn : 85 ≤ n) (h74 : M 74 = .inr (0, [.ref (b + 75), .ref (b + 78), .ref (b + 82)])) (h75 : M 75 = .inr (6, [.ref (b + 76), .ref (b + 77)])) (h76 : M 76 = .inl (cI, 100, .inl ct0)) (h77 : M 77 = .inl (cJ, 100, .inr (.inl su0))) (h78 : M 78 = .inr (5, [.ref (b + 79), .ref (b + 80), .ref (b + 81), .int (nI rs0), .int (nI ca0)])) (h79 : M 79 = .inl (cI, 400, .inl rn0)) (h80 : M 80 = .inl (cI, 400, .inl rk0)) (h81 : M 81 = .inl (cI, 400, .inl rv0)) (h82 : M 82 = .inr (7, [.ref (b + 83), .ref (b + 84), .int (nI ts0), .int tr0])) (h83 : M 83 = .inl (cI, 40, .inl tk0)) (h84 : M 84 = .inl (cI, 40, .inl tt0)) (h22 : M 22 = .inr (0, [.ref (b + 23), .ref (b + 26), .ref (b + 30)])) (h23 : M 23 = .inr (6, [.ref (b + 24), .ref (b + 25)])) (h24 : M 24 = .inl (cI, 100, .inl ct)) (h25 : M 25 = .inl (cJ, 100, .inr (.inl su))) (h26 : M 26 = .inr (5, [.ref (b + 27), .ref (b + 28), .ref (b + 29), .int (nI rs), .int (nI ca)])) (h27 : M 27 = .inl (cI, 400, .inl rn)) (h28 : M 28 = .inl (cI, 400, .inl rk)) (h29 : M 29 = .inl (cI, 400, .inl rv)) (h30 : M 30 = .inr (7, [.ref (b + 31), .ref (b + 32), .int (nI ts), .int tr])) (h31 : M 31 = .inl (cI, 40, .inl tk)) (h32 : M 32 = .inl (cI, 40, .inl tt)) (hs : rs ≤ 400) (ht : ts ≤ 40) : Met l yX0_copyFrom (kw yX0_copyFrom cX0_copyFrom 2 none) ({ frames := 2, cells := 0, slots := 0, locals := 61 }) (va_Pc [.ref (b + 74), .ref (b + 22)] (kPre D (kT cI cJ cZ cH cR) b M n)) (va_Qv (fun (u : (Nat → va_E) × Nat) => u.2 = n ∧ kF [76, 77, 78, 79, 80, 81, 82, 83, 84] M u.1 ∧ u.1 76 = .inl (cI, 100, .inl ct) ∧ u.1 77 = .inl (cJ, 100, .inr (.inl su)) ∧ u.1 78 = .inr (5, [.ref (b + 79), .ref (b + 80), .ref (b + 81), .int (nI rs), .int (nI ca)]) ∧ u.1 79 = .inl (cI, 400, .inl (va_cpy rn rn0 0 0 rs)) ∧ u.1 80 = .inl (cI, 400, .inl (va_cpy rk rk0 0 0 rs)) ∧ u.1 81 = .inl (cI, 400, .inl (va_cpy rv rv0 0 0 rs)) ∧ u.1 82 = .inr (7, [.ref (b + 83), .ref (b + 84), .int (nI ts), .int (tr)]) ∧ u.1 83 = .inl (cI, 40, .inl (va_cpy tk tk0 0 0 ts)) ∧ u.1 84 = .inl (cI, 40, .inl (va_cpy tt tt0 0 0 ts))) (kB D (kT cI cJ cZ cH cR) b) (kA b)) 0 0 (kA b) := by
  refine k_metV (by decide +kernel) (Nat.le_of_ble_eq_true rfl) ?_
  intro p e s m below meth c ls Q C hw hret hnm hl
  have hl : lv_has ls 2 [(0, .ref (b + 74)), (1, .ref (b + 22))] := hl
  have hFF : kF [76, 77, 78, 79, 80, 81, 82, 83, 84] M M := kF_rf
  refine lv_aload_n C.1 C.2.1 dX0_copyFrom_0 rfl (lv_at hl 0 rfl) ?_
  refine k_get C hw 74 (by omega) h74 rfl inlX0 0 (by decide) q_75 rfl dX0_copyFrom_1 ?_
  refine lv_aload_n C.1 C.2.1 dX0_copyFrom_4 rfl (lv_at hl 1 rfl) ?_
  refine k_get C hw 22 (by omega) h22 rfl inlX0 0 (by decide) q_75 rfl dX0_copyFrom_5 ?_
  refine k_vv C hw 75 (by omega) h75 rfl (c_X6_copyFrom_74_22 (by omega) h75 h76 h77 h23 h24 h25 ) kv_X0_35 rfl hl.1 ⟨Nat.le_of_ble_eq_true rfl, Nat.le_of_ble_eq_true rfl⟩ (Nat.le_of_ble_eq_true rfl) ⟨Nat.le_of_ble_eq_true rfl, Nat.le_of_ble_eq_true rfl⟩ dX0_copyFrom_8 (fun M_1 n9 H locs hp hw => ?_)
  obtain ⟨en9, hF, h76, h77⟩ := hp
  have en9 : n9 = n := en9
  rw [en9] at hw
  have h74 := (hF 74 (by decide)).trans h74
  have h75 := (hF 75 (by decide)).trans h75
  have h78 := (hF 78 (by decide)).trans h78
  have h79 := (hF 79 (by decide)).trans h79
  have h80 := (hF 80 (by decide)).trans h80
  have h81 := (hF 81 (by decide)).trans h81
  have h82 := (hF 82 (by decide)).trans h82
  have h83 := (hF 83 (by decide)).trans h83
  have h84 := (hF 84 (by decide)).trans h84
  have h22 := (hF 22 (by decide)).trans h22
  have h23 := (hF 23 (by decide)).trans h23
  have h24 := (hF 24 (by decide)).trans h24
  have h25 := (hF 25 (by decide)).trans h25
  have h26 := (hF 26 (by decide)).trans h26
  have h27 := (hF 27 (by decide)).trans h27
  have h28 := (hF 28 (by decide)).trans h28
  have h29 := (hF 29 (by decide)).trans h29
  have h30 := (hF 30 (by decide)).trans h30
  have h31 := (hF 31 (by decide)).trans h31
  have h32 := (hF 32 (by decide)).trans h32
  have hFF := kF_st hFF hF (by first | decide | simp)
  refine lv_aload_n C.1 C.2.1 dX0_copyFrom_11 rfl (lv_at hl 0 rfl) ?_
  refine k_get C hw 74 (by omega) h74 rfl inlX0 1 (by decide) q_79 rfl dX0_copyFrom_12 ?_
  refine lv_aload_n C.1 C.2.1 dX0_copyFrom_15 rfl (lv_at hl 1 rfl) ?_
  refine k_get C hw 22 (by omega) h22 rfl inlX0 1 (by decide) q_79 rfl dX0_copyFrom_16 ?_
  refine k_vv C hw 78 (by omega) h78 rfl (c_X5_copyFrom_74_22 (by omega) h78 h79 h80 h81 h26 h27 h28 h29 (by omega)) kv_X0_39 rfl hl.1 ⟨Nat.le_of_ble_eq_true rfl, Nat.le_of_ble_eq_true rfl⟩ (Nat.le_of_ble_eq_true rfl) ⟨Nat.le_of_ble_eq_true rfl, Nat.le_of_ble_eq_true rfl⟩ dX0_copyFrom_19 (fun M_2 n9 H locs hp hw => ?_)
  obtain ⟨en9, hF, h78, h79, h80, h81⟩ := hp
  have en9 : n9 = n := en9
  rw [en9] at hw
  have h74 := (hF 74 (by decide)).trans h74
  have h75 := (hF 75 (by decide)).trans h75
  have h76 := (hF 76 (by decide)).trans h76
  have h77 := (hF 77 (by decide)).trans h77
  have h82 := (hF 82 (by decide)).trans h82
  have h83 := (hF 83 (by decide)).trans h83
  have h84 := (hF 84 (by decide)).trans h84
  have h22 := (hF 22 (by decide)).trans h22
  have h23 := (hF 23 (by decide)).trans h23
  have h24 := (hF 24 (by decide)).trans h24
  have h25 := (hF 25 (by decide)).trans h25
  have h26 := (hF 26 (by decide)).trans h26
  have h27 := (hF 27 (by decide)).trans h27
  have h28 := (hF 28 (by decide)).trans h28
  have h29 := (hF 29 (by decide)).trans h29
  have h30 := (hF 30 (by decide)).trans h30
  have h31 := (hF 31 (by decide)).trans h31
  have h32 := (hF 32 (by decide)).trans h32
  have hFF := kF_st hFF hF (by first | decide | simp)
  refine lv_aload_n C.1 C.2.1 dX0_copyFrom_22 rfl (lv_at hl 0 rfl) ?_
  refine k_get C hw 74 (by omega) h74 rfl inlX0 2 (by decide) q_83 rfl dX0_copyFrom_23 ?_
  refine lv_aload_n C.1 C.2.1 dX0_copyFrom_26 rfl (lv_at hl 1 rfl) ?_
  refine k_get C hw 22 (by omega) h22 rfl inlX0 2 (by decide) q_83 rfl dX0_copyFrom_27 ?_
  refine k_vv C hw 82 (by omega) h82 rfl (c_X7_copyFrom_74_22 (by omega) h82 h83 h84 h30 h31 h32 (by omega)) kv_X0_42 rfl hl.1 ⟨Nat.le_of_ble_eq_true rfl, Nat.le_of_ble_eq_true rfl⟩ (Nat.le_of_ble_eq_true rfl) ⟨Nat.le_of_ble_eq_true rfl, Nat.le_of_ble_eq_true rfl⟩ dX0_copyFrom_30 (fun M_3 n9 H locs hp hw => ?_)
  obtain ⟨en9, hF, h82, h83, h84⟩ := hp
  have en9 : n9 = n := en9
  rw [en9] at hw
  have h74 := (hF 74 (by decide)).trans h74
  have h75 := (hF 75 (by decide)).trans h75
  have h76 := (hF 76 (by decide)).trans h76
  have h77 := (hF 77 (by decide)).trans h77
  have h78 := (hF 78 (by decide)).trans h78
  have h79 := (hF 79 (by decide)).trans h79
  have h80 := (hF 80 (by decide)).trans h80
  have h81 := (hF 81 (by decide)).trans h81
  have h22 := (hF 22 (by decide)).trans h22
  have h23 := (hF 23 (by decide)).trans h23
  have h24 := (hF 24 (by decide)).trans h24
  have h25 := (hF 25 (by decide)).trans h25
  have h26 := (hF 26 (by decide)).trans h26
  have h27 := (hF 27 (by decide)).trans h27
  have h28 := (hF 28 (by decide)).trans h28
  have h29 := (hF 29 (by decide)).trans h29
  have h30 := (hF 30 (by decide)).trans h30
  have h31 := (hF 31 (by decide)).trans h31
  have h32 := (hF 32 (by decide)).trans h32
  have hFF := kF_st hFF hF (by first | decide | simp)
  exact hret _ _ (Nat.le_of_ble_eq_true rfl) (Nat.le_of_ble_eq_true rfl) hw (⟨rfl, hFF, h76, h77, h78, h79, h80, h81, h82, h83, h84⟩) dX0_copyFrom_33

set_option maxHeartbeats 4000000 in
set_option maxRecDepth 100000 in
theorem c_X6_copyFrom_85_22 {l : Launch} {D : va_G} {cI cJ cZ cH cR : ClassId} {b : Nat} {n : Nat} {M : Nat → va_E}  {ct1 : Nat → Int32} {su1 : Nat → Int64} {ct : Nat → Int32} {su : Nat → Int64}  (hn : 89 ≤ n) (h86 : M 86 = .inr (6, [.ref (b + 87), .ref (b + 88)])) (h87 : M 87 = .inl (cI, 100, .inl ct1)) (h88 : M 88 = .inl (cJ, 100, .inr (.inl su1))) (h23 : M 23 = .inr (6, [.ref (b + 24), .ref (b + 25)])) (h24 : M 24 = .inl (cI, 100, .inl ct)) (h25 : M 25 = .inl (cJ, 100, .inr (.inl su)))  : Met l yX6_copyFrom (kw yX6_copyFrom cX6_copyFrom 2 none) ({ frames := 1, cells := 0, slots := 0, locals := 40 }) (va_Pc [.ref (b + 86), .ref (b + 23)] (kPre D (kT cI cJ cZ cH cR) b M n)) (va_Qv (fun (u : (Nat → va_E) × Nat) => u.2 = n ∧ kF [87, 88] M u.1 ∧ u.1 87 = .inl (cI, 100, .inl ct) ∧ u.1 88 = .inl (cJ, 100, .inr (.inl su))) (kB D (kT cI cJ cZ cH cR) b) (kA b)) 0 0 (kA b) := by
  refine k_metV (by decide +kernel) (Nat.le_of_ble_eq_true rfl) ?_
  intro p e s m below meth c ls Q C hw hret hnm hl
  have hl : lv_has ls 2 [(0, .ref (b + 86)), (1, .ref (b + 23))] := hl
  have hFF : kF [87, 88] M M := kF_rf
  refine lv_aload_n C.1 C.2.1 dX6_copyFrom_0 rfl (lv_at hl 1 rfl) ?_
  refine k_get C hw 23 (by omega) h23 rfl inlX6 0 (by decide) q_88 rfl dX6_copyFrom_1 ?_
  refine lv_iconst (v := nI 0) C.1 C.2.1 dX6_copyFrom_4 (by decide) ?_
  refine lv_aload_n C.1 C.2.1 dX6_copyFrom_5 rfl (lv_at hl 0 rfl) ?_
  refine k_get C hw 86 (by omega) h86 rfl inlX6 0 (by decide) q_88 rfl dX6_copyFrom_6 ?_
  refine lv_iconst (v := nI 0) C.1 C.2.1 dX6_copyFrom_9 (by decide) ?_
  refine lv_bipush (v := nI 100) C.1 C.2.1 dX6_copyFrom_10 (by decide) ?_
  refine k_copyi C hw hl.1 q_607 q_276 q_277 q_278 24 87 (by omega) (by omega) h24 h87 (by omega) (by omega) (by decide) (by decide) (Nat.le_of_ble_eq_true rfl) (by decide) dX6_copyFrom_12 (fun M_1 H locs hw h87 hF => ?_)
  have h86 := (hF 86 (by decide)).trans h86
  have h88 := (hF 88 (by decide)).trans h88
  have h23 := (hF 23 (by decide)).trans h23
  have h24 := (hF 24 (by decide)).trans h24
  have h25 := (hF 25 (by decide)).trans h25
  have hFF := kF_st hFF hF (by first | decide | simp)
  refine lv_aload_n C.1 C.2.1 dX6_copyFrom_15 rfl (lv_at hl 1 rfl) ?_
  refine k_get C hw 23 (by omega) h23 rfl inlX6 1 (by decide) q_90 rfl dX6_copyFrom_16 ?_
  refine lv_iconst (v := nI 0) C.1 C.2.1 dX6_copyFrom_19 (by decide) ?_
  refine lv_aload_n C.1 C.2.1 dX6_copyFrom_20 rfl (lv_at hl 0 rfl) ?_
  refine k_get C hw 86 (by omega) h86 rfl inlX6 1 (by decide) q_90 rfl dX6_copyFrom_21 ?_
  refine lv_iconst (v := nI 0) C.1 C.2.1 dX6_copyFrom_24 (by decide) ?_
  refine lv_bipush (v := nI 100) C.1 C.2.1 dX6_copyFrom_25 (by decide) ?_
  refine k_copyl C hw hl.1 q_607 q_276 q_277 q_278 25 88 (by omega) (by omega) h25 h88 (by omega) (by omega) (by decide) (by decide) (Nat.le_of_ble_eq_true rfl) (by decide) dX6_copyFrom_27 (fun M_2 H locs hw h88 hF => ?_)
  have h86 := (hF 86 (by decide)).trans h86
  have h87 := (hF 87 (by decide)).trans h87
  have h23 := (hF 23 (by decide)).trans h23
  have h24 := (hF 24 (by decide)).trans h24
  have h25 := (hF 25 (by decide)).trans h25
  have hFF := kF_st hFF hF (by first | decide | simp)
  obtain ⟨M_3, hw, h87, hF⟩ := k_extI hw 87 (by omega) h87 (ct) (fun j hj => cpy00 hj)
  have h86 := (hF 86 (by decide)).trans h86
  have h88 := (hF 88 (by decide)).trans h88
  have h23 := (hF 23 (by decide)).trans h23
  have h24 := (hF 24 (by decide)).trans h24
  have h25 := (hF 25 (by decide)).trans h25
  have hFF := kF_st hFF hF (by first | decide | simp)
  obtain ⟨M_4, hw, h88, hF⟩ := k_extJ hw 88 (by omega) h88 (su) (fun j hj => cpy00 hj)
  have h86 := (hF 86 (by decide)).trans h86
  have h87 := (hF 87 (by decide)).trans h87
  have h23 := (hF 23 (by decide)).trans h23
  have h24 := (hF 24 (by decide)).trans h24
  have h25 := (hF 25 (by decide)).trans h25
  have hFF := kF_st hFF hF (by first | decide | simp)
  exact hret _ _ (Nat.le_of_ble_eq_true rfl) (Nat.le_of_ble_eq_true rfl) hw (⟨rfl, hFF, h87, h88⟩) dX6_copyFrom_30

set_option maxHeartbeats 4000000 in
set_option maxRecDepth 100000 in
theorem c_X5_copyFrom_85_22 {l : Launch} {D : va_G} {cI cJ cZ cH cR : ClassId} {b : Nat} {n : Nat} {M : Nat → va_E}  {rs1 : Nat} {ca1 : Nat} {rn1 : Nat → Int32} {rk1 : Nat → Int32} {rv1 : Nat → Int32} {rs : Nat} {ca : Nat} {rn : Nat → Int32} {rk : Nat → Int32} {rv : Nat → Int32}  (hn : 93 ≤ n) (h89 : M 89 = .inr (5, [.ref (b + 90), .ref (b + 91), .ref (b + 92), .int (nI rs1), .int (nI ca1)])) (h90 : M 90 = .inl (cI, 400, .inl rn1)) (h91 : M 91 = .inl (cI, 400, .inl rk1)) (h92 : M 92 = .inl (cI, 400, .inl rv1)) (h26 : M 26 = .inr (5, [.ref (b + 27), .ref (b + 28), .ref (b + 29), .int (nI rs), .int (nI ca)])) (h27 : M 27 = .inl (cI, 400, .inl rn)) (h28 : M 28 = .inl (cI, 400, .inl rk)) (h29 : M 29 = .inl (cI, 400, .inl rv)) (hs : rs ≤ 400) : Met l yX5_copyFrom (kw yX5_copyFrom cX5_copyFrom 2 none) ({ frames := 1, cells := 0, slots := 0, locals := 40 }) (va_Pc [.ref (b + 89), .ref (b + 26)] (kPre D (kT cI cJ cZ cH cR) b M n)) (va_Qv (fun (u : (Nat → va_E) × Nat) => u.2 = n ∧ kF [89, 90, 91, 92] M u.1 ∧ u.1 89 = .inr (5, [.ref (b + 90), .ref (b + 91), .ref (b + 92), .int (nI rs), .int (nI ca)]) ∧ u.1 90 = .inl (cI, 400, .inl (va_cpy rn rn1 0 0 rs)) ∧ u.1 91 = .inl (cI, 400, .inl (va_cpy rk rk1 0 0 rs)) ∧ u.1 92 = .inl (cI, 400, .inl (va_cpy rv rv1 0 0 rs))) (kB D (kT cI cJ cZ cH cR) b) (kA b)) 0 0 (kA b) := by
  refine k_metV (by decide +kernel) (Nat.le_of_ble_eq_true rfl) ?_
  intro p e s m below meth c ls Q C hw hret hnm hl
  have hl : lv_has ls 2 [(0, .ref (b + 89)), (1, .ref (b + 26))] := hl
  have hFF : kF [89, 90, 91, 92] M M := kF_rf
  refine lv_aload_n C.1 C.2.1 dX5_copyFrom_0 rfl (lv_at hl 1 rfl) ?_
  refine k_get C hw 26 (by omega) h26 rfl inlX5 0 (by decide) q_95 rfl dX5_copyFrom_1 ?_
  refine lv_iconst (v := nI 0) C.1 C.2.1 dX5_copyFrom_4 (by decide) ?_
  refine lv_aload_n C.1 C.2.1 dX5_copyFrom_5 rfl (lv_at hl 0 rfl) ?_
  refine k_get C hw 89 (by omega) h89 rfl inlX5 0 (by decide) q_95 rfl dX5_copyFrom_6 ?_
  refine lv_iconst (v := nI 0) C.1 C.2.1 dX5_copyFrom_9 (by decide) ?_
  refine lv_aload_n C.1 C.2.1 dX5_copyFrom_10 rfl (lv_at hl 1 rfl) ?_
  refine k_get C hw 26 (by omega) h26 rfl inlX5 3 (by decide) q_239 rfl dX5_copyFrom_11 ?_
  refine k_copyi C hw hl.1 q_275 q_276 q_277 q_278 27 90 (by omega) (by omega) h27 h90 (by omega) (by omega) (by decide) (by decide) (Nat.le_of_ble_eq_true rfl) (by decide) dX5_copyFrom_14 (fun M_1 H locs hw h90 hF => ?_)
  have h89 := (hF 89 (by decide)).trans h89
  have h91 := (hF 91 (by decide)).trans h91
  have h92 := (hF 92 (by decide)).trans h92
  have h26 := (hF 26 (by decide)).trans h26
  have h27 := (hF 27 (by decide)).trans h27
  have h28 := (hF 28 (by decide)).trans h28
  have h29 := (hF 29 (by decide)).trans h29
  have hFF := kF_st hFF hF (by first | decide | simp)
  refine lv_aload_n C.1 C.2.1 dX5_copyFrom_17 rfl (lv_at hl 1 rfl) ?_
  refine k_get C hw 26 (by omega) h26 rfl inlX5 1 (by decide) q_96 rfl dX5_copyFrom_18 ?_
  refine lv_iconst (v := nI 0) C.1 C.2.1 dX5_copyFrom_21 (by decide) ?_
  refine lv_aload_n C.1 C.2.1 dX5_copyFrom_22 rfl (lv_at hl 0 rfl) ?_
  refine k_get C hw 89 (by omega) h89 rfl inlX5 1 (by decide) q_96 rfl dX5_copyFrom_23 ?_
  refine lv_iconst (v := nI 0) C.1 C.2.1 dX5_copyFrom_26 (by decide) ?_
  refine lv_aload_n C.1 C.2.1 dX5_copyFrom_27 rfl (lv_at hl 1 rfl) ?_
  refine k_get C hw 26 (by omega) h26 rfl inlX5 3 (by decide) q_239 rfl dX5_copyFrom_28 ?_
  refine k_copyi C hw hl.1 q_275 q_276 q_277 q_278 28 91 (by omega) (by omega) h28 h91 (by omega) (by omega) (by decide) (by decide) (Nat.le_of_ble_eq_true rfl) (by decide) dX5_copyFrom_31 (fun M_2 H locs hw h91 hF => ?_)
  have h89 := (hF 89 (by decide)).trans h89
  have h90 := (hF 90 (by decide)).trans h90
  have h92 := (hF 92 (by decide)).trans h92
  have h26 := (hF 26 (by decide)).trans h26
  have h27 := (hF 27 (by decide)).trans h27
  have h28 := (hF 28 (by decide)).trans h28
  have h29 := (hF 29 (by decide)).trans h29
  have hFF := kF_st hFF hF (by first | decide | simp)
  refine lv_aload_n C.1 C.2.1 dX5_copyFrom_34 rfl (lv_at hl 1 rfl) ?_
  refine k_get C hw 26 (by omega) h26 rfl inlX5 2 (by decide) q_97 rfl dX5_copyFrom_35 ?_
  refine lv_iconst (v := nI 0) C.1 C.2.1 dX5_copyFrom_38 (by decide) ?_
  refine lv_aload_n C.1 C.2.1 dX5_copyFrom_39 rfl (lv_at hl 0 rfl) ?_
  refine k_get C hw 89 (by omega) h89 rfl inlX5 2 (by decide) q_97 rfl dX5_copyFrom_40 ?_
  refine lv_iconst (v := nI 0) C.1 C.2.1 dX5_copyFrom_43 (by decide) ?_
  refine lv_aload_n C.1 C.2.1 dX5_copyFrom_44 rfl (lv_at hl 1 rfl) ?_
  refine k_get C hw 26 (by omega) h26 rfl inlX5 3 (by decide) q_239 rfl dX5_copyFrom_45 ?_
  refine k_copyi C hw hl.1 q_275 q_276 q_277 q_278 29 92 (by omega) (by omega) h29 h92 (by omega) (by omega) (by decide) (by decide) (Nat.le_of_ble_eq_true rfl) (by decide) dX5_copyFrom_48 (fun M_3 H locs hw h92 hF => ?_)
  have h89 := (hF 89 (by decide)).trans h89
  have h90 := (hF 90 (by decide)).trans h90
  have h91 := (hF 91 (by decide)).trans h91
  have h26 := (hF 26 (by decide)).trans h26
  have h27 := (hF 27 (by decide)).trans h27
  have h28 := (hF 28 (by decide)).trans h28
  have h29 := (hF 29 (by decide)).trans h29
  have hFF := kF_st hFF hF (by first | decide | simp)
  refine lv_aload_n C.1 C.2.1 dX5_copyFrom_51 rfl (lv_at hl 0 rfl) ?_
  refine lv_aload_n C.1 C.2.1 dX5_copyFrom_52 rfl (lv_at hl 1 rfl) ?_
  refine k_get C hw 26 (by omega) h26 rfl inlX5 3 (by decide) q_239 rfl dX5_copyFrom_53 ?_
  refine k_put (tf := .int) C hw 89 (by omega) h89 rfl inlX5 tyX5 tyX5_ok nmX5 3 (by decide) q_239 rfl (by decide +kernel) rfl rfl (Nat.le_of_ble_eq_true rfl) dX5_copyFrom_56 (fun M_4 H locs hw h89 hF => ?_)
  have h89 : M_4 89 = .inr (5, [.ref (b + 90), .ref (b + 91), .ref (b + 92), .int (nI rs), .int (nI ca1)]) := h89
  have h90 := (hF 90 (by decide)).trans h90
  have h91 := (hF 91 (by decide)).trans h91
  have h92 := (hF 92 (by decide)).trans h92
  have h26 := (hF 26 (by decide)).trans h26
  have h27 := (hF 27 (by decide)).trans h27
  have h28 := (hF 28 (by decide)).trans h28
  have h29 := (hF 29 (by decide)).trans h29
  have hFF := kF_st hFF hF (by first | decide | simp)
  refine lv_aload_n C.1 C.2.1 dX5_copyFrom_59 rfl (lv_at hl 0 rfl) ?_
  refine lv_aload_n C.1 C.2.1 dX5_copyFrom_60 rfl (lv_at hl 1 rfl) ?_
  refine k_get C hw 26 (by omega) h26 rfl inlX5 4 (by decide) q_240 rfl dX5_copyFrom_61 ?_
  refine k_put (tf := .int) C hw 89 (by omega) h89 rfl inlX5 tyX5 tyX5_ok nmX5 4 (by decide) q_240 rfl (by decide +kernel) rfl rfl (Nat.le_of_ble_eq_true rfl) dX5_copyFrom_64 (fun M_5 H locs hw h89 hF => ?_)
  have h89 : M_5 89 = .inr (5, [.ref (b + 90), .ref (b + 91), .ref (b + 92), .int (nI rs), .int (nI ca)]) := h89
  have h90 := (hF 90 (by decide)).trans h90
  have h91 := (hF 91 (by decide)).trans h91
  have h92 := (hF 92 (by decide)).trans h92
  have h26 := (hF 26 (by decide)).trans h26
  have h27 := (hF 27 (by decide)).trans h27
  have h28 := (hF 28 (by decide)).trans h28
  have h29 := (hF 29 (by decide)).trans h29
  have hFF := kF_st hFF hF (by first | decide | simp)
  exact hret _ _ (Nat.le_of_ble_eq_true rfl) (Nat.le_of_ble_eq_true rfl) hw (⟨rfl, hFF, h89, h90, h91, h92⟩) dX5_copyFrom_67

set_option maxHeartbeats 4000000 in
set_option maxRecDepth 100000 in
theorem c_X7_copyFrom_85_22 {l : Launch} {D : va_G} {cI cJ cZ cH cR : ClassId} {b : Nat} {n : Nat} {M : Nat → va_E}  {ts1 : Nat} {tr1 : Int32} {tk1 : Nat → Int32} {tt1 : Nat → Int32} {ts : Nat} {tr : Int32} {tk : Nat → Int32} {tt : Nat → Int32}  (hn : 96 ≤ n) (h93 : M 93 = .inr (7, [.ref (b + 94), .ref (b + 95), .int (nI ts1), .int tr1])) (h94 : M 94 = .inl (cI, 40, .inl tk1)) (h95 : M 95 = .inl (cI, 40, .inl tt1)) (h30 : M 30 = .inr (7, [.ref (b + 31), .ref (b + 32), .int (nI ts), .int tr])) (h31 : M 31 = .inl (cI, 40, .inl tk)) (h32 : M 32 = .inl (cI, 40, .inl tt)) (ht : ts ≤ 40) : Met l yX7_copyFrom (kw yX7_copyFrom cX7_copyFrom 2 none) ({ frames := 1, cells := 0, slots := 0, locals := 40 }) (va_Pc [.ref (b + 93), .ref (b + 30)] (kPre D (kT cI cJ cZ cH cR) b M n)) (va_Qv (fun (u : (Nat → va_E) × Nat) => u.2 = n ∧ kF [93, 94, 95] M u.1 ∧ u.1 93 = .inr (7, [.ref (b + 94), .ref (b + 95), .int (nI ts), .int (tr)]) ∧ u.1 94 = .inl (cI, 40, .inl (va_cpy tk tk1 0 0 ts)) ∧ u.1 95 = .inl (cI, 40, .inl (va_cpy tt tt1 0 0 ts))) (kB D (kT cI cJ cZ cH cR) b) (kA b)) 0 0 (kA b) := by
  refine k_metV (by decide +kernel) (Nat.le_of_ble_eq_true rfl) ?_
  intro p e s m below meth c ls Q C hw hret hnm hl
  have hl : lv_has ls 2 [(0, .ref (b + 93)), (1, .ref (b + 30))] := hl
  have hFF : kF [93, 94, 95] M M := kF_rf
  refine lv_aload_n C.1 C.2.1 dX7_copyFrom_0 rfl (lv_at hl 1 rfl) ?_
  refine k_get C hw 30 (by omega) h30 rfl inlX7 0 (by decide) q_102 rfl dX7_copyFrom_1 ?_
  refine lv_iconst (v := nI 0) C.1 C.2.1 dX7_copyFrom_4 (by decide) ?_
  refine lv_aload_n C.1 C.2.1 dX7_copyFrom_5 rfl (lv_at hl 0 rfl) ?_
  refine k_get C hw 93 (by omega) h93 rfl inlX7 0 (by decide) q_102 rfl dX7_copyFrom_6 ?_
  refine lv_iconst (v := nI 0) C.1 C.2.1 dX7_copyFrom_9 (by decide) ?_
  refine lv_aload_n C.1 C.2.1 dX7_copyFrom_10 rfl (lv_at hl 1 rfl) ?_
  refine k_get C hw 30 (by omega) h30 rfl inlX7 2 (by decide) q_498 rfl dX7_copyFrom_11 ?_
  refine k_copyi C hw hl.1 q_499 q_276 q_277 q_278 31 94 (by omega) (by omega) h31 h94 (by omega) (by omega) (by decide) (by decide) (Nat.le_of_ble_eq_true rfl) (by decide) dX7_copyFrom_14 (fun M_1 H locs hw h94 hF => ?_)
  have h93 := (hF 93 (by decide)).trans h93
  have h95 := (hF 95 (by decide)).trans h95
  have h30 := (hF 30 (by decide)).trans h30
  have h31 := (hF 31 (by decide)).trans h31
  have h32 := (hF 32 (by decide)).trans h32
  have hFF := kF_st hFF hF (by first | decide | simp)
  refine lv_aload_n C.1 C.2.1 dX7_copyFrom_17 rfl (lv_at hl 1 rfl) ?_
  refine k_get C hw 30 (by omega) h30 rfl inlX7 1 (by decide) q_103 rfl dX7_copyFrom_18 ?_
  refine lv_iconst (v := nI 0) C.1 C.2.1 dX7_copyFrom_21 (by decide) ?_
  refine lv_aload_n C.1 C.2.1 dX7_copyFrom_22 rfl (lv_at hl 0 rfl) ?_
  refine k_get C hw 93 (by omega) h93 rfl inlX7 1 (by decide) q_103 rfl dX7_copyFrom_23 ?_
  refine lv_iconst (v := nI 0) C.1 C.2.1 dX7_copyFrom_26 (by decide) ?_
  refine lv_aload_n C.1 C.2.1 dX7_copyFrom_27 rfl (lv_at hl 1 rfl) ?_
  refine k_get C hw 30 (by omega) h30 rfl inlX7 2 (by decide) q_498 rfl dX7_copyFrom_28 ?_
  refine k_copyi C hw hl.1 q_499 q_276 q_277 q_278 32 95 (by omega) (by omega) h32 h95 (by omega) (by omega) (by decide) (by decide) (Nat.le_of_ble_eq_true rfl) (by decide) dX7_copyFrom_31 (fun M_2 H locs hw h95 hF => ?_)
  have h93 := (hF 93 (by decide)).trans h93
  have h94 := (hF 94 (by decide)).trans h94
  have h30 := (hF 30 (by decide)).trans h30
  have h31 := (hF 31 (by decide)).trans h31
  have h32 := (hF 32 (by decide)).trans h32
  have hFF := kF_st hFF hF (by first | decide | simp)
  refine lv_aload_n C.1 C.2.1 dX7_copyFrom_34 rfl (lv_at hl 0 rfl) ?_
  refine lv_aload_n C.1 C.2.1 dX7_copyFrom_35 rfl (lv_at hl 1 rfl) ?_
  refine k_get C hw 30 (by omega) h30 rfl inlX7 2 (by decide) q_498 rfl dX7_copyFrom_36 ?_
  refine k_put (tf := .int) C hw 93 (by omega) h93 rfl inlX7 tyX7 tyX7_ok nmX7 2 (by decide) q_498 rfl (by decide +kernel) rfl rfl (Nat.le_of_ble_eq_true rfl) dX7_copyFrom_39 (fun M_3 H locs hw h93 hF => ?_)
  have h93 : M_3 93 = .inr (7, [.ref (b + 94), .ref (b + 95), .int (nI ts), .int tr1]) := h93
  have h94 := (hF 94 (by decide)).trans h94
  have h95 := (hF 95 (by decide)).trans h95
  have h30 := (hF 30 (by decide)).trans h30
  have h31 := (hF 31 (by decide)).trans h31
  have h32 := (hF 32 (by decide)).trans h32
  have hFF := kF_st hFF hF (by first | decide | simp)
  refine lv_aload_n C.1 C.2.1 dX7_copyFrom_42 rfl (lv_at hl 0 rfl) ?_
  refine lv_aload_n C.1 C.2.1 dX7_copyFrom_43 rfl (lv_at hl 1 rfl) ?_
  refine k_get C hw 30 (by omega) h30 rfl inlX7 3 (by decide) q_616 rfl dX7_copyFrom_44 ?_
  refine k_put (tf := .int) C hw 93 (by omega) h93 rfl inlX7 tyX7 tyX7_ok nmX7 3 (by decide) q_616 rfl (by decide +kernel) rfl rfl (Nat.le_of_ble_eq_true rfl) dX7_copyFrom_47 (fun M_4 H locs hw h93 hF => ?_)
  have h93 : M_4 93 = .inr (7, [.ref (b + 94), .ref (b + 95), .int (nI ts), .int tr]) := h93
  have h94 := (hF 94 (by decide)).trans h94
  have h95 := (hF 95 (by decide)).trans h95
  have h30 := (hF 30 (by decide)).trans h30
  have h31 := (hF 31 (by decide)).trans h31
  have h32 := (hF 32 (by decide)).trans h32
  have hFF := kF_st hFF hF (by first | decide | simp)
  exact hret _ _ (Nat.le_of_ble_eq_true rfl) (Nat.le_of_ble_eq_true rfl) hw (⟨rfl, hFF, h93, h94, h95⟩) dX7_copyFrom_50

set_option maxHeartbeats 4000000 in
set_option maxRecDepth 100000 in
theorem c_X0_copyFrom_85_22 {l : Launch} {D : va_G} {cI cJ cZ cH cR : ClassId} {b : Nat} {n : Nat} {M : Nat → va_E}  {ct1 : Nat → Int32} {su1 : Nat → Int64} {rs1 : Nat} {ca1 : Nat} {rn1 : Nat → Int32} {rk1 : Nat → Int32} {rv1 : Nat → Int32} {ts1 : Nat} {tr1 : Int32} {tk1 : Nat → Int32} {tt1 : Nat → Int32} {ct : Nat → Int32} {su : Nat → Int64} {rs : Nat} {ca : Nat} {rn : Nat → Int32} {rk : Nat → Int32} {rv : Nat → Int32} {ts : Nat} {tr : Int32} {tk : Nat → Int32} {tt : Nat → Int32}  (hn : 96 ≤ n) (h85 : M 85 = .inr (0, [.ref (b + 86), .ref (b + 89), .ref (b + 93)])) (h86 : M 86 = .inr (6, [.ref (b + 87), .ref (b + 88)])) (h87 : M 87 = .inl (cI, 100, .inl ct1)) (h88 : M 88 = .inl (cJ, 100, .inr (.inl su1))) (h89 : M 89 = .inr (5, [.ref (b + 90), .ref (b + 91), .ref (b + 92), .int (nI rs1), .int (nI ca1)])) (h90 : M 90 = .inl (cI, 400, .inl rn1)) (h91 : M 91 = .inl (cI, 400, .inl rk1)) (h92 : M 92 = .inl (cI, 400, .inl rv1)) (h93 : M 93 = .inr (7, [.ref (b + 94), .ref (b + 95), .int (nI ts1), .int tr1])) (h94 : M 94 = .inl (cI, 40, .inl tk1)) (h95 : M 95 = .inl (cI, 40, .inl tt1)) (h22 : M 22 = .inr (0, [.ref (b + 23), .ref (b + 26), .ref (b + 30)])) (h23 : M 23 = .inr (6, [.ref (b + 24), .ref (b + 25)])) (h24 : M 24 = .inl (cI, 100, .inl ct)) (h25 : M 25 = .inl (cJ, 100, .inr (.inl su))) (h26 : M 26 = .inr (5, [.ref (b + 27), .ref (b + 28), .ref (b + 29), .int (nI rs), .int (nI ca)])) (h27 : M 27 = .inl (cI, 400, .inl rn)) (h28 : M 28 = .inl (cI, 400, .inl rk)) (h29 : M 29 = .inl (cI, 400, .inl rv)) (h30 : M 30 = .inr (7, [.ref (b + 31), .ref (b + 32), .int (nI ts), .int tr])) (h31 : M 31 = .inl (cI, 40, .inl tk)) (h32 : M 32 = .inl (cI, 40, .inl tt)) (hs : rs ≤ 400) (ht : ts ≤ 40) : Met l yX0_copyFrom (kw yX0_copyFrom cX0_copyFrom 2 none) ({ frames := 2, cells := 0, slots := 0, locals := 61 }) (va_Pc [.ref (b + 85), .ref (b + 22)] (kPre D (kT cI cJ cZ cH cR) b M n)) (va_Qv (fun (u : (Nat → va_E) × Nat) => u.2 = n ∧ kF [87, 88, 89, 90, 91, 92, 93, 94, 95] M u.1 ∧ u.1 87 = .inl (cI, 100, .inl ct) ∧ u.1 88 = .inl (cJ, 100, .inr (.inl su)) ∧ u.1 89 = .inr (5, [.ref (b + 90), .ref (b + 91), .ref (b + 92), .int (nI rs), .int (nI ca)]) ∧ u.1 90 = .inl (cI, 400, .inl (va_cpy rn rn1 0 0 rs)) ∧ u.1 91 = .inl (cI, 400, .inl (va_cpy rk rk1 0 0 rs)) ∧ u.1 92 = .inl (cI, 400, .inl (va_cpy rv rv1 0 0 rs)) ∧ u.1 93 = .inr (7, [.ref (b + 94), .ref (b + 95), .int (nI ts), .int (tr)]) ∧ u.1 94 = .inl (cI, 40, .inl (va_cpy tk tk1 0 0 ts)) ∧ u.1 95 = .inl (cI, 40, .inl (va_cpy tt tt1 0 0 ts))) (kB D (kT cI cJ cZ cH cR) b) (kA b)) 0 0 (kA b) := by
  refine k_metV (by decide +kernel) (Nat.le_of_ble_eq_true rfl) ?_
  intro p e s m below meth c ls Q C hw hret hnm hl
  have hl : lv_has ls 2 [(0, .ref (b + 85)), (1, .ref (b + 22))] := hl
  have hFF : kF [87, 88, 89, 90, 91, 92, 93, 94, 95] M M := kF_rf
  refine lv_aload_n C.1 C.2.1 dX0_copyFrom_0 rfl (lv_at hl 0 rfl) ?_
  refine k_get C hw 85 (by omega) h85 rfl inlX0 0 (by decide) q_75 rfl dX0_copyFrom_1 ?_
  refine lv_aload_n C.1 C.2.1 dX0_copyFrom_4 rfl (lv_at hl 1 rfl) ?_
  refine k_get C hw 22 (by omega) h22 rfl inlX0 0 (by decide) q_75 rfl dX0_copyFrom_5 ?_
  refine k_vv C hw 86 (by omega) h86 rfl (c_X6_copyFrom_85_22 (by omega) h86 h87 h88 h23 h24 h25 ) kv_X0_35 rfl hl.1 ⟨Nat.le_of_ble_eq_true rfl, Nat.le_of_ble_eq_true rfl⟩ (Nat.le_of_ble_eq_true rfl) ⟨Nat.le_of_ble_eq_true rfl, Nat.le_of_ble_eq_true rfl⟩ dX0_copyFrom_8 (fun M_1 n9 H locs hp hw => ?_)
  obtain ⟨en9, hF, h87, h88⟩ := hp
  have en9 : n9 = n := en9
  rw [en9] at hw
  have h85 := (hF 85 (by decide)).trans h85
  have h86 := (hF 86 (by decide)).trans h86
  have h89 := (hF 89 (by decide)).trans h89
  have h90 := (hF 90 (by decide)).trans h90
  have h91 := (hF 91 (by decide)).trans h91
  have h92 := (hF 92 (by decide)).trans h92
  have h93 := (hF 93 (by decide)).trans h93
  have h94 := (hF 94 (by decide)).trans h94
  have h95 := (hF 95 (by decide)).trans h95
  have h22 := (hF 22 (by decide)).trans h22
  have h23 := (hF 23 (by decide)).trans h23
  have h24 := (hF 24 (by decide)).trans h24
  have h25 := (hF 25 (by decide)).trans h25
  have h26 := (hF 26 (by decide)).trans h26
  have h27 := (hF 27 (by decide)).trans h27
  have h28 := (hF 28 (by decide)).trans h28
  have h29 := (hF 29 (by decide)).trans h29
  have h30 := (hF 30 (by decide)).trans h30
  have h31 := (hF 31 (by decide)).trans h31
  have h32 := (hF 32 (by decide)).trans h32
  have hFF := kF_st hFF hF (by first | decide | simp)
  refine lv_aload_n C.1 C.2.1 dX0_copyFrom_11 rfl (lv_at hl 0 rfl) ?_
  refine k_get C hw 85 (by omega) h85 rfl inlX0 1 (by decide) q_79 rfl dX0_copyFrom_12 ?_
  refine lv_aload_n C.1 C.2.1 dX0_copyFrom_15 rfl (lv_at hl 1 rfl) ?_
  refine k_get C hw 22 (by omega) h22 rfl inlX0 1 (by decide) q_79 rfl dX0_copyFrom_16 ?_
  refine k_vv C hw 89 (by omega) h89 rfl (c_X5_copyFrom_85_22 (by omega) h89 h90 h91 h92 h26 h27 h28 h29 (by omega)) kv_X0_39 rfl hl.1 ⟨Nat.le_of_ble_eq_true rfl, Nat.le_of_ble_eq_true rfl⟩ (Nat.le_of_ble_eq_true rfl) ⟨Nat.le_of_ble_eq_true rfl, Nat.le_of_ble_eq_true rfl⟩ dX0_copyFrom_19 (fun M_2 n9 H locs hp hw => ?_)
  obtain ⟨en9, hF, h89, h90, h91, h92⟩ := hp
  have en9 : n9 = n := en9
  rw [en9] at hw
  have h85 := (hF 85 (by decide)).trans h85
  have h86 := (hF 86 (by decide)).trans h86
  have h87 := (hF 87 (by decide)).trans h87
  have h88 := (hF 88 (by decide)).trans h88
  have h93 := (hF 93 (by decide)).trans h93
  have h94 := (hF 94 (by decide)).trans h94
  have h95 := (hF 95 (by decide)).trans h95
  have h22 := (hF 22 (by decide)).trans h22
  have h23 := (hF 23 (by decide)).trans h23
  have h24 := (hF 24 (by decide)).trans h24
  have h25 := (hF 25 (by decide)).trans h25
  have h26 := (hF 26 (by decide)).trans h26
  have h27 := (hF 27 (by decide)).trans h27
  have h28 := (hF 28 (by decide)).trans h28
  have h29 := (hF 29 (by decide)).trans h29
  have h30 := (hF 30 (by decide)).trans h30
  have h31 := (hF 31 (by decide)).trans h31
  have h32 := (hF 32 (by decide)).trans h32
  have hFF := kF_st hFF hF (by first | decide | simp)
  refine lv_aload_n C.1 C.2.1 dX0_copyFrom_22 rfl (lv_at hl 0 rfl) ?_
  refine k_get C hw 85 (by omega) h85 rfl inlX0 2 (by decide) q_83 rfl dX0_copyFrom_23 ?_
  refine lv_aload_n C.1 C.2.1 dX0_copyFrom_26 rfl (lv_at hl 1 rfl) ?_
  refine k_get C hw 22 (by omega) h22 rfl inlX0 2 (by decide) q_83 rfl dX0_copyFrom_27 ?_
  refine k_vv C hw 93 (by omega) h93 rfl (c_X7_copyFrom_85_22 (by omega) h93 h94 h95 h30 h31 h32 (by omega)) kv_X0_42 rfl hl.1 ⟨Nat.le_of_ble_eq_true rfl, Nat.le_of_ble_eq_true rfl⟩ (Nat.le_of_ble_eq_true rfl) ⟨Nat.le_of_ble_eq_true rfl, Nat.le_of_ble_eq_true rfl⟩ dX0_copyFrom_30 (fun M_3 n9 H locs hp hw => ?_)
  obtain ⟨en9, hF, h93, h94, h95⟩ := hp
  have en9 : n9 = n := en9
  rw [en9] at hw
  have h85 := (hF 85 (by decide)).trans h85
  have h86 := (hF 86 (by decide)).trans h86
  have h87 := (hF 87 (by decide)).trans h87
  have h88 := (hF 88 (by decide)).trans h88
  have h89 := (hF 89 (by decide)).trans h89
  have h90 := (hF 90 (by decide)).trans h90
  have h91 := (hF 91 (by decide)).trans h91
  have h92 := (hF 92 (by decide)).trans h92
  have h22 := (hF 22 (by decide)).trans h22
  have h23 := (hF 23 (by decide)).trans h23
  have h24 := (hF 24 (by decide)).trans h24
  have h25 := (hF 25 (by decide)).trans h25
  have h26 := (hF 26 (by decide)).trans h26
  have h27 := (hF 27 (by decide)).trans h27
  have h28 := (hF 28 (by decide)).trans h28
  have h29 := (hF 29 (by decide)).trans h29
  have h30 := (hF 30 (by decide)).trans h30
  have h31 := (hF 31 (by decide)).trans h31
  have h32 := (hF 32 (by decide)).trans h32
  have hFF := kF_st hFF hF (by first | decide | simp)
  exact hret _ _ (Nat.le_of_ble_eq_true rfl) (Nat.le_of_ble_eq_true rfl) hw (⟨rfl, hFF, h87, h88, h89, h90, h91, h92, h93, h94, h95⟩) dX0_copyFrom_33

set_option maxHeartbeats 4000000 in
set_option maxRecDepth 100000 in
theorem c_X6_copyFrom_96_22 {l : Launch} {D : va_G} {cI cJ cZ cH cR : ClassId} {b : Nat} {n : Nat} {M : Nat → va_E}  {ct2 : Nat → Int32} {su2 : Nat → Int64} {ct : Nat → Int32} {su : Nat → Int64}  (hn : 100 ≤ n) (h97 : M 97 = .inr (6, [.ref (b + 98), .ref (b + 99)])) (h98 : M 98 = .inl (cI, 100, .inl ct2)) (h99 : M 99 = .inl (cJ, 100, .inr (.inl su2))) (h23 : M 23 = .inr (6, [.ref (b + 24), .ref (b + 25)])) (h24 : M 24 = .inl (cI, 100, .inl ct)) (h25 : M 25 = .inl (cJ, 100, .inr (.inl su)))  : Met l yX6_copyFrom (kw yX6_copyFrom cX6_copyFrom 2 none) ({ frames := 1, cells := 0, slots := 0, locals := 40 }) (va_Pc [.ref (b + 97), .ref (b + 23)] (kPre D (kT cI cJ cZ cH cR) b M n)) (va_Qv (fun (u : (Nat → va_E) × Nat) => u.2 = n ∧ kF [98, 99] M u.1 ∧ u.1 98 = .inl (cI, 100, .inl ct) ∧ u.1 99 = .inl (cJ, 100, .inr (.inl su))) (kB D (kT cI cJ cZ cH cR) b) (kA b)) 0 0 (kA b) := by
  refine k_metV (by decide +kernel) (Nat.le_of_ble_eq_true rfl) ?_
  intro p e s m below meth c ls Q C hw hret hnm hl
  have hl : lv_has ls 2 [(0, .ref (b + 97)), (1, .ref (b + 23))] := hl
  have hFF : kF [98, 99] M M := kF_rf
  refine lv_aload_n C.1 C.2.1 dX6_copyFrom_0 rfl (lv_at hl 1 rfl) ?_
  refine k_get C hw 23 (by omega) h23 rfl inlX6 0 (by decide) q_88 rfl dX6_copyFrom_1 ?_
  refine lv_iconst (v := nI 0) C.1 C.2.1 dX6_copyFrom_4 (by decide) ?_
  refine lv_aload_n C.1 C.2.1 dX6_copyFrom_5 rfl (lv_at hl 0 rfl) ?_
  refine k_get C hw 97 (by omega) h97 rfl inlX6 0 (by decide) q_88 rfl dX6_copyFrom_6 ?_
  refine lv_iconst (v := nI 0) C.1 C.2.1 dX6_copyFrom_9 (by decide) ?_
  refine lv_bipush (v := nI 100) C.1 C.2.1 dX6_copyFrom_10 (by decide) ?_
  refine k_copyi C hw hl.1 q_607 q_276 q_277 q_278 24 98 (by omega) (by omega) h24 h98 (by omega) (by omega) (by decide) (by decide) (Nat.le_of_ble_eq_true rfl) (by decide) dX6_copyFrom_12 (fun M_1 H locs hw h98 hF => ?_)
  have h97 := (hF 97 (by decide)).trans h97
  have h99 := (hF 99 (by decide)).trans h99
  have h23 := (hF 23 (by decide)).trans h23
  have h24 := (hF 24 (by decide)).trans h24
  have h25 := (hF 25 (by decide)).trans h25
  have hFF := kF_st hFF hF (by first | decide | simp)
  refine lv_aload_n C.1 C.2.1 dX6_copyFrom_15 rfl (lv_at hl 1 rfl) ?_
  refine k_get C hw 23 (by omega) h23 rfl inlX6 1 (by decide) q_90 rfl dX6_copyFrom_16 ?_
  refine lv_iconst (v := nI 0) C.1 C.2.1 dX6_copyFrom_19 (by decide) ?_
  refine lv_aload_n C.1 C.2.1 dX6_copyFrom_20 rfl (lv_at hl 0 rfl) ?_
  refine k_get C hw 97 (by omega) h97 rfl inlX6 1 (by decide) q_90 rfl dX6_copyFrom_21 ?_
  refine lv_iconst (v := nI 0) C.1 C.2.1 dX6_copyFrom_24 (by decide) ?_
  refine lv_bipush (v := nI 100) C.1 C.2.1 dX6_copyFrom_25 (by decide) ?_
  refine k_copyl C hw hl.1 q_607 q_276 q_277 q_278 25 99 (by omega) (by omega) h25 h99 (by omega) (by omega) (by decide) (by decide) (Nat.le_of_ble_eq_true rfl) (by decide) dX6_copyFrom_27 (fun M_2 H locs hw h99 hF => ?_)
  have h97 := (hF 97 (by decide)).trans h97
  have h98 := (hF 98 (by decide)).trans h98
  have h23 := (hF 23 (by decide)).trans h23
  have h24 := (hF 24 (by decide)).trans h24
  have h25 := (hF 25 (by decide)).trans h25
  have hFF := kF_st hFF hF (by first | decide | simp)
  obtain ⟨M_3, hw, h98, hF⟩ := k_extI hw 98 (by omega) h98 (ct) (fun j hj => cpy00 hj)
  have h97 := (hF 97 (by decide)).trans h97
  have h99 := (hF 99 (by decide)).trans h99
  have h23 := (hF 23 (by decide)).trans h23
  have h24 := (hF 24 (by decide)).trans h24
  have h25 := (hF 25 (by decide)).trans h25
  have hFF := kF_st hFF hF (by first | decide | simp)
  obtain ⟨M_4, hw, h99, hF⟩ := k_extJ hw 99 (by omega) h99 (su) (fun j hj => cpy00 hj)
  have h97 := (hF 97 (by decide)).trans h97
  have h98 := (hF 98 (by decide)).trans h98
  have h23 := (hF 23 (by decide)).trans h23
  have h24 := (hF 24 (by decide)).trans h24
  have h25 := (hF 25 (by decide)).trans h25
  have hFF := kF_st hFF hF (by first | decide | simp)
  exact hret _ _ (Nat.le_of_ble_eq_true rfl) (Nat.le_of_ble_eq_true rfl) hw (⟨rfl, hFF, h98, h99⟩) dX6_copyFrom_30

set_option maxHeartbeats 4000000 in
set_option maxRecDepth 100000 in
theorem c_X5_copyFrom_96_22 {l : Launch} {D : va_G} {cI cJ cZ cH cR : ClassId} {b : Nat} {n : Nat} {M : Nat → va_E}  {rs2 : Nat} {ca2 : Nat} {rn2 : Nat → Int32} {rk2 : Nat → Int32} {rv2 : Nat → Int32} {rs : Nat} {ca : Nat} {rn : Nat → Int32} {rk : Nat → Int32} {rv : Nat → Int32}  (hn : 104 ≤ n) (h100 : M 100 = .inr (5, [.ref (b + 101), .ref (b + 102), .ref (b + 103), .int (nI rs2), .int (nI ca2)])) (h101 : M 101 = .inl (cI, 400, .inl rn2)) (h102 : M 102 = .inl (cI, 400, .inl rk2)) (h103 : M 103 = .inl (cI, 400, .inl rv2)) (h26 : M 26 = .inr (5, [.ref (b + 27), .ref (b + 28), .ref (b + 29), .int (nI rs), .int (nI ca)])) (h27 : M 27 = .inl (cI, 400, .inl rn)) (h28 : M 28 = .inl (cI, 400, .inl rk)) (h29 : M 29 = .inl (cI, 400, .inl rv)) (hs : rs ≤ 400) : Met l yX5_copyFrom (kw yX5_copyFrom cX5_copyFrom 2 none) ({ frames := 1, cells := 0, slots := 0, locals := 40 }) (va_Pc [.ref (b + 100), .ref (b + 26)] (kPre D (kT cI cJ cZ cH cR) b M n)) (va_Qv (fun (u : (Nat → va_E) × Nat) => u.2 = n ∧ kF [100, 101, 102, 103] M u.1 ∧ u.1 100 = .inr (5, [.ref (b + 101), .ref (b + 102), .ref (b + 103), .int (nI rs), .int (nI ca)]) ∧ u.1 101 = .inl (cI, 400, .inl (va_cpy rn rn2 0 0 rs)) ∧ u.1 102 = .inl (cI, 400, .inl (va_cpy rk rk2 0 0 rs)) ∧ u.1 103 = .inl (cI, 400, .inl (va_cpy rv rv2 0 0 rs))) (kB D (kT cI cJ cZ cH cR) b) (kA b)) 0 0 (kA b) := by
  refine k_metV (by decide +kernel) (Nat.le_of_ble_eq_true rfl) ?_
  intro p e s m below meth c ls Q C hw hret hnm hl
  have hl : lv_has ls 2 [(0, .ref (b + 100)), (1, .ref (b + 26))] := hl
  have hFF : kF [100, 101, 102, 103] M M := kF_rf
  refine lv_aload_n C.1 C.2.1 dX5_copyFrom_0 rfl (lv_at hl 1 rfl) ?_
  refine k_get C hw 26 (by omega) h26 rfl inlX5 0 (by decide) q_95 rfl dX5_copyFrom_1 ?_
  refine lv_iconst (v := nI 0) C.1 C.2.1 dX5_copyFrom_4 (by decide) ?_
  refine lv_aload_n C.1 C.2.1 dX5_copyFrom_5 rfl (lv_at hl 0 rfl) ?_
  refine k_get C hw 100 (by omega) h100 rfl inlX5 0 (by decide) q_95 rfl dX5_copyFrom_6 ?_
  refine lv_iconst (v := nI 0) C.1 C.2.1 dX5_copyFrom_9 (by decide) ?_
  refine lv_aload_n C.1 C.2.1 dX5_copyFrom_10 rfl (lv_at hl 1 rfl) ?_
  refine k_get C hw 26 (by omega) h26 rfl inlX5 3 (by decide) q_239 rfl dX5_copyFrom_11 ?_
  refine k_copyi C hw hl.1 q_275 q_276 q_277 q_278 27 101 (by omega) (by omega) h27 h101 (by omega) (by omega) (by decide) (by decide) (Nat.le_of_ble_eq_true rfl) (by decide) dX5_copyFrom_14 (fun M_1 H locs hw h101 hF => ?_)
  have h100 := (hF 100 (by decide)).trans h100
  have h102 := (hF 102 (by decide)).trans h102
  have h103 := (hF 103 (by decide)).trans h103
  have h26 := (hF 26 (by decide)).trans h26
  have h27 := (hF 27 (by decide)).trans h27
  have h28 := (hF 28 (by decide)).trans h28
  have h29 := (hF 29 (by decide)).trans h29
  have hFF := kF_st hFF hF (by first | decide | simp)
  refine lv_aload_n C.1 C.2.1 dX5_copyFrom_17 rfl (lv_at hl 1 rfl) ?_
  refine k_get C hw 26 (by omega) h26 rfl inlX5 1 (by decide) q_96 rfl dX5_copyFrom_18 ?_
  refine lv_iconst (v := nI 0) C.1 C.2.1 dX5_copyFrom_21 (by decide) ?_
  refine lv_aload_n C.1 C.2.1 dX5_copyFrom_22 rfl (lv_at hl 0 rfl) ?_
  refine k_get C hw 100 (by omega) h100 rfl inlX5 1 (by decide) q_96 rfl dX5_copyFrom_23 ?_
  refine lv_iconst (v := nI 0) C.1 C.2.1 dX5_copyFrom_26 (by decide) ?_
  refine lv_aload_n C.1 C.2.1 dX5_copyFrom_27 rfl (lv_at hl 1 rfl) ?_
  refine k_get C hw 26 (by omega) h26 rfl inlX5 3 (by decide) q_239 rfl dX5_copyFrom_28 ?_
  refine k_copyi C hw hl.1 q_275 q_276 q_277 q_278 28 102 (by omega) (by omega) h28 h102 (by omega) (by omega) (by decide) (by decide) (Nat.le_of_ble_eq_true rfl) (by decide) dX5_copyFrom_31 (fun M_2 H locs hw h102 hF => ?_)
  have h100 := (hF 100 (by decide)).trans h100
  have h101 := (hF 101 (by decide)).trans h101
  have h103 := (hF 103 (by decide)).trans h103
  have h26 := (hF 26 (by decide)).trans h26
  have h27 := (hF 27 (by decide)).trans h27
  have h28 := (hF 28 (by decide)).trans h28
  have h29 := (hF 29 (by decide)).trans h29
  have hFF := kF_st hFF hF (by first | decide | simp)
  refine lv_aload_n C.1 C.2.1 dX5_copyFrom_34 rfl (lv_at hl 1 rfl) ?_
  refine k_get C hw 26 (by omega) h26 rfl inlX5 2 (by decide) q_97 rfl dX5_copyFrom_35 ?_
  refine lv_iconst (v := nI 0) C.1 C.2.1 dX5_copyFrom_38 (by decide) ?_
  refine lv_aload_n C.1 C.2.1 dX5_copyFrom_39 rfl (lv_at hl 0 rfl) ?_
  refine k_get C hw 100 (by omega) h100 rfl inlX5 2 (by decide) q_97 rfl dX5_copyFrom_40 ?_
  refine lv_iconst (v := nI 0) C.1 C.2.1 dX5_copyFrom_43 (by decide) ?_
  refine lv_aload_n C.1 C.2.1 dX5_copyFrom_44 rfl (lv_at hl 1 rfl) ?_
  refine k_get C hw 26 (by omega) h26 rfl inlX5 3 (by decide) q_239 rfl dX5_copyFrom_45 ?_
  refine k_copyi C hw hl.1 q_275 q_276 q_277 q_278 29 103 (by omega) (by omega) h29 h103 (by omega) (by omega) (by decide) (by decide) (Nat.le_of_ble_eq_true rfl) (by decide) dX5_copyFrom_48 (fun M_3 H locs hw h103 hF => ?_)
  have h100 := (hF 100 (by decide)).trans h100
  have h101 := (hF 101 (by decide)).trans h101
  have h102 := (hF 102 (by decide)).trans h102
  have h26 := (hF 26 (by decide)).trans h26
  have h27 := (hF 27 (by decide)).trans h27
  have h28 := (hF 28 (by decide)).trans h28
  have h29 := (hF 29 (by decide)).trans h29
  have hFF := kF_st hFF hF (by first | decide | simp)
  refine lv_aload_n C.1 C.2.1 dX5_copyFrom_51 rfl (lv_at hl 0 rfl) ?_
  refine lv_aload_n C.1 C.2.1 dX5_copyFrom_52 rfl (lv_at hl 1 rfl) ?_
  refine k_get C hw 26 (by omega) h26 rfl inlX5 3 (by decide) q_239 rfl dX5_copyFrom_53 ?_
  refine k_put (tf := .int) C hw 100 (by omega) h100 rfl inlX5 tyX5 tyX5_ok nmX5 3 (by decide) q_239 rfl (by decide +kernel) rfl rfl (Nat.le_of_ble_eq_true rfl) dX5_copyFrom_56 (fun M_4 H locs hw h100 hF => ?_)
  have h100 : M_4 100 = .inr (5, [.ref (b + 101), .ref (b + 102), .ref (b + 103), .int (nI rs), .int (nI ca2)]) := h100
  have h101 := (hF 101 (by decide)).trans h101
  have h102 := (hF 102 (by decide)).trans h102
  have h103 := (hF 103 (by decide)).trans h103
  have h26 := (hF 26 (by decide)).trans h26
  have h27 := (hF 27 (by decide)).trans h27
  have h28 := (hF 28 (by decide)).trans h28
  have h29 := (hF 29 (by decide)).trans h29
  have hFF := kF_st hFF hF (by first | decide | simp)
  refine lv_aload_n C.1 C.2.1 dX5_copyFrom_59 rfl (lv_at hl 0 rfl) ?_
  refine lv_aload_n C.1 C.2.1 dX5_copyFrom_60 rfl (lv_at hl 1 rfl) ?_
  refine k_get C hw 26 (by omega) h26 rfl inlX5 4 (by decide) q_240 rfl dX5_copyFrom_61 ?_
  refine k_put (tf := .int) C hw 100 (by omega) h100 rfl inlX5 tyX5 tyX5_ok nmX5 4 (by decide) q_240 rfl (by decide +kernel) rfl rfl (Nat.le_of_ble_eq_true rfl) dX5_copyFrom_64 (fun M_5 H locs hw h100 hF => ?_)
  have h100 : M_5 100 = .inr (5, [.ref (b + 101), .ref (b + 102), .ref (b + 103), .int (nI rs), .int (nI ca)]) := h100
  have h101 := (hF 101 (by decide)).trans h101
  have h102 := (hF 102 (by decide)).trans h102
  have h103 := (hF 103 (by decide)).trans h103
  have h26 := (hF 26 (by decide)).trans h26
  have h27 := (hF 27 (by decide)).trans h27
  have h28 := (hF 28 (by decide)).trans h28
  have h29 := (hF 29 (by decide)).trans h29
  have hFF := kF_st hFF hF (by first | decide | simp)
  exact hret _ _ (Nat.le_of_ble_eq_true rfl) (Nat.le_of_ble_eq_true rfl) hw (⟨rfl, hFF, h100, h101, h102, h103⟩) dX5_copyFrom_67

set_option maxHeartbeats 4000000 in
set_option maxRecDepth 100000 in
theorem c_X7_copyFrom_96_22 {l : Launch} {D : va_G} {cI cJ cZ cH cR : ClassId} {b : Nat} {n : Nat} {M : Nat → va_E}  {ts2 : Nat} {tr2 : Int32} {tk2 : Nat → Int32} {tt2 : Nat → Int32} {ts : Nat} {tr : Int32} {tk : Nat → Int32} {tt : Nat → Int32}  (hn : 107 ≤ n) (h104 : M 104 = .inr (7, [.ref (b + 105), .ref (b + 106), .int (nI ts2), .int tr2])) (h105 : M 105 = .inl (cI, 40, .inl tk2)) (h106 : M 106 = .inl (cI, 40, .inl tt2)) (h30 : M 30 = .inr (7, [.ref (b + 31), .ref (b + 32), .int (nI ts), .int tr])) (h31 : M 31 = .inl (cI, 40, .inl tk)) (h32 : M 32 = .inl (cI, 40, .inl tt)) (ht : ts ≤ 40) : Met l yX7_copyFrom (kw yX7_copyFrom cX7_copyFrom 2 none) ({ frames := 1, cells := 0, slots := 0, locals := 40 }) (va_Pc [.ref (b + 104), .ref (b + 30)] (kPre D (kT cI cJ cZ cH cR) b M n)) (va_Qv (fun (u : (Nat → va_E) × Nat) => u.2 = n ∧ kF [104, 105, 106] M u.1 ∧ u.1 104 = .inr (7, [.ref (b + 105), .ref (b + 106), .int (nI ts), .int (tr)]) ∧ u.1 105 = .inl (cI, 40, .inl (va_cpy tk tk2 0 0 ts)) ∧ u.1 106 = .inl (cI, 40, .inl (va_cpy tt tt2 0 0 ts))) (kB D (kT cI cJ cZ cH cR) b) (kA b)) 0 0 (kA b) := by
  refine k_metV (by decide +kernel) (Nat.le_of_ble_eq_true rfl) ?_
  intro p e s m below meth c ls Q C hw hret hnm hl
  have hl : lv_has ls 2 [(0, .ref (b + 104)), (1, .ref (b + 30))] := hl
  have hFF : kF [104, 105, 106] M M := kF_rf
  refine lv_aload_n C.1 C.2.1 dX7_copyFrom_0 rfl (lv_at hl 1 rfl) ?_
  refine k_get C hw 30 (by omega) h30 rfl inlX7 0 (by decide) q_102 rfl dX7_copyFrom_1 ?_
  refine lv_iconst (v := nI 0) C.1 C.2.1 dX7_copyFrom_4 (by decide) ?_
  refine lv_aload_n C.1 C.2.1 dX7_copyFrom_5 rfl (lv_at hl 0 rfl) ?_
  refine k_get C hw 104 (by omega) h104 rfl inlX7 0 (by decide) q_102 rfl dX7_copyFrom_6 ?_
  refine lv_iconst (v := nI 0) C.1 C.2.1 dX7_copyFrom_9 (by decide) ?_
  refine lv_aload_n C.1 C.2.1 dX7_copyFrom_10 rfl (lv_at hl 1 rfl) ?_
  refine k_get C hw 30 (by omega) h30 rfl inlX7 2 (by decide) q_498 rfl dX7_copyFrom_11 ?_
  refine k_copyi C hw hl.1 q_499 q_276 q_277 q_278 31 105 (by omega) (by omega) h31 h105 (by omega) (by omega) (by decide) (by decide) (Nat.le_of_ble_eq_true rfl) (by decide) dX7_copyFrom_14 (fun M_1 H locs hw h105 hF => ?_)
  have h104 := (hF 104 (by decide)).trans h104
  have h106 := (hF 106 (by decide)).trans h106
  have h30 := (hF 30 (by decide)).trans h30
  have h31 := (hF 31 (by decide)).trans h31
  have h32 := (hF 32 (by decide)).trans h32
  have hFF := kF_st hFF hF (by first | decide | simp)
  refine lv_aload_n C.1 C.2.1 dX7_copyFrom_17 rfl (lv_at hl 1 rfl) ?_
  refine k_get C hw 30 (by omega) h30 rfl inlX7 1 (by decide) q_103 rfl dX7_copyFrom_18 ?_
  refine lv_iconst (v := nI 0) C.1 C.2.1 dX7_copyFrom_21 (by decide) ?_
  refine lv_aload_n C.1 C.2.1 dX7_copyFrom_22 rfl (lv_at hl 0 rfl) ?_
  refine k_get C hw 104 (by omega) h104 rfl inlX7 1 (by decide) q_103 rfl dX7_copyFrom_23 ?_
  refine lv_iconst (v := nI 0) C.1 C.2.1 dX7_copyFrom_26 (by decide) ?_
  refine lv_aload_n C.1 C.2.1 dX7_copyFrom_27 rfl (lv_at hl 1 rfl) ?_
  refine k_get C hw 30 (by omega) h30 rfl inlX7 2 (by decide) q_498 rfl dX7_copyFrom_28 ?_
  refine k_copyi C hw hl.1 q_499 q_276 q_277 q_278 32 106 (by omega) (by omega) h32 h106 (by omega) (by omega) (by decide) (by decide) (Nat.le_of_ble_eq_true rfl) (by decide) dX7_copyFrom_31 (fun M_2 H locs hw h106 hF => ?_)
  have h104 := (hF 104 (by decide)).trans h104
  have h105 := (hF 105 (by decide)).trans h105
  have h30 := (hF 30 (by decide)).trans h30
  have h31 := (hF 31 (by decide)).trans h31
  have h32 := (hF 32 (by decide)).trans h32
  have hFF := kF_st hFF hF (by first | decide | simp)
  refine lv_aload_n C.1 C.2.1 dX7_copyFrom_34 rfl (lv_at hl 0 rfl) ?_
  refine lv_aload_n C.1 C.2.1 dX7_copyFrom_35 rfl (lv_at hl 1 rfl) ?_
  refine k_get C hw 30 (by omega) h30 rfl inlX7 2 (by decide) q_498 rfl dX7_copyFrom_36 ?_
  refine k_put (tf := .int) C hw 104 (by omega) h104 rfl inlX7 tyX7 tyX7_ok nmX7 2 (by decide) q_498 rfl (by decide +kernel) rfl rfl (Nat.le_of_ble_eq_true rfl) dX7_copyFrom_39 (fun M_3 H locs hw h104 hF => ?_)
  have h104 : M_3 104 = .inr (7, [.ref (b + 105), .ref (b + 106), .int (nI ts), .int tr2]) := h104
  have h105 := (hF 105 (by decide)).trans h105
  have h106 := (hF 106 (by decide)).trans h106
  have h30 := (hF 30 (by decide)).trans h30
  have h31 := (hF 31 (by decide)).trans h31
  have h32 := (hF 32 (by decide)).trans h32
  have hFF := kF_st hFF hF (by first | decide | simp)
  refine lv_aload_n C.1 C.2.1 dX7_copyFrom_42 rfl (lv_at hl 0 rfl) ?_
  refine lv_aload_n C.1 C.2.1 dX7_copyFrom_43 rfl (lv_at hl 1 rfl) ?_
  refine k_get C hw 30 (by omega) h30 rfl inlX7 3 (by decide) q_616 rfl dX7_copyFrom_44 ?_
  refine k_put (tf := .int) C hw 104 (by omega) h104 rfl inlX7 tyX7 tyX7_ok nmX7 3 (by decide) q_616 rfl (by decide +kernel) rfl rfl (Nat.le_of_ble_eq_true rfl) dX7_copyFrom_47 (fun M_4 H locs hw h104 hF => ?_)
  have h104 : M_4 104 = .inr (7, [.ref (b + 105), .ref (b + 106), .int (nI ts), .int tr]) := h104
  have h105 := (hF 105 (by decide)).trans h105
  have h106 := (hF 106 (by decide)).trans h106
  have h30 := (hF 30 (by decide)).trans h30
  have h31 := (hF 31 (by decide)).trans h31
  have h32 := (hF 32 (by decide)).trans h32
  have hFF := kF_st hFF hF (by first | decide | simp)
  exact hret _ _ (Nat.le_of_ble_eq_true rfl) (Nat.le_of_ble_eq_true rfl) hw (⟨rfl, hFF, h104, h105, h106⟩) dX7_copyFrom_50

set_option maxHeartbeats 4000000 in
set_option maxRecDepth 100000 in
theorem c_X0_copyFrom_96_22 {l : Launch} {D : va_G} {cI cJ cZ cH cR : ClassId} {b : Nat} {n : Nat} {M : Nat → va_E}  {ct2 : Nat → Int32} {su2 : Nat → Int64} {rs2 : Nat} {ca2 : Nat} {rn2 : Nat → Int32} {rk2 : Nat → Int32} {rv2 : Nat → Int32} {ts2 : Nat} {tr2 : Int32} {tk2 : Nat → Int32} {tt2 : Nat → Int32} {ct : Nat → Int32} {su : Nat → Int64} {rs : Nat} {ca : Nat} {rn : Nat → Int32} {rk : Nat → Int32} {rv : Nat → Int32} {ts : Nat} {tr : Int32} {tk : Nat → Int32} {tt : Nat → Int32}  (hn : 107 ≤ n) (h96 : M 96 = .inr (0, [.ref (b + 97), .ref (b + 100), .ref (b + 104)])) (h97 : M 97 = .inr (6, [.ref (b + 98), .ref (b + 99)])) (h98 : M 98 = .inl (cI, 100, .inl ct2)) (h99 : M 99 = .inl (cJ, 100, .inr (.inl su2))) (h100 : M 100 = .inr (5, [.ref (b + 101), .ref (b + 102), .ref (b + 103), .int (nI rs2), .int (nI ca2)])) (h101 : M 101 = .inl (cI, 400, .inl rn2)) (h102 : M 102 = .inl (cI, 400, .inl rk2)) (h103 : M 103 = .inl (cI, 400, .inl rv2)) (h104 : M 104 = .inr (7, [.ref (b + 105), .ref (b + 106), .int (nI ts2), .int tr2])) (h105 : M 105 = .inl (cI, 40, .inl tk2)) (h106 : M 106 = .inl (cI, 40, .inl tt2)) (h22 : M 22 = .inr (0, [.ref (b + 23), .ref (b + 26), .ref (b + 30)])) (h23 : M 23 = .inr (6, [.ref (b + 24), .ref (b + 25)])) (h24 : M 24 = .inl (cI, 100, .inl ct)) (h25 : M 25 = .inl (cJ, 100, .inr (.inl su))) (h26 : M 26 = .inr (5, [.ref (b + 27), .ref (b + 28), .ref (b + 29), .int (nI rs), .int (nI ca)])) (h27 : M 27 = .inl (cI, 400, .inl rn)) (h28 : M 28 = .inl (cI, 400, .inl rk)) (h29 : M 29 = .inl (cI, 400, .inl rv)) (h30 : M 30 = .inr (7, [.ref (b + 31), .ref (b + 32), .int (nI ts), .int tr])) (h31 : M 31 = .inl (cI, 40, .inl tk)) (h32 : M 32 = .inl (cI, 40, .inl tt)) (hs : rs ≤ 400) (ht : ts ≤ 40) : Met l yX0_copyFrom (kw yX0_copyFrom cX0_copyFrom 2 none) ({ frames := 2, cells := 0, slots := 0, locals := 61 }) (va_Pc [.ref (b + 96), .ref (b + 22)] (kPre D (kT cI cJ cZ cH cR) b M n)) (va_Qv (fun (u : (Nat → va_E) × Nat) => u.2 = n ∧ kF [98, 99, 100, 101, 102, 103, 104, 105, 106] M u.1 ∧ u.1 98 = .inl (cI, 100, .inl ct) ∧ u.1 99 = .inl (cJ, 100, .inr (.inl su)) ∧ u.1 100 = .inr (5, [.ref (b + 101), .ref (b + 102), .ref (b + 103), .int (nI rs), .int (nI ca)]) ∧ u.1 101 = .inl (cI, 400, .inl (va_cpy rn rn2 0 0 rs)) ∧ u.1 102 = .inl (cI, 400, .inl (va_cpy rk rk2 0 0 rs)) ∧ u.1 103 = .inl (cI, 400, .inl (va_cpy rv rv2 0 0 rs)) ∧ u.1 104 = .inr (7, [.ref (b + 105), .ref (b + 106), .int (nI ts), .int (tr)]) ∧ u.1 105 = .inl (cI, 40, .inl (va_cpy tk tk2 0 0 ts)) ∧ u.1 106 = .inl (cI, 40, .inl (va_cpy tt tt2 0 0 ts))) (kB D (kT cI cJ cZ cH cR) b) (kA b)) 0 0 (kA b) := by
  refine k_metV (by decide +kernel) (Nat.le_of_ble_eq_true rfl) ?_
  intro p e s m below meth c ls Q C hw hret hnm hl
  have hl : lv_has ls 2 [(0, .ref (b + 96)), (1, .ref (b + 22))] := hl
  have hFF : kF [98, 99, 100, 101, 102, 103, 104, 105, 106] M M := kF_rf
  refine lv_aload_n C.1 C.2.1 dX0_copyFrom_0 rfl (lv_at hl 0 rfl) ?_
  refine k_get C hw 96 (by omega) h96 rfl inlX0 0 (by decide) q_75 rfl dX0_copyFrom_1 ?_
  refine lv_aload_n C.1 C.2.1 dX0_copyFrom_4 rfl (lv_at hl 1 rfl) ?_
  refine k_get C hw 22 (by omega) h22 rfl inlX0 0 (by decide) q_75 rfl dX0_copyFrom_5 ?_
  refine k_vv C hw 97 (by omega) h97 rfl (c_X6_copyFrom_96_22 (by omega) h97 h98 h99 h23 h24 h25 ) kv_X0_35 rfl hl.1 ⟨Nat.le_of_ble_eq_true rfl, Nat.le_of_ble_eq_true rfl⟩ (Nat.le_of_ble_eq_true rfl) ⟨Nat.le_of_ble_eq_true rfl, Nat.le_of_ble_eq_true rfl⟩ dX0_copyFrom_8 (fun M_1 n9 H locs hp hw => ?_)
  obtain ⟨en9, hF, h98, h99⟩ := hp
  have en9 : n9 = n := en9
  rw [en9] at hw
  have h96 := (hF 96 (by decide)).trans h96
  have h97 := (hF 97 (by decide)).trans h97
  have h100 := (hF 100 (by decide)).trans h100
  have h101 := (hF 101 (by decide)).trans h101
  have h102 := (hF 102 (by decide)).trans h102
  have h103 := (hF 103 (by decide)).trans h103
  have h104 := (hF 104 (by decide)).trans h104
  have h105 := (hF 105 (by decide)).trans h105
  have h106 := (hF 106 (by decide)).trans h106
  have h22 := (hF 22 (by decide)).trans h22
  have h23 := (hF 23 (by decide)).trans h23
  have h24 := (hF 24 (by decide)).trans h24
  have h25 := (hF 25 (by decide)).trans h25
  have h26 := (hF 26 (by decide)).trans h26
  have h27 := (hF 27 (by decide)).trans h27
  have h28 := (hF 28 (by decide)).trans h28
  have h29 := (hF 29 (by decide)).trans h29
  have h30 := (hF 30 (by decide)).trans h30
  have h31 := (hF 31 (by decide)).trans h31
  have h32 := (hF 32 (by decide)).trans h32
  have hFF := kF_st hFF hF (by first | decide | simp)
  refine lv_aload_n C.1 C.2.1 dX0_copyFrom_11 rfl (lv_at hl 0 rfl) ?_
  refine k_get C hw 96 (by omega) h96 rfl inlX0 1 (by decide) q_79 rfl dX0_copyFrom_12 ?_
  refine lv_aload_n C.1 C.2.1 dX0_copyFrom_15 rfl (lv_at hl 1 rfl) ?_
  refine k_get C hw 22 (by omega) h22 rfl inlX0 1 (by decide) q_79 rfl dX0_copyFrom_16 ?_
  refine k_vv C hw 100 (by omega) h100 rfl (c_X5_copyFrom_96_22 (by omega) h100 h101 h102 h103 h26 h27 h28 h29 (by omega)) kv_X0_39 rfl hl.1 ⟨Nat.le_of_ble_eq_true rfl, Nat.le_of_ble_eq_true rfl⟩ (Nat.le_of_ble_eq_true rfl) ⟨Nat.le_of_ble_eq_true rfl, Nat.le_of_ble_eq_true rfl⟩ dX0_copyFrom_19 (fun M_2 n9 H locs hp hw => ?_)
  obtain ⟨en9, hF, h100, h101, h102, h103⟩ := hp
  have en9 : n9 = n := en9
  rw [en9] at hw
  have h96 := (hF 96 (by decide)).trans h96
  have h97 := (hF 97 (by decide)).trans h97
  have h98 := (hF 98 (by decide)).trans h98
  have h99 := (hF 99 (by decide)).trans h99
  have h104 := (hF 104 (by decide)).trans h104
  have h105 := (hF 105 (by decide)).trans h105
  have h106 := (hF 106 (by decide)).trans h106
  have h22 := (hF 22 (by decide)).trans h22
  have h23 := (hF 23 (by decide)).trans h23
  have h24 := (hF 24 (by decide)).trans h24
  have h25 := (hF 25 (by decide)).trans h25
  have h26 := (hF 26 (by decide)).trans h26
  have h27 := (hF 27 (by decide)).trans h27
  have h28 := (hF 28 (by decide)).trans h28
  have h29 := (hF 29 (by decide)).trans h29
  have h30 := (hF 30 (by decide)).trans h30
  have h31 := (hF 31 (by decide)).trans h31
  have h32 := (hF 32 (by decide)).trans h32
  have hFF := kF_st hFF hF (by first | decide | simp)
  refine lv_aload_n C.1 C.2.1 dX0_copyFrom_22 rfl (lv_at hl 0 rfl) ?_
  refine k_get C hw 96 (by omega) h96 rfl inlX0 2 (by decide) q_83 rfl dX0_copyFrom_23 ?_
  refine lv_aload_n C.1 C.2.1 dX0_copyFrom_26 rfl (lv_at hl 1 rfl) ?_
  refine k_get C hw 22 (by omega) h22 rfl inlX0 2 (by decide) q_83 rfl dX0_copyFrom_27 ?_
  refine k_vv C hw 104 (by omega) h104 rfl (c_X7_copyFrom_96_22 (by omega) h104 h105 h106 h30 h31 h32 (by omega)) kv_X0_42 rfl hl.1 ⟨Nat.le_of_ble_eq_true rfl, Nat.le_of_ble_eq_true rfl⟩ (Nat.le_of_ble_eq_true rfl) ⟨Nat.le_of_ble_eq_true rfl, Nat.le_of_ble_eq_true rfl⟩ dX0_copyFrom_30 (fun M_3 n9 H locs hp hw => ?_)
  obtain ⟨en9, hF, h104, h105, h106⟩ := hp
  have en9 : n9 = n := en9
  rw [en9] at hw
  have h96 := (hF 96 (by decide)).trans h96
  have h97 := (hF 97 (by decide)).trans h97
  have h98 := (hF 98 (by decide)).trans h98
  have h99 := (hF 99 (by decide)).trans h99
  have h100 := (hF 100 (by decide)).trans h100
  have h101 := (hF 101 (by decide)).trans h101
  have h102 := (hF 102 (by decide)).trans h102
  have h103 := (hF 103 (by decide)).trans h103
  have h22 := (hF 22 (by decide)).trans h22
  have h23 := (hF 23 (by decide)).trans h23
  have h24 := (hF 24 (by decide)).trans h24
  have h25 := (hF 25 (by decide)).trans h25
  have h26 := (hF 26 (by decide)).trans h26
  have h27 := (hF 27 (by decide)).trans h27
  have h28 := (hF 28 (by decide)).trans h28
  have h29 := (hF 29 (by decide)).trans h29
  have h30 := (hF 30 (by decide)).trans h30
  have h31 := (hF 31 (by decide)).trans h31
  have h32 := (hF 32 (by decide)).trans h32
  have hFF := kF_st hFF hF (by first | decide | simp)
  exact hret _ _ (Nat.le_of_ble_eq_true rfl) (Nat.le_of_ble_eq_true rfl) hw (⟨rfl, hFF, h98, h99, h100, h101, h102, h103, h104, h105, h106⟩) dX0_copyFrom_33

set_option maxHeartbeats 4000000 in
set_option maxRecDepth 100000 in
theorem c_X6_copyFrom_22_74 {l : Launch} {D : va_G} {cI cJ cZ cH cR : ClassId} {b : Nat} {n : Nat} {M : Nat → va_E}  {ct : Nat → Int32} {su : Nat → Int64} {ct0 : Nat → Int32} {su0 : Nat → Int64}  (hn : 78 ≤ n) (h23 : M 23 = .inr (6, [.ref (b + 24), .ref (b + 25)])) (h24 : M 24 = .inl (cI, 100, .inl ct)) (h25 : M 25 = .inl (cJ, 100, .inr (.inl su))) (h75 : M 75 = .inr (6, [.ref (b + 76), .ref (b + 77)])) (h76 : M 76 = .inl (cI, 100, .inl ct0)) (h77 : M 77 = .inl (cJ, 100, .inr (.inl su0)))  : Met l yX6_copyFrom (kw yX6_copyFrom cX6_copyFrom 2 none) ({ frames := 1, cells := 0, slots := 0, locals := 40 }) (va_Pc [.ref (b + 23), .ref (b + 75)] (kPre D (kT cI cJ cZ cH cR) b M n)) (va_Qv (fun (u : (Nat → va_E) × Nat) => u.2 = n ∧ kF [24, 25] M u.1 ∧ u.1 24 = .inl (cI, 100, .inl ct0) ∧ u.1 25 = .inl (cJ, 100, .inr (.inl su0))) (kB D (kT cI cJ cZ cH cR) b) (kA b)) 0 0 (kA b) := by
  refine k_metV (by decide +kernel) (Nat.le_of_ble_eq_true rfl) ?_
  intro p e s m below meth c ls Q C hw hret hnm hl
  have hl : lv_has ls 2 [(0, .ref (b + 23)), (1, .ref (b + 75))] := hl
  have hFF : kF [24, 25] M M := kF_rf
  refine lv_aload_n C.1 C.2.1 dX6_copyFrom_0 rfl (lv_at hl 1 rfl) ?_
  refine k_get C hw 75 (by omega) h75 rfl inlX6 0 (by decide) q_88 rfl dX6_copyFrom_1 ?_
  refine lv_iconst (v := nI 0) C.1 C.2.1 dX6_copyFrom_4 (by decide) ?_
  refine lv_aload_n C.1 C.2.1 dX6_copyFrom_5 rfl (lv_at hl 0 rfl) ?_
  refine k_get C hw 23 (by omega) h23 rfl inlX6 0 (by decide) q_88 rfl dX6_copyFrom_6 ?_
  refine lv_iconst (v := nI 0) C.1 C.2.1 dX6_copyFrom_9 (by decide) ?_
  refine lv_bipush (v := nI 100) C.1 C.2.1 dX6_copyFrom_10 (by decide) ?_
  refine k_copyi C hw hl.1 q_607 q_276 q_277 q_278 76 24 (by omega) (by omega) h76 h24 (by omega) (by omega) (by decide) (by decide) (Nat.le_of_ble_eq_true rfl) (by decide) dX6_copyFrom_12 (fun M_1 H locs hw h24 hF => ?_)
  have h23 := (hF 23 (by decide)).trans h23
  have h25 := (hF 25 (by decide)).trans h25
  have h75 := (hF 75 (by decide)).trans h75
  have h76 := (hF 76 (by decide)).trans h76
  have h77 := (hF 77 (by decide)).trans h77
  have hFF := kF_st hFF hF (by first | decide | simp)
  refine lv_aload_n C.1 C.2.1 dX6_copyFrom_15 rfl (lv_at hl 1 rfl) ?_
  refine k_get C hw 75 (by omega) h75 rfl inlX6 1 (by decide) q_90 rfl dX6_copyFrom_16 ?_
  refine lv_iconst (v := nI 0) C.1 C.2.1 dX6_copyFrom_19 (by decide) ?_
  refine lv_aload_n C.1 C.2.1 dX6_copyFrom_20 rfl (lv_at hl 0 rfl) ?_
  refine k_get C hw 23 (by omega) h23 rfl inlX6 1 (by decide) q_90 rfl dX6_copyFrom_21 ?_
  refine lv_iconst (v := nI 0) C.1 C.2.1 dX6_copyFrom_24 (by decide) ?_
  refine lv_bipush (v := nI 100) C.1 C.2.1 dX6_copyFrom_25 (by decide) ?_
  refine k_copyl C hw hl.1 q_607 q_276 q_277 q_278 77 25 (by omega) (by omega) h77 h25 (by omega) (by omega) (by decide) (by decide) (Nat.le_of_ble_eq_true rfl) (by decide) dX6_copyFrom_27 (fun M_2 H locs hw h25 hF => ?_)
  have h23 := (hF 23 (by decide)).trans h23
  have h24 := (hF 24 (by decide)).trans h24
  have h75 := (hF 75 (by decide)).trans h75
  have h76 := (hF 76 (by decide)).trans h76
  have h77 := (hF 77 (by decide)).trans h77
  have hFF := kF_st hFF hF (by first | decide | simp)
  obtain ⟨M_3, hw, h24, hF⟩ := k_extI hw 24 (by omega) h24 (ct0) (fun j hj => cpy00 hj)
  have h23 := (hF 23 (by decide)).trans h23
  have h25 := (hF 25 (by decide)).trans h25
  have h75 := (hF 75 (by decide)).trans h75
  have h76 := (hF 76 (by decide)).trans h76
  have h77 := (hF 77 (by decide)).trans h77
  have hFF := kF_st hFF hF (by first | decide | simp)
  obtain ⟨M_4, hw, h25, hF⟩ := k_extJ hw 25 (by omega) h25 (su0) (fun j hj => cpy00 hj)
  have h23 := (hF 23 (by decide)).trans h23
  have h24 := (hF 24 (by decide)).trans h24
  have h75 := (hF 75 (by decide)).trans h75
  have h76 := (hF 76 (by decide)).trans h76
  have h77 := (hF 77 (by decide)).trans h77
  have hFF := kF_st hFF hF (by first | decide | simp)
  exact hret _ _ (Nat.le_of_ble_eq_true rfl) (Nat.le_of_ble_eq_true rfl) hw (⟨rfl, hFF, h24, h25⟩) dX6_copyFrom_30

set_option maxHeartbeats 4000000 in
set_option maxRecDepth 100000 in
theorem c_X5_copyFrom_22_74 {l : Launch} {D : va_G} {cI cJ cZ cH cR : ClassId} {b : Nat} {n : Nat} {M : Nat → va_E}  {rs : Nat} {ca : Nat} {rn : Nat → Int32} {rk : Nat → Int32} {rv : Nat → Int32} {rs0 : Nat} {ca0 : Nat} {rn0 : Nat → Int32} {rk0 : Nat → Int32} {rv0 : Nat → Int32}  (hn : 82 ≤ n) (h26 : M 26 = .inr (5, [.ref (b + 27), .ref (b + 28), .ref (b + 29), .int (nI rs), .int (nI ca)])) (h27 : M 27 = .inl (cI, 400, .inl rn)) (h28 : M 28 = .inl (cI, 400, .inl rk)) (h29 : M 29 = .inl (cI, 400, .inl rv)) (h78 : M 78 = .inr (5, [.ref (b + 79), .ref (b + 80), .ref (b + 81), .int (nI rs0), .int (nI ca0)])) (h79 : M 79 = .inl (cI, 400, .inl rn0)) (h80 : M 80 = .inl (cI, 400, .inl rk0)) (h81 : M 81 = .inl (cI, 400, .inl rv0)) (hs : rs0 ≤ 400) : Met l yX5_copyFrom (kw yX5_copyFrom cX5_copyFrom 2 none) ({ frames := 1, cells := 0, slots := 0, locals := 40 }) (va_Pc [.ref (b + 26), .ref (b + 78)] (kPre D (kT cI cJ cZ cH cR) b M n)) (va_Qv (fun (u : (Nat → va_E) × Nat) => u.2 = n ∧ kF [26, 27, 28, 29] M u.1 ∧ u.1 26 = .inr (5, [.ref (b + 27), .ref (b + 28), .ref (b + 29), .int (nI rs0), .int (nI ca0)]) ∧ u.1 27 = .inl (cI, 400, .inl (va_cpy rn0 rn 0 0 rs0)) ∧ u.1 28 = .inl (cI, 400, .inl (va_cpy rk0 rk 0 0 rs0)) ∧ u.1 29 = .inl (cI, 400, .inl (va_cpy rv0 rv 0 0 rs0))) (kB D (kT cI cJ cZ cH cR) b) (kA b)) 0 0 (kA b) := by
  refine k_metV (by decide +kernel) (Nat.le_of_ble_eq_true rfl) ?_
  intro p e s m below meth c ls Q C hw hret hnm hl
  have hl : lv_has ls 2 [(0, .ref (b + 26)), (1, .ref (b + 78))] := hl
  have hFF : kF [26, 27, 28, 29] M M := kF_rf
  refine lv_aload_n C.1 C.2.1 dX5_copyFrom_0 rfl (lv_at hl 1 rfl) ?_
  refine k_get C hw 78 (by omega) h78 rfl inlX5 0 (by decide) q_95 rfl dX5_copyFrom_1 ?_
  refine lv_iconst (v := nI 0) C.1 C.2.1 dX5_copyFrom_4 (by decide) ?_
  refine lv_aload_n C.1 C.2.1 dX5_copyFrom_5 rfl (lv_at hl 0 rfl) ?_
  refine k_get C hw 26 (by omega) h26 rfl inlX5 0 (by decide) q_95 rfl dX5_copyFrom_6 ?_
  refine lv_iconst (v := nI 0) C.1 C.2.1 dX5_copyFrom_9 (by decide) ?_
  refine lv_aload_n C.1 C.2.1 dX5_copyFrom_10 rfl (lv_at hl 1 rfl) ?_
  refine k_get C hw 78 (by omega) h78 rfl inlX5 3 (by decide) q_239 rfl dX5_copyFrom_11 ?_
  refine k_copyi C hw hl.1 q_275 q_276 q_277 q_278 79 27 (by omega) (by omega) h79 h27 (by omega) (by omega) (by decide) (by decide) (Nat.le_of_ble_eq_true rfl) (by decide) dX5_copyFrom_14 (fun M_1 H locs hw h27 hF => ?_)
  have h26 := (hF 26 (by decide)).trans h26
  have h28 := (hF 28 (by decide)).trans h28
  have h29 := (hF 29 (by decide)).trans h29
  have h78 := (hF 78 (by decide)).trans h78
  have h79 := (hF 79 (by decide)).trans h79
  have h80 := (hF 80 (by decide)).trans h80
  have h81 := (hF 81 (by decide)).trans h81
  have hFF := kF_st hFF hF (by first | decide | simp)
  refine lv_aload_n C.1 C.2.1 dX5_copyFrom_17 rfl (lv_at hl 1 rfl) ?_
  refine k_get C hw 78 (by omega) h78 rfl inlX5 1 (by decide) q_96 rfl dX5_copyFrom_18 ?_
  refine lv_iconst (v := nI 0) C.1 C.2.1 dX5_copyFrom_21 (by decide) ?_
  refine lv_aload_n C.1 C.2.1 dX5_copyFrom_22 rfl (lv_at hl 0 rfl) ?_
  refine k_get C hw 26 (by omega) h26 rfl inlX5 1 (by decide) q_96 rfl dX5_copyFrom_23 ?_
  refine lv_iconst (v := nI 0) C.1 C.2.1 dX5_copyFrom_26 (by decide) ?_
  refine lv_aload_n C.1 C.2.1 dX5_copyFrom_27 rfl (lv_at hl 1 rfl) ?_
  refine k_get C hw 78 (by omega) h78 rfl inlX5 3 (by decide) q_239 rfl dX5_copyFrom_28 ?_
  refine k_copyi C hw hl.1 q_275 q_276 q_277 q_278 80 28 (by omega) (by omega) h80 h28 (by omega) (by omega) (by decide) (by decide) (Nat.le_of_ble_eq_true rfl) (by decide) dX5_copyFrom_31 (fun M_2 H locs hw h28 hF => ?_)
  have h26 := (hF 26 (by decide)).trans h26
  have h27 := (hF 27 (by decide)).trans h27
  have h29 := (hF 29 (by decide)).trans h29
  have h78 := (hF 78 (by decide)).trans h78
  have h79 := (hF 79 (by decide)).trans h79
  have h80 := (hF 80 (by decide)).trans h80
  have h81 := (hF 81 (by decide)).trans h81
  have hFF := kF_st hFF hF (by first | decide | simp)
  refine lv_aload_n C.1 C.2.1 dX5_copyFrom_34 rfl (lv_at hl 1 rfl) ?_
  refine k_get C hw 78 (by omega) h78 rfl inlX5 2 (by decide) q_97 rfl dX5_copyFrom_35 ?_
  refine lv_iconst (v := nI 0) C.1 C.2.1 dX5_copyFrom_38 (by decide) ?_
  refine lv_aload_n C.1 C.2.1 dX5_copyFrom_39 rfl (lv_at hl 0 rfl) ?_
  refine k_get C hw 26 (by omega) h26 rfl inlX5 2 (by decide) q_97 rfl dX5_copyFrom_40 ?_
  refine lv_iconst (v := nI 0) C.1 C.2.1 dX5_copyFrom_43 (by decide) ?_
  refine lv_aload_n C.1 C.2.1 dX5_copyFrom_44 rfl (lv_at hl 1 rfl) ?_
  refine k_get C hw 78 (by omega) h78 rfl inlX5 3 (by decide) q_239 rfl dX5_copyFrom_45 ?_
  refine k_copyi C hw hl.1 q_275 q_276 q_277 q_278 81 29 (by omega) (by omega) h81 h29 (by omega) (by omega) (by decide) (by decide) (Nat.le_of_ble_eq_true rfl) (by decide) dX5_copyFrom_48 (fun M_3 H locs hw h29 hF => ?_)
  have h26 := (hF 26 (by decide)).trans h26
  have h27 := (hF 27 (by decide)).trans h27
  have h28 := (hF 28 (by decide)).trans h28
  have h78 := (hF 78 (by decide)).trans h78
  have h79 := (hF 79 (by decide)).trans h79
  have h80 := (hF 80 (by decide)).trans h80
  have h81 := (hF 81 (by decide)).trans h81
  have hFF := kF_st hFF hF (by first | decide | simp)
  refine lv_aload_n C.1 C.2.1 dX5_copyFrom_51 rfl (lv_at hl 0 rfl) ?_
  refine lv_aload_n C.1 C.2.1 dX5_copyFrom_52 rfl (lv_at hl 1 rfl) ?_
  refine k_get C hw 78 (by omega) h78 rfl inlX5 3 (by decide) q_239 rfl dX5_copyFrom_53 ?_
  refine k_put (tf := .int) C hw 26 (by omega) h26 rfl inlX5 tyX5 tyX5_ok nmX5 3 (by decide) q_239 rfl (by decide +kernel) rfl rfl (Nat.le_of_ble_eq_true rfl) dX5_copyFrom_56 (fun M_4 H locs hw h26 hF => ?_)
  have h26 : M_4 26 = .inr (5, [.ref (b + 27), .ref (b + 28), .ref (b + 29), .int (nI rs0), .int (nI ca)]) := h26
  have h27 := (hF 27 (by decide)).trans h27
  have h28 := (hF 28 (by decide)).trans h28
  have h29 := (hF 29 (by decide)).trans h29
  have h78 := (hF 78 (by decide)).trans h78
  have h79 := (hF 79 (by decide)).trans h79
  have h80 := (hF 80 (by decide)).trans h80
  have h81 := (hF 81 (by decide)).trans h81
  have hFF := kF_st hFF hF (by first | decide | simp)
  refine lv_aload_n C.1 C.2.1 dX5_copyFrom_59 rfl (lv_at hl 0 rfl) ?_
  refine lv_aload_n C.1 C.2.1 dX5_copyFrom_60 rfl (lv_at hl 1 rfl) ?_
  refine k_get C hw 78 (by omega) h78 rfl inlX5 4 (by decide) q_240 rfl dX5_copyFrom_61 ?_
  refine k_put (tf := .int) C hw 26 (by omega) h26 rfl inlX5 tyX5 tyX5_ok nmX5 4 (by decide) q_240 rfl (by decide +kernel) rfl rfl (Nat.le_of_ble_eq_true rfl) dX5_copyFrom_64 (fun M_5 H locs hw h26 hF => ?_)
  have h26 : M_5 26 = .inr (5, [.ref (b + 27), .ref (b + 28), .ref (b + 29), .int (nI rs0), .int (nI ca0)]) := h26
  have h27 := (hF 27 (by decide)).trans h27
  have h28 := (hF 28 (by decide)).trans h28
  have h29 := (hF 29 (by decide)).trans h29
  have h78 := (hF 78 (by decide)).trans h78
  have h79 := (hF 79 (by decide)).trans h79
  have h80 := (hF 80 (by decide)).trans h80
  have h81 := (hF 81 (by decide)).trans h81
  have hFF := kF_st hFF hF (by first | decide | simp)
  exact hret _ _ (Nat.le_of_ble_eq_true rfl) (Nat.le_of_ble_eq_true rfl) hw (⟨rfl, hFF, h26, h27, h28, h29⟩) dX5_copyFrom_67

set_option maxHeartbeats 4000000 in
set_option maxRecDepth 100000 in
theorem c_X7_copyFrom_22_74 {l : Launch} {D : va_G} {cI cJ cZ cH cR : ClassId} {b : Nat} {n : Nat} {M : Nat → va_E}  {ts : Nat} {tr : Int32} {tk : Nat → Int32} {tt : Nat → Int32} {ts0 : Nat} {tr0 : Int32} {tk0 : Nat → Int32} {tt0 : Nat → Int32}  (hn : 85 ≤ n) (h30 : M 30 = .inr (7, [.ref (b + 31), .ref (b + 32), .int (nI ts), .int tr])) (h31 : M 31 = .inl (cI, 40, .inl tk)) (h32 : M 32 = .inl (cI, 40, .inl tt)) (h82 : M 82 = .inr (7, [.ref (b + 83), .ref (b + 84), .int (nI ts0), .int tr0])) (h83 : M 83 = .inl (cI, 40, .inl tk0)) (h84 : M 84 = .inl (cI, 40, .inl tt0)) (ht : ts0 ≤ 40) : Met l yX7_copyFrom (kw yX7_copyFrom cX7_copyFrom 2 none) ({ frames := 1, cells := 0, slots := 0, locals := 40 }) (va_Pc [.ref (b + 30), .ref (b + 82)] (kPre D (kT cI cJ cZ cH cR) b M n)) (va_Qv (fun (u : (Nat → va_E) × Nat) => u.2 = n ∧ kF [30, 31, 32] M u.1 ∧ u.1 30 = .inr (7, [.ref (b + 31), .ref (b + 32), .int (nI ts0), .int (tr0)]) ∧ u.1 31 = .inl (cI, 40, .inl (va_cpy tk0 tk 0 0 ts0)) ∧ u.1 32 = .inl (cI, 40, .inl (va_cpy tt0 tt 0 0 ts0))) (kB D (kT cI cJ cZ cH cR) b) (kA b)) 0 0 (kA b) := by
  refine k_metV (by decide +kernel) (Nat.le_of_ble_eq_true rfl) ?_
  intro p e s m below meth c ls Q C hw hret hnm hl
  have hl : lv_has ls 2 [(0, .ref (b + 30)), (1, .ref (b + 82))] := hl
  have hFF : kF [30, 31, 32] M M := kF_rf
  refine lv_aload_n C.1 C.2.1 dX7_copyFrom_0 rfl (lv_at hl 1 rfl) ?_
  refine k_get C hw 82 (by omega) h82 rfl inlX7 0 (by decide) q_102 rfl dX7_copyFrom_1 ?_
  refine lv_iconst (v := nI 0) C.1 C.2.1 dX7_copyFrom_4 (by decide) ?_
  refine lv_aload_n C.1 C.2.1 dX7_copyFrom_5 rfl (lv_at hl 0 rfl) ?_
  refine k_get C hw 30 (by omega) h30 rfl inlX7 0 (by decide) q_102 rfl dX7_copyFrom_6 ?_
  refine lv_iconst (v := nI 0) C.1 C.2.1 dX7_copyFrom_9 (by decide) ?_
  refine lv_aload_n C.1 C.2.1 dX7_copyFrom_10 rfl (lv_at hl 1 rfl) ?_
  refine k_get C hw 82 (by omega) h82 rfl inlX7 2 (by decide) q_498 rfl dX7_copyFrom_11 ?_
  refine k_copyi C hw hl.1 q_499 q_276 q_277 q_278 83 31 (by omega) (by omega) h83 h31 (by omega) (by omega) (by decide) (by decide) (Nat.le_of_ble_eq_true rfl) (by decide) dX7_copyFrom_14 (fun M_1 H locs hw h31 hF => ?_)
  have h30 := (hF 30 (by decide)).trans h30
  have h32 := (hF 32 (by decide)).trans h32
  have h82 := (hF 82 (by decide)).trans h82
  have h83 := (hF 83 (by decide)).trans h83
  have h84 := (hF 84 (by decide)).trans h84
  have hFF := kF_st hFF hF (by first | decide | simp)
  refine lv_aload_n C.1 C.2.1 dX7_copyFrom_17 rfl (lv_at hl 1 rfl) ?_
  refine k_get C hw 82 (by omega) h82 rfl inlX7 1 (by decide) q_103 rfl dX7_copyFrom_18 ?_
  refine lv_iconst (v := nI 0) C.1 C.2.1 dX7_copyFrom_21 (by decide) ?_
  refine lv_aload_n C.1 C.2.1 dX7_copyFrom_22 rfl (lv_at hl 0 rfl) ?_
  refine k_get C hw 30 (by omega) h30 rfl inlX7 1 (by decide) q_103 rfl dX7_copyFrom_23 ?_
  refine lv_iconst (v := nI 0) C.1 C.2.1 dX7_copyFrom_26 (by decide) ?_
  refine lv_aload_n C.1 C.2.1 dX7_copyFrom_27 rfl (lv_at hl 1 rfl) ?_
  refine k_get C hw 82 (by omega) h82 rfl inlX7 2 (by decide) q_498 rfl dX7_copyFrom_28 ?_
  refine k_copyi C hw hl.1 q_499 q_276 q_277 q_278 84 32 (by omega) (by omega) h84 h32 (by omega) (by omega) (by decide) (by decide) (Nat.le_of_ble_eq_true rfl) (by decide) dX7_copyFrom_31 (fun M_2 H locs hw h32 hF => ?_)
  have h30 := (hF 30 (by decide)).trans h30
  have h31 := (hF 31 (by decide)).trans h31
  have h82 := (hF 82 (by decide)).trans h82
  have h83 := (hF 83 (by decide)).trans h83
  have h84 := (hF 84 (by decide)).trans h84
  have hFF := kF_st hFF hF (by first | decide | simp)
  refine lv_aload_n C.1 C.2.1 dX7_copyFrom_34 rfl (lv_at hl 0 rfl) ?_
  refine lv_aload_n C.1 C.2.1 dX7_copyFrom_35 rfl (lv_at hl 1 rfl) ?_
  refine k_get C hw 82 (by omega) h82 rfl inlX7 2 (by decide) q_498 rfl dX7_copyFrom_36 ?_
  refine k_put (tf := .int) C hw 30 (by omega) h30 rfl inlX7 tyX7 tyX7_ok nmX7 2 (by decide) q_498 rfl (by decide +kernel) rfl rfl (Nat.le_of_ble_eq_true rfl) dX7_copyFrom_39 (fun M_3 H locs hw h30 hF => ?_)
  have h30 : M_3 30 = .inr (7, [.ref (b + 31), .ref (b + 32), .int (nI ts0), .int tr]) := h30
  have h31 := (hF 31 (by decide)).trans h31
  have h32 := (hF 32 (by decide)).trans h32
  have h82 := (hF 82 (by decide)).trans h82
  have h83 := (hF 83 (by decide)).trans h83
  have h84 := (hF 84 (by decide)).trans h84
  have hFF := kF_st hFF hF (by first | decide | simp)
  refine lv_aload_n C.1 C.2.1 dX7_copyFrom_42 rfl (lv_at hl 0 rfl) ?_
  refine lv_aload_n C.1 C.2.1 dX7_copyFrom_43 rfl (lv_at hl 1 rfl) ?_
  refine k_get C hw 82 (by omega) h82 rfl inlX7 3 (by decide) q_616 rfl dX7_copyFrom_44 ?_
  refine k_put (tf := .int) C hw 30 (by omega) h30 rfl inlX7 tyX7 tyX7_ok nmX7 3 (by decide) q_616 rfl (by decide +kernel) rfl rfl (Nat.le_of_ble_eq_true rfl) dX7_copyFrom_47 (fun M_4 H locs hw h30 hF => ?_)
  have h30 : M_4 30 = .inr (7, [.ref (b + 31), .ref (b + 32), .int (nI ts0), .int tr0]) := h30
  have h31 := (hF 31 (by decide)).trans h31
  have h32 := (hF 32 (by decide)).trans h32
  have h82 := (hF 82 (by decide)).trans h82
  have h83 := (hF 83 (by decide)).trans h83
  have h84 := (hF 84 (by decide)).trans h84
  have hFF := kF_st hFF hF (by first | decide | simp)
  exact hret _ _ (Nat.le_of_ble_eq_true rfl) (Nat.le_of_ble_eq_true rfl) hw (⟨rfl, hFF, h30, h31, h32⟩) dX7_copyFrom_50

set_option maxHeartbeats 4000000 in
set_option maxRecDepth 100000 in
theorem c_X0_copyFrom_22_74 {l : Launch} {D : va_G} {cI cJ cZ cH cR : ClassId} {b : Nat} {n : Nat} {M : Nat → va_E}  {ct : Nat → Int32} {su : Nat → Int64} {rs : Nat} {ca : Nat} {rn : Nat → Int32} {rk : Nat → Int32} {rv : Nat → Int32} {ts : Nat} {tr : Int32} {tk : Nat → Int32} {tt : Nat → Int32} {ct0 : Nat → Int32} {su0 : Nat → Int64} {rs0 : Nat} {ca0 : Nat} {rn0 : Nat → Int32} {rk0 : Nat → Int32} {rv0 : Nat → Int32} {ts0 : Nat} {tr0 : Int32} {tk0 : Nat → Int32} {tt0 : Nat → Int32}  (hn : 85 ≤ n) (h22 : M 22 = .inr (0, [.ref (b + 23), .ref (b + 26), .ref (b + 30)])) (h23 : M 23 = .inr (6, [.ref (b + 24), .ref (b + 25)])) (h24 : M 24 = .inl (cI, 100, .inl ct)) (h25 : M 25 = .inl (cJ, 100, .inr (.inl su))) (h26 : M 26 = .inr (5, [.ref (b + 27), .ref (b + 28), .ref (b + 29), .int (nI rs), .int (nI ca)])) (h27 : M 27 = .inl (cI, 400, .inl rn)) (h28 : M 28 = .inl (cI, 400, .inl rk)) (h29 : M 29 = .inl (cI, 400, .inl rv)) (h30 : M 30 = .inr (7, [.ref (b + 31), .ref (b + 32), .int (nI ts), .int tr])) (h31 : M 31 = .inl (cI, 40, .inl tk)) (h32 : M 32 = .inl (cI, 40, .inl tt)) (h74 : M 74 = .inr (0, [.ref (b + 75), .ref (b + 78), .ref (b + 82)])) (h75 : M 75 = .inr (6, [.ref (b + 76), .ref (b + 77)])) (h76 : M 76 = .inl (cI, 100, .inl ct0)) (h77 : M 77 = .inl (cJ, 100, .inr (.inl su0))) (h78 : M 78 = .inr (5, [.ref (b + 79), .ref (b + 80), .ref (b + 81), .int (nI rs0), .int (nI ca0)])) (h79 : M 79 = .inl (cI, 400, .inl rn0)) (h80 : M 80 = .inl (cI, 400, .inl rk0)) (h81 : M 81 = .inl (cI, 400, .inl rv0)) (h82 : M 82 = .inr (7, [.ref (b + 83), .ref (b + 84), .int (nI ts0), .int tr0])) (h83 : M 83 = .inl (cI, 40, .inl tk0)) (h84 : M 84 = .inl (cI, 40, .inl tt0)) (hs : rs0 ≤ 400) (ht : ts0 ≤ 40) : Met l yX0_copyFrom (kw yX0_copyFrom cX0_copyFrom 2 none) ({ frames := 2, cells := 0, slots := 0, locals := 61 }) (va_Pc [.ref (b + 22), .ref (b + 74)] (kPre D (kT cI cJ cZ cH cR) b M n)) (va_Qv (fun (u : (Nat → va_E) × Nat) => u.2 = n ∧ kF [24, 25, 26, 27, 28, 29, 30, 31, 32] M u.1 ∧ u.1 24 = .inl (cI, 100, .inl ct0) ∧ u.1 25 = .inl (cJ, 100, .inr (.inl su0)) ∧ u.1 26 = .inr (5, [.ref (b + 27), .ref (b + 28), .ref (b + 29), .int (nI rs0), .int (nI ca0)]) ∧ u.1 27 = .inl (cI, 400, .inl (va_cpy rn0 rn 0 0 rs0)) ∧ u.1 28 = .inl (cI, 400, .inl (va_cpy rk0 rk 0 0 rs0)) ∧ u.1 29 = .inl (cI, 400, .inl (va_cpy rv0 rv 0 0 rs0)) ∧ u.1 30 = .inr (7, [.ref (b + 31), .ref (b + 32), .int (nI ts0), .int (tr0)]) ∧ u.1 31 = .inl (cI, 40, .inl (va_cpy tk0 tk 0 0 ts0)) ∧ u.1 32 = .inl (cI, 40, .inl (va_cpy tt0 tt 0 0 ts0))) (kB D (kT cI cJ cZ cH cR) b) (kA b)) 0 0 (kA b) := by
  refine k_metV (by decide +kernel) (Nat.le_of_ble_eq_true rfl) ?_
  intro p e s m below meth c ls Q C hw hret hnm hl
  have hl : lv_has ls 2 [(0, .ref (b + 22)), (1, .ref (b + 74))] := hl
  have hFF : kF [24, 25, 26, 27, 28, 29, 30, 31, 32] M M := kF_rf
  refine lv_aload_n C.1 C.2.1 dX0_copyFrom_0 rfl (lv_at hl 0 rfl) ?_
  refine k_get C hw 22 (by omega) h22 rfl inlX0 0 (by decide) q_75 rfl dX0_copyFrom_1 ?_
  refine lv_aload_n C.1 C.2.1 dX0_copyFrom_4 rfl (lv_at hl 1 rfl) ?_
  refine k_get C hw 74 (by omega) h74 rfl inlX0 0 (by decide) q_75 rfl dX0_copyFrom_5 ?_
  refine k_vv C hw 23 (by omega) h23 rfl (c_X6_copyFrom_22_74 (by omega) h23 h24 h25 h75 h76 h77 ) kv_X0_35 rfl hl.1 ⟨Nat.le_of_ble_eq_true rfl, Nat.le_of_ble_eq_true rfl⟩ (Nat.le_of_ble_eq_true rfl) ⟨Nat.le_of_ble_eq_true rfl, Nat.le_of_ble_eq_true rfl⟩ dX0_copyFrom_8 (fun M_1 n9 H locs hp hw => ?_)
  obtain ⟨en9, hF, h24, h25⟩ := hp
  have en9 : n9 = n := en9
  rw [en9] at hw
  have h22 := (hF 22 (by decide)).trans h22
  have h23 := (hF 23 (by decide)).trans h23
  have h26 := (hF 26 (by decide)).trans h26
  have h27 := (hF 27 (by decide)).trans h27
  have h28 := (hF 28 (by decide)).trans h28
  have h29 := (hF 29 (by decide)).trans h29
  have h30 := (hF 30 (by decide)).trans h30
  have h31 := (hF 31 (by decide)).trans h31
  have h32 := (hF 32 (by decide)).trans h32
  have h74 := (hF 74 (by decide)).trans h74
  have h75 := (hF 75 (by decide)).trans h75
  have h76 := (hF 76 (by decide)).trans h76
  have h77 := (hF 77 (by decide)).trans h77
  have h78 := (hF 78 (by decide)).trans h78
  have h79 := (hF 79 (by decide)).trans h79
  have h80 := (hF 80 (by decide)).trans h80
  have h81 := (hF 81 (by decide)).trans h81
  have h82 := (hF 82 (by decide)).trans h82
  have h83 := (hF 83 (by decide)).trans h83
  have h84 := (hF 84 (by decide)).trans h84
  have hFF := kF_st hFF hF (by first | decide | simp)
  refine lv_aload_n C.1 C.2.1 dX0_copyFrom_11 rfl (lv_at hl 0 rfl) ?_
  refine k_get C hw 22 (by omega) h22 rfl inlX0 1 (by decide) q_79 rfl dX0_copyFrom_12 ?_
  refine lv_aload_n C.1 C.2.1 dX0_copyFrom_15 rfl (lv_at hl 1 rfl) ?_
  refine k_get C hw 74 (by omega) h74 rfl inlX0 1 (by decide) q_79 rfl dX0_copyFrom_16 ?_
  refine k_vv C hw 26 (by omega) h26 rfl (c_X5_copyFrom_22_74 (by omega) h26 h27 h28 h29 h78 h79 h80 h81 (by omega)) kv_X0_39 rfl hl.1 ⟨Nat.le_of_ble_eq_true rfl, Nat.le_of_ble_eq_true rfl⟩ (Nat.le_of_ble_eq_true rfl) ⟨Nat.le_of_ble_eq_true rfl, Nat.le_of_ble_eq_true rfl⟩ dX0_copyFrom_19 (fun M_2 n9 H locs hp hw => ?_)
  obtain ⟨en9, hF, h26, h27, h28, h29⟩ := hp
  have en9 : n9 = n := en9
  rw [en9] at hw
  have h22 := (hF 22 (by decide)).trans h22
  have h23 := (hF 23 (by decide)).trans h23
  have h24 := (hF 24 (by decide)).trans h24
  have h25 := (hF 25 (by decide)).trans h25
  have h30 := (hF 30 (by decide)).trans h30
  have h31 := (hF 31 (by decide)).trans h31
  have h32 := (hF 32 (by decide)).trans h32
  have h74 := (hF 74 (by decide)).trans h74
  have h75 := (hF 75 (by decide)).trans h75
  have h76 := (hF 76 (by decide)).trans h76
  have h77 := (hF 77 (by decide)).trans h77
  have h78 := (hF 78 (by decide)).trans h78
  have h79 := (hF 79 (by decide)).trans h79
  have h80 := (hF 80 (by decide)).trans h80
  have h81 := (hF 81 (by decide)).trans h81
  have h82 := (hF 82 (by decide)).trans h82
  have h83 := (hF 83 (by decide)).trans h83
  have h84 := (hF 84 (by decide)).trans h84
  have hFF := kF_st hFF hF (by first | decide | simp)
  refine lv_aload_n C.1 C.2.1 dX0_copyFrom_22 rfl (lv_at hl 0 rfl) ?_
  refine k_get C hw 22 (by omega) h22 rfl inlX0 2 (by decide) q_83 rfl dX0_copyFrom_23 ?_
  refine lv_aload_n C.1 C.2.1 dX0_copyFrom_26 rfl (lv_at hl 1 rfl) ?_
  refine k_get C hw 74 (by omega) h74 rfl inlX0 2 (by decide) q_83 rfl dX0_copyFrom_27 ?_
  refine k_vv C hw 30 (by omega) h30 rfl (c_X7_copyFrom_22_74 (by omega) h30 h31 h32 h82 h83 h84 (by omega)) kv_X0_42 rfl hl.1 ⟨Nat.le_of_ble_eq_true rfl, Nat.le_of_ble_eq_true rfl⟩ (Nat.le_of_ble_eq_true rfl) ⟨Nat.le_of_ble_eq_true rfl, Nat.le_of_ble_eq_true rfl⟩ dX0_copyFrom_30 (fun M_3 n9 H locs hp hw => ?_)
  obtain ⟨en9, hF, h30, h31, h32⟩ := hp
  have en9 : n9 = n := en9
  rw [en9] at hw
  have h22 := (hF 22 (by decide)).trans h22
  have h23 := (hF 23 (by decide)).trans h23
  have h24 := (hF 24 (by decide)).trans h24
  have h25 := (hF 25 (by decide)).trans h25
  have h26 := (hF 26 (by decide)).trans h26
  have h27 := (hF 27 (by decide)).trans h27
  have h28 := (hF 28 (by decide)).trans h28
  have h29 := (hF 29 (by decide)).trans h29
  have h74 := (hF 74 (by decide)).trans h74
  have h75 := (hF 75 (by decide)).trans h75
  have h76 := (hF 76 (by decide)).trans h76
  have h77 := (hF 77 (by decide)).trans h77
  have h78 := (hF 78 (by decide)).trans h78
  have h79 := (hF 79 (by decide)).trans h79
  have h80 := (hF 80 (by decide)).trans h80
  have h81 := (hF 81 (by decide)).trans h81
  have h82 := (hF 82 (by decide)).trans h82
  have h83 := (hF 83 (by decide)).trans h83
  have h84 := (hF 84 (by decide)).trans h84
  have hFF := kF_st hFF hF (by first | decide | simp)
  exact hret _ _ (Nat.le_of_ble_eq_true rfl) (Nat.le_of_ble_eq_true rfl) hw (⟨rfl, hFF, h24, h25, h26, h27, h28, h29, h30, h31, h32⟩) dX0_copyFrom_33

set_option maxHeartbeats 4000000 in
set_option maxRecDepth 100000 in
theorem c_X6_copyFrom_22_85 {l : Launch} {D : va_G} {cI cJ cZ cH cR : ClassId} {b : Nat} {n : Nat} {M : Nat → va_E}  {ct : Nat → Int32} {su : Nat → Int64} {ct1 : Nat → Int32} {su1 : Nat → Int64}  (hn : 89 ≤ n) (h23 : M 23 = .inr (6, [.ref (b + 24), .ref (b + 25)])) (h24 : M 24 = .inl (cI, 100, .inl ct)) (h25 : M 25 = .inl (cJ, 100, .inr (.inl su))) (h86 : M 86 = .inr (6, [.ref (b + 87), .ref (b + 88)])) (h87 : M 87 = .inl (cI, 100, .inl ct1)) (h88 : M 88 = .inl (cJ, 100, .inr (.inl su1)))  : Met l yX6_copyFrom (kw yX6_copyFrom cX6_copyFrom 2 none) ({ frames := 1, cells := 0, slots := 0, locals := 40 }) (va_Pc [.ref (b + 23), .ref (b + 86)] (kPre D (kT cI cJ cZ cH cR) b M n)) (va_Qv (fun (u : (Nat → va_E) × Nat) => u.2 = n ∧ kF [24, 25] M u.1 ∧ u.1 24 = .inl (cI, 100, .inl ct1) ∧ u.1 25 = .inl (cJ, 100, .inr (.inl su1))) (kB D (kT cI cJ cZ cH cR) b) (kA b)) 0 0 (kA b) := by
  refine k_metV (by decide +kernel) (Nat.le_of_ble_eq_true rfl) ?_
  intro p e s m below meth c ls Q C hw hret hnm hl
  have hl : lv_has ls 2 [(0, .ref (b + 23)), (1, .ref (b + 86))] := hl
  have hFF : kF [24, 25] M M := kF_rf
  refine lv_aload_n C.1 C.2.1 dX6_copyFrom_0 rfl (lv_at hl 1 rfl) ?_
  refine k_get C hw 86 (by omega) h86 rfl inlX6 0 (by decide) q_88 rfl dX6_copyFrom_1 ?_
  refine lv_iconst (v := nI 0) C.1 C.2.1 dX6_copyFrom_4 (by decide) ?_
  refine lv_aload_n C.1 C.2.1 dX6_copyFrom_5 rfl (lv_at hl 0 rfl) ?_
  refine k_get C hw 23 (by omega) h23 rfl inlX6 0 (by decide) q_88 rfl dX6_copyFrom_6 ?_
  refine lv_iconst (v := nI 0) C.1 C.2.1 dX6_copyFrom_9 (by decide) ?_
  refine lv_bipush (v := nI 100) C.1 C.2.1 dX6_copyFrom_10 (by decide) ?_
  refine k_copyi C hw hl.1 q_607 q_276 q_277 q_278 87 24 (by omega) (by omega) h87 h24 (by omega) (by omega) (by decide) (by decide) (Nat.le_of_ble_eq_true rfl) (by decide) dX6_copyFrom_12 (fun M_1 H locs hw h24 hF => ?_)
  have h23 := (hF 23 (by decide)).trans h23
  have h25 := (hF 25 (by decide)).trans h25
  have h86 := (hF 86 (by decide)).trans h86
  have h87 := (hF 87 (by decide)).trans h87
  have h88 := (hF 88 (by decide)).trans h88
  have hFF := kF_st hFF hF (by first | decide | simp)
  refine lv_aload_n C.1 C.2.1 dX6_copyFrom_15 rfl (lv_at hl 1 rfl) ?_
  refine k_get C hw 86 (by omega) h86 rfl inlX6 1 (by decide) q_90 rfl dX6_copyFrom_16 ?_
  refine lv_iconst (v := nI 0) C.1 C.2.1 dX6_copyFrom_19 (by decide) ?_
  refine lv_aload_n C.1 C.2.1 dX6_copyFrom_20 rfl (lv_at hl 0 rfl) ?_
  refine k_get C hw 23 (by omega) h23 rfl inlX6 1 (by decide) q_90 rfl dX6_copyFrom_21 ?_
  refine lv_iconst (v := nI 0) C.1 C.2.1 dX6_copyFrom_24 (by decide) ?_
  refine lv_bipush (v := nI 100) C.1 C.2.1 dX6_copyFrom_25 (by decide) ?_
  refine k_copyl C hw hl.1 q_607 q_276 q_277 q_278 88 25 (by omega) (by omega) h88 h25 (by omega) (by omega) (by decide) (by decide) (Nat.le_of_ble_eq_true rfl) (by decide) dX6_copyFrom_27 (fun M_2 H locs hw h25 hF => ?_)
  have h23 := (hF 23 (by decide)).trans h23
  have h24 := (hF 24 (by decide)).trans h24
  have h86 := (hF 86 (by decide)).trans h86
  have h87 := (hF 87 (by decide)).trans h87
  have h88 := (hF 88 (by decide)).trans h88
  have hFF := kF_st hFF hF (by first | decide | simp)
  obtain ⟨M_3, hw, h24, hF⟩ := k_extI hw 24 (by omega) h24 (ct1) (fun j hj => cpy00 hj)
  have h23 := (hF 23 (by decide)).trans h23
  have h25 := (hF 25 (by decide)).trans h25
  have h86 := (hF 86 (by decide)).trans h86
  have h87 := (hF 87 (by decide)).trans h87
  have h88 := (hF 88 (by decide)).trans h88
  have hFF := kF_st hFF hF (by first | decide | simp)
  obtain ⟨M_4, hw, h25, hF⟩ := k_extJ hw 25 (by omega) h25 (su1) (fun j hj => cpy00 hj)
  have h23 := (hF 23 (by decide)).trans h23
  have h24 := (hF 24 (by decide)).trans h24
  have h86 := (hF 86 (by decide)).trans h86
  have h87 := (hF 87 (by decide)).trans h87
  have h88 := (hF 88 (by decide)).trans h88
  have hFF := kF_st hFF hF (by first | decide | simp)
  exact hret _ _ (Nat.le_of_ble_eq_true rfl) (Nat.le_of_ble_eq_true rfl) hw (⟨rfl, hFF, h24, h25⟩) dX6_copyFrom_30

set_option maxHeartbeats 4000000 in
set_option maxRecDepth 100000 in
theorem c_X5_copyFrom_22_85 {l : Launch} {D : va_G} {cI cJ cZ cH cR : ClassId} {b : Nat} {n : Nat} {M : Nat → va_E}  {rs : Nat} {ca : Nat} {rn : Nat → Int32} {rk : Nat → Int32} {rv : Nat → Int32} {rs1 : Nat} {ca1 : Nat} {rn1 : Nat → Int32} {rk1 : Nat → Int32} {rv1 : Nat → Int32}  (hn : 93 ≤ n) (h26 : M 26 = .inr (5, [.ref (b + 27), .ref (b + 28), .ref (b + 29), .int (nI rs), .int (nI ca)])) (h27 : M 27 = .inl (cI, 400, .inl rn)) (h28 : M 28 = .inl (cI, 400, .inl rk)) (h29 : M 29 = .inl (cI, 400, .inl rv)) (h89 : M 89 = .inr (5, [.ref (b + 90), .ref (b + 91), .ref (b + 92), .int (nI rs1), .int (nI ca1)])) (h90 : M 90 = .inl (cI, 400, .inl rn1)) (h91 : M 91 = .inl (cI, 400, .inl rk1)) (h92 : M 92 = .inl (cI, 400, .inl rv1)) (hs : rs1 ≤ 400) : Met l yX5_copyFrom (kw yX5_copyFrom cX5_copyFrom 2 none) ({ frames := 1, cells := 0, slots := 0, locals := 40 }) (va_Pc [.ref (b + 26), .ref (b + 89)] (kPre D (kT cI cJ cZ cH cR) b M n)) (va_Qv (fun (u : (Nat → va_E) × Nat) => u.2 = n ∧ kF [26, 27, 28, 29] M u.1 ∧ u.1 26 = .inr (5, [.ref (b + 27), .ref (b + 28), .ref (b + 29), .int (nI rs1), .int (nI ca1)]) ∧ u.1 27 = .inl (cI, 400, .inl (va_cpy rn1 rn 0 0 rs1)) ∧ u.1 28 = .inl (cI, 400, .inl (va_cpy rk1 rk 0 0 rs1)) ∧ u.1 29 = .inl (cI, 400, .inl (va_cpy rv1 rv 0 0 rs1))) (kB D (kT cI cJ cZ cH cR) b) (kA b)) 0 0 (kA b) := by
  refine k_metV (by decide +kernel) (Nat.le_of_ble_eq_true rfl) ?_
  intro p e s m below meth c ls Q C hw hret hnm hl
  have hl : lv_has ls 2 [(0, .ref (b + 26)), (1, .ref (b + 89))] := hl
  have hFF : kF [26, 27, 28, 29] M M := kF_rf
  refine lv_aload_n C.1 C.2.1 dX5_copyFrom_0 rfl (lv_at hl 1 rfl) ?_
  refine k_get C hw 89 (by omega) h89 rfl inlX5 0 (by decide) q_95 rfl dX5_copyFrom_1 ?_
  refine lv_iconst (v := nI 0) C.1 C.2.1 dX5_copyFrom_4 (by decide) ?_
  refine lv_aload_n C.1 C.2.1 dX5_copyFrom_5 rfl (lv_at hl 0 rfl) ?_
  refine k_get C hw 26 (by omega) h26 rfl inlX5 0 (by decide) q_95 rfl dX5_copyFrom_6 ?_
  refine lv_iconst (v := nI 0) C.1 C.2.1 dX5_copyFrom_9 (by decide) ?_
  refine lv_aload_n C.1 C.2.1 dX5_copyFrom_10 rfl (lv_at hl 1 rfl) ?_
  refine k_get C hw 89 (by omega) h89 rfl inlX5 3 (by decide) q_239 rfl dX5_copyFrom_11 ?_
  refine k_copyi C hw hl.1 q_275 q_276 q_277 q_278 90 27 (by omega) (by omega) h90 h27 (by omega) (by omega) (by decide) (by decide) (Nat.le_of_ble_eq_true rfl) (by decide) dX5_copyFrom_14 (fun M_1 H locs hw h27 hF => ?_)
  have h26 := (hF 26 (by decide)).trans h26
  have h28 := (hF 28 (by decide)).trans h28
  have h29 := (hF 29 (by decide)).trans h29
  have h89 := (hF 89 (by decide)).trans h89
  have h90 := (hF 90 (by decide)).trans h90
  have h91 := (hF 91 (by decide)).trans h91
  have h92 := (hF 92 (by decide)).trans h92
  have hFF := kF_st hFF hF (by first | decide | simp)
  refine lv_aload_n C.1 C.2.1 dX5_copyFrom_17 rfl (lv_at hl 1 rfl) ?_
  refine k_get C hw 89 (by omega) h89 rfl inlX5 1 (by decide) q_96 rfl dX5_copyFrom_18 ?_
  refine lv_iconst (v := nI 0) C.1 C.2.1 dX5_copyFrom_21 (by decide) ?_
  refine lv_aload_n C.1 C.2.1 dX5_copyFrom_22 rfl (lv_at hl 0 rfl) ?_
  refine k_get C hw 26 (by omega) h26 rfl inlX5 1 (by decide) q_96 rfl dX5_copyFrom_23 ?_
  refine lv_iconst (v := nI 0) C.1 C.2.1 dX5_copyFrom_26 (by decide) ?_
  refine lv_aload_n C.1 C.2.1 dX5_copyFrom_27 rfl (lv_at hl 1 rfl) ?_
  refine k_get C hw 89 (by omega) h89 rfl inlX5 3 (by decide) q_239 rfl dX5_copyFrom_28 ?_
  refine k_copyi C hw hl.1 q_275 q_276 q_277 q_278 91 28 (by omega) (by omega) h91 h28 (by omega) (by omega) (by decide) (by decide) (Nat.le_of_ble_eq_true rfl) (by decide) dX5_copyFrom_31 (fun M_2 H locs hw h28 hF => ?_)
  have h26 := (hF 26 (by decide)).trans h26
  have h27 := (hF 27 (by decide)).trans h27
  have h29 := (hF 29 (by decide)).trans h29
  have h89 := (hF 89 (by decide)).trans h89
  have h90 := (hF 90 (by decide)).trans h90
  have h91 := (hF 91 (by decide)).trans h91
  have h92 := (hF 92 (by decide)).trans h92
  have hFF := kF_st hFF hF (by first | decide | simp)
  refine lv_aload_n C.1 C.2.1 dX5_copyFrom_34 rfl (lv_at hl 1 rfl) ?_
  refine k_get C hw 89 (by omega) h89 rfl inlX5 2 (by decide) q_97 rfl dX5_copyFrom_35 ?_
  refine lv_iconst (v := nI 0) C.1 C.2.1 dX5_copyFrom_38 (by decide) ?_
  refine lv_aload_n C.1 C.2.1 dX5_copyFrom_39 rfl (lv_at hl 0 rfl) ?_
  refine k_get C hw 26 (by omega) h26 rfl inlX5 2 (by decide) q_97 rfl dX5_copyFrom_40 ?_
  refine lv_iconst (v := nI 0) C.1 C.2.1 dX5_copyFrom_43 (by decide) ?_
  refine lv_aload_n C.1 C.2.1 dX5_copyFrom_44 rfl (lv_at hl 1 rfl) ?_
  refine k_get C hw 89 (by omega) h89 rfl inlX5 3 (by decide) q_239 rfl dX5_copyFrom_45 ?_
  refine k_copyi C hw hl.1 q_275 q_276 q_277 q_278 92 29 (by omega) (by omega) h92 h29 (by omega) (by omega) (by decide) (by decide) (Nat.le_of_ble_eq_true rfl) (by decide) dX5_copyFrom_48 (fun M_3 H locs hw h29 hF => ?_)
  have h26 := (hF 26 (by decide)).trans h26
  have h27 := (hF 27 (by decide)).trans h27
  have h28 := (hF 28 (by decide)).trans h28
  have h89 := (hF 89 (by decide)).trans h89
  have h90 := (hF 90 (by decide)).trans h90
  have h91 := (hF 91 (by decide)).trans h91
  have h92 := (hF 92 (by decide)).trans h92
  have hFF := kF_st hFF hF (by first | decide | simp)
  refine lv_aload_n C.1 C.2.1 dX5_copyFrom_51 rfl (lv_at hl 0 rfl) ?_
  refine lv_aload_n C.1 C.2.1 dX5_copyFrom_52 rfl (lv_at hl 1 rfl) ?_
  refine k_get C hw 89 (by omega) h89 rfl inlX5 3 (by decide) q_239 rfl dX5_copyFrom_53 ?_
  refine k_put (tf := .int) C hw 26 (by omega) h26 rfl inlX5 tyX5 tyX5_ok nmX5 3 (by decide) q_239 rfl (by decide +kernel) rfl rfl (Nat.le_of_ble_eq_true rfl) dX5_copyFrom_56 (fun M_4 H locs hw h26 hF => ?_)
  have h26 : M_4 26 = .inr (5, [.ref (b + 27), .ref (b + 28), .ref (b + 29), .int (nI rs1), .int (nI ca)]) := h26
  have h27 := (hF 27 (by decide)).trans h27
  have h28 := (hF 28 (by decide)).trans h28
  have h29 := (hF 29 (by decide)).trans h29
  have h89 := (hF 89 (by decide)).trans h89
  have h90 := (hF 90 (by decide)).trans h90
  have h91 := (hF 91 (by decide)).trans h91
  have h92 := (hF 92 (by decide)).trans h92
  have hFF := kF_st hFF hF (by first | decide | simp)
  refine lv_aload_n C.1 C.2.1 dX5_copyFrom_59 rfl (lv_at hl 0 rfl) ?_
  refine lv_aload_n C.1 C.2.1 dX5_copyFrom_60 rfl (lv_at hl 1 rfl) ?_
  refine k_get C hw 89 (by omega) h89 rfl inlX5 4 (by decide) q_240 rfl dX5_copyFrom_61 ?_
  refine k_put (tf := .int) C hw 26 (by omega) h26 rfl inlX5 tyX5 tyX5_ok nmX5 4 (by decide) q_240 rfl (by decide +kernel) rfl rfl (Nat.le_of_ble_eq_true rfl) dX5_copyFrom_64 (fun M_5 H locs hw h26 hF => ?_)
  have h26 : M_5 26 = .inr (5, [.ref (b + 27), .ref (b + 28), .ref (b + 29), .int (nI rs1), .int (nI ca1)]) := h26
  have h27 := (hF 27 (by decide)).trans h27
  have h28 := (hF 28 (by decide)).trans h28
  have h29 := (hF 29 (by decide)).trans h29
  have h89 := (hF 89 (by decide)).trans h89
  have h90 := (hF 90 (by decide)).trans h90
  have h91 := (hF 91 (by decide)).trans h91
  have h92 := (hF 92 (by decide)).trans h92
  have hFF := kF_st hFF hF (by first | decide | simp)
  exact hret _ _ (Nat.le_of_ble_eq_true rfl) (Nat.le_of_ble_eq_true rfl) hw (⟨rfl, hFF, h26, h27, h28, h29⟩) dX5_copyFrom_67

set_option maxHeartbeats 4000000 in
set_option maxRecDepth 100000 in
theorem c_X7_copyFrom_22_85 {l : Launch} {D : va_G} {cI cJ cZ cH cR : ClassId} {b : Nat} {n : Nat} {M : Nat → va_E}  {ts : Nat} {tr : Int32} {tk : Nat → Int32} {tt : Nat → Int32} {ts1 : Nat} {tr1 : Int32} {tk1 : Nat → Int32} {tt1 : Nat → Int32}  (hn : 96 ≤ n) (h30 : M 30 = .inr (7, [.ref (b + 31), .ref (b + 32), .int (nI ts), .int tr])) (h31 : M 31 = .inl (cI, 40, .inl tk)) (h32 : M 32 = .inl (cI, 40, .inl tt)) (h93 : M 93 = .inr (7, [.ref (b + 94), .ref (b + 95), .int (nI ts1), .int tr1])) (h94 : M 94 = .inl (cI, 40, .inl tk1)) (h95 : M 95 = .inl (cI, 40, .inl tt1)) (ht : ts1 ≤ 40) : Met l yX7_copyFrom (kw yX7_copyFrom cX7_copyFrom 2 none) ({ frames := 1, cells := 0, slots := 0, locals := 40 }) (va_Pc [.ref (b + 30), .ref (b + 93)] (kPre D (kT cI cJ cZ cH cR) b M n)) (va_Qv (fun (u : (Nat → va_E) × Nat) => u.2 = n ∧ kF [30, 31, 32] M u.1 ∧ u.1 30 = .inr (7, [.ref (b + 31), .ref (b + 32), .int (nI ts1), .int (tr1)]) ∧ u.1 31 = .inl (cI, 40, .inl (va_cpy tk1 tk 0 0 ts1)) ∧ u.1 32 = .inl (cI, 40, .inl (va_cpy tt1 tt 0 0 ts1))) (kB D (kT cI cJ cZ cH cR) b) (kA b)) 0 0 (kA b) := by
  refine k_metV (by decide +kernel) (Nat.le_of_ble_eq_true rfl) ?_
  intro p e s m below meth c ls Q C hw hret hnm hl
  have hl : lv_has ls 2 [(0, .ref (b + 30)), (1, .ref (b + 93))] := hl
  have hFF : kF [30, 31, 32] M M := kF_rf
  refine lv_aload_n C.1 C.2.1 dX7_copyFrom_0 rfl (lv_at hl 1 rfl) ?_
  refine k_get C hw 93 (by omega) h93 rfl inlX7 0 (by decide) q_102 rfl dX7_copyFrom_1 ?_
  refine lv_iconst (v := nI 0) C.1 C.2.1 dX7_copyFrom_4 (by decide) ?_
  refine lv_aload_n C.1 C.2.1 dX7_copyFrom_5 rfl (lv_at hl 0 rfl) ?_
  refine k_get C hw 30 (by omega) h30 rfl inlX7 0 (by decide) q_102 rfl dX7_copyFrom_6 ?_
  refine lv_iconst (v := nI 0) C.1 C.2.1 dX7_copyFrom_9 (by decide) ?_
  refine lv_aload_n C.1 C.2.1 dX7_copyFrom_10 rfl (lv_at hl 1 rfl) ?_
  refine k_get C hw 93 (by omega) h93 rfl inlX7 2 (by decide) q_498 rfl dX7_copyFrom_11 ?_
  refine k_copyi C hw hl.1 q_499 q_276 q_277 q_278 94 31 (by omega) (by omega) h94 h31 (by omega) (by omega) (by decide) (by decide) (Nat.le_of_ble_eq_true rfl) (by decide) dX7_copyFrom_14 (fun M_1 H locs hw h31 hF => ?_)
  have h30 := (hF 30 (by decide)).trans h30
  have h32 := (hF 32 (by decide)).trans h32
  have h93 := (hF 93 (by decide)).trans h93
  have h94 := (hF 94 (by decide)).trans h94
  have h95 := (hF 95 (by decide)).trans h95
  have hFF := kF_st hFF hF (by first | decide | simp)
  refine lv_aload_n C.1 C.2.1 dX7_copyFrom_17 rfl (lv_at hl 1 rfl) ?_
  refine k_get C hw 93 (by omega) h93 rfl inlX7 1 (by decide) q_103 rfl dX7_copyFrom_18 ?_
  refine lv_iconst (v := nI 0) C.1 C.2.1 dX7_copyFrom_21 (by decide) ?_
  refine lv_aload_n C.1 C.2.1 dX7_copyFrom_22 rfl (lv_at hl 0 rfl) ?_
  refine k_get C hw 30 (by omega) h30 rfl inlX7 1 (by decide) q_103 rfl dX7_copyFrom_23 ?_
  refine lv_iconst (v := nI 0) C.1 C.2.1 dX7_copyFrom_26 (by decide) ?_
  refine lv_aload_n C.1 C.2.1 dX7_copyFrom_27 rfl (lv_at hl 1 rfl) ?_
  refine k_get C hw 93 (by omega) h93 rfl inlX7 2 (by decide) q_498 rfl dX7_copyFrom_28 ?_
  refine k_copyi C hw hl.1 q_499 q_276 q_277 q_278 95 32 (by omega) (by omega) h95 h32 (by omega) (by omega) (by decide) (by decide) (Nat.le_of_ble_eq_true rfl) (by decide) dX7_copyFrom_31 (fun M_2 H locs hw h32 hF => ?_)
  have h30 := (hF 30 (by decide)).trans h30
  have h31 := (hF 31 (by decide)).trans h31
  have h93 := (hF 93 (by decide)).trans h93
  have h94 := (hF 94 (by decide)).trans h94
  have h95 := (hF 95 (by decide)).trans h95
  have hFF := kF_st hFF hF (by first | decide | simp)
  refine lv_aload_n C.1 C.2.1 dX7_copyFrom_34 rfl (lv_at hl 0 rfl) ?_
  refine lv_aload_n C.1 C.2.1 dX7_copyFrom_35 rfl (lv_at hl 1 rfl) ?_
  refine k_get C hw 93 (by omega) h93 rfl inlX7 2 (by decide) q_498 rfl dX7_copyFrom_36 ?_
  refine k_put (tf := .int) C hw 30 (by omega) h30 rfl inlX7 tyX7 tyX7_ok nmX7 2 (by decide) q_498 rfl (by decide +kernel) rfl rfl (Nat.le_of_ble_eq_true rfl) dX7_copyFrom_39 (fun M_3 H locs hw h30 hF => ?_)
  have h30 : M_3 30 = .inr (7, [.ref (b + 31), .ref (b + 32), .int (nI ts1), .int tr]) := h30
  have h31 := (hF 31 (by decide)).trans h31
  have h32 := (hF 32 (by decide)).trans h32
  have h93 := (hF 93 (by decide)).trans h93
  have h94 := (hF 94 (by decide)).trans h94
  have h95 := (hF 95 (by decide)).trans h95
  have hFF := kF_st hFF hF (by first | decide | simp)
  refine lv_aload_n C.1 C.2.1 dX7_copyFrom_42 rfl (lv_at hl 0 rfl) ?_
  refine lv_aload_n C.1 C.2.1 dX7_copyFrom_43 rfl (lv_at hl 1 rfl) ?_
  refine k_get C hw 93 (by omega) h93 rfl inlX7 3 (by decide) q_616 rfl dX7_copyFrom_44 ?_
  refine k_put (tf := .int) C hw 30 (by omega) h30 rfl inlX7 tyX7 tyX7_ok nmX7 3 (by decide) q_616 rfl (by decide +kernel) rfl rfl (Nat.le_of_ble_eq_true rfl) dX7_copyFrom_47 (fun M_4 H locs hw h30 hF => ?_)
  have h30 : M_4 30 = .inr (7, [.ref (b + 31), .ref (b + 32), .int (nI ts1), .int tr1]) := h30
  have h31 := (hF 31 (by decide)).trans h31
  have h32 := (hF 32 (by decide)).trans h32
  have h93 := (hF 93 (by decide)).trans h93
  have h94 := (hF 94 (by decide)).trans h94
  have h95 := (hF 95 (by decide)).trans h95
  have hFF := kF_st hFF hF (by first | decide | simp)
  exact hret _ _ (Nat.le_of_ble_eq_true rfl) (Nat.le_of_ble_eq_true rfl) hw (⟨rfl, hFF, h30, h31, h32⟩) dX7_copyFrom_50

set_option maxHeartbeats 4000000 in
set_option maxRecDepth 100000 in
theorem c_X0_copyFrom_22_85 {l : Launch} {D : va_G} {cI cJ cZ cH cR : ClassId} {b : Nat} {n : Nat} {M : Nat → va_E}  {ct : Nat → Int32} {su : Nat → Int64} {rs : Nat} {ca : Nat} {rn : Nat → Int32} {rk : Nat → Int32} {rv : Nat → Int32} {ts : Nat} {tr : Int32} {tk : Nat → Int32} {tt : Nat → Int32} {ct1 : Nat → Int32} {su1 : Nat → Int64} {rs1 : Nat} {ca1 : Nat} {rn1 : Nat → Int32} {rk1 : Nat → Int32} {rv1 : Nat → Int32} {ts1 : Nat} {tr1 : Int32} {tk1 : Nat → Int32} {tt1 : Nat → Int32}  (hn : 96 ≤ n) (h22 : M 22 = .inr (0, [.ref (b + 23), .ref (b + 26), .ref (b + 30)])) (h23 : M 23 = .inr (6, [.ref (b + 24), .ref (b + 25)])) (h24 : M 24 = .inl (cI, 100, .inl ct)) (h25 : M 25 = .inl (cJ, 100, .inr (.inl su))) (h26 : M 26 = .inr (5, [.ref (b + 27), .ref (b + 28), .ref (b + 29), .int (nI rs), .int (nI ca)])) (h27 : M 27 = .inl (cI, 400, .inl rn)) (h28 : M 28 = .inl (cI, 400, .inl rk)) (h29 : M 29 = .inl (cI, 400, .inl rv)) (h30 : M 30 = .inr (7, [.ref (b + 31), .ref (b + 32), .int (nI ts), .int tr])) (h31 : M 31 = .inl (cI, 40, .inl tk)) (h32 : M 32 = .inl (cI, 40, .inl tt)) (h85 : M 85 = .inr (0, [.ref (b + 86), .ref (b + 89), .ref (b + 93)])) (h86 : M 86 = .inr (6, [.ref (b + 87), .ref (b + 88)])) (h87 : M 87 = .inl (cI, 100, .inl ct1)) (h88 : M 88 = .inl (cJ, 100, .inr (.inl su1))) (h89 : M 89 = .inr (5, [.ref (b + 90), .ref (b + 91), .ref (b + 92), .int (nI rs1), .int (nI ca1)])) (h90 : M 90 = .inl (cI, 400, .inl rn1)) (h91 : M 91 = .inl (cI, 400, .inl rk1)) (h92 : M 92 = .inl (cI, 400, .inl rv1)) (h93 : M 93 = .inr (7, [.ref (b + 94), .ref (b + 95), .int (nI ts1), .int tr1])) (h94 : M 94 = .inl (cI, 40, .inl tk1)) (h95 : M 95 = .inl (cI, 40, .inl tt1)) (hs : rs1 ≤ 400) (ht : ts1 ≤ 40) : Met l yX0_copyFrom (kw yX0_copyFrom cX0_copyFrom 2 none) ({ frames := 2, cells := 0, slots := 0, locals := 61 }) (va_Pc [.ref (b + 22), .ref (b + 85)] (kPre D (kT cI cJ cZ cH cR) b M n)) (va_Qv (fun (u : (Nat → va_E) × Nat) => u.2 = n ∧ kF [24, 25, 26, 27, 28, 29, 30, 31, 32] M u.1 ∧ u.1 24 = .inl (cI, 100, .inl ct1) ∧ u.1 25 = .inl (cJ, 100, .inr (.inl su1)) ∧ u.1 26 = .inr (5, [.ref (b + 27), .ref (b + 28), .ref (b + 29), .int (nI rs1), .int (nI ca1)]) ∧ u.1 27 = .inl (cI, 400, .inl (va_cpy rn1 rn 0 0 rs1)) ∧ u.1 28 = .inl (cI, 400, .inl (va_cpy rk1 rk 0 0 rs1)) ∧ u.1 29 = .inl (cI, 400, .inl (va_cpy rv1 rv 0 0 rs1)) ∧ u.1 30 = .inr (7, [.ref (b + 31), .ref (b + 32), .int (nI ts1), .int (tr1)]) ∧ u.1 31 = .inl (cI, 40, .inl (va_cpy tk1 tk 0 0 ts1)) ∧ u.1 32 = .inl (cI, 40, .inl (va_cpy tt1 tt 0 0 ts1))) (kB D (kT cI cJ cZ cH cR) b) (kA b)) 0 0 (kA b) := by
  refine k_metV (by decide +kernel) (Nat.le_of_ble_eq_true rfl) ?_
  intro p e s m below meth c ls Q C hw hret hnm hl
  have hl : lv_has ls 2 [(0, .ref (b + 22)), (1, .ref (b + 85))] := hl
  have hFF : kF [24, 25, 26, 27, 28, 29, 30, 31, 32] M M := kF_rf
  refine lv_aload_n C.1 C.2.1 dX0_copyFrom_0 rfl (lv_at hl 0 rfl) ?_
  refine k_get C hw 22 (by omega) h22 rfl inlX0 0 (by decide) q_75 rfl dX0_copyFrom_1 ?_
  refine lv_aload_n C.1 C.2.1 dX0_copyFrom_4 rfl (lv_at hl 1 rfl) ?_
  refine k_get C hw 85 (by omega) h85 rfl inlX0 0 (by decide) q_75 rfl dX0_copyFrom_5 ?_
  refine k_vv C hw 23 (by omega) h23 rfl (c_X6_copyFrom_22_85 (by omega) h23 h24 h25 h86 h87 h88 ) kv_X0_35 rfl hl.1 ⟨Nat.le_of_ble_eq_true rfl, Nat.le_of_ble_eq_true rfl⟩ (Nat.le_of_ble_eq_true rfl) ⟨Nat.le_of_ble_eq_true rfl, Nat.le_of_ble_eq_true rfl⟩ dX0_copyFrom_8 (fun M_1 n9 H locs hp hw => ?_)
  obtain ⟨en9, hF, h24, h25⟩ := hp
  have en9 : n9 = n := en9
  rw [en9] at hw
  have h22 := (hF 22 (by decide)).trans h22
  have h23 := (hF 23 (by decide)).trans h23
  have h26 := (hF 26 (by decide)).trans h26
  have h27 := (hF 27 (by decide)).trans h27
  have h28 := (hF 28 (by decide)).trans h28
  have h29 := (hF 29 (by decide)).trans h29
  have h30 := (hF 30 (by decide)).trans h30
  have h31 := (hF 31 (by decide)).trans h31
  have h32 := (hF 32 (by decide)).trans h32
  have h85 := (hF 85 (by decide)).trans h85
  have h86 := (hF 86 (by decide)).trans h86
  have h87 := (hF 87 (by decide)).trans h87
  have h88 := (hF 88 (by decide)).trans h88
  have h89 := (hF 89 (by decide)).trans h89
  have h90 := (hF 90 (by decide)).trans h90
  have h91 := (hF 91 (by decide)).trans h91
  have h92 := (hF 92 (by decide)).trans h92
  have h93 := (hF 93 (by decide)).trans h93
  have h94 := (hF 94 (by decide)).trans h94
  have h95 := (hF 95 (by decide)).trans h95
  have hFF := kF_st hFF hF (by first | decide | simp)
  refine lv_aload_n C.1 C.2.1 dX0_copyFrom_11 rfl (lv_at hl 0 rfl) ?_
  refine k_get C hw 22 (by omega) h22 rfl inlX0 1 (by decide) q_79 rfl dX0_copyFrom_12 ?_
  refine lv_aload_n C.1 C.2.1 dX0_copyFrom_15 rfl (lv_at hl 1 rfl) ?_
  refine k_get C hw 85 (by omega) h85 rfl inlX0 1 (by decide) q_79 rfl dX0_copyFrom_16 ?_
  refine k_vv C hw 26 (by omega) h26 rfl (c_X5_copyFrom_22_85 (by omega) h26 h27 h28 h29 h89 h90 h91 h92 (by omega)) kv_X0_39 rfl hl.1 ⟨Nat.le_of_ble_eq_true rfl, Nat.le_of_ble_eq_true rfl⟩ (Nat.le_of_ble_eq_true rfl) ⟨Nat.le_of_ble_eq_true rfl, Nat.le_of_ble_eq_true rfl⟩ dX0_copyFrom_19 (fun M_2 n9 H locs hp hw => ?_)
  obtain ⟨en9, hF, h26, h27, h28, h29⟩ := hp
  have en9 : n9 = n := en9
  rw [en9] at hw
  have h22 := (hF 22 (by decide)).trans h22
  have h23 := (hF 23 (by decide)).trans h23
  have h24 := (hF 24 (by decide)).trans h24
  have h25 := (hF 25 (by decide)).trans h25
  have h30 := (hF 30 (by decide)).trans h30
  have h31 := (hF 31 (by decide)).trans h31
  have h32 := (hF 32 (by decide)).trans h32
  have h85 := (hF 85 (by decide)).trans h85
  have h86 := (hF 86 (by decide)).trans h86
  have h87 := (hF 87 (by decide)).trans h87
  have h88 := (hF 88 (by decide)).trans h88
  have h89 := (hF 89 (by decide)).trans h89
  have h90 := (hF 90 (by decide)).trans h90
  have h91 := (hF 91 (by decide)).trans h91
  have h92 := (hF 92 (by decide)).trans h92
  have h93 := (hF 93 (by decide)).trans h93
  have h94 := (hF 94 (by decide)).trans h94
  have h95 := (hF 95 (by decide)).trans h95
  have hFF := kF_st hFF hF (by first | decide | simp)
  refine lv_aload_n C.1 C.2.1 dX0_copyFrom_22 rfl (lv_at hl 0 rfl) ?_
  refine k_get C hw 22 (by omega) h22 rfl inlX0 2 (by decide) q_83 rfl dX0_copyFrom_23 ?_
  refine lv_aload_n C.1 C.2.1 dX0_copyFrom_26 rfl (lv_at hl 1 rfl) ?_
  refine k_get C hw 85 (by omega) h85 rfl inlX0 2 (by decide) q_83 rfl dX0_copyFrom_27 ?_
  refine k_vv C hw 30 (by omega) h30 rfl (c_X7_copyFrom_22_85 (by omega) h30 h31 h32 h93 h94 h95 (by omega)) kv_X0_42 rfl hl.1 ⟨Nat.le_of_ble_eq_true rfl, Nat.le_of_ble_eq_true rfl⟩ (Nat.le_of_ble_eq_true rfl) ⟨Nat.le_of_ble_eq_true rfl, Nat.le_of_ble_eq_true rfl⟩ dX0_copyFrom_30 (fun M_3 n9 H locs hp hw => ?_)
  obtain ⟨en9, hF, h30, h31, h32⟩ := hp
  have en9 : n9 = n := en9
  rw [en9] at hw
  have h22 := (hF 22 (by decide)).trans h22
  have h23 := (hF 23 (by decide)).trans h23
  have h24 := (hF 24 (by decide)).trans h24
  have h25 := (hF 25 (by decide)).trans h25
  have h26 := (hF 26 (by decide)).trans h26
  have h27 := (hF 27 (by decide)).trans h27
  have h28 := (hF 28 (by decide)).trans h28
  have h29 := (hF 29 (by decide)).trans h29
  have h85 := (hF 85 (by decide)).trans h85
  have h86 := (hF 86 (by decide)).trans h86
  have h87 := (hF 87 (by decide)).trans h87
  have h88 := (hF 88 (by decide)).trans h88
  have h89 := (hF 89 (by decide)).trans h89
  have h90 := (hF 90 (by decide)).trans h90
  have h91 := (hF 91 (by decide)).trans h91
  have h92 := (hF 92 (by decide)).trans h92
  have h93 := (hF 93 (by decide)).trans h93
  have h94 := (hF 94 (by decide)).trans h94
  have h95 := (hF 95 (by decide)).trans h95
  have hFF := kF_st hFF hF (by first | decide | simp)
  exact hret _ _ (Nat.le_of_ble_eq_true rfl) (Nat.le_of_ble_eq_true rfl) hw (⟨rfl, hFF, h24, h25, h26, h27, h28, h29, h30, h31, h32⟩) dX0_copyFrom_33

set_option maxHeartbeats 4000000 in
set_option maxRecDepth 100000 in
theorem c_X6_copyFrom_22_96 {l : Launch} {D : va_G} {cI cJ cZ cH cR : ClassId} {b : Nat} {n : Nat} {M : Nat → va_E}  {ct : Nat → Int32} {su : Nat → Int64} {ct2 : Nat → Int32} {su2 : Nat → Int64}  (hn : 100 ≤ n) (h23 : M 23 = .inr (6, [.ref (b + 24), .ref (b + 25)])) (h24 : M 24 = .inl (cI, 100, .inl ct)) (h25 : M 25 = .inl (cJ, 100, .inr (.inl su))) (h97 : M 97 = .inr (6, [.ref (b + 98), .ref (b + 99)])) (h98 : M 98 = .inl (cI, 100, .inl ct2)) (h99 : M 99 = .inl (cJ, 100, .inr (.inl su2)))  : Met l yX6_copyFrom (kw yX6_copyFrom cX6_copyFrom 2 none) ({ frames := 1, cells := 0, slots := 0, locals := 40 }) (va_Pc [.ref (b + 23), .ref (b + 97)] (kPre D (kT cI cJ cZ cH cR) b M n)) (va_Qv (fun (u : (Nat → va_E) × Nat) => u.2 = n ∧ kF [24, 25] M u.1 ∧ u.1 24 = .inl (cI, 100, .inl ct2) ∧ u.1 25 = .inl (cJ, 100, .inr (.inl su2))) (kB D (kT cI cJ cZ cH cR) b) (kA b)) 0 0 (kA b) := by
  refine k_metV (by decide +kernel) (Nat.le_of_ble_eq_true rfl) ?_
  intro p e s m below meth c ls Q C hw hret hnm hl
  have hl : lv_has ls 2 [(0, .ref (b + 23)), (1, .ref (b + 97))] := hl
  have hFF : kF [24, 25] M M := kF_rf
  refine lv_aload_n C.1 C.2.1 dX6_copyFrom_0 rfl (lv_at hl 1 rfl) ?_
  refine k_get C hw 97 (by omega) h97 rfl inlX6 0 (by decide) q_88 rfl dX6_copyFrom_1 ?_
  refine lv_iconst (v := nI 0) C.1 C.2.1 dX6_copyFrom_4 (by decide) ?_
  refine lv_aload_n C.1 C.2.1 dX6_copyFrom_5 rfl (lv_at hl 0 rfl) ?_
  refine k_get C hw 23 (by omega) h23 rfl inlX6 0 (by decide) q_88 rfl dX6_copyFrom_6 ?_
  refine lv_iconst (v := nI 0) C.1 C.2.1 dX6_copyFrom_9 (by decide) ?_
  refine lv_bipush (v := nI 100) C.1 C.2.1 dX6_copyFrom_10 (by decide) ?_
  refine k_copyi C hw hl.1 q_607 q_276 q_277 q_278 98 24 (by omega) (by omega) h98 h24 (by omega) (by omega) (by decide) (by decide) (Nat.le_of_ble_eq_true rfl) (by decide) dX6_copyFrom_12 (fun M_1 H locs hw h24 hF => ?_)
  have h23 := (hF 23 (by decide)).trans h23
  have h25 := (hF 25 (by decide)).trans h25
  have h97 := (hF 97 (by decide)).trans h97
  have h98 := (hF 98 (by decide)).trans h98
  have h99 := (hF 99 (by decide)).trans h99
  have hFF := kF_st hFF hF (by first | decide | simp)
  refine lv_aload_n C.1 C.2.1 dX6_copyFrom_15 rfl (lv_at hl 1 rfl) ?_
  refine k_get C hw 97 (by omega) h97 rfl inlX6 1 (by decide) q_90 rfl dX6_copyFrom_16 ?_
  refine lv_iconst (v := nI 0) C.1 C.2.1 dX6_copyFrom_19 (by decide) ?_
  refine lv_aload_n C.1 C.2.1 dX6_copyFrom_20 rfl (lv_at hl 0 rfl) ?_
  refine k_get C hw 23 (by omega) h23 rfl inlX6 1 (by decide) q_90 rfl dX6_copyFrom_21 ?_
  refine lv_iconst (v := nI 0) C.1 C.2.1 dX6_copyFrom_24 (by decide) ?_
  refine lv_bipush (v := nI 100) C.1 C.2.1 dX6_copyFrom_25 (by decide) ?_
  refine k_copyl C hw hl.1 q_607 q_276 q_277 q_278 99 25 (by omega) (by omega) h99 h25 (by omega) (by omega) (by decide) (by decide) (Nat.le_of_ble_eq_true rfl) (by decide) dX6_copyFrom_27 (fun M_2 H locs hw h25 hF => ?_)
  have h23 := (hF 23 (by decide)).trans h23
  have h24 := (hF 24 (by decide)).trans h24
  have h97 := (hF 97 (by decide)).trans h97
  have h98 := (hF 98 (by decide)).trans h98
  have h99 := (hF 99 (by decide)).trans h99
  have hFF := kF_st hFF hF (by first | decide | simp)
  obtain ⟨M_3, hw, h24, hF⟩ := k_extI hw 24 (by omega) h24 (ct2) (fun j hj => cpy00 hj)
  have h23 := (hF 23 (by decide)).trans h23
  have h25 := (hF 25 (by decide)).trans h25
  have h97 := (hF 97 (by decide)).trans h97
  have h98 := (hF 98 (by decide)).trans h98
  have h99 := (hF 99 (by decide)).trans h99
  have hFF := kF_st hFF hF (by first | decide | simp)
  obtain ⟨M_4, hw, h25, hF⟩ := k_extJ hw 25 (by omega) h25 (su2) (fun j hj => cpy00 hj)
  have h23 := (hF 23 (by decide)).trans h23
  have h24 := (hF 24 (by decide)).trans h24
  have h97 := (hF 97 (by decide)).trans h97
  have h98 := (hF 98 (by decide)).trans h98
  have h99 := (hF 99 (by decide)).trans h99
  have hFF := kF_st hFF hF (by first | decide | simp)
  exact hret _ _ (Nat.le_of_ble_eq_true rfl) (Nat.le_of_ble_eq_true rfl) hw (⟨rfl, hFF, h24, h25⟩) dX6_copyFrom_30

set_option maxHeartbeats 4000000 in
set_option maxRecDepth 100000 in
theorem c_X5_copyFrom_22_96 {l : Launch} {D : va_G} {cI cJ cZ cH cR : ClassId} {b : Nat} {n : Nat} {M : Nat → va_E}  {rs : Nat} {ca : Nat} {rn : Nat → Int32} {rk : Nat → Int32} {rv : Nat → Int32} {rs2 : Nat} {ca2 : Nat} {rn2 : Nat → Int32} {rk2 : Nat → Int32} {rv2 : Nat → Int32}  (hn : 104 ≤ n) (h26 : M 26 = .inr (5, [.ref (b + 27), .ref (b + 28), .ref (b + 29), .int (nI rs), .int (nI ca)])) (h27 : M 27 = .inl (cI, 400, .inl rn)) (h28 : M 28 = .inl (cI, 400, .inl rk)) (h29 : M 29 = .inl (cI, 400, .inl rv)) (h100 : M 100 = .inr (5, [.ref (b + 101), .ref (b + 102), .ref (b + 103), .int (nI rs2), .int (nI ca2)])) (h101 : M 101 = .inl (cI, 400, .inl rn2)) (h102 : M 102 = .inl (cI, 400, .inl rk2)) (h103 : M 103 = .inl (cI, 400, .inl rv2)) (hs : rs2 ≤ 400) : Met l yX5_copyFrom (kw yX5_copyFrom cX5_copyFrom 2 none) ({ frames := 1, cells := 0, slots := 0, locals := 40 }) (va_Pc [.ref (b + 26), .ref (b + 100)] (kPre D (kT cI cJ cZ cH cR) b M n)) (va_Qv (fun (u : (Nat → va_E) × Nat) => u.2 = n ∧ kF [26, 27, 28, 29] M u.1 ∧ u.1 26 = .inr (5, [.ref (b + 27), .ref (b + 28), .ref (b + 29), .int (nI rs2), .int (nI ca2)]) ∧ u.1 27 = .inl (cI, 400, .inl (va_cpy rn2 rn 0 0 rs2)) ∧ u.1 28 = .inl (cI, 400, .inl (va_cpy rk2 rk 0 0 rs2)) ∧ u.1 29 = .inl (cI, 400, .inl (va_cpy rv2 rv 0 0 rs2))) (kB D (kT cI cJ cZ cH cR) b) (kA b)) 0 0 (kA b) := by
  refine k_metV (by decide +kernel) (Nat.le_of_ble_eq_true rfl) ?_
  intro p e s m below meth c ls Q C hw hret hnm hl
  have hl : lv_has ls 2 [(0, .ref (b + 26)), (1, .ref (b + 100))] := hl
  have hFF : kF [26, 27, 28, 29] M M := kF_rf
  refine lv_aload_n C.1 C.2.1 dX5_copyFrom_0 rfl (lv_at hl 1 rfl) ?_
  refine k_get C hw 100 (by omega) h100 rfl inlX5 0 (by decide) q_95 rfl dX5_copyFrom_1 ?_
  refine lv_iconst (v := nI 0) C.1 C.2.1 dX5_copyFrom_4 (by decide) ?_
  refine lv_aload_n C.1 C.2.1 dX5_copyFrom_5 rfl (lv_at hl 0 rfl) ?_
  refine k_get C hw 26 (by omega) h26 rfl inlX5 0 (by decide) q_95 rfl dX5_copyFrom_6 ?_
  refine lv_iconst (v := nI 0) C.1 C.2.1 dX5_copyFrom_9 (by decide) ?_
  refine lv_aload_n C.1 C.2.1 dX5_copyFrom_10 rfl (lv_at hl 1 rfl) ?_
  refine k_get C hw 100 (by omega) h100 rfl inlX5 3 (by decide) q_239 rfl dX5_copyFrom_11 ?_
  refine k_copyi C hw hl.1 q_275 q_276 q_277 q_278 101 27 (by omega) (by omega) h101 h27 (by omega) (by omega) (by decide) (by decide) (Nat.le_of_ble_eq_true rfl) (by decide) dX5_copyFrom_14 (fun M_1 H locs hw h27 hF => ?_)
  have h26 := (hF 26 (by decide)).trans h26
  have h28 := (hF 28 (by decide)).trans h28
  have h29 := (hF 29 (by decide)).trans h29
  have h100 := (hF 100 (by decide)).trans h100
  have h101 := (hF 101 (by decide)).trans h101
  have h102 := (hF 102 (by decide)).trans h102
  have h103 := (hF 103 (by decide)).trans h103
  have hFF := kF_st hFF hF (by first | decide | simp)
  refine lv_aload_n C.1 C.2.1 dX5_copyFrom_17 rfl (lv_at hl 1 rfl) ?_
  refine k_get C hw 100 (by omega) h100 rfl inlX5 1 (by decide) q_96 rfl dX5_copyFrom_18 ?_
  refine lv_iconst (v := nI 0) C.1 C.2.1 dX5_copyFrom_21 (by decide) ?_
  refine lv_aload_n C.1 C.2.1 dX5_copyFrom_22 rfl (lv_at hl 0 rfl) ?_
  refine k_get C hw 26 (by omega) h26 rfl inlX5 1 (by decide) q_96 rfl dX5_copyFrom_23 ?_
  refine lv_iconst (v := nI 0) C.1 C.2.1 dX5_copyFrom_26 (by decide) ?_
  refine lv_aload_n C.1 C.2.1 dX5_copyFrom_27 rfl (lv_at hl 1 rfl) ?_
  refine k_get C hw 100 (by omega) h100 rfl inlX5 3 (by decide) q_239 rfl dX5_copyFrom_28 ?_
  refine k_copyi C hw hl.1 q_275 q_276 q_277 q_278 102 28 (by omega) (by omega) h102 h28 (by omega) (by omega) (by decide) (by decide) (Nat.le_of_ble_eq_true rfl) (by decide) dX5_copyFrom_31 (fun M_2 H locs hw h28 hF => ?_)
  have h26 := (hF 26 (by decide)).trans h26
  have h27 := (hF 27 (by decide)).trans h27
  have h29 := (hF 29 (by decide)).trans h29
  have h100 := (hF 100 (by decide)).trans h100
  have h101 := (hF 101 (by decide)).trans h101
  have h102 := (hF 102 (by decide)).trans h102
  have h103 := (hF 103 (by decide)).trans h103
  have hFF := kF_st hFF hF (by first | decide | simp)
  refine lv_aload_n C.1 C.2.1 dX5_copyFrom_34 rfl (lv_at hl 1 rfl) ?_
  refine k_get C hw 100 (by omega) h100 rfl inlX5 2 (by decide) q_97 rfl dX5_copyFrom_35 ?_
  refine lv_iconst (v := nI 0) C.1 C.2.1 dX5_copyFrom_38 (by decide) ?_
  refine lv_aload_n C.1 C.2.1 dX5_copyFrom_39 rfl (lv_at hl 0 rfl) ?_
  refine k_get C hw 26 (by omega) h26 rfl inlX5 2 (by decide) q_97 rfl dX5_copyFrom_40 ?_
  refine lv_iconst (v := nI 0) C.1 C.2.1 dX5_copyFrom_43 (by decide) ?_
  refine lv_aload_n C.1 C.2.1 dX5_copyFrom_44 rfl (lv_at hl 1 rfl) ?_
  refine k_get C hw 100 (by omega) h100 rfl inlX5 3 (by decide) q_239 rfl dX5_copyFrom_45 ?_
  refine k_copyi C hw hl.1 q_275 q_276 q_277 q_278 103 29 (by omega) (by omega) h103 h29 (by omega) (by omega) (by decide) (by decide) (Nat.le_of_ble_eq_true rfl) (by decide) dX5_copyFrom_48 (fun M_3 H locs hw h29 hF => ?_)
  have h26 := (hF 26 (by decide)).trans h26
  have h27 := (hF 27 (by decide)).trans h27
  have h28 := (hF 28 (by decide)).trans h28
  have h100 := (hF 100 (by decide)).trans h100
  have h101 := (hF 101 (by decide)).trans h101
  have h102 := (hF 102 (by decide)).trans h102
  have h103 := (hF 103 (by decide)).trans h103
  have hFF := kF_st hFF hF (by first | decide | simp)
  refine lv_aload_n C.1 C.2.1 dX5_copyFrom_51 rfl (lv_at hl 0 rfl) ?_
  refine lv_aload_n C.1 C.2.1 dX5_copyFrom_52 rfl (lv_at hl 1 rfl) ?_
  refine k_get C hw 100 (by omega) h100 rfl inlX5 3 (by decide) q_239 rfl dX5_copyFrom_53 ?_
  refine k_put (tf := .int) C hw 26 (by omega) h26 rfl inlX5 tyX5 tyX5_ok nmX5 3 (by decide) q_239 rfl (by decide +kernel) rfl rfl (Nat.le_of_ble_eq_true rfl) dX5_copyFrom_56 (fun M_4 H locs hw h26 hF => ?_)
  have h26 : M_4 26 = .inr (5, [.ref (b + 27), .ref (b + 28), .ref (b + 29), .int (nI rs2), .int (nI ca)]) := h26
  have h27 := (hF 27 (by decide)).trans h27
  have h28 := (hF 28 (by decide)).trans h28
  have h29 := (hF 29 (by decide)).trans h29
  have h100 := (hF 100 (by decide)).trans h100
  have h101 := (hF 101 (by decide)).trans h101
  have h102 := (hF 102 (by decide)).trans h102
  have h103 := (hF 103 (by decide)).trans h103
  have hFF := kF_st hFF hF (by first | decide | simp)
  refine lv_aload_n C.1 C.2.1 dX5_copyFrom_59 rfl (lv_at hl 0 rfl) ?_
  refine lv_aload_n C.1 C.2.1 dX5_copyFrom_60 rfl (lv_at hl 1 rfl) ?_
  refine k_get C hw 100 (by omega) h100 rfl inlX5 4 (by decide) q_240 rfl dX5_copyFrom_61 ?_
  refine k_put (tf := .int) C hw 26 (by omega) h26 rfl inlX5 tyX5 tyX5_ok nmX5 4 (by decide) q_240 rfl (by decide +kernel) rfl rfl (Nat.le_of_ble_eq_true rfl) dX5_copyFrom_64 (fun M_5 H locs hw h26 hF => ?_)
  have h26 : M_5 26 = .inr (5, [.ref (b + 27), .ref (b + 28), .ref (b + 29), .int (nI rs2), .int (nI ca2)]) := h26
  have h27 := (hF 27 (by decide)).trans h27
  have h28 := (hF 28 (by decide)).trans h28
  have h29 := (hF 29 (by decide)).trans h29
  have h100 := (hF 100 (by decide)).trans h100
  have h101 := (hF 101 (by decide)).trans h101
  have h102 := (hF 102 (by decide)).trans h102
  have h103 := (hF 103 (by decide)).trans h103
  have hFF := kF_st hFF hF (by first | decide | simp)
  exact hret _ _ (Nat.le_of_ble_eq_true rfl) (Nat.le_of_ble_eq_true rfl) hw (⟨rfl, hFF, h26, h27, h28, h29⟩) dX5_copyFrom_67

set_option maxHeartbeats 4000000 in
set_option maxRecDepth 100000 in
theorem c_X7_copyFrom_22_96 {l : Launch} {D : va_G} {cI cJ cZ cH cR : ClassId} {b : Nat} {n : Nat} {M : Nat → va_E}  {ts : Nat} {tr : Int32} {tk : Nat → Int32} {tt : Nat → Int32} {ts2 : Nat} {tr2 : Int32} {tk2 : Nat → Int32} {tt2 : Nat → Int32}  (hn : 107 ≤ n) (h30 : M 30 = .inr (7, [.ref (b + 31), .ref (b + 32), .int (nI ts), .int tr])) (h31 : M 31 = .inl (cI, 40, .inl tk)) (h32 : M 32 = .inl (cI, 40, .inl tt)) (h104 : M 104 = .inr (7, [.ref (b + 105), .ref (b + 106), .int (nI ts2), .int tr2])) (h105 : M 105 = .inl (cI, 40, .inl tk2)) (h106 : M 106 = .inl (cI, 40, .inl tt2)) (ht : ts2 ≤ 40) : Met l yX7_copyFrom (kw yX7_copyFrom cX7_copyFrom 2 none) ({ frames := 1, cells := 0, slots := 0, locals := 40 }) (va_Pc [.ref (b + 30), .ref (b + 104)] (kPre D (kT cI cJ cZ cH cR) b M n)) (va_Qv (fun (u : (Nat → va_E) × Nat) => u.2 = n ∧ kF [30, 31, 32] M u.1 ∧ u.1 30 = .inr (7, [.ref (b + 31), .ref (b + 32), .int (nI ts2), .int (tr2)]) ∧ u.1 31 = .inl (cI, 40, .inl (va_cpy tk2 tk 0 0 ts2)) ∧ u.1 32 = .inl (cI, 40, .inl (va_cpy tt2 tt 0 0 ts2))) (kB D (kT cI cJ cZ cH cR) b) (kA b)) 0 0 (kA b) := by
  refine k_metV (by decide +kernel) (Nat.le_of_ble_eq_true rfl) ?_
  intro p e s m below meth c ls Q C hw hret hnm hl
  have hl : lv_has ls 2 [(0, .ref (b + 30)), (1, .ref (b + 104))] := hl
  have hFF : kF [30, 31, 32] M M := kF_rf
  refine lv_aload_n C.1 C.2.1 dX7_copyFrom_0 rfl (lv_at hl 1 rfl) ?_
  refine k_get C hw 104 (by omega) h104 rfl inlX7 0 (by decide) q_102 rfl dX7_copyFrom_1 ?_
  refine lv_iconst (v := nI 0) C.1 C.2.1 dX7_copyFrom_4 (by decide) ?_
  refine lv_aload_n C.1 C.2.1 dX7_copyFrom_5 rfl (lv_at hl 0 rfl) ?_
  refine k_get C hw 30 (by omega) h30 rfl inlX7 0 (by decide) q_102 rfl dX7_copyFrom_6 ?_
  refine lv_iconst (v := nI 0) C.1 C.2.1 dX7_copyFrom_9 (by decide) ?_
  refine lv_aload_n C.1 C.2.1 dX7_copyFrom_10 rfl (lv_at hl 1 rfl) ?_
  refine k_get C hw 104 (by omega) h104 rfl inlX7 2 (by decide) q_498 rfl dX7_copyFrom_11 ?_
  refine k_copyi C hw hl.1 q_499 q_276 q_277 q_278 105 31 (by omega) (by omega) h105 h31 (by omega) (by omega) (by decide) (by decide) (Nat.le_of_ble_eq_true rfl) (by decide) dX7_copyFrom_14 (fun M_1 H locs hw h31 hF => ?_)
  have h30 := (hF 30 (by decide)).trans h30
  have h32 := (hF 32 (by decide)).trans h32
  have h104 := (hF 104 (by decide)).trans h104
  have h105 := (hF 105 (by decide)).trans h105
  have h106 := (hF 106 (by decide)).trans h106
  have hFF := kF_st hFF hF (by first | decide | simp)
  refine lv_aload_n C.1 C.2.1 dX7_copyFrom_17 rfl (lv_at hl 1 rfl) ?_
  refine k_get C hw 104 (by omega) h104 rfl inlX7 1 (by decide) q_103 rfl dX7_copyFrom_18 ?_
  refine lv_iconst (v := nI 0) C.1 C.2.1 dX7_copyFrom_21 (by decide) ?_
  refine lv_aload_n C.1 C.2.1 dX7_copyFrom_22 rfl (lv_at hl 0 rfl) ?_
  refine k_get C hw 30 (by omega) h30 rfl inlX7 1 (by decide) q_103 rfl dX7_copyFrom_23 ?_
  refine lv_iconst (v := nI 0) C.1 C.2.1 dX7_copyFrom_26 (by decide) ?_
  refine lv_aload_n C.1 C.2.1 dX7_copyFrom_27 rfl (lv_at hl 1 rfl) ?_
  refine k_get C hw 104 (by omega) h104 rfl inlX7 2 (by decide) q_498 rfl dX7_copyFrom_28 ?_
  refine k_copyi C hw hl.1 q_499 q_276 q_277 q_278 106 32 (by omega) (by omega) h106 h32 (by omega) (by omega) (by decide) (by decide) (Nat.le_of_ble_eq_true rfl) (by decide) dX7_copyFrom_31 (fun M_2 H locs hw h32 hF => ?_)
  have h30 := (hF 30 (by decide)).trans h30
  have h31 := (hF 31 (by decide)).trans h31
  have h104 := (hF 104 (by decide)).trans h104
  have h105 := (hF 105 (by decide)).trans h105
  have h106 := (hF 106 (by decide)).trans h106
  have hFF := kF_st hFF hF (by first | decide | simp)
  refine lv_aload_n C.1 C.2.1 dX7_copyFrom_34 rfl (lv_at hl 0 rfl) ?_
  refine lv_aload_n C.1 C.2.1 dX7_copyFrom_35 rfl (lv_at hl 1 rfl) ?_
  refine k_get C hw 104 (by omega) h104 rfl inlX7 2 (by decide) q_498 rfl dX7_copyFrom_36 ?_
  refine k_put (tf := .int) C hw 30 (by omega) h30 rfl inlX7 tyX7 tyX7_ok nmX7 2 (by decide) q_498 rfl (by decide +kernel) rfl rfl (Nat.le_of_ble_eq_true rfl) dX7_copyFrom_39 (fun M_3 H locs hw h30 hF => ?_)
  have h30 : M_3 30 = .inr (7, [.ref (b + 31), .ref (b + 32), .int (nI ts2), .int tr]) := h30
  have h31 := (hF 31 (by decide)).trans h31
  have h32 := (hF 32 (by decide)).trans h32
  have h104 := (hF 104 (by decide)).trans h104
  have h105 := (hF 105 (by decide)).trans h105
  have h106 := (hF 106 (by decide)).trans h106
  have hFF := kF_st hFF hF (by first | decide | simp)
  refine lv_aload_n C.1 C.2.1 dX7_copyFrom_42 rfl (lv_at hl 0 rfl) ?_
  refine lv_aload_n C.1 C.2.1 dX7_copyFrom_43 rfl (lv_at hl 1 rfl) ?_
  refine k_get C hw 104 (by omega) h104 rfl inlX7 3 (by decide) q_616 rfl dX7_copyFrom_44 ?_
  refine k_put (tf := .int) C hw 30 (by omega) h30 rfl inlX7 tyX7 tyX7_ok nmX7 3 (by decide) q_616 rfl (by decide +kernel) rfl rfl (Nat.le_of_ble_eq_true rfl) dX7_copyFrom_47 (fun M_4 H locs hw h30 hF => ?_)
  have h30 : M_4 30 = .inr (7, [.ref (b + 31), .ref (b + 32), .int (nI ts2), .int tr2]) := h30
  have h31 := (hF 31 (by decide)).trans h31
  have h32 := (hF 32 (by decide)).trans h32
  have h104 := (hF 104 (by decide)).trans h104
  have h105 := (hF 105 (by decide)).trans h105
  have h106 := (hF 106 (by decide)).trans h106
  have hFF := kF_st hFF hF (by first | decide | simp)
  exact hret _ _ (Nat.le_of_ble_eq_true rfl) (Nat.le_of_ble_eq_true rfl) hw (⟨rfl, hFF, h30, h31, h32⟩) dX7_copyFrom_50

set_option maxHeartbeats 4000000 in
set_option maxRecDepth 100000 in
theorem c_X0_copyFrom_22_96 {l : Launch} {D : va_G} {cI cJ cZ cH cR : ClassId} {b : Nat} {n : Nat} {M : Nat → va_E}  {ct : Nat → Int32} {su : Nat → Int64} {rs : Nat} {ca : Nat} {rn : Nat → Int32} {rk : Nat → Int32} {rv : Nat → Int32} {ts : Nat} {tr : Int32} {tk : Nat → Int32} {tt : Nat → Int32} {ct2 : Nat → Int32} {su2 : Nat → Int64} {rs2 : Nat} {ca2 : Nat} {rn2 : Nat → Int32} {rk2 : Nat → Int32} {rv2 : Nat → Int32} {ts2 : Nat} {tr2 : Int32} {tk2 : Nat → Int32} {tt2 : Nat → Int32}  (hn : 107 ≤ n) (h22 : M 22 = .inr (0, [.ref (b + 23), .ref (b + 26), .ref (b + 30)])) (h23 : M 23 = .inr (6, [.ref (b + 24), .ref (b + 25)])) (h24 : M 24 = .inl (cI, 100, .inl ct)) (h25 : M 25 = .inl (cJ, 100, .inr (.inl su))) (h26 : M 26 = .inr (5, [.ref (b + 27), .ref (b + 28), .ref (b + 29), .int (nI rs), .int (nI ca)])) (h27 : M 27 = .inl (cI, 400, .inl rn)) (h28 : M 28 = .inl (cI, 400, .inl rk)) (h29 : M 29 = .inl (cI, 400, .inl rv)) (h30 : M 30 = .inr (7, [.ref (b + 31), .ref (b + 32), .int (nI ts), .int tr])) (h31 : M 31 = .inl (cI, 40, .inl tk)) (h32 : M 32 = .inl (cI, 40, .inl tt)) (h96 : M 96 = .inr (0, [.ref (b + 97), .ref (b + 100), .ref (b + 104)])) (h97 : M 97 = .inr (6, [.ref (b + 98), .ref (b + 99)])) (h98 : M 98 = .inl (cI, 100, .inl ct2)) (h99 : M 99 = .inl (cJ, 100, .inr (.inl su2))) (h100 : M 100 = .inr (5, [.ref (b + 101), .ref (b + 102), .ref (b + 103), .int (nI rs2), .int (nI ca2)])) (h101 : M 101 = .inl (cI, 400, .inl rn2)) (h102 : M 102 = .inl (cI, 400, .inl rk2)) (h103 : M 103 = .inl (cI, 400, .inl rv2)) (h104 : M 104 = .inr (7, [.ref (b + 105), .ref (b + 106), .int (nI ts2), .int tr2])) (h105 : M 105 = .inl (cI, 40, .inl tk2)) (h106 : M 106 = .inl (cI, 40, .inl tt2)) (hs : rs2 ≤ 400) (ht : ts2 ≤ 40) : Met l yX0_copyFrom (kw yX0_copyFrom cX0_copyFrom 2 none) ({ frames := 2, cells := 0, slots := 0, locals := 61 }) (va_Pc [.ref (b + 22), .ref (b + 96)] (kPre D (kT cI cJ cZ cH cR) b M n)) (va_Qv (fun (u : (Nat → va_E) × Nat) => u.2 = n ∧ kF [24, 25, 26, 27, 28, 29, 30, 31, 32] M u.1 ∧ u.1 24 = .inl (cI, 100, .inl ct2) ∧ u.1 25 = .inl (cJ, 100, .inr (.inl su2)) ∧ u.1 26 = .inr (5, [.ref (b + 27), .ref (b + 28), .ref (b + 29), .int (nI rs2), .int (nI ca2)]) ∧ u.1 27 = .inl (cI, 400, .inl (va_cpy rn2 rn 0 0 rs2)) ∧ u.1 28 = .inl (cI, 400, .inl (va_cpy rk2 rk 0 0 rs2)) ∧ u.1 29 = .inl (cI, 400, .inl (va_cpy rv2 rv 0 0 rs2)) ∧ u.1 30 = .inr (7, [.ref (b + 31), .ref (b + 32), .int (nI ts2), .int (tr2)]) ∧ u.1 31 = .inl (cI, 40, .inl (va_cpy tk2 tk 0 0 ts2)) ∧ u.1 32 = .inl (cI, 40, .inl (va_cpy tt2 tt 0 0 ts2))) (kB D (kT cI cJ cZ cH cR) b) (kA b)) 0 0 (kA b) := by
  refine k_metV (by decide +kernel) (Nat.le_of_ble_eq_true rfl) ?_
  intro p e s m below meth c ls Q C hw hret hnm hl
  have hl : lv_has ls 2 [(0, .ref (b + 22)), (1, .ref (b + 96))] := hl
  have hFF : kF [24, 25, 26, 27, 28, 29, 30, 31, 32] M M := kF_rf
  refine lv_aload_n C.1 C.2.1 dX0_copyFrom_0 rfl (lv_at hl 0 rfl) ?_
  refine k_get C hw 22 (by omega) h22 rfl inlX0 0 (by decide) q_75 rfl dX0_copyFrom_1 ?_
  refine lv_aload_n C.1 C.2.1 dX0_copyFrom_4 rfl (lv_at hl 1 rfl) ?_
  refine k_get C hw 96 (by omega) h96 rfl inlX0 0 (by decide) q_75 rfl dX0_copyFrom_5 ?_
  refine k_vv C hw 23 (by omega) h23 rfl (c_X6_copyFrom_22_96 (by omega) h23 h24 h25 h97 h98 h99 ) kv_X0_35 rfl hl.1 ⟨Nat.le_of_ble_eq_true rfl, Nat.le_of_ble_eq_true rfl⟩ (Nat.le_of_ble_eq_true rfl) ⟨Nat.le_of_ble_eq_true rfl, Nat.le_of_ble_eq_true rfl⟩ dX0_copyFrom_8 (fun M_1 n9 H locs hp hw => ?_)
  obtain ⟨en9, hF, h24, h25⟩ := hp
  have en9 : n9 = n := en9
  rw [en9] at hw
  have h22 := (hF 22 (by decide)).trans h22
  have h23 := (hF 23 (by decide)).trans h23
  have h26 := (hF 26 (by decide)).trans h26
  have h27 := (hF 27 (by decide)).trans h27
  have h28 := (hF 28 (by decide)).trans h28
  have h29 := (hF 29 (by decide)).trans h29
  have h30 := (hF 30 (by decide)).trans h30
  have h31 := (hF 31 (by decide)).trans h31
  have h32 := (hF 32 (by decide)).trans h32
  have h96 := (hF 96 (by decide)).trans h96
  have h97 := (hF 97 (by decide)).trans h97
  have h98 := (hF 98 (by decide)).trans h98
  have h99 := (hF 99 (by decide)).trans h99
  have h100 := (hF 100 (by decide)).trans h100
  have h101 := (hF 101 (by decide)).trans h101
  have h102 := (hF 102 (by decide)).trans h102
  have h103 := (hF 103 (by decide)).trans h103
  have h104 := (hF 104 (by decide)).trans h104
  have h105 := (hF 105 (by decide)).trans h105
  have h106 := (hF 106 (by decide)).trans h106
  have hFF := kF_st hFF hF (by first | decide | simp)
  refine lv_aload_n C.1 C.2.1 dX0_copyFrom_11 rfl (lv_at hl 0 rfl) ?_
  refine k_get C hw 22 (by omega) h22 rfl inlX0 1 (by decide) q_79 rfl dX0_copyFrom_12 ?_
  refine lv_aload_n C.1 C.2.1 dX0_copyFrom_15 rfl (lv_at hl 1 rfl) ?_
  refine k_get C hw 96 (by omega) h96 rfl inlX0 1 (by decide) q_79 rfl dX0_copyFrom_16 ?_
  refine k_vv C hw 26 (by omega) h26 rfl (c_X5_copyFrom_22_96 (by omega) h26 h27 h28 h29 h100 h101 h102 h103 (by omega)) kv_X0_39 rfl hl.1 ⟨Nat.le_of_ble_eq_true rfl, Nat.le_of_ble_eq_true rfl⟩ (Nat.le_of_ble_eq_true rfl) ⟨Nat.le_of_ble_eq_true rfl, Nat.le_of_ble_eq_true rfl⟩ dX0_copyFrom_19 (fun M_2 n9 H locs hp hw => ?_)
  obtain ⟨en9, hF, h26, h27, h28, h29⟩ := hp
  have en9 : n9 = n := en9
  rw [en9] at hw
  have h22 := (hF 22 (by decide)).trans h22
  have h23 := (hF 23 (by decide)).trans h23
  have h24 := (hF 24 (by decide)).trans h24
  have h25 := (hF 25 (by decide)).trans h25
  have h30 := (hF 30 (by decide)).trans h30
  have h31 := (hF 31 (by decide)).trans h31
  have h32 := (hF 32 (by decide)).trans h32
  have h96 := (hF 96 (by decide)).trans h96
  have h97 := (hF 97 (by decide)).trans h97
  have h98 := (hF 98 (by decide)).trans h98
  have h99 := (hF 99 (by decide)).trans h99
  have h100 := (hF 100 (by decide)).trans h100
  have h101 := (hF 101 (by decide)).trans h101
  have h102 := (hF 102 (by decide)).trans h102
  have h103 := (hF 103 (by decide)).trans h103
  have h104 := (hF 104 (by decide)).trans h104
  have h105 := (hF 105 (by decide)).trans h105
  have h106 := (hF 106 (by decide)).trans h106
  have hFF := kF_st hFF hF (by first | decide | simp)
  refine lv_aload_n C.1 C.2.1 dX0_copyFrom_22 rfl (lv_at hl 0 rfl) ?_
  refine k_get C hw 22 (by omega) h22 rfl inlX0 2 (by decide) q_83 rfl dX0_copyFrom_23 ?_
  refine lv_aload_n C.1 C.2.1 dX0_copyFrom_26 rfl (lv_at hl 1 rfl) ?_
  refine k_get C hw 96 (by omega) h96 rfl inlX0 2 (by decide) q_83 rfl dX0_copyFrom_27 ?_
  refine k_vv C hw 30 (by omega) h30 rfl (c_X7_copyFrom_22_96 (by omega) h30 h31 h32 h104 h105 h106 (by omega)) kv_X0_42 rfl hl.1 ⟨Nat.le_of_ble_eq_true rfl, Nat.le_of_ble_eq_true rfl⟩ (Nat.le_of_ble_eq_true rfl) ⟨Nat.le_of_ble_eq_true rfl, Nat.le_of_ble_eq_true rfl⟩ dX0_copyFrom_30 (fun M_3 n9 H locs hp hw => ?_)
  obtain ⟨en9, hF, h30, h31, h32⟩ := hp
  have en9 : n9 = n := en9
  rw [en9] at hw
  have h22 := (hF 22 (by decide)).trans h22
  have h23 := (hF 23 (by decide)).trans h23
  have h24 := (hF 24 (by decide)).trans h24
  have h25 := (hF 25 (by decide)).trans h25
  have h26 := (hF 26 (by decide)).trans h26
  have h27 := (hF 27 (by decide)).trans h27
  have h28 := (hF 28 (by decide)).trans h28
  have h29 := (hF 29 (by decide)).trans h29
  have h96 := (hF 96 (by decide)).trans h96
  have h97 := (hF 97 (by decide)).trans h97
  have h98 := (hF 98 (by decide)).trans h98
  have h99 := (hF 99 (by decide)).trans h99
  have h100 := (hF 100 (by decide)).trans h100
  have h101 := (hF 101 (by decide)).trans h101
  have h102 := (hF 102 (by decide)).trans h102
  have h103 := (hF 103 (by decide)).trans h103
  have h104 := (hF 104 (by decide)).trans h104
  have h105 := (hF 105 (by decide)).trans h105
  have h106 := (hF 106 (by decide)).trans h106
  have hFF := kF_st hFF hF (by first | decide | simp)
  exact hret _ _ (Nat.le_of_ble_eq_true rfl) (Nat.le_of_ble_eq_true rfl) hw (⟨rfl, hFF, h24, h25, h26, h27, h28, h29, h30, h31, h32⟩) dX0_copyFrom_33

set_option maxHeartbeats 4000000 in
set_option maxRecDepth 100000 in
theorem c_X5_enter {l : Launch} {D : va_G} {cI cJ cZ cH cR : ClassId} {b : Nat} {n : Nat} {M : Nat → va_E}  {rs : Nat} {ca : Nat} {rn : Nat → Int32} {rk : Nat → Int32} {rv : Nat → Int32} {key v : Int32} (hn : 30 ≤ n) (h26 : M 26 = .inr (5, [.ref (b + 27), .ref (b + 28), .ref (b + 29), .int (nI rs), .int (nI ca)])) (h27 : M 27 = .inl (cI, 400, .inl rn)) (h28 : M 28 = .inl (cI, 400, .inl rk)) (h29 : M 29 = .inl (cI, 400, .inl rv)) (hs : rs < 400) : Met l yX5_enter (kw yX5_enter cX5_enter 3 none) ({ frames := 0, cells := 0, slots := 0, locals := 0 }) (va_Pc [.ref (b + 26), .int key, .int v] (kPre D (kT cI cJ cZ cH cR) b M n)) (va_Qv (fun (u : (Nat → va_E) × Nat) => u.2 = n ∧ kF [26, 27, 28, 29] M u.1 ∧ u.1 26 = .inr (5, [.ref (b + 27), .ref (b + 28), .ref (b + 29), .int (nI (rs + 1)), .int (nI (ca + 1))]) ∧ u.1 27 = .inl (cI, 400, .inl (upd rn rs (nI ca))) ∧ u.1 28 = .inl (cI, 400, .inl (upd rk rs key)) ∧ u.1 29 = .inl (cI, 400, .inl (upd rv rs v))) (kB D (kT cI cJ cZ cH cR) b) (kA b)) 0 0 (kA b) := by
  refine k_metV (by decide +kernel) (Nat.le_of_ble_eq_true rfl) ?_
  intro p e s m below meth c ls Q C hw hret hnm hl
  have hl : lv_has ls 3 [(0, .ref (b + 26)), (1, .int key), (2, .int v)] := hl
  have hFF : kF [26, 27, 28, 29] M M := kF_rf
  refine lv_aload_n C.1 C.2.1 dX5_enter_0 rfl (lv_at hl 0 rfl) ?_
  refine k_get C hw 26 (by omega) h26 rfl inlX5 0 (by decide) q_95 rfl dX5_enter_1 ?_
  refine lv_aload_n C.1 C.2.1 dX5_enter_4 rfl (lv_at hl 0 rfl) ?_
  refine k_get C hw 26 (by omega) h26 rfl inlX5 3 (by decide) q_239 rfl dX5_enter_5 ?_
  refine lv_aload_n C.1 C.2.1 dX5_enter_8 rfl (lv_at hl 0 rfl) ?_
  refine k_get C hw 26 (by omega) h26 rfl inlX5 4 (by decide) q_240 rfl dX5_enter_9 ?_
  refine k_iast C hw 27 (by omega) h27 (by omega) (by first | decide | omega) dX5_enter_12 (fun M_1 H locs hw h27 hF => ?_)
  have h26 := (hF 26 (by decide)).trans h26
  have h28 := (hF 28 (by decide)).trans h28
  have h29 := (hF 29 (by decide)).trans h29
  have hFF := kF_st hFF hF (by first | decide | simp)
  refine lv_aload_n C.1 C.2.1 dX5_enter_13 rfl (lv_at hl 0 rfl) ?_
  refine k_get C hw 26 (by omega) h26 rfl inlX5 1 (by decide) q_96 rfl dX5_enter_14 ?_
  refine lv_aload_n C.1 C.2.1 dX5_enter_17 rfl (lv_at hl 0 rfl) ?_
  refine k_get C hw 26 (by omega) h26 rfl inlX5 3 (by decide) q_239 rfl dX5_enter_18 ?_
  refine lv_iload_n C.1 C.2.1 dX5_enter_21 rfl (lv_at hl 1 rfl) ?_
  refine k_iast C hw 28 (by omega) h28 (by omega) (by first | decide | omega) dX5_enter_22 (fun M_2 H locs hw h28 hF => ?_)
  have h26 := (hF 26 (by decide)).trans h26
  have h27 := (hF 27 (by decide)).trans h27
  have h29 := (hF 29 (by decide)).trans h29
  have hFF := kF_st hFF hF (by first | decide | simp)
  refine lv_aload_n C.1 C.2.1 dX5_enter_23 rfl (lv_at hl 0 rfl) ?_
  refine k_get C hw 26 (by omega) h26 rfl inlX5 2 (by decide) q_97 rfl dX5_enter_24 ?_
  refine lv_aload_n C.1 C.2.1 dX5_enter_27 rfl (lv_at hl 0 rfl) ?_
  refine k_get C hw 26 (by omega) h26 rfl inlX5 3 (by decide) q_239 rfl dX5_enter_28 ?_
  refine lv_iload_n C.1 C.2.1 dX5_enter_31 rfl (lv_at hl 2 rfl) ?_
  refine k_iast C hw 29 (by omega) h29 (by omega) (by first | decide | omega) dX5_enter_32 (fun M_3 H locs hw h29 hF => ?_)
  have h26 := (hF 26 (by decide)).trans h26
  have h27 := (hF 27 (by decide)).trans h27
  have h28 := (hF 28 (by decide)).trans h28
  have hFF := kF_st hFF hF (by first | decide | simp)
  refine lv_aload_n C.1 C.2.1 dX5_enter_33 rfl (lv_at hl 0 rfl) ?_
  refine lv_dup C.1 C.2.1 dX5_enter_34 rfl ?_
  refine k_get C hw 26 (by omega) h26 rfl inlX5 3 (by decide) q_239 rfl dX5_enter_35 ?_
  refine lv_iconst (v := nI 1) C.1 C.2.1 dX5_enter_38 (by decide) ?_
  refine lv_iadd C.1 C.2.1 dX5_enter_39 ?_
  refine k_topi (y := nI (rs + 1)) (nI_add _ _) ?_
  refine k_put (tf := .int) C hw 26 (by omega) h26 rfl inlX5 tyX5 tyX5_ok nmX5 3 (by decide) q_239 rfl (by decide +kernel) rfl rfl (Nat.le_of_ble_eq_true rfl) dX5_enter_40 (fun M_4 H locs hw h26 hF => ?_)
  have h26 : M_4 26 = .inr (5, [.ref (b + 27), .ref (b + 28), .ref (b + 29), .int (nI (rs + 1)), .int (nI ca)]) := h26
  have h27 := (hF 27 (by decide)).trans h27
  have h28 := (hF 28 (by decide)).trans h28
  have h29 := (hF 29 (by decide)).trans h29
  have hFF := kF_st hFF hF (by first | decide | simp)
  refine lv_aload_n C.1 C.2.1 dX5_enter_43 rfl (lv_at hl 0 rfl) ?_
  refine lv_dup C.1 C.2.1 dX5_enter_44 rfl ?_
  refine k_get C hw 26 (by omega) h26 rfl inlX5 4 (by decide) q_240 rfl dX5_enter_45 ?_
  refine lv_iconst (v := nI 1) C.1 C.2.1 dX5_enter_48 (by decide) ?_
  refine lv_iadd C.1 C.2.1 dX5_enter_49 ?_
  refine k_topi (y := nI (ca + 1)) (nI_add _ _) ?_
  refine k_put (tf := .int) C hw 26 (by omega) h26 rfl inlX5 tyX5 tyX5_ok nmX5 4 (by decide) q_240 rfl (by decide +kernel) rfl rfl (Nat.le_of_ble_eq_true rfl) dX5_enter_50 (fun M_5 H locs hw h26 hF => ?_)
  have h26 : M_5 26 = .inr (5, [.ref (b + 27), .ref (b + 28), .ref (b + 29), .int (nI (rs + 1)), .int (nI (ca + 1))]) := h26
  have h27 := (hF 27 (by decide)).trans h27
  have h28 := (hF 28 (by decide)).trans h28
  have h29 := (hF 29 (by decide)).trans h29
  have hFF := kF_st hFF hF (by first | decide | simp)
  exact hret _ _ (Nat.le_of_ble_eq_true rfl) (Nat.le_of_ble_eq_true rfl) hw (⟨rfl, hFF, h26, h27, h28, h29⟩) dX5_enter_53

set_option maxHeartbeats 4000000 in
set_option maxRecDepth 100000 in
theorem c_X5_takeOut {l : Launch} {D : va_G} {cI cJ cZ cH cR : ClassId} {b : Nat} {n : Nat} {M : Nat → va_E}  {rs : Nat} {ca : Nat} {rn : Nat → Int32} {rk : Nat → Int32} {rv : Nat → Int32} {q : Nat} (hn : 30 ≤ n) (h26 : M 26 = .inr (5, [.ref (b + 27), .ref (b + 28), .ref (b + 29), .int (nI rs), .int (nI ca)])) (h27 : M 27 = .inl (cI, 400, .inl rn)) (h28 : M 28 = .inl (cI, 400, .inl rk)) (h29 : M 29 = .inl (cI, 400, .inl rv)) (hq : q < rs) (hs : rs ≤ 400) : Met l yX5_takeOut (kw yX5_takeOut cX5_takeOut 3 none) ({ frames := 1, cells := 0, slots := 0, locals := 40 }) (va_Pc [.ref (b + 26), .int (nI q)] (kPre D (kT cI cJ cZ cH cR) b M n)) (va_Qv (fun (u : (Nat → va_E) × Nat) => u.2 = n ∧ kF [26, 27, 28, 29] M u.1 ∧ u.1 26 = .inr (5, [.ref (b + 27), .ref (b + 28), .ref (b + 29), .int (nI (rs - 1)), .int (nI ca)]) ∧ u.1 27 = .inl (cI, 400, .inl (va_cpy rn rn (q + 1) q (rs - q - 1))) ∧ u.1 28 = .inl (cI, 400, .inl (va_cpy rk rk (q + 1) q (rs - q - 1))) ∧ u.1 29 = .inl (cI, 400, .inl (va_cpy rv rv (q + 1) q (rs - q - 1)))) (kB D (kT cI cJ cZ cH cR) b) (kA b)) 0 0 (kA b) := by
  refine k_metV (by decide +kernel) (Nat.le_of_ble_eq_true rfl) ?_
  intro p e s m below meth c ls Q C hw hret hnm hl
  have hl : lv_has ls 3 [(0, .ref (b + 26)), (1, .int (nI q))] := hl
  have hFF : kF [26, 27, 28, 29] M M := kF_rf
  refine lv_aload_n C.1 C.2.1 dX5_takeOut_0 rfl (lv_at hl 0 rfl) ?_
  refine k_get C hw 26 (by omega) h26 rfl inlX5 3 (by decide) q_239 rfl dX5_takeOut_1 ?_
  refine lv_iload_n C.1 C.2.1 dX5_takeOut_4 rfl (lv_at hl 1 rfl) ?_
  refine lv_isub C.1 C.2.1 dX5_takeOut_5 ?_
  refine lv_iconst (v := nI 1) C.1 C.2.1 dX5_takeOut_6 (by decide) ?_
  refine lv_isub C.1 C.2.1 dX5_takeOut_7 ?_
  refine k_topi (y := nI (rs - q - 1)) (by rw [pk_sub (by omega), pk_sub (by omega)]) ?_
  refine lv_istore_n (lv' := [(2, .int (nI (rs - q - 1))), (0, .ref (b + 26)), (1, .int (nI q))]) C.1 C.2.1 dX5_takeOut_8 rfl hl (by decide) rfl (fun ls hl => ?_)
  refine lv_aload_n C.1 C.2.1 dX5_takeOut_9 rfl (lv_at hl 1 rfl) ?_
  refine k_get C hw 26 (by omega) h26 rfl inlX5 0 (by decide) q_95 rfl dX5_takeOut_10 ?_
  refine lv_iload_n C.1 C.2.1 dX5_takeOut_13 rfl (lv_at hl 2 rfl) ?_
  refine lv_iconst (v := nI 1) C.1 C.2.1 dX5_takeOut_14 (by decide) ?_
  refine lv_iadd C.1 C.2.1 dX5_takeOut_15 ?_
  refine k_topi (y := nI (q + 1)) (nI_add _ _) ?_
  refine lv_aload_n C.1 C.2.1 dX5_takeOut_16 rfl (lv_at hl 1 rfl) ?_
  refine k_get C hw 26 (by omega) h26 rfl inlX5 0 (by decide) q_95 rfl dX5_takeOut_17 ?_
  refine lv_iload_n C.1 C.2.1 dX5_takeOut_20 rfl (lv_at hl 2 rfl) ?_
  refine lv_iload_n C.1 C.2.1 dX5_takeOut_21 rfl (lv_at hl 0 rfl) ?_
  refine k_copyi C hw hl.1 q_275 q_276 q_277 q_278 27 27 (by omega) (by omega) h27 h27 (by omega) (by omega) (by decide) (by decide) (Nat.le_of_ble_eq_true rfl) (by decide) dX5_takeOut_22 (fun M_1 H locs hw h27 hF => ?_)
  have h26 := (hF 26 (by decide)).trans h26
  have h28 := (hF 28 (by decide)).trans h28
  have h29 := (hF 29 (by decide)).trans h29
  have hFF := kF_st hFF hF (by first | decide | simp)
  refine lv_aload_n C.1 C.2.1 dX5_takeOut_25 rfl (lv_at hl 1 rfl) ?_
  refine k_get C hw 26 (by omega) h26 rfl inlX5 1 (by decide) q_96 rfl dX5_takeOut_26 ?_
  refine lv_iload_n C.1 C.2.1 dX5_takeOut_29 rfl (lv_at hl 2 rfl) ?_
  refine lv_iconst (v := nI 1) C.1 C.2.1 dX5_takeOut_30 (by decide) ?_
  refine lv_iadd C.1 C.2.1 dX5_takeOut_31 ?_
  refine k_topi (y := nI (q + 1)) (nI_add _ _) ?_
  refine lv_aload_n C.1 C.2.1 dX5_takeOut_32 rfl (lv_at hl 1 rfl) ?_
  refine k_get C hw 26 (by omega) h26 rfl inlX5 1 (by decide) q_96 rfl dX5_takeOut_33 ?_
  refine lv_iload_n C.1 C.2.1 dX5_takeOut_36 rfl (lv_at hl 2 rfl) ?_
  refine lv_iload_n C.1 C.2.1 dX5_takeOut_37 rfl (lv_at hl 0 rfl) ?_
  refine k_copyi C hw hl.1 q_275 q_276 q_277 q_278 28 28 (by omega) (by omega) h28 h28 (by omega) (by omega) (by decide) (by decide) (Nat.le_of_ble_eq_true rfl) (by decide) dX5_takeOut_38 (fun M_2 H locs hw h28 hF => ?_)
  have h26 := (hF 26 (by decide)).trans h26
  have h27 := (hF 27 (by decide)).trans h27
  have h29 := (hF 29 (by decide)).trans h29
  have hFF := kF_st hFF hF (by first | decide | simp)
  refine lv_aload_n C.1 C.2.1 dX5_takeOut_41 rfl (lv_at hl 1 rfl) ?_
  refine k_get C hw 26 (by omega) h26 rfl inlX5 2 (by decide) q_97 rfl dX5_takeOut_42 ?_
  refine lv_iload_n C.1 C.2.1 dX5_takeOut_45 rfl (lv_at hl 2 rfl) ?_
  refine lv_iconst (v := nI 1) C.1 C.2.1 dX5_takeOut_46 (by decide) ?_
  refine lv_iadd C.1 C.2.1 dX5_takeOut_47 ?_
  refine k_topi (y := nI (q + 1)) (nI_add _ _) ?_
  refine lv_aload_n C.1 C.2.1 dX5_takeOut_48 rfl (lv_at hl 1 rfl) ?_
  refine k_get C hw 26 (by omega) h26 rfl inlX5 2 (by decide) q_97 rfl dX5_takeOut_49 ?_
  refine lv_iload_n C.1 C.2.1 dX5_takeOut_52 rfl (lv_at hl 2 rfl) ?_
  refine lv_iload_n C.1 C.2.1 dX5_takeOut_53 rfl (lv_at hl 0 rfl) ?_
  refine k_copyi C hw hl.1 q_275 q_276 q_277 q_278 29 29 (by omega) (by omega) h29 h29 (by omega) (by omega) (by decide) (by decide) (Nat.le_of_ble_eq_true rfl) (by decide) dX5_takeOut_54 (fun M_3 H locs hw h29 hF => ?_)
  have h26 := (hF 26 (by decide)).trans h26
  have h27 := (hF 27 (by decide)).trans h27
  have h28 := (hF 28 (by decide)).trans h28
  have hFF := kF_st hFF hF (by first | decide | simp)
  refine lv_aload_n C.1 C.2.1 dX5_takeOut_57 rfl (lv_at hl 1 rfl) ?_
  refine lv_dup C.1 C.2.1 dX5_takeOut_58 rfl ?_
  refine k_get C hw 26 (by omega) h26 rfl inlX5 3 (by decide) q_239 rfl dX5_takeOut_59 ?_
  refine lv_iconst (v := nI 1) C.1 C.2.1 dX5_takeOut_62 (by decide) ?_
  refine lv_isub C.1 C.2.1 dX5_takeOut_63 ?_
  refine k_topi (y := nI (rs - 1)) (pk_sub (by omega)) ?_
  refine k_put (tf := .int) C hw 26 (by omega) h26 rfl inlX5 tyX5 tyX5_ok nmX5 3 (by decide) q_239 rfl (by decide +kernel) rfl rfl (Nat.le_of_ble_eq_true rfl) dX5_takeOut_64 (fun M_4 H locs hw h26 hF => ?_)
  have h26 : M_4 26 = .inr (5, [.ref (b + 27), .ref (b + 28), .ref (b + 29), .int (nI (rs - 1)), .int (nI ca)]) := h26
  have h27 := (hF 27 (by decide)).trans h27
  have h28 := (hF 28 (by decide)).trans h28
  have h29 := (hF 29 (by decide)).trans h29
  have hFF := kF_st hFF hF (by first | decide | simp)
  exact hret _ _ (Nat.le_of_ble_eq_true rfl) (Nat.le_of_ble_eq_true rfl) hw (⟨rfl, hFF, h26, h27, h28, h29⟩) dX5_takeOut_67

set_option maxHeartbeats 4000000 in
set_option maxRecDepth 100000 in
theorem c_X2_put {l : Launch} {D : va_G} {cI cJ cZ cH cR : ClassId} {b : Nat} {n : Nat} {M : Nat → va_E}  {os : Nat} {on_ : Nat → Int32} {ok_ : Nat → Int32} {oz : Nat → Int64} {a k : Int32} {z : Int64} (hn : 37 ≤ n) (h33 : M 33 = .inr (2, [.ref (b + 34), .ref (b + 35), .ref (b + 36), .int (nI os)])) (h34 : M 34 = .inl (cI, 400, .inl on_)) (h35 : M 35 = .inl (cI, 400, .inl ok_)) (h36 : M 36 = .inl (cJ, 400, .inr (.inl oz))) (ho : os < 400) : Met l yX2_put (kw yX2_put cX2_put 5 none) ({ frames := 0, cells := 0, slots := 0, locals := 0 }) (va_Pc [.ref (b + 33), .int a, .int k, .long z] (kPre D (kT cI cJ cZ cH cR) b M n)) (va_Qv (fun (u : (Nat → va_E) × Nat) => u.2 = n ∧ kF [33, 34, 35, 36] M u.1 ∧ u.1 33 = .inr (2, [.ref (b + 34), .ref (b + 35), .ref (b + 36), .int (nI (os + 1))]) ∧ u.1 34 = .inl (cI, 400, .inl (upd on_ os a)) ∧ u.1 35 = .inl (cI, 400, .inl (upd ok_ os k)) ∧ u.1 36 = .inl (cJ, 400, .inr (.inl (vp_updL oz os z)))) (kB D (kT cI cJ cZ cH cR) b) (kA b)) 0 0 (kA b) := by
  refine k_metV (by decide +kernel) (Nat.le_of_ble_eq_true rfl) ?_
  intro p e s m below meth c ls Q C hw hret hnm hl
  have hl : lv_has ls 5 [(0, .ref (b + 33)), (1, .int a), (2, .int k), (3, .long z)] := hl
  have hFF : kF [33, 34, 35, 36] M M := kF_rf
  refine lv_aload_n C.1 C.2.1 dX2_put_0 rfl (lv_at hl 0 rfl) ?_
  refine k_get C hw 33 (by omega) h33 rfl inlX2 3 (by decide) q_283 rfl dX2_put_1 ?_
  refine lv_sipush (v := nI 400) C.1 C.2.1 dX2_put_4 (by decide) ?_
  refine lv_icmp_lt (tgt := 11) C.1 C.2.1 dX2_put_7 (by decide) (fun c7 => ?_) (fun c7 => ?_)
  · refine lv_aload_n C.1 C.2.1 dX2_put_11 rfl (lv_at hl 0 rfl) ?_
    refine k_get C hw 33 (by omega) h33 rfl inlX2 0 (by decide) q_108 rfl dX2_put_12 ?_
    refine lv_aload_n C.1 C.2.1 dX2_put_15 rfl (lv_at hl 0 rfl) ?_
    refine k_get C hw 33 (by omega) h33 rfl inlX2 3 (by decide) q_283 rfl dX2_put_16 ?_
    refine lv_iload_n C.1 C.2.1 dX2_put_19 rfl (lv_at hl 1 rfl) ?_
    refine k_iast C hw 34 (by omega) h34 (by omega) (by first | decide | omega) dX2_put_20 (fun M_1 H locs hw h34 hF => ?_)
    have h33 := (hF 33 (by decide)).trans h33
    have h35 := (hF 35 (by decide)).trans h35
    have h36 := (hF 36 (by decide)).trans h36
    have hFF := kF_st hFF hF (by first | decide | simp)
    refine lv_aload_n C.1 C.2.1 dX2_put_21 rfl (lv_at hl 0 rfl) ?_
    refine k_get C hw 33 (by omega) h33 rfl inlX2 1 (by decide) q_109 rfl dX2_put_22 ?_
    refine lv_aload_n C.1 C.2.1 dX2_put_25 rfl (lv_at hl 0 rfl) ?_
    refine k_get C hw 33 (by omega) h33 rfl inlX2 3 (by decide) q_283 rfl dX2_put_26 ?_
    refine lv_iload_n C.1 C.2.1 dX2_put_29 rfl (lv_at hl 2 rfl) ?_
    refine k_iast C hw 35 (by omega) h35 (by omega) (by first | decide | omega) dX2_put_30 (fun M_2 H locs hw h35 hF => ?_)
    have h33 := (hF 33 (by decide)).trans h33
    have h34 := (hF 34 (by decide)).trans h34
    have h36 := (hF 36 (by decide)).trans h36
    have hFF := kF_st hFF hF (by first | decide | simp)
    refine lv_aload_n C.1 C.2.1 dX2_put_31 rfl (lv_at hl 0 rfl) ?_
    refine k_get C hw 33 (by omega) h33 rfl inlX2 2 (by decide) q_110 rfl dX2_put_32 ?_
    refine lv_aload_n C.1 C.2.1 dX2_put_35 rfl (lv_at hl 0 rfl) ?_
    refine k_get C hw 33 (by omega) h33 rfl inlX2 3 (by decide) q_283 rfl dX2_put_36 ?_
    refine lv_lload_n C.1 C.2.1 dX2_put_39 rfl (lv_at hl 3 rfl) ?_
    refine k_last C hw 36 (by omega) h36 (by omega) (by first | decide | omega) dX2_put_40 (fun M_3 H locs hw h36 hF => ?_)
    have h33 := (hF 33 (by decide)).trans h33
    have h34 := (hF 34 (by decide)).trans h34
    have h35 := (hF 35 (by decide)).trans h35
    have hFF := kF_st hFF hF (by first | decide | simp)
    refine lv_aload_n C.1 C.2.1 dX2_put_41 rfl (lv_at hl 0 rfl) ?_
    refine lv_dup C.1 C.2.1 dX2_put_42 rfl ?_
    refine k_get C hw 33 (by omega) h33 rfl inlX2 3 (by decide) q_283 rfl dX2_put_43 ?_
    refine lv_iconst (v := nI 1) C.1 C.2.1 dX2_put_46 (by decide) ?_
    refine lv_iadd C.1 C.2.1 dX2_put_47 ?_
    refine k_topi (y := nI (os + 1)) (nI_add _ _) ?_
    refine k_put (tf := .int) C hw 33 (by omega) h33 rfl inlX2 tyX2 tyX2_ok nmX2 3 (by decide) q_283 rfl (by decide +kernel) rfl rfl (Nat.le_of_ble_eq_true rfl) dX2_put_48 (fun M_4 H locs hw h33 hF => ?_)
    have h33 : M_4 33 = .inr (2, [.ref (b + 34), .ref (b + 35), .ref (b + 36), .int (nI (os + 1))]) := h33
    have h34 := (hF 34 (by decide)).trans h34
    have h35 := (hF 35 (by decide)).trans h35
    have h36 := (hF 36 (by decide)).trans h36
    have hFF := kF_st hFF hF (by first | decide | simp)
    exact hret _ _ (Nat.le_of_ble_eq_true rfl) (Nat.le_of_ble_eq_true rfl) hw (⟨rfl, hFF, h33, h34, h35, h36⟩) dX2_put_51
  · exact absurd (nI_lt (by omega) (by omega)) c7

set_option maxHeartbeats 4000000 in
set_option maxRecDepth 100000 in
theorem c_X2_init {l : Launch} {D : va_G} {cI cJ cZ cH cR : ClassId} {b : Nat} {M : Nat → va_E}     (h33 : M 33 = .inr (2, [.null, .null, .null, .int 0]))  : Met l yX2_init (kw yX2_init cX2_init 1 none) ({ frames := 1, cells := 3, slots := 1200, locals := 12 }) (va_Pc [.ref (b + 33)] (kPre D (kT cI cJ cZ cH cR) b M 34)) (va_Qv (fun (u : (Nat → va_E) × Nat) => u.2 = 37 ∧ kF [33, 34, 35, 36] M u.1 ∧ u.1 33 = .inr (2, [.ref (b + 34), .ref (b + 35), .ref (b + 36), .int (nI 0)]) ∧ u.1 34 = .inl (cI, 400, .inl (fun _ => 0)) ∧ u.1 35 = .inl (cI, 400, .inl (fun _ => 0)) ∧ u.1 36 = .inl (cJ, 400, .inr (.inl (fun _ => 0)))) (kB D (kT cI cJ cZ cH cR) b) (kA b)) 3 1200 (kA b) := by
  refine k_metV (by decide +kernel) (Nat.le_of_ble_eq_true rfl) ?_
  intro p e s m below meth c ls Q C hw hret hnm hl
  have hl : lv_has ls 1 [(0, .ref (b + 33))] := hl
  have hFF : kF [33, 34, 35, 36] M M := kF_rf
  refine lv_aload_n C.1 C.2.1 dX2_init_0 rfl (lv_at hl 0 rfl) ?_
  refine W.objInit C.1 C.2.1 C.2.2.2.1 (C.2.2.2.2.1 _ q_107) (C.2.2.2.2.1 _ q_10) (C.2.2.2.2.1 _ q_11) rfl (by rw [C.2.2.1]; exact hl.1) rfl dX2_init_1 (Nat.le_of_ble_eq_true rfl) (Nat.le_of_ble_eq_true rfl) ?_
  refine W.eq (g2 := F0 m 4 ls []) rfl ?_
  refine lv_aload_n C.1 C.2.1 dX2_init_4 rfl (lv_at hl 0 rfl) ?_
  refine lv_sipush (v := nI 400) C.1 C.2.1 dX2_init_5 (by decide) ?_
  refine k_newI C hw q_38 400 rfl (by decide) (Nat.le_of_ble_eq_true rfl) (Nat.le_of_ble_eq_true rfl) dX2_init_8 (fun M_1 H hw h34 hF => ?_)
  have h33 := (hF 33 (by decide)).trans h33
  have hFF := kF_st hFF hF (by first | decide | simp)
  refine k_putF (tf := .array .int) C hw 33 (by decide) h33 rfl inlX2 tyX2 tyX2_ok nmX2 0 (by decide) q_108 rfl hnm rfl (by decide +kernel) rfl rfl (Nat.le_of_ble_eq_true rfl) dX2_init_10 (fun M_2 H locs hw h33 hF => ?_)
  have h33 : M_2 33 = .inr (2, [.ref (b + 34), .null, .null, .int 0]) := h33
  have h34 := (hF 34 (by decide)).trans h34
  have hFF := kF_st hFF hF (by first | decide | simp)
  refine lv_aload_n C.1 C.2.1 dX2_init_13 rfl (lv_at hl 0 rfl) ?_
  refine lv_sipush (v := nI 400) C.1 C.2.1 dX2_init_14 (by decide) ?_
  refine k_newI C hw q_38 400 rfl (by decide) (Nat.le_of_ble_eq_true rfl) (Nat.le_of_ble_eq_true rfl) dX2_init_17 (fun M_3 H hw h35 hF => ?_)
  have h33 := (hF 33 (by decide)).trans h33
  have h34 := (hF 34 (by decide)).trans h34
  have hFF := kF_st hFF hF (by first | decide | simp)
  refine k_putF (tf := .array .int) C hw 33 (by decide) h33 rfl inlX2 tyX2 tyX2_ok nmX2 1 (by decide) q_109 rfl hnm rfl (by decide +kernel) rfl rfl (Nat.le_of_ble_eq_true rfl) dX2_init_19 (fun M_4 H locs hw h33 hF => ?_)
  have h33 : M_4 33 = .inr (2, [.ref (b + 34), .ref (b + 35), .null, .int 0]) := h33
  have h34 := (hF 34 (by decide)).trans h34
  have h35 := (hF 35 (by decide)).trans h35
  have hFF := kF_st hFF hF (by first | decide | simp)
  refine lv_aload_n C.1 C.2.1 dX2_init_22 rfl (lv_at hl 0 rfl) ?_
  refine lv_sipush (v := nI 400) C.1 C.2.1 dX2_init_23 (by decide) ?_
  refine k_newJ C hw q_89 400 rfl (by decide) (Nat.le_of_ble_eq_true rfl) (Nat.le_of_ble_eq_true rfl) dX2_init_26 (fun M_5 H hw h36 hF => ?_)
  have h33 := (hF 33 (by decide)).trans h33
  have h34 := (hF 34 (by decide)).trans h34
  have h35 := (hF 35 (by decide)).trans h35
  have hFF := kF_st hFF hF (by first | decide | simp)
  refine k_putF (tf := .array .long) C hw 33 (by decide) h33 rfl inlX2 tyX2 tyX2_ok nmX2 2 (by decide) q_110 rfl hnm rfl (by decide +kernel) rfl rfl (Nat.le_of_ble_eq_true rfl) dX2_init_28 (fun M_6 H locs hw h33 hF => ?_)
  have h33 : M_6 33 = .inr (2, [.ref (b + 34), .ref (b + 35), .ref (b + 36), .int 0]) := h33
  have h34 := (hF 34 (by decide)).trans h34
  have h35 := (hF 35 (by decide)).trans h35
  have h36 := (hF 36 (by decide)).trans h36
  have hFF := kF_st hFF hF (by first | decide | simp)
  exact hret _ _ (Nat.le_of_ble_eq_true rfl) (Nat.le_of_ble_eq_true rfl) hw (⟨rfl, hFF, h33, h34, h35, h36⟩) dX2_init_31

set_option maxHeartbeats 4000000 in
set_option maxRecDepth 100000 in
theorem c_X1_init {l : Launch} {D : va_G} {cI cJ cZ cH cR : ClassId} {b : Nat} {M : Nat → va_E}     (h37 : M 37 = .inr (1, [.null, .null, .null, .null, .int 0, .int 0]))  : Met l yX1_init (kw yX1_init cX1_init 1 none) ({ frames := 1, cells := 4, slots := 128, locals := 12 }) (va_Pc [.ref (b + 37)] (kPre D (kT cI cJ cZ cH cR) b M 38)) (va_Qv (fun (u : (Nat → va_E) × Nat) => u.2 = 42 ∧ kF [37, 38, 39, 40, 41] M u.1 ∧ u.1 37 = .inr (1, [.ref (b + 38), .ref (b + 39), .ref (b + 40), .ref (b + 41), .int (nI 0), .int (nI 0)]) ∧ u.1 38 = .inl (cI, 32, .inl (fun _ => 0)) ∧ u.1 39 = .inl (cI, 32, .inl (fun _ => 0)) ∧ u.1 40 = .inl (cI, 32, .inl (fun _ => 0)) ∧ u.1 41 = .inl (cJ, 32, .inr (.inl (fun _ => 0)))) (kB D (kT cI cJ cZ cH cR) b) (kA b)) 4 128 (kA b) := by
  refine k_metV (by decide +kernel) (Nat.le_of_ble_eq_true rfl) ?_
  intro p e s m below meth c ls Q C hw hret hnm hl
  have hl : lv_has ls 1 [(0, .ref (b + 37))] := hl
  have hFF : kF [37, 38, 39, 40, 41] M M := kF_rf
  refine lv_aload_n C.1 C.2.1 dX1_init_0 rfl (lv_at hl 0 rfl) ?_
  refine W.objInit C.1 C.2.1 C.2.2.2.1 (C.2.2.2.2.1 _ q_114) (C.2.2.2.2.1 _ q_10) (C.2.2.2.2.1 _ q_11) rfl (by rw [C.2.2.1]; exact hl.1) rfl dX1_init_1 (Nat.le_of_ble_eq_true rfl) (Nat.le_of_ble_eq_true rfl) ?_
  refine W.eq (g2 := F0 m 4 ls []) rfl ?_
  refine lv_aload_n C.1 C.2.1 dX1_init_4 rfl (lv_at hl 0 rfl) ?_
  refine lv_bipush (v := nI 32) C.1 C.2.1 dX1_init_5 (by decide) ?_
  refine k_newI C hw q_38 32 rfl (by decide) (Nat.le_of_ble_eq_true rfl) (Nat.le_of_ble_eq_true rfl) dX1_init_7 (fun M_1 H hw h38 hF => ?_)
  have h37 := (hF 37 (by decide)).trans h37
  have hFF := kF_st hFF hF (by first | decide | simp)
  refine k_putF (tf := .array .int) C hw 37 (by decide) h37 rfl inlX1 tyX1 tyX1_ok nmX1 0 (by decide) q_115 rfl hnm rfl (by decide +kernel) rfl rfl (Nat.le_of_ble_eq_true rfl) dX1_init_9 (fun M_2 H locs hw h37 hF => ?_)
  have h37 : M_2 37 = .inr (1, [.ref (b + 38), .null, .null, .null, .int 0, .int 0]) := h37
  have h38 := (hF 38 (by decide)).trans h38
  have hFF := kF_st hFF hF (by first | decide | simp)
  refine lv_aload_n C.1 C.2.1 dX1_init_12 rfl (lv_at hl 0 rfl) ?_
  refine lv_bipush (v := nI 32) C.1 C.2.1 dX1_init_13 (by decide) ?_
  refine k_newI C hw q_38 32 rfl (by decide) (Nat.le_of_ble_eq_true rfl) (Nat.le_of_ble_eq_true rfl) dX1_init_15 (fun M_3 H hw h39 hF => ?_)
  have h37 := (hF 37 (by decide)).trans h37
  have h38 := (hF 38 (by decide)).trans h38
  have hFF := kF_st hFF hF (by first | decide | simp)
  refine k_putF (tf := .array .int) C hw 37 (by decide) h37 rfl inlX1 tyX1 tyX1_ok nmX1 1 (by decide) q_116 rfl hnm rfl (by decide +kernel) rfl rfl (Nat.le_of_ble_eq_true rfl) dX1_init_17 (fun M_4 H locs hw h37 hF => ?_)
  have h37 : M_4 37 = .inr (1, [.ref (b + 38), .ref (b + 39), .null, .null, .int 0, .int 0]) := h37
  have h38 := (hF 38 (by decide)).trans h38
  have h39 := (hF 39 (by decide)).trans h39
  have hFF := kF_st hFF hF (by first | decide | simp)
  refine lv_aload_n C.1 C.2.1 dX1_init_20 rfl (lv_at hl 0 rfl) ?_
  refine lv_bipush (v := nI 32) C.1 C.2.1 dX1_init_21 (by decide) ?_
  refine k_newI C hw q_38 32 rfl (by decide) (Nat.le_of_ble_eq_true rfl) (Nat.le_of_ble_eq_true rfl) dX1_init_23 (fun M_5 H hw h40 hF => ?_)
  have h37 := (hF 37 (by decide)).trans h37
  have h38 := (hF 38 (by decide)).trans h38
  have h39 := (hF 39 (by decide)).trans h39
  have hFF := kF_st hFF hF (by first | decide | simp)
  refine k_putF (tf := .array .int) C hw 37 (by decide) h37 rfl inlX1 tyX1 tyX1_ok nmX1 2 (by decide) q_117 rfl hnm rfl (by decide +kernel) rfl rfl (Nat.le_of_ble_eq_true rfl) dX1_init_25 (fun M_6 H locs hw h37 hF => ?_)
  have h37 : M_6 37 = .inr (1, [.ref (b + 38), .ref (b + 39), .ref (b + 40), .null, .int 0, .int 0]) := h37
  have h38 := (hF 38 (by decide)).trans h38
  have h39 := (hF 39 (by decide)).trans h39
  have h40 := (hF 40 (by decide)).trans h40
  have hFF := kF_st hFF hF (by first | decide | simp)
  refine lv_aload_n C.1 C.2.1 dX1_init_28 rfl (lv_at hl 0 rfl) ?_
  refine lv_bipush (v := nI 32) C.1 C.2.1 dX1_init_29 (by decide) ?_
  refine k_newJ C hw q_89 32 rfl (by decide) (Nat.le_of_ble_eq_true rfl) (Nat.le_of_ble_eq_true rfl) dX1_init_31 (fun M_7 H hw h41 hF => ?_)
  have h37 := (hF 37 (by decide)).trans h37
  have h38 := (hF 38 (by decide)).trans h38
  have h39 := (hF 39 (by decide)).trans h39
  have h40 := (hF 40 (by decide)).trans h40
  have hFF := kF_st hFF hF (by first | decide | simp)
  refine k_putF (tf := .array .long) C hw 37 (by decide) h37 rfl inlX1 tyX1 tyX1_ok nmX1 3 (by decide) q_118 rfl hnm rfl (by decide +kernel) rfl rfl (Nat.le_of_ble_eq_true rfl) dX1_init_33 (fun M_8 H locs hw h37 hF => ?_)
  have h37 : M_8 37 = .inr (1, [.ref (b + 38), .ref (b + 39), .ref (b + 40), .ref (b + 41), .int 0, .int 0]) := h37
  have h38 := (hF 38 (by decide)).trans h38
  have h39 := (hF 39 (by decide)).trans h39
  have h40 := (hF 40 (by decide)).trans h40
  have h41 := (hF 41 (by decide)).trans h41
  have hFF := kF_st hFF hF (by first | decide | simp)
  exact hret _ _ (Nat.le_of_ble_eq_true rfl) (Nat.le_of_ble_eq_true rfl) hw (⟨rfl, hFF, h37, h38, h39, h40, h41⟩) dX1_init_36

set_option maxHeartbeats 4000000 in
set_option maxRecDepth 100000 in
theorem c_J9_floorMod_7cf53 {l : Launch} {D : va_G} {cI cJ cZ cH cR : ClassId} {b : Nat} {n : Nat} {M : Nat → va_E}   {x : Int32}    : Met l yJ9_floorMod_7cf53 (kw yJ9_floorMod_7cf53 cJ9_floorMod_7cf53 3 (some .int)) ({ frames := 0, cells := 0, slots := 0, locals := 0 }) (va_Pc [.int x, .int (nI 32)] (kPre D (kT cI cJ cZ cH cR) b M n)) (va_Qi (fun (r : Int32) (u : (Nat → va_E) × Nat) => r = (fm32 x) ∧ u.2 = n ∧ u.1 = M) (kB D (kT cI cJ cZ cH cR) b) (kA b)) 0 0 (kA b) := by
  refine k_metI (by decide +kernel) (Nat.le_of_ble_eq_true rfl) ?_
  intro p e s m below meth c ls Q C hw hret hnm hl
  have hl : lv_has ls 3 [(0, .int x), (1, .int (nI 32))] := hl
  refine lv_iload_n C.1 C.2.1 dJ9_floorMod_7cf53_0 rfl (lv_at hl 0 rfl) ?_
  refine lv_iload_n C.1 C.2.1 dJ9_floorMod_7cf53_1 rfl (lv_at hl 1 rfl) ?_
  refine lv_irem C.1 C.2.1 dJ9_floorMod_7cf53_2 (by decide) ?_
  refine lv_topi (fun rm erm => ?_)
  refine lv_istore_n (lv' := [(2, .int rm), (0, .int x), (1, .int (nI 32))]) C.1 C.2.1 dJ9_floorMod_7cf53_3 rfl hl (by decide) rfl (fun ls hl => ?_)
  refine lv_iload_n C.1 C.2.1 dJ9_floorMod_7cf53_4 rfl (lv_at hl 1 rfl) ?_
  refine lv_iload_n C.1 C.2.1 dJ9_floorMod_7cf53_5 rfl (lv_at hl 2 rfl) ?_
  refine lv_ixor C.1 C.2.1 dJ9_floorMod_7cf53_6 ?_
  refine lv_if_ge (tgt := 18) C.1 C.2.1 dJ9_floorMod_7cf53_7 (by decide) (fun c7 => ?_) (fun c7 => ?_)
  · refine lv_iload_n C.1 C.2.1 dJ9_floorMod_7cf53_18 rfl (lv_at hl 0 rfl) ?_
    exact hret _ _ (Nat.le_of_ble_eq_true rfl) (Nat.le_of_ble_eq_true rfl) hw (⟨by subst erm; unfold fm32; rw [if_pos c7], rfl, rfl⟩) dJ9_floorMod_7cf53_19
  · refine lv_iload_n C.1 C.2.1 dJ9_floorMod_7cf53_10 rfl (lv_at hl 0 rfl) ?_
    refine lv_if_eq (tgt := 18) C.1 C.2.1 dJ9_floorMod_7cf53_11 (by decide) (fun c11 => ?_) (fun c11 => ?_)
    · refine lv_iload_n C.1 C.2.1 dJ9_floorMod_7cf53_18 rfl (lv_at hl 0 rfl) ?_
      exact hret _ _ (Nat.le_of_ble_eq_true rfl) (Nat.le_of_ble_eq_true rfl) hw (⟨by subst erm; unfold fm32; rw [if_neg c7, if_pos c11], rfl, rfl⟩) dJ9_floorMod_7cf53_19
    · refine lv_iload_n C.1 C.2.1 dJ9_floorMod_7cf53_14 rfl (lv_at hl 0 rfl) ?_
      refine lv_iload_n C.1 C.2.1 dJ9_floorMod_7cf53_15 rfl (lv_at hl 2 rfl) ?_
      refine lv_iadd C.1 C.2.1 dJ9_floorMod_7cf53_16 ?_
      exact hret _ _ (Nat.le_of_ble_eq_true rfl) (Nat.le_of_ble_eq_true rfl) hw (⟨by subst erm; unfold fm32; rw [if_neg c7, if_neg c11], rfl, rfl⟩) dJ9_floorMod_7cf53_17

set_option maxHeartbeats 4000000 in
set_option maxRecDepth 100000 in
theorem c_X1_put {l : Launch} {D : va_G} {cI cJ cZ cH cR : ClassId} {b : Nat} {n : Nat} {M : Nat → va_E}  {lx : Nat} {lz : Nat} {lk : Nat → Int32} {lt : Nat → Int32} {lc : Nat → Int32} {ly : Nat → Int64} {k t c_ : Int32} {z : Int64} (hn : 42 ≤ n) (h37 : M 37 = .inr (1, [.ref (b + 38), .ref (b + 39), .ref (b + 40), .ref (b + 41), .int (nI lx), .int (nI lz)])) (h38 : M 38 = .inl (cI, 32, .inl lk)) (h39 : M 39 = .inl (cI, 32, .inl lt)) (h40 : M 40 = .inl (cI, 32, .inl lc)) (h41 : M 41 = .inl (cJ, 32, .inr (.inl ly))) (hx : lx < 32) (hz : lz ≤ 32) : Met l yX1_put (kw yX1_put cX1_put 6 none) ({ frames := 1, cells := 0, slots := 0, locals := 30 }) (va_Pc [.ref (b + 37), .int k, .int t, .int c_, .long z] (kPre D (kT cI cJ cZ cH cR) b M n)) (va_Qv (fun (u : (Nat → va_E) × Nat) => u.2 = n ∧ kF [37, 38, 39, 40, 41] M u.1 ∧ u.1 37 = .inr (1, [.ref (b + 38), .ref (b + 39), .ref (b + 40), .ref (b + 41), .int (nI ((lx + 1) % 32)), .int (nI (min (lz + 1) 32))]) ∧ u.1 38 = .inl (cI, 32, .inl (upd lk lx k)) ∧ u.1 39 = .inl (cI, 32, .inl (upd lt lx t)) ∧ u.1 40 = .inl (cI, 32, .inl (upd lc lx c_)) ∧ u.1 41 = .inl (cJ, 32, .inr (.inl (vp_updL ly lx z)))) (kB D (kT cI cJ cZ cH cR) b) (kA b)) 0 0 (kA b) := by
  refine k_metV (by decide +kernel) (Nat.le_of_ble_eq_true rfl) ?_
  intro p e s m below meth c ls Q C hw hret hnm hl
  have hl : lv_has ls 6 [(0, .ref (b + 37)), (1, .int k), (2, .int t), (3, .int c_), (4, .long z)] := hl
  have hFF : kF [37, 38, 39, 40, 41] M M := kF_rf
  refine lv_aload_n C.1 C.2.1 dX1_put_0 rfl (lv_at hl 0 rfl) ?_
  refine k_get C hw 37 (by omega) h37 rfl inlX1 0 (by decide) q_115 rfl dX1_put_1 ?_
  refine lv_aload_n C.1 C.2.1 dX1_put_4 rfl (lv_at hl 0 rfl) ?_
  refine k_get C hw 37 (by omega) h37 rfl inlX1 4 (by decide) q_527 rfl dX1_put_5 ?_
  refine lv_iload_n C.1 C.2.1 dX1_put_8 rfl (lv_at hl 1 rfl) ?_
  refine k_iast C hw 38 (by omega) h38 (by omega) (by first | decide | omega) dX1_put_9 (fun M_1 H locs hw h38 hF => ?_)
  have h37 := (hF 37 (by decide)).trans h37
  have h39 := (hF 39 (by decide)).trans h39
  have h40 := (hF 40 (by decide)).trans h40
  have h41 := (hF 41 (by decide)).trans h41
  have hFF := kF_st hFF hF (by first | decide | simp)
  refine lv_aload_n C.1 C.2.1 dX1_put_10 rfl (lv_at hl 0 rfl) ?_
  refine k_get C hw 37 (by omega) h37 rfl inlX1 1 (by decide) q_116 rfl dX1_put_11 ?_
  refine lv_aload_n C.1 C.2.1 dX1_put_14 rfl (lv_at hl 0 rfl) ?_
  refine k_get C hw 37 (by omega) h37 rfl inlX1 4 (by decide) q_527 rfl dX1_put_15 ?_
  refine lv_iload_n C.1 C.2.1 dX1_put_18 rfl (lv_at hl 2 rfl) ?_
  refine k_iast C hw 39 (by omega) h39 (by omega) (by first | decide | omega) dX1_put_19 (fun M_2 H locs hw h39 hF => ?_)
  have h37 := (hF 37 (by decide)).trans h37
  have h38 := (hF 38 (by decide)).trans h38
  have h40 := (hF 40 (by decide)).trans h40
  have h41 := (hF 41 (by decide)).trans h41
  have hFF := kF_st hFF hF (by first | decide | simp)
  refine lv_aload_n C.1 C.2.1 dX1_put_20 rfl (lv_at hl 0 rfl) ?_
  refine k_get C hw 37 (by omega) h37 rfl inlX1 2 (by decide) q_117 rfl dX1_put_21 ?_
  refine lv_aload_n C.1 C.2.1 dX1_put_24 rfl (lv_at hl 0 rfl) ?_
  refine k_get C hw 37 (by omega) h37 rfl inlX1 4 (by decide) q_527 rfl dX1_put_25 ?_
  refine lv_iload_n C.1 C.2.1 dX1_put_28 rfl (lv_at hl 3 rfl) ?_
  refine k_iast C hw 40 (by omega) h40 (by omega) (by first | decide | omega) dX1_put_29 (fun M_3 H locs hw h40 hF => ?_)
  have h37 := (hF 37 (by decide)).trans h37
  have h38 := (hF 38 (by decide)).trans h38
  have h39 := (hF 39 (by decide)).trans h39
  have h41 := (hF 41 (by decide)).trans h41
  have hFF := kF_st hFF hF (by first | decide | simp)
  refine lv_aload_n C.1 C.2.1 dX1_put_30 rfl (lv_at hl 0 rfl) ?_
  refine k_get C hw 37 (by omega) h37 rfl inlX1 3 (by decide) q_118 rfl dX1_put_31 ?_
  refine lv_aload_n C.1 C.2.1 dX1_put_34 rfl (lv_at hl 0 rfl) ?_
  refine k_get C hw 37 (by omega) h37 rfl inlX1 4 (by decide) q_527 rfl dX1_put_35 ?_
  refine lv_lload C.1 C.2.1 dX1_put_38 (lv_at hl 4 rfl) ?_
  refine k_last C hw 41 (by omega) h41 (by omega) (by first | decide | omega) dX1_put_40 (fun M_4 H locs hw h41 hF => ?_)
  have h37 := (hF 37 (by decide)).trans h37
  have h38 := (hF 38 (by decide)).trans h38
  have h39 := (hF 39 (by decide)).trans h39
  have h40 := (hF 40 (by decide)).trans h40
  have hFF := kF_st hFF hF (by first | decide | simp)
  refine lv_aload_n C.1 C.2.1 dX1_put_41 rfl (lv_at hl 0 rfl) ?_
  refine lv_aload_n C.1 C.2.1 dX1_put_42 rfl (lv_at hl 0 rfl) ?_
  refine k_get C hw 37 (by omega) h37 rfl inlX1 4 (by decide) q_527 rfl dX1_put_43 ?_
  refine lv_iconst (v := nI 1) C.1 C.2.1 dX1_put_46 (by decide) ?_
  refine lv_iadd C.1 C.2.1 dX1_put_47 ?_
  refine k_topi (y := nI (lx + 1)) (nI_add _ _) ?_
  refine lv_bipush (v := nI 32) C.1 C.2.1 dX1_put_48 (by decide) ?_
  refine lv_irem C.1 C.2.1 dX1_put_50 (by decide) ?_
  refine k_topi (y := nI ((lx + 1) % 32)) (pk_rem (by omega) (by decide) (by decide)) ?_
  refine k_put (tf := .int) C hw 37 (by omega) h37 rfl inlX1 tyX1 tyX1_ok nmX1 4 (by decide) q_527 rfl (by decide +kernel) rfl rfl (Nat.le_of_ble_eq_true rfl) dX1_put_51 (fun M_5 H locs hw h37 hF => ?_)
  have h37 : M_5 37 = .inr (1, [.ref (b + 38), .ref (b + 39), .ref (b + 40), .ref (b + 41), .int (nI ((lx + 1) % 32)), .int (nI lz)]) := h37
  have h38 := (hF 38 (by decide)).trans h38
  have h39 := (hF 39 (by decide)).trans h39
  have h40 := (hF 40 (by decide)).trans h40
  have h41 := (hF 41 (by decide)).trans h41
  have hFF := kF_st hFF hF (by first | decide | simp)
  refine lv_aload_n C.1 C.2.1 dX1_put_54 rfl (lv_at hl 0 rfl) ?_
  refine lv_aload_n C.1 C.2.1 dX1_put_55 rfl (lv_at hl 0 rfl) ?_
  refine k_get C hw 37 (by omega) h37 rfl inlX1 5 (by decide) q_528 rfl dX1_put_56 ?_
  refine lv_iconst (v := nI 1) C.1 C.2.1 dX1_put_59 (by decide) ?_
  refine lv_iadd C.1 C.2.1 dX1_put_60 ?_
  refine k_topi (y := nI (lz + 1)) (nI_add _ _) ?_
  refine lv_bipush (v := nI 32) C.1 C.2.1 dX1_put_61 (by decide) ?_
  refine va_mmin C.1 C.2.1 (C.2.2.1.trans hl.1.symm) C.2.2.2.1 (C.2.2.2.2.1 _ q_529) (C.2.2.2.2.1 _ q_530) (C.2.2.2.2.1 _ q_531) (C.2.2.2.2.1 _ q_532) (Nat.le_of_ble_eq_true rfl) (Nat.le_of_ble_eq_true rfl) (Nat.le_of_ble_eq_true rfl) (Nat.le_of_ble_eq_true rfl) dX1_put_63 ?_
  refine k_topi (y := nI (min (lz + 1) 32)) (nI_min (by omega) (by decide)) ?_
  refine k_put (tf := .int) C hw 37 (by omega) h37 rfl inlX1 tyX1 tyX1_ok nmX1 5 (by decide) q_528 rfl (by decide +kernel) rfl rfl (Nat.le_of_ble_eq_true rfl) dX1_put_66 (fun M_6 H locs hw h37 hF => ?_)
  have h37 : M_6 37 = .inr (1, [.ref (b + 38), .ref (b + 39), .ref (b + 40), .ref (b + 41), .int (nI ((lx + 1) % 32)), .int (nI (min (lz + 1) 32))]) := h37
  have h38 := (hF 38 (by decide)).trans h38
  have h39 := (hF 39 (by decide)).trans h39
  have h40 := (hF 40 (by decide)).trans h40
  have h41 := (hF 41 (by decide)).trans h41
  have hFF := kF_st hFF hF (by first | decide | simp)
  exact hret _ _ (Nat.le_of_ble_eq_true rfl) (Nat.le_of_ble_eq_true rfl) hw (⟨rfl, hFF, h37, h38, h39, h40, h41⟩) dX1_put_69

set_option maxHeartbeats 4000000 in
set_option maxRecDepth 100000 in
theorem c_X1_placeOf {l : Launch} {D : va_G} {cI cJ cZ cH cR : ClassId} {b : Nat} {n : Nat} {M : Nat → va_E}  {lx : Nat} {lz : Nat} {i : Nat} (hn : 38 ≤ n) (h37 : M 37 = .inr (1, [.ref (b + 38), .ref (b + 39), .ref (b + 40), .ref (b + 41), .int (nI lx), .int (nI lz)])) (hx : lx < 32) (hi : i < 32) : Met l yX1_placeOf (kw yX1_placeOf cX1_placeOf 2 (some .int)) ({ frames := 1, cells := 0, slots := 0, locals := 22 }) (va_Pc [.ref (b + 37), .int (nI i)] (kPre D (kT cI cJ cZ cH cR) b M n)) (va_Qi (fun (r : Int32) (u : (Nat → va_E) × Nat) => r = (nI ((lx + 63 - i) % 32)) ∧ u.2 = n ∧ u.1 = M) (kB D (kT cI cJ cZ cH cR) b) (kA b)) 0 0 (kA b) := by
  refine k_metI (by decide +kernel) (Nat.le_of_ble_eq_true rfl) ?_
  intro p e s m below meth c ls Q C hw hret hnm hl
  have hl : lv_has ls 2 [(0, .ref (b + 37)), (1, .int (nI i))] := hl
  refine lv_aload_n C.1 C.2.1 dX1_placeOf_0 rfl (lv_at hl 0 rfl) ?_
  refine k_get C hw 37 (by omega) h37 rfl inlX1 4 (by decide) q_527 rfl dX1_placeOf_1 ?_
  refine lv_iconst (v := nI 1) C.1 C.2.1 dX1_placeOf_4 (by decide) ?_
  refine lv_isub C.1 C.2.1 dX1_placeOf_5 ?_
  refine lv_iload_n C.1 C.2.1 dX1_placeOf_6 rfl (lv_at hl 1 rfl) ?_
  refine lv_isub C.1 C.2.1 dX1_placeOf_7 ?_
  refine lv_bipush (v := nI 32) C.1 C.2.1 dX1_placeOf_8 (by decide) ?_
  refine k_si C hw (c_J9_floorMod_7cf53  ) kv_X1_38 rfl hl.1 ⟨Nat.le_of_ble_eq_true rfl, Nat.le_of_ble_eq_true rfl⟩ (Nat.le_of_ble_eq_true rfl) ⟨Nat.le_of_ble_eq_true rfl, Nat.le_of_ble_eq_true rfl⟩ dX1_placeOf_10 (fun r10 M_1 n9 H locs hp hw => ?_)
  obtain ⟨er10, en9, eM9⟩ := hp
  have en9 : n9 = n := en9
  rw [en9] at hw
  have eM9 : M_1 = M := eM9
  rw [eM9] at hw
  exact hret _ _ (Nat.le_of_ble_eq_true rfl) (Nat.le_of_ble_eq_true rfl) hw (⟨by rw [er10]; exact fm32_at hx hi, rfl, rfl⟩) dX1_placeOf_13

set_option maxHeartbeats 4000000 in
set_option maxRecDepth 100000 in
theorem c_X7_comesAhead {l : Launch} {D : va_G} {cI cJ cZ cH cR : ClassId} {b : Nat} {n : Nat} {M : Nat → va_E}  {ts : Nat} {tr : Int32} {tk : Nat → Int32} {tt : Nat → Int32} {k t : Int32} {j : Nat} (hn : 33 ≤ n) (h30 : M 30 = .inr (7, [.ref (b + 31), .ref (b + 32), .int (nI ts), .int tr])) (h31 : M 31 = .inl (cI, 40, .inl tk)) (h32 : M 32 = .inl (cI, 40, .inl tt)) (hj : j < 40) : Met l yX7_comesAhead (kw yX7_comesAhead cX7_comesAhead 4 (some .boolean)) ({ frames := 0, cells := 0, slots := 0, locals := 0 }) (va_Pc [.ref (b + 30), .int k, .int t, .int (nI j)] (kPre D (kT cI cJ cZ cH cR) b M n)) (va_Qi (fun (r : Int32) (u : (Nat → va_E) × Nat) => r = (if tah k t (tk j) (tt j) then 1 else 0) ∧ u.2 = n ∧ u.1 = M) (kB D (kT cI cJ cZ cH cR) b) (kA b)) 0 0 (kA b) := by
  refine k_metZ (by decide +kernel) (Nat.le_of_ble_eq_true rfl) ?_
  intro p e s m below meth c ls Q C hw hret hnm hl
  have hl : lv_has ls 4 [(0, .ref (b + 30)), (1, .int k), (2, .int t), (3, .int (nI j))] := hl
  refine lv_iload_n C.1 C.2.1 dX7_comesAhead_0 rfl (lv_at hl 2 rfl) ?_
  refine lv_aload_n C.1 C.2.1 dX7_comesAhead_1 rfl (lv_at hl 0 rfl) ?_
  refine k_get C hw 30 (by omega) h30 rfl inlX7 1 (by decide) q_103 rfl dX7_comesAhead_2 ?_
  refine lv_iload_n C.1 C.2.1 dX7_comesAhead_5 rfl (lv_at hl 3 rfl) ?_
  refine k_iald C hw 32 (by omega) h32 (by omega) (by first | decide | omega) dX7_comesAhead_6 ?_
  refine lv_icmp_lt (tgt := 30) C.1 C.2.1 dX7_comesAhead_7 (by decide) (fun c7 => ?_) (fun c7 => ?_)
  · refine lv_iconst (v := nI 1) C.1 C.2.1 dX7_comesAhead_30 (by decide) ?_
    refine lv_goto (tgt := 35) C.1 C.2.1 dX7_comesAhead_31 (by decide) ?_
    exact hret _ _ (Nat.le_of_ble_eq_true rfl) (Nat.le_of_ble_eq_true rfl) hw (by first | exact Or.inl rfl | exact Or.inr rfl) (⟨by rw [if_pos (Or.inl c7)]; rfl, rfl, rfl⟩) dX7_comesAhead_35
  · refine lv_iload_n C.1 C.2.1 dX7_comesAhead_10 rfl (lv_at hl 2 rfl) ?_
    refine lv_aload_n C.1 C.2.1 dX7_comesAhead_11 rfl (lv_at hl 0 rfl) ?_
    refine k_get C hw 30 (by omega) h30 rfl inlX7 1 (by decide) q_103 rfl dX7_comesAhead_12 ?_
    refine lv_iload_n C.1 C.2.1 dX7_comesAhead_15 rfl (lv_at hl 3 rfl) ?_
    refine k_iald C hw 32 (by omega) h32 (by omega) (by first | decide | omega) dX7_comesAhead_16 ?_
    refine lv_icmp_ne (tgt := 34) C.1 C.2.1 dX7_comesAhead_17 (by decide) (fun c17 => ?_) (fun c17 => ?_)
    · refine lv_iconst (v := nI 0) C.1 C.2.1 dX7_comesAhead_34 (by decide) ?_
      exact hret _ _ (Nat.le_of_ble_eq_true rfl) (Nat.le_of_ble_eq_true rfl) hw (by first | exact Or.inl rfl | exact Or.inr rfl) (⟨by rw [if_neg (fun h => h.elim c7 (fun q => c17 q.1))]; rfl, rfl, rfl⟩) dX7_comesAhead_35
    · refine lv_iload_n C.1 C.2.1 dX7_comesAhead_20 rfl (lv_at hl 1 rfl) ?_
      refine lv_aload_n C.1 C.2.1 dX7_comesAhead_21 rfl (lv_at hl 0 rfl) ?_
      refine k_get C hw 30 (by omega) h30 rfl inlX7 0 (by decide) q_102 rfl dX7_comesAhead_22 ?_
      refine lv_iload_n C.1 C.2.1 dX7_comesAhead_25 rfl (lv_at hl 3 rfl) ?_
      refine k_iald C hw 31 (by omega) h31 (by omega) (by first | decide | omega) dX7_comesAhead_26 ?_
      refine lv_icmp_ge (tgt := 34) C.1 C.2.1 dX7_comesAhead_27 (by decide) (fun c27 => ?_) (fun c27 => ?_)
      · refine lv_iconst (v := nI 0) C.1 C.2.1 dX7_comesAhead_34 (by decide) ?_
        exact hret _ _ (Nat.le_of_ble_eq_true rfl) (Nat.le_of_ble_eq_true rfl) hw (by first | exact Or.inl rfl | exact Or.inr rfl) (⟨by rw [if_neg (fun h => h.elim c7 (fun q => absurd q.2 (Int32.not_lt.mpr c27)))]; rfl, rfl, rfl⟩) dX7_comesAhead_35
      · refine lv_iconst (v := nI 1) C.1 C.2.1 dX7_comesAhead_30 (by decide) ?_
        refine lv_goto (tgt := 35) C.1 C.2.1 dX7_comesAhead_31 (by decide) ?_
        exact hret _ _ (Nat.le_of_ble_eq_true rfl) (Nat.le_of_ble_eq_true rfl) hw (by first | exact Or.inl rfl | exact Or.inr rfl) (⟨by rw [if_pos (Or.inr ⟨c17, Int32.not_le.mp c27⟩)]; rfl, rfl, rfl⟩) dX7_comesAhead_35

set_option maxHeartbeats 4000000 in
set_option maxRecDepth 100000 in
theorem c_X7_placeFor {l : Launch} {D : va_G} {cI cJ cZ cH cR : ClassId} {b : Nat} {n : Nat} {M : Nat → va_E}  {ts : Nat} {tr : Int32} {tk : Nat → Int32} {tt : Nat → Int32} {k t : Int32} (hn : 33 ≤ n) (h30 : M 30 = .inr (7, [.ref (b + 31), .ref (b + 32), .int (nI ts), .int tr])) (h31 : M 31 = .inl (cI, 40, .inl tk)) (h32 : M 32 = .inl (cI, 40, .inl tt)) (hs : ts ≤ 40) : Met l yX7_placeFor (kw yX7_placeFor cX7_placeFor 4 (some .int)) ({ frames := 1, cells := 0, slots := 0, locals := 23 }) (va_Pc [.ref (b + 30), .int k, .int t] (kPre D (kT cI cJ cZ cH cR) b M n)) (va_Qi (fun (r : Int32) (u : (Nat → va_E) × Nat) => r = (nI (tpl k t tk tt ts)) ∧ u.2 = n ∧ u.1 = M) (kB D (kT cI cJ cZ cH cR) b) (kA b)) 0 0 (kA b) := by
  refine k_metI (by decide +kernel) (Nat.le_of_ble_eq_true rfl) ?_
  intro p e s m below meth c ls Q C hw hret hnm hl
  have hl : lv_has ls 4 [(0, .ref (b + 30)), (1, .int k), (2, .int t)] := hl
  refine lv_aload_n C.1 C.2.1 dX7_placeFor_0 rfl (lv_at hl 0 rfl) ?_
  refine k_get C hw 30 (by omega) h30 rfl inlX7 2 (by decide) q_498 rfl dX7_placeFor_1 ?_
  refine lv_istore_n (lv' := [(3, .int (nI ts)), (0, .ref (b + 30)), (1, .int k), (2, .int t)]) C.1 C.2.1 dX7_placeFor_4 rfl hl (by decide) rfl (fun ls hl => ?_)
  have L5 : ∀ (N9 : Nat) (i : Nat), (i < N9) → (i ≤ ts) → (tpl k t tk tt i = tpl k t tk tt ts) → ∀ (ls : Array Slot) (H : Heap) (locs : List Loc), lv_has ls 4 [(3, .int (nI i)), (0, .ref (b + 30)), (1, .int k), (2, .int t)] → kW D b M n s.heap H locs → W p l e ({ frames := 1, cells := 0, slots := 0, locals := 23 } : Room) s m ([.ref (b + 30), .int k, .int t] : List Value).toArray below meth c H locs 0 0 Q (F0 m 5 ls []) := by
    intro N9
    induction N9 with
    | zero => intro i hm hi ha ls H locs hl hw; omega
    | succ N9 ih =>
      intro i hm hi ha ls H locs hl hw
      refine lv_iload_n C.1 C.2.1 dX7_placeFor_5 rfl (lv_at hl 0 rfl) ?_
      refine lv_if_le (tgt := 27) C.1 C.2.1 dX7_placeFor_6 (by decide) (fun c6 => ?_) (fun c6 => ?_)
      · have q : i = 0 := by rcases Nat.eq_zero_or_pos i with z | z; exact z; exact absurd c6 (nI_nle z (by omega))
        refine lv_iload_n C.1 C.2.1 dX7_placeFor_27 rfl (lv_at hl 0 rfl) ?_
        exact hret _ _ (Nat.le_of_ble_eq_true rfl) (Nat.le_of_ble_eq_true rfl) hw (⟨by rw [← ha, q]; rfl, rfl, rfl⟩) dX7_placeFor_28
      · have q : 0 < i := Nat.pos_of_ne_zero (fun z => c6 (by rw [z]; decide))
        refine lv_aload_n C.1 C.2.1 dX7_placeFor_9 rfl (lv_at hl 1 rfl) ?_
        refine lv_iload_n C.1 C.2.1 dX7_placeFor_10 rfl (lv_at hl 2 rfl) ?_
        refine lv_iload_n C.1 C.2.1 dX7_placeFor_11 rfl (lv_at hl 3 rfl) ?_
        refine lv_iload_n C.1 C.2.1 dX7_placeFor_12 rfl (lv_at hl 0 rfl) ?_
        refine lv_iconst (v := nI 1) C.1 C.2.1 dX7_placeFor_13 (by decide) ?_
        refine lv_isub C.1 C.2.1 dX7_placeFor_14 ?_
        refine k_topi (y := nI (i - 1)) (pk_sub (by omega)) ?_
        refine k_vi C hw 30 (by omega) h30 rfl (c_X7_comesAhead (by omega) h30 h31 h32 (by omega)) kv_X7_35 rfl hl.1 ⟨Nat.le_of_ble_eq_true rfl, Nat.le_of_ble_eq_true rfl⟩ (Nat.le_of_ble_eq_true rfl) ⟨Nat.le_of_ble_eq_true rfl, Nat.le_of_ble_eq_true rfl⟩ dX7_placeFor_15 (fun r15 M_1 n9 H locs hp hw => ?_)
        obtain ⟨er15, en9, eM9⟩ := hp
        have en9 : n9 = n := en9
        rw [en9] at hw
        have eM9 : M_1 = M := eM9
        rw [eM9] at hw
        refine lv_if_eq (tgt := 27) C.1 C.2.1 dX7_placeFor_18 (by decide) (fun c18 => ?_) (fun c18 => ?_)
        · have hno : ¬ tah k t (tk (i - 1)) (tt (i - 1)) := fun z => by rw [er15, if_pos z] at c18; exact absurd c18 (by decide)
          refine lv_iload_n C.1 C.2.1 dX7_placeFor_27 rfl (lv_at hl 0 rfl) ?_
          exact hret _ _ (Nat.le_of_ble_eq_true rfl) (Nat.le_of_ble_eq_true rfl) hw (⟨by rw [← ha, tpl_e (by omega) hno], rfl, rfl⟩) dX7_placeFor_28
        · have hyes : tah k t (tk (i - 1)) (tt (i - 1)) := Classical.byContradiction (fun z => c18 (by rw [er15, if_neg z]))
          refine lv_iinc (v := (nI (i - 1))) (lv' := [(3, .int (nI (i - 1))), (0, .ref (b + 30)), (1, .int k), (2, .int t)]) C.1 C.2.1 dX7_placeFor_21 hl (k := 0) rfl (sb_m1 (by omega)) (by decide) rfl (fun ls hl => ?_)
          refine lv_goto (tgt := 5) C.1 C.2.1 dX7_placeFor_24 (by decide) ?_
          exact ih  (i - 1) (by omega) (by omega) (by rw [← ha]; exact tpl_s (by omega) hyes) ls _ _ (lv_sub hl [0, 1, 2, 3] rfl) hw
  exact L5 (_ + 1) (ts) (Nat.lt_succ_self _) (Nat.le_refl _) (rfl) ls _ _ (lv_sub hl [0, 1, 2, 3] rfl) hw

set_option maxHeartbeats 4000000 in
set_option maxRecDepth 100000 in
theorem c_X7_enter {l : Launch} {D : va_G} {cI cJ cZ cH cR : ClassId} {b : Nat} {n : Nat} {M : Nat → va_E}  {ts : Nat} {tr : Int32} {tk : Nat → Int32} {tt : Nat → Int32} {k t : Int32} (hn : 33 ≤ n) (h30 : M 30 = .inr (7, [.ref (b + 31), .ref (b + 32), .int (nI ts), .int tr])) (h31 : M 31 = .inl (cI, 40, .inl tk)) (h32 : M 32 = .inl (cI, 40, .inl tt)) (hs : ts < 40) : Met l yX7_enter (kw yX7_enter cX7_enter 4 none) ({ frames := 2, cells := 0, slots := 0, locals := 46 }) (va_Pc [.ref (b + 30), .int k, .int t] (kPre D (kT cI cJ cZ cH cR) b M n)) (va_Qv (fun (u : (Nat → va_E) × Nat) => u.2 = n ∧ kF [30, 31, 32] M u.1 ∧ u.1 30 = .inr (7, [.ref (b + 31), .ref (b + 32), .int (nI (ts + 1)), .int (tr)]) ∧ u.1 31 = .inl (cI, 40, .inl (upd (va_cpy tk tk (tpl k t tk tt ts) ((tpl k t tk tt ts) + 1) (ts - (tpl k t tk tt ts))) (tpl k t tk tt ts) k)) ∧ u.1 32 = .inl (cI, 40, .inl (upd (va_cpy tt tt (tpl k t tk tt ts) ((tpl k t tk tt ts) + 1) (ts - (tpl k t tk tt ts))) (tpl k t tk tt ts) t))) (kB D (kT cI cJ cZ cH cR) b) (kA b)) 0 0 (kA b) := by
  refine k_metV (by decide +kernel) (Nat.le_of_ble_eq_true rfl) ?_
  intro p e s m below meth c ls Q C hw hret hnm hl
  have hl : lv_has ls 4 [(0, .ref (b + 30)), (1, .int k), (2, .int t)] := hl
  have hFF : kF [30, 31, 32] M M := kF_rf
  refine lv_aload_n C.1 C.2.1 dX7_enter_0 rfl (lv_at hl 0 rfl) ?_
  refine lv_iload_n C.1 C.2.1 dX7_enter_1 rfl (lv_at hl 1 rfl) ?_
  refine lv_iload_n C.1 C.2.1 dX7_enter_2 rfl (lv_at hl 2 rfl) ?_
  refine k_vi C hw 30 (by omega) h30 rfl (c_X7_placeFor (by omega) h30 h31 h32 (by omega)) kv_X7_25 rfl hl.1 ⟨Nat.le_of_ble_eq_true rfl, Nat.le_of_ble_eq_true rfl⟩ (Nat.le_of_ble_eq_true rfl) ⟨Nat.le_of_ble_eq_true rfl, Nat.le_of_ble_eq_true rfl⟩ dX7_enter_3 (fun r3 M_1 n9 H locs hp hw => ?_)
  obtain ⟨er3, en9, eM9⟩ := hp
  have en9 : n9 = n := en9
  rw [en9] at hw
  have eM9 : M_1 = M := eM9
  rw [eM9] at hw
  have hpl : tpl k t tk tt ts ≤ ts := tpl_le ..
  subst er3
  refine lv_istore_n (lv' := [(3, .int (nI (tpl k t tk tt ts))), (0, .ref (b + 30)), (1, .int k), (2, .int t)]) C.1 C.2.1 dX7_enter_6 rfl hl (by decide) rfl (fun ls hl => ?_)
  refine lv_aload_n C.1 C.2.1 dX7_enter_7 rfl (lv_at hl 1 rfl) ?_
  refine k_get C hw 30 (by omega) h30 rfl inlX7 0 (by decide) q_102 rfl dX7_enter_8 ?_
  refine lv_iload_n C.1 C.2.1 dX7_enter_11 rfl (lv_at hl 0 rfl) ?_
  refine lv_aload_n C.1 C.2.1 dX7_enter_12 rfl (lv_at hl 1 rfl) ?_
  refine k_get C hw 30 (by omega) h30 rfl inlX7 0 (by decide) q_102 rfl dX7_enter_13 ?_
  refine lv_iload_n C.1 C.2.1 dX7_enter_16 rfl (lv_at hl 0 rfl) ?_
  refine lv_iconst (v := nI 1) C.1 C.2.1 dX7_enter_17 (by decide) ?_
  refine lv_iadd C.1 C.2.1 dX7_enter_18 ?_
  refine k_topi (y := nI ((tpl k t tk tt ts) + 1)) (nI_add _ _) ?_
  refine lv_aload_n C.1 C.2.1 dX7_enter_19 rfl (lv_at hl 1 rfl) ?_
  refine k_get C hw 30 (by omega) h30 rfl inlX7 2 (by decide) q_498 rfl dX7_enter_20 ?_
  refine lv_iload_n C.1 C.2.1 dX7_enter_23 rfl (lv_at hl 0 rfl) ?_
  refine lv_isub C.1 C.2.1 dX7_enter_24 ?_
  refine k_topi (y := nI (ts - (tpl k t tk tt ts))) (pk_sub hpl) ?_
  refine k_copyi C hw hl.1 q_499 q_276 q_277 q_278 31 31 (by omega) (by omega) h31 h31 (by omega) (by omega) (by decide) (by decide) (Nat.le_of_ble_eq_true rfl) (by decide) dX7_enter_25 (fun M_2 H locs hw h31 hF => ?_)
  have h30 := (hF 30 (by decide)).trans h30
  have h32 := (hF 32 (by decide)).trans h32
  have hFF := kF_st hFF hF (by first | decide | simp)
  refine lv_aload_n C.1 C.2.1 dX7_enter_28 rfl (lv_at hl 1 rfl) ?_
  refine k_get C hw 30 (by omega) h30 rfl inlX7 1 (by decide) q_103 rfl dX7_enter_29 ?_
  refine lv_iload_n C.1 C.2.1 dX7_enter_32 rfl (lv_at hl 0 rfl) ?_
  refine lv_aload_n C.1 C.2.1 dX7_enter_33 rfl (lv_at hl 1 rfl) ?_
  refine k_get C hw 30 (by omega) h30 rfl inlX7 1 (by decide) q_103 rfl dX7_enter_34 ?_
  refine lv_iload_n C.1 C.2.1 dX7_enter_37 rfl (lv_at hl 0 rfl) ?_
  refine lv_iconst (v := nI 1) C.1 C.2.1 dX7_enter_38 (by decide) ?_
  refine lv_iadd C.1 C.2.1 dX7_enter_39 ?_
  refine k_topi (y := nI ((tpl k t tk tt ts) + 1)) (nI_add _ _) ?_
  refine lv_aload_n C.1 C.2.1 dX7_enter_40 rfl (lv_at hl 1 rfl) ?_
  refine k_get C hw 30 (by omega) h30 rfl inlX7 2 (by decide) q_498 rfl dX7_enter_41 ?_
  refine lv_iload_n C.1 C.2.1 dX7_enter_44 rfl (lv_at hl 0 rfl) ?_
  refine lv_isub C.1 C.2.1 dX7_enter_45 ?_
  refine k_topi (y := nI (ts - (tpl k t tk tt ts))) (pk_sub hpl) ?_
  refine k_copyi C hw hl.1 q_499 q_276 q_277 q_278 32 32 (by omega) (by omega) h32 h32 (by omega) (by omega) (by decide) (by decide) (Nat.le_of_ble_eq_true rfl) (by decide) dX7_enter_46 (fun M_3 H locs hw h32 hF => ?_)
  have h30 := (hF 30 (by decide)).trans h30
  have h31 := (hF 31 (by decide)).trans h31
  have hFF := kF_st hFF hF (by first | decide | simp)
  refine lv_aload_n C.1 C.2.1 dX7_enter_49 rfl (lv_at hl 1 rfl) ?_
  refine k_get C hw 30 (by omega) h30 rfl inlX7 0 (by decide) q_102 rfl dX7_enter_50 ?_
  refine lv_iload_n C.1 C.2.1 dX7_enter_53 rfl (lv_at hl 0 rfl) ?_
  refine lv_iload_n C.1 C.2.1 dX7_enter_54 rfl (lv_at hl 2 rfl) ?_
  refine k_iast C hw 31 (by omega) h31 (by omega) (by first | decide | omega) dX7_enter_55 (fun M_4 H locs hw h31 hF => ?_)
  have h30 := (hF 30 (by decide)).trans h30
  have h32 := (hF 32 (by decide)).trans h32
  have hFF := kF_st hFF hF (by first | decide | simp)
  refine lv_aload_n C.1 C.2.1 dX7_enter_56 rfl (lv_at hl 1 rfl) ?_
  refine k_get C hw 30 (by omega) h30 rfl inlX7 1 (by decide) q_103 rfl dX7_enter_57 ?_
  refine lv_iload_n C.1 C.2.1 dX7_enter_60 rfl (lv_at hl 0 rfl) ?_
  refine lv_iload_n C.1 C.2.1 dX7_enter_61 rfl (lv_at hl 3 rfl) ?_
  refine k_iast C hw 32 (by omega) h32 (by omega) (by first | decide | omega) dX7_enter_62 (fun M_5 H locs hw h32 hF => ?_)
  have h30 := (hF 30 (by decide)).trans h30
  have h31 := (hF 31 (by decide)).trans h31
  have hFF := kF_st hFF hF (by first | decide | simp)
  refine lv_aload_n C.1 C.2.1 dX7_enter_63 rfl (lv_at hl 1 rfl) ?_
  refine lv_dup C.1 C.2.1 dX7_enter_64 rfl ?_
  refine k_get C hw 30 (by omega) h30 rfl inlX7 2 (by decide) q_498 rfl dX7_enter_65 ?_
  refine lv_iconst (v := nI 1) C.1 C.2.1 dX7_enter_68 (by decide) ?_
  refine lv_iadd C.1 C.2.1 dX7_enter_69 ?_
  refine k_topi (y := nI (ts + 1)) (nI_add _ _) ?_
  refine k_put (tf := .int) C hw 30 (by omega) h30 rfl inlX7 tyX7 tyX7_ok nmX7 2 (by decide) q_498 rfl (by decide +kernel) rfl rfl (Nat.le_of_ble_eq_true rfl) dX7_enter_70 (fun M_6 H locs hw h30 hF => ?_)
  have h30 : M_6 30 = .inr (7, [.ref (b + 31), .ref (b + 32), .int (nI (ts + 1)), .int tr]) := h30
  have h31 := (hF 31 (by decide)).trans h31
  have h32 := (hF 32 (by decide)).trans h32
  have hFF := kF_st hFF hF (by first | decide | simp)
  exact hret _ _ (Nat.le_of_ble_eq_true rfl) (Nat.le_of_ble_eq_true rfl) hw (⟨rfl, hFF, h30, h31, h32⟩) dX7_enter_73

set_option maxHeartbeats 4000000 in
set_option maxRecDepth 100000 in
theorem c_X7_dueAt {l : Launch} {D : va_G} {cI cJ cZ cH cR : ClassId} {b : Nat} {n : Nat} {M : Nat → va_E}  {ts : Nat} {tr : Int32} {tk : Nat → Int32} {tt : Nat → Int32} {t : Int32} (hn : 33 ≤ n) (h30 : M 30 = .inr (7, [.ref (b + 31), .ref (b + 32), .int (nI ts), .int tr])) (h31 : M 31 = .inl (cI, 40, .inl tk)) (h32 : M 32 = .inl (cI, 40, .inl tt)) (hs : ts ≤ 40) : Met l yX7_dueAt (kw yX7_dueAt cX7_dueAt 3 (some .int)) ({ frames := 0, cells := 0, slots := 0, locals := 0 }) (va_Pc [.ref (b + 30), .int t] (kPre D (kT cI cJ cZ cH cR) b M n)) (va_Qi (fun (r : Int32) (u : (Nat → va_E) × Nat) => r = (nI (fst (fun j => decide (t < tt j)) ts)) ∧ u.2 = n ∧ u.1 = M) (kB D (kT cI cJ cZ cH cR) b) (kA b)) 0 0 (kA b) := by
  refine k_metI (by decide +kernel) (Nat.le_of_ble_eq_true rfl) ?_
  intro p e s m below meth c ls Q C hw hret hnm hl
  have hl : lv_has ls 3 [(0, .ref (b + 30)), (1, .int t)] := hl
  refine lv_iconst (v := nI 0) C.1 C.2.1 dX7_dueAt_0 (by decide) ?_
  refine lv_istore_n (lv' := [(2, .int (nI 0)), (0, .ref (b + 30)), (1, .int t)]) C.1 C.2.1 dX7_dueAt_1 rfl hl (by decide) rfl (fun ls hl => ?_)
  have L2 : ∀ (N9 : Nat) (i : Nat), (ts - i < N9) → (i ≤ ts) → (∀ j, j < i → decide (t < tt j) = false) → ∀ (ls : Array Slot) (H : Heap) (locs : List Loc), lv_has ls 3 [(2, .int (nI i)), (0, .ref (b + 30)), (1, .int t)] → kW D b M n s.heap H locs → W p l e ({ frames := 0, cells := 0, slots := 0, locals := 0 } : Room) s m ([.ref (b + 30), .int t] : List Value).toArray below meth c H locs 0 0 Q (F0 m 2 ls []) := by
    intro N9
    induction N9 with
    | zero => intro i hm hi ha ls H locs hl hw; omega
    | succ N9 ih =>
      intro i hm hi ha ls H locs hl hw
      refine lv_iload_n C.1 C.2.1 dX7_dueAt_2 rfl (lv_at hl 0 rfl) ?_
      refine lv_aload_n C.1 C.2.1 dX7_dueAt_3 rfl (lv_at hl 1 rfl) ?_
      refine k_get C hw 30 (by omega) h30 rfl inlX7 2 (by decide) q_498 rfl dX7_dueAt_4 ?_
      refine lv_icmp_ge (tgt := 26) C.1 C.2.1 dX7_dueAt_7 (by decide) (fun c7 => ?_) (fun c7 => ?_)
      · have q := (nI_leI (by omega) (by omega)).mp c7
        have q : i = ts := by omega
        refine lv_iload_n C.1 C.2.1 dX7_dueAt_26 rfl (lv_at hl 0 rfl) ?_
        exact hret _ _ (Nat.le_of_ble_eq_true rfl) (Nat.le_of_ble_eq_true rfl) hw (⟨by rw [← q, fst_none ha], rfl, rfl⟩) dX7_dueAt_27
      · have q : ¬ ts ≤ i := fun z => c7 ((nI_leI (by omega) (by omega)).mpr z)
        refine lv_aload_n C.1 C.2.1 dX7_dueAt_10 rfl (lv_at hl 1 rfl) ?_
        refine k_get C hw 30 (by omega) h30 rfl inlX7 1 (by decide) q_103 rfl dX7_dueAt_11 ?_
        refine lv_iload_n C.1 C.2.1 dX7_dueAt_14 rfl (lv_at hl 0 rfl) ?_
        refine k_iald C hw 32 (by omega) h32 (by omega) (by first | decide | omega) dX7_dueAt_15 ?_
        refine lv_iload_n C.1 C.2.1 dX7_dueAt_16 rfl (lv_at hl 2 rfl) ?_
        refine lv_icmp_gt (tgt := 26) C.1 C.2.1 dX7_dueAt_17 (by decide) (fun c17 => ?_) (fun c17 => ?_)
        · refine lv_iload_n C.1 C.2.1 dX7_dueAt_26 rfl (lv_at hl 0 rfl) ?_
          exact hret _ _ (Nat.le_of_ble_eq_true rfl) (Nat.le_of_ble_eq_true rfl) hw (⟨by rw [fst_at ha (by simpa using c17) (by omega)], rfl, rfl⟩) dX7_dueAt_27
        · refine lv_iinc (v := (nI (i + 1))) (lv' := [(2, .int (nI (i + 1))), (0, .ref (b + 30)), (1, .int t)]) C.1 C.2.1 dX7_dueAt_20 hl (k := 0) rfl (k_inc _ 1) (by decide) rfl (fun ls hl => ?_)
          refine lv_goto (tgt := 2) C.1 C.2.1 dX7_dueAt_23 (by decide) ?_
          exact ih  (i + 1) (by omega) (by omega) (fun j hj => by rcases Nat.lt_succ_iff_lt_or_eq.mp hj with h | h; exact ha j h; rw [h]; simpa using c17) ls _ _ (lv_sub hl [0, 1, 2] rfl) hw
  exact L2 (_ + 1) (0) (Nat.lt_succ_self _) (Nat.zero_le _) (fun j hj => absurd hj (Nat.not_lt_zero j)) ls _ _ (lv_sub hl [0, 1, 2] rfl) hw

set_option maxHeartbeats 4000000 in
set_option maxRecDepth 100000 in
theorem c_X7_takeFirst {l : Launch} {D : va_G} {cI cJ cZ cH cR : ClassId} {b : Nat} {n : Nat} {M : Nat → va_E}  {ts : Nat} {tr : Int32} {tk : Nat → Int32} {tt : Nat → Int32} {d : Nat} (hn : 33 ≤ n) (h30 : M 30 = .inr (7, [.ref (b + 31), .ref (b + 32), .int (nI ts), .int tr])) (h31 : M 31 = .inl (cI, 40, .inl tk)) (h32 : M 32 = .inl (cI, 40, .inl tt)) (hd : d ≤ ts) (hs : ts ≤ 40) : Met l yX7_takeFirst (kw yX7_takeFirst cX7_takeFirst 2 none) ({ frames := 1, cells := 0, slots := 0, locals := 40 }) (va_Pc [.ref (b + 30), .int (nI d)] (kPre D (kT cI cJ cZ cH cR) b M n)) (va_Qv (fun (u : (Nat → va_E) × Nat) => u.2 = n ∧ kF [30, 31, 32] M u.1 ∧ u.1 30 = .inr (7, [.ref (b + 31), .ref (b + 32), .int (nI (ts - d)), .int (tr)]) ∧ u.1 31 = .inl (cI, 40, .inl (va_cpy tk tk d 0 (ts - d))) ∧ u.1 32 = .inl (cI, 40, .inl (va_cpy tt tt d 0 (ts - d)))) (kB D (kT cI cJ cZ cH cR) b) (kA b)) 0 0 (kA b) := by
  refine k_metV (by decide +kernel) (Nat.le_of_ble_eq_true rfl) ?_
  intro p e s m below meth c ls Q C hw hret hnm hl
  have hl : lv_has ls 2 [(0, .ref (b + 30)), (1, .int (nI d))] := hl
  have hFF : kF [30, 31, 32] M M := kF_rf
  refine lv_aload_n C.1 C.2.1 dX7_takeFirst_0 rfl (lv_at hl 0 rfl) ?_
  refine k_get C hw 30 (by omega) h30 rfl inlX7 0 (by decide) q_102 rfl dX7_takeFirst_1 ?_
  refine lv_iload_n C.1 C.2.1 dX7_takeFirst_4 rfl (lv_at hl 1 rfl) ?_
  refine lv_aload_n C.1 C.2.1 dX7_takeFirst_5 rfl (lv_at hl 0 rfl) ?_
  refine k_get C hw 30 (by omega) h30 rfl inlX7 0 (by decide) q_102 rfl dX7_takeFirst_6 ?_
  refine lv_iconst (v := nI 0) C.1 C.2.1 dX7_takeFirst_9 (by decide) ?_
  refine lv_aload_n C.1 C.2.1 dX7_takeFirst_10 rfl (lv_at hl 0 rfl) ?_
  refine k_get C hw 30 (by omega) h30 rfl inlX7 2 (by decide) q_498 rfl dX7_takeFirst_11 ?_
  refine lv_iload_n C.1 C.2.1 dX7_takeFirst_14 rfl (lv_at hl 1 rfl) ?_
  refine lv_isub C.1 C.2.1 dX7_takeFirst_15 ?_
  refine k_topi (y := nI (ts - d)) (pk_sub (by omega)) ?_
  refine k_copyi C hw hl.1 q_499 q_276 q_277 q_278 31 31 (by omega) (by omega) h31 h31 (by omega) (by omega) (by decide) (by decide) (Nat.le_of_ble_eq_true rfl) (by decide) dX7_takeFirst_16 (fun M_1 H locs hw h31 hF => ?_)
  have h30 := (hF 30 (by decide)).trans h30
  have h32 := (hF 32 (by decide)).trans h32
  have hFF := kF_st hFF hF (by first | decide | simp)
  refine lv_aload_n C.1 C.2.1 dX7_takeFirst_19 rfl (lv_at hl 0 rfl) ?_
  refine k_get C hw 30 (by omega) h30 rfl inlX7 1 (by decide) q_103 rfl dX7_takeFirst_20 ?_
  refine lv_iload_n C.1 C.2.1 dX7_takeFirst_23 rfl (lv_at hl 1 rfl) ?_
  refine lv_aload_n C.1 C.2.1 dX7_takeFirst_24 rfl (lv_at hl 0 rfl) ?_
  refine k_get C hw 30 (by omega) h30 rfl inlX7 1 (by decide) q_103 rfl dX7_takeFirst_25 ?_
  refine lv_iconst (v := nI 0) C.1 C.2.1 dX7_takeFirst_28 (by decide) ?_
  refine lv_aload_n C.1 C.2.1 dX7_takeFirst_29 rfl (lv_at hl 0 rfl) ?_
  refine k_get C hw 30 (by omega) h30 rfl inlX7 2 (by decide) q_498 rfl dX7_takeFirst_30 ?_
  refine lv_iload_n C.1 C.2.1 dX7_takeFirst_33 rfl (lv_at hl 1 rfl) ?_
  refine lv_isub C.1 C.2.1 dX7_takeFirst_34 ?_
  refine k_topi (y := nI (ts - d)) (pk_sub (by omega)) ?_
  refine k_copyi C hw hl.1 q_499 q_276 q_277 q_278 32 32 (by omega) (by omega) h32 h32 (by omega) (by omega) (by decide) (by decide) (Nat.le_of_ble_eq_true rfl) (by decide) dX7_takeFirst_35 (fun M_2 H locs hw h32 hF => ?_)
  have h30 := (hF 30 (by decide)).trans h30
  have h31 := (hF 31 (by decide)).trans h31
  have hFF := kF_st hFF hF (by first | decide | simp)
  refine lv_aload_n C.1 C.2.1 dX7_takeFirst_38 rfl (lv_at hl 0 rfl) ?_
  refine lv_dup C.1 C.2.1 dX7_takeFirst_39 rfl ?_
  refine k_get C hw 30 (by omega) h30 rfl inlX7 2 (by decide) q_498 rfl dX7_takeFirst_40 ?_
  refine lv_iload_n C.1 C.2.1 dX7_takeFirst_43 rfl (lv_at hl 1 rfl) ?_
  refine lv_isub C.1 C.2.1 dX7_takeFirst_44 ?_
  refine k_topi (y := nI (ts - d)) (pk_sub (by omega)) ?_
  refine k_put (tf := .int) C hw 30 (by omega) h30 rfl inlX7 tyX7 tyX7_ok nmX7 2 (by decide) q_498 rfl (by decide +kernel) rfl rfl (Nat.le_of_ble_eq_true rfl) dX7_takeFirst_45 (fun M_3 H locs hw h30 hF => ?_)
  have h30 : M_3 30 = .inr (7, [.ref (b + 31), .ref (b + 32), .int (nI (ts - d)), .int tr]) := h30
  have h31 := (hF 31 (by decide)).trans h31
  have h32 := (hF 32 (by decide)).trans h32
  have hFF := kF_st hFF hF (by first | decide | simp)
  exact hret _ _ (Nat.le_of_ble_eq_true rfl) (Nat.le_of_ble_eq_true rfl) hw (⟨rfl, hFF, h30, h31, h32⟩) dX7_takeFirst_48
end
section
theorem zz_end : True := trivial
end
