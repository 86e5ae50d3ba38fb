section
-- ===== PART A: goes FIRST, ahead of the names: the tables' words, and 'selects' of the private methods out of them =====
/-- a private method of a class that the tables say can be made, by its rows of tables_1 -/
def lw_okq (q : MethodName × Nat) : Prop := (q.1.cls ≠ "java/lang/invoke/MethodHandle" ∧ q.1.cls ≠ "java/lang/invoke/VarHandle") ∧ Cond.instantiable q.1.cls q.2 ∈ tables_1 ∧ Cond.privateMethod q.1 ∈ tables_1 ∧ Cond.instanceMethod q.1 ∈ tables_1
theorem lw_p0 : lw_okq (⟨"Resolverium$Search", "reachable", "(I)I"⟩, 10) := ⟨⟨by decide +kernel, by decide +kernel⟩, List.mem_of_getElem? (i := 280) (by decide +kernel), List.mem_of_getElem? (i := 458) (by decide +kernel), List.mem_of_getElem? (i := 459) (by decide +kernel)⟩
theorem lw_p1 : lw_okq (⟨"Resolverium$Search", "offerAll", "(III)V"⟩, 10) := ⟨⟨by decide +kernel, by decide +kernel⟩, List.mem_of_getElem? (i := 280) (by decide +kernel), List.mem_of_getElem? (i := 493) (by decide +kernel), List.mem_of_getElem? (i := 494) (by decide +kernel)⟩
theorem lw_p2 : lw_okq (⟨"Resolverium$Search", "offer", "(II)V"⟩, 10) := ⟨⟨by decide +kernel, by decide +kernel⟩, List.mem_of_getElem? (i := 280) (by decide +kernel), List.mem_of_getElem? (i := 507) (by decide +kernel), List.mem_of_getElem? (i := 508) (by decide +kernel)⟩
theorem lw_p3 : lw_okq (⟨"Resolverium$Search", "pickNext", "()Z"⟩, 10) := ⟨⟨by decide +kernel, by decide +kernel⟩, List.mem_of_getElem? (i := 280) (by decide +kernel), List.mem_of_getElem? (i := 523) (by decide +kernel), List.mem_of_getElem? (i := 524) (by decide +kernel)⟩
theorem lw_p4 : lw_okq (⟨"Resolverium$Choice", "turnOnBy", "(I)Z"⟩, 3) := ⟨⟨by decide +kernel, by decide +kernel⟩, List.mem_of_getElem? (i := 288) (by decide +kernel), List.mem_of_getElem? (i := 543) (by decide +kernel), List.mem_of_getElem? (i := 544) (by decide +kernel)⟩
theorem lw_p5 : lw_okq (⟨"Resolverium$Choice", "holdsNeeds", "(II)Z"⟩, 3) := ⟨⟨by decide +kernel, by decide +kernel⟩, List.mem_of_getElem? (i := 288) (by decide +kernel), List.mem_of_getElem? (i := 559) (by decide +kernel), List.mem_of_getElem? (i := 560) (by decide +kernel)⟩
theorem lw_p6 : lw_okq (⟨"Resolverium$Choice", "isServed", "(II)Z"⟩, 3) := ⟨⟨by decide +kernel, by decide +kernel⟩, List.mem_of_getElem? (i := 288) (by decide +kernel), List.mem_of_getElem? (i := 563) (by decide +kernel), List.mem_of_getElem? (i := 564) (by decide +kernel)⟩
theorem lw_p7 : lw_okq (⟨"java/lang/Throwable", "fillInStackTrace", "(I)Ljava/lang/Throwable;"⟩, 6) := ⟨⟨by decide +kernel, by decide +kernel⟩, List.mem_of_getElem? (i := 638) (by decide +kernel), List.mem_of_getElem? (i := 636) (by decide +kernel), List.mem_of_getElem? (i := 637) (by decide +kernel)⟩
theorem lw_p8 : lw_okq (⟨"Resolverium$Ranges", "reaches", "(II)Z"⟩, 8) := ⟨⟨by decide +kernel, by decide +kernel⟩, List.mem_of_getElem? (i := 105) (by decide +kernel), List.mem_of_getElem? (i := 748) (by decide +kernel), List.mem_of_getElem? (i := 749) (by decide +kernel)⟩
theorem lw_p9 : lw_okq (⟨"Resolverium", "isRange", "(I)Z"⟩, 5) := ⟨⟨by decide +kernel, by decide +kernel⟩, List.mem_of_getElem? (i := 22) (by decide +kernel), List.mem_of_getElem? (i := 796) (by decide +kernel), List.mem_of_getElem? (i := 797) (by decide +kernel)⟩
theorem lw_p10 : lw_okq (⟨"Resolverium", "isVersion", "(I)Z"⟩, 5) := ⟨⟨by decide +kernel, by decide +kernel⟩, List.mem_of_getElem? (i := 22) (by decide +kernel), List.mem_of_getElem? (i := 812) (by decide +kernel), List.mem_of_getElem? (i := 813) (by decide +kernel)⟩
theorem lw_p11 : lw_okq (⟨"Resolverium$World", "lastSuccessor", "(I)I"⟩, 11) := ⟨⟨by decide +kernel, by decide +kernel⟩, List.mem_of_getElem? (i := 30) (by decide +kernel), List.mem_of_getElem? (i := 914) (by decide +kernel), List.mem_of_getElem? (i := 915) (by decide +kernel)⟩
theorem lw_p12 : lw_okq (⟨"Resolverium$Census", "pickAll", "(II)Z"⟩, 4) := ⟨⟨by decide +kernel, by decide +kernel⟩, List.mem_of_getElem? (i := 341) (by decide +kernel), List.mem_of_getElem? (i := 1000) (by decide +kernel), List.mem_of_getElem? (i := 1001) (by decide +kernel)⟩
theorem lw_p13 : lw_okq (⟨"Resolverium$Census", "isBetter", "()Z"⟩, 4) := ⟨⟨by decide +kernel, by decide +kernel⟩, List.mem_of_getElem? (i := 341) (by decide +kernel), List.mem_of_getElem? (i := 1007) (by decide +kernel), List.mem_of_getElem? (i := 1008) (by decide +kernel)⟩
theorem lw_p14 : lw_okq (⟨"Resolverium$Choice", "meets", "(I)Z"⟩, 3) := ⟨⟨by decide +kernel, by decide +kernel⟩, List.mem_of_getElem? (i := 288) (by decide +kernel), List.mem_of_getElem? (i := 1018) (by decide +kernel), List.mem_of_getElem? (i := 1019) (by decide +kernel)⟩
def lw_privs_1 : List (MethodName × Nat) := [(⟨"Resolverium$Search", "reachable", "(I)I"⟩, 10), (⟨"Resolverium$Search", "offerAll", "(III)V"⟩, 10), (⟨"Resolverium$Search", "offer", "(II)V"⟩, 10), (⟨"Resolverium$Search", "pickNext", "()Z"⟩, 10), (⟨"Resolverium$Choice", "turnOnBy", "(I)Z"⟩, 3), (⟨"Resolverium$Choice", "holdsNeeds", "(II)Z"⟩, 3), (⟨"Resolverium$Choice", "isServed", "(II)Z"⟩, 3), (⟨"java/lang/Throwable", "fillInStackTrace", "(I)Ljava/lang/Throwable;"⟩, 6), (⟨"Resolverium$Ranges", "reaches", "(II)Z"⟩, 8), (⟨"Resolverium", "isRange", "(I)Z"⟩, 5), (⟨"Resolverium", "isVersion", "(I)Z"⟩, 5), (⟨"Resolverium$World", "lastSuccessor", "(I)I"⟩, 11), (⟨"Resolverium$Census", "pickAll", "(II)Z"⟩, 4), (⟨"Resolverium$Census", "isBetter", "()Z"⟩, 4), (⟨"Resolverium$Choice", "meets", "(I)Z"⟩, 3)]
theorem lw_r1 : ∀ q ∈ lw_privs_1, lw_okq q := List.forall_mem_cons.mpr ⟨lw_p0, List.forall_mem_cons.mpr ⟨lw_p1, List.forall_mem_cons.mpr ⟨lw_p2, List.forall_mem_cons.mpr ⟨lw_p3, List.forall_mem_cons.mpr ⟨lw_p4, List.forall_mem_cons.mpr ⟨lw_p5, List.forall_mem_cons.mpr ⟨lw_p6, List.forall_mem_cons.mpr ⟨lw_p7, List.forall_mem_cons.mpr ⟨lw_p8, List.forall_mem_cons.mpr ⟨lw_p9, List.forall_mem_cons.mpr ⟨lw_p10, List.forall_mem_cons.mpr ⟨lw_p11, List.forall_mem_cons.mpr ⟨lw_p12, List.forall_mem_cons.mpr ⟨lw_p13, List.forall_mem_cons.mpr ⟨lw_p14, fun _ h => absurd h List.not_mem_nil⟩⟩⟩⟩⟩⟩⟩⟩⟩⟩⟩⟩⟩⟩⟩
def lw_privs : List (MethodName × Nat) := lw_privs_1
def lw_tbl : List Cond := k2_sels lw_privs ++ tables_1
theorem lw_privs_ok : ∀ q ∈ lw_privs, lw_okq q := lw_r1
end
section
def RX0 : String := "Resolverium$Census"
def TX0 : u_T := fun k => match k with
  | 0 => ("Resolverium$Census", "world", "LResolverium$World;", true)
  | 1 => ("Resolverium$Census", "question", "LResolverium$Question;", true)
  | 2 => ("Resolverium$Census", "choice", "LResolverium$Choice;", true)
  | _ => ("Resolverium$Census", "best", "LResolverium$Row;", true)
def tyX0 : Nat → FieldType := fun k => match k with
  | 0 => .object "Resolverium$World"
  | 1 => .object "Resolverium$Question"
  | 2 => .object "Resolverium$Choice"
  | _ => .object "Resolverium$Row"
abbrev wsX00 : List Cond := u_ws RX0 TX0 4
theorem nmX0 : ∀ a, a < 4 → ∀ b, b < 4 → a ≠ b → (TX0 a).2.1 ≠ (TX0 b).2.1 := by decide +kernel
theorem tyX0_ok : ∀ k, k < 4 → parseFieldDescriptor (TX0 k).2.2.1 = some (tyX0 k) := by decide +kernel
abbrev cX0_init : ByteArray := prog_2_method_1_code
def yX0_init : MethodName := ⟨RX0, "<init>", "(LResolverium$World;LResolverium$Question;)V"⟩
abbrev cX0_findBest : ByteArray := prog_2_method_2_code
def yX0_findBest : MethodName := ⟨RX0, "findBest", "()Z"⟩
abbrev cX0_pickAll : ByteArray := prog_2_method_3_code
def yX0_pickAll : MethodName := ⟨RX0, "pickAll", "(II)Z"⟩
abbrev cX0_isBetter : ByteArray := prog_2_method_4_code
def yX0_isBetter : MethodName := ⟨RX0, "isBetter", "()Z"⟩
def RX1 : String := "Resolverium$Choice"
def TX1 : u_T := fun k => match k with
  | 0 => ("Resolverium$Choice", "world", "LResolverium$World;", true)
  | 1 => ("Resolverium$Choice", "picks", "LResolverium$Row;", true)
  | _ => ("Resolverium$Choice", "on", "LResolverium$Row;", true)
def tyX1 : Nat → FieldType := fun k => match k with
  | 0 => .object "Resolverium$World"
  | 1 => .object "Resolverium$Row"
  | _ => .object "Resolverium$Row"
abbrev wsX10 : List Cond := u_ws RX1 TX1 3
theorem nmX1 : ∀ a, a < 3 → ∀ b, b < 3 → a ≠ b → (TX1 a).2.1 ≠ (TX1 b).2.1 := by decide +kernel
theorem tyX1_ok : ∀ k, k < 3 → parseFieldDescriptor (TX1 k).2.2.1 = some (tyX1 k) := by decide +kernel
abbrev cX1_init : ByteArray := prog_3_method_1_code
def yX1_init : MethodName := ⟨RX1, "<init>", "(LResolverium$World;)V"⟩
abbrev cX1_isSolution : ByteArray := prog_3_method_2_code
def yX1_isSolution : MethodName := ⟨RX1, "isSolution", "(I)Z"⟩
abbrev cX1_meets : ByteArray := prog_3_method_3_code
def yX1_meets : MethodName := ⟨RX1, "meets", "(I)Z"⟩
abbrev cX1_standsUpTo : ByteArray := prog_3_method_4_code
def yX1_standsUpTo : MethodName := ⟨RX1, "standsUpTo", "(I)Z"⟩
abbrev cX1_holdsNeeds : ByteArray := prog_3_method_5_code
def yX1_holdsNeeds : MethodName := ⟨RX1, "holdsNeeds", "(II)Z"⟩
abbrev cX1_isServed : ByteArray := prog_3_method_6_code
def yX1_isServed : MethodName := ⟨RX1, "isServed", "(II)Z"⟩
abbrev cX1_turnOn : ByteArray := prog_3_method_7_code
def yX1_turnOn : MethodName := ⟨RX1, "turnOn", "(I)V"⟩
abbrev cX1_turnOnBy : ByteArray := prog_3_method_8_code
def yX1_turnOnBy : MethodName := ⟨RX1, "turnOnBy", "(I)Z"⟩
abbrev cX1_isPulled : ByteArray := prog_3_method_9_code
def yX1_isPulled : MethodName := ⟨RX1, "isPulled", "(I)Z"⟩
def RX2 : String := "Resolverium$Demands"
def TX2 : u_T := fun k => match k with
  | 0 => ("Resolverium$Demands", "workspaces", "LResolverium$Row;", true)
  | 1 => ("Resolverium$Demands", "targets", "LResolverium$Row;", true)
  | 2 => ("Resolverium$Demands", "ranges", "LResolverium$Row;", true)
  | 3 => ("Resolverium$Demands", "asked", "LResolverium$Row;", true)
  | _ => ("Resolverium$Demands", "count", "I", false)
def tyX2 : Nat → FieldType := fun k => match k with
  | 0 => .object "Resolverium$Row"
  | 1 => .object "Resolverium$Row"
  | 2 => .object "Resolverium$Row"
  | 3 => .object "Resolverium$Row"
  | _ => .int
abbrev wsX20 : List Cond := u_ws RX2 TX2 5
theorem nmX2 : ∀ a, a < 5 → ∀ b, b < 5 → a ≠ b → (TX2 a).2.1 ≠ (TX2 b).2.1 := by decide +kernel
theorem tyX2_ok : ∀ k, k < 5 → parseFieldDescriptor (TX2 k).2.2.1 = some (tyX2 k) := by decide +kernel
abbrev cX2_init : ByteArray := prog_4_method_1_code
def yX2_init : MethodName := ⟨RX2, "<init>", "()V"⟩
abbrev cX2_isFull : ByteArray := prog_4_method_2_code
def yX2_isFull : MethodName := ⟨RX2, "isFull", "()Z"⟩
abbrev cX2_add : ByteArray := prog_4_method_3_code
def yX2_add : MethodName := ⟨RX2, "add", "(IIII)I"⟩
abbrev cX2_ofWorkspaces : ByteArray := prog_4_method_4_code
def yX2_ofWorkspaces : MethodName := ⟨RX2, "ofWorkspaces", "(I)I"⟩
def RX3 : String := "Resolverium$Disk"
def TX3 : u_T := fun k => match k with
  | 0 => ("Resolverium$Disk", "versions", "LResolverium$Row;", true)
  | _ => ("Resolverium$Disk", "sums", "LResolverium$Row;", true)
def tyX3 : Nat → FieldType := fun k => match k with
  | 0 => .object "Resolverium$Row"
  | _ => .object "Resolverium$Row"
abbrev wsX30 : List Cond := u_ws RX3 TX3 2
theorem nmX3 : ∀ a, a < 2 → ∀ b, b < 2 → a ≠ b → (TX3 a).2.1 ≠ (TX3 b).2.1 := by decide +kernel
theorem tyX3_ok : ∀ k, k < 2 → parseFieldDescriptor (TX3 k).2.2.1 = some (tyX3 k) := by decide +kernel
abbrev cX3_init : ByteArray := prog_5_method_1_code
def yX3_init : MethodName := ⟨RX3, "<init>", "()V"⟩
abbrev cX3_differs : ByteArray := prog_5_method_2_code
def yX3_differs : MethodName := ⟨RX3, "differs", "(III)Z"⟩
abbrev cX3_put : ByteArray := prog_5_method_3_code
def yX3_put : MethodName := ⟨RX3, "put", "(III)V"⟩
def RX4 : String := "Resolverium$Needs"
def TX4 : u_T := fun k => match k with
  | 0 => ("Resolverium$Needs", "targets", "LResolverium$Row;", true)
  | 1 => ("Resolverium$Needs", "ranges", "LResolverium$Row;", true)
  | 2 => ("Resolverium$Needs", "kinds", "LResolverium$Row;", true)
  | 3 => ("Resolverium$Needs", "triggers", "LResolverium$Row;", true)
  | 4 => ("Resolverium$Needs", "platforms", "LResolverium$Row;", true)
  | 5 => ("Resolverium$Needs", "asked", "LResolverium$Row;", true)
  | _ => ("Resolverium$Needs", "sizes", "LResolverium$Row;", true)
def tyX4 : Nat → FieldType := fun k => match k with
  | 0 => .object "Resolverium$Row"
  | 1 => .object "Resolverium$Row"
  | 2 => .object "Resolverium$Row"
  | 3 => .object "Resolverium$Row"
  | 4 => .object "Resolverium$Row"
  | 5 => .object "Resolverium$Row"
  | _ => .object "Resolverium$Row"
abbrev wsX40 : List Cond := u_ws RX4 TX4 7
theorem nmX4 : ∀ a, a < 7 → ∀ b, b < 7 → a ≠ b → (TX4 a).2.1 ≠ (TX4 b).2.1 := by decide +kernel
theorem tyX4_ok : ∀ k, k < 7 → parseFieldDescriptor (TX4 k).2.2.1 = some (tyX4 k) := by decide +kernel
abbrev cX4_init : ByteArray := prog_6_method_1_code
def yX4_init : MethodName := ⟨RX4, "<init>", "()V"⟩
abbrev cX4_isFull : ByteArray := prog_6_method_2_code
def yX4_isFull : MethodName := ⟨RX4, "isFull", "(I)Z"⟩
abbrev cX4_add : ByteArray := prog_6_method_3_code
def yX4_add : MethodName := ⟨RX4, "add", "(IIIIIII)I"⟩
abbrev cX4_first : ByteArray := prog_6_method_4_code
def yX4_first : MethodName := ⟨RX4, "first", "(I)I"⟩
abbrev cX4_end : ByteArray := prog_6_method_5_code
def yX4_end : MethodName := ⟨RX4, "end", "(I)I"⟩
def RX5 : String := "Resolverium$Question"
def TX5 : u_T := fun k => match k with
  | 0 => ("Resolverium$Question", "world", "LResolverium$World;", true)
  | 1 => ("Resolverium$Question", "workspaces", "I", false)
  | _ => ("Resolverium$Question", "updated", "I", false)
def tyX5 : Nat → FieldType := fun k => match k with
  | 0 => .object "Resolverium$World"
  | 1 => .int
  | _ => .int
abbrev wsX50 : List Cond := u_ws RX5 TX5 3
theorem nmX5 : ∀ a, a < 3 → ∀ b, b < 3 → a ≠ b → (TX5 a).2.1 ≠ (TX5 b).2.1 := by decide +kernel
theorem tyX5_ok : ∀ k, k < 3 → parseFieldDescriptor (TX5 k).2.2.1 = some (tyX5 k) := by decide +kernel
abbrev cX5_init : ByteArray := prog_7_method_1_code
def yX5_init : MethodName := ⟨RX5, "<init>", "(LResolverium$World;)V"⟩
abbrev cX5_demands : ByteArray := prog_7_method_2_code
def yX5_demands : MethodName := ⟨RX5, "demands", "()I"⟩
abbrev cX5_changes : ByteArray := prog_7_method_3_code
def yX5_changes : MethodName := ⟨RX5, "changes", "(LResolverium$Row;I)I"⟩
abbrev cX5_worth : ByteArray := prog_7_method_4_code
def yX5_worth : MethodName := ⟨RX5, "worth", "(II)I"⟩
def RX6 : String := "Resolverium$Ranges"
def TX6 : u_T := fun k => match k with
  | 0 => ("Resolverium$Ranges", "kinds", "LResolverium$Row;", true)
  | 1 => ("Resolverium$Ranges", "froms", "LResolverium$Row;", true)
  | 2 => ("Resolverium$Ranges", "ends", "LResolverium$Row;", true)
  | 3 => ("Resolverium$Ranges", "triplesWithPre", "LResolverium$Row;", true)
  | 4 => ("Resolverium$Ranges", "lefts", "LResolverium$Row;", true)
  | 5 => ("Resolverium$Ranges", "rights", "LResolverium$Row;", true)
  | 6 => ("Resolverium$Ranges", "held", "LResolverium$Row;", true)
  | _ => ("Resolverium$Ranges", "count", "I", false)
def tyX6 : Nat → FieldType := fun k => match k with
  | 0 => .object "Resolverium$Row"
  | 1 => .object "Resolverium$Row"
  | 2 => .object "Resolverium$Row"
  | 3 => .object "Resolverium$Row"
  | 4 => .object "Resolverium$Row"
  | 5 => .object "Resolverium$Row"
  | 6 => .object "Resolverium$Row"
  | _ => .int
abbrev wsX60 : List Cond := u_ws RX6 TX6 8
theorem nmX6 : ∀ a, a < 8 → ∀ b, b < 8 → a ≠ b → (TX6 a).2.1 ≠ (TX6 b).2.1 := by decide +kernel
theorem tyX6_ok : ∀ k, k < 8 → parseFieldDescriptor (TX6 k).2.2.1 = some (tyX6 k) := by decide +kernel
abbrev cX6_init : ByteArray := prog_8_method_1_code
def yX6_init : MethodName := ⟨RX6, "<init>", "()V"⟩
abbrev cX6_isFull : ByteArray := prog_8_method_2_code
def yX6_isFull : MethodName := ⟨RX6, "isFull", "()Z"⟩
abbrev cX6_add : ByteArray := prog_8_method_3_code
def yX6_add : MethodName := ⟨RX6, "add", "(IIILResolverium$Versions;)I"⟩
abbrev cX6_addJoined : ByteArray := prog_8_method_4_code
def yX6_addJoined : MethodName := ⟨RX6, "addJoined", "(III)I"⟩
abbrev cX6_take : ByteArray := prog_8_method_5_code
def yX6_take : MethodName := ⟨RX6, "take", "(II)V"⟩
abbrev cX6_holds : ByteArray := prog_8_method_6_code
def yX6_holds : MethodName := ⟨RX6, "holds", "(II)Z"⟩
abbrev cX6_reaches : ByteArray := prog_8_method_7_code
def yX6_reaches : MethodName := ⟨RX6, "reaches", "(II)Z"⟩
def RX7 : String := "Resolverium$Row"
def TX7 : u_T := fun k => match k with
  | _ => ("Resolverium$Row", "cells", "[I", true)
def tyX7 : Nat → FieldType := fun k => match k with
  | _ => .array .int
abbrev wsX70 : List Cond := u_ws RX7 TX7 1
theorem nmX7 : ∀ a, a < 1 → ∀ b, b < 1 → a ≠ b → (TX7 a).2.1 ≠ (TX7 b).2.1 := by decide +kernel
theorem tyX7_ok : ∀ k, k < 1 → parseFieldDescriptor (TX7 k).2.2.1 = some (tyX7 k) := by decide +kernel
abbrev cX7_init : ByteArray := prog_9_method_1_code
def yX7_init : MethodName := ⟨RX7, "<init>", "(II)V"⟩
abbrev cX7_get : ByteArray := prog_9_method_2_code
def yX7_get : MethodName := ⟨RX7, "get", "(I)I"⟩
abbrev cX7_set : ByteArray := prog_9_method_3_code
def yX7_set : MethodName := ⟨RX7, "set", "(II)V"⟩
abbrev cX7_exchange : ByteArray := prog_9_method_4_code
def yX7_exchange : MethodName := ⟨RX7, "exchange", "(II)I"⟩
abbrev cX7_merge : ByteArray := prog_9_method_5_code
def yX7_merge : MethodName := ⟨RX7, "merge", "(II)Z"⟩
abbrev cX7_fill : ByteArray := prog_9_method_6_code
def yX7_fill : MethodName := ⟨RX7, "fill", "(I)V"⟩
abbrev cX7_copy : ByteArray := prog_9_method_7_code
def yX7_copy : MethodName := ⟨RX7, "copy", "(LResolverium$Row;)V"⟩
abbrev cX7_count : ByteArray := prog_9_method_8_code
def yX7_count : MethodName := ⟨RX7, "count", "(I)I"⟩
def RX8 : String := "Resolverium$Search"
def TX8 : u_T := fun k => match k with
  | 0 => ("Resolverium$Search", "world", "LResolverium$World;", true)
  | 1 => ("Resolverium$Search", "question", "LResolverium$Question;", true)
  | 2 => ("Resolverium$Search", "choice", "LResolverium$Choice;", true)
  | 3 => ("Resolverium$Search", "best", "LResolverium$Row;", true)
  | 4 => ("Resolverium$Search", "offers", "LResolverium$Row;", true)
  | 5 => ("Resolverium$Search", "offered", "LResolverium$Row;", true)
  | 6 => ("Resolverium$Search", "tried", "LResolverium$Row;", true)
  | 7 => ("Resolverium$Search", "demands", "I", false)
  | 8 => ("Resolverium$Search", "mostChanges", "I", false)
  | _ => ("Resolverium$Search", "at", "I", false)
def tyX8 : Nat → FieldType := fun k => match k with
  | 0 => .object "Resolverium$World"
  | 1 => .object "Resolverium$Question"
  | 2 => .object "Resolverium$Choice"
  | 3 => .object "Resolverium$Row"
  | 4 => .object "Resolverium$Row"
  | 5 => .object "Resolverium$Row"
  | 6 => .object "Resolverium$Row"
  | 7 => .int
  | 8 => .int
  | _ => .int
abbrev wsX80 : List Cond := u_ws RX8 TX8 10
theorem nmX8 : ∀ a, a < 10 → ∀ b, b < 10 → a ≠ b → (TX8 a).2.1 ≠ (TX8 b).2.1 := by decide +kernel
theorem tyX8_ok : ∀ k, k < 10 → parseFieldDescriptor (TX8 k).2.2.1 = some (tyX8 k) := by decide +kernel
abbrev cX8_init : ByteArray := prog_10_method_1_code
def yX8_init : MethodName := ⟨RX8, "<init>", "(LResolverium$World;LResolverium$Question;)V"⟩
abbrev cX8_findBest : ByteArray := prog_10_method_2_code
def yX8_findBest : MethodName := ⟨RX8, "findBest", "()Z"⟩
abbrev cX8_bestFeatures : ByteArray := prog_10_method_3_code
def yX8_bestFeatures : MethodName := ⟨RX8, "bestFeatures", "(I)I"⟩
abbrev cX8_isSolvable : ByteArray := prog_10_method_4_code
def yX8_isSolvable : MethodName := ⟨RX8, "isSolvable", "(I)Z"⟩
abbrev cX8_begin : ByteArray := prog_10_method_5_code
def yX8_begin : MethodName := ⟨RX8, "begin", "(II)V"⟩
abbrev cX8_offerAll : ByteArray := prog_10_method_6_code
def yX8_offerAll : MethodName := ⟨RX8, "offerAll", "(III)V"⟩
abbrev cX8_offer : ByteArray := prog_10_method_7_code
def yX8_offer : MethodName := ⟨RX8, "offer", "(II)V"⟩
abbrev cX8_reachable : ByteArray := prog_10_method_8_code
def yX8_reachable : MethodName := ⟨RX8, "reachable", "(I)I"⟩
abbrev cX8_next : ByteArray := prog_10_method_9_code
def yX8_next : MethodName := ⟨RX8, "next", "()Z"⟩
abbrev cX8_pickNext : ByteArray := prog_10_method_10_code
def yX8_pickNext : MethodName := ⟨RX8, "pickNext", "()Z"⟩
def RX9 : String := "Resolverium$Versions"
def TX9 : u_T := fun k => match k with
  | 0 => ("Resolverium$Versions", "owners", "LResolverium$Row;", true)
  | 1 => ("Resolverium$Versions", "ranks", "LResolverium$Row;", true)
  | 2 => ("Resolverium$Versions", "sums", "LResolverium$Row;", true)
  | 3 => ("Resolverium$Versions", "platforms", "LResolverium$Row;", true)
  | 4 => ("Resolverium$Versions", "brought", "LResolverium$Row;", true)
  | 5 => ("Resolverium$Versions", "members", "LResolverium$Row;", true)
  | 6 => ("Resolverium$Versions", "sizes", "LResolverium$Row;", true)
  | 7 => ("Resolverium$Versions", "yanked", "I", false)
  | 8 => ("Resolverium$Versions", "secondary", "I", false)
  | 9 => ("Resolverium$Versions", "packagesAtFirstPlace", "I", false)
  | _ => ("Resolverium$Versions", "count", "I", false)
def tyX9 : Nat → FieldType := fun k => match k with
  | 0 => .object "Resolverium$Row"
  | 1 => .object "Resolverium$Row"
  | 2 => .object "Resolverium$Row"
  | 3 => .object "Resolverium$Row"
  | 4 => .object "Resolverium$Row"
  | 5 => .object "Resolverium$Row"
  | 6 => .object "Resolverium$Row"
  | 7 => .int
  | 8 => .int
  | 9 => .int
  | _ => .int
abbrev wsX90 : List Cond := u_ws RX9 TX9 11
theorem nmX9 : ∀ a, a < 11 → ∀ b, b < 11 → a ≠ b → (TX9 a).2.1 ≠ (TX9 b).2.1 := by decide +kernel
theorem tyX9_ok : ∀ k, k < 11 → parseFieldDescriptor (TX9 k).2.2.1 = some (tyX9 k) := by decide +kernel
abbrev cX9_init : ByteArray := prog_11_method_1_code
def yX9_init : MethodName := ⟨RX9, "<init>", "()V"⟩
abbrev cX9_isFull : ByteArray := prog_11_method_2_code
def yX9_isFull : MethodName := ⟨RX9, "isFull", "(I)Z"⟩
abbrev cX9_hasRank : ByteArray := prog_11_method_3_code
def yX9_hasRank : MethodName := ⟨RX9, "hasRank", "(II)Z"⟩
abbrev cX9_add : ByteArray := prog_11_method_4_code
def yX9_add : MethodName := ⟨RX9, "add", "(IIII)I"⟩
abbrev cX9_member : ByteArray := prog_11_method_5_code
def yX9_member : MethodName := ⟨RX9, "member", "(II)I"⟩
abbrev cX9_toggleYanked : ByteArray := prog_11_method_6_code
def yX9_toggleYanked : MethodName := ⟨RX9, "toggleYanked", "(I)Z"⟩
abbrev cX9_isYanked : ByteArray := prog_11_method_7_code
def yX9_isYanked : MethodName := ⟨RX9, "isYanked", "(I)Z"⟩
abbrev cX9_isHidden : ByteArray := prog_11_method_8_code
def yX9_isHidden : MethodName := ⟨RX9, "isHidden", "(I)Z"⟩
abbrev cX9_broughtBy : ByteArray := prog_11_method_9_code
def yX9_broughtBy : MethodName := ⟨RX9, "broughtBy", "(II)I"⟩
def RX10 : String := "Resolverium$World"
def TX10 : u_T := fun k => match k with
  | 0 => ("Resolverium$World", "versions", "LResolverium$Versions;", true)
  | 1 => ("Resolverium$World", "ranges", "LResolverium$Ranges;", true)
  | 2 => ("Resolverium$World", "needs", "LResolverium$Needs;", true)
  | 3 => ("Resolverium$World", "demands", "LResolverium$Demands;", true)
  | 4 => ("Resolverium$World", "locked", "LResolverium$Row;", true)
  | 5 => ("Resolverium$World", "advisedPackages", "LResolverium$Row;", true)
  | 6 => ("Resolverium$World", "advisedRanges", "LResolverium$Row;", true)
  | 7 => ("Resolverium$World", "successors", "LResolverium$Row;", true)
  | 8 => ("Resolverium$World", "heirs", "LResolverium$Row;", true)
  | 9 => ("Resolverium$World", "advisories", "I", false)
  | _ => ("Resolverium$World", "platform", "I", false)
def tyX10 : Nat → FieldType := fun k => match k with
  | 0 => .object "Resolverium$Versions"
  | 1 => .object "Resolverium$Ranges"
  | 2 => .object "Resolverium$Needs"
  | 3 => .object "Resolverium$Demands"
  | 4 => .object "Resolverium$Row"
  | 5 => .object "Resolverium$Row"
  | 6 => .object "Resolverium$Row"
  | 7 => .object "Resolverium$Row"
  | 8 => .object "Resolverium$Row"
  | 9 => .int
  | _ => .int
abbrev wsX100 : List Cond := u_ws RX10 TX10 11
theorem nmX10 : ∀ a, a < 11 → ∀ b, b < 11 → a ≠ b → (TX10 a).2.1 ≠ (TX10 b).2.1 := by decide +kernel
theorem tyX10_ok : ∀ k, k < 11 → parseFieldDescriptor (TX10 k).2.2.1 = some (tyX10 k) := by decide +kernel
abbrev cX10_init : ByteArray := prog_12_method_1_code
def yX10_init : MethodName := ⟨RX10, "<init>", "()V"⟩
abbrev cX10_warn : ByteArray := prog_12_method_2_code
def yX10_warn : MethodName := ⟨RX10, "warn", "(II)I"⟩
abbrev cX10_flaw : ByteArray := prog_12_method_3_code
def yX10_flaw : MethodName := ⟨RX10, "flaw", "(I)I"⟩
abbrev cX10_usable : ByteArray := prog_12_method_4_code
def yX10_usable : MethodName := ⟨RX10, "usable", "()I"⟩
abbrev cX10_nextUsable : ByteArray := prog_12_method_5_code
def yX10_nextUsable : MethodName := ⟨RX10, "nextUsable", "(I)I"⟩
abbrev cX10_leadsTo : ByteArray := prog_12_method_6_code
def yX10_leadsTo : MethodName := ⟨RX10, "leadsTo", "(II)Z"⟩
abbrev cX10_redirect : ByteArray := prog_12_method_7_code
def yX10_redirect : MethodName := ⟨RX10, "redirect", "(II)I"⟩
abbrev cX10_lastSuccessor : ByteArray := prog_12_method_8_code
def yX10_lastSuccessor : MethodName := ⟨RX10, "lastSuccessor", "(I)I"⟩
abbrev cX10_targetOfDemand : ByteArray := prog_12_method_9_code
def yX10_targetOfDemand : MethodName := ⟨RX10, "targetOfDemand", "(I)I"⟩
abbrev cX10_targetOfNeed : ByteArray := prog_12_method_10_code
def yX10_targetOfNeed : MethodName := ⟨RX10, "targetOfNeed", "(I)I"⟩
abbrev cX10_counts : ByteArray := prog_12_method_11_code
def yX10_counts : MethodName := ⟨RX10, "counts", "(II)Z"⟩
abbrev cX10_pulledBy : ByteArray := prog_12_method_12_code
def yX10_pulledBy : MethodName := ⟨RX10, "pulledBy", "(II)I"⟩
abbrev cX10_refuses : ByteArray := prog_12_method_13_code
def yX10_refuses : MethodName := ⟨RX10, "refuses", "(II)Z"⟩
abbrev cX10_demanded : ByteArray := prog_12_method_14_code
def yX10_demanded : MethodName := ⟨RX10, "demanded", "(I)I"⟩
def RX11 : String := "Resolverium"
def TX11 : u_T := fun k => match k with
  | 0 => ("Resolverium", "world", "LResolverium$World;", true)
  | 1 => ("Resolverium", "question", "LResolverium$Question;", true)
  | 2 => ("Resolverium", "search", "LResolverium$Search;", true)
  | 3 => ("Resolverium", "census", "LResolverium$Census;", true)
  | _ => ("Resolverium", "disk", "LResolverium$Disk;", true)
def tyX11 : Nat → FieldType := fun k => match k with
  | 0 => .object "Resolverium$World"
  | 1 => .object "Resolverium$Question"
  | 2 => .object "Resolverium$Search"
  | 3 => .object "Resolverium$Census"
  | _ => .object "Resolverium$Disk"
abbrev wsX110 : List Cond := u_ws RX11 TX11 5
theorem nmX11 : ∀ a, a < 5 → ∀ b, b < 5 → a ≠ b → (TX11 a).2.1 ≠ (TX11 b).2.1 := by decide +kernel
theorem tyX11_ok : ∀ k, k < 5 → parseFieldDescriptor (TX11 k).2.2.1 = some (tyX11 k) := by decide +kernel
abbrev cX11_init : ByteArray := prog_1_method_1_code
def yX11_init : MethodName := ⟨RX11, "<init>", "()V"⟩
abbrev cX11_publish : ByteArray := prog_1_method_2_code
def yX11_publish : MethodName := ⟨RX11, "publish", "(IIIIII)I"⟩
abbrev cX11_compare : ByteArray := prog_1_method_3_code
def yX11_compare : MethodName := ⟨RX11, "compare", "(II)I"⟩
abbrev cX11_yank : ByteArray := prog_1_method_4_code
def yX11_yank : MethodName := ⟨RX11, "yank", "(I)Z"⟩
abbrev cX11_setPlatforms : ByteArray := prog_1_method_5_code
def yX11_setPlatforms : MethodName := ⟨RX11, "setPlatforms", "(II)I"⟩
abbrev cX11_bring : ByteArray := prog_1_method_6_code
def yX11_bring : MethodName := ⟨RX11, "bring", "(III)Z"⟩
abbrev cX11_range : ByteArray := prog_1_method_7_code
def yX11_range : MethodName := ⟨RX11, "range", "(IIIII)I"⟩
abbrev cX11_join : ByteArray := prog_1_method_8_code
def yX11_join : MethodName := ⟨RX11, "join", "(III)I"⟩
abbrev cX11_need : ByteArray := prog_1_method_10_code
def yX11_need : MethodName := ⟨RX11, "need", "(IIIIIII)I"⟩
abbrev cX11_demand : ByteArray := prog_1_method_11_code
def yX11_demand : MethodName := ⟨RX11, "demand", "(IIII)I"⟩
abbrev cX11_advise : ByteArray := prog_1_method_12_code
def yX11_advise : MethodName := ⟨RX11, "advise", "(II)I"⟩
abbrev cX11_mending : ByteArray := prog_1_method_13_code
def yX11_mending : MethodName := ⟨RX11, "mending", "(I)I"⟩
abbrev cX11_replace : ByteArray := prog_1_method_14_code
def yX11_replace : MethodName := ⟨RX11, "replace", "(II)I"⟩
abbrev cX11_solve : ByteArray := prog_1_method_16_code
def yX11_solve : MethodName := ⟨RX11, "solve", "(II)I"⟩
abbrev cX11_chosen : ByteArray := prog_1_method_17_code
def yX11_chosen : MethodName := ⟨RX11, "chosen", "(I)I"⟩
abbrev cX11_chosenAnew : ByteArray := prog_1_method_18_code
def yX11_chosenAnew : MethodName := ⟨RX11, "chosenAnew", "(I)I"⟩
abbrev cX11_features : ByteArray := prog_1_method_19_code
def yX11_features : MethodName := ⟨RX11, "features", "(I)I"⟩
abbrev cX11_solutions : ByteArray := prog_1_method_20_code
def yX11_solutions : MethodName := ⟨RX11, "solutions", "()I"⟩
abbrev cX11_why : ByteArray := prog_1_method_21_code
def yX11_why : MethodName := ⟨RX11, "why", "()I"⟩
abbrev cX11_against : ByteArray := prog_1_method_22_code
def yX11_against : MethodName := ⟨RX11, "against", "(I)I"⟩
abbrev cX11_lock : ByteArray := prog_1_method_23_code
def yX11_lock : MethodName := ⟨RX11, "lock", "()I"⟩
abbrev cX11_install : ByteArray := prog_1_method_25_code
def yX11_install : MethodName := ⟨RX11, "install", "(I)I"⟩
abbrev cX11_spoil : ByteArray := prog_1_method_26_code
def yX11_spoil : MethodName := ⟨RX11, "spoil", "(I)I"⟩
abbrev cX11_onDisk : ByteArray := prog_1_method_27_code
def yX11_onDisk : MethodName := ⟨RX11, "onDisk", "(I)I"⟩
abbrev cX11_pending : ByteArray := prog_1_method_28_code
def yX11_pending : MethodName := ⟨RX11, "pending", "()I"⟩
abbrev cX11_isUpTo : ByteArray := prog_1_method_29_code
def yX11_isUpTo : MethodName := ⟨RX11, "isUpTo", "(II)Z"⟩
abbrev cX11_isDigit : ByteArray := prog_1_method_30_code
def yX11_isDigit : MethodName := ⟨RX11, "isDigit", "(I)Z"⟩
abbrev cX11_isPackage : ByteArray := prog_1_method_31_code
def yX11_isPackage : MethodName := ⟨RX11, "isPackage", "(I)Z"⟩
abbrev cX11_isVersion : ByteArray := prog_1_method_32_code
def yX11_isVersion : MethodName := ⟨RX11, "isVersion", "(I)Z"⟩
abbrev cX11_isRange : ByteArray := prog_1_method_33_code
def yX11_isRange : MethodName := ⟨RX11, "isRange", "(I)Z"⟩
abbrev cX11_isIn : ByteArray := prog_1_method_34_code
def yX11_isIn : MethodName := ⟨RX11, "isIn", "(II)Z"⟩
abbrev cX11_rankOf : ByteArray := prog_1_method_35_code
def yX11_rankOf : MethodName := ⟨RX11, "rankOf", "(IIII)I"⟩
abbrev cX11_triple : ByteArray := prog_1_method_36_code
def yX11_triple : MethodName := ⟨RX11, "triple", "(I)I"⟩
abbrev cX11_hasPre : ByteArray := prog_1_method_37_code
def yX11_hasPre : MethodName := ⟨RX11, "hasPre", "(I)Z"⟩
abbrev cX11_hasWholeVersion : ByteArray := prog_1_method_38_code
def yX11_hasWholeVersion : MethodName := ⟨RX11, "hasWholeVersion", "(I)Z"⟩
abbrev cX11_endOf : ByteArray := prog_1_method_39_code
def yX11_endOf : MethodName := ⟨RX11, "endOf", "(IIIII)I"⟩
abbrev cX11_endOfCompatible : ByteArray := prog_1_method_40_code
def yX11_endOfCompatible : MethodName := ⟨RX11, "endOfCompatible", "(III)I"⟩
def RX12 : String := "ResolveriumModel"
def TX12 : u_T := fun k => match k with
  | _ => ("", "", "", false)
def tyX12 : Nat → FieldType := fun k => match k with
  | _ => .int
abbrev wsX120 : List Cond := u_ws RX12 TX12 0
theorem nmX12 : ∀ a, a < 0 → ∀ b, b < 0 → a ≠ b → (TX12 a).2.1 ≠ (TX12 b).2.1 := by decide +kernel
theorem tyX12_ok : ∀ k, k < 0 → parseFieldDescriptor (TX12 k).2.2.1 = some (tyX12 k) := by decide +kernel
def RJx145de : String := "java/io/Serializable"
def TJx145de : u_T := fun k => match k with
  | _ => ("", "", "", false)
def tyJx145de : Nat → FieldType := fun k => match k with
  | _ => .int
abbrev wsJx145de0 : List Cond := u_ws RJx145de TJx145de 0
theorem nmJx145de : ∀ a, a < 0 → ∀ b, b < 0 → a ≠ b → (TJx145de a).2.1 ≠ (TJx145de b).2.1 := by decide +kernel
theorem tyJx145de_ok : ∀ k, k < 0 → parseFieldDescriptor (TJx145de k).2.2.1 = some (tyJx145de k) := by decide +kernel
def RJ6 : String := "java/lang/Integer"
def TJ6 : u_T := fun k => match k with
  | _ => ("", "", "", false)
def tyJ6 : Nat → FieldType := fun k => match k with
  | _ => .int
abbrev wsJ60 : List Cond := u_ws RJ6 TJ6 0
theorem nmJ6 : ∀ a, a < 0 → ∀ b, b < 0 → a ≠ b → (TJ6 a).2.1 ≠ (TJ6 b).2.1 := by decide +kernel
theorem tyJ6_ok : ∀ k, k < 0 → parseFieldDescriptor (TJ6 k).2.2.1 = some (tyJ6 k) := by decide +kernel
abbrev cJ6_compare_7cf53 : ByteArray := prog_19_method_40_code
def yJ6_compare_7cf53 : MethodName := ⟨RJ6, "compare", "(II)I"⟩
abbrev cJ6_bitCount_0f7a4 : ByteArray := prog_19_method_49_code
def yJ6_bitCount_0f7a4 : MethodName := ⟨RJ6, "bitCount", "(I)I"⟩
def RJ0 : String := "java/lang/String"
def TJ0 : u_T := fun k => match k with
  | _ => ("", "", "", false)
def tyJ0 : Nat → FieldType := fun k => match k with
  | _ => .int
abbrev wsJ00 : List Cond := u_ws RJ0 TJ0 0
theorem nmJ0 : ∀ a, a < 0 → ∀ b, b < 0 → a ≠ b → (TJ0 a).2.1 ≠ (TJ0 b).2.1 := by decide +kernel
theorem tyJ0_ok : ∀ k, k < 0 → parseFieldDescriptor (TJ0 k).2.2.1 = some (tyJ0 k) := by decide +kernel
def RJ7 : String := "java/util/Arrays"
def TJ7 : u_T := fun k => match k with
  | _ => ("", "", "", false)
def tyJ7 : Nat → FieldType := fun k => match k with
  | _ => .int
abbrev wsJ70 : List Cond := u_ws RJ7 TJ7 0
theorem nmJ7 : ∀ a, a < 0 → ∀ b, b < 0 → a ≠ b → (TJ7 a).2.1 ≠ (TJ7 b).2.1 := by decide +kernel
theorem tyJ7_ok : ∀ k, k < 0 → parseFieldDescriptor (TJ7 k).2.2.1 = some (tyJ7 k) := by decide +kernel
abbrev cJ7_fill_53178 : ByteArray := prog_23_method_103_code
def yJ7_fill_53178 : MethodName := ⟨RJ7, "fill", "([II)V"⟩
def RL : String := "ResolveriumLaw"
abbrev cL_cell : ByteArray := method_2_code
def yL_cell : MethodName := ⟨RL, "cell", "([II)I"⟩
abbrev cL_low : ByteArray := method_3_code
def yL_low : MethodName := ⟨RL, "low", "(II)I"⟩
abbrev cL_publish : ByteArray := method_4_code
def yL_publish : MethodName := ⟨RL, "publish", "(LResolverium;IIIIII)I"⟩
abbrev cL_range : ByteArray := method_5_code
def yL_range : MethodName := ⟨RL, "range", "(LResolverium;IIIII)I"⟩
abbrev cL_join : ByteArray := method_6_code
def yL_join : MethodName := ⟨RL, "join", "(LResolverium;III)I"⟩
abbrev cL_need : ByteArray := method_7_code
def yL_need : MethodName := ⟨RL, "need", "(LResolverium;IIII)I"⟩
abbrev cL_demand : ByteArray := method_8_code
def yL_demand : MethodName := ⟨RL, "demand", "(LResolverium;IIII)I"⟩
abbrev cL_yank : ByteArray := method_9_code
def yL_yank : MethodName := ⟨RL, "yank", "(LResolverium;I)I"⟩
abbrev cL_setPlatforms : ByteArray := method_10_code
def yL_setPlatforms : MethodName := ⟨RL, "setPlatforms", "(LResolverium;II)I"⟩
abbrev cL_bring : ByteArray := method_11_code
def yL_bring : MethodName := ⟨RL, "bring", "(LResolverium;III)I"⟩
abbrev cL_advise : ByteArray := method_12_code
def yL_advise : MethodName := ⟨RL, "advise", "(LResolverium;II)I"⟩
abbrev cL_replace : ByteArray := method_13_code
def yL_replace : MethodName := ⟨RL, "replace", "(LResolverium;II)I"⟩
abbrev cL_solve : ByteArray := method_14_code
def yL_solve : MethodName := ⟨RL, "solve", "(LResolverium;II)I"⟩
abbrev cL_lock : ByteArray := method_15_code
def yL_lock : MethodName := ⟨RL, "lock", "(LResolverium;)I"⟩
abbrev cL_install : ByteArray := method_16_code
def yL_install : MethodName := ⟨RL, "install", "(LResolverium;I)I"⟩
abbrev cL_spoil : ByteArray := method_17_code
def yL_spoil : MethodName := ⟨RL, "spoil", "(LResolverium;I)I"⟩
abbrev cL_act : ByteArray := method_18_code
def yL_act : MethodName := ⟨RL, "act", "(LResolverium;III)I"⟩
abbrev cL_areAlike : ByteArray := method_19_code
def yL_areAlike : MethodName := ⟨RL, "areAlike", "(LResolverium;LResolverium;)Z"⟩
abbrev cL_isSolvedSo : ByteArray := method_20_code
def yL_isSolvedSo : MethodName := ⟨RL, "isSolvedSo", "(LResolverium;I)Z"⟩
abbrev cL_law : ByteArray := code
def yL_law : MethodName := ⟨RL, "law", "([I)Z"⟩
abbrev vwCl : List vw_C := [(RX0, TX0, 4), (RX1, TX1, 3), (RX2, TX2, 5), (RX3, TX3, 2), (RX4, TX4, 7), (RX5, TX5, 3), (RX6, TX6, 8), (RX7, TX7, 1), (RX8, TX8, 10), (RX9, TX9, 11), (RX10, TX10, 11), (RX11, TX11, 5)]
end
section
theorem dX0_init_0 : decode cX0_init 0 = .ok (.aload_n 0, 1) := by decide +kernel
theorem dX0_init_1 : decode cX0_init 1 = .ok (.invokespecial 3, 3) := by decide +kernel
theorem dX0_init_4 : decode cX0_init 4 = .ok (.aload_n 0, 1) := by decide +kernel
theorem dX0_init_5 : decode cX0_init 5 = .ok (.new 9, 3) := by decide +kernel
theorem dX0_init_8 : decode cX0_init 8 = .ok (.dup, 1) := by decide +kernel
theorem dX0_init_9 : decode cX0_init 9 = .ok (.bipush 6, 2) := by decide +kernel
theorem dX0_init_11 : decode cX0_init 11 = .ok (.iconst (-1), 1) := by decide +kernel
theorem dX0_init_12 : decode cX0_init 12 = .ok (.invokespecial 11, 3) := by decide +kernel
theorem dX0_init_15 : decode cX0_init 15 = .ok (.putfield 14, 3) := by decide +kernel
theorem dX0_init_18 : decode cX0_init 18 = .ok (.aload_n 0, 1) := by decide +kernel
theorem dX0_init_19 : decode cX0_init 19 = .ok (.aload_n 1, 1) := by decide +kernel
theorem dX0_init_20 : decode cX0_init 20 = .ok (.putfield 20, 3) := by decide +kernel
theorem dX0_init_23 : decode cX0_init 23 = .ok (.aload_n 0, 1) := by decide +kernel
theorem dX0_init_24 : decode cX0_init 24 = .ok (.aload_n 2, 1) := by decide +kernel
theorem dX0_init_25 : decode cX0_init 25 = .ok (.putfield 24, 3) := by decide +kernel
theorem dX0_init_28 : decode cX0_init 28 = .ok (.aload_n 0, 1) := by decide +kernel
theorem dX0_init_29 : decode cX0_init 29 = .ok (.new 28, 3) := by decide +kernel
theorem dX0_init_32 : decode cX0_init 32 = .ok (.dup, 1) := by decide +kernel
theorem dX0_init_33 : decode cX0_init 33 = .ok (.aload_n 1, 1) := by decide +kernel
theorem dX0_init_34 : decode cX0_init 34 = .ok (.invokespecial 30, 3) := by decide +kernel
theorem dX0_init_37 : decode cX0_init 37 = .ok (.putfield 33, 3) := by decide +kernel
theorem dX0_init_40 : decode cX0_init 40 = .ok (.return_, 1) := by decide +kernel
theorem dX1_init_0 : decode cX1_init 0 = .ok (.aload_n 0, 1) := by decide +kernel
theorem dX1_init_1 : decode cX1_init 1 = .ok (.invokespecial 3, 3) := by decide +kernel
theorem dX1_init_4 : decode cX1_init 4 = .ok (.aload_n 0, 1) := by decide +kernel
theorem dX1_init_5 : decode cX1_init 5 = .ok (.new 9, 3) := by decide +kernel
theorem dX1_init_8 : decode cX1_init 8 = .ok (.dup, 1) := by decide +kernel
theorem dX1_init_9 : decode cX1_init 9 = .ok (.bipush 6, 2) := by decide +kernel
theorem dX1_init_11 : decode cX1_init 11 = .ok (.iconst (-1), 1) := by decide +kernel
theorem dX1_init_12 : decode cX1_init 12 = .ok (.invokespecial 11, 3) := by decide +kernel
theorem dX1_init_15 : decode cX1_init 15 = .ok (.putfield 14, 3) := by decide +kernel
theorem dX1_init_18 : decode cX1_init 18 = .ok (.aload_n 0, 1) := by decide +kernel
theorem dX1_init_19 : decode cX1_init 19 = .ok (.new 9, 3) := by decide +kernel
theorem dX1_init_22 : decode cX1_init 22 = .ok (.dup, 1) := by decide +kernel
theorem dX1_init_23 : decode cX1_init 23 = .ok (.bipush 6, 2) := by decide +kernel
theorem dX1_init_25 : decode cX1_init 25 = .ok (.iconst 0, 1) := by decide +kernel
theorem dX1_init_26 : decode cX1_init 26 = .ok (.invokespecial 11, 3) := by decide +kernel
theorem dX1_init_29 : decode cX1_init 29 = .ok (.putfield 20, 3) := by decide +kernel
theorem dX1_init_32 : decode cX1_init 32 = .ok (.aload_n 0, 1) := by decide +kernel
theorem dX1_init_33 : decode cX1_init 33 = .ok (.aload_n 1, 1) := by decide +kernel
theorem dX1_init_34 : decode cX1_init 34 = .ok (.putfield 23, 3) := by decide +kernel
theorem dX1_init_37 : decode cX1_init 37 = .ok (.return_, 1) := by decide +kernel
theorem dX2_init_0 : decode cX2_init 0 = .ok (.aload_n 0, 1) := by decide +kernel
theorem dX2_init_1 : decode cX2_init 1 = .ok (.invokespecial 3, 3) := by decide +kernel
theorem dX2_init_4 : decode cX2_init 4 = .ok (.aload_n 0, 1) := by decide +kernel
theorem dX2_init_5 : decode cX2_init 5 = .ok (.new 9, 3) := by decide +kernel
theorem dX2_init_8 : decode cX2_init 8 = .ok (.dup, 1) := by decide +kernel
theorem dX2_init_9 : decode cX2_init 9 = .ok (.bipush 6, 2) := by decide +kernel
theorem dX2_init_11 : decode cX2_init 11 = .ok (.iconst (-1), 1) := by decide +kernel
theorem dX2_init_12 : decode cX2_init 12 = .ok (.invokespecial 11, 3) := by decide +kernel
theorem dX2_init_15 : decode cX2_init 15 = .ok (.putfield 14, 3) := by decide +kernel
theorem dX2_init_18 : decode cX2_init 18 = .ok (.aload_n 0, 1) := by decide +kernel
theorem dX2_init_19 : decode cX2_init 19 = .ok (.new 9, 3) := by decide +kernel
theorem dX2_init_22 : decode cX2_init 22 = .ok (.dup, 1) := by decide +kernel
theorem dX2_init_23 : decode cX2_init 23 = .ok (.bipush 6, 2) := by decide +kernel
theorem dX2_init_25 : decode cX2_init 25 = .ok (.iconst (-1), 1) := by decide +kernel
theorem dX2_init_26 : decode cX2_init 26 = .ok (.invokespecial 11, 3) := by decide +kernel
theorem dX2_init_29 : decode cX2_init 29 = .ok (.putfield 20, 3) := by decide +kernel
theorem dX2_init_32 : decode cX2_init 32 = .ok (.aload_n 0, 1) := by decide +kernel
theorem dX2_init_33 : decode cX2_init 33 = .ok (.new 9, 3) := by decide +kernel
theorem dX2_init_36 : decode cX2_init 36 = .ok (.dup, 1) := by decide +kernel
theorem dX2_init_37 : decode cX2_init 37 = .ok (.bipush 6, 2) := by decide +kernel
theorem dX2_init_39 : decode cX2_init 39 = .ok (.iconst (-1), 1) := by decide +kernel
theorem dX2_init_40 : decode cX2_init 40 = .ok (.invokespecial 11, 3) := by decide +kernel
theorem dX2_init_43 : decode cX2_init 43 = .ok (.putfield 23, 3) := by decide +kernel
theorem dX2_init_46 : decode cX2_init 46 = .ok (.aload_n 0, 1) := by decide +kernel
theorem dX2_init_47 : decode cX2_init 47 = .ok (.new 9, 3) := by decide +kernel
theorem dX2_init_50 : decode cX2_init 50 = .ok (.dup, 1) := by decide +kernel
theorem dX2_init_51 : decode cX2_init 51 = .ok (.bipush 6, 2) := by decide +kernel
theorem dX2_init_53 : decode cX2_init 53 = .ok (.iconst 0, 1) := by decide +kernel
theorem dX2_init_54 : decode cX2_init 54 = .ok (.invokespecial 11, 3) := by decide +kernel
theorem dX2_init_57 : decode cX2_init 57 = .ok (.putfield 26, 3) := by decide +kernel
theorem dX2_init_60 : decode cX2_init 60 = .ok (.return_, 1) := by decide +kernel
theorem dX3_init_0 : decode cX3_init 0 = .ok (.aload_n 0, 1) := by decide +kernel
theorem dX3_init_1 : decode cX3_init 1 = .ok (.invokespecial 3, 3) := by decide +kernel
theorem dX3_init_4 : decode cX3_init 4 = .ok (.aload_n 0, 1) := by decide +kernel
theorem dX3_init_5 : decode cX3_init 5 = .ok (.new 9, 3) := by decide +kernel
theorem dX3_init_8 : decode cX3_init 8 = .ok (.dup, 1) := by decide +kernel
theorem dX3_init_9 : decode cX3_init 9 = .ok (.bipush 6, 2) := by decide +kernel
theorem dX3_init_11 : decode cX3_init 11 = .ok (.iconst (-1), 1) := by decide +kernel
theorem dX3_init_12 : decode cX3_init 12 = .ok (.invokespecial 11, 3) := by decide +kernel
theorem dX3_init_15 : decode cX3_init 15 = .ok (.putfield 14, 3) := by decide +kernel
theorem dX3_init_18 : decode cX3_init 18 = .ok (.aload_n 0, 1) := by decide +kernel
theorem dX3_init_19 : decode cX3_init 19 = .ok (.new 9, 3) := by decide +kernel
theorem dX3_init_22 : decode cX3_init 22 = .ok (.dup, 1) := by decide +kernel
theorem dX3_init_23 : decode cX3_init 23 = .ok (.bipush 6, 2) := by decide +kernel
theorem dX3_init_25 : decode cX3_init 25 = .ok (.iconst (-1), 1) := by decide +kernel
theorem dX3_init_26 : decode cX3_init 26 = .ok (.invokespecial 11, 3) := by decide +kernel
theorem dX3_init_29 : decode cX3_init 29 = .ok (.putfield 20, 3) := by decide +kernel
theorem dX3_init_32 : decode cX3_init 32 = .ok (.return_, 1) := by decide +kernel
theorem dX4_init_0 : decode cX4_init 0 = .ok (.aload_n 0, 1) := by decide +kernel
theorem dX4_init_1 : decode cX4_init 1 = .ok (.invokespecial 3, 3) := by decide +kernel
theorem dX4_init_4 : decode cX4_init 4 = .ok (.aload_n 0, 1) := by decide +kernel
theorem dX4_init_5 : decode cX4_init 5 = .ok (.new 9, 3) := by decide +kernel
theorem dX4_init_8 : decode cX4_init 8 = .ok (.dup, 1) := by decide +kernel
theorem dX4_init_9 : decode cX4_init 9 = .ok (.bipush 120, 2) := by decide +kernel
theorem dX4_init_11 : decode cX4_init 11 = .ok (.iconst (-1), 1) := by decide +kernel
theorem dX4_init_12 : decode cX4_init 12 = .ok (.invokespecial 11, 3) := by decide +kernel
theorem dX4_init_15 : decode cX4_init 15 = .ok (.putfield 14, 3) := by decide +kernel
theorem dX4_init_18 : decode cX4_init 18 = .ok (.aload_n 0, 1) := by decide +kernel
theorem dX4_init_19 : decode cX4_init 19 = .ok (.new 9, 3) := by decide +kernel
theorem dX4_init_22 : decode cX4_init 22 = .ok (.dup, 1) := by decide +kernel
theorem dX4_init_23 : decode cX4_init 23 = .ok (.bipush 120, 2) := by decide +kernel
theorem dX4_init_25 : decode cX4_init 25 = .ok (.iconst (-1), 1) := by decide +kernel
theorem dX4_init_26 : decode cX4_init 26 = .ok (.invokespecial 11, 3) := by decide +kernel
theorem dX4_init_29 : decode cX4_init 29 = .ok (.putfield 20, 3) := by decide +kernel
theorem dX4_init_32 : decode cX4_init 32 = .ok (.aload_n 0, 1) := by decide +kernel
theorem dX4_init_33 : decode cX4_init 33 = .ok (.new 9, 3) := by decide +kernel
theorem dX4_init_36 : decode cX4_init 36 = .ok (.dup, 1) := by decide +kernel
theorem dX4_init_37 : decode cX4_init 37 = .ok (.bipush 120, 2) := by decide +kernel
theorem dX4_init_39 : decode cX4_init 39 = .ok (.iconst 0, 1) := by decide +kernel
theorem dX4_init_40 : decode cX4_init 40 = .ok (.invokespecial 11, 3) := by decide +kernel
theorem dX4_init_43 : decode cX4_init 43 = .ok (.putfield 23, 3) := by decide +kernel
theorem dX4_init_46 : decode cX4_init 46 = .ok (.aload_n 0, 1) := by decide +kernel
theorem dX4_init_47 : decode cX4_init 47 = .ok (.new 9, 3) := by decide +kernel
theorem dX4_init_50 : decode cX4_init 50 = .ok (.dup, 1) := by decide +kernel
theorem dX4_init_51 : decode cX4_init 51 = .ok (.bipush 120, 2) := by decide +kernel
theorem dX4_init_53 : decode cX4_init 53 = .ok (.iconst (-1), 1) := by decide +kernel
theorem dX4_init_54 : decode cX4_init 54 = .ok (.invokespecial 11, 3) := by decide +kernel
theorem dX4_init_57 : decode cX4_init 57 = .ok (.putfield 26, 3) := by decide +kernel
theorem dX4_init_60 : decode cX4_init 60 = .ok (.aload_n 0, 1) := by decide +kernel
theorem dX4_init_61 : decode cX4_init 61 = .ok (.new 9, 3) := by decide +kernel
theorem dX4_init_64 : decode cX4_init 64 = .ok (.dup, 1) := by decide +kernel
theorem dX4_init_65 : decode cX4_init 65 = .ok (.bipush 120, 2) := by decide +kernel
theorem dX4_init_67 : decode cX4_init 67 = .ok (.iconst 0, 1) := by decide +kernel
theorem dX4_init_68 : decode cX4_init 68 = .ok (.invokespecial 11, 3) := by decide +kernel
theorem dX4_init_71 : decode cX4_init 71 = .ok (.putfield 29, 3) := by decide +kernel
theorem dX4_init_74 : decode cX4_init 74 = .ok (.aload_n 0, 1) := by decide +kernel
theorem dX4_init_75 : decode cX4_init 75 = .ok (.new 9, 3) := by decide +kernel
theorem dX4_init_78 : decode cX4_init 78 = .ok (.dup, 1) := by decide +kernel
theorem dX4_init_79 : decode cX4_init 79 = .ok (.bipush 120, 2) := by decide +kernel
theorem dX4_init_81 : decode cX4_init 81 = .ok (.iconst 0, 1) := by decide +kernel
theorem dX4_init_82 : decode cX4_init 82 = .ok (.invokespecial 11, 3) := by decide +kernel
theorem dX4_init_85 : decode cX4_init 85 = .ok (.putfield 32, 3) := by decide +kernel
theorem dX4_init_88 : decode cX4_init 88 = .ok (.aload_n 0, 1) := by decide +kernel
theorem dX4_init_89 : decode cX4_init 89 = .ok (.new 9, 3) := by decide +kernel
theorem dX4_init_92 : decode cX4_init 92 = .ok (.dup, 1) := by decide +kernel
theorem dX4_init_93 : decode cX4_init 93 = .ok (.bipush 24, 2) := by decide +kernel
theorem dX4_init_95 : decode cX4_init 95 = .ok (.iconst 0, 1) := by decide +kernel
theorem dX4_init_96 : decode cX4_init 96 = .ok (.invokespecial 11, 3) := by decide +kernel
theorem dX4_init_99 : decode cX4_init 99 = .ok (.putfield 35, 3) := by decide +kernel
theorem dX4_init_102 : decode cX4_init 102 = .ok (.return_, 1) := by decide +kernel
theorem dX5_init_0 : decode cX5_init 0 = .ok (.aload_n 0, 1) := by decide +kernel
theorem dX5_init_1 : decode cX5_init 1 = .ok (.invokespecial 3, 3) := by decide +kernel
theorem dX5_init_4 : decode cX5_init 4 = .ok (.aload_n 0, 1) := by decide +kernel
theorem dX5_init_5 : decode cX5_init 5 = .ok (.aload_n 1, 1) := by decide +kernel
theorem dX5_init_6 : decode cX5_init 6 = .ok (.putfield 9, 3) := by decide +kernel
theorem dX5_init_9 : decode cX5_init 9 = .ok (.return_, 1) := by decide +kernel
theorem dX6_init_0 : decode cX6_init 0 = .ok (.aload_n 0, 1) := by decide +kernel
theorem dX6_init_1 : decode cX6_init 1 = .ok (.invokespecial 3, 3) := by decide +kernel
theorem dX6_init_4 : decode cX6_init 4 = .ok (.aload_n 0, 1) := by decide +kernel
theorem dX6_init_5 : decode cX6_init 5 = .ok (.new 9, 3) := by decide +kernel
theorem dX6_init_8 : decode cX6_init 8 = .ok (.dup, 1) := by decide +kernel
theorem dX6_init_9 : decode cX6_init 9 = .ok (.bipush 30, 2) := by decide +kernel
theorem dX6_init_11 : decode cX6_init 11 = .ok (.iconst 3, 1) := by decide +kernel
theorem dX6_init_12 : decode cX6_init 12 = .ok (.invokespecial 11, 3) := by decide +kernel
theorem dX6_init_15 : decode cX6_init 15 = .ok (.putfield 14, 3) := by decide +kernel
theorem dX6_init_18 : decode cX6_init 18 = .ok (.aload_n 0, 1) := by decide +kernel
theorem dX6_init_19 : decode cX6_init 19 = .ok (.new 9, 3) := by decide +kernel
theorem dX6_init_22 : decode cX6_init 22 = .ok (.dup, 1) := by decide +kernel
theorem dX6_init_23 : decode cX6_init 23 = .ok (.bipush 30, 2) := by decide +kernel
theorem dX6_init_25 : decode cX6_init 25 = .ok (.iconst 0, 1) := by decide +kernel
theorem dX6_init_26 : decode cX6_init 26 = .ok (.invokespecial 11, 3) := by decide +kernel
theorem dX6_init_29 : decode cX6_init 29 = .ok (.putfield 20, 3) := by decide +kernel
theorem dX6_init_32 : decode cX6_init 32 = .ok (.aload_n 0, 1) := by decide +kernel
theorem dX6_init_33 : decode cX6_init 33 = .ok (.new 9, 3) := by decide +kernel
theorem dX6_init_36 : decode cX6_init 36 = .ok (.dup, 1) := by decide +kernel
theorem dX6_init_37 : decode cX6_init 37 = .ok (.bipush 30, 2) := by decide +kernel
theorem dX6_init_39 : decode cX6_init 39 = .ok (.iconst 0, 1) := by decide +kernel
theorem dX6_init_40 : decode cX6_init 40 = .ok (.invokespecial 11, 3) := by decide +kernel
theorem dX6_init_43 : decode cX6_init 43 = .ok (.putfield 23, 3) := by decide +kernel
theorem dX6_init_46 : decode cX6_init 46 = .ok (.aload_n 0, 1) := by decide +kernel
theorem dX6_init_47 : decode cX6_init 47 = .ok (.new 9, 3) := by decide +kernel
theorem dX6_init_50 : decode cX6_init 50 = .ok (.dup, 1) := by decide +kernel
theorem dX6_init_51 : decode cX6_init 51 = .ok (.bipush 30, 2) := by decide +kernel
theorem dX6_init_53 : decode cX6_init 53 = .ok (.iconst (-1), 1) := by decide +kernel
theorem dX6_init_54 : decode cX6_init 54 = .ok (.invokespecial 11, 3) := by decide +kernel
theorem dX6_init_57 : decode cX6_init 57 = .ok (.putfield 26, 3) := by decide +kernel
theorem dX6_init_60 : decode cX6_init 60 = .ok (.aload_n 0, 1) := by decide +kernel
theorem dX6_init_61 : decode cX6_init 61 = .ok (.new 9, 3) := by decide +kernel
theorem dX6_init_64 : decode cX6_init 64 = .ok (.dup, 1) := by decide +kernel
theorem dX6_init_65 : decode cX6_init 65 = .ok (.bipush 30, 2) := by decide +kernel
theorem dX6_init_67 : decode cX6_init 67 = .ok (.iconst (-1), 1) := by decide +kernel
theorem dX6_init_68 : decode cX6_init 68 = .ok (.invokespecial 11, 3) := by decide +kernel
theorem dX6_init_71 : decode cX6_init 71 = .ok (.putfield 29, 3) := by decide +kernel
theorem dX6_init_74 : decode cX6_init 74 = .ok (.aload_n 0, 1) := by decide +kernel
theorem dX6_init_75 : decode cX6_init 75 = .ok (.new 9, 3) := by decide +kernel
theorem dX6_init_78 : decode cX6_init 78 = .ok (.dup, 1) := by decide +kernel
theorem dX6_init_79 : decode cX6_init 79 = .ok (.bipush 30, 2) := by decide +kernel
theorem dX6_init_81 : decode cX6_init 81 = .ok (.iconst (-1), 1) := by decide +kernel
theorem dX6_init_82 : decode cX6_init 82 = .ok (.invokespecial 11, 3) := by decide +kernel
theorem dX6_init_85 : decode cX6_init 85 = .ok (.putfield 32, 3) := by decide +kernel
theorem dX6_init_88 : decode cX6_init 88 = .ok (.aload_n 0, 1) := by decide +kernel
theorem dX6_init_89 : decode cX6_init 89 = .ok (.new 9, 3) := by decide +kernel
theorem dX6_init_92 : decode cX6_init 92 = .ok (.dup, 1) := by decide +kernel
theorem dX6_init_93 : decode cX6_init 93 = .ok (.bipush 30, 2) := by decide +kernel
theorem dX6_init_95 : decode cX6_init 95 = .ok (.iconst 0, 1) := by decide +kernel
theorem dX6_init_96 : decode cX6_init 96 = .ok (.invokespecial 11, 3) := by decide +kernel
theorem dX6_init_99 : decode cX6_init 99 = .ok (.putfield 35, 3) := by decide +kernel
theorem dX6_init_102 : decode cX6_init 102 = .ok (.return_, 1) := by decide +kernel
theorem dX7_init_0 : decode cX7_init 0 = .ok (.aload_n 0, 1) := by decide +kernel
theorem dX7_init_1 : decode cX7_init 1 = .ok (.invokespecial 3, 3) := by decide +kernel
theorem dX7_init_4 : decode cX7_init 4 = .ok (.aload_n 0, 1) := by decide +kernel
theorem dX7_init_5 : decode cX7_init 5 = .ok (.iload_n 1, 1) := by decide +kernel
theorem dX7_init_6 : decode cX7_init 6 = .ok (.ifCond .le 7, 3) := by decide +kernel
theorem dX7_init_9 : decode cX7_init 9 = .ok (.iload_n 1, 1) := by decide +kernel
theorem dX7_init_10 : decode cX7_init 10 = .ok (.goto 4, 3) := by decide +kernel
theorem dX7_init_14 : decode cX7_init 14 = .ok (.newarray .int, 2) := by decide +kernel
theorem dX7_init_16 : decode cX7_init 16 = .ok (.putfield 9, 3) := by decide +kernel
theorem dX7_init_19 : decode cX7_init 19 = .ok (.aload_n 0, 1) := by decide +kernel
theorem dX7_init_20 : decode cX7_init 20 = .ok (.getfield 9, 3) := by decide +kernel
theorem dX7_init_23 : decode cX7_init 23 = .ok (.iload_n 2, 1) := by decide +kernel
theorem dX7_init_24 : decode cX7_init 24 = .ok (.invokestatic 15, 3) := by decide +kernel
theorem dX7_init_27 : decode cX7_init 27 = .ok (.return_, 1) := by decide +kernel
theorem dX7_set_0 : decode cX7_set 0 = .ok (.iload_n 1, 1) := by decide +kernel
theorem dX7_set_1 : decode cX7_set 1 = .ok (.ifCond .lt 19, 3) := by decide +kernel
theorem dX7_set_4 : decode cX7_set 4 = .ok (.iload_n 1, 1) := by decide +kernel
theorem dX7_set_5 : decode cX7_set 5 = .ok (.aload_n 0, 1) := by decide +kernel
theorem dX7_set_6 : decode cX7_set 6 = .ok (.getfield 9, 3) := by decide +kernel
theorem dX7_set_9 : decode cX7_set 9 = .ok (.arraylength, 1) := by decide +kernel
theorem dX7_set_10 : decode cX7_set 10 = .ok (.if_icmp .ge 10, 3) := by decide +kernel
theorem dX7_set_13 : decode cX7_set 13 = .ok (.aload_n 0, 1) := by decide +kernel
theorem dX7_set_14 : decode cX7_set 14 = .ok (.getfield 9, 3) := by decide +kernel
theorem dX7_set_17 : decode cX7_set 17 = .ok (.iload_n 1, 1) := by decide +kernel
theorem dX7_set_18 : decode cX7_set 18 = .ok (.iload_n 2, 1) := by decide +kernel
theorem dX7_set_19 : decode cX7_set 19 = .ok (.iastore, 1) := by decide +kernel
theorem dX7_set_20 : decode cX7_set 20 = .ok (.return_, 1) := by decide +kernel
theorem dX8_init_0 : decode cX8_init 0 = .ok (.aload_n 0, 1) := by decide +kernel
theorem dX8_init_1 : decode cX8_init 1 = .ok (.invokespecial 3, 3) := by decide +kernel
theorem dX8_init_4 : decode cX8_init 4 = .ok (.aload_n 0, 1) := by decide +kernel
theorem dX8_init_5 : decode cX8_init 5 = .ok (.new 9, 3) := by decide +kernel
theorem dX8_init_8 : decode cX8_init 8 = .ok (.dup, 1) := by decide +kernel
theorem dX8_init_9 : decode cX8_init 9 = .ok (.bipush 6, 2) := by decide +kernel
theorem dX8_init_11 : decode cX8_init 11 = .ok (.iconst (-1), 1) := by decide +kernel
theorem dX8_init_12 : decode cX8_init 12 = .ok (.invokespecial 11, 3) := by decide +kernel
theorem dX8_init_15 : decode cX8_init 15 = .ok (.putfield 14, 3) := by decide +kernel
theorem dX8_init_18 : decode cX8_init 18 = .ok (.aload_n 0, 1) := by decide +kernel
theorem dX8_init_19 : decode cX8_init 19 = .ok (.new 9, 3) := by decide +kernel
theorem dX8_init_22 : decode cX8_init 22 = .ok (.dup, 1) := by decide +kernel
theorem dX8_init_23 : decode cX8_init 23 = .ok (.bipush 30, 2) := by decide +kernel
theorem dX8_init_25 : decode cX8_init 25 = .ok (.iconst (-1), 1) := by decide +kernel
theorem dX8_init_26 : decode cX8_init 26 = .ok (.invokespecial 11, 3) := by decide +kernel
theorem dX8_init_29 : decode cX8_init 29 = .ok (.putfield 20, 3) := by decide +kernel
theorem dX8_init_32 : decode cX8_init 32 = .ok (.aload_n 0, 1) := by decide +kernel
theorem dX8_init_33 : decode cX8_init 33 = .ok (.new 9, 3) := by decide +kernel
theorem dX8_init_36 : decode cX8_init 36 = .ok (.dup, 1) := by decide +kernel
theorem dX8_init_37 : decode cX8_init 37 = .ok (.bipush 6, 2) := by decide +kernel
theorem dX8_init_39 : decode cX8_init 39 = .ok (.iconst 0, 1) := by decide +kernel
theorem dX8_init_40 : decode cX8_init 40 = .ok (.invokespecial 11, 3) := by decide +kernel
theorem dX8_init_43 : decode cX8_init 43 = .ok (.putfield 23, 3) := by decide +kernel
theorem dX8_init_46 : decode cX8_init 46 = .ok (.aload_n 0, 1) := by decide +kernel
theorem dX8_init_47 : decode cX8_init 47 = .ok (.new 9, 3) := by decide +kernel
theorem dX8_init_50 : decode cX8_init 50 = .ok (.dup, 1) := by decide +kernel
theorem dX8_init_51 : decode cX8_init 51 = .ok (.bipush 6, 2) := by decide +kernel
theorem dX8_init_53 : decode cX8_init 53 = .ok (.iconst 0, 1) := by decide +kernel
theorem dX8_init_54 : decode cX8_init 54 = .ok (.invokespecial 11, 3) := by decide +kernel
theorem dX8_init_57 : decode cX8_init 57 = .ok (.putfield 26, 3) := by decide +kernel
theorem dX8_init_60 : decode cX8_init 60 = .ok (.aload_n 0, 1) := by decide +kernel
theorem dX8_init_61 : decode cX8_init 61 = .ok (.aload_n 1, 1) := by decide +kernel
theorem dX8_init_62 : decode cX8_init 62 = .ok (.putfield 29, 3) := by decide +kernel
theorem dX8_init_65 : decode cX8_init 65 = .ok (.aload_n 0, 1) := by decide +kernel
theorem dX8_init_66 : decode cX8_init 66 = .ok (.aload_n 2, 1) := by decide +kernel
theorem dX8_init_67 : decode cX8_init 67 = .ok (.putfield 33, 3) := by decide +kernel
theorem dX8_init_70 : decode cX8_init 70 = .ok (.aload_n 0, 1) := by decide +kernel
theorem dX8_init_71 : decode cX8_init 71 = .ok (.new 37, 3) := by decide +kernel
theorem dX8_init_74 : decode cX8_init 74 = .ok (.dup, 1) := by decide +kernel
theorem dX8_init_75 : decode cX8_init 75 = .ok (.aload_n 1, 1) := by decide +kernel
theorem dX8_init_76 : decode cX8_init 76 = .ok (.invokespecial 39, 3) := by decide +kernel
theorem dX8_init_79 : decode cX8_init 79 = .ok (.putfield 42, 3) := by decide +kernel
theorem dX8_init_82 : decode cX8_init 82 = .ok (.return_, 1) := by decide +kernel
theorem dX9_init_0 : decode cX9_init 0 = .ok (.aload_n 0, 1) := by decide +kernel
theorem dX9_init_1 : decode cX9_init 1 = .ok (.invokespecial 3, 3) := by decide +kernel
theorem dX9_init_4 : decode cX9_init 4 = .ok (.aload_n 0, 1) := by decide +kernel
theorem dX9_init_5 : decode cX9_init 5 = .ok (.new 9, 3) := by decide +kernel
theorem dX9_init_8 : decode cX9_init 8 = .ok (.dup, 1) := by decide +kernel
theorem dX9_init_9 : decode cX9_init 9 = .ok (.bipush 24, 2) := by decide +kernel
theorem dX9_init_11 : decode cX9_init 11 = .ok (.iconst (-1), 1) := by decide +kernel
theorem dX9_init_12 : decode cX9_init 12 = .ok (.invokespecial 11, 3) := by decide +kernel
theorem dX9_init_15 : decode cX9_init 15 = .ok (.putfield 14, 3) := by decide +kernel
theorem dX9_init_18 : decode cX9_init 18 = .ok (.aload_n 0, 1) := by decide +kernel
theorem dX9_init_19 : decode cX9_init 19 = .ok (.new 9, 3) := by decide +kernel
theorem dX9_init_22 : decode cX9_init 22 = .ok (.dup, 1) := by decide +kernel
theorem dX9_init_23 : decode cX9_init 23 = .ok (.bipush 24, 2) := by decide +kernel
theorem dX9_init_25 : decode cX9_init 25 = .ok (.iconst (-1), 1) := by decide +kernel
theorem dX9_init_26 : decode cX9_init 26 = .ok (.invokespecial 11, 3) := by decide +kernel
theorem dX9_init_29 : decode cX9_init 29 = .ok (.putfield 20, 3) := by decide +kernel
theorem dX9_init_32 : decode cX9_init 32 = .ok (.aload_n 0, 1) := by decide +kernel
theorem dX9_init_33 : decode cX9_init 33 = .ok (.new 9, 3) := by decide +kernel
theorem dX9_init_36 : decode cX9_init 36 = .ok (.dup, 1) := by decide +kernel
theorem dX9_init_37 : decode cX9_init 37 = .ok (.bipush 24, 2) := by decide +kernel
theorem dX9_init_39 : decode cX9_init 39 = .ok (.iconst (-1), 1) := by decide +kernel
theorem dX9_init_40 : decode cX9_init 40 = .ok (.invokespecial 11, 3) := by decide +kernel
theorem dX9_init_43 : decode cX9_init 43 = .ok (.putfield 23, 3) := by decide +kernel
theorem dX9_init_46 : decode cX9_init 46 = .ok (.aload_n 0, 1) := by decide +kernel
theorem dX9_init_47 : decode cX9_init 47 = .ok (.new 9, 3) := by decide +kernel
theorem dX9_init_50 : decode cX9_init 50 = .ok (.dup, 1) := by decide +kernel
theorem dX9_init_51 : decode cX9_init 51 = .ok (.bipush 24, 2) := by decide +kernel
theorem dX9_init_53 : decode cX9_init 53 = .ok (.bipush 7, 2) := by decide +kernel
theorem dX9_init_55 : decode cX9_init 55 = .ok (.invokespecial 11, 3) := by decide +kernel
theorem dX9_init_58 : decode cX9_init 58 = .ok (.putfield 26, 3) := by decide +kernel
theorem dX9_init_61 : decode cX9_init 61 = .ok (.aload_n 0, 1) := by decide +kernel
theorem dX9_init_62 : decode cX9_init 62 = .ok (.new 9, 3) := by decide +kernel
theorem dX9_init_65 : decode cX9_init 65 = .ok (.dup, 1) := by decide +kernel
theorem dX9_init_66 : decode cX9_init 66 = .ok (.bipush 72, 2) := by decide +kernel
theorem dX9_init_68 : decode cX9_init 68 = .ok (.iconst 0, 1) := by decide +kernel
theorem dX9_init_69 : decode cX9_init 69 = .ok (.invokespecial 11, 3) := by decide +kernel
theorem dX9_init_72 : decode cX9_init 72 = .ok (.putfield 29, 3) := by decide +kernel
theorem dX9_init_75 : decode cX9_init 75 = .ok (.aload_n 0, 1) := by decide +kernel
theorem dX9_init_76 : decode cX9_init 76 = .ok (.new 9, 3) := by decide +kernel
theorem dX9_init_79 : decode cX9_init 79 = .ok (.dup, 1) := by decide +kernel
theorem dX9_init_80 : decode cX9_init 80 = .ok (.bipush 24, 2) := by decide +kernel
theorem dX9_init_82 : decode cX9_init 82 = .ok (.iconst (-1), 1) := by decide +kernel
theorem dX9_init_83 : decode cX9_init 83 = .ok (.invokespecial 11, 3) := by decide +kernel
theorem dX9_init_86 : decode cX9_init 86 = .ok (.putfield 32, 3) := by decide +kernel
theorem dX9_init_89 : decode cX9_init 89 = .ok (.aload_n 0, 1) := by decide +kernel
theorem dX9_init_90 : decode cX9_init 90 = .ok (.new 9, 3) := by decide +kernel
theorem dX9_init_93 : decode cX9_init 93 = .ok (.dup, 1) := by decide +kernel
theorem dX9_init_94 : decode cX9_init 94 = .ok (.bipush 6, 2) := by decide +kernel
theorem dX9_init_96 : decode cX9_init 96 = .ok (.iconst 0, 1) := by decide +kernel
theorem dX9_init_97 : decode cX9_init 97 = .ok (.invokespecial 11, 3) := by decide +kernel
theorem dX9_init_100 : decode cX9_init 100 = .ok (.putfield 35, 3) := by decide +kernel
theorem dX9_init_103 : decode cX9_init 103 = .ok (.return_, 1) := by decide +kernel
theorem dX10_init_0 : decode cX10_init 0 = .ok (.aload_n 0, 1) := by decide +kernel
theorem dX10_init_1 : decode cX10_init 1 = .ok (.invokespecial 3, 3) := by decide +kernel
theorem dX10_init_4 : decode cX10_init 4 = .ok (.aload_n 0, 1) := by decide +kernel
theorem dX10_init_5 : decode cX10_init 5 = .ok (.new 9, 3) := by decide +kernel
theorem dX10_init_8 : decode cX10_init 8 = .ok (.dup, 1) := by decide +kernel
theorem dX10_init_9 : decode cX10_init 9 = .ok (.invokespecial 11, 3) := by decide +kernel
theorem dX10_init_12 : decode cX10_init 12 = .ok (.putfield 12, 3) := by decide +kernel
theorem dX10_init_15 : decode cX10_init 15 = .ok (.aload_n 0, 1) := by decide +kernel
theorem dX10_init_16 : decode cX10_init 16 = .ok (.new 18, 3) := by decide +kernel
theorem dX10_init_19 : decode cX10_init 19 = .ok (.dup, 1) := by decide +kernel
theorem dX10_init_20 : decode cX10_init 20 = .ok (.invokespecial 20, 3) := by decide +kernel
theorem dX10_init_23 : decode cX10_init 23 = .ok (.putfield 21, 3) := by decide +kernel
theorem dX10_init_26 : decode cX10_init 26 = .ok (.aload_n 0, 1) := by decide +kernel
theorem dX10_init_27 : decode cX10_init 27 = .ok (.new 25, 3) := by decide +kernel
theorem dX10_init_30 : decode cX10_init 30 = .ok (.dup, 1) := by decide +kernel
theorem dX10_init_31 : decode cX10_init 31 = .ok (.invokespecial 27, 3) := by decide +kernel
theorem dX10_init_34 : decode cX10_init 34 = .ok (.putfield 28, 3) := by decide +kernel
theorem dX10_init_37 : decode cX10_init 37 = .ok (.aload_n 0, 1) := by decide +kernel
theorem dX10_init_38 : decode cX10_init 38 = .ok (.new 32, 3) := by decide +kernel
theorem dX10_init_41 : decode cX10_init 41 = .ok (.dup, 1) := by decide +kernel
theorem dX10_init_42 : decode cX10_init 42 = .ok (.invokespecial 34, 3) := by decide +kernel
theorem dX10_init_45 : decode cX10_init 45 = .ok (.putfield 35, 3) := by decide +kernel
theorem dX10_init_48 : decode cX10_init 48 = .ok (.aload_n 0, 1) := by decide +kernel
theorem dX10_init_49 : decode cX10_init 49 = .ok (.new 39, 3) := by decide +kernel
theorem dX10_init_52 : decode cX10_init 52 = .ok (.dup, 1) := by decide +kernel
theorem dX10_init_53 : decode cX10_init 53 = .ok (.bipush 6, 2) := by decide +kernel
theorem dX10_init_55 : decode cX10_init 55 = .ok (.iconst (-1), 1) := by decide +kernel
theorem dX10_init_56 : decode cX10_init 56 = .ok (.invokespecial 41, 3) := by decide +kernel
theorem dX10_init_59 : decode cX10_init 59 = .ok (.putfield 44, 3) := by decide +kernel
theorem dX10_init_62 : decode cX10_init 62 = .ok (.aload_n 0, 1) := by decide +kernel
theorem dX10_init_63 : decode cX10_init 63 = .ok (.new 39, 3) := by decide +kernel
theorem dX10_init_66 : decode cX10_init 66 = .ok (.dup, 1) := by decide +kernel
theorem dX10_init_67 : decode cX10_init 67 = .ok (.bipush 8, 2) := by decide +kernel
theorem dX10_init_69 : decode cX10_init 69 = .ok (.iconst (-1), 1) := by decide +kernel
theorem dX10_init_70 : decode cX10_init 70 = .ok (.invokespecial 41, 3) := by decide +kernel
theorem dX10_init_73 : decode cX10_init 73 = .ok (.putfield 48, 3) := by decide +kernel
theorem dX10_init_76 : decode cX10_init 76 = .ok (.aload_n 0, 1) := by decide +kernel
theorem dX10_init_77 : decode cX10_init 77 = .ok (.new 39, 3) := by decide +kernel
theorem dX10_init_80 : decode cX10_init 80 = .ok (.dup, 1) := by decide +kernel
theorem dX10_init_81 : decode cX10_init 81 = .ok (.bipush 8, 2) := by decide +kernel
theorem dX10_init_83 : decode cX10_init 83 = .ok (.iconst (-1), 1) := by decide +kernel
theorem dX10_init_84 : decode cX10_init 84 = .ok (.invokespecial 41, 3) := by decide +kernel
theorem dX10_init_87 : decode cX10_init 87 = .ok (.putfield 51, 3) := by decide +kernel
theorem dX10_init_90 : decode cX10_init 90 = .ok (.aload_n 0, 1) := by decide +kernel
theorem dX10_init_91 : decode cX10_init 91 = .ok (.new 39, 3) := by decide +kernel
theorem dX10_init_94 : decode cX10_init 94 = .ok (.dup, 1) := by decide +kernel
theorem dX10_init_95 : decode cX10_init 95 = .ok (.bipush 6, 2) := by decide +kernel
theorem dX10_init_97 : decode cX10_init 97 = .ok (.iconst (-1), 1) := by decide +kernel
theorem dX10_init_98 : decode cX10_init 98 = .ok (.invokespecial 41, 3) := by decide +kernel
theorem dX10_init_101 : decode cX10_init 101 = .ok (.putfield 54, 3) := by decide +kernel
theorem dX10_init_104 : decode cX10_init 104 = .ok (.aload_n 0, 1) := by decide +kernel
theorem dX10_init_105 : decode cX10_init 105 = .ok (.new 39, 3) := by decide +kernel
theorem dX10_init_108 : decode cX10_init 108 = .ok (.dup, 1) := by decide +kernel
theorem dX10_init_109 : decode cX10_init 109 = .ok (.bipush 6, 2) := by decide +kernel
theorem dX10_init_111 : decode cX10_init 111 = .ok (.iconst (-1), 1) := by decide +kernel
theorem dX10_init_112 : decode cX10_init 112 = .ok (.invokespecial 41, 3) := by decide +kernel
theorem dX10_init_115 : decode cX10_init 115 = .ok (.putfield 57, 3) := by decide +kernel
theorem dX10_init_118 : decode cX10_init 118 = .ok (.iconst 0, 1) := by decide +kernel
theorem dX10_init_119 : decode cX10_init 119 = .ok (.istore_n 1, 1) := by decide +kernel
theorem dX10_init_120 : decode cX10_init 120 = .ok (.iload_n 1, 1) := by decide +kernel
theorem dX10_init_121 : decode cX10_init 121 = .ok (.bipush 6, 2) := by decide +kernel
theorem dX10_init_123 : decode cX10_init 123 = .ok (.if_icmp .ge 18, 3) := by decide +kernel
theorem dX10_init_126 : decode cX10_init 126 = .ok (.aload_n 0, 1) := by decide +kernel
theorem dX10_init_127 : decode cX10_init 127 = .ok (.getfield 57, 3) := by decide +kernel
theorem dX10_init_130 : decode cX10_init 130 = .ok (.iload_n 1, 1) := by decide +kernel
theorem dX10_init_131 : decode cX10_init 131 = .ok (.iload_n 1, 1) := by decide +kernel
theorem dX10_init_132 : decode cX10_init 132 = .ok (.invokevirtual 60, 3) := by decide +kernel
theorem dX10_init_135 : decode cX10_init 135 = .ok (.iinc 1 1, 3) := by decide +kernel
theorem dX10_init_138 : decode cX10_init 138 = .ok (.goto (-18), 3) := by decide +kernel
theorem dX10_init_141 : decode cX10_init 141 = .ok (.return_, 1) := by decide +kernel
theorem dJ7_fill_53178_0 : decode cJ7_fill_53178 0 = .ok (.iconst 0, 1) := by decide +kernel
theorem dJ7_fill_53178_1 : decode cJ7_fill_53178 1 = .ok (.istore_n 2, 1) := by decide +kernel
theorem dJ7_fill_53178_2 : decode cJ7_fill_53178 2 = .ok (.aload_n 0, 1) := by decide +kernel
theorem dJ7_fill_53178_3 : decode cJ7_fill_53178 3 = .ok (.arraylength, 1) := by decide +kernel
theorem dJ7_fill_53178_4 : decode cJ7_fill_53178 4 = .ok (.istore_n 3, 1) := by decide +kernel
theorem dJ7_fill_53178_5 : decode cJ7_fill_53178 5 = .ok (.iload_n 2, 1) := by decide +kernel
theorem dJ7_fill_53178_6 : decode cJ7_fill_53178 6 = .ok (.iload_n 3, 1) := by decide +kernel
theorem dJ7_fill_53178_7 : decode cJ7_fill_53178 7 = .ok (.if_icmp .ge 13, 3) := by decide +kernel
theorem dJ7_fill_53178_10 : decode cJ7_fill_53178 10 = .ok (.aload_n 0, 1) := by decide +kernel
theorem dJ7_fill_53178_11 : decode cJ7_fill_53178 11 = .ok (.iload_n 2, 1) := by decide +kernel
theorem dJ7_fill_53178_12 : decode cJ7_fill_53178 12 = .ok (.iload_n 1, 1) := by decide +kernel
theorem dJ7_fill_53178_13 : decode cJ7_fill_53178 13 = .ok (.iastore, 1) := by decide +kernel
theorem dJ7_fill_53178_14 : decode cJ7_fill_53178 14 = .ok (.iinc 2 1, 3) := by decide +kernel
theorem dJ7_fill_53178_17 : decode cJ7_fill_53178 17 = .ok (.goto (-12), 3) := by decide +kernel
theorem dJ7_fill_53178_20 : decode cJ7_fill_53178 20 = .ok (.return_, 1) := by decide +kernel
end
section
theorem dX11_init_0 : decode cX11_init 0 = .ok (.aload_n 0, 1) := by decide +kernel
theorem dX11_init_1 : decode cX11_init 1 = .ok (.invokespecial 3, 3) := by decide +kernel
theorem dX11_init_4 : decode cX11_init 4 = .ok (.new 9, 3) := by decide +kernel
theorem dX11_init_7 : decode cX11_init 7 = .ok (.dup, 1) := by decide +kernel
theorem dX11_init_8 : decode cX11_init 8 = .ok (.invokespecial 11, 3) := by decide +kernel
theorem dX11_init_11 : decode cX11_init 11 = .ok (.astore_n 1, 1) := by decide +kernel
theorem dX11_init_12 : decode cX11_init 12 = .ok (.new 12, 3) := by decide +kernel
theorem dX11_init_15 : decode cX11_init 15 = .ok (.dup, 1) := by decide +kernel
theorem dX11_init_16 : decode cX11_init 16 = .ok (.aload_n 1, 1) := by decide +kernel
theorem dX11_init_17 : decode cX11_init 17 = .ok (.invokespecial 14, 3) := by decide +kernel
theorem dX11_init_20 : decode cX11_init 20 = .ok (.astore_n 2, 1) := by decide +kernel
theorem dX11_init_21 : decode cX11_init 21 = .ok (.aload_n 0, 1) := by decide +kernel
theorem dX11_init_22 : decode cX11_init 22 = .ok (.aload_n 1, 1) := by decide +kernel
theorem dX11_init_23 : decode cX11_init 23 = .ok (.putfield 17, 3) := by decide +kernel
theorem dX11_init_26 : decode cX11_init 26 = .ok (.aload_n 0, 1) := by decide +kernel
theorem dX11_init_27 : decode cX11_init 27 = .ok (.aload_n 2, 1) := by decide +kernel
theorem dX11_init_28 : decode cX11_init 28 = .ok (.putfield 21, 3) := by decide +kernel
theorem dX11_init_31 : decode cX11_init 31 = .ok (.aload_n 0, 1) := by decide +kernel
theorem dX11_init_32 : decode cX11_init 32 = .ok (.new 25, 3) := by decide +kernel
theorem dX11_init_35 : decode cX11_init 35 = .ok (.dup, 1) := by decide +kernel
theorem dX11_init_36 : decode cX11_init 36 = .ok (.aload_n 1, 1) := by decide +kernel
theorem dX11_init_37 : decode cX11_init 37 = .ok (.aload_n 2, 1) := by decide +kernel
theorem dX11_init_38 : decode cX11_init 38 = .ok (.invokespecial 27, 3) := by decide +kernel
theorem dX11_init_41 : decode cX11_init 41 = .ok (.putfield 30, 3) := by decide +kernel
theorem dX11_init_44 : decode cX11_init 44 = .ok (.aload_n 0, 1) := by decide +kernel
theorem dX11_init_45 : decode cX11_init 45 = .ok (.new 34, 3) := by decide +kernel
theorem dX11_init_48 : decode cX11_init 48 = .ok (.dup, 1) := by decide +kernel
theorem dX11_init_49 : decode cX11_init 49 = .ok (.aload_n 1, 1) := by decide +kernel
theorem dX11_init_50 : decode cX11_init 50 = .ok (.aload_n 2, 1) := by decide +kernel
theorem dX11_init_51 : decode cX11_init 51 = .ok (.invokespecial 36, 3) := by decide +kernel
theorem dX11_init_54 : decode cX11_init 54 = .ok (.putfield 37, 3) := by decide +kernel
theorem dX11_init_57 : decode cX11_init 57 = .ok (.aload_n 0, 1) := by decide +kernel
theorem dX11_init_58 : decode cX11_init 58 = .ok (.new 41, 3) := by decide +kernel
theorem dX11_init_61 : decode cX11_init 61 = .ok (.dup, 1) := by decide +kernel
theorem dX11_init_62 : decode cX11_init 62 = .ok (.invokespecial 43, 3) := by decide +kernel
theorem dX11_init_65 : decode cX11_init 65 = .ok (.putfield 44, 3) := by decide +kernel
theorem dX11_init_68 : decode cX11_init 68 = .ok (.return_, 1) := by decide +kernel
end
section
theorem dL_law_0 : decode cL_law 0 = .ok (.new 9, 3) := by decide +kernel
theorem dL_law_3 : decode cL_law 3 = .ok (.dup, 1) := by decide +kernel
theorem dL_law_4 : decode cL_law 4 = .ok (.invokespecial 139, 3) := by decide +kernel
theorem dL_law_7 : decode cL_law 7 = .ok (.astore_n 1, 1) := by decide +kernel
theorem dL_law_8 : decode cL_law 8 = .ok (.new 9, 3) := by decide +kernel
theorem dL_law_11 : decode cL_law 11 = .ok (.dup, 1) := by decide +kernel
theorem dL_law_12 : decode cL_law 12 = .ok (.invokespecial 139, 3) := by decide +kernel
theorem dL_law_15 : decode cL_law 15 = .ok (.astore_n 2, 1) := by decide +kernel
theorem dL_law_16 : decode cL_law 16 = .ok (.iconst 0, 1) := by decide +kernel
theorem dL_law_17 : decode cL_law 17 = .ok (.istore_n 3, 1) := by decide +kernel
theorem dL_law_18 : decode cL_law 18 = .ok (.iconst 0, 1) := by decide +kernel
theorem dL_law_19 : decode cL_law 19 = .ok (.istore 4, 2) := by decide +kernel
theorem dL_law_21 : decode cL_law 21 = .ok (.iconst 0, 1) := by decide +kernel
theorem dL_law_22 : decode cL_law 22 = .ok (.istore 5, 2) := by decide +kernel
theorem dL_law_24 : decode cL_law 24 = .ok (.iload 5, 2) := by decide +kernel
theorem dL_law_26 : decode cL_law 26 = .ok (.bipush 64, 2) := by decide +kernel
theorem dL_law_28 : decode cL_law 28 = .ok (.if_icmp .ge 141, 3) := by decide +kernel
theorem dL_law_31 : decode cL_law 31 = .ok (.aload_n 0, 1) := by decide +kernel
theorem dL_law_32 : decode cL_law 32 = .ok (.iload 5, 2) := by decide +kernel
theorem dL_law_34 : decode cL_law 34 = .ok (.invokestatic 140, 3) := by decide +kernel
theorem dL_law_37 : decode cL_law 37 = .ok (.istore 6, 2) := by decide +kernel
theorem dL_law_39 : decode cL_law 39 = .ok (.aload_n 1, 1) := by decide +kernel
theorem dL_law_40 : decode cL_law 40 = .ok (.iload 6, 2) := by decide +kernel
theorem dL_law_42 : decode cL_law 42 = .ok (.iload_n 3, 1) := by decide +kernel
theorem dL_law_43 : decode cL_law 43 = .ok (.iload 4, 2) := by decide +kernel
theorem dL_law_45 : decode cL_law 45 = .ok (.invokestatic 144, 3) := by decide +kernel
theorem dL_law_48 : decode cL_law 48 = .ok (.istore 7, 2) := by decide +kernel
theorem dL_law_50 : decode cL_law 50 = .ok (.iload 7, 2) := by decide +kernel
theorem dL_law_52 : decode cL_law 52 = .ok (.ldc 16, 2) := by decide +kernel
theorem dL_law_54 : decode cL_law 54 = .ok (.if_icmp .eq 19, 3) := by decide +kernel
theorem dL_law_57 : decode cL_law 57 = .ok (.aload_n 2, 1) := by decide +kernel
theorem dL_law_58 : decode cL_law 58 = .ok (.iload 6, 2) := by decide +kernel
theorem dL_law_60 : decode cL_law 60 = .ok (.iload_n 3, 1) := by decide +kernel
theorem dL_law_61 : decode cL_law 61 = .ok (.iload 4, 2) := by decide +kernel
theorem dL_law_63 : decode cL_law 63 = .ok (.invokestatic 144, 3) := by decide +kernel
theorem dL_law_66 : decode cL_law 66 = .ok (.iload 7, 2) := by decide +kernel
theorem dL_law_68 : decode cL_law 68 = .ok (.if_icmp .eq 5, 3) := by decide +kernel
theorem dL_law_71 : decode cL_law 71 = .ok (.iconst 0, 1) := by decide +kernel
theorem dL_law_72 : decode cL_law 72 = .ok (.ireturn, 1) := by decide +kernel
theorem dL_law_73 : decode cL_law 73 = .ok (.iload_n 3, 1) := by decide +kernel
theorem dL_law_74 : decode cL_law 74 = .ok (.iload 6, 2) := by decide +kernel
theorem dL_law_76 : decode cL_law 76 = .ok (.bipush 20, 2) := by decide +kernel
theorem dL_law_78 : decode cL_law 78 = .ok (.invokestatic 29, 3) := by decide +kernel
theorem dL_law_81 : decode cL_law 81 = .ok (.iconst 4, 1) := by decide +kernel
theorem dL_law_82 : decode cL_law 82 = .ok (.if_icmp .ge 12, 3) := by decide +kernel
theorem dL_law_85 : decode cL_law 85 = .ok (.iload 7, 2) := by decide +kernel
theorem dL_law_87 : decode cL_law 87 = .ok (.ifCond .lt 7, 3) := by decide +kernel
theorem dL_law_90 : decode cL_law 90 = .ok (.iconst 1, 1) := by decide +kernel
theorem dL_law_91 : decode cL_law 91 = .ok (.goto 4, 3) := by decide +kernel
theorem dL_law_94 : decode cL_law 94 = .ok (.iconst 0, 1) := by decide +kernel
theorem dL_law_95 : decode cL_law 95 = .ok (.iadd, 1) := by decide +kernel
theorem dL_law_96 : decode cL_law 96 = .ok (.istore_n 3, 1) := by decide +kernel
theorem dL_law_97 : decode cL_law 97 = .ok (.iload 4, 2) := by decide +kernel
theorem dL_law_99 : decode cL_law 99 = .ok (.iload 6, 2) := by decide +kernel
theorem dL_law_101 : decode cL_law 101 = .ok (.bipush 20, 2) := by decide +kernel
theorem dL_law_103 : decode cL_law 103 = .ok (.invokestatic 29, 3) := by decide +kernel
theorem dL_law_106 : decode cL_law 106 = .ok (.iconst 3, 1) := by decide +kernel
theorem dL_law_107 : decode cL_law 107 = .ok (.if_icmp .le 24, 3) := by decide +kernel
theorem dL_law_110 : decode cL_law 110 = .ok (.iload 6, 2) := by decide +kernel
theorem dL_law_112 : decode cL_law 112 = .ok (.bipush 20, 2) := by decide +kernel
theorem dL_law_114 : decode cL_law 114 = .ok (.invokestatic 29, 3) := by decide +kernel
theorem dL_law_117 : decode cL_law 117 = .ok (.bipush 8, 2) := by decide +kernel
theorem dL_law_119 : decode cL_law 119 = .ok (.if_icmp .ge 12, 3) := by decide +kernel
theorem dL_law_122 : decode cL_law 122 = .ok (.iload 7, 2) := by decide +kernel
theorem dL_law_124 : decode cL_law 124 = .ok (.ifCond .lt 7, 3) := by decide +kernel
theorem dL_law_127 : decode cL_law 127 = .ok (.iconst 1, 1) := by decide +kernel
theorem dL_law_128 : decode cL_law 128 = .ok (.goto 4, 3) := by decide +kernel
theorem dL_law_131 : decode cL_law 131 = .ok (.iconst 0, 1) := by decide +kernel
theorem dL_law_132 : decode cL_law 132 = .ok (.iadd, 1) := by decide +kernel
theorem dL_law_133 : decode cL_law 133 = .ok (.istore 4, 2) := by decide +kernel
theorem dL_law_135 : decode cL_law 135 = .ok (.iload 5, 2) := by decide +kernel
theorem dL_law_137 : decode cL_law 137 = .ok (.bipush 8, 2) := by decide +kernel
theorem dL_law_139 : decode cL_law 139 = .ok (.irem, 1) := by decide +kernel
theorem dL_law_140 : decode cL_law 140 = .ok (.bipush 7, 2) := by decide +kernel
theorem dL_law_142 : decode cL_law 142 = .ok (.if_icmp .ne 21, 3) := by decide +kernel
theorem dL_law_145 : decode cL_law 145 = .ok (.aload_n 1, 1) := by decide +kernel
theorem dL_law_146 : decode cL_law 146 = .ok (.aload_n 2, 1) := by decide +kernel
theorem dL_law_147 : decode cL_law 147 = .ok (.invokestatic 147, 3) := by decide +kernel
theorem dL_law_150 : decode cL_law 150 = .ok (.ifCond .eq 11, 3) := by decide +kernel
theorem dL_law_153 : decode cL_law 153 = .ok (.aload_n 1, 1) := by decide +kernel
theorem dL_law_154 : decode cL_law 154 = .ok (.iload_n 3, 1) := by decide +kernel
theorem dL_law_155 : decode cL_law 155 = .ok (.invokestatic 151, 3) := by decide +kernel
theorem dL_law_158 : decode cL_law 158 = .ok (.ifCond .ne 5, 3) := by decide +kernel
theorem dL_law_161 : decode cL_law 161 = .ok (.iconst 0, 1) := by decide +kernel
theorem dL_law_162 : decode cL_law 162 = .ok (.ireturn, 1) := by decide +kernel
theorem dL_law_163 : decode cL_law 163 = .ok (.iinc 5 1, 3) := by decide +kernel
theorem dL_law_166 : decode cL_law 166 = .ok (.goto (-142), 3) := by decide +kernel
theorem dL_law_169 : decode cL_law 169 = .ok (.aload_n 1, 1) := by decide +kernel
theorem dL_law_170 : decode cL_law 170 = .ok (.invokevirtual 115, 3) := by decide +kernel
theorem dL_law_173 : decode cL_law 173 = .ok (.istore 5, 2) := by decide +kernel
theorem dL_law_175 : decode cL_law 175 = .ok (.iload 5, 2) := by decide +kernel
theorem dL_law_177 : decode cL_law 177 = .ok (.ifCond .le 29, 3) := by decide +kernel
theorem dL_law_180 : decode cL_law 180 = .ok (.aload_n 1, 1) := by decide +kernel
theorem dL_law_181 : decode cL_law 181 = .ok (.bipush 10, 2) := by decide +kernel
theorem dL_law_183 : decode cL_law 183 = .ok (.invokestatic 105, 3) := by decide +kernel
theorem dL_law_186 : decode cL_law 186 = .ok (.iload 5, 2) := by decide +kernel
theorem dL_law_188 : decode cL_law 188 = .ok (.if_icmp .ne 22, 3) := by decide +kernel
theorem dL_law_191 : decode cL_law 191 = .ok (.aload_n 1, 1) := by decide +kernel
theorem dL_law_192 : decode cL_law 192 = .ok (.invokevirtual 115, 3) := by decide +kernel
theorem dL_law_195 : decode cL_law 195 = .ok (.ifCond .ne 15, 3) := by decide +kernel
theorem dL_law_198 : decode cL_law 198 = .ok (.aload_n 1, 1) := by decide +kernel
theorem dL_law_199 : decode cL_law 199 = .ok (.iconst 1, 1) := by decide +kernel
theorem dL_law_200 : decode cL_law 200 = .ok (.invokestatic 105, 3) := by decide +kernel
theorem dL_law_203 : decode cL_law 203 = .ok (.ifCond .ne 7, 3) := by decide +kernel
theorem dL_law_206 : decode cL_law 206 = .ok (.iconst 1, 1) := by decide +kernel
theorem dL_law_207 : decode cL_law 207 = .ok (.goto 4, 3) := by decide +kernel
theorem dL_law_210 : decode cL_law 210 = .ok (.iconst 0, 1) := by decide +kernel
theorem dL_law_211 : decode cL_law 211 = .ok (.ireturn, 1) := by decide +kernel
end
section
/-! ===== the words that all methods share ===== -/
def BIG : List Cond := lw_tbl.filter goodWord
theorem bg {w : Cond} (i : Nat) (h : lw_tbl[i]? = some w) (g : goodWord w = true) : w ∈ BIG := List.mem_filter.mpr ⟨List.mem_of_getElem? h, g⟩
theorem big_good : ∀ w ∈ BIG, goodWord w = true := fun _ h => (List.mem_filter.mp h).2
theorem big_in : ∀ w ∈ BIG, w ∈ lw_tbl := fun _ h => (List.mem_filter.mp h).1
theorem big_code {c : Cond} (h : c ∈ BIG) : GoodIn BIG (c :: BIG) := fun w hw => by
  have h1 : w ∈ BIG := (List.mem_cons.mp hw).elim (fun e => by rw [e]; exact h) id
  exact ⟨h1, good_of_word (big_good w h1)⟩
def nestL : List (String × Nat × MethodName) := [(RX2, 40, yX11_isIn), (RX9, 70, yX11_isIn), (RX10, 87, yX11_isIn), (RX6, 65, yX11_isUpTo), (RX6, 68, yX11_isIn), (RX8, 101, yX11_isIn), (RX9, 59, yX11_isUpTo), (RX5, 43, yX11_isIn), (RX1, 60, yX11_isIn), (RX6, 71, yX11_hasPre), (RX6, 75, yX11_triple), (RX0, 81, yX11_isIn)]
theorem bgL {ws : List Cond} (ps : List Nat) (hp : ws = ps.filterMap (fun i => lw_tbl[i]?)) (h : ws.all goodWord = true) : ∀ w ∈ ws, w ∈ BIG := by
  intro w hw
  have h1 := List.all_eq_true.mp h w hw
  rw [hp] at hw
  obtain ⟨i, -, hi⟩ := List.mem_filterMap.mp hw
  exact List.mem_filter.mpr ⟨List.mem_of_getElem? hi, h1⟩
/-- a field's facts: the class's number ci, the field's place k in it -/
def FLD (own : String) (idx ci k : Nat) : Prop := ∃ (C : String) (T : u_T) (N : Nat), vwCl[ci]? = some (C, T, N) ∧ k < N ∧ (∀ w ∈ u_ws C T N, w ∈ BIG) ∧ Cond.fieldLink own idx (T k).1 (T k).2.1 (T k).2.2.1 ∈ BIG
def FLP (own : String) (idx ci k : Nat) (ty : FieldType) : Prop := ∃ (C : String) (T : u_T) (N : Nat) (ty0 : Nat → FieldType), vwCl[ci]? = some (C, T, N) ∧ k < N ∧ (∀ w ∈ u_ws C T N, w ∈ BIG) ∧ Cond.fieldLink own idx (T k).1 (T k).2.1 (T k).2.2.1 ∈ BIG ∧ (∀ k, k < N → parseFieldDescriptor (T k).2.2.1 = some (ty0 k)) ∧ (∀ a, a < N → ∀ b, b < N → a ≠ b → (T a).2.1 ≠ (T b).2.1) ∧ (T k).2.2.2 = false ∧ parseFieldDescriptor (T k).2.2.1 = some ty
/-! calls -/
def MLV (own : String) (idx : Nat) (y : MethodName) (b : ByteArray) (mL : Nat) (ret : Option FieldType) (n : Nat) : Prop := Cond.methodLink own idx y ∈ BIG ∧ Cond.instanceMethod y ∈ BIG ∧ Cond.selects y.cls y y ∈ BIG ∧ Cond.initialized y.cls ∈ BIG ∧ Cond.code y b mL ret ∈ BIG ∧ (y.cls ≠ "java/lang/invoke/MethodHandle" ∧ y.cls ≠ "java/lang/invoke/VarHandle" ∧ (parseMethodDescriptor y.desc).map (fun d => d.parameters.length) = some n)
def MLS (own : String) (idx : Nat) (y : MethodName) (b : ByteArray) (mL : Nat) (ret : Option FieldType) (n : Nat) : Prop := Cond.methodLink own idx y ∈ BIG ∧ Cond.static y ∈ BIG ∧ Cond.initialized y.cls ∈ BIG ∧ Cond.code y b mL ret ∈ BIG ∧ (y.cls ≠ "java/lang/invoke/MethodHandle" ∧ y.cls ≠ "java/lang/invoke/VarHandle" ∧ (parseMethodDescriptor y.desc).map (fun d => d.parameters.length) = some n)
def MLN (own : String) (idx : Nat) (y : MethodName) (b : ByteArray) (mL : Nat) (ret : Option FieldType) (n : Nat) : Prop := (own, idx, y) ∈ nestL ∧ Cond.static y ∈ BIG ∧ Cond.initialized y.cls ∈ BIG ∧ Cond.code y b mL ret ∈ BIG ∧ (y.cls ≠ "java/lang/invoke/MethodHandle" ∧ y.cls ≠ "java/lang/invoke/VarHandle" ∧ (parseMethodDescriptor y.desc).map (fun d => d.parameters.length) = some n)
end
section
theorem bgc_0 : ∀ w ∈ u_ws RX0 TX0 4, w ∈ BIG := bgL [370, 372, 374, 376] (by decide +kernel) (by decide +kernel)
theorem bgc_1 : ∀ w ∈ u_ws RX1 TX1 3, w ∈ BIG := bgL [316, 318, 320] (by decide +kernel) (by decide +kernel)
theorem bgc_2 : ∀ w ∈ u_ws RX2 TX2 5, w ∈ BIG := bgL [210, 212, 214, 216, 218] (by decide +kernel) (by decide +kernel)
theorem bgc_3 : ∀ w ∈ u_ws RX3 TX3 2, w ∈ BIG := bgL [391, 393] (by decide +kernel) (by decide +kernel)
theorem bgc_4 : ∀ w ∈ u_ws RX4 TX4 7, w ∈ BIG := bgL [176, 178, 180, 182, 184, 186, 188] (by decide +kernel) (by decide +kernel)
theorem bgc_5 : ∀ w ∈ u_ws RX5 TX5 3, w ∈ BIG := bgL [287, 289, 291] (by decide +kernel) (by decide +kernel)
theorem bgc_6 : ∀ w ∈ u_ws RX6 TX6 8, w ∈ BIG := bgL [137, 139, 141, 143, 145, 147, 149, 151] (by decide +kernel) (by decide +kernel)
theorem bgc_7 : ∀ w ∈ u_ws RX7 TX7 1, w ∈ BIG := bgL [66] (by decide +kernel) (by decide +kernel)
theorem bgc_8 : ∀ w ∈ u_ws RX8 TX8 10, w ∈ BIG := bgL [334, 336, 338, 340, 342, 344, 346, 348, 350, 352] (by decide +kernel) (by decide +kernel)
theorem bgc_9 : ∀ w ∈ u_ws RX9 TX9 11, w ∈ BIG := bgL [96, 98, 100, 102, 104, 106, 108, 110, 112, 114, 116] (by decide +kernel) (by decide +kernel)
theorem bgc_10 : ∀ w ∈ u_ws RX10 TX10 11, w ∈ BIG := bgL [253, 255, 257, 259, 261, 263, 265, 267, 269, 271, 273] (by decide +kernel) (by decide +kernel)
theorem bgc_11 : ∀ w ∈ u_ws RX11 TX11 5, w ∈ BIG := bgL [401, 403, 405, 407, 409] (by decide +kernel) (by decide +kernel)
theorem bgc_12 : ∀ w ∈ u_ws RX12 TX12 0, w ∈ BIG := bgL [] (by decide +kernel) (by decide +kernel)
theorem fl_X7_9 : FLD RX7 9 7 0 := ⟨RX7, TX7, 1, rfl, by decide, bgc_7, bg 65 (by decide +kernel) rfl⟩
theorem ml_X7_15 : MLS RX7 15 yJ7_fill_53178 cJ7_fill_53178 4 none 2 := ⟨bg 62 (by decide +kernel) rfl, bg 63 (by decide +kernel) rfl, bg 20 (by decide +kernel) rfl, bg 64 (by decide +kernel) rfl, ⟨by decide +kernel, by decide +kernel, by decide +kernel⟩⟩
theorem fl_X10_57 : FLD RX10 57 10 8 := ⟨RX10, TX10, 11, rfl, by decide, bgc_10, bg 249 (by decide +kernel) rfl⟩
theorem ml_X10_60 : MLV RX10 60 yX7_set cX7_set 3 none 2 := ⟨bg 223 (by decide +kernel) rfl, bg 224 (by decide +kernel) rfl, bg 225 (by decide +kernel) rfl, bg 19 (by decide +kernel) rfl, bg 226 (by decide +kernel) rfl, ⟨by decide +kernel, by decide +kernel, by decide +kernel⟩⟩
end
section
abbrev Mem : Type := Nat → Nat → Int32
/-- what stands at a place of the system's heap: an object (its class's number, its fields: a place, or an int), or an array (0 int, 1 boolean, 2 long; its length) -/
abbrev SE : Type := (Nat × List (Option Nat)) ⊕ (Nat × Nat)
def shp : List SE := [.inl (11, [some 1, some 66, some 67, some 81, some 89]),
  .inl (10, [some 2, some 17, some 32, some 47, some 56, some 58, some 60, some 62, some 64, none, none]),
  .inl (9, [some 3, some 5, some 7, some 9, some 11, some 13, some 15, none, none, none, none]),
  .inl (7, [some 4]),
  .inr (0, 24),
  .inl (7, [some 6]),
  .inr (0, 24),
  .inl (7, [some 8]),
  .inr (0, 24),
  .inl (7, [some 10]),
  .inr (0, 24),
  .inl (7, [some 12]),
  .inr (0, 72),
  .inl (7, [some 14]),
  .inr (0, 24),
  .inl (7, [some 16]),
  .inr (0, 6),
  .inl (6, [some 18, some 20, some 22, some 24, some 26, some 28, some 30, none]),
  .inl (7, [some 19]),
  .inr (0, 30),
  .inl (7, [some 21]),
  .inr (0, 30),
  .inl (7, [some 23]),
  .inr (0, 30),
  .inl (7, [some 25]),
  .inr (0, 30),
  .inl (7, [some 27]),
  .inr (0, 30),
  .inl (7, [some 29]),
  .inr (0, 30),
  .inl (7, [some 31]),
  .inr (0, 30),
  .inl (4, [some 33, some 35, some 37, some 39, some 41, some 43, some 45]),
  .inl (7, [some 34]),
  .inr (0, 120),
  .inl (7, [some 36]),
  .inr (0, 120),
  .inl (7, [some 38]),
  .inr (0, 120),
  .inl (7, [some 40]),
  .inr (0, 120),
  .inl (7, [some 42]),
  .inr (0, 120),
  .inl (7, [some 44]),
  .inr (0, 120),
  .inl (7, [some 46]),
  .inr (0, 24),
  .inl (2, [some 48, some 50, some 52, some 54, none]),
  .inl (7, [some 49]),
  .inr (0, 6),
  .inl (7, [some 51]),
  .inr (0, 6),
  .inl (7, [some 53]),
  .inr (0, 6),
  .inl (7, [some 55]),
  .inr (0, 6),
  .inl (7, [some 57]),
  .inr (0, 6),
  .inl (7, [some 59]),
  .inr (0, 8),
  .inl (7, [some 61]),
  .inr (0, 8),
  .inl (7, [some 63]),
  .inr (0, 6),
  .inl (7, [some 65]),
  .inr (0, 6),
  .inl (5, [some 1, none, none]),
  .inl (8, [some 1, some 66, some 76, some 68, some 70, some 72, some 74, none, none, none]),
  .inl (7, [some 69]),
  .inr (0, 6),
  .inl (7, [some 71]),
  .inr (0, 30),
  .inl (7, [some 73]),
  .inr (0, 6),
  .inl (7, [some 75]),
  .inr (0, 6),
  .inl (1, [some 1, some 77, some 79]),
  .inl (7, [some 78]),
  .inr (0, 6),
  .inl (7, [some 80]),
  .inr (0, 6),
  .inl (0, [some 1, some 66, some 84, some 82]),
  .inl (7, [some 83]),
  .inr (0, 6),
  .inl (1, [some 1, some 85, some 87]),
  .inl (7, [some 86]),
  .inr (0, 6),
  .inl (7, [some 88]),
  .inr (0, 6),
  .inl (3, [some 90, some 92]),
  .inl (7, [some 91]),
  .inr (0, 6),
  .inl (7, [some 93]),
  .inr (0, 6)]

theorem s_0 : shp[0]? = some (.inl (11, [some 1, some 66, some 67, some 81, some 89])) := rfl
theorem s_1 : shp[1]? = some (.inl (10, [some 2, some 17, some 32, some 47, some 56, some 58, some 60, some 62, some 64, none, none])) := rfl
theorem s_2 : shp[2]? = some (.inl (9, [some 3, some 5, some 7, some 9, some 11, some 13, some 15, none, none, none, none])) := rfl
theorem s_3 : shp[3]? = some (.inl (7, [some 4])) := rfl
theorem s_4 : shp[4]? = some (.inr (0, 24)) := rfl
theorem s_5 : shp[5]? = some (.inl (7, [some 6])) := rfl
theorem s_6 : shp[6]? = some (.inr (0, 24)) := rfl
theorem s_7 : shp[7]? = some (.inl (7, [some 8])) := rfl
theorem s_8 : shp[8]? = some (.inr (0, 24)) := rfl
theorem s_9 : shp[9]? = some (.inl (7, [some 10])) := rfl
theorem s_10 : shp[10]? = some (.inr (0, 24)) := rfl
theorem s_11 : shp[11]? = some (.inl (7, [some 12])) := rfl
theorem s_12 : shp[12]? = some (.inr (0, 72)) := rfl
theorem s_13 : shp[13]? = some (.inl (7, [some 14])) := rfl
theorem s_14 : shp[14]? = some (.inr (0, 24)) := rfl
theorem s_15 : shp[15]? = some (.inl (7, [some 16])) := rfl
theorem s_16 : shp[16]? = some (.inr (0, 6)) := rfl
theorem s_17 : shp[17]? = some (.inl (6, [some 18, some 20, some 22, some 24, some 26, some 28, some 30, none])) := rfl
theorem s_18 : shp[18]? = some (.inl (7, [some 19])) := rfl
theorem s_19 : shp[19]? = some (.inr (0, 30)) := rfl
theorem s_20 : shp[20]? = some (.inl (7, [some 21])) := rfl
theorem s_21 : shp[21]? = some (.inr (0, 30)) := rfl
theorem s_22 : shp[22]? = some (.inl (7, [some 23])) := rfl
theorem s_23 : shp[23]? = some (.inr (0, 30)) := rfl
theorem s_24 : shp[24]? = some (.inl (7, [some 25])) := rfl
theorem s_25 : shp[25]? = some (.inr (0, 30)) := rfl
theorem s_26 : shp[26]? = some (.inl (7, [some 27])) := rfl
theorem s_27 : shp[27]? = some (.inr (0, 30)) := rfl
theorem s_28 : shp[28]? = some (.inl (7, [some 29])) := rfl
theorem s_29 : shp[29]? = some (.inr (0, 30)) := rfl
theorem s_30 : shp[30]? = some (.inl (7, [some 31])) := rfl
theorem s_31 : shp[31]? = some (.inr (0, 30)) := rfl
theorem s_32 : shp[32]? = some (.inl (4, [some 33, some 35, some 37, some 39, some 41, some 43, some 45])) := rfl
theorem s_33 : shp[33]? = some (.inl (7, [some 34])) := rfl
theorem s_34 : shp[34]? = some (.inr (0, 120)) := rfl
theorem s_35 : shp[35]? = some (.inl (7, [some 36])) := rfl
theorem s_36 : shp[36]? = some (.inr (0, 120)) := rfl
theorem s_37 : shp[37]? = some (.inl (7, [some 38])) := rfl
theorem s_38 : shp[38]? = some (.inr (0, 120)) := rfl
theorem s_39 : shp[39]? = some (.inl (7, [some 40])) := rfl
theorem s_40 : shp[40]? = some (.inr (0, 120)) := rfl
theorem s_41 : shp[41]? = some (.inl (7, [some 42])) := rfl
theorem s_42 : shp[42]? = some (.inr (0, 120)) := rfl
theorem s_43 : shp[43]? = some (.inl (7, [some 44])) := rfl
theorem s_44 : shp[44]? = some (.inr (0, 120)) := rfl
theorem s_45 : shp[45]? = some (.inl (7, [some 46])) := rfl
theorem s_46 : shp[46]? = some (.inr (0, 24)) := rfl
theorem s_47 : shp[47]? = some (.inl (2, [some 48, some 50, some 52, some 54, none])) := rfl
theorem s_48 : shp[48]? = some (.inl (7, [some 49])) := rfl
theorem s_49 : shp[49]? = some (.inr (0, 6)) := rfl
theorem s_50 : shp[50]? = some (.inl (7, [some 51])) := rfl
theorem s_51 : shp[51]? = some (.inr (0, 6)) := rfl
theorem s_52 : shp[52]? = some (.inl (7, [some 53])) := rfl
theorem s_53 : shp[53]? = some (.inr (0, 6)) := rfl
theorem s_54 : shp[54]? = some (.inl (7, [some 55])) := rfl
theorem s_55 : shp[55]? = some (.inr (0, 6)) := rfl
theorem s_56 : shp[56]? = some (.inl (7, [some 57])) := rfl
theorem s_57 : shp[57]? = some (.inr (0, 6)) := rfl
theorem s_58 : shp[58]? = some (.inl (7, [some 59])) := rfl
theorem s_59 : shp[59]? = some (.inr (0, 8)) := rfl
theorem s_60 : shp[60]? = some (.inl (7, [some 61])) := rfl
theorem s_61 : shp[61]? = some (.inr (0, 8)) := rfl
theorem s_62 : shp[62]? = some (.inl (7, [some 63])) := rfl
theorem s_63 : shp[63]? = some (.inr (0, 6)) := rfl
theorem s_64 : shp[64]? = some (.inl (7, [some 65])) := rfl
theorem s_65 : shp[65]? = some (.inr (0, 6)) := rfl
theorem s_66 : shp[66]? = some (.inl (5, [some 1, none, none])) := rfl
theorem s_67 : shp[67]? = some (.inl (8, [some 1, some 66, some 76, some 68, some 70, some 72, some 74, none, none, none])) := rfl
theorem s_68 : shp[68]? = some (.inl (7, [some 69])) := rfl
theorem s_69 : shp[69]? = some (.inr (0, 6)) := rfl
theorem s_70 : shp[70]? = some (.inl (7, [some 71])) := rfl
theorem s_71 : shp[71]? = some (.inr (0, 30)) := rfl
theorem s_72 : shp[72]? = some (.inl (7, [some 73])) := rfl
theorem s_73 : shp[73]? = some (.inr (0, 6)) := rfl
theorem s_74 : shp[74]? = some (.inl (7, [some 75])) := rfl
theorem s_75 : shp[75]? = some (.inr (0, 6)) := rfl
theorem s_76 : shp[76]? = some (.inl (1, [some 1, some 77, some 79])) := rfl
theorem s_77 : shp[77]? = some (.inl (7, [some 78])) := rfl
theorem s_78 : shp[78]? = some (.inr (0, 6)) := rfl
theorem s_79 : shp[79]? = some (.inl (7, [some 80])) := rfl
theorem s_80 : shp[80]? = some (.inr (0, 6)) := rfl
theorem s_81 : shp[81]? = some (.inl (0, [some 1, some 66, some 84, some 82])) := rfl
theorem s_82 : shp[82]? = some (.inl (7, [some 83])) := rfl
theorem s_83 : shp[83]? = some (.inr (0, 6)) := rfl
theorem s_84 : shp[84]? = some (.inl (1, [some 1, some 85, some 87])) := rfl
theorem s_85 : shp[85]? = some (.inl (7, [some 86])) := rfl
theorem s_86 : shp[86]? = some (.inr (0, 6)) := rfl
theorem s_87 : shp[87]? = some (.inl (7, [some 88])) := rfl
theorem s_88 : shp[88]? = some (.inr (0, 6)) := rfl
theorem s_89 : shp[89]? = some (.inl (3, [some 90, some 92])) := rfl
theorem s_90 : shp[90]? = some (.inl (7, [some 91])) := rfl
theorem s_91 : shp[91]? = some (.inr (0, 6)) := rfl
theorem s_92 : shp[92]? = some (.inl (7, [some 93])) := rfl
theorem s_93 : shp[93]? = some (.inr (0, 6)) := rfl
def NN (U : State) : Prop := ∀ q ∈ nestL, va_Nw (.methodLinkNest q.1 q.2.1 q.2.2 RX11) U
theorem NN.warm {s U : State} (hW : s.WarmedH U.vm) (h : NN s) : NN U := fun q hq => va_Nw.warmM hW (h q hq)
theorem NN.same {u U : State} (e : u.vm = U.vm) (h : NN u) : NN U := fun q hq => va_Nw.same rfl e (h q hq)
/-! ===== the world at a memory ===== -/
abbrev GX : Type := va_G × ClassId × ClassId × ClassId × (Nat → Nat) × Nat × (Nat → Int64)
abbrev gD (g : GX) : va_G := g.1
abbrev gT (g : GX) : List (ClassId × FieldType) := [(g.2.1, .int)]
abbrev gr (g : GX) : Nat → Nat := g.2.2.2.2.1
abbrev gb (g : GX) : Nat := g.2.2.2.2.2.1
abbrev gt (g : GX) : Nat → Int64 := g.2.2.2.2.2.2
def cv (ρ : Nat → Nat) : Value → Value
  | .ref k => .ref (ρ k)
  | v => v
def sF (ρ : Nat → Nat) (f : Nat → Int32) : Nat → List (Option Nat) → List Value
  | _, [] => []
  | j, some q :: t => .ref (ρ q) :: sF ρ f (j + 1) t
  | j, none :: t => .int (f j) :: sF ρ f (j + 1) t
def sE (g : GX) (σ : Mem) (k : Nat) : SE → va_E
  | .inl o => .inr (o.1, sF (gr g) (σ k) 0 o.2)
  | .inr (0, n) => .inl (g.2.1, n, .inl (σ k))
  | .inr (1, n) => .inl (g.2.2.1, n, .inl (σ k))
  | .inr (_, n) => .inl (g.2.2.2.1, n, .inr (.inl (gt g)))
def wdL (g : GX) (σ : Mem) : Nat → List SE → va_W
  | _, [] => []
  | k, e :: t => (gr g k, sE g σ k e) :: wdL g σ (k + 1) t
def wd (g : GX) (σ : Mem) : va_W := wdL g σ 0 shp
theorem wdL_get (g : GX) (σ : Mem) : ∀ (L : List SE) (b i : Nat), (wdL g σ b L)[i]? = (L[i]?).map fun e => (gr g (b + i), sE g σ (b + i) e)
  | [], b, i => by simp [wdL]
  | e :: t, b, 0 => by simp [wdL]
  | e :: t, b, i + 1 => by
    simp only [wdL, List.getElem?_cons_succ]
    rw [wdL_get g σ t (b + 1) i, show b + 1 + i = b + (i + 1) by omega]
theorem wd_get {g : GX} {σ : Mem} {k : Nat} {e : SE} (h : shp[k]? = some e) : (wd g σ)[k]? = some (gr g k, sE g σ k e) := by
  unfold wd
  rw [wdL_get, h]
  simp
def setA (σ : Mem) (k : Nat) (f : Nat → Int32) : Mem := fun k' => if k' = k then f else σ k'
def up (σ : Mem) (k j : Nat) (x : Int32) : Mem := setA σ k (upd (σ k) j x)
theorem setA_same (σ : Mem) (k : Nat) (f : Nat → Int32) : setA σ k f k = f := by simp [setA]
theorem setA_ne (σ : Mem) {k k' : Nat} (f : Nat → Int32) (h : k' ≠ k) : setA σ k f k' = σ k' := by simp [setA, h]
theorem sE_off {g : GX} {σ : Mem} {k k' : Nat} (f : Nat → Int32) (e : SE) (h : k' ≠ k) : sE g (setA σ k f) k' e = sE g σ k' e := by
  rcases e with o | ⟨t, n⟩
  · simp [sE, setA_ne _ _ h]
  · match t with
    | 0 => simp [sE, setA_ne _ _ h]
    | 1 => simp [sE, setA_ne _ _ h]
    | _ + 2 => simp [sE]
theorem wd_set {g : GX} {σ : Mem} {k : Nat} {e : SE} (f : Nat → Int32) (h : shp[k]? = some e) : (wd g σ).set k (gr g k, sE g (setA σ k f) k e) = wd g (setA σ k f) := by
  apply List.ext_getElem?
  intro i
  rw [List.getElem?_set]
  unfold wd
  rw [wdL_get, wdL_get]
  by_cases hi : k = i
  · subst hi
    have hk : k < (wdL g σ 0 shp).length := by
      have := wdL_get g σ shp 0 k
      rw [h] at this
      exact (List.getElem?_eq_some_iff.mp this).1
    rw [if_pos rfl, if_pos hk, h]
    simp
  · rw [if_neg hi]
    cases hs : shp[i]? with
    | none => rfl
    | some e' => simp [sE_off f e' (fun q => hi q.symm)]
theorem sF_get {ρ : Nat → Nat} {f : Nat → Int32} : ∀ (L : List (Option Nat)) (b i : Nat), (sF ρ f b L)[i]? = (L[i]?).map fun o => match o with
    | some q => Value.ref (ρ q)
    | none => Value.int (f (b + i))
  | [], b, i => by simp [sF]
  | some q :: t, b, 0 => by simp [sF]
  | none :: t, b, 0 => by simp [sF]
  | some q :: t, b, i + 1 => by
    simp only [sF, List.getElem?_cons_succ]
    rw [sF_get t (b + 1) i, show b + 1 + i = b + (i + 1) by omega]
  | none :: t, b, i + 1 => by
    simp only [sF, List.getElem?_cons_succ]
    rw [sF_get t (b + 1) i, show b + 1 + i = b + (i + 1) by omega]
theorem sF_len {ρ : Nat → Nat} {f : Nat → Int32} : ∀ (L : List (Option Nat)) (b : Nat), (sF ρ f b L).length = L.length
  | [], b => rfl
  | some q :: t, b => by simp [sF, sF_len t]
  | none :: t, b => by simp [sF, sF_len t]
theorem sF_set {ρ : Nat → Nat} {f : Nat → Int32} {L : List (Option Nat)} {j : Nat} (x : Int32) (h : L[j]? = some none) : (sF ρ f 0 L).set j (.int x) = sF ρ (upd f j x) 0 L := by
  apply List.ext_getElem?
  intro i
  rw [List.getElem?_set, sF_get, sF_get]
  by_cases hi : j = i
  · subst hi
    have hj : j < (sF ρ f 0 L).length := by rw [sF_len]; exact (List.getElem?_eq_some_iff.mp h).1
    rw [if_pos rfl, if_pos hj, h]
    simp [upd]
  · rw [if_neg hi]
    have hq : 0 + i ≠ j := by omega
    cases hs : L[i]? with
    | none => rfl
    | some o => cases o <;> simp [upd, hq, show i ≠ j by omega]
/-- what a state holds where the system's memory is σ -/
def HO (g : GX) (σ : Mem) (U : State) : Prop := va_P (gD g) vwCl (wd g σ) U.heap ∧ va_K (gD g) vwCl (gT g) U ∧ va_D (fun q => gb g ≤ q) (wd g σ) ∧ NN U
theorem HO.warm {g : GX} {σ : Mem} {s U : State} (hW : s.WarmedH U.vm) (hH : va_P (gD g) vwCl (wd g σ) U.heap) (h : va_K (gD g) vwCl (gT g) s) (hD : va_D (fun q => gb g ≤ q) (wd g σ)) (hN : NN s) : HO g σ U := ⟨hH, va_K.moved hW.alike h, hD, hN.warm hW⟩
theorem HO.blind {g : GX} {σ : Mem} {as : List Value} : FrameBlind (va_Pc as (HO g σ)) := fun a U gg mk q => ⟨q.1, q.2.1, va_K.moved (u := U) (U := U.calling gg mk a) (Vm.Alike.refl U.vm) q.2.2.1, q.2.2.2.1, NN.same rfl q.2.2.2.2⟩
abbrev rmOf (fr lo : Nat) : Room := { frames := fr, cells := 0, slots := 0, locals := lo }
abbrev gA (g : GX) : Nat → Prop := fun q => gb g ≤ q
/-- a method's contract: if its mirror is some r, then it returns r.1, and leaves the memory r.2 -/
def CI (l : Launch) (y : MethodName) (b : ByteArray) (mL : Nat) (ret : Option FieldType) (fr lo : Nat) (as : List Value) (σ : Mem) (oo : Option (Int32 × Mem)) : Prop :=
  ∀ (g : GX) (r : Int32 × Mem), oo = some r → Met l y (.code y b mL ret :: BIG) (rmOf fr lo) (va_Pc (as.map (cv (gr g))) (HO g σ)) (va_Qi (fun v (_ : Unit) => v = r.1) (fun _ t => HO g r.2 t) (gA g)) 0 0 (gA g)
def CV (l : Launch) (y : MethodName) (b : ByteArray) (mL : Nat) (fr lo : Nat) (as : List Value) (σ : Mem) (oo : Option (Int32 × Mem)) : Prop :=
  ∀ (g : GX) (r : Int32 × Mem), oo = some r → Met l y (.code y b mL none :: BIG) (rmOf fr lo) (va_Pc (as.map (cv (gr g))) (HO g σ)) (va_Qv (fun (_ : Unit) => True) (fun _ t => HO g r.2 t) (gA g)) 0 0 (gA g)
/-! ===== the judgement: where the mirror of what is left to do is oo, and this is the r0 that is wanted, the machine comes to Q ===== -/
abbrev AX : Type := Program × Launch × Env × Room × State × MethodId × Array Value × List Frame × Method × Code × GX × (State → Prop) × Nat × Nat
def lvO (ρ : Nat → Nat) (lsA : Array Slot) (ls : List (Option Value)) : Prop := lsA.size = ls.length ∧ lv_wf lsA ∧ ∀ (i : Nat) (v : Value), ls[i]? = some (some v) → lsA[i]? = some (.val (cv ρ v)) ∧ v.category = 1
abbrev aP (X : AX) : Program := X.1
abbrev aL (X : AX) : Launch := X.2.1
abbrev aEn (X : AX) : Env := X.2.2.1
abbrev aR (X : AX) : Room := X.2.2.2.1
abbrev aS (X : AX) : State := X.2.2.2.2.1
abbrev aM (X : AX) : MethodId := X.2.2.2.2.2.1
abbrev aArgs (X : AX) : Array Value := X.2.2.2.2.2.2.1
abbrev aBelow (X : AX) : List Frame := X.2.2.2.2.2.2.2.1
abbrev aMeth (X : AX) : Method := X.2.2.2.2.2.2.2.2.1
abbrev aC (X : AX) : Code := X.2.2.2.2.2.2.2.2.2.1
abbrev aG (X : AX) : GX := X.2.2.2.2.2.2.2.2.2.2.1
abbrev aQ (X : AX) : State → Prop := X.2.2.2.2.2.2.2.2.2.2.2.1
abbrev aCe (X : AX) : Nat := X.2.2.2.2.2.2.2.2.2.2.2.2.1
abbrev aSl (X : AX) : Nat := X.2.2.2.2.2.2.2.2.2.2.2.2.2
def AW (X : AX) (pc : Nat) (ls : List (Option Value)) (st : List Value) (σ : Mem) : Prop :=
  ∀ (H : Heap) (locs : List Loc) (lsA : Array Slot), lvO (gr (aG X)) lsA ls → va_P (gD (aG X)) vwCl (wd (aG X) σ) H → va_D (gA (aG X)) (wd (aG X) σ) → va_S (gA (aG X)) (aS X).heap H locs →
    W (aP X) (aL X) (aEn X) (aR X) (aS X) (aM X) (aArgs X) (aBelow X) (aMeth X) (aC X) H locs (aCe X) (aSl X) (aQ X) (F0 (aM X) pc lsA (st.map (cv (gr (aG X)))))
def AWo {α : Type} (X : AX) (r0 : α) (pc : Nat) (ls : List (Option Value)) (st : List Value) (σ : Mem) (oo : Option α) : Prop := oo = some r0 → AW X pc ls st σ
def CX (X : AX) (cc : ByteArray) (mL : Nat) (own : String) : Prop :=
  (aP X).tables.exec = Jvm.exec ∧ (aC X).code = cc ∧ (aC X).maxLocals = mL ∧ (aS X).vm.findClass own = some (aM X).cls ∧ (∀ w ∈ BIG, w.before (aArgs X) (aS X) = true) ∧ va_K (gD (aG X)) vwCl (gT (aG X)) (aS X) ∧ NN (aS X) ∧ (aMeth X).locks = false ∧ (∀ q, (aS X).heap.size ≤ q → gb (aG X) ≤ q)
def obind {α β : Type} : Option α → (α → Option β) → Option β
  | none, _ => none
  | some a, f => f a
theorem obind_some {α β : Type} (a : α) (f : α → Option β) : obind (some a) f = f a := rfl
theorem obind_of {α β : Type} {oa : Option α} {a : α} (f : α → Option β) (h : oa = some a) : obind oa f = f a := by rw [h]; rfl
theorem obind_inv {α β : Type} {oa : Option α} {f : α → Option β} {b : β} (h : obind oa f = some b) : ∃ a, oa = some a ∧ f a = some b := by
  cases oa with
  | none => cases h
  | some a => exact ⟨a, rfl, h⟩
/-! the reads that a mirror makes -/
def rowA (p : Nat) : Option Nat := match shp[p]? with
  | some (.inl (7, [some q])) => some q
  | _ => none
def arl (a : Nat) : Option Nat := match shp[a]? with
  | some (.inr (0, n)) => some n
  | _ => none
def ald (σ : Mem) (a n : Nat) (i : Int32) : Option Int32 := if i < 0 ∨ n ≤ i.toNatClampNeg then none else some (σ a i.toNatClampNeg)
def ast (σ : Mem) (a n : Nat) (i x : Int32) : Option Mem := if i < 0 ∨ n ≤ i.toNatClampNeg then none else some (up σ a i.toNatClampNeg x)
def zchk (x : Int32) : Option Int32 := if x = 0 then some 0 else if x = 1 then some 1 else none
theorem zchk_some {x y : Int32} (h : zchk x = some y) : y = x ∧ (x = 0 ∨ x = 1) := by
  unfold zchk at h
  by_cases h0 : x = 0
  · rw [if_pos h0] at h
    cases h
    exact ⟨h0.symm, Or.inl h0⟩
  · rw [if_neg h0] at h
    by_cases h1 : x = 1
    · rw [if_pos h1] at h
      cases h
      exact ⟨h1.symm, Or.inr h1⟩
    · rw [if_neg h1] at h
      cases h
theorem ald_some {σ : Mem} {a n : Nat} {i x : Int32} (h : ald σ a n i = some x) : vp_in i n ∧ x = σ a i.toNatClampNeg := by
  unfold ald at h
  by_cases hi : i < 0 ∨ n ≤ i.toNatClampNeg
  · rw [if_pos hi] at h
    cases h
  · rw [if_neg hi] at h
    cases h
    exact ⟨hi, rfl⟩
theorem ast_some {σ σ' : Mem} {a n : Nat} {i x : Int32} (h : ast σ a n i x = some σ') : vp_in i n ∧ σ' = up σ a i.toNatClampNeg x := by
  unfold ast at h
  by_cases hi : i < 0 ∨ n ≤ i.toNatClampNeg
  · rw [if_pos hi] at h
    cases h
  · rw [if_neg hi] at h
    cases h
    exact ⟨hi, rfl⟩
theorem arl_some {a n : Nat} (h : arl a = some n) : shp[a]? = some (.inr (0, n)) := by
  unfold arl at h
  split at h
  · rename_i n' e
    cases h
    exact e
  · cases h
theorem rowA_some {p q : Nat} (h : rowA p = some q) : shp[p]? = some (.inl (7, [some q])) := by
  unfold rowA at h
  split at h
  · rename_i q' e
    cases h
    exact e
  · cases h
/-! ===== locals ===== -/
def lvLst (ρ : Nat → Nat) (ls : List (Option Value)) : List (Nat × Value) := (List.range ls.length).filterMap fun i => ((ls[i]?).join).map fun v => (i, cv ρ v)
theorem cv_cat {ρ : Nat → Nat} (v : Value) : (cv ρ v).category = v.category := by cases v <;> rfl
theorem lvO_has {ρ : Nat → Nat} {lsA : Array Slot} {ls : List (Option Value)} (h : lvO ρ lsA ls) : lv_has lsA ls.length (lvLst ρ ls) := by
  refine ⟨h.1, h.2.1, fun q hq => ?_⟩
  obtain ⟨i, -, hi⟩ := List.mem_filterMap.mp hq
  cases hl : ls[i]? with
  | none => rw [hl] at hi; cases hi
  | some o =>
    cases o with
    | none => rw [hl] at hi; cases hi
    | some v =>
      rw [hl] at hi
      cases hi
      exact (h.2.2 i v hl).1
theorem lvO_put {ρ : Nat → Nat} {lsA' : Array Slot} {ls : List (Option Value)} {i : Nat} {v : Value} (hv : v.category = 1) (hc : ∀ (j : Nat) (u : Value), ls[j]? = some (some u) → u.category = 1) (hi : i < ls.length)
    (h : lv_has lsA' ls.length ((i, cv ρ v) :: (lvLst ρ ls).filter (fun q => !(q.1 == i) && !(q.1 + 1 == i && q.2.category == 2)))) : lvO ρ lsA' (ls.set i (some v)) := by
  refine ⟨by rw [h.1, List.length_set], h.2.1, fun j u hj => ?_⟩
  rw [List.getElem?_set] at hj
  by_cases hij : i = j
  · subst hij
    rw [if_pos rfl, if_pos hi] at hj
    cases hj
    exact ⟨h.2.2 (i, cv ρ v) List.mem_cons_self, hv⟩
  · rw [if_neg hij] at hj
    have hcat := hc j u hj
    refine ⟨h.2.2 (j, cv ρ u) (List.mem_cons_of_mem _ (List.mem_filter.mpr ⟨?_, ?_⟩)), hcat⟩
    · have hjl : j < ls.length := (List.getElem?_eq_some_iff.mp hj).1
      exact List.mem_filterMap.mpr ⟨j, List.mem_range.mpr hjl, by rw [hj]; rfl⟩
    · have h1 : ¬ j = i := fun e => hij e.symm
      simp [h1, cv_cat, hcat]
def lsub : List (Option Value) → List (Option Value) → Prop
  | [], [] => True
  | none :: t, _ :: t' => lsub t t'
  | some v :: t, o :: t' => o = some v ∧ lsub t t'
  | _, _ => False
theorem lsub_len : ∀ {a b : List (Option Value)}, lsub a b → a.length = b.length
  | [], [], _ => rfl
  | none :: t, _ :: t', h => by simp [lsub_len (a := t) (b := t') h]
  | some v :: t, o :: t', h => by simp [lsub_len (a := t) (b := t') h.2]
theorem lsub_get : ∀ {a b : List (Option Value)}, lsub a b → ∀ (i : Nat) (v : Value), a[i]? = some (some v) → b[i]? = some (some v)
  | [], [], _, i, v, hv => by simp at hv
  | none :: t, _ :: t', h, 0, v, hv => by simp at hv
  | none :: t, _ :: t', h, i + 1, v, hv => by simpa using lsub_get (a := t) (b := t') h i v (by simpa using hv)
  | some u :: t, o :: t', h, 0, v, hv => by
    have e : u = v := by simpa using hv
    simp [h.1, e]
  | some u :: t, o :: t', h, i + 1, v, hv => by simpa using lsub_get (a := t) (b := t') h.2 i v (by simpa using hv)
theorem lvO_sub {ρ : Nat → Nat} {lsA : Array Slot} {a b : List (Option Value)} (hs : lsub a b) (h : lvO ρ lsA b) : lvO ρ lsA a := ⟨by rw [h.1, lsub_len hs], h.2.1, fun i v hv => h.2.2 i v (lsub_get hs i v hv)⟩
/-! ===== rows ===== -/
section ROWS
variable {α : Type} {X : AX} {r0 : α} {cc : ByteArray} {mL : Nat} {own : String} {pc pc1 pc2 : Nat} {ls : List (Option Value)} {st : List Value} {σ : Mem} {oo oa ob : Option α}
theorem a_sub {ls' : List (Option Value)} (k : AWo X r0 pc ls' st σ oo) (h : lsub ls' ls) : AWo X r0 pc ls st σ oo := fun ho H locs lsA h1 => k ho H locs lsA (lvO_sub h h1)
theorem a_none : AWo X r0 pc ls st σ (none : Option α) := fun ho => by cases ho
theorem a_iln {i : Nat} {k4 : Fin 4} {x : Int32} (hX : CX X cc mL own) (d : decode cc pc = .ok (.iload_n k4, 1)) (hi : (k4 : Nat) = i) (hl : ls[i]? = some (some (.int x))) (hp : pc + 1 = pc1) (k : AWo X r0 pc1 ls (.int x :: st) σ oo) : AWo X r0 pc ls st σ oo := fun ho H locs lsA h1 h2 h3 h4 => by
  subst hp
  exact lv_iload_n hX.1 hX.2.1 d hi (h1.2.2 i _ hl).1 (k ho H locs lsA h1 h2 h3 h4)
theorem a_ilw {i : Nat} {x : Int32} (hX : CX X cc mL own) (d : decode cc pc = .ok (.iload i, 2)) (hl : ls[i]? = some (some (.int x))) (hp : pc + 2 = pc1) (k : AWo X r0 pc1 ls (.int x :: st) σ oo) : AWo X r0 pc ls st σ oo := fun ho H locs lsA h1 h2 h3 h4 => by
  subst hp
  exact lv_iload hX.1 hX.2.1 d (h1.2.2 i _ hl).1 (k ho H locs lsA h1 h2 h3 h4)
theorem a_aln {i : Nat} {k4 : Fin 4} {x : Nat} (hX : CX X cc mL own) (d : decode cc pc = .ok (.aload_n k4, 1)) (hi : (k4 : Nat) = i) (hl : ls[i]? = some (some (.ref x))) (hp : pc + 1 = pc1) (k : AWo X r0 pc1 ls (.ref x :: st) σ oo) : AWo X r0 pc ls st σ oo := fun ho H locs lsA h1 h2 h3 h4 => by
  subst hp
  exact lv_aload_n (x := gr (aG X) x) hX.1 hX.2.1 d hi (h1.2.2 i _ hl).1 (k ho H locs lsA h1 h2 h3 h4)
theorem a_alw {i : Nat} {x : Nat} (hX : CX X cc mL own) (d : decode cc pc = .ok (.aload i, 2)) (hl : ls[i]? = some (some (.ref x))) (hp : pc + 2 = pc1) (k : AWo X r0 pc1 ls (.ref x :: st) σ oo) : AWo X r0 pc ls st σ oo := fun ho H locs lsA h1 h2 h3 h4 => by
  subst hp
  exact lv_aload (x := gr (aG X) x) hX.1 hX.2.1 d (h1.2.2 i _ hl).1 (k ho H locs lsA h1 h2 h3 h4)
theorem lvO_cat {ρ : Nat → Nat} {lsA : Array Slot} (h : lvO ρ lsA ls) : ∀ (j : Nat) (u : Value), ls[j]? = some (some u) → u.category = 1 := fun j u hj => (h.2.2 j u hj).2
theorem a_isn {i : Nat} {k4 : Fin 4} {x : Int32} (hX : CX X cc mL own) (d : decode cc pc = .ok (.istore_n k4, 1)) (hi : (k4 : Nat) = i) (hn : i < ls.length) (hp : pc + 1 = pc1) (k : AWo X r0 pc1 (ls.set i (some (.int x))) st σ oo) : AWo X r0 pc ls (.int x :: st) σ oo := fun ho H locs lsA h1 h2 h3 h4 => by
  subst hp
  exact lv_istore_n hX.1 hX.2.1 d hi (lvO_has h1) hn rfl (fun ls' hl' => k ho H locs ls' (lvO_put (v := .int x) rfl (lvO_cat h1) hn hl') h2 h3 h4)
theorem a_isw {i : Nat} {x : Int32} (hX : CX X cc mL own) (d : decode cc pc = .ok (.istore i, 2)) (hn : i < ls.length) (hp : pc + 2 = pc1) (k : AWo X r0 pc1 (ls.set i (some (.int x))) st σ oo) : AWo X r0 pc ls (.int x :: st) σ oo := fun ho H locs lsA h1 h2 h3 h4 => by
  subst hp
  exact lv_istore hX.1 hX.2.1 d (lvO_has h1) hn rfl (fun ls' hl' => k ho H locs ls' (lvO_put (v := .int x) rfl (lvO_cat h1) hn hl') h2 h3 h4)
theorem lvLst_mem {ρ : Nat → Nat} {i : Nat} {v : Value} (h : ls[i]? = some (some v)) : ∃ k : Nat, (lvLst ρ ls)[k]? = some (i, cv ρ v) := by
  have hjl : i < ls.length := (List.getElem?_eq_some_iff.mp h).1
  exact List.getElem?_of_mem (List.mem_filterMap.mpr ⟨i, List.mem_range.mpr hjl, by rw [h]; rfl⟩)
theorem a_incw {i : Nat} {x v : Int32} {n : Int} (hX : CX X cc mL own) (d : decode cc pc = .ok (.iinc i n, 3)) (hl : ls[i]? = some (some (.int x))) (hn : i < ls.length) (hv : Int32.ofInt n = v) (hp : pc + 3 = pc1) (k : AWo X r0 pc1 (ls.set i (some (.int (x + v)))) st σ oo) : AWo X r0 pc ls st σ oo := fun ho H locs lsA h1 h2 h3 h4 => by
  subst hp; subst hv
  obtain ⟨k9, hk9⟩ := lvLst_mem (ρ := gr (aG X)) hl
  exact lv_iinc hX.1 hX.2.1 d (lvO_has h1) hk9 rfl hn rfl (fun ls' hl' => k ho H locs ls' (lvO_put (v := .int (x + Int32.ofInt n)) rfl (lvO_cat h1) hn hl') h2 h3 h4)
theorem a_ic {n : Int} (v : Int32) (hX : CX X cc mL own) (d : decode cc pc = .ok (.iconst n, 1)) (hv : Int32.ofInt n = v) (hp : pc + 1 = pc1) (k : AWo X r0 pc1 ls (.int v :: st) σ oo) : AWo X r0 pc ls st σ oo := fun ho H locs lsA h1 h2 h3 h4 => by
  subst hp
  exact lv_iconst hX.1 hX.2.1 d hv (k ho H locs lsA h1 h2 h3 h4)
theorem a_bi {n : Int} (v : Int32) (hX : CX X cc mL own) (d : decode cc pc = .ok (.bipush n, 2)) (hv : (Int8.ofInt n).toInt32 = v) (hp : pc + 2 = pc1) (k : AWo X r0 pc1 ls (.int v :: st) σ oo) : AWo X r0 pc ls st σ oo := fun ho H locs lsA h1 h2 h3 h4 => by
  subst hp
  exact lv_bipush hX.1 hX.2.1 d hv (k ho H locs lsA h1 h2 h3 h4)
theorem a_si {n : Int} (v : Int32) (hX : CX X cc mL own) (d : decode cc pc = .ok (.sipush n, 3)) (hv : (Int16.ofInt n).toInt32 = v) (hp : pc + 3 = pc1) (k : AWo X r0 pc1 ls (.int v :: st) σ oo) : AWo X r0 pc ls st σ oo := fun ho H locs lsA h1 h2 h3 h4 => by
  subst hp
  exact lv_sipush hX.1 hX.2.1 d hv (k ho H locs lsA h1 h2 h3 h4)
theorem a_ldc {idx : Nat} (v : Int32) (hX : CX X cc mL own) (hc : Cond.constant own idx v ∈ BIG) (d : decode cc pc = .ok (.ldc idx, 2)) (hp : pc + 2 = pc1) (k : AWo X r0 pc1 ls (.int v :: st) σ oo) : AWo X r0 pc ls st σ oo := fun ho H locs lsA h1 h2 h3 h4 => by
  subst hp
  exact lv_ldc hX.1 hX.2.1 hX.2.2.2.1 (hX.2.2.2.2.1 _ hc) d (k ho H locs lsA h1 h2 h3 h4)
theorem a_ldcw {idx : Nat} (v : Int32) (hX : CX X cc mL own) (hc : Cond.constant own idx v ∈ BIG) (d : decode cc pc = .ok (.ldc_w idx, 3)) (hp : pc + 3 = pc1) (k : AWo X r0 pc1 ls (.int v :: st) σ oo) : AWo X r0 pc ls st σ oo := fun ho H locs lsA h1 h2 h3 h4 => by
  subst hp
  exact lv_ldcw hX.1 hX.2.1 hX.2.2.2.1 (hX.2.2.2.2.1 _ hc) d (k ho H locs lsA h1 h2 h3 h4)
theorem a_iadd {x y : Int32} (hX : CX X cc mL own) (d : decode cc pc = .ok (.iadd, 1)) (hp : pc + 1 = pc1) (k : AWo X r0 pc1 ls (.int (x + y) :: st) σ oo) : AWo X r0 pc ls (.int y :: .int x :: st) σ oo := fun ho H locs lsA h1 h2 h3 h4 => by
  subst hp
  exact lv_iadd hX.1 hX.2.1 d (k ho H locs lsA h1 h2 h3 h4)
theorem a_isub {x y : Int32} (hX : CX X cc mL own) (d : decode cc pc = .ok (.isub, 1)) (hp : pc + 1 = pc1) (k : AWo X r0 pc1 ls (.int (x - y) :: st) σ oo) : AWo X r0 pc ls (.int y :: .int x :: st) σ oo := fun ho H locs lsA h1 h2 h3 h4 => by
  subst hp
  exact lv_isub hX.1 hX.2.1 d (k ho H locs lsA h1 h2 h3 h4)
theorem a_imul {x y : Int32} (hX : CX X cc mL own) (d : decode cc pc = .ok (.imul, 1)) (hp : pc + 1 = pc1) (k : AWo X r0 pc1 ls (.int (x * y) :: st) σ oo) : AWo X r0 pc ls (.int y :: .int x :: st) σ oo := fun ho H locs lsA h1 h2 h3 h4 => by
  subst hp
  exact lv_imul hX.1 hX.2.1 d (k ho H locs lsA h1 h2 h3 h4)
theorem a_iand {x y : Int32} (hX : CX X cc mL own) (d : decode cc pc = .ok (.iand, 1)) (hp : pc + 1 = pc1) (k : AWo X r0 pc1 ls (.int (x &&& y) :: st) σ oo) : AWo X r0 pc ls (.int y :: .int x :: st) σ oo := fun ho H locs lsA h1 h2 h3 h4 => by
  subst hp
  exact lv_iand hX.1 hX.2.1 d (k ho H locs lsA h1 h2 h3 h4)
theorem a_ior {x y : Int32} (hX : CX X cc mL own) (d : decode cc pc = .ok (.ior, 1)) (hp : pc + 1 = pc1) (k : AWo X r0 pc1 ls (.int (x ||| y) :: st) σ oo) : AWo X r0 pc ls (.int y :: .int x :: st) σ oo := fun ho H locs lsA h1 h2 h3 h4 => by
  subst hp
  exact lv_ior hX.1 hX.2.1 d (k ho H locs lsA h1 h2 h3 h4)
theorem a_ixor {x y : Int32} (hX : CX X cc mL own) (d : decode cc pc = .ok (.ixor, 1)) (hp : pc + 1 = pc1) (k : AWo X r0 pc1 ls (.int (x ^^^ y) :: st) σ oo) : AWo X r0 pc ls (.int y :: .int x :: st) σ oo := fun ho H locs lsA h1 h2 h3 h4 => by
  subst hp
  exact lv_ixor hX.1 hX.2.1 d (k ho H locs lsA h1 h2 h3 h4)
theorem a_ishl {x y : Int32} (hX : CX X cc mL own) (d : decode cc pc = .ok (.ishl, 1)) (hp : pc + 1 = pc1) (k : AWo X r0 pc1 ls (.int (x <<< (y &&& 31)) :: st) σ oo) : AWo X r0 pc ls (.int y :: .int x :: st) σ oo := fun ho H locs lsA h1 h2 h3 h4 => by
  subst hp
  exact lv_ishl hX.1 hX.2.1 d (k ho H locs lsA h1 h2 h3 h4)
theorem a_ishr {x y : Int32} (hX : CX X cc mL own) (d : decode cc pc = .ok (.ishr, 1)) (hp : pc + 1 = pc1) (k : AWo X r0 pc1 ls (.int (x >>> (y &&& 31)) :: st) σ oo) : AWo X r0 pc ls (.int y :: .int x :: st) σ oo := fun ho H locs lsA h1 h2 h3 h4 => by
  subst hp
  exact lv_ishr hX.1 hX.2.1 d (k ho H locs lsA h1 h2 h3 h4)
def ushr (x y : Int32) : Int32 := (x.toUInt32 >>> (y.toUInt32 &&& Int32.toUInt32 31)).toInt32
theorem a_iushr {x y : Int32} (hX : CX X cc mL own) (d : decode cc pc = .ok (.iushr, 1)) (hp : pc + 1 = pc1) (k : AWo X r0 pc1 ls (.int (ushr x y) :: st) σ oo) : AWo X r0 pc ls (.int y :: .int x :: st) σ oo := fun ho H locs lsA h1 h2 h3 h4 => by
  subst hp
  exact lv_iushr hX.1 hX.2.1 d rfl (k ho H locs lsA h1 h2 h3 h4)
theorem a_irem {x y : Int32} (hX : CX X cc mL own) (d : decode cc pc = .ok (.irem, 1)) (hne : ¬ y = 0) (hp : pc + 1 = pc1) (k : AWo X r0 pc1 ls (.int (x - x / y * y) :: st) σ oo) : AWo X r0 pc ls (.int y :: .int x :: st) σ oo := fun ho H locs lsA h1 h2 h3 h4 => by
  subst hp
  exact lv_irem hX.1 hX.2.1 d hne (k ho H locs lsA h1 h2 h3 h4)
theorem a_idiv {x y : Int32} (hX : CX X cc mL own) (d : decode cc pc = .ok (.idiv, 1)) (hne : ¬ y = 0) (hp : pc + 1 = pc1) (k : AWo X r0 pc1 ls (.int (x / y) :: st) σ oo) : AWo X r0 pc ls (.int y :: .int x :: st) σ oo := fun ho H locs lsA h1 h2 h3 h4 => by
  subst hp
  exact lv_idiv hX.1 hX.2.1 d hne (k ho H locs lsA h1 h2 h3 h4)
theorem a_dup {v : Value} (hX : CX X cc mL own) (d : decode cc pc = .ok (.dup, 1)) (hv : v.category = 1) (hp : pc + 1 = pc1) (k : AWo X r0 pc1 ls (v :: v :: st) σ oo) : AWo X r0 pc ls (v :: st) σ oo := fun ho H locs lsA h1 h2 h3 h4 => by
  subst hp
  exact lv_dup hX.1 hX.2.1 d (by rw [cv_cat]; exact hv) (k ho H locs lsA h1 h2 h3 h4)
theorem a_dup2 {v u : Value} (hX : CX X cc mL own) (d : decode cc pc = .ok (.dup2, 1)) (hv : v.category = 1) (hu : u.category = 1) (hp : pc + 1 = pc1) (k : AWo X r0 pc1 ls (v :: u :: v :: u :: st) σ oo) : AWo X r0 pc ls (v :: u :: st) σ oo := fun ho H locs lsA h1 h2 h3 h4 => by
  subst hp
  exact lv_dup2_11 hX.1 hX.2.1 d (by rw [cv_cat]; exact hv) (by rw [cv_cat]; exact hu) (k ho H locs lsA h1 h2 h3 h4)
theorem a_pop {v : Value} (hX : CX X cc mL own) (d : decode cc pc = .ok (.pop, 1)) (hv : v.category = 1) (hp : pc + 1 = pc1) (k : AWo X r0 pc1 ls st σ oo) : AWo X r0 pc ls (v :: st) σ oo := fun ho H locs lsA h1 h2 h3 h4 => by
  subst hp
  exact lv_pop hX.1 hX.2.1 d (by rw [cv_cat]; exact hv) (k ho H locs lsA h1 h2 h3 h4)
theorem a_goto {off : Int} (hX : CX X cc mL own) (d : decode cc pc = .ok (.goto off, 3)) (ht : (pc : Int) + off = (pc1 : Int)) (k : AWo X r0 pc1 ls st σ oo) : AWo X r0 pc ls st σ oo := fun ho H locs lsA h1 h2 h3 h4 =>
  lv_goto hX.1 hX.2.1 d ht (k ho H locs lsA h1 h2 h3 h4)
end ROWS

theorem a_il0 {α : Type} {X : AX} {r0 : α} {cc : ByteArray} {mL : Nat} {own : String} {pc pc1 : Nat} {st : List Value} {σ : Mem} {oo : Option α} {t : List (Option Value)} {x : Int32} (hX : CX X cc mL own) (d : decode cc pc = .ok (.iload_n 0, 1)) (hp : pc + 1 = pc1) (k : AWo X r0 pc1 (some (.int x) :: t) (.int x :: st) σ oo) : AWo X r0 pc (some (.int x) :: t) st σ oo := a_iln (i := 0) hX d rfl rfl hp k
theorem a_al0 {α : Type} {X : AX} {r0 : α} {cc : ByteArray} {mL : Nat} {own : String} {pc pc1 : Nat} {st : List Value} {σ : Mem} {oo : Option α} {t : List (Option Value)} {x : Nat} (hX : CX X cc mL own) (d : decode cc pc = .ok (.aload_n 0, 1)) (hp : pc + 1 = pc1) (k : AWo X r0 pc1 (some (.ref x) :: t) (.ref x :: st) σ oo) : AWo X r0 pc (some (.ref x) :: t) st σ oo := a_aln (i := 0) hX d rfl rfl hp k
theorem a_is0 {α : Type} {X : AX} {r0 : α} {cc : ByteArray} {mL : Nat} {own : String} {pc pc1 : Nat} {st : List Value} {σ : Mem} {oo : Option α} {ai : Option Value} {t : List (Option Value)} {x : Int32} (hX : CX X cc mL own) (d : decode cc pc = .ok (.istore_n 0, 1)) (hp : pc + 1 = pc1) (k : AWo X r0 pc1 (some (.int x) :: t) st σ oo) : AWo X r0 pc (ai :: t) (.int x :: st) σ oo := a_isn (i := 0) hX d rfl (by simp) hp k
theorem a_inc0 {α : Type} {X : AX} {r0 : α} {cc : ByteArray} {mL : Nat} {own : String} {pc pc1 : Nat} {st : List Value} {σ : Mem} {oo : Option α} {t : List (Option Value)} {x : Int32} {n : Int} (v : Int32) (hX : CX X cc mL own) (d : decode cc pc = .ok (.iinc 0 n, 3)) (hv : Int32.ofInt n = v) (hp : pc + 3 = pc1) (k : AWo X r0 pc1 (some (.int (x + v)) :: t) st σ oo) : AWo X r0 pc (some (.int x) :: t) st σ oo := a_incw (i := 0) hX d rfl (by simp) hv hp k
theorem a_il1 {α : Type} {X : AX} {r0 : α} {cc : ByteArray} {mL : Nat} {own : String} {pc pc1 : Nat} {st : List Value} {σ : Mem} {oo : Option α} {a0 : Option Value} {t : List (Option Value)} {x : Int32} (hX : CX X cc mL own) (d : decode cc pc = .ok (.iload_n 1, 1)) (hp : pc + 1 = pc1) (k : AWo X r0 pc1 (a0 :: some (.int x) :: t) (.int x :: st) σ oo) : AWo X r0 pc (a0 :: some (.int x) :: t) st σ oo := a_iln (i := 1) hX d rfl rfl hp k
theorem a_al1 {α : Type} {X : AX} {r0 : α} {cc : ByteArray} {mL : Nat} {own : String} {pc pc1 : Nat} {st : List Value} {σ : Mem} {oo : Option α} {a0 : Option Value} {t : List (Option Value)} {x : Nat} (hX : CX X cc mL own) (d : decode cc pc = .ok (.aload_n 1, 1)) (hp : pc + 1 = pc1) (k : AWo X r0 pc1 (a0 :: some (.ref x) :: t) (.ref x :: st) σ oo) : AWo X r0 pc (a0 :: some (.ref x) :: t) st σ oo := a_aln (i := 1) hX d rfl rfl hp k
theorem a_is1 {α : Type} {X : AX} {r0 : α} {cc : ByteArray} {mL : Nat} {own : String} {pc pc1 : Nat} {st : List Value} {σ : Mem} {oo : Option α} {a0 : Option Value} {ai : Option Value} {t : List (Option Value)} {x : Int32} (hX : CX X cc mL own) (d : decode cc pc = .ok (.istore_n 1, 1)) (hp : pc + 1 = pc1) (k : AWo X r0 pc1 (a0 :: some (.int x) :: t) st σ oo) : AWo X r0 pc (a0 :: ai :: t) (.int x :: st) σ oo := a_isn (i := 1) hX d rfl (by simp) hp k
theorem a_inc1 {α : Type} {X : AX} {r0 : α} {cc : ByteArray} {mL : Nat} {own : String} {pc pc1 : Nat} {st : List Value} {σ : Mem} {oo : Option α} {a0 : Option Value} {t : List (Option Value)} {x : Int32} {n : Int} (v : Int32) (hX : CX X cc mL own) (d : decode cc pc = .ok (.iinc 1 n, 3)) (hv : Int32.ofInt n = v) (hp : pc + 3 = pc1) (k : AWo X r0 pc1 (a0 :: some (.int (x + v)) :: t) st σ oo) : AWo X r0 pc (a0 :: some (.int x) :: t) st σ oo := a_incw (i := 1) hX d rfl (by simp) hv hp k
theorem a_il2 {α : Type} {X : AX} {r0 : α} {cc : ByteArray} {mL : Nat} {own : String} {pc pc1 : Nat} {st : List Value} {σ : Mem} {oo : Option α} {a0 a1 : Option Value} {t : List (Option Value)} {x : Int32} (hX : CX X cc mL own) (d : decode cc pc = .ok (.iload_n 2, 1)) (hp : pc + 1 = pc1) (k : AWo X r0 pc1 (a0 :: a1 :: some (.int x) :: t) (.int x :: st) σ oo) : AWo X r0 pc (a0 :: a1 :: some (.int x) :: t) st σ oo := a_iln (i := 2) hX d rfl rfl hp k
theorem a_al2 {α : Type} {X : AX} {r0 : α} {cc : ByteArray} {mL : Nat} {own : String} {pc pc1 : Nat} {st : List Value} {σ : Mem} {oo : Option α} {a0 a1 : Option Value} {t : List (Option Value)} {x : Nat} (hX : CX X cc mL own) (d : decode cc pc = .ok (.aload_n 2, 1)) (hp : pc + 1 = pc1) (k : AWo X r0 pc1 (a0 :: a1 :: some (.ref x) :: t) (.ref x :: st) σ oo) : AWo X r0 pc (a0 :: a1 :: some (.ref x) :: t) st σ oo := a_aln (i := 2) hX d rfl rfl hp k
theorem a_is2 {α : Type} {X : AX} {r0 : α} {cc : ByteArray} {mL : Nat} {own : String} {pc pc1 : Nat} {st : List Value} {σ : Mem} {oo : Option α} {a0 a1 : Option Value} {ai : Option Value} {t : List (Option Value)} {x : Int32} (hX : CX X cc mL own) (d : decode cc pc = .ok (.istore_n 2, 1)) (hp : pc + 1 = pc1) (k : AWo X r0 pc1 (a0 :: a1 :: some (.int x) :: t) st σ oo) : AWo X r0 pc (a0 :: a1 :: ai :: t) (.int x :: st) σ oo := a_isn (i := 2) hX d rfl (by simp) hp k
theorem a_inc2 {α : Type} {X : AX} {r0 : α} {cc : ByteArray} {mL : Nat} {own : String} {pc pc1 : Nat} {st : List Value} {σ : Mem} {oo : Option α} {a0 a1 : Option Value} {t : List (Option Value)} {x : Int32} {n : Int} (v : Int32) (hX : CX X cc mL own) (d : decode cc pc = .ok (.iinc 2 n, 3)) (hv : Int32.ofInt n = v) (hp : pc + 3 = pc1) (k : AWo X r0 pc1 (a0 :: a1 :: some (.int (x + v)) :: t) st σ oo) : AWo X r0 pc (a0 :: a1 :: some (.int x) :: t) st σ oo := a_incw (i := 2) hX d rfl (by simp) hv hp k
theorem a_il3 {α : Type} {X : AX} {r0 : α} {cc : ByteArray} {mL : Nat} {own : String} {pc pc1 : Nat} {st : List Value} {σ : Mem} {oo : Option α} {a0 a1 a2 : Option Value} {t : List (Option Value)} {x : Int32} (hX : CX X cc mL own) (d : decode cc pc = .ok (.iload_n 3, 1)) (hp : pc + 1 = pc1) (k : AWo X r0 pc1 (a0 :: a1 :: a2 :: some (.int x) :: t) (.int x :: st) σ oo) : AWo X r0 pc (a0 :: a1 :: a2 :: some (.int x) :: t) st σ oo := a_iln (i := 3) hX d rfl rfl hp k
theorem a_al3 {α : Type} {X : AX} {r0 : α} {cc : ByteArray} {mL : Nat} {own : String} {pc pc1 : Nat} {st : List Value} {σ : Mem} {oo : Option α} {a0 a1 a2 : Option Value} {t : List (Option Value)} {x : Nat} (hX : CX X cc mL own) (d : decode cc pc = .ok (.aload_n 3, 1)) (hp : pc + 1 = pc1) (k : AWo X r0 pc1 (a0 :: a1 :: a2 :: some (.ref x) :: t) (.ref x :: st) σ oo) : AWo X r0 pc (a0 :: a1 :: a2 :: some (.ref x) :: t) st σ oo := a_aln (i := 3) hX d rfl rfl hp k
theorem a_is3 {α : Type} {X : AX} {r0 : α} {cc : ByteArray} {mL : Nat} {own : String} {pc pc1 : Nat} {st : List Value} {σ : Mem} {oo : Option α} {a0 a1 a2 : Option Value} {ai : Option Value} {t : List (Option Value)} {x : Int32} (hX : CX X cc mL own) (d : decode cc pc = .ok (.istore_n 3, 1)) (hp : pc + 1 = pc1) (k : AWo X r0 pc1 (a0 :: a1 :: a2 :: some (.int x) :: t) st σ oo) : AWo X r0 pc (a0 :: a1 :: a2 :: ai :: t) (.int x :: st) σ oo := a_isn (i := 3) hX d rfl (by simp) hp k
theorem a_inc3 {α : Type} {X : AX} {r0 : α} {cc : ByteArray} {mL : Nat} {own : String} {pc pc1 : Nat} {st : List Value} {σ : Mem} {oo : Option α} {a0 a1 a2 : Option Value} {t : List (Option Value)} {x : Int32} {n : Int} (v : Int32) (hX : CX X cc mL own) (d : decode cc pc = .ok (.iinc 3 n, 3)) (hv : Int32.ofInt n = v) (hp : pc + 3 = pc1) (k : AWo X r0 pc1 (a0 :: a1 :: a2 :: some (.int (x + v)) :: t) st σ oo) : AWo X r0 pc (a0 :: a1 :: a2 :: some (.int x) :: t) st σ oo := a_incw (i := 3) hX d rfl (by simp) hv hp k
theorem a_il4 {α : Type} {X : AX} {r0 : α} {cc : ByteArray} {mL : Nat} {own : String} {pc pc1 : Nat} {st : List Value} {σ : Mem} {oo : Option α} {a0 a1 a2 a3 : Option Value} {t : List (Option Value)} {x : Int32} (hX : CX X cc mL own) (d : decode cc pc = .ok (.iload 4, 2)) (hp : pc + 2 = pc1) (k : AWo X r0 pc1 (a0 :: a1 :: a2 :: a3 :: some (.int x) :: t) (.int x :: st) σ oo) : AWo X r0 pc (a0 :: a1 :: a2 :: a3 :: some (.int x) :: t) st σ oo := a_ilw (i := 4) hX d rfl hp k
theorem a_al4 {α : Type} {X : AX} {r0 : α} {cc : ByteArray} {mL : Nat} {own : String} {pc pc1 : Nat} {st : List Value} {σ : Mem} {oo : Option α} {a0 a1 a2 a3 : Option Value} {t : List (Option Value)} {x : Nat} (hX : CX X cc mL own) (d : decode cc pc = .ok (.aload 4, 2)) (hp : pc + 2 = pc1) (k : AWo X r0 pc1 (a0 :: a1 :: a2 :: a3 :: some (.ref x) :: t) (.ref x :: st) σ oo) : AWo X r0 pc (a0 :: a1 :: a2 :: a3 :: some (.ref x) :: t) st σ oo := a_alw (i := 4) hX d rfl hp k
theorem a_is4 {α : Type} {X : AX} {r0 : α} {cc : ByteArray} {mL : Nat} {own : String} {pc pc1 : Nat} {st : List Value} {σ : Mem} {oo : Option α} {a0 a1 a2 a3 : Option Value} {ai : Option Value} {t : List (Option Value)} {x : Int32} (hX : CX X cc mL own) (d : decode cc pc = .ok (.istore 4, 2)) (hp : pc + 2 = pc1) (k : AWo X r0 pc1 (a0 :: a1 :: a2 :: a3 :: some (.int x) :: t) st σ oo) : AWo X r0 pc (a0 :: a1 :: a2 :: a3 :: ai :: t) (.int x :: st) σ oo := a_isw (i := 4) hX d (by simp) hp k
theorem a_inc4 {α : Type} {X : AX} {r0 : α} {cc : ByteArray} {mL : Nat} {own : String} {pc pc1 : Nat} {st : List Value} {σ : Mem} {oo : Option α} {a0 a1 a2 a3 : Option Value} {t : List (Option Value)} {x : Int32} {n : Int} (v : Int32) (hX : CX X cc mL own) (d : decode cc pc = .ok (.iinc 4 n, 3)) (hv : Int32.ofInt n = v) (hp : pc + 3 = pc1) (k : AWo X r0 pc1 (a0 :: a1 :: a2 :: a3 :: some (.int (x + v)) :: t) st σ oo) : AWo X r0 pc (a0 :: a1 :: a2 :: a3 :: some (.int x) :: t) st σ oo := a_incw (i := 4) hX d rfl (by simp) hv hp k
theorem a_il5 {α : Type} {X : AX} {r0 : α} {cc : ByteArray} {mL : Nat} {own : String} {pc pc1 : Nat} {st : List Value} {σ : Mem} {oo : Option α} {a0 a1 a2 a3 a4 : Option Value} {t : List (Option Value)} {x : Int32} (hX : CX X cc mL own) (d : decode cc pc = .ok (.iload 5, 2)) (hp : pc + 2 = pc1) (k : AWo X r0 pc1 (a0 :: a1 :: a2 :: a3 :: a4 :: some (.int x) :: t) (.int x :: st) σ oo) : AWo X r0 pc (a0 :: a1 :: a2 :: a3 :: a4 :: some (.int x) :: t) st σ oo := a_ilw (i := 5) hX d rfl hp k
theorem a_al5 {α : Type} {X : AX} {r0 : α} {cc : ByteArray} {mL : Nat} {own : String} {pc pc1 : Nat} {st : List Value} {σ : Mem} {oo : Option α} {a0 a1 a2 a3 a4 : Option Value} {t : List (Option Value)} {x : Nat} (hX : CX X cc mL own) (d : decode cc pc = .ok (.aload 5, 2)) (hp : pc + 2 = pc1) (k : AWo X r0 pc1 (a0 :: a1 :: a2 :: a3 :: a4 :: some (.ref x) :: t) (.ref x :: st) σ oo) : AWo X r0 pc (a0 :: a1 :: a2 :: a3 :: a4 :: some (.ref x) :: t) st σ oo := a_alw (i := 5) hX d rfl hp k
theorem a_is5 {α : Type} {X : AX} {r0 : α} {cc : ByteArray} {mL : Nat} {own : String} {pc pc1 : Nat} {st : List Value} {σ : Mem} {oo : Option α} {a0 a1 a2 a3 a4 : Option Value} {ai : Option Value} {t : List (Option Value)} {x : Int32} (hX : CX X cc mL own) (d : decode cc pc = .ok (.istore 5, 2)) (hp : pc + 2 = pc1) (k : AWo X r0 pc1 (a0 :: a1 :: a2 :: a3 :: a4 :: some (.int x) :: t) st σ oo) : AWo X r0 pc (a0 :: a1 :: a2 :: a3 :: a4 :: ai :: t) (.int x :: st) σ oo := a_isw (i := 5) hX d (by simp) hp k
theorem a_inc5 {α : Type} {X : AX} {r0 : α} {cc : ByteArray} {mL : Nat} {own : String} {pc pc1 : Nat} {st : List Value} {σ : Mem} {oo : Option α} {a0 a1 a2 a3 a4 : Option Value} {t : List (Option Value)} {x : Int32} {n : Int} (v : Int32) (hX : CX X cc mL own) (d : decode cc pc = .ok (.iinc 5 n, 3)) (hv : Int32.ofInt n = v) (hp : pc + 3 = pc1) (k : AWo X r0 pc1 (a0 :: a1 :: a2 :: a3 :: a4 :: some (.int (x + v)) :: t) st σ oo) : AWo X r0 pc (a0 :: a1 :: a2 :: a3 :: a4 :: some (.int x) :: t) st σ oo := a_incw (i := 5) hX d rfl (by simp) hv hp k
theorem a_il6 {α : Type} {X : AX} {r0 : α} {cc : ByteArray} {mL : Nat} {own : String} {pc pc1 : Nat} {st : List Value} {σ : Mem} {oo : Option α} {a0 a1 a2 a3 a4 a5 : Option Value} {t : List (Option Value)} {x : Int32} (hX : CX X cc mL own) (d : decode cc pc = .ok (.iload 6, 2)) (hp : pc + 2 = pc1) (k : AWo X r0 pc1 (a0 :: a1 :: a2 :: a3 :: a4 :: a5 :: some (.int x) :: t) (.int x :: st) σ oo) : AWo X r0 pc (a0 :: a1 :: a2 :: a3 :: a4 :: a5 :: some (.int x) :: t) st σ oo := a_ilw (i := 6) hX d rfl hp k
theorem a_al6 {α : Type} {X : AX} {r0 : α} {cc : ByteArray} {mL : Nat} {own : String} {pc pc1 : Nat} {st : List Value} {σ : Mem} {oo : Option α} {a0 a1 a2 a3 a4 a5 : Option Value} {t : List (Option Value)} {x : Nat} (hX : CX X cc mL own) (d : decode cc pc = .ok (.aload 6, 2)) (hp : pc + 2 = pc1) (k : AWo X r0 pc1 (a0 :: a1 :: a2 :: a3 :: a4 :: a5 :: some (.ref x) :: t) (.ref x :: st) σ oo) : AWo X r0 pc (a0 :: a1 :: a2 :: a3 :: a4 :: a5 :: some (.ref x) :: t) st σ oo := a_alw (i := 6) hX d rfl hp k
theorem a_is6 {α : Type} {X : AX} {r0 : α} {cc : ByteArray} {mL : Nat} {own : String} {pc pc1 : Nat} {st : List Value} {σ : Mem} {oo : Option α} {a0 a1 a2 a3 a4 a5 : Option Value} {ai : Option Value} {t : List (Option Value)} {x : Int32} (hX : CX X cc mL own) (d : decode cc pc = .ok (.istore 6, 2)) (hp : pc + 2 = pc1) (k : AWo X r0 pc1 (a0 :: a1 :: a2 :: a3 :: a4 :: a5 :: some (.int x) :: t) st σ oo) : AWo X r0 pc (a0 :: a1 :: a2 :: a3 :: a4 :: a5 :: ai :: t) (.int x :: st) σ oo := a_isw (i := 6) hX d (by simp) hp k
theorem a_inc6 {α : Type} {X : AX} {r0 : α} {cc : ByteArray} {mL : Nat} {own : String} {pc pc1 : Nat} {st : List Value} {σ : Mem} {oo : Option α} {a0 a1 a2 a3 a4 a5 : Option Value} {t : List (Option Value)} {x : Int32} {n : Int} (v : Int32) (hX : CX X cc mL own) (d : decode cc pc = .ok (.iinc 6 n, 3)) (hv : Int32.ofInt n = v) (hp : pc + 3 = pc1) (k : AWo X r0 pc1 (a0 :: a1 :: a2 :: a3 :: a4 :: a5 :: some (.int (x + v)) :: t) st σ oo) : AWo X r0 pc (a0 :: a1 :: a2 :: a3 :: a4 :: a5 :: some (.int x) :: t) st σ oo := a_incw (i := 6) hX d rfl (by simp) hv hp k
theorem a_il7 {α : Type} {X : AX} {r0 : α} {cc : ByteArray} {mL : Nat} {own : String} {pc pc1 : Nat} {st : List Value} {σ : Mem} {oo : Option α} {a0 a1 a2 a3 a4 a5 a6 : Option Value} {t : List (Option Value)} {x : Int32} (hX : CX X cc mL own) (d : decode cc pc = .ok (.iload 7, 2)) (hp : pc + 2 = pc1) (k : AWo X r0 pc1 (a0 :: a1 :: a2 :: a3 :: a4 :: a5 :: a6 :: some (.int x) :: t) (.int x :: st) σ oo) : AWo X r0 pc (a0 :: a1 :: a2 :: a3 :: a4 :: a5 :: a6 :: some (.int x) :: t) st σ oo := a_ilw (i := 7) hX d rfl hp k
theorem a_al7 {α : Type} {X : AX} {r0 : α} {cc : ByteArray} {mL : Nat} {own : String} {pc pc1 : Nat} {st : List Value} {σ : Mem} {oo : Option α} {a0 a1 a2 a3 a4 a5 a6 : Option Value} {t : List (Option Value)} {x : Nat} (hX : CX X cc mL own) (d : decode cc pc = .ok (.aload 7, 2)) (hp : pc + 2 = pc1) (k : AWo X r0 pc1 (a0 :: a1 :: a2 :: a3 :: a4 :: a5 :: a6 :: some (.ref x) :: t) (.ref x :: st) σ oo) : AWo X r0 pc (a0 :: a1 :: a2 :: a3 :: a4 :: a5 :: a6 :: some (.ref x) :: t) st σ oo := a_alw (i := 7) hX d rfl hp k
theorem a_is7 {α : Type} {X : AX} {r0 : α} {cc : ByteArray} {mL : Nat} {own : String} {pc pc1 : Nat} {st : List Value} {σ : Mem} {oo : Option α} {a0 a1 a2 a3 a4 a5 a6 : Option Value} {ai : Option Value} {t : List (Option Value)} {x : Int32} (hX : CX X cc mL own) (d : decode cc pc = .ok (.istore 7, 2)) (hp : pc + 2 = pc1) (k : AWo X r0 pc1 (a0 :: a1 :: a2 :: a3 :: a4 :: a5 :: a6 :: some (.int x) :: t) st σ oo) : AWo X r0 pc (a0 :: a1 :: a2 :: a3 :: a4 :: a5 :: a6 :: ai :: t) (.int x :: st) σ oo := a_isw (i := 7) hX d (by simp) hp k
theorem a_inc7 {α : Type} {X : AX} {r0 : α} {cc : ByteArray} {mL : Nat} {own : String} {pc pc1 : Nat} {st : List Value} {σ : Mem} {oo : Option α} {a0 a1 a2 a3 a4 a5 a6 : Option Value} {t : List (Option Value)} {x : Int32} {n : Int} (v : Int32) (hX : CX X cc mL own) (d : decode cc pc = .ok (.iinc 7 n, 3)) (hv : Int32.ofInt n = v) (hp : pc + 3 = pc1) (k : AWo X r0 pc1 (a0 :: a1 :: a2 :: a3 :: a4 :: a5 :: a6 :: some (.int (x + v)) :: t) st σ oo) : AWo X r0 pc (a0 :: a1 :: a2 :: a3 :: a4 :: a5 :: a6 :: some (.int x) :: t) st σ oo := a_incw (i := 7) hX d rfl (by simp) hv hp k
theorem a_il8 {α : Type} {X : AX} {r0 : α} {cc : ByteArray} {mL : Nat} {own : String} {pc pc1 : Nat} {st : List Value} {σ : Mem} {oo : Option α} {a0 a1 a2 a3 a4 a5 a6 a7 : Option Value} {t : List (Option Value)} {x : Int32} (hX : CX X cc mL own) (d : decode cc pc = .ok (.iload 8, 2)) (hp : pc + 2 = pc1) (k : AWo X r0 pc1 (a0 :: a1 :: a2 :: a3 :: a4 :: a5 :: a6 :: a7 :: some (.int x) :: t) (.int x :: st) σ oo) : AWo X r0 pc (a0 :: a1 :: a2 :: a3 :: a4 :: a5 :: a6 :: a7 :: some (.int x) :: t) st σ oo := a_ilw (i := 8) hX d rfl hp k
theorem a_al8 {α : Type} {X : AX} {r0 : α} {cc : ByteArray} {mL : Nat} {own : String} {pc pc1 : Nat} {st : List Value} {σ : Mem} {oo : Option α} {a0 a1 a2 a3 a4 a5 a6 a7 : Option Value} {t : List (Option Value)} {x : Nat} (hX : CX X cc mL own) (d : decode cc pc = .ok (.aload 8, 2)) (hp : pc + 2 = pc1) (k : AWo X r0 pc1 (a0 :: a1 :: a2 :: a3 :: a4 :: a5 :: a6 :: a7 :: some (.ref x) :: t) (.ref x :: st) σ oo) : AWo X r0 pc (a0 :: a1 :: a2 :: a3 :: a4 :: a5 :: a6 :: a7 :: some (.ref x) :: t) st σ oo := a_alw (i := 8) hX d rfl hp k
theorem a_is8 {α : Type} {X : AX} {r0 : α} {cc : ByteArray} {mL : Nat} {own : String} {pc pc1 : Nat} {st : List Value} {σ : Mem} {oo : Option α} {a0 a1 a2 a3 a4 a5 a6 a7 : Option Value} {ai : Option Value} {t : List (Option Value)} {x : Int32} (hX : CX X cc mL own) (d : decode cc pc = .ok (.istore 8, 2)) (hp : pc + 2 = pc1) (k : AWo X r0 pc1 (a0 :: a1 :: a2 :: a3 :: a4 :: a5 :: a6 :: a7 :: some (.int x) :: t) st σ oo) : AWo X r0 pc (a0 :: a1 :: a2 :: a3 :: a4 :: a5 :: a6 :: a7 :: ai :: t) (.int x :: st) σ oo := a_isw (i := 8) hX d (by simp) hp k
theorem a_inc8 {α : Type} {X : AX} {r0 : α} {cc : ByteArray} {mL : Nat} {own : String} {pc pc1 : Nat} {st : List Value} {σ : Mem} {oo : Option α} {a0 a1 a2 a3 a4 a5 a6 a7 : Option Value} {t : List (Option Value)} {x : Int32} {n : Int} (v : Int32) (hX : CX X cc mL own) (d : decode cc pc = .ok (.iinc 8 n, 3)) (hv : Int32.ofInt n = v) (hp : pc + 3 = pc1) (k : AWo X r0 pc1 (a0 :: a1 :: a2 :: a3 :: a4 :: a5 :: a6 :: a7 :: some (.int (x + v)) :: t) st σ oo) : AWo X r0 pc (a0 :: a1 :: a2 :: a3 :: a4 :: a5 :: a6 :: a7 :: some (.int x) :: t) st σ oo := a_incw (i := 8) hX d rfl (by simp) hv hp k
theorem a_il9 {α : Type} {X : AX} {r0 : α} {cc : ByteArray} {mL : Nat} {own : String} {pc pc1 : Nat} {st : List Value} {σ : Mem} {oo : Option α} {a0 a1 a2 a3 a4 a5 a6 a7 a8 : Option Value} {t : List (Option Value)} {x : Int32} (hX : CX X cc mL own) (d : decode cc pc = .ok (.iload 9, 2)) (hp : pc + 2 = pc1) (k : AWo X r0 pc1 (a0 :: a1 :: a2 :: a3 :: a4 :: a5 :: a6 :: a7 :: a8 :: some (.int x) :: t) (.int x :: st) σ oo) : AWo X r0 pc (a0 :: a1 :: a2 :: a3 :: a4 :: a5 :: a6 :: a7 :: a8 :: some (.int x) :: t) st σ oo := a_ilw (i := 9) hX d rfl hp k
theorem a_al9 {α : Type} {X : AX} {r0 : α} {cc : ByteArray} {mL : Nat} {own : String} {pc pc1 : Nat} {st : List Value} {σ : Mem} {oo : Option α} {a0 a1 a2 a3 a4 a5 a6 a7 a8 : Option Value} {t : List (Option Value)} {x : Nat} (hX : CX X cc mL own) (d : decode cc pc = .ok (.aload 9, 2)) (hp : pc + 2 = pc1) (k : AWo X r0 pc1 (a0 :: a1 :: a2 :: a3 :: a4 :: a5 :: a6 :: a7 :: a8 :: some (.ref x) :: t) (.ref x :: st) σ oo) : AWo X r0 pc (a0 :: a1 :: a2 :: a3 :: a4 :: a5 :: a6 :: a7 :: a8 :: some (.ref x) :: t) st σ oo := a_alw (i := 9) hX d rfl hp k
theorem a_is9 {α : Type} {X : AX} {r0 : α} {cc : ByteArray} {mL : Nat} {own : String} {pc pc1 : Nat} {st : List Value} {σ : Mem} {oo : Option α} {a0 a1 a2 a3 a4 a5 a6 a7 a8 : Option Value} {ai : Option Value} {t : List (Option Value)} {x : Int32} (hX : CX X cc mL own) (d : decode cc pc = .ok (.istore 9, 2)) (hp : pc + 2 = pc1) (k : AWo X r0 pc1 (a0 :: a1 :: a2 :: a3 :: a4 :: a5 :: a6 :: a7 :: a8 :: some (.int x) :: t) st σ oo) : AWo X r0 pc (a0 :: a1 :: a2 :: a3 :: a4 :: a5 :: a6 :: a7 :: a8 :: ai :: t) (.int x :: st) σ oo := a_isw (i := 9) hX d (by simp) hp k
theorem a_inc9 {α : Type} {X : AX} {r0 : α} {cc : ByteArray} {mL : Nat} {own : String} {pc pc1 : Nat} {st : List Value} {σ : Mem} {oo : Option α} {a0 a1 a2 a3 a4 a5 a6 a7 a8 : Option Value} {t : List (Option Value)} {x : Int32} {n : Int} (v : Int32) (hX : CX X cc mL own) (d : decode cc pc = .ok (.iinc 9 n, 3)) (hv : Int32.ofInt n = v) (hp : pc + 3 = pc1) (k : AWo X r0 pc1 (a0 :: a1 :: a2 :: a3 :: a4 :: a5 :: a6 :: a7 :: a8 :: some (.int (x + v)) :: t) st σ oo) : AWo X r0 pc (a0 :: a1 :: a2 :: a3 :: a4 :: a5 :: a6 :: a7 :: a8 :: some (.int x) :: t) st σ oo := a_incw (i := 9) hX d rfl (by simp) hv hp k
theorem a_il10 {α : Type} {X : AX} {r0 : α} {cc : ByteArray} {mL : Nat} {own : String} {pc pc1 : Nat} {st : List Value} {σ : Mem} {oo : Option α} {a0 a1 a2 a3 a4 a5 a6 a7 a8 a9 : Option Value} {t : List (Option Value)} {x : Int32} (hX : CX X cc mL own) (d : decode cc pc = .ok (.iload 10, 2)) (hp : pc + 2 = pc1) (k : AWo X r0 pc1 (a0 :: a1 :: a2 :: a3 :: a4 :: a5 :: a6 :: a7 :: a8 :: a9 :: some (.int x) :: t) (.int x :: st) σ oo) : AWo X r0 pc (a0 :: a1 :: a2 :: a3 :: a4 :: a5 :: a6 :: a7 :: a8 :: a9 :: some (.int x) :: t) st σ oo := a_ilw (i := 10) hX d rfl hp k
theorem a_al10 {α : Type} {X : AX} {r0 : α} {cc : ByteArray} {mL : Nat} {own : String} {pc pc1 : Nat} {st : List Value} {σ : Mem} {oo : Option α} {a0 a1 a2 a3 a4 a5 a6 a7 a8 a9 : Option Value} {t : List (Option Value)} {x : Nat} (hX : CX X cc mL own) (d : decode cc pc = .ok (.aload 10, 2)) (hp : pc + 2 = pc1) (k : AWo X r0 pc1 (a0 :: a1 :: a2 :: a3 :: a4 :: a5 :: a6 :: a7 :: a8 :: a9 :: some (.ref x) :: t) (.ref x :: st) σ oo) : AWo X r0 pc (a0 :: a1 :: a2 :: a3 :: a4 :: a5 :: a6 :: a7 :: a8 :: a9 :: some (.ref x) :: t) st σ oo := a_alw (i := 10) hX d rfl hp k
theorem a_is10 {α : Type} {X : AX} {r0 : α} {cc : ByteArray} {mL : Nat} {own : String} {pc pc1 : Nat} {st : List Value} {σ : Mem} {oo : Option α} {a0 a1 a2 a3 a4 a5 a6 a7 a8 a9 : Option Value} {ai : Option Value} {t : List (Option Value)} {x : Int32} (hX : CX X cc mL own) (d : decode cc pc = .ok (.istore 10, 2)) (hp : pc + 2 = pc1) (k : AWo X r0 pc1 (a0 :: a1 :: a2 :: a3 :: a4 :: a5 :: a6 :: a7 :: a8 :: a9 :: some (.int x) :: t) st σ oo) : AWo X r0 pc (a0 :: a1 :: a2 :: a3 :: a4 :: a5 :: a6 :: a7 :: a8 :: a9 :: ai :: t) (.int x :: st) σ oo := a_isw (i := 10) hX d (by simp) hp k
theorem a_inc10 {α : Type} {X : AX} {r0 : α} {cc : ByteArray} {mL : Nat} {own : String} {pc pc1 : Nat} {st : List Value} {σ : Mem} {oo : Option α} {a0 a1 a2 a3 a4 a5 a6 a7 a8 a9 : Option Value} {t : List (Option Value)} {x : Int32} {n : Int} (v : Int32) (hX : CX X cc mL own) (d : decode cc pc = .ok (.iinc 10 n, 3)) (hv : Int32.ofInt n = v) (hp : pc + 3 = pc1) (k : AWo X r0 pc1 (a0 :: a1 :: a2 :: a3 :: a4 :: a5 :: a6 :: a7 :: a8 :: a9 :: some (.int (x + v)) :: t) st σ oo) : AWo X r0 pc (a0 :: a1 :: a2 :: a3 :: a4 :: a5 :: a6 :: a7 :: a8 :: a9 :: some (.int x) :: t) st σ oo := a_incw (i := 10) hX d rfl (by simp) hv hp k
theorem a_il11 {α : Type} {X : AX} {r0 : α} {cc : ByteArray} {mL : Nat} {own : String} {pc pc1 : Nat} {st : List Value} {σ : Mem} {oo : Option α} {a0 a1 a2 a3 a4 a5 a6 a7 a8 a9 a10 : Option Value} {t : List (Option Value)} {x : Int32} (hX : CX X cc mL own) (d : decode cc pc = .ok (.iload 11, 2)) (hp : pc + 2 = pc1) (k : AWo X r0 pc1 (a0 :: a1 :: a2 :: a3 :: a4 :: a5 :: a6 :: a7 :: a8 :: a9 :: a10 :: some (.int x) :: t) (.int x :: st) σ oo) : AWo X r0 pc (a0 :: a1 :: a2 :: a3 :: a4 :: a5 :: a6 :: a7 :: a8 :: a9 :: a10 :: some (.int x) :: t) st σ oo := a_ilw (i := 11) hX d rfl hp k
theorem a_al11 {α : Type} {X : AX} {r0 : α} {cc : ByteArray} {mL : Nat} {own : String} {pc pc1 : Nat} {st : List Value} {σ : Mem} {oo : Option α} {a0 a1 a2 a3 a4 a5 a6 a7 a8 a9 a10 : Option Value} {t : List (Option Value)} {x : Nat} (hX : CX X cc mL own) (d : decode cc pc = .ok (.aload 11, 2)) (hp : pc + 2 = pc1) (k : AWo X r0 pc1 (a0 :: a1 :: a2 :: a3 :: a4 :: a5 :: a6 :: a7 :: a8 :: a9 :: a10 :: some (.ref x) :: t) (.ref x :: st) σ oo) : AWo X r0 pc (a0 :: a1 :: a2 :: a3 :: a4 :: a5 :: a6 :: a7 :: a8 :: a9 :: a10 :: some (.ref x) :: t) st σ oo := a_alw (i := 11) hX d rfl hp k
theorem a_is11 {α : Type} {X : AX} {r0 : α} {cc : ByteArray} {mL : Nat} {own : String} {pc pc1 : Nat} {st : List Value} {σ : Mem} {oo : Option α} {a0 a1 a2 a3 a4 a5 a6 a7 a8 a9 a10 : Option Value} {ai : Option Value} {t : List (Option Value)} {x : Int32} (hX : CX X cc mL own) (d : decode cc pc = .ok (.istore 11, 2)) (hp : pc + 2 = pc1) (k : AWo X r0 pc1 (a0 :: a1 :: a2 :: a3 :: a4 :: a5 :: a6 :: a7 :: a8 :: a9 :: a10 :: some (.int x) :: t) st σ oo) : AWo X r0 pc (a0 :: a1 :: a2 :: a3 :: a4 :: a5 :: a6 :: a7 :: a8 :: a9 :: a10 :: ai :: t) (.int x :: st) σ oo := a_isw (i := 11) hX d (by simp) hp k
theorem a_inc11 {α : Type} {X : AX} {r0 : α} {cc : ByteArray} {mL : Nat} {own : String} {pc pc1 : Nat} {st : List Value} {σ : Mem} {oo : Option α} {a0 a1 a2 a3 a4 a5 a6 a7 a8 a9 a10 : Option Value} {t : List (Option Value)} {x : Int32} {n : Int} (v : Int32) (hX : CX X cc mL own) (d : decode cc pc = .ok (.iinc 11 n, 3)) (hv : Int32.ofInt n = v) (hp : pc + 3 = pc1) (k : AWo X r0 pc1 (a0 :: a1 :: a2 :: a3 :: a4 :: a5 :: a6 :: a7 :: a8 :: a9 :: a10 :: some (.int (x + v)) :: t) st σ oo) : AWo X r0 pc (a0 :: a1 :: a2 :: a3 :: a4 :: a5 :: a6 :: a7 :: a8 :: a9 :: a10 :: some (.int x) :: t) st σ oo := a_incw (i := 11) hX d rfl (by simp) hv hp k
theorem a_il12 {α : Type} {X : AX} {r0 : α} {cc : ByteArray} {mL : Nat} {own : String} {pc pc1 : Nat} {st : List Value} {σ : Mem} {oo : Option α} {a0 a1 a2 a3 a4 a5 a6 a7 a8 a9 a10 a11 : Option Value} {t : List (Option Value)} {x : Int32} (hX : CX X cc mL own) (d : decode cc pc = .ok (.iload 12, 2)) (hp : pc + 2 = pc1) (k : AWo X r0 pc1 (a0 :: a1 :: a2 :: a3 :: a4 :: a5 :: a6 :: a7 :: a8 :: a9 :: a10 :: a11 :: some (.int x) :: t) (.int x :: st) σ oo) : AWo X r0 pc (a0 :: a1 :: a2 :: a3 :: a4 :: a5 :: a6 :: a7 :: a8 :: a9 :: a10 :: a11 :: some (.int x) :: t) st σ oo := a_ilw (i := 12) hX d rfl hp k
theorem a_al12 {α : Type} {X : AX} {r0 : α} {cc : ByteArray} {mL : Nat} {own : String} {pc pc1 : Nat} {st : List Value} {σ : Mem} {oo : Option α} {a0 a1 a2 a3 a4 a5 a6 a7 a8 a9 a10 a11 : Option Value} {t : List (Option Value)} {x : Nat} (hX : CX X cc mL own) (d : decode cc pc = .ok (.aload 12, 2)) (hp : pc + 2 = pc1) (k : AWo X r0 pc1 (a0 :: a1 :: a2 :: a3 :: a4 :: a5 :: a6 :: a7 :: a8 :: a9 :: a10 :: a11 :: some (.ref x) :: t) (.ref x :: st) σ oo) : AWo X r0 pc (a0 :: a1 :: a2 :: a3 :: a4 :: a5 :: a6 :: a7 :: a8 :: a9 :: a10 :: a11 :: some (.ref x) :: t) st σ oo := a_alw (i := 12) hX d rfl hp k
theorem a_is12 {α : Type} {X : AX} {r0 : α} {cc : ByteArray} {mL : Nat} {own : String} {pc pc1 : Nat} {st : List Value} {σ : Mem} {oo : Option α} {a0 a1 a2 a3 a4 a5 a6 a7 a8 a9 a10 a11 : Option Value} {ai : Option Value} {t : List (Option Value)} {x : Int32} (hX : CX X cc mL own) (d : decode cc pc = .ok (.istore 12, 2)) (hp : pc + 2 = pc1) (k : AWo X r0 pc1 (a0 :: a1 :: a2 :: a3 :: a4 :: a5 :: a6 :: a7 :: a8 :: a9 :: a10 :: a11 :: some (.int x) :: t) st σ oo) : AWo X r0 pc (a0 :: a1 :: a2 :: a3 :: a4 :: a5 :: a6 :: a7 :: a8 :: a9 :: a10 :: a11 :: ai :: t) (.int x :: st) σ oo := a_isw (i := 12) hX d (by simp) hp k
theorem a_inc12 {α : Type} {X : AX} {r0 : α} {cc : ByteArray} {mL : Nat} {own : String} {pc pc1 : Nat} {st : List Value} {σ : Mem} {oo : Option α} {a0 a1 a2 a3 a4 a5 a6 a7 a8 a9 a10 a11 : Option Value} {t : List (Option Value)} {x : Int32} {n : Int} (v : Int32) (hX : CX X cc mL own) (d : decode cc pc = .ok (.iinc 12 n, 3)) (hv : Int32.ofInt n = v) (hp : pc + 3 = pc1) (k : AWo X r0 pc1 (a0 :: a1 :: a2 :: a3 :: a4 :: a5 :: a6 :: a7 :: a8 :: a9 :: a10 :: a11 :: some (.int (x + v)) :: t) st σ oo) : AWo X r0 pc (a0 :: a1 :: a2 :: a3 :: a4 :: a5 :: a6 :: a7 :: a8 :: a9 :: a10 :: a11 :: some (.int x) :: t) st σ oo := a_incw (i := 12) hX d rfl (by simp) hv hp k
theorem a_il13 {α : Type} {X : AX} {r0 : α} {cc : ByteArray} {mL : Nat} {own : String} {pc pc1 : Nat} {st : List Value} {σ : Mem} {oo : Option α} {a0 a1 a2 a3 a4 a5 a6 a7 a8 a9 a10 a11 a12 : Option Value} {t : List (Option Value)} {x : Int32} (hX : CX X cc mL own) (d : decode cc pc = .ok (.iload 13, 2)) (hp : pc + 2 = pc1) (k : AWo X r0 pc1 (a0 :: a1 :: a2 :: a3 :: a4 :: a5 :: a6 :: a7 :: a8 :: a9 :: a10 :: a11 :: a12 :: some (.int x) :: t) (.int x :: st) σ oo) : AWo X r0 pc (a0 :: a1 :: a2 :: a3 :: a4 :: a5 :: a6 :: a7 :: a8 :: a9 :: a10 :: a11 :: a12 :: some (.int x) :: t) st σ oo := a_ilw (i := 13) hX d rfl hp k
theorem a_al13 {α : Type} {X : AX} {r0 : α} {cc : ByteArray} {mL : Nat} {own : String} {pc pc1 : Nat} {st : List Value} {σ : Mem} {oo : Option α} {a0 a1 a2 a3 a4 a5 a6 a7 a8 a9 a10 a11 a12 : Option Value} {t : List (Option Value)} {x : Nat} (hX : CX X cc mL own) (d : decode cc pc = .ok (.aload 13, 2)) (hp : pc + 2 = pc1) (k : AWo X r0 pc1 (a0 :: a1 :: a2 :: a3 :: a4 :: a5 :: a6 :: a7 :: a8 :: a9 :: a10 :: a11 :: a12 :: some (.ref x) :: t) (.ref x :: st) σ oo) : AWo X r0 pc (a0 :: a1 :: a2 :: a3 :: a4 :: a5 :: a6 :: a7 :: a8 :: a9 :: a10 :: a11 :: a12 :: some (.ref x) :: t) st σ oo := a_alw (i := 13) hX d rfl hp k
theorem a_is13 {α : Type} {X : AX} {r0 : α} {cc : ByteArray} {mL : Nat} {own : String} {pc pc1 : Nat} {st : List Value} {σ : Mem} {oo : Option α} {a0 a1 a2 a3 a4 a5 a6 a7 a8 a9 a10 a11 a12 : Option Value} {ai : Option Value} {t : List (Option Value)} {x : Int32} (hX : CX X cc mL own) (d : decode cc pc = .ok (.istore 13, 2)) (hp : pc + 2 = pc1) (k : AWo X r0 pc1 (a0 :: a1 :: a2 :: a3 :: a4 :: a5 :: a6 :: a7 :: a8 :: a9 :: a10 :: a11 :: a12 :: some (.int x) :: t) st σ oo) : AWo X r0 pc (a0 :: a1 :: a2 :: a3 :: a4 :: a5 :: a6 :: a7 :: a8 :: a9 :: a10 :: a11 :: a12 :: ai :: t) (.int x :: st) σ oo := a_isw (i := 13) hX d (by simp) hp k
theorem a_inc13 {α : Type} {X : AX} {r0 : α} {cc : ByteArray} {mL : Nat} {own : String} {pc pc1 : Nat} {st : List Value} {σ : Mem} {oo : Option α} {a0 a1 a2 a3 a4 a5 a6 a7 a8 a9 a10 a11 a12 : Option Value} {t : List (Option Value)} {x : Int32} {n : Int} (v : Int32) (hX : CX X cc mL own) (d : decode cc pc = .ok (.iinc 13 n, 3)) (hv : Int32.ofInt n = v) (hp : pc + 3 = pc1) (k : AWo X r0 pc1 (a0 :: a1 :: a2 :: a3 :: a4 :: a5 :: a6 :: a7 :: a8 :: a9 :: a10 :: a11 :: a12 :: some (.int (x + v)) :: t) st σ oo) : AWo X r0 pc (a0 :: a1 :: a2 :: a3 :: a4 :: a5 :: a6 :: a7 :: a8 :: a9 :: a10 :: a11 :: a12 :: some (.int x) :: t) st σ oo := a_incw (i := 13) hX d rfl (by simp) hv hp k
end
section

section ROWS2
variable {α : Type} {X : AX} {r0 : α} {cc : ByteArray} {mL : Nat} {own : String} {pc pc1 pc2 : Nat} {ls : List (Option Value)} {st : List Value} {σ : Mem} {oo oa ob : Option α}

theorem a_if_eq {x : Int32} {off : Int} (hX : CX X cc mL own) (d : decode cc pc = .ok (.ifCond .eq off, 3)) (ht : (pc : Int) + off = (pc1 : Int)) (hp : pc + 3 = pc2) (k1 : AWo X r0 pc1 ls st σ oa) (k2 : AWo X r0 pc2 ls st σ ob) : AWo X r0 pc ls (.int x :: st) σ (if x = 0 then oa else ob) := fun ho H locs lsA h1 h2 h3 h4 => by
  subst hp
  exact lv_if_eq hX.1 hX.2.1 d ht (fun c => k1 (by rw [if_pos c] at ho; exact ho) H locs lsA h1 h2 h3 h4) (fun c => k2 (by rw [if_neg c] at ho; exact ho) H locs lsA h1 h2 h3 h4)
theorem a_if_ne {x : Int32} {off : Int} (hX : CX X cc mL own) (d : decode cc pc = .ok (.ifCond .ne off, 3)) (ht : (pc : Int) + off = (pc1 : Int)) (hp : pc + 3 = pc2) (k1 : AWo X r0 pc1 ls st σ oa) (k2 : AWo X r0 pc2 ls st σ ob) : AWo X r0 pc ls (.int x :: st) σ (if x = 0 then ob else oa) := fun ho H locs lsA h1 h2 h3 h4 => by
  subst hp
  exact lv_if_ne hX.1 hX.2.1 d ht (fun c => k1 (by rw [if_neg c] at ho; exact ho) H locs lsA h1 h2 h3 h4) (fun c => k2 (by rw [if_pos c] at ho; exact ho) H locs lsA h1 h2 h3 h4)
theorem a_if_lt {x : Int32} {off : Int} (hX : CX X cc mL own) (d : decode cc pc = .ok (.ifCond .lt off, 3)) (ht : (pc : Int) + off = (pc1 : Int)) (hp : pc + 3 = pc2) (k1 : AWo X r0 pc1 ls st σ oa) (k2 : AWo X r0 pc2 ls st σ ob) : AWo X r0 pc ls (.int x :: st) σ (if x < 0 then oa else ob) := fun ho H locs lsA h1 h2 h3 h4 => by
  subst hp
  exact lv_if_lt hX.1 hX.2.1 d ht (fun c => k1 (by rw [if_pos c] at ho; exact ho) H locs lsA h1 h2 h3 h4) (fun c => k2 (by rw [if_neg c] at ho; exact ho) H locs lsA h1 h2 h3 h4)
theorem a_if_ge {x : Int32} {off : Int} (hX : CX X cc mL own) (d : decode cc pc = .ok (.ifCond .ge off, 3)) (ht : (pc : Int) + off = (pc1 : Int)) (hp : pc + 3 = pc2) (k1 : AWo X r0 pc1 ls st σ oa) (k2 : AWo X r0 pc2 ls st σ ob) : AWo X r0 pc ls (.int x :: st) σ (if 0 ≤ x then oa else ob) := fun ho H locs lsA h1 h2 h3 h4 => by
  subst hp
  exact lv_if_ge hX.1 hX.2.1 d ht (fun c => k1 (by rw [if_pos c] at ho; exact ho) H locs lsA h1 h2 h3 h4) (fun c => k2 (by rw [if_neg c] at ho; exact ho) H locs lsA h1 h2 h3 h4)
theorem a_if_gt {x : Int32} {off : Int} (hX : CX X cc mL own) (d : decode cc pc = .ok (.ifCond .gt off, 3)) (ht : (pc : Int) + off = (pc1 : Int)) (hp : pc + 3 = pc2) (k1 : AWo X r0 pc1 ls st σ oa) (k2 : AWo X r0 pc2 ls st σ ob) : AWo X r0 pc ls (.int x :: st) σ (if 0 < x then oa else ob) := fun ho H locs lsA h1 h2 h3 h4 => by
  subst hp
  exact lv_if_gt hX.1 hX.2.1 d ht (fun c => k1 (by rw [if_pos c] at ho; exact ho) H locs lsA h1 h2 h3 h4) (fun c => k2 (by rw [if_neg c] at ho; exact ho) H locs lsA h1 h2 h3 h4)
theorem a_if_le {x : Int32} {off : Int} (hX : CX X cc mL own) (d : decode cc pc = .ok (.ifCond .le off, 3)) (ht : (pc : Int) + off = (pc1 : Int)) (hp : pc + 3 = pc2) (k1 : AWo X r0 pc1 ls st σ oa) (k2 : AWo X r0 pc2 ls st σ ob) : AWo X r0 pc ls (.int x :: st) σ (if x ≤ 0 then oa else ob) := fun ho H locs lsA h1 h2 h3 h4 => by
  subst hp
  exact lv_if_le hX.1 hX.2.1 d ht (fun c => k1 (by rw [if_pos c] at ho; exact ho) H locs lsA h1 h2 h3 h4) (fun c => k2 (by rw [if_neg c] at ho; exact ho) H locs lsA h1 h2 h3 h4)
theorem a_icmp_eq {x y : Int32} {off : Int} (hX : CX X cc mL own) (d : decode cc pc = .ok (.if_icmp .eq off, 3)) (ht : (pc : Int) + off = (pc1 : Int)) (hp : pc + 3 = pc2) (k1 : AWo X r0 pc1 ls st σ oa) (k2 : AWo X r0 pc2 ls st σ ob) : AWo X r0 pc ls (.int y :: .int x :: st) σ (if x = y then oa else ob) := fun ho H locs lsA h1 h2 h3 h4 => by
  subst hp
  exact lv_icmp_eq hX.1 hX.2.1 d ht (fun c => k1 (by rw [if_pos c] at ho; exact ho) H locs lsA h1 h2 h3 h4) (fun c => k2 (by rw [if_neg c] at ho; exact ho) H locs lsA h1 h2 h3 h4)
theorem a_icmp_ne {x y : Int32} {off : Int} (hX : CX X cc mL own) (d : decode cc pc = .ok (.if_icmp .ne off, 3)) (ht : (pc : Int) + off = (pc1 : Int)) (hp : pc + 3 = pc2) (k1 : AWo X r0 pc1 ls st σ oa) (k2 : AWo X r0 pc2 ls st σ ob) : AWo X r0 pc ls (.int y :: .int x :: st) σ (if x = y then ob else oa) := fun ho H locs lsA h1 h2 h3 h4 => by
  subst hp
  exact lv_icmp_ne hX.1 hX.2.1 d ht (fun c => k1 (by rw [if_neg c] at ho; exact ho) H locs lsA h1 h2 h3 h4) (fun c => k2 (by rw [if_pos c] at ho; exact ho) H locs lsA h1 h2 h3 h4)
theorem a_icmp_lt {x y : Int32} {off : Int} (hX : CX X cc mL own) (d : decode cc pc = .ok (.if_icmp .lt off, 3)) (ht : (pc : Int) + off = (pc1 : Int)) (hp : pc + 3 = pc2) (k1 : AWo X r0 pc1 ls st σ oa) (k2 : AWo X r0 pc2 ls st σ ob) : AWo X r0 pc ls (.int y :: .int x :: st) σ (if x < y then oa else ob) := fun ho H locs lsA h1 h2 h3 h4 => by
  subst hp
  exact lv_icmp_lt hX.1 hX.2.1 d ht (fun c => k1 (by rw [if_pos c] at ho; exact ho) H locs lsA h1 h2 h3 h4) (fun c => k2 (by rw [if_neg c] at ho; exact ho) H locs lsA h1 h2 h3 h4)
theorem a_icmp_ge {x y : Int32} {off : Int} (hX : CX X cc mL own) (d : decode cc pc = .ok (.if_icmp .ge off, 3)) (ht : (pc : Int) + off = (pc1 : Int)) (hp : pc + 3 = pc2) (k1 : AWo X r0 pc1 ls st σ oa) (k2 : AWo X r0 pc2 ls st σ ob) : AWo X r0 pc ls (.int y :: .int x :: st) σ (if y ≤ x then oa else ob) := fun ho H locs lsA h1 h2 h3 h4 => by
  subst hp
  exact lv_icmp_ge hX.1 hX.2.1 d ht (fun c => k1 (by rw [if_pos c] at ho; exact ho) H locs lsA h1 h2 h3 h4) (fun c => k2 (by rw [if_neg c] at ho; exact ho) H locs lsA h1 h2 h3 h4)
theorem a_icmp_gt {x y : Int32} {off : Int} (hX : CX X cc mL own) (d : decode cc pc = .ok (.if_icmp .gt off, 3)) (ht : (pc : Int) + off = (pc1 : Int)) (hp : pc + 3 = pc2) (k1 : AWo X r0 pc1 ls st σ oa) (k2 : AWo X r0 pc2 ls st σ ob) : AWo X r0 pc ls (.int y :: .int x :: st) σ (if y < x then oa else ob) := fun ho H locs lsA h1 h2 h3 h4 => by
  subst hp
  exact lv_icmp_gt hX.1 hX.2.1 d ht (fun c => k1 (by rw [if_pos c] at ho; exact ho) H locs lsA h1 h2 h3 h4) (fun c => k2 (by rw [if_neg c] at ho; exact ho) H locs lsA h1 h2 h3 h4)
theorem a_icmp_le {x y : Int32} {off : Int} (hX : CX X cc mL own) (d : decode cc pc = .ok (.if_icmp .le off, 3)) (ht : (pc : Int) + off = (pc1 : Int)) (hp : pc + 3 = pc2) (k1 : AWo X r0 pc1 ls st σ oa) (k2 : AWo X r0 pc2 ls st σ ob) : AWo X r0 pc ls (.int y :: .int x :: st) σ (if x ≤ y then oa else ob) := fun ho H locs lsA h1 h2 h3 h4 => by
  subst hp
  exact lv_icmp_le hX.1 hX.2.1 d ht (fun c => k1 (by rw [if_pos c] at ho; exact ho) H locs lsA h1 h2 h3 h4) (fun c => k2 (by rw [if_neg c] at ho; exact ho) H locs lsA h1 h2 h3 h4)
theorem a_tsw8 {x : Int32} {dflt f0 f1 f2 f3 f4 f5 f6 f7 : Int} {p0 p1 p2 p3 p4 p5 p6 p7 pd len : Nat} {o0 o1 o2 o3 o4 o5 o6 o7 od : Option α} (hX : CX X cc mL own) (d : decode cc pc = .ok (.tableswitch dflt 0 7 #[f0, f1, f2, f3, f4, f5, f6, f7], len)) (h0 : (pc : Int) + f0 = (p0 : Int)) (k0 : AWo X r0 p0 ls st σ o0) (h1 : (pc : Int) + f1 = (p1 : Int)) (k1 : AWo X r0 p1 ls st σ o1) (h2 : (pc : Int) + f2 = (p2 : Int)) (k2 : AWo X r0 p2 ls st σ o2) (h3 : (pc : Int) + f3 = (p3 : Int)) (k3 : AWo X r0 p3 ls st σ o3) (h4 : (pc : Int) + f4 = (p4 : Int)) (k4 : AWo X r0 p4 ls st σ o4) (h5 : (pc : Int) + f5 = (p5 : Int)) (k5 : AWo X r0 p5 ls st σ o5) (h6 : (pc : Int) + f6 = (p6 : Int)) (k6 : AWo X r0 p6 ls st σ o6) (h7 : (pc : Int) + f7 = (p7 : Int)) (k7 : AWo X r0 p7 ls st σ o7) (hd : (pc : Int) + dflt = (pd : Int)) (kd : AWo X r0 pd ls st σ od) : AWo X r0 pc ls (.int x :: st) σ (if x = 0 then o0 else if x = 1 then o1 else if x = 2 then o2 else if x = 3 then o3 else if x = 4 then o4 else if x = 5 then o5 else if x = 6 then o6 else if x = 7 then o7 else od) := fun ho H locs lsA q1 q2 q3 q4 => by
  by_cases e0 : x = 0
  · rw [if_pos e0] at ho
    subst e0
    exact lv_tableIn hX.1 hX.2.1 d (by decide) (by decide) (off := f0) rfl h0 (k0 ho H locs lsA q1 q2 q3 q4)
  rw [if_neg e0] at ho
  by_cases e1 : x = 1
  · rw [if_pos e1] at ho
    subst e1
    exact lv_tableIn hX.1 hX.2.1 d (by decide) (by decide) (off := f1) rfl h1 (k1 ho H locs lsA q1 q2 q3 q4)
  rw [if_neg e1] at ho
  by_cases e2 : x = 2
  · rw [if_pos e2] at ho
    subst e2
    exact lv_tableIn hX.1 hX.2.1 d (by decide) (by decide) (off := f2) rfl h2 (k2 ho H locs lsA q1 q2 q3 q4)
  rw [if_neg e2] at ho
  by_cases e3 : x = 3
  · rw [if_pos e3] at ho
    subst e3
    exact lv_tableIn hX.1 hX.2.1 d (by decide) (by decide) (off := f3) rfl h3 (k3 ho H locs lsA q1 q2 q3 q4)
  rw [if_neg e3] at ho
  by_cases e4 : x = 4
  · rw [if_pos e4] at ho
    subst e4
    exact lv_tableIn hX.1 hX.2.1 d (by decide) (by decide) (off := f4) rfl h4 (k4 ho H locs lsA q1 q2 q3 q4)
  rw [if_neg e4] at ho
  by_cases e5 : x = 5
  · rw [if_pos e5] at ho
    subst e5
    exact lv_tableIn hX.1 hX.2.1 d (by decide) (by decide) (off := f5) rfl h5 (k5 ho H locs lsA q1 q2 q3 q4)
  rw [if_neg e5] at ho
  by_cases e6 : x = 6
  · rw [if_pos e6] at ho
    subst e6
    exact lv_tableIn hX.1 hX.2.1 d (by decide) (by decide) (off := f6) rfl h6 (k6 ho H locs lsA q1 q2 q3 q4)
  rw [if_neg e6] at ho
  by_cases e7 : x = 7
  · rw [if_pos e7] at ho
    subst e7
    exact lv_tableIn hX.1 hX.2.1 d (by decide) (by decide) (off := f7) rfl h7 (k7 ho H locs lsA q1 q2 q3 q4)
  rw [if_neg e7] at ho
  refine lv_tableOut hX.1 hX.2.1 d ?_ hd (kd ho H locs lsA q1 q2 q3 q4)
  have tt : ∀ k : Int32, x ≠ k → x.toInt ≠ k.toInt := fun k h e => h (Int32.toInt_inj.mp e)
  have t0 : x.toInt ≠ 0 := tt 0 e0
  have t1 : x.toInt ≠ 1 := tt 1 e1
  have t2 : x.toInt ≠ 2 := tt 2 e2
  have t3 : x.toInt ≠ 3 := tt 3 e3
  have t4 : x.toInt ≠ 4 := tt 4 e4
  have t5 : x.toInt ≠ 5 := tt 5 e5
  have t6 : x.toInt ≠ 6 := tt 6 e6
  have t7 : x.toInt ≠ 7 := tt 7 e7
  omega
theorem a_getI {idx ci k p : Nat} {fs : List (Option Nat)} (hX : CX X cc mL own) (f : FLD own idx ci k) (hs : shp[p]? = some (.inl (ci, fs))) (hf : fs[k]? = some none) (d : decode cc pc = .ok (.getfield idx, 3)) (hp : pc + 3 = pc1) (kk : AWo X r0 pc1 ls (.int (σ p k) :: st) σ oo) : AWo X r0 pc ls (.ref p :: st) σ oo := fun ho H locs lsA h1 h2 h3 h4 => by
  subst hp
  obtain ⟨C, T, N, f1, f2, f3, f4⟩ := f
  exact va_get (v := .int (σ p k)) hX.1 hX.2.1 (hX.2.2.2.2.1) f3 hX.2.2.2.1 hX.2.2.2.2.2.1 h2 p (wd_get hs) f1 k f2 (hX.2.2.2.2.1 _ f4) (fun _ h => h) (by rw [sF_get, hf]; simp) d (kk ho H locs lsA h1 h2 h3 h4)
theorem a_getR {idx ci k p q : Nat} {fs : List (Option Nat)} (hX : CX X cc mL own) (f : FLD own idx ci k) (hs : shp[p]? = some (.inl (ci, fs))) (hf : fs[k]? = some (some q)) (d : decode cc pc = .ok (.getfield idx, 3)) (hp : pc + 3 = pc1) (kk : AWo X r0 pc1 ls (.ref q :: st) σ oo) : AWo X r0 pc ls (.ref p :: st) σ oo := fun ho H locs lsA h1 h2 h3 h4 => by
  subst hp
  obtain ⟨C, T, N, f1, f2, f3, f4⟩ := f
  exact va_get (v := .ref (gr (aG X) q)) hX.1 hX.2.1 (hX.2.2.2.2.1) f3 hX.2.2.2.1 hX.2.2.2.2.2.1 h2 p (wd_get hs) f1 k f2 (hX.2.2.2.2.1 _ f4) (fun _ h => h) (by rw [sF_get, hf]; rfl) d (kk ho H locs lsA h1 h2 h3 h4)
theorem a_getA {idx p : Nat} {K : Nat → Option α} (hX : CX X cc mL own) (f : FLD own idx 7 0) (d : decode cc pc = .ok (.getfield idx, 3)) (hp : pc + 3 = pc1) (kk : ∀ q, AWo X r0 pc1 ls (.ref q :: st) σ (K q)) : AWo X r0 pc ls (.ref p :: st) σ (obind (rowA p) K) := fun ho => by
  obtain ⟨q, hq, ho'⟩ := obind_inv ho
  exact a_getR (k := 0) hX f (rowA_some hq) rfl d hp (kk q) ho'
theorem a_putI {idx ci k p : Nat} {fs : List (Option Nat)} {v : Int32} (hX : CX X cc mL own) (f : FLP own idx ci k .int) (hs : shp[p]? = some (.inl (ci, fs))) (hf : fs[k]? = some none) (d : decode cc pc = .ok (.putfield idx, 3)) (hp : pc + 3 = pc1) (kk : AWo X r0 pc1 ls st (up σ p k v) oo) : AWo X r0 pc ls (.int v :: .ref p :: st) σ oo := fun ho H locs lsA h1 h2 h3 h4 => by
  subst hp
  obtain ⟨C, T, N, ty0, f1, f2, f3, f4, f5, f6, f7, f8⟩ := f
  refine va_put (v := .int v) (ty := .int) hX.1 hX.2.1 (hX.2.2.2.2.1) f3 ty0 f5 f6 hX.2.2.2.1 hX.2.2.2.2.2.1 h2 h3 h4 p (wd_get hs) f1 k f2 (hX.2.2.2.2.1 _ f4) (fun _ h => h) f7 f8 rfl rfl (by rw [sF_len]; exact (List.getElem?_eq_some_iff.mp hf).1) d (fun H1 locs1 g2 g3 g4 => ?_)
  have e : (wd (aG X) σ).set p (gr (aG X) p, .inr (ci, (sF (gr (aG X)) (σ p) 0 fs).set k (.int v))) = wd (aG X) (up σ p k v) := by
    rw [sF_set v hf]
    have := wd_set (g := aG X) (σ := σ) (upd (σ p) k v) hs
    rw [show sE (aG X) (setA σ p (upd (σ p) k v)) p (.inl (ci, fs)) = .inr (ci, sF (gr (aG X)) (upd (σ p) k v) 0 fs) from by simp [sE, setA]] at this
    exact this
  exact kk ho H1 locs1 lsA h1 (e ▸ g2) (e ▸ g3) g4
theorem a_putZ {idx ci k p : Nat} {fs : List (Option Nat)} {v : Int32} (hX : CX X cc mL own) (f : FLP own idx ci k .boolean) (hz : v = 0 ∨ v = 1) (hs : shp[p]? = some (.inl (ci, fs))) (hf : fs[k]? = some none) (d : decode cc pc = .ok (.putfield idx, 3)) (hp : pc + 3 = pc1) (kk : AWo X r0 pc1 ls st (up σ p k v) oo) : AWo X r0 pc ls (.int v :: .ref p :: st) σ oo := fun ho H locs lsA h1 h2 h3 h4 => by
  subst hp
  obtain ⟨C, T, N, ty0, f1, f2, f3, f4, f5, f6, f7, f8⟩ := f
  refine va_put (v := .int v) (ty := .boolean) hX.1 hX.2.1 (hX.2.2.2.2.1) f3 ty0 f5 f6 hX.2.2.2.1 hX.2.2.2.2.2.1 h2 h3 h4 p (wd_get hs) f1 k f2 (hX.2.2.2.2.1 _ f4) (fun _ h => h) f7 f8 (by rcases hz with rfl | rfl <;> rfl) (by rcases hz with rfl | rfl <;> rfl) (by rw [sF_len]; exact (List.getElem?_eq_some_iff.mp hf).1) d (fun H1 locs1 g2 g3 g4 => ?_)
  have e : (wd (aG X) σ).set p (gr (aG X) p, .inr (ci, (sF (gr (aG X)) (σ p) 0 fs).set k (.int v))) = wd (aG X) (up σ p k v) := by
    rw [sF_set v hf]
    have := wd_set (g := aG X) (σ := σ) (upd (σ p) k v) hs
    rw [show sE (aG X) (setA σ p (upd (σ p) k v)) p (.inl (ci, fs)) = .inr (ci, sF (gr (aG X)) (upd (σ p) k v) 0 fs) from by simp [sE, setA]] at this
    exact this
  exact kk ho H1 locs1 lsA h1 (e ▸ g2) (e ▸ g3) g4
theorem a_ald {p n : Nat} {i : Int32} {K : Int32 → Option α} (hX : CX X cc mL own) (hs : shp[p]? = some (.inr (0, n))) (d : decode cc pc = .ok (.iaload, 1)) (hp : pc + 1 = pc1) (kk : ∀ x, AWo X r0 pc1 ls (.int x :: st) σ (K x)) : AWo X r0 pc ls (.int i :: .ref p :: st) σ (obind (ald σ p n i) K) := fun ho H locs lsA h1 h2 h3 h4 => by
  subst hp
  obtain ⟨x, hx, ho'⟩ := obind_inv ho
  obtain ⟨hi, rfl⟩ := ald_some hx
  exact va_iald hX.1 hX.2.1 hX.2.2.2.2.2.1 h2 p 0 (wd_get hs) rfl hi d (kk _ ho' H locs lsA h1 h2 h3 h4)
theorem a_aldS {p : Nat} {i : Int32} {K : Int32 → Option α} (hX : CX X cc mL own) (d : decode cc pc = .ok (.iaload, 1)) (hp : pc + 1 = pc1) (kk : ∀ x, AWo X r0 pc1 ls (.int x :: st) σ (K x)) : AWo X r0 pc ls (.int i :: .ref p :: st) σ (obind (arl p) fun n => obind (ald σ p n i) K) := fun ho => by
  obtain ⟨n, hn, ho'⟩ := obind_inv ho
  exact a_ald hX (arl_some hn) d hp kk ho'
theorem wd_setA {g : GX} {p n : Nat} {f : Nat → Int32} (hs : shp[p]? = some (.inr (0, n))) : (wd g σ).set p (gr g p, .inl (g.2.1, n, .inl f)) = wd g (setA σ p f) := by
  have := wd_set (g := g) (σ := σ) f hs
  rw [show sE g (setA σ p f) p (.inr (0, n)) = .inl (g.2.1, n, .inl f) from by simp [sE, setA]] at this
  exact this
theorem a_ast {p n : Nat} {i x : Int32} {K : Mem → Option α} (hX : CX X cc mL own) (hs : shp[p]? = some (.inr (0, n))) (d : decode cc pc = .ok (.iastore, 1)) (hp : pc + 1 = pc1) (kk : ∀ σ', AWo X r0 pc1 ls st σ' (K σ')) : AWo X r0 pc ls (.int x :: .int i :: .ref p :: st) σ (obind (ast σ p n i x) K) := fun ho H locs lsA h1 h2 h3 h4 => by
  subst hp
  obtain ⟨σ', hx, ho'⟩ := obind_inv ho
  obtain ⟨hi, rfl⟩ := ast_some hx
  refine va_iast hX.1 hX.2.1 hX.2.2.2.2.2.1 h2 h3 h4 p 0 (wd_get hs) rfl hi d (fun H1 locs1 g2 g3 g4 => ?_)
  have e := wd_setA (g := aG X) (σ := σ) (f := upd (σ p) i.toNatClampNeg x) hs
  exact kk _ ho' H1 locs1 lsA h1 (e ▸ g2) (e ▸ g3) g4
theorem a_astS {p : Nat} {i x : Int32} {K : Mem → Option α} (hX : CX X cc mL own) (d : decode cc pc = .ok (.iastore, 1)) (hp : pc + 1 = pc1) (kk : ∀ σ', AWo X r0 pc1 ls st σ' (K σ')) : AWo X r0 pc ls (.int x :: .int i :: .ref p :: st) σ (obind (arl p) fun n => obind (ast σ p n i x) K) := fun ho => by
  obtain ⟨n, hn, ho'⟩ := obind_inv ho
  exact a_ast hX (arl_some hn) d hp kk ho'
theorem recv_at {g : GX} {H : Heap} {s : State} {q ci : Nat} {fs : List (Option Nat)} {C : String} {T : u_T} {N : Nat} (hP : va_P (gD g) vwCl (wd g σ) H) (hK : va_K (gD g) vwCl (gT g) s) (hs : shp[q]? = some (.inl (ci, fs))) (hc : vwCl[ci]? = some (C, T, N)) : ∃ cellB : Cell, H[gr g q]? = some cellB ∧ cellB.vm.isStatics = false ∧ s.vm.findClass C = some cellB.cls := by
  obtain ⟨r, h1, cell, q1, q2, q3, q4⟩ := hP q _ (wd_get hs)
  have hr : r = (C, T, N) := Option.some.inj (h1.symm.trans hc)
  subst hr
  obtain ⟨hS, hfc, kC, hkC, hkind⟩ := hK.1 ci _ hc
  exact ⟨cell, q1, by rw [q3]; rfl, by rw [q2]; exact hfc⟩
theorem map_rev (f : Value → Value) (As : List Value) (q : Nat) (rest : List Value) : (As.reverse ++ .ref q :: rest).map f = (As.map f).reverse ++ f (.ref q) :: rest.map f := by simp
theorem cat_map {ρ : Nat → Nat} (l : List Value) : ((l.map (cv ρ)).map fun v => v.category) = l.map fun v => v.category := by
  rw [List.map_map]
  apply List.map_congr_left
  intro v _
  exact cv_cat v
theorem call_fin {g : GX} {σ' : Mem} {t : State} {s : State} {H1 : Heap} (e : t.heap = H1) (hb : HO g σ' t) : va_P (gD g) vwCl (wd g σ') H1 ∧ va_D (gA g) (wd g σ') := ⟨e ▸ hb.1, hb.2.2.1⟩
theorem a_callI {idx fr lo mLc n ci q frC loC : Nat} {y : MethodName} {b : ByteArray} {ret : Option FieldType} {As rest stk : List Value} {fs : List (Option Nat)} {T : u_T} {N : Nat} {ov : Option (Int32 × Mem)} {K : Int32 × Mem → Option α} (hX : CX X cc mL own) (hR : (aR X).frames = fr ∧ (aR X).locals = lo ∧ aCe X ≤ (aR X).cells ∧ aSl X ≤ (aR X).slots) (ml : MLV own idx y b mLc ret n) (hc : CI (aL X) y b mLc ret frC loC (.ref q :: As) σ ov) (hs : shp[q]? = some (.inl (ci, fs))) (hci : vwCl[ci]? = some (y.cls, T, N)) (hn : As.length = n) (hst : stk = As.reverse ++ .ref q :: rest) (hroom : frC + 1 ≤ fr ∧ 8 + (mLc + 11) + loC ≤ lo) (hw : (rest.map fun v => v.category).sum ≤ 8) (hl : ls.length = mL) (d : decode cc pc = .ok (.invokevirtual idx, 3)) (hp : pc + 3 = pc1) (kk : ∀ r : Int32 × Mem, AWo X r0 pc1 ls (.int r.1 :: rest) r.2 (K r)) : AWo X r0 pc ls stk σ (obind ov K) := fun ho H locs lsA h1 h2 h3 h4 => by
  subst hp; subst hst
  obtain ⟨r, hr, ho'⟩ := obind_inv ho
  have hts := hX.2.2.2.2.1
  have hM := hc (aG X) r hr
  rw [map_rev]
  have hcell := recv_at h2 hX.2.2.2.2.2.1 hs hci
  refine va_calli (va_runV (Ts := BIG) (As := As.map (cv (gr (aG X)))) (rest := rest.map (cv (gr (aG X)))) ⟨hX.1, hX.2.1, hX.2.2.1, hX.2.2.2.1, hts⟩ hM ⟨callB_of n hts (big_code ml.2.2.2.2.1) rfl rfl rfl (hts _ ml.2.2.2.1) (hts _ ml.1) ml.2.2.2.2.2 (by rw [hR.1, hR.2.1]; exact hroom), hts _ ml.2.1, hts _ ml.2.2.1⟩ ⟨HO.blind, hcell, fun U hU hW => ⟨rfl, HO.warm hW (by rw [hU]; exact h2) hX.2.2.2.2.2.1 h3 hX.2.2.2.2.2.2.1⟩⟩ rfl (by rw [List.length_map]; exact hn) (by rw [h1.1]; exact hl) rfl (lv_room (by rw [cat_map]; exact hw)) d ⟨hR.2.2.1, hR.2.2.2⟩) h4 (fun q _ h => h) (fun q h => h) (fun v u t H1 locs1 e1 e2 hv hb hz hk hS => ?_)
  subst hv
  obtain ⟨p1, p2⟩ := call_fin (s := aS X) e1 hb
  exact kk r ho' H1 locs1 lsA h1 p1 p2 hS
theorem a_callV {idx fr lo mLc n ci q frC loC : Nat} {y : MethodName} {b : ByteArray} {As rest stk : List Value} {fs : List (Option Nat)} {T : u_T} {N : Nat} {ov : Option (Int32 × Mem)} {K : Int32 × Mem → Option α} (hX : CX X cc mL own) (hR : (aR X).frames = fr ∧ (aR X).locals = lo ∧ aCe X ≤ (aR X).cells ∧ aSl X ≤ (aR X).slots) (ml : MLV own idx y b mLc none n) (hc : CV (aL X) y b mLc frC loC (.ref q :: As) σ ov) (hs : shp[q]? = some (.inl (ci, fs))) (hci : vwCl[ci]? = some (y.cls, T, N)) (hn : As.length = n) (hst : stk = As.reverse ++ .ref q :: rest) (hroom : frC + 1 ≤ fr ∧ 8 + (mLc + 11) + loC ≤ lo) (hw : (rest.map fun v => v.category).sum ≤ 8) (hl : ls.length = mL) (d : decode cc pc = .ok (.invokevirtual idx, 3)) (hp : pc + 3 = pc1) (kk : ∀ r : Int32 × Mem, AWo X r0 pc1 ls rest r.2 (K r)) : AWo X r0 pc ls stk σ (obind ov K) := fun ho H locs lsA h1 h2 h3 h4 => by
  subst hp; subst hst
  obtain ⟨r, hr, ho'⟩ := obind_inv ho
  have hts := hX.2.2.2.2.1
  have hM := hc (aG X) r hr
  rw [map_rev]
  have hcell := recv_at h2 hX.2.2.2.2.2.1 hs hci
  refine va_callv (va_runV (Ts := BIG) (As := As.map (cv (gr (aG X)))) (rest := rest.map (cv (gr (aG X)))) ⟨hX.1, hX.2.1, hX.2.2.1, hX.2.2.2.1, hts⟩ hM ⟨callB_of n hts (big_code ml.2.2.2.2.1) rfl rfl rfl (hts _ ml.2.2.2.1) (hts _ ml.1) ml.2.2.2.2.2 (by rw [hR.1, hR.2.1]; exact hroom), hts _ ml.2.1, hts _ ml.2.2.1⟩ ⟨HO.blind, hcell, fun U hU hW => ⟨rfl, HO.warm hW (by rw [hU]; exact h2) hX.2.2.2.2.2.1 h3 hX.2.2.2.2.2.2.1⟩⟩ rfl (by rw [List.length_map]; exact hn) (by rw [h1.1]; exact hl) rfl (lv_room (by rw [cat_map]; exact hw)) d ⟨hR.2.2.1, hR.2.2.2⟩) h4 (fun q _ h => h) (fun q h => h) (fun u t H1 locs1 e1 e2 hv hb hz hk hS => ?_)
  obtain ⟨p1, p2⟩ := call_fin (s := aS X) e1 hb
  exact kk r ho' H1 locs1 lsA h1 p1 p2 hS
theorem map_rev2 (f : Value → Value) (As : List Value) (rest : List Value) : (As.reverse ++ rest).map f = (As.map f).reverse ++ rest.map f := by simp
theorem a_callSI {idx fr lo mLc n frC loC : Nat} {y : MethodName} {b : ByteArray} {ret : Option FieldType} {As rest stk : List Value} {ov : Option (Int32 × Mem)} {K : Int32 × Mem → Option α} (hX : CX X cc mL own) (hR : (aR X).frames = fr ∧ (aR X).locals = lo ∧ aCe X ≤ (aR X).cells ∧ aSl X ≤ (aR X).slots) (ml : MLS own idx y b mLc ret n) (hc : CI (aL X) y b mLc ret frC loC As σ ov) (hn : As.length = n) (hst : stk = As.reverse ++ rest) (hroom : frC + 1 ≤ fr ∧ 8 + (mLc + 11) + loC ≤ lo) (hw : (rest.map fun v => v.category).sum ≤ 8) (hl : ls.length = mL) (d : decode cc pc = .ok (.invokestatic idx, 3)) (hp : pc + 3 = pc1) (kk : ∀ r : Int32 × Mem, AWo X r0 pc1 ls (.int r.1 :: rest) r.2 (K r)) : AWo X r0 pc ls stk σ (obind ov K) := fun ho H locs lsA h1 h2 h3 h4 => by
  subst hp; subst hst
  obtain ⟨r, hr, ho'⟩ := obind_inv ho
  have hts := hX.2.2.2.2.1
  have hM := hc (aG X) r hr
  rw [map_rev2]
  refine va_calli (va_runS (Ts := BIG) (As := As.map (cv (gr (aG X)))) (rest := rest.map (cv (gr (aG X)))) ⟨hX.1, hX.2.1, hX.2.2.1, hX.2.2.2.1, hts⟩ hM ⟨callB_of n hts (big_code ml.2.2.2.1) rfl rfl rfl (hts _ ml.2.2.1) (hts _ ml.1) ml.2.2.2.2 (by rw [hR.1, hR.2.1]; exact hroom), hts _ ml.2.1⟩ ⟨HO.blind, fun U hU hW => ⟨rfl, HO.warm hW (by rw [hU]; exact h2) hX.2.2.2.2.2.1 h3 hX.2.2.2.2.2.2.1⟩⟩ rfl (by rw [List.length_map]; exact hn) (by rw [h1.1]; exact hl) rfl (lv_room (by rw [cat_map]; exact hw)) d ⟨hR.2.2.1, hR.2.2.2⟩) h4 (fun q _ h => h) (fun q h => h) (fun v u t H1 locs1 e1 e2 hv hb hz hk hS => ?_)
  subst hv
  obtain ⟨p1, p2⟩ := call_fin (s := aS X) e1 hb
  exact kk r ho' H1 locs1 lsA h1 p1 p2 hS
theorem a_callSV {idx fr lo mLc n frC loC : Nat} {y : MethodName} {b : ByteArray} {As rest stk : List Value} {ov : Option (Int32 × Mem)} {K : Int32 × Mem → Option α} (hX : CX X cc mL own) (hR : (aR X).frames = fr ∧ (aR X).locals = lo ∧ aCe X ≤ (aR X).cells ∧ aSl X ≤ (aR X).slots) (ml : MLS own idx y b mLc none n) (hc : CV (aL X) y b mLc frC loC As σ ov) (hn : As.length = n) (hst : stk = As.reverse ++ rest) (hroom : frC + 1 ≤ fr ∧ 8 + (mLc + 11) + loC ≤ lo) (hw : (rest.map fun v => v.category).sum ≤ 8) (hl : ls.length = mL) (d : decode cc pc = .ok (.invokestatic idx, 3)) (hp : pc + 3 = pc1) (kk : ∀ r : Int32 × Mem, AWo X r0 pc1 ls rest r.2 (K r)) : AWo X r0 pc ls stk σ (obind ov K) := fun ho H locs lsA h1 h2 h3 h4 => by
  subst hp; subst hst
  obtain ⟨r, hr, ho'⟩ := obind_inv ho
  have hts := hX.2.2.2.2.1
  have hM := hc (aG X) r hr
  rw [map_rev2]
  refine va_callv (va_runS (Ts := BIG) (As := As.map (cv (gr (aG X)))) (rest := rest.map (cv (gr (aG X)))) ⟨hX.1, hX.2.1, hX.2.2.1, hX.2.2.2.1, hts⟩ hM ⟨callB_of n hts (big_code ml.2.2.2.1) rfl rfl rfl (hts _ ml.2.2.1) (hts _ ml.1) ml.2.2.2.2 (by rw [hR.1, hR.2.1]; exact hroom), hts _ ml.2.1⟩ ⟨HO.blind, fun U hU hW => ⟨rfl, HO.warm hW (by rw [hU]; exact h2) hX.2.2.2.2.2.1 h3 hX.2.2.2.2.2.2.1⟩⟩ rfl (by rw [List.length_map]; exact hn) (by rw [h1.1]; exact hl) rfl (lv_room (by rw [cat_map]; exact hw)) d ⟨hR.2.2.1, hR.2.2.2⟩) h4 (fun q _ h => h) (fun q h => h) (fun u t H1 locs1 e1 e2 hv hb hz hk hS => ?_)
  obtain ⟨p1, p2⟩ := call_fin (s := aS X) e1 hb
  exact kk r ho' H1 locs1 lsA h1 p1 p2 hS
theorem a_callNI {idx fr lo mLc n frC loC : Nat} {y : MethodName} {b : ByteArray} {ret : Option FieldType} {As rest stk : List Value} {ov : Option (Int32 × Mem)} {K : Int32 × Mem → Option α} (hX : CX X cc mL own) (hR : (aR X).frames = fr ∧ (aR X).locals = lo ∧ aCe X ≤ (aR X).cells ∧ aSl X ≤ (aR X).slots) (ml : MLN own idx y b mLc ret n) (hc : CI (aL X) y b mLc ret frC loC As σ ov) (hn : As.length = n) (hst : stk = As.reverse ++ rest) (hroom : frC + 1 ≤ fr ∧ 8 + (mLc + 11) + loC ≤ lo) (hw : (rest.map fun v => v.category).sum ≤ 8) (hl : ls.length = mL) (d : decode cc pc = .ok (.invokestatic idx, 3)) (hp : pc + 3 = pc1) (kk : ∀ r : Int32 × Mem, AWo X r0 pc1 ls (.int r.1 :: rest) r.2 (K r)) : AWo X r0 pc ls stk σ (obind ov K) := fun ho H locs lsA h1 h2 h3 h4 => by
  subst hp; subst hst
  obtain ⟨r, hr, ho'⟩ := obind_inv ho
  have hts := hX.2.2.2.2.1
  have hM := hc (aG X) r hr
  rw [map_rev2]
  refine va_calli (va_runSN (host := RX11) (Ts := BIG) (As := As.map (cv (gr (aG X)))) (rest := rest.map (cv (gr (aG X)))) ⟨hX.1, hX.2.1, hX.2.2.1, hX.2.2.2.1, hts⟩ hM ⟨va_cnB n hts (big_code ml.2.2.2.1) rfl rfl rfl (hX.2.2.2.2.2.2.1 _ ml.1) (hts _ ml.2.2.1) ml.2.2.2.2 (by rw [hR.1, hR.2.1]; exact hroom), hts _ ml.2.1, trivial⟩ ⟨HO.blind, fun U hU hW => ⟨rfl, HO.warm hW (by rw [hU]; exact h2) hX.2.2.2.2.2.1 h3 hX.2.2.2.2.2.2.1⟩⟩ rfl (by rw [List.length_map]; exact hn) (by rw [h1.1]; exact hl) rfl (lv_room (by rw [cat_map]; exact hw)) d ⟨hR.2.2.1, hR.2.2.2⟩) h4 (fun q _ h => h) (fun q h => h) (fun v u t H1 locs1 e1 e2 hv hb hz hk hS => ?_)
  subst hv
  obtain ⟨p1, p2⟩ := call_fin (s := aS X) e1 hb
  exact kk r ho' H1 locs1 lsA h1 p1 p2 hS
end ROWS2
theorem a_name {α : Type} {X : AX} {r0 : α} {pc : Nat} {ls : List (Option Value)} {st : List Value} {σ : Mem} {x : Int32} {K : Int32 → Option α} (kk : ∀ y, AWo X r0 pc ls (.int y :: st) σ (K y)) : AWo X r0 pc ls (.int x :: st) σ (obind (some x) K) := kk x
theorem a_nameM {α : Type} {X : AX} {r0 : α} {pc : Nat} {ls : List (Option Value)} {st : List Value} {σ : Mem} {K : Mem → Option α} (kk : ∀ m, AWo X r0 pc ls st m (K m)) : AWo X r0 pc ls st σ (obind (some σ) K) := kk σ
theorem ls_0 : lsub [] [] := trivial
theorem ls_n {o : Option Value} {t t' : List (Option Value)} (h : lsub t t') : lsub (none :: t) (o :: t') := h
theorem ls_s {v : Value} {t t' : List (Option Value)} (h : lsub t t') : lsub (some v :: t) (some v :: t') := ⟨rfl, h⟩
def FU : Nat := 4000000
/-! ===== a method's end and start ===== -/
section ENDS
variable {X : AX} {r0 : Int32 × Mem} {cc : ByteArray} {mL : Nat} {own : String} {pc : Nat} {ls : List (Option Value)} {σ : Mem}
def QI (X : AX) (r0 : Int32 × Mem) : Prop := aQ X = MQ (aBelow X) (va_Qi (fun v (_ : Unit) => v = r0.1) (fun _ t => HO (aG X) r0.2 t) (gA (aG X))) (aArgs X) (aS X) (aCe X) (aSl X) (gA (aG X))
def QV (X : AX) (r0 : Int32 × Mem) : Prop := aQ X = MQ (aBelow X) (va_Qv (fun (_ : Unit) => True) (fun _ t => HO (aG X) r0.2 t) (gA (aG X))) (aArgs X) (aS X) (aCe X) (aSl X) (gA (aG X))
theorem a_iret {v : Int32} (hX : CX X cc mL own) (hQ : QI X r0) (hr : (aMeth X).sig.returnType = some .int) (d : decode cc pc = .ok (.ireturn, 1)) : AWo X r0 pc ls [.int v] σ (some (v, σ)) := fun ho H locs lsA h1 h2 h3 h4 => by
  cases ho
  rw [hQ]
  exact W.iret (v := v) hX.1 hX.2.1 hr (fun t ht hW => ⟨⟨v, (), rfl, rfl, HO.warm hW (by rw [ht]; exact h2) hX.2.2.2.2.2.1 h3 hX.2.2.2.2.2.2.1⟩, h4.F ht⟩) h4.2.2 d hX.2.2.2.2.2.2.2.1
theorem a_zret0 {v : Int32} (hz : v = 0 ∨ v = 1) (hX : CX X cc mL own) (hQ : QI X r0) (hr : (aMeth X).sig.returnType = some .boolean) (d : decode cc pc = .ok (.ireturn, 1)) : AWo X r0 pc ls [.int v] σ (some (v, σ)) := fun ho H locs lsA h1 h2 h3 h4 => by
  cases ho
  rw [hQ]
  exact W.zret (v := v) hX.1 hX.2.1 hr (by rcases hz with rfl | rfl <;> rfl) (fun t ht hW => ⟨⟨v, (), rfl, rfl, HO.warm hW (by rw [ht]; exact h2) hX.2.2.2.2.2.1 h3 hX.2.2.2.2.2.2.1⟩, h4.F ht⟩) h4.2.2 d hX.2.2.2.2.2.2.2.1
theorem a_zret {v : Int32} (hX : CX X cc mL own) (hQ : QI X r0) (hr : (aMeth X).sig.returnType = some .boolean) (d : decode cc pc = .ok (.ireturn, 1)) : AWo X r0 pc ls [.int v] σ (obind (zchk v) fun z => some (z, σ)) := fun ho => by
  obtain ⟨z, hz, ho1⟩ := obind_inv ho
  obtain ⟨rfl, hz01⟩ := zchk_some hz
  exact a_zret0 hz01 hX hQ hr d ho1
theorem a_vret (hX : CX X cc mL own) (hQ : QV X r0) (hr : (aMeth X).sig.returnType = none) (d : decode cc pc = .ok (.return_, 1)) : AWo X r0 pc ls [] σ (some (0, σ)) := fun ho H locs lsA h1 h2 h3 h4 => by
  cases ho
  rw [hQ]
  exact W.vret hX.1 hX.2.1 hr (fun t ht hW => ⟨⟨(), rfl, trivial, HO.warm hW (by rw [ht]; exact h2) hX.2.2.2.2.2.1 h3 hX.2.2.2.2.2.2.1⟩, h4.F ht⟩) h4.2.2 d hX.2.2.2.2.2.2.2.1
end ENDS
theorem lv_args_get {ρ : Nat → Nat} : ∀ (as : List Value) (b i : Nat) (v : Value), (∀ u ∈ as, u.category = 1) → as[i]? = some v → (b + i, cv ρ v) ∈ lv_args b (as.map (cv ρ))
  | [], b, i, v, _, h => by simp at h
  | a :: t, b, 0, v, hc, h => by
    have e : a = v := by simpa using h
    subst e
    simp [lv_args]
  | a :: t, b, i + 1, v, hc, h => by
    have h1 := lv_args_get (ρ := ρ) t (b + 1) i v (fun u hu => hc u (List.mem_cons_of_mem _ hu)) (by simpa using h)
    have h2 : (cv ρ a).category = 1 := by rw [cv_cat]; exact hc a List.mem_cons_self
    simp only [List.map_cons, lv_args, h2]
    rw [show b + (i + 1) = b + 1 + i by omega]
    exact List.mem_cons_of_mem _ h1
theorem lg_sl_len {ρ : Nat → Nat} : ∀ (as : List Value), (∀ u ∈ as, u.category = 1) → (lg_sl (as.map (cv ρ))).length = as.length
  | [], _ => rfl
  | a :: t, hc => by
    have h1 := lg_sl_len (ρ := ρ) t (fun u hu => hc u (List.mem_cons_of_mem _ hu))
    have h2 : (cv ρ a).category = 1 := by rw [cv_cat]; exact hc a List.mem_cons_self
    unfold lg_sl at h1 ⊢
    simp only [List.map_cons, List.flatMap_cons, List.length_append, h1]
    simp [h2]
    omega
theorem lvO_entry {ρ : Nat → Nat} (as : List Value) (mL : Nat) (hc : ∀ u ∈ as, u.category = 1) (hn : as.length ≤ mL) : lvO ρ ((lg_sl (as.map (cv ρ)) ++ List.replicate (mL - (lg_sl (as.map (cv ρ))).length) Slot.unset).toArray) (as.map some ++ List.replicate (mL - as.length) none) := by
  have hl := lv_entry (as.map (cv ρ)) (n := mL) (by rw [lg_sl_len as hc]; exact hn)
  refine ⟨by rw [hl.1]; simp; omega, hl.2.1, fun i v hv => ?_⟩
  have hi : i < as.length := by
    apply Nat.lt_of_not_le
    intro h
    rw [List.getElem?_append_right (by simpa using h)] at hv
    have := List.mem_of_getElem? hv
    simp at this
  rw [List.getElem?_append_left (by simpa using hi)] at hv
  have hv2 : as[i]? = some v := by simpa using hv
  have hm := lv_args_get (ρ := ρ) as 0 i v hc hv2
  rw [Nat.zero_add] at hm
  exact ⟨hl.2.2 _ hm, hc v (List.mem_of_getElem? hv2)⟩
theorem ci_of {l : Launch} {y : MethodName} {b : ByteArray} {mL fr lo : Nat} {ret : Option FieldType} {as : List Value} {σ : Mem} {oo : Option (Int32 × Mem)} (hy : plainName y.cls = true) (hc : ∀ u ∈ as, u.category = 1) (hn : as.length ≤ mL)
    (body : ∀ (X : AX) (r : Int32 × Mem), aL X = l → CX X b mL y.cls → (aR X).frames = fr ∧ (aR X).locals = lo ∧ aCe X ≤ (aR X).cells ∧ aSl X ≤ (aR X).slots → QI X r → (aMeth X).sig.returnType = ret → AWo X r 0 (as.map some ++ List.replicate (mL - as.length) none) [] σ oo) : CI l y b mL ret fr lo as σ oo := by
  intro g r hoo
  refine Met.ofW (cc := b) (maxL := mL) (ret := ret) hy rfl ?_
  intro p e s m args below meth c s₁ B hml hv
  obtain ⟨rfl, hP, hK, hD, hN⟩ := hv
  have hts := atoms_spec (ws := .code y b mL ret :: BIG) B.pre
  rw [lg_entry_eq]
  by_cases hb : ∀ q, s.heap.size ≤ q → gb g ≤ q
  · exact body (p, l, e, rmOf fr lo, s, m, (as.map (cv (gr g))).toArray, below, meth, c, g, MQ below (va_Qi (fun v (_ : Unit) => v = r.1) (fun _ t => HO g r.2 t) (gA g)) (as.map (cv (gr g))).toArray s 0 0 (gA g), 0, 0) r rfl
      ⟨B.exec, B.bytes, hml, findClass_of_methodNamed B.named, fun w hw => hts w (List.mem_cons_of_mem _ hw), hK, hN, B.notSynchronized, hb⟩ ⟨rfl, rfl, Nat.le_refl _, Nat.le_refl _⟩ rfl B.returns hoo s.heap [] _ (lvO_entry as mL hc hn) hP hD va_S.rf
  · exfalso
    apply hb
    intro q hq
    have h0 := hP 0 _ (wd_get s_0)
    have h1 := hD.2 0 _ (wd_get (g := g) (σ := σ) s_0)
    have h2 := h0.lt
    exact Nat.le_trans h1 (Nat.le_trans (Nat.le_of_lt h2) hq)
theorem cv_of {l : Launch} {y : MethodName} {b : ByteArray} {mL fr lo : Nat} {as : List Value} {σ : Mem} {oo : Option (Int32 × Mem)} (hy : plainName y.cls = true) (hc : ∀ u ∈ as, u.category = 1) (hn : as.length ≤ mL)
    (body : ∀ (X : AX) (r : Int32 × Mem), aL X = l → CX X b mL y.cls → (aR X).frames = fr ∧ (aR X).locals = lo ∧ aCe X ≤ (aR X).cells ∧ aSl X ≤ (aR X).slots → QV X r → (aMeth X).sig.returnType = none → AWo X r 0 (as.map some ++ List.replicate (mL - as.length) none) [] σ oo) : CV l y b mL fr lo as σ oo := by
  intro g r hoo
  refine Met.ofW (cc := b) (maxL := mL) (ret := none) hy rfl ?_
  intro p e s m args below meth c s₁ B hml hv
  obtain ⟨rfl, hP, hK, hD, hN⟩ := hv
  have hts := atoms_spec (ws := .code y b mL none :: BIG) B.pre
  rw [lg_entry_eq]
  by_cases hb : ∀ q, s.heap.size ≤ q → gb g ≤ q
  · exact body (p, l, e, rmOf fr lo, s, m, (as.map (cv (gr g))).toArray, below, meth, c, g, MQ below (va_Qv (fun (_ : Unit) => True) (fun _ t => HO g r.2 t) (gA g)) (as.map (cv (gr g))).toArray s 0 0 (gA g), 0, 0) r rfl
      ⟨B.exec, B.bytes, hml, findClass_of_methodNamed B.named, fun w hw => hts w (List.mem_cons_of_mem _ hw), hK, hN, B.notSynchronized, hb⟩ ⟨rfl, rfl, Nat.le_refl _, Nat.le_refl _⟩ rfl B.returns hoo s.heap [] _ (lvO_entry as mL hc hn) hP hD va_S.rf
  · exfalso
    apply hb
    intro q hq
    have h0 := hP 0 _ (wd_get s_0)
    have h1 := hD.2 0 _ (wd_get (g := g) (σ := σ) s_0)
    have h2 := h0.lt
    exact Nat.le_trans h1 (Nat.le_trans (Nat.le_of_lt h2) hq)
end
section
/-! ===== worlds that grow: the constructors ===== -/
abbrev GE : Type := (Nat × List Value) ⊕ (Nat × Nat × (Nat → Int32))
def gE (g : GX) (ρ : Nat → Nat) : GE → va_E
  | .inl o => .inr (o.1, o.2.map (cv ρ))
  | .inr (0, a) => .inl (g.2.1, a.1, .inl a.2)
  | .inr (_, a) => .inl (g.2.2.1, a.1, .inl a.2)
def gwL (g : GX) (ρ : Nat → Nat) : Nat → List GE → va_W
  | _, [] => []
  | k, e :: t => (ρ k, gE g ρ e) :: gwL g ρ (k + 1) t
theorem gwL_get (g : GX) (ρ : Nat → Nat) : ∀ (L : List GE) (b i : Nat), (gwL g ρ b L)[i]? = (L[i]?).map fun e => (ρ (b + i), gE g ρ e)
  | [], b, i => by simp [gwL]
  | e :: t, b, 0 => by simp [gwL]
  | e :: t, b, i + 1 => by
    simp only [gwL, List.getElem?_cons_succ]
    rw [gwL_get g ρ t (b + 1) i, show b + 1 + i = b + (i + 1) by omega]
theorem gwL_len (g : GX) (ρ : Nat → Nat) : ∀ (L : List GE) (b : Nat), (gwL g ρ b L).length = L.length
  | [], b => rfl
  | e :: t, b => by simp [gwL, gwL_len g ρ t]
abbrev gw (g : GX) (ρ : Nat → Nat) (ws : List GE) : va_W := gwL g ρ 0 ws
theorem gw_get {g : GX} {ρ : Nat → Nat} {ws : List GE} {k : Nat} {e : GE} (h : ws[k]? = some e) : (gw g ρ ws)[k]? = some (ρ k, gE g ρ e) := by
  rw [gwL_get, h]
  simp
theorem gw_set {g : GX} {ρ : Nat → Nat} {ws : List GE} {k : Nat} {e0 : GE} (e : GE) (h : ws[k]? = some e0) : (gw g ρ ws).set k (ρ k, gE g ρ e) = gw g ρ (ws.set k e) := by
  apply List.ext_getElem?
  intro i
  have hk : k < ws.length := (List.getElem?_eq_some_iff.mp h).1
  rw [List.getElem?_set, gwL_get, gwL_get, List.getElem?_set, gwL_len]
  by_cases hi : k = i
  · subst hi
    simp [hk]
  · simp [hi]
theorem gw_push {g : GX} {ρ : Nat → Nat} {ws : List GE} (e : GE) : gw g ρ ws ++ [(ρ ws.length, gE g ρ e)] = gw g ρ (ws ++ [e]) := by
  apply List.ext_getElem?
  intro i
  rw [gwL_get]
  by_cases hi : i < ws.length
  · rw [List.getElem?_append_left (by rw [gwL_len]; exact hi), List.getElem?_append_left hi, gwL_get]
  · rw [List.getElem?_append_right (by rw [gwL_len]; omega), List.getElem?_append_right (by omega), gwL_len]
    by_cases h0 : i = ws.length
    · subst h0
      simp
    · rw [List.getElem?_eq_none (by simp; omega), List.getElem?_eq_none (by simp; omega)]
      rfl
def bnd (n : Nat) : Value → Bool
  | .ref k => decide (k < n)
  | _ => true
def wfG (n : Nat) (ws : List GE) : Bool := ws.all fun e => match e with
  | .inl o => o.2.all (bnd n)
  | .inr _ => true
theorem cv_agree {ρ ρ' : Nat → Nat} {n : Nat} (h : ∀ k, k < n → ρ' k = ρ k) {v : Value} (hv : bnd n v = true) : cv ρ' v = cv ρ v := by
  cases v <;> first | rfl | (simp only [bnd, decide_eq_true_eq] at hv; simp only [cv, h _ hv])
theorem gE_agree {g : GX} {ρ ρ' : Nat → Nat} {n : Nat} (h : ∀ k, k < n → ρ' k = ρ k) {e : GE} (he : (match e with | .inl o => o.2.all (bnd n) | .inr _ => true) = true) : gE g ρ' e = gE g ρ e := by
  rcases e with o | ⟨t, a⟩
  · simp only [gE]
    congr 2
    apply List.map_congr_left
    intro v hv
    exact cv_agree h (List.all_eq_true.mp he v hv)
  · match t with
    | 0 => rfl
    | _ + 1 => rfl
theorem gw_agree {g : GX} {ρ ρ' : Nat → Nat} {ws : List GE} (h : ∀ k, k < ws.length → ρ' k = ρ k) (hw : wfG ws.length ws = true) : gw g ρ' ws = gw g ρ ws := by
  apply List.ext_getElem?
  intro i
  rw [gwL_get, gwL_get]
  cases hi : ws[i]? with
  | none => rfl
  | some e =>
    have hl : i < ws.length := (List.getElem?_eq_some_iff.mp hi).1
    have he := List.all_eq_true.mp hw e (List.mem_of_getElem? hi)
    simp only [Option.map_some, Nat.zero_add, h i hl]
    rw [gE_agree h he]
theorem map_agree {ρ ρ' : Nat → Nat} {n : Nat} (h : ∀ k, k < n → ρ' k = ρ k) {l : List Value} (hl : l.all (bnd n) = true) : l.map (cv ρ') = l.map (cv ρ) := by
  apply List.map_congr_left
  intro v hv
  exact cv_agree h (List.all_eq_true.mp hl v hv)
def obnd (n : Nat) (o : Option Value) : Bool := match o with
  | some v => bnd n v
  | none => true
theorem lvO_agree {ρ ρ' : Nat → Nat} {n : Nat} (h : ∀ k, k < n → ρ' k = ρ k) {lsA : Array Slot} {ls : List (Option Value)} (hl : ls.all (obnd n) = true) (hv : lvO ρ lsA ls) : lvO ρ' lsA ls := by
  refine ⟨hv.1, hv.2.1, fun i v hi => ?_⟩
  obtain ⟨h1, h2⟩ := hv.2.2 i v hi
  rw [cv_agree h (List.all_eq_true.mp hl (some v) (List.mem_of_getElem? hi))]
  exact ⟨h1, h2⟩
def nestG : List (String × Nat × MethodName) := [(RX10, 11, yX9_init), (RX10, 20, yX6_init), (RX10, 27, yX4_init), (RX10, 34, yX2_init), (RX11, 43, yX3_init)]
def NG (U : State) : Prop := ∀ q ∈ nestG, va_Nw (.methodLinkNest q.1 q.2.1 q.2.2 RX11) U
theorem NG.warm {s U : State} (hW : s.WarmedH U.vm) (h : NG s) : NG U := fun q hq => va_Nw.warmM hW (h q hq)
theorem NG.same {u U : State} (e : u.vm = U.vm) (h : NG u) : NG U := fun q hq => va_Nw.same rfl e (h q hq)
def HG (g : GX) (ρ : Nat → Nat) (ws : List GE) (U : State) : Prop := va_P (gD g) vwCl (gw g ρ ws) U.heap ∧ va_K (gD g) vwCl (gT g) U ∧ va_D (gA g) (gw g ρ ws) ∧ NN U ∧ NG U ∧ ∀ q, U.heap.size ≤ q → gb g ≤ q
theorem HG.blind {g : GX} {ρ : Nat → Nat} {ws : List GE} {as : List Value} : FrameBlind (va_Pc as (HG g ρ ws)) := fun a U gg mk q => ⟨q.1, q.2.1, va_K.moved (u := U) (U := U.calling gg mk a) (Vm.Alike.refl U.vm) q.2.2.1, q.2.2.2.1, NN.same rfl q.2.2.2.2.1, NG.same rfl q.2.2.2.2.2.1, q.2.2.2.2.2.2⟩
abbrev rmG (fr lo mc ms : Nat) : Room := { frames := fr, cells := mc, slots := ms, locals := lo }
/-- a constructor's contract: the world ws becomes ws' -/
def CG (l : Launch) (y : MethodName) (b : ByteArray) (mL fr lo mc ms : Nat) (as : List Value) (ws ws' : List GE) : Prop :=
  ∀ (g : GX) (ρ : Nat → Nat), Met l y (.code y b mL none :: BIG) (rmG fr lo mc ms) (va_Pc (as.map (cv ρ)) (HG g ρ ws)) (va_Qv (fun ρ' : Nat → Nat => ∀ k, k < ws.length → ρ' k = ρ k) (fun ρ' t => va_P (gD g) vwCl (gw g ρ' ws') t.heap ∧ va_D (gA g) (gw g ρ' ws')) (gA g)) mc ms (gA g)
/-- the judgement in a constructor: n0 is the length of the world at its start, ρ0 its places -/
def AG (X : AX) (ρ0 : Nat → Nat) (n0 ce sl pc : Nat) (ls : List (Option Value)) (st : List Value) (ws : List GE) : Prop :=
  ∀ (ρ : Nat → Nat) (H : Heap) (locs : List Loc) (lsA : Array Slot), (∀ k, k < n0 → ρ k = ρ0 k) → lvO ρ lsA ls → va_P (gD (aG X)) vwCl (gw (aG X) ρ ws) H → va_D (gA (aG X)) (gw (aG X) ρ ws) → va_S (gA (aG X)) (aS X).heap H locs →
    W (aP X) (aL X) (aEn X) (aR X) (aS X) (aM X) (aArgs X) (aBelow X) (aMeth X) (aC X) H locs ce sl (aQ X) (F0 (aM X) pc lsA (st.map (cv ρ)))
def CGX (X : AX) (cc : ByteArray) (mL : Nat) (own : String) : Prop := CX X cc mL own ∧ NG (aS X)
def NWF (own : String) (idx ci N : Nat) (fs : List Value) : Prop := ∃ (C : String) (T : u_T) (ty : Nat → FieldType), vwCl[ci]? = some (C, T, N) ∧ (∀ w ∈ u_ws C T N, w ∈ BIG) ∧ (∀ k, k < N → parseFieldDescriptor (T k).2.2.1 = some (ty k)) ∧ Cond.classLink own idx C ∈ BIG ∧ Cond.instantiable C N ∈ BIG ∧ Cond.initialized C ∈ BIG ∧ (∀ j, j < N → defaultValue (ty j) = vp_V fs j) ∧ fs.all (bnd 0) = true
/-- a field that a constructor writes: final, or not -/
def FPG (own : String) (idx ci k : Nat) (ty : FieldType) : Prop := ∃ (C : String) (T : u_T) (N : Nat) (ty0 : Nat → FieldType), vwCl[ci]? = some (C, T, N) ∧ k < N ∧ (∀ w ∈ u_ws C T N, w ∈ BIG) ∧ Cond.fieldLink own idx (T k).1 (T k).2.1 (T k).2.2.1 ∈ BIG ∧ (∀ k, k < N → parseFieldDescriptor (T k).2.2.1 = some (ty0 k)) ∧ (∀ a, a < N → ∀ b, b < N → a ≠ b → (T a).2.1 ≠ (T b).2.1) ∧ ((T k).2.2.2 = false ∨ ((T k).2.2.2 = true ∧ (T k).1 = own)) ∧ parseFieldDescriptor (T k).2.2.1 = some ty
section GROWS
variable {X : AX} {cc : ByteArray} {mL : Nat} {own : String} {ρ0 : Nat → Nat} {n0 ce sl pc pc1 : Nat} {ls : List (Option Value)} {st : List Value} {ws : List GE}
theorem g_al {i : Nat} {k4 : Fin 4} {x : Nat} (hX : CGX X cc mL own) (d : decode cc pc = .ok (.aload_n k4, 1)) (hi : (k4 : Nat) = i) (hl : ls[i]? = some (some (.ref x))) (hp : pc + 1 = pc1) (k : AG X ρ0 n0 ce sl pc1 ls (.ref x :: st) ws) : AG X ρ0 n0 ce sl pc ls st ws := fun ρ H locs lsA hρ h1 h2 h3 h4 => by
  subst hp
  exact lv_aload_n (x := ρ x) hX.1.1 hX.1.2.1 d hi (h1.2.2 i _ hl).1 (k ρ H locs lsA hρ h1 h2 h3 h4)
theorem g_il {i : Nat} {k4 : Fin 4} {x : Int32} (hX : CGX X cc mL own) (d : decode cc pc = .ok (.iload_n k4, 1)) (hi : (k4 : Nat) = i) (hl : ls[i]? = some (some (.int x))) (hp : pc + 1 = pc1) (k : AG X ρ0 n0 ce sl pc1 ls (.int x :: st) ws) : AG X ρ0 n0 ce sl pc ls st ws := fun ρ H locs lsA hρ h1 h2 h3 h4 => by
  subst hp
  exact lv_iload_n hX.1.1 hX.1.2.1 d hi (h1.2.2 i _ hl).1 (k ρ H locs lsA hρ h1 h2 h3 h4)
theorem g_is {i : Nat} {k4 : Fin 4} {x : Int32} (hX : CGX X cc mL own) (d : decode cc pc = .ok (.istore_n k4, 1)) (hi : (k4 : Nat) = i) (hn : i < ls.length) (hp : pc + 1 = pc1) (k : AG X ρ0 n0 ce sl pc1 (ls.set i (some (.int x))) st ws) : AG X ρ0 n0 ce sl pc ls (.int x :: st) ws := fun ρ H locs lsA hρ h1 h2 h3 h4 => by
  subst hp
  exact lv_istore_n hX.1.1 hX.1.2.1 d hi (lvO_has h1) hn rfl (fun ls' hl' => k ρ H locs ls' hρ (lvO_put (v := .int x) rfl (lvO_cat h1) hn hl') h2 h3 h4)
theorem g_as {i : Nat} {k4 : Fin 4} {x : Nat} (hX : CGX X cc mL own) (d : decode cc pc = .ok (.astore_n k4, 1)) (hi : (k4 : Nat) = i) (hn : i < ls.length) (hp : pc + 1 = pc1) (k : AG X ρ0 n0 ce sl pc1 (ls.set i (some (.ref x))) st ws) : AG X ρ0 n0 ce sl pc ls (.ref x :: st) ws := fun ρ H locs lsA hρ h1 h2 h3 h4 => by
  subst hp
  exact lv_astore_n (x := ρ x) hX.1.1 hX.1.2.1 d hi (lvO_has h1) hn rfl (fun ls' hl' => k ρ H locs ls' hρ (lvO_put (v := .ref x) rfl (lvO_cat h1) hn hl') h2 h3 h4)
theorem g_inc {i : Nat} {x v : Int32} {n : Int} (hX : CGX X cc mL own) (d : decode cc pc = .ok (.iinc i n, 3)) (hl : ls[i]? = some (some (.int x))) (hn : i < ls.length) (hv : x + Int32.ofInt n = v) (hp : pc + 3 = pc1) (k : AG X ρ0 n0 ce sl pc1 (ls.set i (some (.int v))) st ws) : AG X ρ0 n0 ce sl pc ls st ws := fun ρ H locs lsA hρ h1 h2 h3 h4 => by
  subst hp
  obtain ⟨k9, hk9⟩ := lvLst_mem (ρ := ρ) hl
  exact lv_iinc hX.1.1 hX.1.2.1 d (lvO_has h1) hk9 hv hn rfl (fun ls' hl' => k ρ H locs ls' hρ (lvO_put (v := .int v) rfl (lvO_cat h1) hn hl') h2 h3 h4)
theorem g_ic {n : Int} (v : Int32) (hX : CGX X cc mL own) (d : decode cc pc = .ok (.iconst n, 1)) (hv : Int32.ofInt n = v) (hp : pc + 1 = pc1) (k : AG X ρ0 n0 ce sl pc1 ls (.int v :: st) ws) : AG X ρ0 n0 ce sl pc ls st ws := fun ρ H locs lsA hρ h1 h2 h3 h4 => by
  subst hp
  exact lv_iconst hX.1.1 hX.1.2.1 d hv (k ρ H locs lsA hρ h1 h2 h3 h4)
theorem g_bi {n : Int} (v : Int32) (hX : CGX X cc mL own) (d : decode cc pc = .ok (.bipush n, 2)) (hv : (Int8.ofInt n).toInt32 = v) (hp : pc + 2 = pc1) (k : AG X ρ0 n0 ce sl pc1 ls (.int v :: st) ws) : AG X ρ0 n0 ce sl pc ls st ws := fun ρ H locs lsA hρ h1 h2 h3 h4 => by
  subst hp
  exact lv_bipush hX.1.1 hX.1.2.1 d hv (k ρ H locs lsA hρ h1 h2 h3 h4)
theorem g_si {n : Int} (v : Int32) (hX : CGX X cc mL own) (d : decode cc pc = .ok (.sipush n, 3)) (hv : (Int16.ofInt n).toInt32 = v) (hp : pc + 3 = pc1) (k : AG X ρ0 n0 ce sl pc1 ls (.int v :: st) ws) : AG X ρ0 n0 ce sl pc ls st ws := fun ρ H locs lsA hρ h1 h2 h3 h4 => by
  subst hp
  exact lv_sipush hX.1.1 hX.1.2.1 d hv (k ρ H locs lsA hρ h1 h2 h3 h4)
theorem g_dup {v : Value} (hX : CGX X cc mL own) (d : decode cc pc = .ok (.dup, 1)) (hv : v.category = 1) (hp : pc + 1 = pc1) (k : AG X ρ0 n0 ce sl pc1 ls (v :: v :: st) ws) : AG X ρ0 n0 ce sl pc ls (v :: st) ws := fun ρ H locs lsA hρ h1 h2 h3 h4 => by
  subst hp
  exact lv_dup hX.1.1 hX.1.2.1 d (by rw [cv_cat]; exact hv) (k ρ H locs lsA hρ h1 h2 h3 h4)
theorem g_goto {off : Int} (hX : CGX X cc mL own) (d : decode cc pc = .ok (.goto off, 3)) (ht : (pc : Int) + off = (pc1 : Int)) (k : AG X ρ0 n0 ce sl pc1 ls st ws) : AG X ρ0 n0 ce sl pc ls st ws := fun ρ H locs lsA hρ h1 h2 h3 h4 =>
  lv_goto hX.1.1 hX.1.2.1 d ht (k ρ H locs lsA hρ h1 h2 h3 h4)
theorem g_gef {x y : Int32} {off : Int} {tgt : Nat} (hX : CGX X cc mL own) (d : decode cc pc = .ok (.if_icmp .ge off, 3)) (ht : (pc : Int) + off = (tgt : Int)) (hc : ¬ y ≤ x) (hp : pc + 3 = pc1) (k : AG X ρ0 n0 ce sl pc1 ls st ws) : AG X ρ0 n0 ce sl pc ls (.int y :: .int x :: st) ws := fun ρ H locs lsA hρ h1 h2 h3 h4 => by
  subst hp
  exact lv_icmp_ge hX.1.1 hX.1.2.1 d ht (fun c => (hc c).elim) (fun _ => k ρ H locs lsA hρ h1 h2 h3 h4)
theorem g_get {x y : Int32} {off : Int} (hX : CGX X cc mL own) (d : decode cc pc = .ok (.if_icmp .ge off, 3)) (ht : (pc : Int) + off = (pc1 : Int)) (hc : y ≤ x) (k : AG X ρ0 n0 ce sl pc1 ls st ws) : AG X ρ0 n0 ce sl pc ls (.int y :: .int x :: st) ws := fun ρ H locs lsA hρ h1 h2 h3 h4 =>
  lv_icmp_ge hX.1.1 hX.1.2.1 d ht (fun _ => k ρ H locs lsA hρ h1 h2 h3 h4) (fun c => (c hc).elim)
theorem g_lef {x : Int32} {off : Int} {tgt : Nat} (hX : CGX X cc mL own) (d : decode cc pc = .ok (.ifCond .le off, 3)) (ht : (pc : Int) + off = (tgt : Int)) (hc : ¬ x ≤ 0) (hp : pc + 3 = pc1) (k : AG X ρ0 n0 ce sl pc1 ls st ws) : AG X ρ0 n0 ce sl pc ls (.int x :: st) ws := fun ρ H locs lsA hρ h1 h2 h3 h4 => by
  subst hp
  exact lv_if_le hX.1.1 hX.1.2.1 d ht (fun c => (hc c).elim) (fun _ => k ρ H locs lsA hρ h1 h2 h3 h4)
theorem g_ltf {x : Int32} {off : Int} {tgt : Nat} (hX : CGX X cc mL own) (d : decode cc pc = .ok (.ifCond .lt off, 3)) (ht : (pc : Int) + off = (tgt : Int)) (hc : ¬ x < 0) (hp : pc + 3 = pc1) (k : AG X ρ0 n0 ce sl pc1 ls st ws) : AG X ρ0 n0 ce sl pc ls (.int x :: st) ws := fun ρ H locs lsA hρ h1 h2 h3 h4 => by
  subst hp
  exact lv_if_lt hX.1.1 hX.1.2.1 d ht (fun c => (hc c).elim) (fun _ => k ρ H locs lsA hρ h1 h2 h3 h4)
theorem g_obj {idx a : Nat} (hX : CGX X cc mL own) (hm : Cond.methodLink own idx objectInit ∈ BIG ∧ Cond.instanceMethod objectInit ∈ BIG ∧ Cond.code objectInit ⟨#[0xb1]⟩ 1 none ∈ BIG) (hl : ls.length = mL) (hw : (st.map fun v => v.category).sum + 12 ≤ (aR X).locals) (hf : 1 ≤ (aR X).frames) (d : decode cc pc = .ok (.invokespecial idx, 3)) (hp : pc + 3 = pc1) (k : AG X ρ0 n0 ce sl pc1 ls st ws) : AG X ρ0 n0 ce sl pc ls (.ref a :: st) ws := fun ρ H locs lsA hρ h1 h2 h3 h4 => by
  subst hp
  have hts := hX.1.2.2.2.2.1
  refine W.objInit hX.1.1 hX.1.2.1 hX.1.2.2.2.1 (hts _ hm.1) (hts _ hm.2.1) (hts _ hm.2.2) rfl (by rw [hX.1.2.2.1]; exact h1.1.trans hl) rfl d hf ?_ ?_
  · rw [show ((F0 (aM X) pc lsA ((Value.ref a :: st).map (cv ρ))).monitorRoom) = 0 from rfl]
    have e := cat_map (ρ := ρ) st
    rw [e]
    omega
  · exact W.eq rfl (k ρ H locs lsA hρ h1 h2 h3 h4)
theorem g_new {idx ci N q9 : Nat} {fs : List Value} (hq9 : ws.length = q9) (hX : CGX X cc mL own) (f : NWF own idx ci N fs) (hwf : wfG ws.length ws = true) (hst : st.all (bnd ws.length) = true) (hls : ls.all (obnd ws.length) = true) (hn0 : n0 ≤ ws.length) (hce : ce + 1 ≤ (aR X).cells ∧ sl + N ≤ (aR X).slots) (d : decode cc pc = .ok (.new idx, 3)) (hp : pc + 3 = pc1) (k : AG X ρ0 n0 (ce + 1) (sl + N) pc1 ls (.ref q9 :: st) (ws ++ [.inl (ci, fs)])) : AG X ρ0 n0 ce sl pc ls st ws := fun ρ H locs lsA hρ h1 h2 h3 h4 => by
  subst hp; subst hq9
  have hts := hX.1.2.2.2.2.1
  obtain ⟨C, T, ty, f1, f2, f3, f4, f5, f6, f7, f8⟩ := f
  refine va_new (fs := fs) hX.1.1 hX.1.2.1 hts f2 ty f3 hX.1.2.2.2.1 (hts _ f4) (hts _ f5) (hts _ f6) hX.1.2.2.2.2.2.1 h2 h3 h4 hX.1.2.2.2.2.2.2.2.2 f1 f7 hce.1 hce.2 d (fun q H1 g2 g3 g4 => ?_)
  obtain ⟨ρ', hρ'⟩ : ∃ ρ' : Nat → Nat, ρ' = fun j => if j = ws.length then q else ρ j := ⟨_, rfl⟩
  have ha : ∀ j, j < ws.length → ρ' j = ρ j := fun j hj => by rw [hρ']; simp [Nat.ne_of_lt hj]
  have hq : ρ' ws.length = q := by rw [hρ']; simp
  have hfs : fs.map (cv ρ') = fs := by
    conv => rhs; rw [← List.map_id fs]
    apply List.map_congr_left
    intro v hv
    have := List.all_eq_true.mp f8 v hv
    cases v <;> first | rfl | (simp [bnd] at this)
  have e : gw (aG X) ρ ws ++ [(q, .inr (ci, fs))] = gw (aG X) ρ' (ws ++ [.inl (ci, fs)]) := by
    rw [← gw_push, gw_agree ha hwf, hq]
    simp only [gE, hfs]
  rw [e] at g2 g3
  have := k ρ' H1 locs lsA (fun j hj => (ha j (Nat.lt_of_lt_of_le hj hn0)).trans (hρ j hj)) (lvO_agree ha hls h1) g2 g3 g4
  rw [List.map_cons, map_agree ha hst] at this
  simp only [cv, hq] at this
  exact this
theorem g_newa {at9 : ArrayType} {ty9 : FieldType} {t N q9 : Nat} {n : Int32} (hq9 : ws.length = q9) (hX : CGX X cc mL own) (hty : newarray.typeOf at9 = ty9) (ht : (t = 0 ∧ ty9 = .int) ∨ (t = 0 ∧ ty9 = .int)) (hw : Cond.arrayClass ty9 ∈ BIG) (hwf : wfG ws.length ws = true) (hst : st.all (bnd ws.length) = true) (hls : ls.all (obnd ws.length) = true) (hn0 : n0 ≤ ws.length) (hn : ¬ n < 0) (hN : n.toNatClampNeg = N) (hby : N * componentBytes ty9 ≤ 536870912) (hce : ce + 1 ≤ (aR X).cells ∧ sl + N ≤ (aR X).slots) (d : decode cc pc = .ok (.newarray at9, 2)) (hp : pc + 2 = pc1) (k : AG X ρ0 n0 (ce + 1) (sl + N) pc1 ls (.ref q9 :: st) (ws ++ [.inr (t, N, fun _ => 0)])) : AG X ρ0 n0 ce sl pc ls (.int n :: st) ws := fun ρ H locs lsA hρ h1 h2 h3 h4 => by
  subst hp; subst hty; subst hq9
  have hts := hX.1.2.2.2.2.1
  have hK := hX.1.2.2.2.2.2.1
  refine va_newa (a0 := (N, .inl (fun _ => 0))) hX.1.1 hX.1.2.1 (hts _ hw) rfl hK h2 h3 h4 hX.1.2.2.2.2.2.2.2.2 (fun cA => by rcases ht with ⟨-, e⟩ | ⟨-, e⟩ <;> rw [e] <;> rfl) hn hN hby hce.1 hce.2 d (fun q cA H1 hK1 g2 g3 g4 => ?_)
  obtain ⟨ρ', hρ'⟩ : ∃ ρ' : Nat → Nat, ρ' = fun j => if j = ws.length then q else ρ j := ⟨_, rfl⟩
  have ha : ∀ j, j < ws.length → ρ' j = ρ j := fun j hj => by rw [hρ']; simp [Nat.ne_of_lt hj]
  have hq : ρ' ws.length = q := by rw [hρ']; simp
  have hcl := (hK1.2 1 (cA, newarray.typeOf at9) rfl).2
  have e : gw (aG X) ρ ws ++ [(q, .inl (cA, N, .inl (fun _ => 0)))] = gw (aG X) ρ' (ws ++ [.inr (t, N, fun _ => 0)]) := by
    rw [← gw_push, gw_agree ha hwf, hq]
    rcases ht with ⟨rfl, e⟩ | ⟨rfl, e⟩
    · have h9 := (hK.2 0 _ rfl).2
      rw [e] at hcl
      have : cA = (aG X).2.1 := Option.some.inj (hcl.symm.trans h9)
      simp only [gE, this]
    · have h9 := (hK.2 0 _ rfl).2
      rw [e] at hcl
      have : cA = (aG X).2.1 := Option.some.inj (hcl.symm.trans h9)
      simp only [gE, this]
  rw [e] at g2 g3
  have := k ρ' H1 locs lsA (fun j hj => (ha j (Nat.lt_of_lt_of_le hj hn0)).trans (hρ j hj)) (lvO_agree ha hls h1) g2 g3 g4
  rw [List.map_cons, map_agree ha hst] at this
  simp only [cv, hq] at this
  exact this
theorem g_put {idx ci k p : Nat} {fs : List Value} {v : Value} {ty : FieldType} (hX : CGX X cc mL own) (hi : (aMeth X).name = "<init>") (f : FPG own idx ci k ty) (hv : ∀ ρ, narrow ty (cv ρ v) = cv ρ v ∧ fits ty (cv ρ v) = true) (hs : ws[p]? = some (.inl (ci, fs))) (hk : k < fs.length) (d : decode cc pc = .ok (.putfield idx, 3)) (hp : pc + 3 = pc1) (kk : AG X ρ0 n0 ce sl pc1 ls st (ws.set p (.inl (ci, fs.set k v)))) : AG X ρ0 n0 ce sl pc ls (v :: .ref p :: st) ws := fun ρ H locs lsA hρ h1 h2 h3 h4 => by
  subst hp
  have hts := hX.1.2.2.2.2.1
  have hK := hX.1.2.2.2.2.2.1
  obtain ⟨C, T, N, ty0, f1, f2, f3, f4, f5, f6, f7, f8⟩ := f
  have e : (gw (aG X) ρ ws).set p (ρ p, .inr (ci, (fs.map (cv ρ)).set k (cv ρ v))) = gw (aG X) ρ (ws.set p (.inl (ci, fs.set k v))) := by
    rw [← gw_set _ hs]
    simp only [gE, List.map_set]
  have kk' : ∀ (H1 : Heap) (locs1 : List Loc), va_P (gD (aG X)) vwCl ((gw (aG X) ρ ws).set p (ρ p, .inr (ci, (fs.map (cv ρ)).set k (cv ρ v)))) H1 → va_D (gA (aG X)) ((gw (aG X) ρ ws).set p (ρ p, .inr (ci, (fs.map (cv ρ)).set k (cv ρ v)))) → va_S (gA (aG X)) (aS X).heap H1 locs1 → W (aP X) (aL X) (aEn X) (aR X) (aS X) (aM X) (aArgs X) (aBelow X) (aMeth X) (aC X) H1 locs1 ce sl (aQ X) (F0 (aM X) (pc + 3) lsA (st.map (cv ρ))) := fun H1 locs1 g2 g3 g4 => by
    rw [e] at g2 g3
    exact kk ρ H1 locs1 lsA hρ h1 g2 g3 g4
  rcases f7 with f7 | ⟨f7, f9⟩
  · exact va_put (v := cv ρ v) (ty := ty) hX.1.1 hX.1.2.1 hts f3 ty0 f5 f6 hX.1.2.2.2.1 hK h2 h3 h4 p (gw_get hs) f1 k f2 (hts _ f4) (fun _ h => h) f7 f8 (hv ρ).1 (hv ρ).2 (by rw [List.length_map]; exact hk) d kk'
  · exact va_putF (v := cv ρ v) (ty := ty) hX.1.1 hX.1.2.1 hts f3 ty0 f5 f6 hX.1.2.2.2.1 hK h2 h3 h4 p (gw_get hs) f1 k f2 (hts _ f4) (fun _ h => h) f7 hi f9 f8 (hv ρ).1 (hv ρ).2 (by rw [List.length_map]; exact hk) d kk'
theorem g_getR {idx ci k p q : Nat} {fs : List Value} (hX : CGX X cc mL own) (f : FLD own idx ci k) (hs : ws[p]? = some (.inl (ci, fs))) (hf : fs[k]? = some (.ref q)) (d : decode cc pc = .ok (.getfield idx, 3)) (hp : pc + 3 = pc1) (kk : AG X ρ0 n0 ce sl pc1 ls (.ref q :: st) ws) : AG X ρ0 n0 ce sl pc ls (.ref p :: st) ws := fun ρ H locs lsA hρ h1 h2 h3 h4 => by
  subst hp
  obtain ⟨C, T, N, f1, f2, f3, f4⟩ := f
  exact va_get (v := .ref (ρ q)) hX.1.1 hX.1.2.1 (hX.1.2.2.2.2.1) f3 hX.1.2.2.2.1 hX.1.2.2.2.2.2.1 h2 p (gw_get hs) f1 k f2 (hX.1.2.2.2.2.1 _ f4) (fun _ h => h) (by rw [List.getElem?_map, hf]; rfl) d (kk ρ H locs lsA hρ h1 h2 h3 h4)
theorem g_len {p n : Nat} {f : Nat → Int32} (v : Int32) (hX : CGX X cc mL own) (hs : ws[p]? = some (.inr (0, n, f))) (hv : Int32.ofNat n = v) (d : decode cc pc = .ok (.arraylength, 1)) (hp : pc + 1 = pc1) (kk : AG X ρ0 n0 ce sl pc1 ls (.int v :: st) ws) : AG X ρ0 n0 ce sl pc ls (.ref p :: st) ws := fun ρ H locs lsA hρ h1 h2 h3 h4 => by
  subst hp
  exact va_alen hX.1.1 hX.1.2.1 hX.1.2.2.2.2.2.1 h2 p 0 (gw_get hs) rfl hv d (kk ρ H locs lsA hρ h1 h2 h3 h4)
theorem g_ast {p n : Nat} {f : Nat → Int32} {i x : Int32} (hX : CGX X cc mL own) (hs : ws[p]? = some (.inr (0, n, f))) (hi : vp_in i n) (d : decode cc pc = .ok (.iastore, 1)) (hp : pc + 1 = pc1) (kk : AG X ρ0 n0 ce sl pc1 ls st (ws.set p (.inr (0, n, upd f i.toNatClampNeg x)))) : AG X ρ0 n0 ce sl pc ls (.int x :: .int i :: .ref p :: st) ws := fun ρ H locs lsA hρ h1 h2 h3 h4 => by
  subst hp
  refine va_iast hX.1.1 hX.1.2.1 hX.1.2.2.2.2.2.1 h2 h3 h4 p 0 (gw_get hs) rfl hi d (fun H1 locs1 g2 g3 g4 => ?_)
  have e : (gw (aG X) ρ ws).set p (ρ p, .inl ((aG X).2.1, n, .inl (upd f i.toNatClampNeg x))) = gw (aG X) ρ (ws.set p (.inr (0, n, upd f i.toNatClampNeg x))) := by
    rw [← gw_set _ hs]
    rfl
  rw [e] at g2 g3
  exact kk ρ H1 locs1 lsA hρ h1 g2 g3 g4
def QG (X : AX) (ρ0 : Nat → Nat) (n0 mc ms : Nat) (ws' : List GE) : Prop := aQ X = MQ (aBelow X) (va_Qv (fun ρ' : Nat → Nat => ∀ k, k < n0 → ρ' k = ρ0 k) (fun ρ' t => va_P (gD (aG X)) vwCl (gw (aG X) ρ' ws') t.heap ∧ va_D (gA (aG X)) (gw (aG X) ρ' ws')) (gA (aG X))) (aArgs X) (aS X) mc ms (gA (aG X))
theorem g_ret {ws' : List GE} (hX : CGX X cc mL own) (hQ : QG X ρ0 n0 ce sl ws') (hr : (aMeth X).sig.returnType = none) (he : ws = ws') (d : decode cc pc = .ok (.return_, 1)) : AG X ρ0 n0 ce sl pc ls [] ws := fun ρ H locs lsA hρ h1 h2 h3 h4 => by
  subst he
  rw [hQ]
  exact W.vret hX.1.1 hX.1.2.1 hr (fun t ht hW => ⟨⟨ρ, rfl, hρ, by rw [ht]; exact h2, h3⟩, h4.F ht⟩) h4.2.2 d hX.1.2.2.2.2.2.2.2.1
theorem g_call_fin {y : MethodName} {b : ByteArray} {mLc frC loC mc ms : Nat} {ws' : List GE} {As rest : List Value} {stk : List Value} {ρ : Nat → Nat} {H : Heap} {locs : List Loc} {lsA : Array Slot} (hst : rest.all (bnd ws.length) = true) (hls : ls.all (obnd ws.length) = true) (hn0 : n0 ≤ ws.length) (hρ : ∀ k, k < n0 → ρ k = ρ0 k) (h1 : lvO ρ lsA ls) (h4 : va_S (gA (aG X)) (aS X).heap H locs)
    (kk : AG X ρ0 n0 (ce + mc) (sl + ms) (pc + 3) ls rest ws')
    (hr : va_Run (aP X) (aL X) (aEn X) (aR X) (aS X) (aM X) (aArgs X) (aBelow X) (aMeth X) (aC X) H locs ce sl mc ms (F0 (aM X) pc lsA stk) (rest.map (cv ρ)) (va_Qv (fun ρ' : Nat → Nat => ∀ k, k < ws.length → ρ' k = ρ k) (fun ρ' t => va_P (gD (aG X)) vwCl (gw (aG X) ρ' ws') t.heap ∧ va_D (gA (aG X)) (gw (aG X) ρ' ws')) (gA (aG X)) As.toArray) (gA (aG X))) :
    W (aP X) (aL X) (aEn X) (aR X) (aS X) (aM X) (aArgs X) (aBelow X) (aMeth X) (aC X) H locs ce sl (aQ X) (F0 (aM X) pc lsA stk) := by
  refine va_callv hr h4 (fun q _ h => h) (fun q h => h) (fun ρ' t H1 locs1 e1 e2 hv hb hz hk hS => ?_)
  obtain ⟨p1, p2⟩ := hb
  rw [e1] at p1
  have := kk ρ' H1 locs1 lsA (fun k hk => (hv k (Nat.lt_of_lt_of_le hk hn0)).trans (hρ k hk)) (lvO_agree hv hls h1) p1 p2 hS
  rw [map_agree hv hst] at this
  exact this
theorem HG.at {ρ : Nat → Nat} {H : Heap} {locs : List Loc} (hX : CGX X cc mL own) (h2 : va_P (gD (aG X)) vwCl (gw (aG X) ρ ws) H) (h3 : va_D (gA (aG X)) (gw (aG X) ρ ws)) (h4 : va_S (gA (aG X)) (aS X).heap H locs) (U : State) (hU : U.heap = H) (hW : (aS X).WarmedH U.vm) : HG (aG X) ρ ws U :=
  ⟨by rw [hU]; exact h2, va_K.moved hW.alike hX.1.2.2.2.2.2.1, h3, hX.1.2.2.2.2.2.2.1.warm hW, hX.2.warm hW, fun q hq => hX.1.2.2.2.2.2.2.2.2 q (Nat.le_trans h4.1 (by rw [← hU]; exact hq))⟩
/-- a constructor called: by its own link, or over the nest -/
theorem g_callI {idx mLc n q frC loC mc ms : Nat} {y : MethodName} {b : ByteArray} {As rest stk : List Value} {ws' : List GE} (hX : CGX X cc mL own) (hlk : Cond.methodLink own idx y ∈ BIG) (hin : Cond.instanceMethod y ∈ BIG) (hini : Cond.initialized y.cls ∈ BIG) (hcd : Cond.code y b mLc none ∈ BIG) (hy : y.name = "<init>") (hd : y.cls ≠ "java/lang/invoke/MethodHandle" ∧ y.cls ≠ "java/lang/invoke/VarHandle" ∧ (parseMethodDescriptor y.desc).map (fun d => d.parameters.length) = some n) (hc : CG (aL X) y b mLc frC loC mc ms (.ref q :: As) ws ws') (hn : As.length = n) (hst : stk = As.reverse ++ .ref q :: rest) (hroom : frC + 1 ≤ (aR X).frames ∧ 8 + (mLc + 11) + loC ≤ (aR X).locals ∧ ce + mc ≤ (aR X).cells ∧ sl + ms ≤ (aR X).slots) (hw : (rest.map fun v => v.category).sum ≤ 8) (hl : ls.length = mL) (hbr : rest.all (bnd ws.length) = true) (hls : ls.all (obnd ws.length) = true) (hn0 : n0 ≤ ws.length) (d : decode cc pc = .ok (.invokespecial idx, 3)) (hp : pc + 3 = pc1) (kk : AG X ρ0 n0 (ce + mc) (sl + ms) pc1 ls rest ws') : AG X ρ0 n0 ce sl pc ls stk ws := fun ρ H locs lsA hρ h1 h2 h3 h4 => by
  subst hp; subst hst
  have hts := hX.1.2.2.2.2.1
  rw [map_rev]
  exact g_call_fin (As := .ref (ρ q) :: As.map (cv ρ)) (y := y) (b := b) (mLc := mLc) (frC := frC) (loC := loC) hbr hls hn0 hρ h1 h4 kk (va_runI (Ts := BIG) (As := As.map (cv ρ)) (rest := rest.map (cv ρ)) ⟨hX.1.1, hX.1.2.1, hX.1.2.2.1, hX.1.2.2.2.1, hts⟩ (hc (aG X) ρ) (cwI n hts (big_code hcd) rfl rfl rfl (hts _ hini) (hts _ hlk) (hts _ hin) hy hd ⟨hroom.1, hroom.2.1⟩) ⟨HG.blind, fun U hU hW => ⟨rfl, HG.at hX h2 h3 h4 U hU hW⟩⟩ rfl (by rw [List.length_map]; exact hn) (by rw [h1.1]; exact hl) rfl (lv_room (by rw [cat_map]; exact hw)) d hroom.2.2)
theorem g_callN {idx mLc n q frC loC mc ms : Nat} {y : MethodName} {b : ByteArray} {As rest stk : List Value} {ws' : List GE} (hX : CGX X cc mL own) (hlk : (own, idx, y) ∈ nestG) (hin : Cond.instanceMethod y ∈ BIG) (hini : Cond.initialized y.cls ∈ BIG) (hcd : Cond.code y b mLc none ∈ BIG) (hy : y.name = "<init>") (hd : y.cls ≠ "java/lang/invoke/MethodHandle" ∧ y.cls ≠ "java/lang/invoke/VarHandle" ∧ (parseMethodDescriptor y.desc).map (fun d => d.parameters.length) = some n) (hc : CG (aL X) y b mLc frC loC mc ms (.ref q :: As) ws ws') (hn : As.length = n) (hst : stk = As.reverse ++ .ref q :: rest) (hroom : frC + 1 ≤ (aR X).frames ∧ 8 + (mLc + 11) + loC ≤ (aR X).locals ∧ ce + mc ≤ (aR X).cells ∧ sl + ms ≤ (aR X).slots) (hw : (rest.map fun v => v.category).sum ≤ 8) (hl : ls.length = mL) (hbr : rest.all (bnd ws.length) = true) (hls : ls.all (obnd ws.length) = true) (hn0 : n0 ≤ ws.length) (d : decode cc pc = .ok (.invokespecial idx, 3)) (hp : pc + 3 = pc1) (kk : AG X ρ0 n0 (ce + mc) (sl + ms) pc1 ls rest ws') : AG X ρ0 n0 ce sl pc ls stk ws := fun ρ H locs lsA hρ h1 h2 h3 h4 => by
  subst hp; subst hst
  have hts := hX.1.2.2.2.2.1
  rw [map_rev]
  exact g_call_fin (As := .ref (ρ q) :: As.map (cv ρ)) (y := y) (b := b) (mLc := mLc) (frC := frC) (loC := loC) hbr hls hn0 hρ h1 h4 kk (va_runIN (host := RX11) (Ts := BIG) (As := As.map (cv ρ)) (rest := rest.map (cv ρ)) ⟨hX.1.1, hX.1.2.1, hX.1.2.2.1, hX.1.2.2.2.1, hts⟩ (hc (aG X) ρ) ⟨va_cnB n hts (big_code hcd) rfl rfl rfl (hX.2 _ hlk) (hts _ hini) hd ⟨hroom.1, hroom.2.1⟩, hy, hts _ hin⟩ ⟨HG.blind, fun U hU hW => ⟨rfl, HG.at hX h2 h3 h4 U hU hW⟩⟩ rfl (by rw [List.length_map]; exact hn) (by rw [h1.1]; exact hl) rfl (lv_room (by rw [cat_map]; exact hw)) d hroom.2.2)
theorem g_callS {idx mLc n frC loC mc ms : Nat} {y : MethodName} {b : ByteArray} {As rest stk : List Value} {ws' : List GE} (hX : CGX X cc mL own) (ml : MLS own idx y b mLc none n) (hc : CG (aL X) y b mLc frC loC mc ms As ws ws') (hn : As.length = n) (hst : stk = As.reverse ++ rest) (hroom : frC + 1 ≤ (aR X).frames ∧ 8 + (mLc + 11) + loC ≤ (aR X).locals ∧ ce + mc ≤ (aR X).cells ∧ sl + ms ≤ (aR X).slots) (hw : (rest.map fun v => v.category).sum ≤ 8) (hl : ls.length = mL) (hbr : rest.all (bnd ws.length) = true) (hls : ls.all (obnd ws.length) = true) (hn0 : n0 ≤ ws.length) (d : decode cc pc = .ok (.invokestatic idx, 3)) (hp : pc + 3 = pc1) (kk : AG X ρ0 n0 (ce + mc) (sl + ms) pc1 ls rest ws') : AG X ρ0 n0 ce sl pc ls stk ws := fun ρ H locs lsA hρ h1 h2 h3 h4 => by
  subst hp; subst hst
  have hts := hX.1.2.2.2.2.1
  rw [map_rev2]
  exact g_call_fin (As := As.map (cv ρ)) (y := y) (b := b) (mLc := mLc) (frC := frC) (loC := loC) hbr hls hn0 hρ h1 h4 kk (va_runS (Ts := BIG) (As := As.map (cv ρ)) (rest := rest.map (cv ρ)) ⟨hX.1.1, hX.1.2.1, hX.1.2.2.1, hX.1.2.2.2.1, hts⟩ (hc (aG X) ρ) ⟨callB_of n hts (big_code ml.2.2.2.1) rfl rfl rfl (hts _ ml.2.2.1) (hts _ ml.1) ml.2.2.2.2 ⟨hroom.1, hroom.2.1⟩, hts _ ml.2.1⟩ ⟨HG.blind, fun U hU hW => ⟨rfl, HG.at hX h2 h3 h4 U hU hW⟩⟩ rfl (by rw [List.length_map]; exact hn) (by rw [h1.1]; exact hl) rfl (lv_room (by rw [cat_map]; exact hw)) d hroom.2.2)
theorem g_callV {idx mLc n q frC loC mc ms ci : Nat} {y : MethodName} {b : ByteArray} {As rest stk : List Value} {ws' : List GE} {fs : List Value} {T : u_T} {N : Nat} (hX : CGX X cc mL own) (ml : MLV own idx y b mLc none n) (hc : CG (aL X) y b mLc frC loC mc ms (.ref q :: As) ws ws') (hs : ws[q]? = some (.inl (ci, fs))) (hci : vwCl[ci]? = some (y.cls, T, N)) (hn : As.length = n) (hst : stk = As.reverse ++ .ref q :: rest) (hroom : frC + 1 ≤ (aR X).frames ∧ 8 + (mLc + 11) + loC ≤ (aR X).locals ∧ ce + mc ≤ (aR X).cells ∧ sl + ms ≤ (aR X).slots) (hw : (rest.map fun v => v.category).sum ≤ 8) (hl : ls.length = mL) (hbr : rest.all (bnd ws.length) = true) (hls : ls.all (obnd ws.length) = true) (hn0 : n0 ≤ ws.length) (d : decode cc pc = .ok (.invokevirtual idx, 3)) (hp : pc + 3 = pc1) (kk : AG X ρ0 n0 (ce + mc) (sl + ms) pc1 ls rest ws') : AG X ρ0 n0 ce sl pc ls stk ws := fun ρ H locs lsA hρ h1 h2 h3 h4 => by
  subst hp; subst hst
  have hts := hX.1.2.2.2.2.1
  rw [map_rev]
  have hcell : ∃ cellB : Cell, H[ρ q]? = some cellB ∧ cellB.vm.isStatics = false ∧ (aS X).vm.findClass y.cls = some cellB.cls := by
    obtain ⟨r, hr1, cell, q1, q2, q3, q4⟩ := h2 q _ (gw_get hs)
    have hr : r = (y.cls, T, N) := Option.some.inj (hr1.symm.trans hci)
    subst hr
    obtain ⟨hS, hfc, kC, hkC, hkind⟩ := hX.1.2.2.2.2.2.1.1 ci _ hci
    exact ⟨cell, q1, by rw [q3]; rfl, by rw [q2]; exact hfc⟩
  exact g_call_fin (As := .ref (ρ q) :: As.map (cv ρ)) (y := y) (b := b) (mLc := mLc) (frC := frC) (loC := loC) hbr hls hn0 hρ h1 h4 kk (va_runV (Ts := BIG) (As := As.map (cv ρ)) (rest := rest.map (cv ρ)) ⟨hX.1.1, hX.1.2.1, hX.1.2.2.1, hX.1.2.2.2.1, hts⟩ (hc (aG X) ρ) ⟨callB_of n hts (big_code ml.2.2.2.2.1) rfl rfl rfl (hts _ ml.2.2.2.1) (hts _ ml.1) ml.2.2.2.2.2 ⟨hroom.1, hroom.2.1⟩, hts _ ml.2.1, hts _ ml.2.2.1⟩ ⟨HG.blind, hcell, fun U hU hW => ⟨rfl, HG.at hX h2 h3 h4 U hU hW⟩⟩ rfl (by rw [List.length_map]; exact hn) (by rw [h1.1]; exact hl) rfl (lv_room (by rw [cat_map]; exact hw)) d hroom.2.2)
end GROWS
theorem cg_of {l : Launch} {y : MethodName} {b : ByteArray} {mL fr lo mc ms : Nat} {as : List Value} {ws ws' : List GE} (hy : plainName y.cls = true) (hc : ∀ u ∈ as, u.category = 1) (hn : as.length ≤ mL)
    (body : ∀ (X : AX) (ρ0 : Nat → Nat), aL X = l → CX X b mL y.cls → NG (aS X) → (y.name = "<init>" → (aMeth X).name = "<init>") → aR X = rmG fr lo mc ms → QG X ρ0 ws.length mc ms ws' → (aMeth X).sig.returnType = none → AG X ρ0 ws.length 0 0 0 (as.map some ++ List.replicate (mL - as.length) none) [] ws) : CG l y b mL fr lo mc ms as ws ws' := by
  intro g ρ
  refine Met.ofW (cc := b) (maxL := mL) (ret := none) hy rfl ?_
  intro p e s m args below meth c s₁ B hml hv
  obtain ⟨rfl, hP, hK, hD, hN, hG, hb⟩ := hv
  have hts := atoms_spec (ws := .code y b mL none :: BIG) B.pre
  rw [lg_entry_eq]
  exact body (p, l, e, rmG fr lo mc ms, s, m, (as.map (cv ρ)).toArray, below, meth, c, g, MQ below (va_Qv (fun ρ' : Nat → Nat => ∀ k, k < ws.length → ρ' k = ρ k) (fun ρ' t => va_P (gD g) vwCl (gw g ρ' ws') t.heap ∧ va_D (gA g) (gw g ρ' ws')) (gA g)) (as.map (cv ρ)).toArray s mc ms (gA g), 0, 0) ρ rfl
      ⟨B.exec, B.bytes, hml, findClass_of_methodNamed B.named, fun w hw => hts w (List.mem_cons_of_mem _ hw), hK, hN, B.notSynchronized, hb⟩ hG (fun hi => by rw [(name_of_methodNamed B.named B.method).1, hi]) rfl rfl B.returns ρ s.heap [] _ (fun _ _ => rfl) (lvO_entry as mL hc hn) hP hD va_S.rf

theorem ar_int : Cond.arrayClass .int ∈ BIG := bg 69 (by decide +kernel) rfl
theorem ob_X7_3 : Cond.methodLink RX7 3 objectInit ∈ BIG ∧ Cond.instanceMethod objectInit ∈ BIG ∧ Cond.code objectInit ⟨#[0xb1]⟩ 1 none ∈ BIG := ⟨bg 61 (by decide +kernel) rfl, bg 42 (by decide +kernel) rfl, bg 43 (by decide +kernel) rfl⟩
theorem fg_X7_9 : FPG RX7 9 7 0 (.array .int) := ⟨RX7, TX7, 1, tyX7, rfl, by decide, bgc_7, bg 65 (by decide +kernel) rfl, tyX7_ok, nmX7, Or.inr ⟨rfl, rfl⟩, by decide +kernel⟩
/-! ===== the leaves of the constructors: Arrays.fill, Row.set, Row's own ===== -/
def fillF (f : Nat → Int32) (v : Int32) (N : Nat) : Nat → Int32 := fun j => if j < N then v else f j
theorem fillF_0 (f : Nat → Int32) (v : Int32) : fillF f v 0 = f := by
  funext j
  simp [fillF]
theorem fillF_s (f : Nat → Int32) (v : Int32) (i : Nat) : upd (fillF f v i) i v = fillF f v (i + 1) := by
  funext j
  unfold upd fillF
  by_cases h : j = i
  · subst h
    simp
  · by_cases h2 : j < i
    · simp [h, h2, Nat.lt_succ_of_lt h2]
    · simp [h, h2, show ¬ j < i + 1 by omega]
theorem ig_fill {X : AX} {ρ0 : Nat → Nat} {n0 : Nat} {ws : List GE} {q N : Nat} {v : Int32} {f : Nat → Int32} (hX : CGX X cJ7_fill_53178 4 RJ7) (hN : N < 2 ^ 31) (hq : q < ws.length) (hQ : QG X ρ0 n0 0 0 (ws.set q (.inr (0, N, fillF f v N)))) (hr : (aMeth X).sig.returnType = none) : ∀ (k i : Nat), i + k = N → AG X ρ0 n0 0 0 5 [some (.ref q), some (.int v), some (.int (nI i)), some (.int (nI N))] [] (ws.set q (.inr (0, N, fillF f v i))) := by
  intro k
  induction k with
  | zero =>
    intro i hi
    have e : i = N := hi
    subst e
    refine g_il hX dJ7_fill_53178_5 rfl rfl rfl ?_
    refine g_il hX dJ7_fill_53178_6 rfl rfl rfl ?_
    refine g_get hX dJ7_fill_53178_7 rfl ((nI_leI hN hN).mpr (Nat.le_refl _)) ?_
    exact g_ret hX hQ hr rfl dJ7_fill_53178_20
  | succ k ih =>
    intro i hi
    have h1 : i < N := by omega
    have h2 : i < 2 ^ 31 := by omega
    refine g_il hX dJ7_fill_53178_5 rfl rfl rfl ?_
    refine g_il hX dJ7_fill_53178_6 rfl rfl rfl ?_
    refine g_gef hX dJ7_fill_53178_7 (tgt := 20) rfl (fun h => by have := (nI_leI hN h2).mp h; omega) rfl ?_
    refine g_al hX dJ7_fill_53178_10 rfl rfl rfl ?_
    refine g_il hX dJ7_fill_53178_11 rfl rfl rfl ?_
    refine g_il hX dJ7_fill_53178_12 rfl rfl rfl ?_
    refine g_ast hX (n := N) (f := fillF f v i) (by simp [hq]) (vp_in_nI h1 hN) dJ7_fill_53178_13 rfl ?_
    rw [List.set_set, nI_clamp h2, fillF_s]
    refine g_inc hX dJ7_fill_53178_14 rfl (by simp) (v := nI (i + 1)) (by rw [nI_succ]; rfl) rfl ?_
    refine g_goto hX dJ7_fill_53178_17 rfl ?_
    exact ih (i + 1) (by omega)
theorem cg_fill (l : Launch) (q N : Nat) (v : Int32) (f : Nat → Int32) (ws : List GE) (hN : N < 2 ^ 31) (hs : ws[q]? = some (.inr (0, N, f))) : CG l yJ7_fill_53178 cJ7_fill_53178 4 0 0 0 0 [.ref q, .int v] ws (ws.set q (.inr (0, N, fillF f v N))) := by
  have hq : q < ws.length := (List.getElem?_eq_some_iff.mp hs).1
  refine cg_of (by decide) (by simp [Value.category]) (by simp) (fun X ρ0 hl hX0 hG _ hR hQ hr => ?_)
  have hX : CGX X cJ7_fill_53178 4 RJ7 := ⟨hX0, hG⟩
  refine g_ic 0 hX dJ7_fill_53178_0 (by decide) rfl ?_
  refine g_is hX dJ7_fill_53178_1 rfl (by simp) rfl ?_
  refine g_al hX dJ7_fill_53178_2 rfl rfl rfl ?_
  refine g_len (nI N) hX hs rfl dJ7_fill_53178_3 rfl ?_
  refine g_is hX dJ7_fill_53178_4 rfl (by simp) rfl ?_
  have := ig_fill (f := f) hX hN hq hQ hr N 0 (by omega)
  rw [fillF_0] at this
  have e : ws.set q (.inr (0, N, f)) = ws := by
    apply List.ext_getElem?
    intro i
    rw [List.getElem?_set]
    by_cases h : q = i
    · subst h
      rw [if_pos rfl, if_pos hq, hs]
    · simp [h]
  rw [e] at this
  exact this
theorem cg_set (l : Launch) (p a N : Nat) (i v : Int32) (f : Nat → Int32) (ws : List GE) (hp : ws[p]? = some (.inl (7, [.ref a]))) (ha : ws[a]? = some (.inr (0, N, f))) (h0 : ¬ i < 0) (h1 : ¬ Int32.ofNat N ≤ i) (hi : vp_in i N) : CG l yX7_set cX7_set 3 0 0 0 0 [.ref p, .int i, .int v] ws (ws.set a (.inr (0, N, upd f i.toNatClampNeg v))) := by
  refine cg_of (by decide) (by simp [Value.category]) (by simp) (fun X ρ0 hl hX0 hG _ hR hQ hr => ?_)
  have hX : CGX X cX7_set 3 RX7 := ⟨hX0, hG⟩
  refine g_il hX dX7_set_0 rfl rfl rfl ?_
  refine g_ltf hX dX7_set_1 (tgt := 20) rfl h0 rfl ?_
  refine g_il hX dX7_set_4 rfl rfl rfl ?_
  refine g_al hX dX7_set_5 rfl rfl rfl ?_
  refine g_getR (k := 0) hX fl_X7_9 hp rfl dX7_set_6 rfl ?_
  refine g_len (Int32.ofNat N) hX ha rfl dX7_set_9 rfl ?_
  refine g_gef hX dX7_set_10 (tgt := 20) rfl h1 rfl ?_
  refine g_al hX dX7_set_13 rfl rfl rfl ?_
  refine g_getR (k := 0) hX fl_X7_9 hp rfl dX7_set_14 rfl ?_
  refine g_il hX dX7_set_17 rfl rfl rfl ?_
  refine g_il hX dX7_set_18 rfl rfl rfl ?_
  refine g_ast hX ha hi dX7_set_19 rfl ?_
  exact g_ret hX hQ hr rfl dX7_set_20
theorem cg_row (l : Launch) (p N : Nat) (n v : Int32) (ws ws' : List GE) (h0 : ¬ n ≤ 0) (hN : n.toNatClampNeg = N) (hB : N ≤ 1000) (hwf : wfG ws.length ws = true) (hs : ws[p]? = some (.inl (7, [.null]))) (he : ws.set p (.inl (7, [.ref ws.length])) ++ [.inr (0, N, fillF (fun _ => 0) v N)] = ws') : CG l yX7_init cX7_init 3 1 23 1 N [.ref p, .int n, .int v] ws ws' := by
  subst he
  have hp : p < ws.length := (List.getElem?_eq_some_iff.mp hs).1
  refine cg_of (by decide) (by simp [Value.category]) (by simp) (fun X ρ0 hl hX0 hG hnm hR hQ hr => ?_)
  have hX : CGX X cX7_init 3 RX7 := ⟨hX0, hG⟩
  have hi := hnm rfl
  refine g_al hX dX7_init_0 rfl rfl rfl ?_
  refine g_obj hX ob_X7_3 rfl (by rw [hR]; exact Nat.le_of_ble_eq_true rfl) (by rw [hR]; exact Nat.le_of_ble_eq_true rfl) dX7_init_1 rfl ?_
  refine g_al hX dX7_init_4 rfl rfl rfl ?_
  refine g_il hX dX7_init_5 rfl rfl rfl ?_
  refine g_lef hX dX7_init_6 (tgt := 13) rfl h0 rfl ?_
  refine g_il hX dX7_init_9 rfl rfl rfl ?_
  refine g_goto hX dX7_init_10 (pc1 := 14) rfl ?_
  refine g_newa (t := 0) (N := N) (ty9 := .int) rfl hX rfl (Or.inl ⟨rfl, rfl⟩) ar_int hwf (by simp [bnd, hp]) (by simp [obnd, bnd, hp]) (Nat.le_refl _) (fun h => h0 (Int32.le_of_lt h)) hN (by show N * 4 ≤ 536870912; omega) ⟨by rw [hR]; exact Nat.le_refl _, by rw [hR]; show 0 + N ≤ N; omega⟩ dX7_init_14 rfl ?_
  refine g_put (k := 0) hX hi fg_X7_9 (fun _ => ⟨rfl, rfl⟩) (p := p) (ci := 7) (fs := [.null]) (by rw [List.getElem?_append_left hp]; exact hs) (by decide) dX7_init_16 rfl ?_
  rw [List.set_append_left _ _ hp]
  refine g_al hX dX7_init_19 rfl rfl rfl ?_
  refine g_getR (k := 0) (q := ws.length) (ci := 7) (fs := [.ref ws.length]) hX fl_X7_9 (by rw [List.getElem?_append_left (by rw [List.length_set]; exact hp)]; simp [hp]) rfl dX7_init_20 rfl ?_
  refine g_il hX dX7_init_23 rfl rfl rfl ?_
  have hlen : p < (ws.set p (.inl (7, [.ref ws.length])) ++ [.inr (0, N, fun _ => 0)] : List GE).length := by
    rw [List.length_append, List.length_set]
    exact Nat.lt_of_lt_of_le hp (Nat.le_add_right _ _)
  have hls9 : ([some (.ref p), some (.int n), some (.int v)] : List (Option Value)).all (obnd (ws.set p (.inl (7, [.ref ws.length])) ++ [.inr (0, N, fun _ => 0)] : List GE).length) = true := by
    show (decide (p < _) && (true && (true && true))) = true
    rw [decide_eq_true hlen]
    rfl
  refine g_callS hX ml_X7_15 (cg_fill _ ws.length N v (fun _ => 0) _ (by omega) (by rw [List.getElem?_append_right (by simp)]; simp)) rfl rfl ⟨by rw [hR]; exact Nat.le_of_ble_eq_true rfl, by rw [hR]; exact Nat.le_of_ble_eq_true rfl, by rw [hR]; exact Nat.le_refl _, by rw [hR]; show 0 + N + 0 ≤ N; omega⟩ (Nat.le_of_ble_eq_true rfl) rfl rfl hls9 (by simp) dX7_init_24 rfl ?_
  have hQ' : QG X ρ0 ws.length (0 + 1 + 0) (0 + N + 0) (ws.set p (.inl (7, [.ref ws.length])) ++ [.inr (0, N, fillF (fun _ => 0) v N)]) := by
    rw [show 0 + N + 0 = N by omega]
    exact hQ
  refine g_ret hX hQ' hr ?_ dX7_init_27
  rw [List.set_append_right _ _ (by simp)]
  simp
end
section
theorem vpi {i : Int32} {n : Nat} (h : ¬ (i < 0 ∨ n ≤ i.toNatClampNeg)) : vp_in i n := h
theorem ob_X11_3 : Cond.methodLink RX11 3 objectInit ∈ BIG ∧ Cond.instanceMethod objectInit ∈ BIG ∧ Cond.code objectInit ⟨#[0xb1]⟩ 1 none ∈ BIG := ⟨bg 41 (by decide +kernel) rfl, bg 42 (by decide +kernel) rfl, bg 43 (by decide +kernel) rfl⟩
theorem nw_X11_9 : NWF RX11 9 10 11 [.null, .null, .null, .null, .null, .null, .null, .null, .null, .int 0, .int 0] := ⟨RX10, TX10, tyX10, rfl, bgc_10, tyX10_ok, bg 44 (by decide +kernel) rfl, bg 45 (by decide +kernel) rfl, bg 17 (by decide +kernel) rfl, fun j hj => by rcases (show j = 0 ∨ j = 1 ∨ j = 2 ∨ j = 3 ∨ j = 4 ∨ j = 5 ∨ j = 6 ∨ j = 7 ∨ j = 8 ∨ j = 9 ∨ j = 10 by omega) with rfl | rfl | rfl | rfl | rfl | rfl | rfl | rfl | rfl | rfl | rfl <;> rfl, rfl⟩
theorem ob_X10_3 : Cond.methodLink RX10 3 objectInit ∈ BIG ∧ Cond.instanceMethod objectInit ∈ BIG ∧ Cond.code objectInit ⟨#[0xb1]⟩ 1 none ∈ BIG := ⟨bg 49 (by decide +kernel) rfl, bg 42 (by decide +kernel) rfl, bg 43 (by decide +kernel) rfl⟩
theorem nw_X10_9 : NWF RX10 9 9 11 [.null, .null, .null, .null, .null, .null, .null, .int 0, .int 0, .int 0, .int 0] := ⟨RX9, TX9, tyX9, rfl, bgc_9, tyX9_ok, bg 50 (by decide +kernel) rfl, bg 51 (by decide +kernel) rfl, bg 18 (by decide +kernel) rfl, fun j hj => by rcases (show j = 0 ∨ j = 1 ∨ j = 2 ∨ j = 3 ∨ j = 4 ∨ j = 5 ∨ j = 6 ∨ j = 7 ∨ j = 8 ∨ j = 9 ∨ j = 10 by omega) with rfl | rfl | rfl | rfl | rfl | rfl | rfl | rfl | rfl | rfl | rfl <;> rfl, rfl⟩
theorem ob_X9_3 : Cond.methodLink RX9 3 objectInit ∈ BIG ∧ Cond.instanceMethod objectInit ∈ BIG ∧ Cond.code objectInit ⟨#[0xb1]⟩ 1 none ∈ BIG := ⟨bg 55 (by decide +kernel) rfl, bg 42 (by decide +kernel) rfl, bg 43 (by decide +kernel) rfl⟩
theorem nw_X9_9 : NWF RX9 9 7 1 [.null] := ⟨RX7, TX7, tyX7, rfl, bgc_7, tyX7_ok, bg 56 (by decide +kernel) rfl, bg 57 (by decide +kernel) rfl, bg 19 (by decide +kernel) rfl, fun j hj => by rcases (show j = 0 by omega) with rfl <;> rfl, rfl⟩
theorem fg_X9_14 : FPG RX9 14 9 0 (.object "Resolverium$Row") := ⟨RX9, TX9, 11, tyX9, rfl, by decide, bgc_9, bg 70 (by decide +kernel) rfl, tyX9_ok, nmX9, Or.inr ⟨rfl, rfl⟩, by decide +kernel⟩
theorem fg_X9_20 : FPG RX9 20 9 1 (.object "Resolverium$Row") := ⟨RX9, TX9, 11, tyX9, rfl, by decide, bgc_9, bg 74 (by decide +kernel) rfl, tyX9_ok, nmX9, Or.inr ⟨rfl, rfl⟩, by decide +kernel⟩
theorem fg_X9_23 : FPG RX9 23 9 2 (.object "Resolverium$Row") := ⟨RX9, TX9, 11, tyX9, rfl, by decide, bgc_9, bg 79 (by decide +kernel) rfl, tyX9_ok, nmX9, Or.inr ⟨rfl, rfl⟩, by decide +kernel⟩
theorem fg_X9_26 : FPG RX9 26 9 3 (.object "Resolverium$Row") := ⟨RX9, TX9, 11, tyX9, rfl, by decide, bgc_9, bg 81 (by decide +kernel) rfl, tyX9_ok, nmX9, Or.inr ⟨rfl, rfl⟩, by decide +kernel⟩
theorem fg_X9_29 : FPG RX9 29 9 4 (.object "Resolverium$Row") := ⟨RX9, TX9, 11, tyX9, rfl, by decide, bgc_9, bg 84 (by decide +kernel) rfl, tyX9_ok, nmX9, Or.inr ⟨rfl, rfl⟩, by decide +kernel⟩
theorem fg_X9_32 : FPG RX9 32 9 5 (.object "Resolverium$Row") := ⟨RX9, TX9, 11, tyX9, rfl, by decide, bgc_9, bg 86 (by decide +kernel) rfl, tyX9_ok, nmX9, Or.inr ⟨rfl, rfl⟩, by decide +kernel⟩
theorem fg_X9_35 : FPG RX9 35 9 6 (.object "Resolverium$Row") := ⟨RX9, TX9, 11, tyX9, rfl, by decide, bgc_9, bg 87 (by decide +kernel) rfl, tyX9_ok, nmX9, Or.inr ⟨rfl, rfl⟩, by decide +kernel⟩
theorem fg_X10_12 : FPG RX10 12 10 0 (.object "Resolverium$Versions") := ⟨RX10, TX10, 11, tyX10, rfl, by decide, bgc_10, bg 227 (by decide +kernel) rfl, tyX10_ok, nmX10, Or.inr ⟨rfl, rfl⟩, by decide +kernel⟩
theorem nw_X10_18 : NWF RX10 18 6 8 [.null, .null, .null, .null, .null, .null, .null, .int 0] := ⟨RX6, TX6, tyX6, rfl, bgc_6, tyX6_ok, bg 119 (by decide +kernel) rfl, bg 120 (by decide +kernel) rfl, bg 21 (by decide +kernel) rfl, fun j hj => by rcases (show j = 0 ∨ j = 1 ∨ j = 2 ∨ j = 3 ∨ j = 4 ∨ j = 5 ∨ j = 6 ∨ j = 7 by omega) with rfl | rfl | rfl | rfl | rfl | rfl | rfl | rfl <;> rfl, rfl⟩
theorem ob_X6_3 : Cond.methodLink RX6 3 objectInit ∈ BIG ∧ Cond.instanceMethod objectInit ∈ BIG ∧ Cond.code objectInit ⟨#[0xb1]⟩ 1 none ∈ BIG := ⟨bg 124 (by decide +kernel) rfl, bg 42 (by decide +kernel) rfl, bg 43 (by decide +kernel) rfl⟩
theorem nw_X6_9 : NWF RX6 9 7 1 [.null] := ⟨RX7, TX7, tyX7, rfl, bgc_7, tyX7_ok, bg 125 (by decide +kernel) rfl, bg 57 (by decide +kernel) rfl, bg 19 (by decide +kernel) rfl, fun j hj => by rcases (show j = 0 by omega) with rfl <;> rfl, rfl⟩
theorem fg_X6_14 : FPG RX6 14 6 0 (.object "Resolverium$Row") := ⟨RX6, TX6, 8, tyX6, rfl, by decide, bgc_6, bg 127 (by decide +kernel) rfl, tyX6_ok, nmX6, Or.inr ⟨rfl, rfl⟩, by decide +kernel⟩
theorem fg_X6_20 : FPG RX6 20 6 1 (.object "Resolverium$Row") := ⟨RX6, TX6, 8, tyX6, rfl, by decide, bgc_6, bg 128 (by decide +kernel) rfl, tyX6_ok, nmX6, Or.inr ⟨rfl, rfl⟩, by decide +kernel⟩
theorem fg_X6_23 : FPG RX6 23 6 2 (.object "Resolverium$Row") := ⟨RX6, TX6, 8, tyX6, rfl, by decide, bgc_6, bg 129 (by decide +kernel) rfl, tyX6_ok, nmX6, Or.inr ⟨rfl, rfl⟩, by decide +kernel⟩
theorem fg_X6_26 : FPG RX6 26 6 3 (.object "Resolverium$Row") := ⟨RX6, TX6, 8, tyX6, rfl, by decide, bgc_6, bg 130 (by decide +kernel) rfl, tyX6_ok, nmX6, Or.inr ⟨rfl, rfl⟩, by decide +kernel⟩
theorem fg_X6_29 : FPG RX6 29 6 4 (.object "Resolverium$Row") := ⟨RX6, TX6, 8, tyX6, rfl, by decide, bgc_6, bg 131 (by decide +kernel) rfl, tyX6_ok, nmX6, Or.inr ⟨rfl, rfl⟩, by decide +kernel⟩
theorem fg_X6_32 : FPG RX6 32 6 5 (.object "Resolverium$Row") := ⟨RX6, TX6, 8, tyX6, rfl, by decide, bgc_6, bg 132 (by decide +kernel) rfl, tyX6_ok, nmX6, Or.inr ⟨rfl, rfl⟩, by decide +kernel⟩
theorem fg_X6_35 : FPG RX6 35 6 6 (.object "Resolverium$Row") := ⟨RX6, TX6, 8, tyX6, rfl, by decide, bgc_6, bg 133 (by decide +kernel) rfl, tyX6_ok, nmX6, Or.inr ⟨rfl, rfl⟩, by decide +kernel⟩
theorem fg_X10_21 : FPG RX10 21 10 1 (.object "Resolverium$Ranges") := ⟨RX10, TX10, 11, tyX10, rfl, by decide, bgc_10, bg 233 (by decide +kernel) rfl, tyX10_ok, nmX10, Or.inr ⟨rfl, rfl⟩, by decide +kernel⟩
theorem nw_X10_25 : NWF RX10 25 4 7 [.null, .null, .null, .null, .null, .null, .null] := ⟨RX4, TX4, tyX4, rfl, bgc_4, tyX4_ok, bg 154 (by decide +kernel) rfl, bg 155 (by decide +kernel) rfl, bg 22 (by decide +kernel) rfl, fun j hj => by rcases (show j = 0 ∨ j = 1 ∨ j = 2 ∨ j = 3 ∨ j = 4 ∨ j = 5 ∨ j = 6 by omega) with rfl | rfl | rfl | rfl | rfl | rfl | rfl <;> rfl, rfl⟩
theorem ob_X4_3 : Cond.methodLink RX4 3 objectInit ∈ BIG ∧ Cond.instanceMethod objectInit ∈ BIG ∧ Cond.code objectInit ⟨#[0xb1]⟩ 1 none ∈ BIG := ⟨bg 159 (by decide +kernel) rfl, bg 42 (by decide +kernel) rfl, bg 43 (by decide +kernel) rfl⟩
theorem nw_X4_9 : NWF RX4 9 7 1 [.null] := ⟨RX7, TX7, tyX7, rfl, bgc_7, tyX7_ok, bg 160 (by decide +kernel) rfl, bg 57 (by decide +kernel) rfl, bg 19 (by decide +kernel) rfl, fun j hj => by rcases (show j = 0 by omega) with rfl <;> rfl, rfl⟩
theorem fg_X4_14 : FPG RX4 14 4 0 (.object "Resolverium$Row") := ⟨RX4, TX4, 7, tyX4, rfl, by decide, bgc_4, bg 162 (by decide +kernel) rfl, tyX4_ok, nmX4, Or.inr ⟨rfl, rfl⟩, by decide +kernel⟩
theorem fg_X4_20 : FPG RX4 20 4 1 (.object "Resolverium$Row") := ⟨RX4, TX4, 7, tyX4, rfl, by decide, bgc_4, bg 164 (by decide +kernel) rfl, tyX4_ok, nmX4, Or.inr ⟨rfl, rfl⟩, by decide +kernel⟩
theorem fg_X4_23 : FPG RX4 23 4 2 (.object "Resolverium$Row") := ⟨RX4, TX4, 7, tyX4, rfl, by decide, bgc_4, bg 166 (by decide +kernel) rfl, tyX4_ok, nmX4, Or.inr ⟨rfl, rfl⟩, by decide +kernel⟩
theorem fg_X4_26 : FPG RX4 26 4 3 (.object "Resolverium$Row") := ⟨RX4, TX4, 7, tyX4, rfl, by decide, bgc_4, bg 169 (by decide +kernel) rfl, tyX4_ok, nmX4, Or.inr ⟨rfl, rfl⟩, by decide +kernel⟩
theorem fg_X4_29 : FPG RX4 29 4 4 (.object "Resolverium$Row") := ⟨RX4, TX4, 7, tyX4, rfl, by decide, bgc_4, bg 171 (by decide +kernel) rfl, tyX4_ok, nmX4, Or.inr ⟨rfl, rfl⟩, by decide +kernel⟩
theorem fg_X4_32 : FPG RX4 32 4 5 (.object "Resolverium$Row") := ⟨RX4, TX4, 7, tyX4, rfl, by decide, bgc_4, bg 173 (by decide +kernel) rfl, tyX4_ok, nmX4, Or.inr ⟨rfl, rfl⟩, by decide +kernel⟩
theorem fg_X4_35 : FPG RX4 35 4 6 (.object "Resolverium$Row") := ⟨RX4, TX4, 7, tyX4, rfl, by decide, bgc_4, bg 175 (by decide +kernel) rfl, tyX4_ok, nmX4, Or.inr ⟨rfl, rfl⟩, by decide +kernel⟩
theorem fg_X10_28 : FPG RX10 28 10 2 (.object "Resolverium$Needs") := ⟨RX10, TX10, 11, tyX10, rfl, by decide, bgc_10, bg 236 (by decide +kernel) rfl, tyX10_ok, nmX10, Or.inr ⟨rfl, rfl⟩, by decide +kernel⟩
theorem nw_X10_32 : NWF RX10 32 2 5 [.null, .null, .null, .null, .int 0] := ⟨RX2, TX2, tyX2, rfl, bgc_2, tyX2_ok, bg 191 (by decide +kernel) rfl, bg 192 (by decide +kernel) rfl, bg 23 (by decide +kernel) rfl, fun j hj => by rcases (show j = 0 ∨ j = 1 ∨ j = 2 ∨ j = 3 ∨ j = 4 by omega) with rfl | rfl | rfl | rfl | rfl <;> rfl, rfl⟩
theorem ob_X2_3 : Cond.methodLink RX2 3 objectInit ∈ BIG ∧ Cond.instanceMethod objectInit ∈ BIG ∧ Cond.code objectInit ⟨#[0xb1]⟩ 1 none ∈ BIG := ⟨bg 196 (by decide +kernel) rfl, bg 42 (by decide +kernel) rfl, bg 43 (by decide +kernel) rfl⟩
theorem nw_X2_9 : NWF RX2 9 7 1 [.null] := ⟨RX7, TX7, tyX7, rfl, bgc_7, tyX7_ok, bg 197 (by decide +kernel) rfl, bg 57 (by decide +kernel) rfl, bg 19 (by decide +kernel) rfl, fun j hj => by rcases (show j = 0 by omega) with rfl <;> rfl, rfl⟩
theorem fg_X2_14 : FPG RX2 14 2 0 (.object "Resolverium$Row") := ⟨RX2, TX2, 5, tyX2, rfl, by decide, bgc_2, bg 199 (by decide +kernel) rfl, tyX2_ok, nmX2, Or.inr ⟨rfl, rfl⟩, by decide +kernel⟩
theorem fg_X2_20 : FPG RX2 20 2 1 (.object "Resolverium$Row") := ⟨RX2, TX2, 5, tyX2, rfl, by decide, bgc_2, bg 200 (by decide +kernel) rfl, tyX2_ok, nmX2, Or.inr ⟨rfl, rfl⟩, by decide +kernel⟩
theorem fg_X2_23 : FPG RX2 23 2 2 (.object "Resolverium$Row") := ⟨RX2, TX2, 5, tyX2, rfl, by decide, bgc_2, bg 202 (by decide +kernel) rfl, tyX2_ok, nmX2, Or.inr ⟨rfl, rfl⟩, by decide +kernel⟩
theorem fg_X2_26 : FPG RX2 26 2 3 (.object "Resolverium$Row") := ⟨RX2, TX2, 5, tyX2, rfl, by decide, bgc_2, bg 205 (by decide +kernel) rfl, tyX2_ok, nmX2, Or.inr ⟨rfl, rfl⟩, by decide +kernel⟩
theorem fg_X10_35 : FPG RX10 35 10 3 (.object "Resolverium$Demands") := ⟨RX10, TX10, 11, tyX10, rfl, by decide, bgc_10, bg 239 (by decide +kernel) rfl, tyX10_ok, nmX10, Or.inr ⟨rfl, rfl⟩, by decide +kernel⟩
theorem nw_X10_39 : NWF RX10 39 7 1 [.null] := ⟨RX7, TX7, tyX7, rfl, bgc_7, tyX7_ok, bg 221 (by decide +kernel) rfl, bg 57 (by decide +kernel) rfl, bg 19 (by decide +kernel) rfl, fun j hj => by rcases (show j = 0 by omega) with rfl <;> rfl, rfl⟩
theorem fg_X10_44 : FPG RX10 44 10 4 (.object "Resolverium$Row") := ⟨RX10, TX10, 11, tyX10, rfl, by decide, bgc_10, bg 243 (by decide +kernel) rfl, tyX10_ok, nmX10, Or.inr ⟨rfl, rfl⟩, by decide +kernel⟩
theorem fg_X10_48 : FPG RX10 48 10 5 (.object "Resolverium$Row") := ⟨RX10, TX10, 11, tyX10, rfl, by decide, bgc_10, bg 246 (by decide +kernel) rfl, tyX10_ok, nmX10, Or.inr ⟨rfl, rfl⟩, by decide +kernel⟩
theorem fg_X10_51 : FPG RX10 51 10 6 (.object "Resolverium$Row") := ⟨RX10, TX10, 11, tyX10, rfl, by decide, bgc_10, bg 247 (by decide +kernel) rfl, tyX10_ok, nmX10, Or.inr ⟨rfl, rfl⟩, by decide +kernel⟩
theorem fg_X10_54 : FPG RX10 54 10 7 (.object "Resolverium$Row") := ⟨RX10, TX10, 11, tyX10, rfl, by decide, bgc_10, bg 248 (by decide +kernel) rfl, tyX10_ok, nmX10, Or.inr ⟨rfl, rfl⟩, by decide +kernel⟩
theorem fg_X10_57 : FPG RX10 57 10 8 (.object "Resolverium$Row") := ⟨RX10, TX10, 11, tyX10, rfl, by decide, bgc_10, bg 249 (by decide +kernel) rfl, tyX10_ok, nmX10, Or.inr ⟨rfl, rfl⟩, by decide +kernel⟩
theorem nw_X11_12 : NWF RX11 12 5 3 [.null, .int 0, .int 0] := ⟨RX5, TX5, tyX5, rfl, bgc_5, tyX5_ok, bg 276 (by decide +kernel) rfl, bg 277 (by decide +kernel) rfl, bg 24 (by decide +kernel) rfl, fun j hj => by rcases (show j = 0 ∨ j = 1 ∨ j = 2 by omega) with rfl | rfl | rfl <;> rfl, rfl⟩
theorem ob_X5_3 : Cond.methodLink RX5 3 objectInit ∈ BIG ∧ Cond.instanceMethod objectInit ∈ BIG ∧ Cond.code objectInit ⟨#[0xb1]⟩ 1 none ∈ BIG := ⟨bg 281 (by decide +kernel) rfl, bg 42 (by decide +kernel) rfl, bg 43 (by decide +kernel) rfl⟩
theorem fg_X5_9 : FPG RX5 9 5 0 (.object "Resolverium$World") := ⟨RX5, TX5, 3, tyX5, rfl, by decide, bgc_5, bg 282 (by decide +kernel) rfl, tyX5_ok, nmX5, Or.inr ⟨rfl, rfl⟩, by decide +kernel⟩
theorem fg_X11_17 : FPG RX11 17 11 0 (.object "Resolverium$World") := ⟨RX11, TX11, 5, tyX11, rfl, by decide, bgc_11, bg 396 (by decide +kernel) rfl, tyX11_ok, nmX11, Or.inr ⟨rfl, rfl⟩, by decide +kernel⟩
theorem fg_X11_21 : FPG RX11 21 11 1 (.object "Resolverium$Question") := ⟨RX11, TX11, 5, tyX11, rfl, by decide, bgc_11, bg 397 (by decide +kernel) rfl, tyX11_ok, nmX11, Or.inr ⟨rfl, rfl⟩, by decide +kernel⟩
theorem nw_X11_25 : NWF RX11 25 8 10 [.null, .null, .null, .null, .null, .null, .null, .int 0, .int 0, .int 0] := ⟨RX8, TX8, tyX8, rfl, bgc_8, tyX8_ok, bg 294 (by decide +kernel) rfl, bg 295 (by decide +kernel) rfl, bg 25 (by decide +kernel) rfl, fun j hj => by rcases (show j = 0 ∨ j = 1 ∨ j = 2 ∨ j = 3 ∨ j = 4 ∨ j = 5 ∨ j = 6 ∨ j = 7 ∨ j = 8 ∨ j = 9 by omega) with rfl | rfl | rfl | rfl | rfl | rfl | rfl | rfl | rfl | rfl <;> rfl, rfl⟩
theorem ob_X8_3 : Cond.methodLink RX8 3 objectInit ∈ BIG ∧ Cond.instanceMethod objectInit ∈ BIG ∧ Cond.code objectInit ⟨#[0xb1]⟩ 1 none ∈ BIG := ⟨bg 299 (by decide +kernel) rfl, bg 42 (by decide +kernel) rfl, bg 43 (by decide +kernel) rfl⟩
theorem nw_X8_9 : NWF RX8 9 7 1 [.null] := ⟨RX7, TX7, tyX7, rfl, bgc_7, tyX7_ok, bg 300 (by decide +kernel) rfl, bg 57 (by decide +kernel) rfl, bg 19 (by decide +kernel) rfl, fun j hj => by rcases (show j = 0 by omega) with rfl <;> rfl, rfl⟩
theorem fg_X8_14 : FPG RX8 14 8 3 (.object "Resolverium$Row") := ⟨RX8, TX8, 10, tyX8, rfl, by decide, bgc_8, bg 326 (by decide +kernel) rfl, tyX8_ok, nmX8, Or.inr ⟨rfl, rfl⟩, by decide +kernel⟩
theorem fg_X8_20 : FPG RX8 20 8 4 (.object "Resolverium$Row") := ⟨RX8, TX8, 10, tyX8, rfl, by decide, bgc_8, bg 328 (by decide +kernel) rfl, tyX8_ok, nmX8, Or.inr ⟨rfl, rfl⟩, by decide +kernel⟩
theorem fg_X8_23 : FPG RX8 23 8 5 (.object "Resolverium$Row") := ⟨RX8, TX8, 10, tyX8, rfl, by decide, bgc_8, bg 329 (by decide +kernel) rfl, tyX8_ok, nmX8, Or.inr ⟨rfl, rfl⟩, by decide +kernel⟩
theorem fg_X8_26 : FPG RX8 26 8 6 (.object "Resolverium$Row") := ⟨RX8, TX8, 10, tyX8, rfl, by decide, bgc_8, bg 330 (by decide +kernel) rfl, tyX8_ok, nmX8, Or.inr ⟨rfl, rfl⟩, by decide +kernel⟩
theorem fg_X8_29 : FPG RX8 29 8 0 (.object "Resolverium$World") := ⟨RX8, TX8, 10, tyX8, rfl, by decide, bgc_8, bg 323 (by decide +kernel) rfl, tyX8_ok, nmX8, Or.inr ⟨rfl, rfl⟩, by decide +kernel⟩
theorem fg_X8_33 : FPG RX8 33 8 1 (.object "Resolverium$Question") := ⟨RX8, TX8, 10, tyX8, rfl, by decide, bgc_8, bg 324 (by decide +kernel) rfl, tyX8_ok, nmX8, Or.inr ⟨rfl, rfl⟩, by decide +kernel⟩
theorem nw_X8_37 : NWF RX8 37 1 3 [.null, .null, .null] := ⟨RX1, TX1, tyX1, rfl, bgc_1, tyX1_ok, bg 302 (by decide +kernel) rfl, bg 303 (by decide +kernel) rfl, bg 26 (by decide +kernel) rfl, fun j hj => by rcases (show j = 0 ∨ j = 1 ∨ j = 2 by omega) with rfl | rfl | rfl <;> rfl, rfl⟩
theorem ob_X1_3 : Cond.methodLink RX1 3 objectInit ∈ BIG ∧ Cond.instanceMethod objectInit ∈ BIG ∧ Cond.code objectInit ⟨#[0xb1]⟩ 1 none ∈ BIG := ⟨bg 307 (by decide +kernel) rfl, bg 42 (by decide +kernel) rfl, bg 43 (by decide +kernel) rfl⟩
theorem nw_X1_9 : NWF RX1 9 7 1 [.null] := ⟨RX7, TX7, tyX7, rfl, bgc_7, tyX7_ok, bg 308 (by decide +kernel) rfl, bg 57 (by decide +kernel) rfl, bg 19 (by decide +kernel) rfl, fun j hj => by rcases (show j = 0 by omega) with rfl <;> rfl, rfl⟩
theorem fg_X1_14 : FPG RX1 14 1 1 (.object "Resolverium$Row") := ⟨RX1, TX1, 3, tyX1, rfl, by decide, bgc_1, bg 311 (by decide +kernel) rfl, tyX1_ok, nmX1, Or.inr ⟨rfl, rfl⟩, by decide +kernel⟩
theorem fg_X1_20 : FPG RX1 20 1 2 (.object "Resolverium$Row") := ⟨RX1, TX1, 3, tyX1, rfl, by decide, bgc_1, bg 314 (by decide +kernel) rfl, tyX1_ok, nmX1, Or.inr ⟨rfl, rfl⟩, by decide +kernel⟩
theorem fg_X1_23 : FPG RX1 23 1 0 (.object "Resolverium$World") := ⟨RX1, TX1, 3, tyX1, rfl, by decide, bgc_1, bg 310 (by decide +kernel) rfl, tyX1_ok, nmX1, Or.inr ⟨rfl, rfl⟩, by decide +kernel⟩
theorem fg_X8_42 : FPG RX8 42 8 2 (.object "Resolverium$Choice") := ⟨RX8, TX8, 10, tyX8, rfl, by decide, bgc_8, bg 325 (by decide +kernel) rfl, tyX8_ok, nmX8, Or.inr ⟨rfl, rfl⟩, by decide +kernel⟩
theorem fg_X11_30 : FPG RX11 30 11 2 (.object "Resolverium$Search") := ⟨RX11, TX11, 5, tyX11, rfl, by decide, bgc_11, bg 398 (by decide +kernel) rfl, tyX11_ok, nmX11, Or.inr ⟨rfl, rfl⟩, by decide +kernel⟩
theorem nw_X11_34 : NWF RX11 34 0 4 [.null, .null, .null, .null] := ⟨RX0, TX0, tyX0, rfl, bgc_0, tyX0_ok, bg 355 (by decide +kernel) rfl, bg 356 (by decide +kernel) rfl, bg 27 (by decide +kernel) rfl, fun j hj => by rcases (show j = 0 ∨ j = 1 ∨ j = 2 ∨ j = 3 by omega) with rfl | rfl | rfl | rfl <;> rfl, rfl⟩
theorem ob_X0_3 : Cond.methodLink RX0 3 objectInit ∈ BIG ∧ Cond.instanceMethod objectInit ∈ BIG ∧ Cond.code objectInit ⟨#[0xb1]⟩ 1 none ∈ BIG := ⟨bg 360 (by decide +kernel) rfl, bg 42 (by decide +kernel) rfl, bg 43 (by decide +kernel) rfl⟩
theorem nw_X0_9 : NWF RX0 9 7 1 [.null] := ⟨RX7, TX7, tyX7, rfl, bgc_7, tyX7_ok, bg 361 (by decide +kernel) rfl, bg 57 (by decide +kernel) rfl, bg 19 (by decide +kernel) rfl, fun j hj => by rcases (show j = 0 by omega) with rfl <;> rfl, rfl⟩
theorem fg_X0_14 : FPG RX0 14 0 3 (.object "Resolverium$Row") := ⟨RX0, TX0, 4, tyX0, rfl, by decide, bgc_0, bg 368 (by decide +kernel) rfl, tyX0_ok, nmX0, Or.inr ⟨rfl, rfl⟩, by decide +kernel⟩
theorem fg_X0_20 : FPG RX0 20 0 0 (.object "Resolverium$World") := ⟨RX0, TX0, 4, tyX0, rfl, by decide, bgc_0, bg 365 (by decide +kernel) rfl, tyX0_ok, nmX0, Or.inr ⟨rfl, rfl⟩, by decide +kernel⟩
theorem fg_X0_24 : FPG RX0 24 0 1 (.object "Resolverium$Question") := ⟨RX0, TX0, 4, tyX0, rfl, by decide, bgc_0, bg 366 (by decide +kernel) rfl, tyX0_ok, nmX0, Or.inr ⟨rfl, rfl⟩, by decide +kernel⟩
theorem nw_X0_28 : NWF RX0 28 1 3 [.null, .null, .null] := ⟨RX1, TX1, tyX1, rfl, bgc_1, tyX1_ok, bg 363 (by decide +kernel) rfl, bg 303 (by decide +kernel) rfl, bg 26 (by decide +kernel) rfl, fun j hj => by rcases (show j = 0 ∨ j = 1 ∨ j = 2 by omega) with rfl | rfl | rfl <;> rfl, rfl⟩
theorem fg_X0_33 : FPG RX0 33 0 2 (.object "Resolverium$Choice") := ⟨RX0, TX0, 4, tyX0, rfl, by decide, bgc_0, bg 367 (by decide +kernel) rfl, tyX0_ok, nmX0, Or.inr ⟨rfl, rfl⟩, by decide +kernel⟩
theorem fg_X11_37 : FPG RX11 37 11 3 (.object "Resolverium$Census") := ⟨RX11, TX11, 5, tyX11, rfl, by decide, bgc_11, bg 399 (by decide +kernel) rfl, tyX11_ok, nmX11, Or.inr ⟨rfl, rfl⟩, by decide +kernel⟩
theorem nw_X11_41 : NWF RX11 41 3 2 [.null, .null] := ⟨RX3, TX3, tyX3, rfl, bgc_3, tyX3_ok, bg 379 (by decide +kernel) rfl, bg 380 (by decide +kernel) rfl, bg 28 (by decide +kernel) rfl, fun j hj => by rcases (show j = 0 ∨ j = 1 by omega) with rfl | rfl <;> rfl, rfl⟩
theorem ob_X3_3 : Cond.methodLink RX3 3 objectInit ∈ BIG ∧ Cond.instanceMethod objectInit ∈ BIG ∧ Cond.code objectInit ⟨#[0xb1]⟩ 1 none ∈ BIG := ⟨bg 384 (by decide +kernel) rfl, bg 42 (by decide +kernel) rfl, bg 43 (by decide +kernel) rfl⟩
theorem nw_X3_9 : NWF RX3 9 7 1 [.null] := ⟨RX7, TX7, tyX7, rfl, bgc_7, tyX7_ok, bg 385 (by decide +kernel) rfl, bg 57 (by decide +kernel) rfl, bg 19 (by decide +kernel) rfl, fun j hj => by rcases (show j = 0 by omega) with rfl <;> rfl, rfl⟩
theorem fg_X3_14 : FPG RX3 14 3 0 (.object "Resolverium$Row") := ⟨RX3, TX3, 2, tyX3, rfl, by decide, bgc_3, bg 387 (by decide +kernel) rfl, tyX3_ok, nmX3, Or.inr ⟨rfl, rfl⟩, by decide +kernel⟩
theorem fg_X3_20 : FPG RX3 20 3 1 (.object "Resolverium$Row") := ⟨RX3, TX3, 2, tyX3, rfl, by decide, bgc_3, bg 389 (by decide +kernel) rfl, tyX3_ok, nmX3, Or.inr ⟨rfl, rfl⟩, by decide +kernel⟩
theorem fg_X11_44 : FPG RX11 44 11 4 (.object "Resolverium$Disk") := ⟨RX11, TX11, 5, tyX11, rfl, by decide, bgc_11, bg 400 (by decide +kernel) rfl, tyX11_ok, nmX11, Or.inr ⟨rfl, rfl⟩, by decide +kernel⟩
set_option maxRecDepth 100000 in
set_option maxHeartbeats 4000000 in
theorem cg_X9_init_0 (l : Launch) : CG l yX9_init cX9_init 1 2 45 14 205 [.ref 2]
  [.inl (11, [.null, .null, .null, .null, .null]), .inl (10, [.null, .null, .null, .null, .null, .null, .null, .null, .null, .int 0, .int 0]), .inl (9, [.null, .null, .null, .null, .null, .null, .null, .int 0, .int 0, .int 0, .int 0])]
  [.inl (11, [.null, .null, .null, .null, .null]), .inl (10, [.null, .null, .null, .null, .null, .null, .null, .null, .null, .int 0, .int 0]), .inl (9, [.ref 3, .ref 5, .ref 7, .ref 9, .ref 11, .ref 13, .ref 15, .int 0, .int 0, .int 0, .int 0]), .inl (7, [.ref 4]), .inr (0, 24, fillF (fun _ => 0) (-1) 24), .inl (7, [.ref 6]), .inr (0, 24, fillF (fun _ => 0) (-1) 24), .inl (7, [.ref 8]), .inr (0, 24, fillF (fun _ => 0) (-1) 24), .inl (7, [.ref 10]), .inr (0, 24, fillF (fun _ => 0) 7 24), .inl (7, [.ref 12]), .inr (0, 72, fillF (fun _ => 0) 0 72), .inl (7, [.ref 14]), .inr (0, 24, fillF (fun _ => 0) (-1) 24), .inl (7, [.ref 16]), .inr (0, 6, fillF (fun _ => 0) 0 6)] := by
  refine cg_of (by decide) (by simp [Value.category]) (by simp) (fun X ρ0 hl hX0 hG hnm hR hQ hr => ?_)
  have hX : CGX X cX9_init 1 RX9 := ⟨hX0, hG⟩
  have hi := hnm rfl
  refine g_al hX dX9_init_0 rfl rfl rfl ?_
  refine g_obj hX ob_X9_3 rfl (by rw [hR]; exact Nat.le_of_ble_eq_true rfl) (by rw [hR]; exact Nat.le_of_ble_eq_true rfl) dX9_init_1 rfl ?_
  refine g_al hX dX9_init_4 rfl rfl rfl ?_
  refine g_new (q9 := 3) rfl hX nw_X9_9 rfl rfl rfl (Nat.le_of_ble_eq_true rfl) ⟨by rw [hR]; exact Nat.le_of_ble_eq_true rfl, by rw [hR]; exact Nat.le_of_ble_eq_true rfl⟩ dX9_init_5 rfl ?_
  refine g_dup hX dX9_init_8 rfl rfl ?_
  refine g_bi 24 hX dX9_init_9 (by decide) rfl ?_
  refine g_ic (-1) hX dX9_init_11 (by decide) rfl ?_
  refine g_callI hX (bg 58 (by decide +kernel) rfl) (bg 59 (by decide +kernel) rfl) (bg 19 (by decide +kernel) rfl) (bg 60 (by decide +kernel) rfl) rfl ⟨by decide +kernel, by decide +kernel, by decide +kernel⟩ (cg_row _ 3 24 24 (-1) _ _ (by decide) (by decide) (by decide) rfl rfl rfl) rfl rfl ⟨by rw [hR]; exact Nat.le_of_ble_eq_true rfl, by rw [hR]; exact Nat.le_of_ble_eq_true rfl, by rw [hR]; exact Nat.le_of_ble_eq_true rfl, by rw [hR]; exact Nat.le_of_ble_eq_true rfl⟩ (Nat.le_of_ble_eq_true rfl) rfl rfl rfl (Nat.le_of_ble_eq_true rfl) dX9_init_12 rfl ?_
  refine g_put hX hi fg_X9_14 (fun _ => ⟨rfl, rfl⟩) (p := 2) rfl (Nat.le_of_ble_eq_true rfl) dX9_init_15 rfl ?_
  refine g_al hX dX9_init_18 rfl rfl rfl ?_
  refine g_new (q9 := 5) rfl hX nw_X9_9 rfl rfl rfl (Nat.le_of_ble_eq_true rfl) ⟨by rw [hR]; exact Nat.le_of_ble_eq_true rfl, by rw [hR]; exact Nat.le_of_ble_eq_true rfl⟩ dX9_init_19 rfl ?_
  refine g_dup hX dX9_init_22 rfl rfl ?_
  refine g_bi 24 hX dX9_init_23 (by decide) rfl ?_
  refine g_ic (-1) hX dX9_init_25 (by decide) rfl ?_
  refine g_callI hX (bg 58 (by decide +kernel) rfl) (bg 59 (by decide +kernel) rfl) (bg 19 (by decide +kernel) rfl) (bg 60 (by decide +kernel) rfl) rfl ⟨by decide +kernel, by decide +kernel, by decide +kernel⟩ (cg_row _ 5 24 24 (-1) _ _ (by decide) (by decide) (by decide) rfl rfl rfl) rfl rfl ⟨by rw [hR]; exact Nat.le_of_ble_eq_true rfl, by rw [hR]; exact Nat.le_of_ble_eq_true rfl, by rw [hR]; exact Nat.le_of_ble_eq_true rfl, by rw [hR]; exact Nat.le_of_ble_eq_true rfl⟩ (Nat.le_of_ble_eq_true rfl) rfl rfl rfl (Nat.le_of_ble_eq_true rfl) dX9_init_26 rfl ?_
  refine g_put hX hi fg_X9_20 (fun _ => ⟨rfl, rfl⟩) (p := 2) rfl (Nat.le_of_ble_eq_true rfl) dX9_init_29 rfl ?_
  refine g_al hX dX9_init_32 rfl rfl rfl ?_
  refine g_new (q9 := 7) rfl hX nw_X9_9 rfl rfl rfl (Nat.le_of_ble_eq_true rfl) ⟨by rw [hR]; exact Nat.le_of_ble_eq_true rfl, by rw [hR]; exact Nat.le_of_ble_eq_true rfl⟩ dX9_init_33 rfl ?_
  refine g_dup hX dX9_init_36 rfl rfl ?_
  refine g_bi 24 hX dX9_init_37 (by decide) rfl ?_
  refine g_ic (-1) hX dX9_init_39 (by decide) rfl ?_
  refine g_callI hX (bg 58 (by decide +kernel) rfl) (bg 59 (by decide +kernel) rfl) (bg 19 (by decide +kernel) rfl) (bg 60 (by decide +kernel) rfl) rfl ⟨by decide +kernel, by decide +kernel, by decide +kernel⟩ (cg_row _ 7 24 24 (-1) _ _ (by decide) (by decide) (by decide) rfl rfl rfl) rfl rfl ⟨by rw [hR]; exact Nat.le_of_ble_eq_true rfl, by rw [hR]; exact Nat.le_of_ble_eq_true rfl, by rw [hR]; exact Nat.le_of_ble_eq_true rfl, by rw [hR]; exact Nat.le_of_ble_eq_true rfl⟩ (Nat.le_of_ble_eq_true rfl) rfl rfl rfl (Nat.le_of_ble_eq_true rfl) dX9_init_40 rfl ?_
  refine g_put hX hi fg_X9_23 (fun _ => ⟨rfl, rfl⟩) (p := 2) rfl (Nat.le_of_ble_eq_true rfl) dX9_init_43 rfl ?_
  refine g_al hX dX9_init_46 rfl rfl rfl ?_
  refine g_new (q9 := 9) rfl hX nw_X9_9 rfl rfl rfl (Nat.le_of_ble_eq_true rfl) ⟨by rw [hR]; exact Nat.le_of_ble_eq_true rfl, by rw [hR]; exact Nat.le_of_ble_eq_true rfl⟩ dX9_init_47 rfl ?_
  refine g_dup hX dX9_init_50 rfl rfl ?_
  refine g_bi 24 hX dX9_init_51 (by decide) rfl ?_
  refine g_bi 7 hX dX9_init_53 (by decide) rfl ?_
  refine g_callI hX (bg 58 (by decide +kernel) rfl) (bg 59 (by decide +kernel) rfl) (bg 19 (by decide +kernel) rfl) (bg 60 (by decide +kernel) rfl) rfl ⟨by decide +kernel, by decide +kernel, by decide +kernel⟩ (cg_row _ 9 24 24 7 _ _ (by decide) (by decide) (by decide) rfl rfl rfl) rfl rfl ⟨by rw [hR]; exact Nat.le_of_ble_eq_true rfl, by rw [hR]; exact Nat.le_of_ble_eq_true rfl, by rw [hR]; exact Nat.le_of_ble_eq_true rfl, by rw [hR]; exact Nat.le_of_ble_eq_true rfl⟩ (Nat.le_of_ble_eq_true rfl) rfl rfl rfl (Nat.le_of_ble_eq_true rfl) dX9_init_55 rfl ?_
  refine g_put hX hi fg_X9_26 (fun _ => ⟨rfl, rfl⟩) (p := 2) rfl (Nat.le_of_ble_eq_true rfl) dX9_init_58 rfl ?_
  refine g_al hX dX9_init_61 rfl rfl rfl ?_
  refine g_new (q9 := 11) rfl hX nw_X9_9 rfl rfl rfl (Nat.le_of_ble_eq_true rfl) ⟨by rw [hR]; exact Nat.le_of_ble_eq_true rfl, by rw [hR]; exact Nat.le_of_ble_eq_true rfl⟩ dX9_init_62 rfl ?_
  refine g_dup hX dX9_init_65 rfl rfl ?_
  refine g_bi 72 hX dX9_init_66 (by decide) rfl ?_
  refine g_ic 0 hX dX9_init_68 (by decide) rfl ?_
  refine g_callI hX (bg 58 (by decide +kernel) rfl) (bg 59 (by decide +kernel) rfl) (bg 19 (by decide +kernel) rfl) (bg 60 (by decide +kernel) rfl) rfl ⟨by decide +kernel, by decide +kernel, by decide +kernel⟩ (cg_row _ 11 72 72 0 _ _ (by decide) (by decide) (by decide) rfl rfl rfl) rfl rfl ⟨by rw [hR]; exact Nat.le_of_ble_eq_true rfl, by rw [hR]; exact Nat.le_of_ble_eq_true rfl, by rw [hR]; exact Nat.le_of_ble_eq_true rfl, by rw [hR]; exact Nat.le_of_ble_eq_true rfl⟩ (Nat.le_of_ble_eq_true rfl) rfl rfl rfl (Nat.le_of_ble_eq_true rfl) dX9_init_69 rfl ?_
  refine g_put hX hi fg_X9_29 (fun _ => ⟨rfl, rfl⟩) (p := 2) rfl (Nat.le_of_ble_eq_true rfl) dX9_init_72 rfl ?_
  refine g_al hX dX9_init_75 rfl rfl rfl ?_
  refine g_new (q9 := 13) rfl hX nw_X9_9 rfl rfl rfl (Nat.le_of_ble_eq_true rfl) ⟨by rw [hR]; exact Nat.le_of_ble_eq_true rfl, by rw [hR]; exact Nat.le_of_ble_eq_true rfl⟩ dX9_init_76 rfl ?_
  refine g_dup hX dX9_init_79 rfl rfl ?_
  refine g_bi 24 hX dX9_init_80 (by decide) rfl ?_
  refine g_ic (-1) hX dX9_init_82 (by decide) rfl ?_
  refine g_callI hX (bg 58 (by decide +kernel) rfl) (bg 59 (by decide +kernel) rfl) (bg 19 (by decide +kernel) rfl) (bg 60 (by decide +kernel) rfl) rfl ⟨by decide +kernel, by decide +kernel, by decide +kernel⟩ (cg_row _ 13 24 24 (-1) _ _ (by decide) (by decide) (by decide) rfl rfl rfl) rfl rfl ⟨by rw [hR]; exact Nat.le_of_ble_eq_true rfl, by rw [hR]; exact Nat.le_of_ble_eq_true rfl, by rw [hR]; exact Nat.le_of_ble_eq_true rfl, by rw [hR]; exact Nat.le_of_ble_eq_true rfl⟩ (Nat.le_of_ble_eq_true rfl) rfl rfl rfl (Nat.le_of_ble_eq_true rfl) dX9_init_83 rfl ?_
  refine g_put hX hi fg_X9_32 (fun _ => ⟨rfl, rfl⟩) (p := 2) rfl (Nat.le_of_ble_eq_true rfl) dX9_init_86 rfl ?_
  refine g_al hX dX9_init_89 rfl rfl rfl ?_
  refine g_new (q9 := 15) rfl hX nw_X9_9 rfl rfl rfl (Nat.le_of_ble_eq_true rfl) ⟨by rw [hR]; exact Nat.le_of_ble_eq_true rfl, by rw [hR]; exact Nat.le_of_ble_eq_true rfl⟩ dX9_init_90 rfl ?_
  refine g_dup hX dX9_init_93 rfl rfl ?_
  refine g_bi 6 hX dX9_init_94 (by decide) rfl ?_
  refine g_ic 0 hX dX9_init_96 (by decide) rfl ?_
  refine g_callI hX (bg 58 (by decide +kernel) rfl) (bg 59 (by decide +kernel) rfl) (bg 19 (by decide +kernel) rfl) (bg 60 (by decide +kernel) rfl) rfl ⟨by decide +kernel, by decide +kernel, by decide +kernel⟩ (cg_row _ 15 6 6 0 _ _ (by decide) (by decide) (by decide) rfl rfl rfl) rfl rfl ⟨by rw [hR]; exact Nat.le_of_ble_eq_true rfl, by rw [hR]; exact Nat.le_of_ble_eq_true rfl, by rw [hR]; exact Nat.le_of_ble_eq_true rfl, by rw [hR]; exact Nat.le_of_ble_eq_true rfl⟩ (Nat.le_of_ble_eq_true rfl) rfl rfl rfl (Nat.le_of_ble_eq_true rfl) dX9_init_97 rfl ?_
  refine g_put hX hi fg_X9_35 (fun _ => ⟨rfl, rfl⟩) (p := 2) rfl (Nat.le_of_ble_eq_true rfl) dX9_init_100 rfl ?_
  exact g_ret hX hQ hr rfl dX9_init_103

set_option maxRecDepth 100000 in
set_option maxHeartbeats 4000000 in
theorem cg_X6_init_0 (l : Launch) : CG l yX6_init cX6_init 1 2 45 14 217 [.ref 17]
  [.inl (11, [.null, .null, .null, .null, .null]), .inl (10, [.ref 2, .null, .null, .null, .null, .null, .null, .null, .null, .int 0, .int 0]), .inl (9, [.ref 3, .ref 5, .ref 7, .ref 9, .ref 11, .ref 13, .ref 15, .int 0, .int 0, .int 0, .int 0]), .inl (7, [.ref 4]), .inr (0, 24, fillF (fun _ => 0) (-1) 24), .inl (7, [.ref 6]), .inr (0, 24, fillF (fun _ => 0) (-1) 24), .inl (7, [.ref 8]), .inr (0, 24, fillF (fun _ => 0) (-1) 24), .inl (7, [.ref 10]), .inr (0, 24, fillF (fun _ => 0) 7 24), .inl (7, [.ref 12]), .inr (0, 72, fillF (fun _ => 0) 0 72), .inl (7, [.ref 14]), .inr (0, 24, fillF (fun _ => 0) (-1) 24), .inl (7, [.ref 16]), .inr (0, 6, fillF (fun _ => 0) 0 6), .inl (6, [.null, .null, .null, .null, .null, .null, .null, .int 0])]
  [.inl (11, [.null, .null, .null, .null, .null]), .inl (10, [.ref 2, .null, .null, .null, .null, .null, .null, .null, .null, .int 0, .int 0]), .inl (9, [.ref 3, .ref 5, .ref 7, .ref 9, .ref 11, .ref 13, .ref 15, .int 0, .int 0, .int 0, .int 0]), .inl (7, [.ref 4]), .inr (0, 24, fillF (fun _ => 0) (-1) 24), .inl (7, [.ref 6]), .inr (0, 24, fillF (fun _ => 0) (-1) 24), .inl (7, [.ref 8]), .inr (0, 24, fillF (fun _ => 0) (-1) 24), .inl (7, [.ref 10]), .inr (0, 24, fillF (fun _ => 0) 7 24), .inl (7, [.ref 12]), .inr (0, 72, fillF (fun _ => 0) 0 72), .inl (7, [.ref 14]), .inr (0, 24, fillF (fun _ => 0) (-1) 24), .inl (7, [.ref 16]), .inr (0, 6, fillF (fun _ => 0) 0 6), .inl (6, [.ref 18, .ref 20, .ref 22, .ref 24, .ref 26, .ref 28, .ref 30, .int 0]), .inl (7, [.ref 19]), .inr (0, 30, fillF (fun _ => 0) 3 30), .inl (7, [.ref 21]), .inr (0, 30, fillF (fun _ => 0) 0 30), .inl (7, [.ref 23]), .inr (0, 30, fillF (fun _ => 0) 0 30), .inl (7, [.ref 25]), .inr (0, 30, fillF (fun _ => 0) (-1) 30), .inl (7, [.ref 27]), .inr (0, 30, fillF (fun _ => 0) (-1) 30), .inl (7, [.ref 29]), .inr (0, 30, fillF (fun _ => 0) (-1) 30), .inl (7, [.ref 31]), .inr (0, 30, fillF (fun _ => 0) 0 30)] := by
  refine cg_of (by decide) (by simp [Value.category]) (by simp) (fun X ρ0 hl hX0 hG hnm hR hQ hr => ?_)
  have hX : CGX X cX6_init 1 RX6 := ⟨hX0, hG⟩
  have hi := hnm rfl
  refine g_al hX dX6_init_0 rfl rfl rfl ?_
  refine g_obj hX ob_X6_3 rfl (by rw [hR]; exact Nat.le_of_ble_eq_true rfl) (by rw [hR]; exact Nat.le_of_ble_eq_true rfl) dX6_init_1 rfl ?_
  refine g_al hX dX6_init_4 rfl rfl rfl ?_
  refine g_new (q9 := 18) rfl hX nw_X6_9 rfl rfl rfl (Nat.le_of_ble_eq_true rfl) ⟨by rw [hR]; exact Nat.le_of_ble_eq_true rfl, by rw [hR]; exact Nat.le_of_ble_eq_true rfl⟩ dX6_init_5 rfl ?_
  refine g_dup hX dX6_init_8 rfl rfl ?_
  refine g_bi 30 hX dX6_init_9 (by decide) rfl ?_
  refine g_ic 3 hX dX6_init_11 (by decide) rfl ?_
  refine g_callI hX (bg 126 (by decide +kernel) rfl) (bg 59 (by decide +kernel) rfl) (bg 19 (by decide +kernel) rfl) (bg 60 (by decide +kernel) rfl) rfl ⟨by decide +kernel, by decide +kernel, by decide +kernel⟩ (cg_row _ 18 30 30 3 _ _ (by decide) (by decide) (by decide) rfl rfl rfl) rfl rfl ⟨by rw [hR]; exact Nat.le_of_ble_eq_true rfl, by rw [hR]; exact Nat.le_of_ble_eq_true rfl, by rw [hR]; exact Nat.le_of_ble_eq_true rfl, by rw [hR]; exact Nat.le_of_ble_eq_true rfl⟩ (Nat.le_of_ble_eq_true rfl) rfl rfl rfl (Nat.le_of_ble_eq_true rfl) dX6_init_12 rfl ?_
  refine g_put hX hi fg_X6_14 (fun _ => ⟨rfl, rfl⟩) (p := 17) rfl (Nat.le_of_ble_eq_true rfl) dX6_init_15 rfl ?_
  refine g_al hX dX6_init_18 rfl rfl rfl ?_
  refine g_new (q9 := 20) rfl hX nw_X6_9 rfl rfl rfl (Nat.le_of_ble_eq_true rfl) ⟨by rw [hR]; exact Nat.le_of_ble_eq_true rfl, by rw [hR]; exact Nat.le_of_ble_eq_true rfl⟩ dX6_init_19 rfl ?_
  refine g_dup hX dX6_init_22 rfl rfl ?_
  refine g_bi 30 hX dX6_init_23 (by decide) rfl ?_
  refine g_ic 0 hX dX6_init_25 (by decide) rfl ?_
  refine g_callI hX (bg 126 (by decide +kernel) rfl) (bg 59 (by decide +kernel) rfl) (bg 19 (by decide +kernel) rfl) (bg 60 (by decide +kernel) rfl) rfl ⟨by decide +kernel, by decide +kernel, by decide +kernel⟩ (cg_row _ 20 30 30 0 _ _ (by decide) (by decide) (by decide) rfl rfl rfl) rfl rfl ⟨by rw [hR]; exact Nat.le_of_ble_eq_true rfl, by rw [hR]; exact Nat.le_of_ble_eq_true rfl, by rw [hR]; exact Nat.le_of_ble_eq_true rfl, by rw [hR]; exact Nat.le_of_ble_eq_true rfl⟩ (Nat.le_of_ble_eq_true rfl) rfl rfl rfl (Nat.le_of_ble_eq_true rfl) dX6_init_26 rfl ?_
  refine g_put hX hi fg_X6_20 (fun _ => ⟨rfl, rfl⟩) (p := 17) rfl (Nat.le_of_ble_eq_true rfl) dX6_init_29 rfl ?_
  refine g_al hX dX6_init_32 rfl rfl rfl ?_
  refine g_new (q9 := 22) rfl hX nw_X6_9 rfl rfl rfl (Nat.le_of_ble_eq_true rfl) ⟨by rw [hR]; exact Nat.le_of_ble_eq_true rfl, by rw [hR]; exact Nat.le_of_ble_eq_true rfl⟩ dX6_init_33 rfl ?_
  refine g_dup hX dX6_init_36 rfl rfl ?_
  refine g_bi 30 hX dX6_init_37 (by decide) rfl ?_
  refine g_ic 0 hX dX6_init_39 (by decide) rfl ?_
  refine g_callI hX (bg 126 (by decide +kernel) rfl) (bg 59 (by decide +kernel) rfl) (bg 19 (by decide +kernel) rfl) (bg 60 (by decide +kernel) rfl) rfl ⟨by decide +kernel, by decide +kernel, by decide +kernel⟩ (cg_row _ 22 30 30 0 _ _ (by decide) (by decide) (by decide) rfl rfl rfl) rfl rfl ⟨by rw [hR]; exact Nat.le_of_ble_eq_true rfl, by rw [hR]; exact Nat.le_of_ble_eq_true rfl, by rw [hR]; exact Nat.le_of_ble_eq_true rfl, by rw [hR]; exact Nat.le_of_ble_eq_true rfl⟩ (Nat.le_of_ble_eq_true rfl) rfl rfl rfl (Nat.le_of_ble_eq_true rfl) dX6_init_40 rfl ?_
  refine g_put hX hi fg_X6_23 (fun _ => ⟨rfl, rfl⟩) (p := 17) rfl (Nat.le_of_ble_eq_true rfl) dX6_init_43 rfl ?_
  refine g_al hX dX6_init_46 rfl rfl rfl ?_
  refine g_new (q9 := 24) rfl hX nw_X6_9 rfl rfl rfl (Nat.le_of_ble_eq_true rfl) ⟨by rw [hR]; exact Nat.le_of_ble_eq_true rfl, by rw [hR]; exact Nat.le_of_ble_eq_true rfl⟩ dX6_init_47 rfl ?_
  refine g_dup hX dX6_init_50 rfl rfl ?_
  refine g_bi 30 hX dX6_init_51 (by decide) rfl ?_
  refine g_ic (-1) hX dX6_init_53 (by decide) rfl ?_
  refine g_callI hX (bg 126 (by decide +kernel) rfl) (bg 59 (by decide +kernel) rfl) (bg 19 (by decide +kernel) rfl) (bg 60 (by decide +kernel) rfl) rfl ⟨by decide +kernel, by decide +kernel, by decide +kernel⟩ (cg_row _ 24 30 30 (-1) _ _ (by decide) (by decide) (by decide) rfl rfl rfl) rfl rfl ⟨by rw [hR]; exact Nat.le_of_ble_eq_true rfl, by rw [hR]; exact Nat.le_of_ble_eq_true rfl, by rw [hR]; exact Nat.le_of_ble_eq_true rfl, by rw [hR]; exact Nat.le_of_ble_eq_true rfl⟩ (Nat.le_of_ble_eq_true rfl) rfl rfl rfl (Nat.le_of_ble_eq_true rfl) dX6_init_54 rfl ?_
  refine g_put hX hi fg_X6_26 (fun _ => ⟨rfl, rfl⟩) (p := 17) rfl (Nat.le_of_ble_eq_true rfl) dX6_init_57 rfl ?_
  refine g_al hX dX6_init_60 rfl rfl rfl ?_
  refine g_new (q9 := 26) rfl hX nw_X6_9 rfl rfl rfl (Nat.le_of_ble_eq_true rfl) ⟨by rw [hR]; exact Nat.le_of_ble_eq_true rfl, by rw [hR]; exact Nat.le_of_ble_eq_true rfl⟩ dX6_init_61 rfl ?_
  refine g_dup hX dX6_init_64 rfl rfl ?_
  refine g_bi 30 hX dX6_init_65 (by decide) rfl ?_
  refine g_ic (-1) hX dX6_init_67 (by decide) rfl ?_
  refine g_callI hX (bg 126 (by decide +kernel) rfl) (bg 59 (by decide +kernel) rfl) (bg 19 (by decide +kernel) rfl) (bg 60 (by decide +kernel) rfl) rfl ⟨by decide +kernel, by decide +kernel, by decide +kernel⟩ (cg_row _ 26 30 30 (-1) _ _ (by decide) (by decide) (by decide) rfl rfl rfl) rfl rfl ⟨by rw [hR]; exact Nat.le_of_ble_eq_true rfl, by rw [hR]; exact Nat.le_of_ble_eq_true rfl, by rw [hR]; exact Nat.le_of_ble_eq_true rfl, by rw [hR]; exact Nat.le_of_ble_eq_true rfl⟩ (Nat.le_of_ble_eq_true rfl) rfl rfl rfl (Nat.le_of_ble_eq_true rfl) dX6_init_68 rfl ?_
  refine g_put hX hi fg_X6_29 (fun _ => ⟨rfl, rfl⟩) (p := 17) rfl (Nat.le_of_ble_eq_true rfl) dX6_init_71 rfl ?_
  refine g_al hX dX6_init_74 rfl rfl rfl ?_
  refine g_new (q9 := 28) rfl hX nw_X6_9 rfl rfl rfl (Nat.le_of_ble_eq_true rfl) ⟨by rw [hR]; exact Nat.le_of_ble_eq_true rfl, by rw [hR]; exact Nat.le_of_ble_eq_true rfl⟩ dX6_init_75 rfl ?_
  refine g_dup hX dX6_init_78 rfl rfl ?_
  refine g_bi 30 hX dX6_init_79 (by decide) rfl ?_
  refine g_ic (-1) hX dX6_init_81 (by decide) rfl ?_
  refine g_callI hX (bg 126 (by decide +kernel) rfl) (bg 59 (by decide +kernel) rfl) (bg 19 (by decide +kernel) rfl) (bg 60 (by decide +kernel) rfl) rfl ⟨by decide +kernel, by decide +kernel, by decide +kernel⟩ (cg_row _ 28 30 30 (-1) _ _ (by decide) (by decide) (by decide) rfl rfl rfl) rfl rfl ⟨by rw [hR]; exact Nat.le_of_ble_eq_true rfl, by rw [hR]; exact Nat.le_of_ble_eq_true rfl, by rw [hR]; exact Nat.le_of_ble_eq_true rfl, by rw [hR]; exact Nat.le_of_ble_eq_true rfl⟩ (Nat.le_of_ble_eq_true rfl) rfl rfl rfl (Nat.le_of_ble_eq_true rfl) dX6_init_82 rfl ?_
  refine g_put hX hi fg_X6_32 (fun _ => ⟨rfl, rfl⟩) (p := 17) rfl (Nat.le_of_ble_eq_true rfl) dX6_init_85 rfl ?_
  refine g_al hX dX6_init_88 rfl rfl rfl ?_
  refine g_new (q9 := 30) rfl hX nw_X6_9 rfl rfl rfl (Nat.le_of_ble_eq_true rfl) ⟨by rw [hR]; exact Nat.le_of_ble_eq_true rfl, by rw [hR]; exact Nat.le_of_ble_eq_true rfl⟩ dX6_init_89 rfl ?_
  refine g_dup hX dX6_init_92 rfl rfl ?_
  refine g_bi 30 hX dX6_init_93 (by decide) rfl ?_
  refine g_ic 0 hX dX6_init_95 (by decide) rfl ?_
  refine g_callI hX (bg 126 (by decide +kernel) rfl) (bg 59 (by decide +kernel) rfl) (bg 19 (by decide +kernel) rfl) (bg 60 (by decide +kernel) rfl) rfl ⟨by decide +kernel, by decide +kernel, by decide +kernel⟩ (cg_row _ 30 30 30 0 _ _ (by decide) (by decide) (by decide) rfl rfl rfl) rfl rfl ⟨by rw [hR]; exact Nat.le_of_ble_eq_true rfl, by rw [hR]; exact Nat.le_of_ble_eq_true rfl, by rw [hR]; exact Nat.le_of_ble_eq_true rfl, by rw [hR]; exact Nat.le_of_ble_eq_true rfl⟩ (Nat.le_of_ble_eq_true rfl) rfl rfl rfl (Nat.le_of_ble_eq_true rfl) dX6_init_96 rfl ?_
  refine g_put hX hi fg_X6_35 (fun _ => ⟨rfl, rfl⟩) (p := 17) rfl (Nat.le_of_ble_eq_true rfl) dX6_init_99 rfl ?_
  exact g_ret hX hQ hr rfl dX6_init_102

set_option maxRecDepth 100000 in
set_option maxHeartbeats 4000000 in
theorem cg_X4_init_0 (l : Launch) : CG l yX4_init cX4_init 1 2 45 14 751 [.ref 32]
  [.inl (11, [.null, .null, .null, .null, .null]), .inl (10, [.ref 2, .ref 17, .null, .null, .null, .null, .null, .null, .null, .int 0, .int 0]), .inl (9, [.ref 3, .ref 5, .ref 7, .ref 9, .ref 11, .ref 13, .ref 15, .int 0, .int 0, .int 0, .int 0]), .inl (7, [.ref 4]), .inr (0, 24, fillF (fun _ => 0) (-1) 24), .inl (7, [.ref 6]), .inr (0, 24, fillF (fun _ => 0) (-1) 24), .inl (7, [.ref 8]), .inr (0, 24, fillF (fun _ => 0) (-1) 24), .inl (7, [.ref 10]), .inr (0, 24, fillF (fun _ => 0) 7 24), .inl (7, [.ref 12]), .inr (0, 72, fillF (fun _ => 0) 0 72), .inl (7, [.ref 14]), .inr (0, 24, fillF (fun _ => 0) (-1) 24), .inl (7, [.ref 16]), .inr (0, 6, fillF (fun _ => 0) 0 6), .inl (6, [.ref 18, .ref 20, .ref 22, .ref 24, .ref 26, .ref 28, .ref 30, .int 0]), .inl (7, [.ref 19]), .inr (0, 30, fillF (fun _ => 0) 3 30), .inl (7, [.ref 21]), .inr (0, 30, fillF (fun _ => 0) 0 30), .inl (7, [.ref 23]), .inr (0, 30, fillF (fun _ => 0) 0 30), .inl (7, [.ref 25]), .inr (0, 30, fillF (fun _ => 0) (-1) 30), .inl (7, [.ref 27]), .inr (0, 30, fillF (fun _ => 0) (-1) 30), .inl (7, [.ref 29]), .inr (0, 30, fillF (fun _ => 0) (-1) 30), .inl (7, [.ref 31]), .inr (0, 30, fillF (fun _ => 0) 0 30), .inl (4, [.null, .null, .null, .null, .null, .null, .null])]
  [.inl (11, [.null, .null, .null, .null, .null]), .inl (10, [.ref 2, .ref 17, .null, .null, .null, .null, .null, .null, .null, .int 0, .int 0]), .inl (9, [.ref 3, .ref 5, .ref 7, .ref 9, .ref 11, .ref 13, .ref 15, .int 0, .int 0, .int 0, .int 0]), .inl (7, [.ref 4]), .inr (0, 24, fillF (fun _ => 0) (-1) 24), .inl (7, [.ref 6]), .inr (0, 24, fillF (fun _ => 0) (-1) 24), .inl (7, [.ref 8]), .inr (0, 24, fillF (fun _ => 0) (-1) 24), .inl (7, [.ref 10]), .inr (0, 24, fillF (fun _ => 0) 7 24), .inl (7, [.ref 12]), .inr (0, 72, fillF (fun _ => 0) 0 72), .inl (7, [.ref 14]), .inr (0, 24, fillF (fun _ => 0) (-1) 24), .inl (7, [.ref 16]), .inr (0, 6, fillF (fun _ => 0) 0 6), .inl (6, [.ref 18, .ref 20, .ref 22, .ref 24, .ref 26, .ref 28, .ref 30, .int 0]), .inl (7, [.ref 19]), .inr (0, 30, fillF (fun _ => 0) 3 30), .inl (7, [.ref 21]), .inr (0, 30, fillF (fun _ => 0) 0 30), .inl (7, [.ref 23]), .inr (0, 30, fillF (fun _ => 0) 0 30), .inl (7, [.ref 25]), .inr (0, 30, fillF (fun _ => 0) (-1) 30), .inl (7, [.ref 27]), .inr (0, 30, fillF (fun _ => 0) (-1) 30), .inl (7, [.ref 29]), .inr (0, 30, fillF (fun _ => 0) (-1) 30), .inl (7, [.ref 31]), .inr (0, 30, fillF (fun _ => 0) 0 30), .inl (4, [.ref 33, .ref 35, .ref 37, .ref 39, .ref 41, .ref 43, .ref 45]), .inl (7, [.ref 34]), .inr (0, 120, fillF (fun _ => 0) (-1) 120), .inl (7, [.ref 36]), .inr (0, 120, fillF (fun _ => 0) (-1) 120), .inl (7, [.ref 38]), .inr (0, 120, fillF (fun _ => 0) 0 120), .inl (7, [.ref 40]), .inr (0, 120, fillF (fun _ => 0) (-1) 120), .inl (7, [.ref 42]), .inr (0, 120, fillF (fun _ => 0) 0 120), .inl (7, [.ref 44]), .inr (0, 120, fillF (fun _ => 0) 0 120), .inl (7, [.ref 46]), .inr (0, 24, fillF (fun _ => 0) 0 24)] := by
  refine cg_of (by decide) (by simp [Value.category]) (by simp) (fun X ρ0 hl hX0 hG hnm hR hQ hr => ?_)
  have hX : CGX X cX4_init 1 RX4 := ⟨hX0, hG⟩
  have hi := hnm rfl
  refine g_al hX dX4_init_0 rfl rfl rfl ?_
  refine g_obj hX ob_X4_3 rfl (by rw [hR]; exact Nat.le_of_ble_eq_true rfl) (by rw [hR]; exact Nat.le_of_ble_eq_true rfl) dX4_init_1 rfl ?_
  refine g_al hX dX4_init_4 rfl rfl rfl ?_
  refine g_new (q9 := 33) rfl hX nw_X4_9 rfl rfl rfl (Nat.le_of_ble_eq_true rfl) ⟨by rw [hR]; exact Nat.le_of_ble_eq_true rfl, by rw [hR]; exact Nat.le_of_ble_eq_true rfl⟩ dX4_init_5 rfl ?_
  refine g_dup hX dX4_init_8 rfl rfl ?_
  refine g_bi 120 hX dX4_init_9 (by decide) rfl ?_
  refine g_ic (-1) hX dX4_init_11 (by decide) rfl ?_
  refine g_callI hX (bg 161 (by decide +kernel) rfl) (bg 59 (by decide +kernel) rfl) (bg 19 (by decide +kernel) rfl) (bg 60 (by decide +kernel) rfl) rfl ⟨by decide +kernel, by decide +kernel, by decide +kernel⟩ (cg_row _ 33 120 120 (-1) _ _ (by decide) (by decide) (by decide) rfl rfl rfl) rfl rfl ⟨by rw [hR]; exact Nat.le_of_ble_eq_true rfl, by rw [hR]; exact Nat.le_of_ble_eq_true rfl, by rw [hR]; exact Nat.le_of_ble_eq_true rfl, by rw [hR]; exact Nat.le_of_ble_eq_true rfl⟩ (Nat.le_of_ble_eq_true rfl) rfl rfl rfl (Nat.le_of_ble_eq_true rfl) dX4_init_12 rfl ?_
  refine g_put hX hi fg_X4_14 (fun _ => ⟨rfl, rfl⟩) (p := 32) rfl (Nat.le_of_ble_eq_true rfl) dX4_init_15 rfl ?_
  refine g_al hX dX4_init_18 rfl rfl rfl ?_
  refine g_new (q9 := 35) rfl hX nw_X4_9 rfl rfl rfl (Nat.le_of_ble_eq_true rfl) ⟨by rw [hR]; exact Nat.le_of_ble_eq_true rfl, by rw [hR]; exact Nat.le_of_ble_eq_true rfl⟩ dX4_init_19 rfl ?_
  refine g_dup hX dX4_init_22 rfl rfl ?_
  refine g_bi 120 hX dX4_init_23 (by decide) rfl ?_
  refine g_ic (-1) hX dX4_init_25 (by decide) rfl ?_
  refine g_callI hX (bg 161 (by decide +kernel) rfl) (bg 59 (by decide +kernel) rfl) (bg 19 (by decide +kernel) rfl) (bg 60 (by decide +kernel) rfl) rfl ⟨by decide +kernel, by decide +kernel, by decide +kernel⟩ (cg_row _ 35 120 120 (-1) _ _ (by decide) (by decide) (by decide) rfl rfl rfl) rfl rfl ⟨by rw [hR]; exact Nat.le_of_ble_eq_true rfl, by rw [hR]; exact Nat.le_of_ble_eq_true rfl, by rw [hR]; exact Nat.le_of_ble_eq_true rfl, by rw [hR]; exact Nat.le_of_ble_eq_true rfl⟩ (Nat.le_of_ble_eq_true rfl) rfl rfl rfl (Nat.le_of_ble_eq_true rfl) dX4_init_26 rfl ?_
  refine g_put hX hi fg_X4_20 (fun _ => ⟨rfl, rfl⟩) (p := 32) rfl (Nat.le_of_ble_eq_true rfl) dX4_init_29 rfl ?_
  refine g_al hX dX4_init_32 rfl rfl rfl ?_
  refine g_new (q9 := 37) rfl hX nw_X4_9 rfl rfl rfl (Nat.le_of_ble_eq_true rfl) ⟨by rw [hR]; exact Nat.le_of_ble_eq_true rfl, by rw [hR]; exact Nat.le_of_ble_eq_true rfl⟩ dX4_init_33 rfl ?_
  refine g_dup hX dX4_init_36 rfl rfl ?_
  refine g_bi 120 hX dX4_init_37 (by decide) rfl ?_
  refine g_ic 0 hX dX4_init_39 (by decide) rfl ?_
  refine g_callI hX (bg 161 (by decide +kernel) rfl) (bg 59 (by decide +kernel) rfl) (bg 19 (by decide +kernel) rfl) (bg 60 (by decide +kernel) rfl) rfl ⟨by decide +kernel, by decide +kernel, by decide +kernel⟩ (cg_row _ 37 120 120 0 _ _ (by decide) (by decide) (by decide) rfl rfl rfl) rfl rfl ⟨by rw [hR]; exact Nat.le_of_ble_eq_true rfl, by rw [hR]; exact Nat.le_of_ble_eq_true rfl, by rw [hR]; exact Nat.le_of_ble_eq_true rfl, by rw [hR]; exact Nat.le_of_ble_eq_true rfl⟩ (Nat.le_of_ble_eq_true rfl) rfl rfl rfl (Nat.le_of_ble_eq_true rfl) dX4_init_40 rfl ?_
  refine g_put hX hi fg_X4_23 (fun _ => ⟨rfl, rfl⟩) (p := 32) rfl (Nat.le_of_ble_eq_true rfl) dX4_init_43 rfl ?_
  refine g_al hX dX4_init_46 rfl rfl rfl ?_
  refine g_new (q9 := 39) rfl hX nw_X4_9 rfl rfl rfl (Nat.le_of_ble_eq_true rfl) ⟨by rw [hR]; exact Nat.le_of_ble_eq_true rfl, by rw [hR]; exact Nat.le_of_ble_eq_true rfl⟩ dX4_init_47 rfl ?_
  refine g_dup hX dX4_init_50 rfl rfl ?_
  refine g_bi 120 hX dX4_init_51 (by decide) rfl ?_
  refine g_ic (-1) hX dX4_init_53 (by decide) rfl ?_
  refine g_callI hX (bg 161 (by decide +kernel) rfl) (bg 59 (by decide +kernel) rfl) (bg 19 (by decide +kernel) rfl) (bg 60 (by decide +kernel) rfl) rfl ⟨by decide +kernel, by decide +kernel, by decide +kernel⟩ (cg_row _ 39 120 120 (-1) _ _ (by decide) (by decide) (by decide) rfl rfl rfl) rfl rfl ⟨by rw [hR]; exact Nat.le_of_ble_eq_true rfl, by rw [hR]; exact Nat.le_of_ble_eq_true rfl, by rw [hR]; exact Nat.le_of_ble_eq_true rfl, by rw [hR]; exact Nat.le_of_ble_eq_true rfl⟩ (Nat.le_of_ble_eq_true rfl) rfl rfl rfl (Nat.le_of_ble_eq_true rfl) dX4_init_54 rfl ?_
  refine g_put hX hi fg_X4_26 (fun _ => ⟨rfl, rfl⟩) (p := 32) rfl (Nat.le_of_ble_eq_true rfl) dX4_init_57 rfl ?_
  refine g_al hX dX4_init_60 rfl rfl rfl ?_
  refine g_new (q9 := 41) rfl hX nw_X4_9 rfl rfl rfl (Nat.le_of_ble_eq_true rfl) ⟨by rw [hR]; exact Nat.le_of_ble_eq_true rfl, by rw [hR]; exact Nat.le_of_ble_eq_true rfl⟩ dX4_init_61 rfl ?_
  refine g_dup hX dX4_init_64 rfl rfl ?_
  refine g_bi 120 hX dX4_init_65 (by decide) rfl ?_
  refine g_ic 0 hX dX4_init_67 (by decide) rfl ?_
  refine g_callI hX (bg 161 (by decide +kernel) rfl) (bg 59 (by decide +kernel) rfl) (bg 19 (by decide +kernel) rfl) (bg 60 (by decide +kernel) rfl) rfl ⟨by decide +kernel, by decide +kernel, by decide +kernel⟩ (cg_row _ 41 120 120 0 _ _ (by decide) (by decide) (by decide) rfl rfl rfl) rfl rfl ⟨by rw [hR]; exact Nat.le_of_ble_eq_true rfl, by rw [hR]; exact Nat.le_of_ble_eq_true rfl, by rw [hR]; exact Nat.le_of_ble_eq_true rfl, by rw [hR]; exact Nat.le_of_ble_eq_true rfl⟩ (Nat.le_of_ble_eq_true rfl) rfl rfl rfl (Nat.le_of_ble_eq_true rfl) dX4_init_68 rfl ?_
  refine g_put hX hi fg_X4_29 (fun _ => ⟨rfl, rfl⟩) (p := 32) rfl (Nat.le_of_ble_eq_true rfl) dX4_init_71 rfl ?_
  refine g_al hX dX4_init_74 rfl rfl rfl ?_
  refine g_new (q9 := 43) rfl hX nw_X4_9 rfl rfl rfl (Nat.le_of_ble_eq_true rfl) ⟨by rw [hR]; exact Nat.le_of_ble_eq_true rfl, by rw [hR]; exact Nat.le_of_ble_eq_true rfl⟩ dX4_init_75 rfl ?_
  refine g_dup hX dX4_init_78 rfl rfl ?_
  refine g_bi 120 hX dX4_init_79 (by decide) rfl ?_
  refine g_ic 0 hX dX4_init_81 (by decide) rfl ?_
  refine g_callI hX (bg 161 (by decide +kernel) rfl) (bg 59 (by decide +kernel) rfl) (bg 19 (by decide +kernel) rfl) (bg 60 (by decide +kernel) rfl) rfl ⟨by decide +kernel, by decide +kernel, by decide +kernel⟩ (cg_row _ 43 120 120 0 _ _ (by decide) (by decide) (by decide) rfl rfl rfl) rfl rfl ⟨by rw [hR]; exact Nat.le_of_ble_eq_true rfl, by rw [hR]; exact Nat.le_of_ble_eq_true rfl, by rw [hR]; exact Nat.le_of_ble_eq_true rfl, by rw [hR]; exact Nat.le_of_ble_eq_true rfl⟩ (Nat.le_of_ble_eq_true rfl) rfl rfl rfl (Nat.le_of_ble_eq_true rfl) dX4_init_82 rfl ?_
  refine g_put hX hi fg_X4_32 (fun _ => ⟨rfl, rfl⟩) (p := 32) rfl (Nat.le_of_ble_eq_true rfl) dX4_init_85 rfl ?_
  refine g_al hX dX4_init_88 rfl rfl rfl ?_
  refine g_new (q9 := 45) rfl hX nw_X4_9 rfl rfl rfl (Nat.le_of_ble_eq_true rfl) ⟨by rw [hR]; exact Nat.le_of_ble_eq_true rfl, by rw [hR]; exact Nat.le_of_ble_eq_true rfl⟩ dX4_init_89 rfl ?_
  refine g_dup hX dX4_init_92 rfl rfl ?_
  refine g_bi 24 hX dX4_init_93 (by decide) rfl ?_
  refine g_ic 0 hX dX4_init_95 (by decide) rfl ?_
  refine g_callI hX (bg 161 (by decide +kernel) rfl) (bg 59 (by decide +kernel) rfl) (bg 19 (by decide +kernel) rfl) (bg 60 (by decide +kernel) rfl) rfl ⟨by decide +kernel, by decide +kernel, by decide +kernel⟩ (cg_row _ 45 24 24 0 _ _ (by decide) (by decide) (by decide) rfl rfl rfl) rfl rfl ⟨by rw [hR]; exact Nat.le_of_ble_eq_true rfl, by rw [hR]; exact Nat.le_of_ble_eq_true rfl, by rw [hR]; exact Nat.le_of_ble_eq_true rfl, by rw [hR]; exact Nat.le_of_ble_eq_true rfl⟩ (Nat.le_of_ble_eq_true rfl) rfl rfl rfl (Nat.le_of_ble_eq_true rfl) dX4_init_96 rfl ?_
  refine g_put hX hi fg_X4_35 (fun _ => ⟨rfl, rfl⟩) (p := 32) rfl (Nat.le_of_ble_eq_true rfl) dX4_init_99 rfl ?_
  exact g_ret hX hQ hr rfl dX4_init_102

set_option maxRecDepth 100000 in
set_option maxHeartbeats 4000000 in
theorem cg_X2_init_0 (l : Launch) : CG l yX2_init cX2_init 1 2 45 8 28 [.ref 47]
  [.inl (11, [.null, .null, .null, .null, .null]), .inl (10, [.ref 2, .ref 17, .ref 32, .null, .null, .null, .null, .null, .null, .int 0, .int 0]), .inl (9, [.ref 3, .ref 5, .ref 7, .ref 9, .ref 11, .ref 13, .ref 15, .int 0, .int 0, .int 0, .int 0]), .inl (7, [.ref 4]), .inr (0, 24, fillF (fun _ => 0) (-1) 24), .inl (7, [.ref 6]), .inr (0, 24, fillF (fun _ => 0) (-1) 24), .inl (7, [.ref 8]), .inr (0, 24, fillF (fun _ => 0) (-1) 24), .inl (7, [.ref 10]), .inr (0, 24, fillF (fun _ => 0) 7 24), .inl (7, [.ref 12]), .inr (0, 72, fillF (fun _ => 0) 0 72), .inl (7, [.ref 14]), .inr (0, 24, fillF (fun _ => 0) (-1) 24), .inl (7, [.ref 16]), .inr (0, 6, fillF (fun _ => 0) 0 6), .inl (6, [.ref 18, .ref 20, .ref 22, .ref 24, .ref 26, .ref 28, .ref 30, .int 0]), .inl (7, [.ref 19]), .inr (0, 30, fillF (fun _ => 0) 3 30), .inl (7, [.ref 21]), .inr (0, 30, fillF (fun _ => 0) 0 30), .inl (7, [.ref 23]), .inr (0, 30, fillF (fun _ => 0) 0 30), .inl (7, [.ref 25]), .inr (0, 30, fillF (fun _ => 0) (-1) 30), .inl (7, [.ref 27]), .inr (0, 30, fillF (fun _ => 0) (-1) 30), .inl (7, [.ref 29]), .inr (0, 30, fillF (fun _ => 0) (-1) 30), .inl (7, [.ref 31]), .inr (0, 30, fillF (fun _ => 0) 0 30), .inl (4, [.ref 33, .ref 35, .ref 37, .ref 39, .ref 41, .ref 43, .ref 45]), .inl (7, [.ref 34]), .inr (0, 120, fillF (fun _ => 0) (-1) 120), .inl (7, [.ref 36]), .inr (0, 120, fillF (fun _ => 0) (-1) 120), .inl (7, [.ref 38]), .inr (0, 120, fillF (fun _ => 0) 0 120), .inl (7, [.ref 40]), .inr (0, 120, fillF (fun _ => 0) (-1) 120), .inl (7, [.ref 42]), .inr (0, 120, fillF (fun _ => 0) 0 120), .inl (7, [.ref 44]), .inr (0, 120, fillF (fun _ => 0) 0 120), .inl (7, [.ref 46]), .inr (0, 24, fillF (fun _ => 0) 0 24), .inl (2, [.null, .null, .null, .null, .int 0])]
  [.inl (11, [.null, .null, .null, .null, .null]), .inl (10, [.ref 2, .ref 17, .ref 32, .null, .null, .null, .null, .null, .null, .int 0, .int 0]), .inl (9, [.ref 3, .ref 5, .ref 7, .ref 9, .ref 11, .ref 13, .ref 15, .int 0, .int 0, .int 0, .int 0]), .inl (7, [.ref 4]), .inr (0, 24, fillF (fun _ => 0) (-1) 24), .inl (7, [.ref 6]), .inr (0, 24, fillF (fun _ => 0) (-1) 24), .inl (7, [.ref 8]), .inr (0, 24, fillF (fun _ => 0) (-1) 24), .inl (7, [.ref 10]), .inr (0, 24, fillF (fun _ => 0) 7 24), .inl (7, [.ref 12]), .inr (0, 72, fillF (fun _ => 0) 0 72), .inl (7, [.ref 14]), .inr (0, 24, fillF (fun _ => 0) (-1) 24), .inl (7, [.ref 16]), .inr (0, 6, fillF (fun _ => 0) 0 6), .inl (6, [.ref 18, .ref 20, .ref 22, .ref 24, .ref 26, .ref 28, .ref 30, .int 0]), .inl (7, [.ref 19]), .inr (0, 30, fillF (fun _ => 0) 3 30), .inl (7, [.ref 21]), .inr (0, 30, fillF (fun _ => 0) 0 30), .inl (7, [.ref 23]), .inr (0, 30, fillF (fun _ => 0) 0 30), .inl (7, [.ref 25]), .inr (0, 30, fillF (fun _ => 0) (-1) 30), .inl (7, [.ref 27]), .inr (0, 30, fillF (fun _ => 0) (-1) 30), .inl (7, [.ref 29]), .inr (0, 30, fillF (fun _ => 0) (-1) 30), .inl (7, [.ref 31]), .inr (0, 30, fillF (fun _ => 0) 0 30), .inl (4, [.ref 33, .ref 35, .ref 37, .ref 39, .ref 41, .ref 43, .ref 45]), .inl (7, [.ref 34]), .inr (0, 120, fillF (fun _ => 0) (-1) 120), .inl (7, [.ref 36]), .inr (0, 120, fillF (fun _ => 0) (-1) 120), .inl (7, [.ref 38]), .inr (0, 120, fillF (fun _ => 0) 0 120), .inl (7, [.ref 40]), .inr (0, 120, fillF (fun _ => 0) (-1) 120), .inl (7, [.ref 42]), .inr (0, 120, fillF (fun _ => 0) 0 120), .inl (7, [.ref 44]), .inr (0, 120, fillF (fun _ => 0) 0 120), .inl (7, [.ref 46]), .inr (0, 24, fillF (fun _ => 0) 0 24), .inl (2, [.ref 48, .ref 50, .ref 52, .ref 54, .int 0]), .inl (7, [.ref 49]), .inr (0, 6, fillF (fun _ => 0) (-1) 6), .inl (7, [.ref 51]), .inr (0, 6, fillF (fun _ => 0) (-1) 6), .inl (7, [.ref 53]), .inr (0, 6, fillF (fun _ => 0) (-1) 6), .inl (7, [.ref 55]), .inr (0, 6, fillF (fun _ => 0) 0 6)] := by
  refine cg_of (by decide) (by simp [Value.category]) (by simp) (fun X ρ0 hl hX0 hG hnm hR hQ hr => ?_)
  have hX : CGX X cX2_init 1 RX2 := ⟨hX0, hG⟩
  have hi := hnm rfl
  refine g_al hX dX2_init_0 rfl rfl rfl ?_
  refine g_obj hX ob_X2_3 rfl (by rw [hR]; exact Nat.le_of_ble_eq_true rfl) (by rw [hR]; exact Nat.le_of_ble_eq_true rfl) dX2_init_1 rfl ?_
  refine g_al hX dX2_init_4 rfl rfl rfl ?_
  refine g_new (q9 := 48) rfl hX nw_X2_9 rfl rfl rfl (Nat.le_of_ble_eq_true rfl) ⟨by rw [hR]; exact Nat.le_of_ble_eq_true rfl, by rw [hR]; exact Nat.le_of_ble_eq_true rfl⟩ dX2_init_5 rfl ?_
  refine g_dup hX dX2_init_8 rfl rfl ?_
  refine g_bi 6 hX dX2_init_9 (by decide) rfl ?_
  refine g_ic (-1) hX dX2_init_11 (by decide) rfl ?_
  refine g_callI hX (bg 198 (by decide +kernel) rfl) (bg 59 (by decide +kernel) rfl) (bg 19 (by decide +kernel) rfl) (bg 60 (by decide +kernel) rfl) rfl ⟨by decide +kernel, by decide +kernel, by decide +kernel⟩ (cg_row _ 48 6 6 (-1) _ _ (by decide) (by decide) (by decide) rfl rfl rfl) rfl rfl ⟨by rw [hR]; exact Nat.le_of_ble_eq_true rfl, by rw [hR]; exact Nat.le_of_ble_eq_true rfl, by rw [hR]; exact Nat.le_of_ble_eq_true rfl, by rw [hR]; exact Nat.le_of_ble_eq_true rfl⟩ (Nat.le_of_ble_eq_true rfl) rfl rfl rfl (Nat.le_of_ble_eq_true rfl) dX2_init_12 rfl ?_
  refine g_put hX hi fg_X2_14 (fun _ => ⟨rfl, rfl⟩) (p := 47) rfl (Nat.le_of_ble_eq_true rfl) dX2_init_15 rfl ?_
  refine g_al hX dX2_init_18 rfl rfl rfl ?_
  refine g_new (q9 := 50) rfl hX nw_X2_9 rfl rfl rfl (Nat.le_of_ble_eq_true rfl) ⟨by rw [hR]; exact Nat.le_of_ble_eq_true rfl, by rw [hR]; exact Nat.le_of_ble_eq_true rfl⟩ dX2_init_19 rfl ?_
  refine g_dup hX dX2_init_22 rfl rfl ?_
  refine g_bi 6 hX dX2_init_23 (by decide) rfl ?_
  refine g_ic (-1) hX dX2_init_25 (by decide) rfl ?_
  refine g_callI hX (bg 198 (by decide +kernel) rfl) (bg 59 (by decide +kernel) rfl) (bg 19 (by decide +kernel) rfl) (bg 60 (by decide +kernel) rfl) rfl ⟨by decide +kernel, by decide +kernel, by decide +kernel⟩ (cg_row _ 50 6 6 (-1) _ _ (by decide) (by decide) (by decide) rfl rfl rfl) rfl rfl ⟨by rw [hR]; exact Nat.le_of_ble_eq_true rfl, by rw [hR]; exact Nat.le_of_ble_eq_true rfl, by rw [hR]; exact Nat.le_of_ble_eq_true rfl, by rw [hR]; exact Nat.le_of_ble_eq_true rfl⟩ (Nat.le_of_ble_eq_true rfl) rfl rfl rfl (Nat.le_of_ble_eq_true rfl) dX2_init_26 rfl ?_
  refine g_put hX hi fg_X2_20 (fun _ => ⟨rfl, rfl⟩) (p := 47) rfl (Nat.le_of_ble_eq_true rfl) dX2_init_29 rfl ?_
  refine g_al hX dX2_init_32 rfl rfl rfl ?_
  refine g_new (q9 := 52) rfl hX nw_X2_9 rfl rfl rfl (Nat.le_of_ble_eq_true rfl) ⟨by rw [hR]; exact Nat.le_of_ble_eq_true rfl, by rw [hR]; exact Nat.le_of_ble_eq_true rfl⟩ dX2_init_33 rfl ?_
  refine g_dup hX dX2_init_36 rfl rfl ?_
  refine g_bi 6 hX dX2_init_37 (by decide) rfl ?_
  refine g_ic (-1) hX dX2_init_39 (by decide) rfl ?_
  refine g_callI hX (bg 198 (by decide +kernel) rfl) (bg 59 (by decide +kernel) rfl) (bg 19 (by decide +kernel) rfl) (bg 60 (by decide +kernel) rfl) rfl ⟨by decide +kernel, by decide +kernel, by decide +kernel⟩ (cg_row _ 52 6 6 (-1) _ _ (by decide) (by decide) (by decide) rfl rfl rfl) rfl rfl ⟨by rw [hR]; exact Nat.le_of_ble_eq_true rfl, by rw [hR]; exact Nat.le_of_ble_eq_true rfl, by rw [hR]; exact Nat.le_of_ble_eq_true rfl, by rw [hR]; exact Nat.le_of_ble_eq_true rfl⟩ (Nat.le_of_ble_eq_true rfl) rfl rfl rfl (Nat.le_of_ble_eq_true rfl) dX2_init_40 rfl ?_
  refine g_put hX hi fg_X2_23 (fun _ => ⟨rfl, rfl⟩) (p := 47) rfl (Nat.le_of_ble_eq_true rfl) dX2_init_43 rfl ?_
  refine g_al hX dX2_init_46 rfl rfl rfl ?_
  refine g_new (q9 := 54) rfl hX nw_X2_9 rfl rfl rfl (Nat.le_of_ble_eq_true rfl) ⟨by rw [hR]; exact Nat.le_of_ble_eq_true rfl, by rw [hR]; exact Nat.le_of_ble_eq_true rfl⟩ dX2_init_47 rfl ?_
  refine g_dup hX dX2_init_50 rfl rfl ?_
  refine g_bi 6 hX dX2_init_51 (by decide) rfl ?_
  refine g_ic 0 hX dX2_init_53 (by decide) rfl ?_
  refine g_callI hX (bg 198 (by decide +kernel) rfl) (bg 59 (by decide +kernel) rfl) (bg 19 (by decide +kernel) rfl) (bg 60 (by decide +kernel) rfl) rfl ⟨by decide +kernel, by decide +kernel, by decide +kernel⟩ (cg_row _ 54 6 6 0 _ _ (by decide) (by decide) (by decide) rfl rfl rfl) rfl rfl ⟨by rw [hR]; exact Nat.le_of_ble_eq_true rfl, by rw [hR]; exact Nat.le_of_ble_eq_true rfl, by rw [hR]; exact Nat.le_of_ble_eq_true rfl, by rw [hR]; exact Nat.le_of_ble_eq_true rfl⟩ (Nat.le_of_ble_eq_true rfl) rfl rfl rfl (Nat.le_of_ble_eq_true rfl) dX2_init_54 rfl ?_
  refine g_put hX hi fg_X2_26 (fun _ => ⟨rfl, rfl⟩) (p := 47) rfl (Nat.le_of_ble_eq_true rfl) dX2_init_57 rfl ?_
  exact g_ret hX hQ hr rfl dX2_init_60

set_option maxRecDepth 100000 in
set_option maxHeartbeats 4000000 in
theorem cg_X10_init_0 (l : Launch) : CG l yX10_init cX10_init 2 3 65 64 1271 [.ref 1]
  [.inl (11, [.null, .null, .null, .null, .null]), .inl (10, [.null, .null, .null, .null, .null, .null, .null, .null, .null, .int 0, .int 0])]
  [.inl (11, [.null, .null, .null, .null, .null]), .inl (10, [.ref 2, .ref 17, .ref 32, .ref 47, .ref 56, .ref 58, .ref 60, .ref 62, .ref 64, .int 0, .int 0]), .inl (9, [.ref 3, .ref 5, .ref 7, .ref 9, .ref 11, .ref 13, .ref 15, .int 0, .int 0, .int 0, .int 0]), .inl (7, [.ref 4]), .inr (0, 24, fillF (fun _ => 0) (-1) 24), .inl (7, [.ref 6]), .inr (0, 24, fillF (fun _ => 0) (-1) 24), .inl (7, [.ref 8]), .inr (0, 24, fillF (fun _ => 0) (-1) 24), .inl (7, [.ref 10]), .inr (0, 24, fillF (fun _ => 0) 7 24), .inl (7, [.ref 12]), .inr (0, 72, fillF (fun _ => 0) 0 72), .inl (7, [.ref 14]), .inr (0, 24, fillF (fun _ => 0) (-1) 24), .inl (7, [.ref 16]), .inr (0, 6, fillF (fun _ => 0) 0 6), .inl (6, [.ref 18, .ref 20, .ref 22, .ref 24, .ref 26, .ref 28, .ref 30, .int 0]), .inl (7, [.ref 19]), .inr (0, 30, fillF (fun _ => 0) 3 30), .inl (7, [.ref 21]), .inr (0, 30, fillF (fun _ => 0) 0 30), .inl (7, [.ref 23]), .inr (0, 30, fillF (fun _ => 0) 0 30), .inl (7, [.ref 25]), .inr (0, 30, fillF (fun _ => 0) (-1) 30), .inl (7, [.ref 27]), .inr (0, 30, fillF (fun _ => 0) (-1) 30), .inl (7, [.ref 29]), .inr (0, 30, fillF (fun _ => 0) (-1) 30), .inl (7, [.ref 31]), .inr (0, 30, fillF (fun _ => 0) 0 30), .inl (4, [.ref 33, .ref 35, .ref 37, .ref 39, .ref 41, .ref 43, .ref 45]), .inl (7, [.ref 34]), .inr (0, 120, fillF (fun _ => 0) (-1) 120), .inl (7, [.ref 36]), .inr (0, 120, fillF (fun _ => 0) (-1) 120), .inl (7, [.ref 38]), .inr (0, 120, fillF (fun _ => 0) 0 120), .inl (7, [.ref 40]), .inr (0, 120, fillF (fun _ => 0) (-1) 120), .inl (7, [.ref 42]), .inr (0, 120, fillF (fun _ => 0) 0 120), .inl (7, [.ref 44]), .inr (0, 120, fillF (fun _ => 0) 0 120), .inl (7, [.ref 46]), .inr (0, 24, fillF (fun _ => 0) 0 24), .inl (2, [.ref 48, .ref 50, .ref 52, .ref 54, .int 0]), .inl (7, [.ref 49]), .inr (0, 6, fillF (fun _ => 0) (-1) 6), .inl (7, [.ref 51]), .inr (0, 6, fillF (fun _ => 0) (-1) 6), .inl (7, [.ref 53]), .inr (0, 6, fillF (fun _ => 0) (-1) 6), .inl (7, [.ref 55]), .inr (0, 6, fillF (fun _ => 0) 0 6), .inl (7, [.ref 57]), .inr (0, 6, fillF (fun _ => 0) (-1) 6), .inl (7, [.ref 59]), .inr (0, 8, fillF (fun _ => 0) (-1) 8), .inl (7, [.ref 61]), .inr (0, 8, fillF (fun _ => 0) (-1) 8), .inl (7, [.ref 63]), .inr (0, 6, fillF (fun _ => 0) (-1) 6), .inl (7, [.ref 65]), .inr (0, 6, upd (upd (upd (upd (upd (upd (fillF (fun _ => 0) (-1) 6) 0 0) 1 1) 2 2) 3 3) 4 4) 5 5)] := by
  refine cg_of (by decide) (by simp [Value.category]) (by simp) (fun X ρ0 hl hX0 hG hnm hR hQ hr => ?_)
  have hX : CGX X cX10_init 2 RX10 := ⟨hX0, hG⟩
  have hi := hnm rfl
  refine g_al hX dX10_init_0 rfl rfl rfl ?_
  refine g_obj hX ob_X10_3 rfl (by rw [hR]; exact Nat.le_of_ble_eq_true rfl) (by rw [hR]; exact Nat.le_of_ble_eq_true rfl) dX10_init_1 rfl ?_
  refine g_al hX dX10_init_4 rfl rfl rfl ?_
  refine g_new (q9 := 2) rfl hX nw_X10_9 rfl rfl rfl (Nat.le_of_ble_eq_true rfl) ⟨by rw [hR]; exact Nat.le_of_ble_eq_true rfl, by rw [hR]; exact Nat.le_of_ble_eq_true rfl⟩ dX10_init_5 rfl ?_
  refine g_dup hX dX10_init_8 rfl rfl ?_
  refine g_callN hX (by decide +kernel) (bg 53 (by decide +kernel) rfl) (bg 18 (by decide +kernel) rfl) (bg 54 (by decide +kernel) rfl) rfl ⟨by decide +kernel, by decide +kernel, by decide +kernel⟩ (cg_X9_init_0 _) rfl rfl ⟨by rw [hR]; exact Nat.le_of_ble_eq_true rfl, by rw [hR]; exact Nat.le_of_ble_eq_true rfl, by rw [hR]; exact Nat.le_of_ble_eq_true rfl, by rw [hR]; exact Nat.le_of_ble_eq_true rfl⟩ (Nat.le_of_ble_eq_true rfl) rfl rfl rfl (Nat.le_of_ble_eq_true rfl) dX10_init_9 rfl ?_
  refine g_put hX hi fg_X10_12 (fun _ => ⟨rfl, rfl⟩) (p := 1) rfl (Nat.le_of_ble_eq_true rfl) dX10_init_12 rfl ?_
  refine g_al hX dX10_init_15 rfl rfl rfl ?_
  refine g_new (q9 := 17) rfl hX nw_X10_18 rfl rfl rfl (Nat.le_of_ble_eq_true rfl) ⟨by rw [hR]; exact Nat.le_of_ble_eq_true rfl, by rw [hR]; exact Nat.le_of_ble_eq_true rfl⟩ dX10_init_16 rfl ?_
  refine g_dup hX dX10_init_19 rfl rfl ?_
  refine g_callN hX (by decide +kernel) (bg 122 (by decide +kernel) rfl) (bg 21 (by decide +kernel) rfl) (bg 123 (by decide +kernel) rfl) rfl ⟨by decide +kernel, by decide +kernel, by decide +kernel⟩ (cg_X6_init_0 _) rfl rfl ⟨by rw [hR]; exact Nat.le_of_ble_eq_true rfl, by rw [hR]; exact Nat.le_of_ble_eq_true rfl, by rw [hR]; exact Nat.le_of_ble_eq_true rfl, by rw [hR]; exact Nat.le_of_ble_eq_true rfl⟩ (Nat.le_of_ble_eq_true rfl) rfl rfl rfl (Nat.le_of_ble_eq_true rfl) dX10_init_20 rfl ?_
  refine g_put hX hi fg_X10_21 (fun _ => ⟨rfl, rfl⟩) (p := 1) rfl (Nat.le_of_ble_eq_true rfl) dX10_init_23 rfl ?_
  refine g_al hX dX10_init_26 rfl rfl rfl ?_
  refine g_new (q9 := 32) rfl hX nw_X10_25 rfl rfl rfl (Nat.le_of_ble_eq_true rfl) ⟨by rw [hR]; exact Nat.le_of_ble_eq_true rfl, by rw [hR]; exact Nat.le_of_ble_eq_true rfl⟩ dX10_init_27 rfl ?_
  refine g_dup hX dX10_init_30 rfl rfl ?_
  refine g_callN hX (by decide +kernel) (bg 157 (by decide +kernel) rfl) (bg 22 (by decide +kernel) rfl) (bg 158 (by decide +kernel) rfl) rfl ⟨by decide +kernel, by decide +kernel, by decide +kernel⟩ (cg_X4_init_0 _) rfl rfl ⟨by rw [hR]; exact Nat.le_of_ble_eq_true rfl, by rw [hR]; exact Nat.le_of_ble_eq_true rfl, by rw [hR]; exact Nat.le_of_ble_eq_true rfl, by rw [hR]; exact Nat.le_of_ble_eq_true rfl⟩ (Nat.le_of_ble_eq_true rfl) rfl rfl rfl (Nat.le_of_ble_eq_true rfl) dX10_init_31 rfl ?_
  refine g_put hX hi fg_X10_28 (fun _ => ⟨rfl, rfl⟩) (p := 1) rfl (Nat.le_of_ble_eq_true rfl) dX10_init_34 rfl ?_
  refine g_al hX dX10_init_37 rfl rfl rfl ?_
  refine g_new (q9 := 47) rfl hX nw_X10_32 rfl rfl rfl (Nat.le_of_ble_eq_true rfl) ⟨by rw [hR]; exact Nat.le_of_ble_eq_true rfl, by rw [hR]; exact Nat.le_of_ble_eq_true rfl⟩ dX10_init_38 rfl ?_
  refine g_dup hX dX10_init_41 rfl rfl ?_
  refine g_callN hX (by decide +kernel) (bg 194 (by decide +kernel) rfl) (bg 23 (by decide +kernel) rfl) (bg 195 (by decide +kernel) rfl) rfl ⟨by decide +kernel, by decide +kernel, by decide +kernel⟩ (cg_X2_init_0 _) rfl rfl ⟨by rw [hR]; exact Nat.le_of_ble_eq_true rfl, by rw [hR]; exact Nat.le_of_ble_eq_true rfl, by rw [hR]; exact Nat.le_of_ble_eq_true rfl, by rw [hR]; exact Nat.le_of_ble_eq_true rfl⟩ (Nat.le_of_ble_eq_true rfl) rfl rfl rfl (Nat.le_of_ble_eq_true rfl) dX10_init_42 rfl ?_
  refine g_put hX hi fg_X10_35 (fun _ => ⟨rfl, rfl⟩) (p := 1) rfl (Nat.le_of_ble_eq_true rfl) dX10_init_45 rfl ?_
  refine g_al hX dX10_init_48 rfl rfl rfl ?_
  refine g_new (q9 := 56) rfl hX nw_X10_39 rfl rfl rfl (Nat.le_of_ble_eq_true rfl) ⟨by rw [hR]; exact Nat.le_of_ble_eq_true rfl, by rw [hR]; exact Nat.le_of_ble_eq_true rfl⟩ dX10_init_49 rfl ?_
  refine g_dup hX dX10_init_52 rfl rfl ?_
  refine g_bi 6 hX dX10_init_53 (by decide) rfl ?_
  refine g_ic (-1) hX dX10_init_55 (by decide) rfl ?_
  refine g_callI hX (bg 222 (by decide +kernel) rfl) (bg 59 (by decide +kernel) rfl) (bg 19 (by decide +kernel) rfl) (bg 60 (by decide +kernel) rfl) rfl ⟨by decide +kernel, by decide +kernel, by decide +kernel⟩ (cg_row _ 56 6 6 (-1) _ _ (by decide) (by decide) (by decide) rfl rfl rfl) rfl rfl ⟨by rw [hR]; exact Nat.le_of_ble_eq_true rfl, by rw [hR]; exact Nat.le_of_ble_eq_true rfl, by rw [hR]; exact Nat.le_of_ble_eq_true rfl, by rw [hR]; exact Nat.le_of_ble_eq_true rfl⟩ (Nat.le_of_ble_eq_true rfl) rfl rfl rfl (Nat.le_of_ble_eq_true rfl) dX10_init_56 rfl ?_
  refine g_put hX hi fg_X10_44 (fun _ => ⟨rfl, rfl⟩) (p := 1) rfl (Nat.le_of_ble_eq_true rfl) dX10_init_59 rfl ?_
  refine g_al hX dX10_init_62 rfl rfl rfl ?_
  refine g_new (q9 := 58) rfl hX nw_X10_39 rfl rfl rfl (Nat.le_of_ble_eq_true rfl) ⟨by rw [hR]; exact Nat.le_of_ble_eq_true rfl, by rw [hR]; exact Nat.le_of_ble_eq_true rfl⟩ dX10_init_63 rfl ?_
  refine g_dup hX dX10_init_66 rfl rfl ?_
  refine g_bi 8 hX dX10_init_67 (by decide) rfl ?_
  refine g_ic (-1) hX dX10_init_69 (by decide) rfl ?_
  refine g_callI hX (bg 222 (by decide +kernel) rfl) (bg 59 (by decide +kernel) rfl) (bg 19 (by decide +kernel) rfl) (bg 60 (by decide +kernel) rfl) rfl ⟨by decide +kernel, by decide +kernel, by decide +kernel⟩ (cg_row _ 58 8 8 (-1) _ _ (by decide) (by decide) (by decide) rfl rfl rfl) rfl rfl ⟨by rw [hR]; exact Nat.le_of_ble_eq_true rfl, by rw [hR]; exact Nat.le_of_ble_eq_true rfl, by rw [hR]; exact Nat.le_of_ble_eq_true rfl, by rw [hR]; exact Nat.le_of_ble_eq_true rfl⟩ (Nat.le_of_ble_eq_true rfl) rfl rfl rfl (Nat.le_of_ble_eq_true rfl) dX10_init_70 rfl ?_
  refine g_put hX hi fg_X10_48 (fun _ => ⟨rfl, rfl⟩) (p := 1) rfl (Nat.le_of_ble_eq_true rfl) dX10_init_73 rfl ?_
  refine g_al hX dX10_init_76 rfl rfl rfl ?_
  refine g_new (q9 := 60) rfl hX nw_X10_39 rfl rfl rfl (Nat.le_of_ble_eq_true rfl) ⟨by rw [hR]; exact Nat.le_of_ble_eq_true rfl, by rw [hR]; exact Nat.le_of_ble_eq_true rfl⟩ dX10_init_77 rfl ?_
  refine g_dup hX dX10_init_80 rfl rfl ?_
  refine g_bi 8 hX dX10_init_81 (by decide) rfl ?_
  refine g_ic (-1) hX dX10_init_83 (by decide) rfl ?_
  refine g_callI hX (bg 222 (by decide +kernel) rfl) (bg 59 (by decide +kernel) rfl) (bg 19 (by decide +kernel) rfl) (bg 60 (by decide +kernel) rfl) rfl ⟨by decide +kernel, by decide +kernel, by decide +kernel⟩ (cg_row _ 60 8 8 (-1) _ _ (by decide) (by decide) (by decide) rfl rfl rfl) rfl rfl ⟨by rw [hR]; exact Nat.le_of_ble_eq_true rfl, by rw [hR]; exact Nat.le_of_ble_eq_true rfl, by rw [hR]; exact Nat.le_of_ble_eq_true rfl, by rw [hR]; exact Nat.le_of_ble_eq_true rfl⟩ (Nat.le_of_ble_eq_true rfl) rfl rfl rfl (Nat.le_of_ble_eq_true rfl) dX10_init_84 rfl ?_
  refine g_put hX hi fg_X10_51 (fun _ => ⟨rfl, rfl⟩) (p := 1) rfl (Nat.le_of_ble_eq_true rfl) dX10_init_87 rfl ?_
  refine g_al hX dX10_init_90 rfl rfl rfl ?_
  refine g_new (q9 := 62) rfl hX nw_X10_39 rfl rfl rfl (Nat.le_of_ble_eq_true rfl) ⟨by rw [hR]; exact Nat.le_of_ble_eq_true rfl, by rw [hR]; exact Nat.le_of_ble_eq_true rfl⟩ dX10_init_91 rfl ?_
  refine g_dup hX dX10_init_94 rfl rfl ?_
  refine g_bi 6 hX dX10_init_95 (by decide) rfl ?_
  refine g_ic (-1) hX dX10_init_97 (by decide) rfl ?_
  refine g_callI hX (bg 222 (by decide +kernel) rfl) (bg 59 (by decide +kernel) rfl) (bg 19 (by decide +kernel) rfl) (bg 60 (by decide +kernel) rfl) rfl ⟨by decide +kernel, by decide +kernel, by decide +kernel⟩ (cg_row _ 62 6 6 (-1) _ _ (by decide) (by decide) (by decide) rfl rfl rfl) rfl rfl ⟨by rw [hR]; exact Nat.le_of_ble_eq_true rfl, by rw [hR]; exact Nat.le_of_ble_eq_true rfl, by rw [hR]; exact Nat.le_of_ble_eq_true rfl, by rw [hR]; exact Nat.le_of_ble_eq_true rfl⟩ (Nat.le_of_ble_eq_true rfl) rfl rfl rfl (Nat.le_of_ble_eq_true rfl) dX10_init_98 rfl ?_
  refine g_put hX hi fg_X10_54 (fun _ => ⟨rfl, rfl⟩) (p := 1) rfl (Nat.le_of_ble_eq_true rfl) dX10_init_101 rfl ?_
  refine g_al hX dX10_init_104 rfl rfl rfl ?_
  refine g_new (q9 := 64) rfl hX nw_X10_39 rfl rfl rfl (Nat.le_of_ble_eq_true rfl) ⟨by rw [hR]; exact Nat.le_of_ble_eq_true rfl, by rw [hR]; exact Nat.le_of_ble_eq_true rfl⟩ dX10_init_105 rfl ?_
  refine g_dup hX dX10_init_108 rfl rfl ?_
  refine g_bi 6 hX dX10_init_109 (by decide) rfl ?_
  refine g_ic (-1) hX dX10_init_111 (by decide) rfl ?_
  refine g_callI hX (bg 222 (by decide +kernel) rfl) (bg 59 (by decide +kernel) rfl) (bg 19 (by decide +kernel) rfl) (bg 60 (by decide +kernel) rfl) rfl ⟨by decide +kernel, by decide +kernel, by decide +kernel⟩ (cg_row _ 64 6 6 (-1) _ _ (by decide) (by decide) (by decide) rfl rfl rfl) rfl rfl ⟨by rw [hR]; exact Nat.le_of_ble_eq_true rfl, by rw [hR]; exact Nat.le_of_ble_eq_true rfl, by rw [hR]; exact Nat.le_of_ble_eq_true rfl, by rw [hR]; exact Nat.le_of_ble_eq_true rfl⟩ (Nat.le_of_ble_eq_true rfl) rfl rfl rfl (Nat.le_of_ble_eq_true rfl) dX10_init_112 rfl ?_
  refine g_put hX hi fg_X10_57 (fun _ => ⟨rfl, rfl⟩) (p := 1) rfl (Nat.le_of_ble_eq_true rfl) dX10_init_115 rfl ?_
  refine g_ic 0 hX dX10_init_118 (by decide) rfl ?_
  refine g_is hX dX10_init_119 rfl (by simp) rfl ?_
  refine g_il hX dX10_init_120 rfl rfl rfl ?_
  refine g_bi 6 hX dX10_init_121 (by decide) rfl ?_
  refine g_gef hX dX10_init_123 (tgt := 141) rfl (by decide) rfl ?_
  refine g_al hX dX10_init_126 rfl rfl rfl ?_
  refine g_getR hX fl_X10_57 rfl rfl dX10_init_127 rfl ?_
  refine g_il hX dX10_init_130 rfl rfl rfl ?_
  refine g_il hX dX10_init_131 rfl rfl rfl ?_
  refine g_callV hX ml_X10_60 (cg_set _ 64 65 6 0 0 _ _ rfl rfl (by decide) (by decide) (vpi (by decide))) rfl rfl rfl rfl ⟨by rw [hR]; exact Nat.le_of_ble_eq_true rfl, by rw [hR]; exact Nat.le_of_ble_eq_true rfl, by rw [hR]; exact Nat.le_of_ble_eq_true rfl, by rw [hR]; exact Nat.le_of_ble_eq_true rfl⟩ (Nat.le_of_ble_eq_true rfl) rfl rfl rfl (Nat.le_of_ble_eq_true rfl) dX10_init_132 rfl ?_
  refine g_inc (v := 1) hX dX10_init_135 rfl (by simp) (by decide) rfl ?_
  refine g_goto hX dX10_init_138 (pc1 := 120) rfl ?_
  refine g_il hX dX10_init_120 rfl rfl rfl ?_
  refine g_bi 6 hX dX10_init_121 (by decide) rfl ?_
  refine g_gef hX dX10_init_123 (tgt := 141) rfl (by decide) rfl ?_
  refine g_al hX dX10_init_126 rfl rfl rfl ?_
  refine g_getR hX fl_X10_57 rfl rfl dX10_init_127 rfl ?_
  refine g_il hX dX10_init_130 rfl rfl rfl ?_
  refine g_il hX dX10_init_131 rfl rfl rfl ?_
  refine g_callV hX ml_X10_60 (cg_set _ 64 65 6 1 1 _ _ rfl rfl (by decide) (by decide) (vpi (by decide))) rfl rfl rfl rfl ⟨by rw [hR]; exact Nat.le_of_ble_eq_true rfl, by rw [hR]; exact Nat.le_of_ble_eq_true rfl, by rw [hR]; exact Nat.le_of_ble_eq_true rfl, by rw [hR]; exact Nat.le_of_ble_eq_true rfl⟩ (Nat.le_of_ble_eq_true rfl) rfl rfl rfl (Nat.le_of_ble_eq_true rfl) dX10_init_132 rfl ?_
  refine g_inc (v := 2) hX dX10_init_135 rfl (by simp) (by decide) rfl ?_
  refine g_goto hX dX10_init_138 (pc1 := 120) rfl ?_
  refine g_il hX dX10_init_120 rfl rfl rfl ?_
  refine g_bi 6 hX dX10_init_121 (by decide) rfl ?_
  refine g_gef hX dX10_init_123 (tgt := 141) rfl (by decide) rfl ?_
  refine g_al hX dX10_init_126 rfl rfl rfl ?_
  refine g_getR hX fl_X10_57 rfl rfl dX10_init_127 rfl ?_
  refine g_il hX dX10_init_130 rfl rfl rfl ?_
  refine g_il hX dX10_init_131 rfl rfl rfl ?_
  refine g_callV hX ml_X10_60 (cg_set _ 64 65 6 2 2 _ _ rfl rfl (by decide) (by decide) (vpi (by decide))) rfl rfl rfl rfl ⟨by rw [hR]; exact Nat.le_of_ble_eq_true rfl, by rw [hR]; exact Nat.le_of_ble_eq_true rfl, by rw [hR]; exact Nat.le_of_ble_eq_true rfl, by rw [hR]; exact Nat.le_of_ble_eq_true rfl⟩ (Nat.le_of_ble_eq_true rfl) rfl rfl rfl (Nat.le_of_ble_eq_true rfl) dX10_init_132 rfl ?_
  refine g_inc (v := 3) hX dX10_init_135 rfl (by simp) (by decide) rfl ?_
  refine g_goto hX dX10_init_138 (pc1 := 120) rfl ?_
  refine g_il hX dX10_init_120 rfl rfl rfl ?_
  refine g_bi 6 hX dX10_init_121 (by decide) rfl ?_
  refine g_gef hX dX10_init_123 (tgt := 141) rfl (by decide) rfl ?_
  refine g_al hX dX10_init_126 rfl rfl rfl ?_
  refine g_getR hX fl_X10_57 rfl rfl dX10_init_127 rfl ?_
  refine g_il hX dX10_init_130 rfl rfl rfl ?_
  refine g_il hX dX10_init_131 rfl rfl rfl ?_
  refine g_callV hX ml_X10_60 (cg_set _ 64 65 6 3 3 _ _ rfl rfl (by decide) (by decide) (vpi (by decide))) rfl rfl rfl rfl ⟨by rw [hR]; exact Nat.le_of_ble_eq_true rfl, by rw [hR]; exact Nat.le_of_ble_eq_true rfl, by rw [hR]; exact Nat.le_of_ble_eq_true rfl, by rw [hR]; exact Nat.le_of_ble_eq_true rfl⟩ (Nat.le_of_ble_eq_true rfl) rfl rfl rfl (Nat.le_of_ble_eq_true rfl) dX10_init_132 rfl ?_
  refine g_inc (v := 4) hX dX10_init_135 rfl (by simp) (by decide) rfl ?_
  refine g_goto hX dX10_init_138 (pc1 := 120) rfl ?_
  refine g_il hX dX10_init_120 rfl rfl rfl ?_
  refine g_bi 6 hX dX10_init_121 (by decide) rfl ?_
  refine g_gef hX dX10_init_123 (tgt := 141) rfl (by decide) rfl ?_
  refine g_al hX dX10_init_126 rfl rfl rfl ?_
  refine g_getR hX fl_X10_57 rfl rfl dX10_init_127 rfl ?_
  refine g_il hX dX10_init_130 rfl rfl rfl ?_
  refine g_il hX dX10_init_131 rfl rfl rfl ?_
  refine g_callV hX ml_X10_60 (cg_set _ 64 65 6 4 4 _ _ rfl rfl (by decide) (by decide) (vpi (by decide))) rfl rfl rfl rfl ⟨by rw [hR]; exact Nat.le_of_ble_eq_true rfl, by rw [hR]; exact Nat.le_of_ble_eq_true rfl, by rw [hR]; exact Nat.le_of_ble_eq_true rfl, by rw [hR]; exact Nat.le_of_ble_eq_true rfl⟩ (Nat.le_of_ble_eq_true rfl) rfl rfl rfl (Nat.le_of_ble_eq_true rfl) dX10_init_132 rfl ?_
  refine g_inc (v := 5) hX dX10_init_135 rfl (by simp) (by decide) rfl ?_
  refine g_goto hX dX10_init_138 (pc1 := 120) rfl ?_
  refine g_il hX dX10_init_120 rfl rfl rfl ?_
  refine g_bi 6 hX dX10_init_121 (by decide) rfl ?_
  refine g_gef hX dX10_init_123 (tgt := 141) rfl (by decide) rfl ?_
  refine g_al hX dX10_init_126 rfl rfl rfl ?_
  refine g_getR hX fl_X10_57 rfl rfl dX10_init_127 rfl ?_
  refine g_il hX dX10_init_130 rfl rfl rfl ?_
  refine g_il hX dX10_init_131 rfl rfl rfl ?_
  refine g_callV hX ml_X10_60 (cg_set _ 64 65 6 5 5 _ _ rfl rfl (by decide) (by decide) (vpi (by decide))) rfl rfl rfl rfl ⟨by rw [hR]; exact Nat.le_of_ble_eq_true rfl, by rw [hR]; exact Nat.le_of_ble_eq_true rfl, by rw [hR]; exact Nat.le_of_ble_eq_true rfl, by rw [hR]; exact Nat.le_of_ble_eq_true rfl⟩ (Nat.le_of_ble_eq_true rfl) rfl rfl rfl (Nat.le_of_ble_eq_true rfl) dX10_init_132 rfl ?_
  refine g_inc (v := 6) hX dX10_init_135 rfl (by simp) (by decide) rfl ?_
  refine g_goto hX dX10_init_138 (pc1 := 120) rfl ?_
  refine g_il hX dX10_init_120 rfl rfl rfl ?_
  refine g_bi 6 hX dX10_init_121 (by decide) rfl ?_
  refine g_get hX dX10_init_123 (pc1 := 141) rfl (by decide) ?_
  exact g_ret hX hQ hr rfl dX10_init_141

set_option maxRecDepth 100000 in
set_option maxHeartbeats 4000000 in
theorem cg_X5_init_0 (l : Launch) : CG l yX5_init cX5_init 2 1 12 0 0 [.ref 66, .ref 1]
  [.inl (11, [.null, .null, .null, .null, .null]), .inl (10, [.ref 2, .ref 17, .ref 32, .ref 47, .ref 56, .ref 58, .ref 60, .ref 62, .ref 64, .int 0, .int 0]), .inl (9, [.ref 3, .ref 5, .ref 7, .ref 9, .ref 11, .ref 13, .ref 15, .int 0, .int 0, .int 0, .int 0]), .inl (7, [.ref 4]), .inr (0, 24, fillF (fun _ => 0) (-1) 24), .inl (7, [.ref 6]), .inr (0, 24, fillF (fun _ => 0) (-1) 24), .inl (7, [.ref 8]), .inr (0, 24, fillF (fun _ => 0) (-1) 24), .inl (7, [.ref 10]), .inr (0, 24, fillF (fun _ => 0) 7 24), .inl (7, [.ref 12]), .inr (0, 72, fillF (fun _ => 0) 0 72), .inl (7, [.ref 14]), .inr (0, 24, fillF (fun _ => 0) (-1) 24), .inl (7, [.ref 16]), .inr (0, 6, fillF (fun _ => 0) 0 6), .inl (6, [.ref 18, .ref 20, .ref 22, .ref 24, .ref 26, .ref 28, .ref 30, .int 0]), .inl (7, [.ref 19]), .inr (0, 30, fillF (fun _ => 0) 3 30), .inl (7, [.ref 21]), .inr (0, 30, fillF (fun _ => 0) 0 30), .inl (7, [.ref 23]), .inr (0, 30, fillF (fun _ => 0) 0 30), .inl (7, [.ref 25]), .inr (0, 30, fillF (fun _ => 0) (-1) 30), .inl (7, [.ref 27]), .inr (0, 30, fillF (fun _ => 0) (-1) 30), .inl (7, [.ref 29]), .inr (0, 30, fillF (fun _ => 0) (-1) 30), .inl (7, [.ref 31]), .inr (0, 30, fillF (fun _ => 0) 0 30), .inl (4, [.ref 33, .ref 35, .ref 37, .ref 39, .ref 41, .ref 43, .ref 45]), .inl (7, [.ref 34]), .inr (0, 120, fillF (fun _ => 0) (-1) 120), .inl (7, [.ref 36]), .inr (0, 120, fillF (fun _ => 0) (-1) 120), .inl (7, [.ref 38]), .inr (0, 120, fillF (fun _ => 0) 0 120), .inl (7, [.ref 40]), .inr (0, 120, fillF (fun _ => 0) (-1) 120), .inl (7, [.ref 42]), .inr (0, 120, fillF (fun _ => 0) 0 120), .inl (7, [.ref 44]), .inr (0, 120, fillF (fun _ => 0) 0 120), .inl (7, [.ref 46]), .inr (0, 24, fillF (fun _ => 0) 0 24), .inl (2, [.ref 48, .ref 50, .ref 52, .ref 54, .int 0]), .inl (7, [.ref 49]), .inr (0, 6, fillF (fun _ => 0) (-1) 6), .inl (7, [.ref 51]), .inr (0, 6, fillF (fun _ => 0) (-1) 6), .inl (7, [.ref 53]), .inr (0, 6, fillF (fun _ => 0) (-1) 6), .inl (7, [.ref 55]), .inr (0, 6, fillF (fun _ => 0) 0 6), .inl (7, [.ref 57]), .inr (0, 6, fillF (fun _ => 0) (-1) 6), .inl (7, [.ref 59]), .inr (0, 8, fillF (fun _ => 0) (-1) 8), .inl (7, [.ref 61]), .inr (0, 8, fillF (fun _ => 0) (-1) 8), .inl (7, [.ref 63]), .inr (0, 6, fillF (fun _ => 0) (-1) 6), .inl (7, [.ref 65]), .inr (0, 6, upd (upd (upd (upd (upd (upd (fillF (fun _ => 0) (-1) 6) 0 0) 1 1) 2 2) 3 3) 4 4) 5 5), .inl (5, [.null, .int 0, .int 0])]
  [.inl (11, [.null, .null, .null, .null, .null]), .inl (10, [.ref 2, .ref 17, .ref 32, .ref 47, .ref 56, .ref 58, .ref 60, .ref 62, .ref 64, .int 0, .int 0]), .inl (9, [.ref 3, .ref 5, .ref 7, .ref 9, .ref 11, .ref 13, .ref 15, .int 0, .int 0, .int 0, .int 0]), .inl (7, [.ref 4]), .inr (0, 24, fillF (fun _ => 0) (-1) 24), .inl (7, [.ref 6]), .inr (0, 24, fillF (fun _ => 0) (-1) 24), .inl (7, [.ref 8]), .inr (0, 24, fillF (fun _ => 0) (-1) 24), .inl (7, [.ref 10]), .inr (0, 24, fillF (fun _ => 0) 7 24), .inl (7, [.ref 12]), .inr (0, 72, fillF (fun _ => 0) 0 72), .inl (7, [.ref 14]), .inr (0, 24, fillF (fun _ => 0) (-1) 24), .inl (7, [.ref 16]), .inr (0, 6, fillF (fun _ => 0) 0 6), .inl (6, [.ref 18, .ref 20, .ref 22, .ref 24, .ref 26, .ref 28, .ref 30, .int 0]), .inl (7, [.ref 19]), .inr (0, 30, fillF (fun _ => 0) 3 30), .inl (7, [.ref 21]), .inr (0, 30, fillF (fun _ => 0) 0 30), .inl (7, [.ref 23]), .inr (0, 30, fillF (fun _ => 0) 0 30), .inl (7, [.ref 25]), .inr (0, 30, fillF (fun _ => 0) (-1) 30), .inl (7, [.ref 27]), .inr (0, 30, fillF (fun _ => 0) (-1) 30), .inl (7, [.ref 29]), .inr (0, 30, fillF (fun _ => 0) (-1) 30), .inl (7, [.ref 31]), .inr (0, 30, fillF (fun _ => 0) 0 30), .inl (4, [.ref 33, .ref 35, .ref 37, .ref 39, .ref 41, .ref 43, .ref 45]), .inl (7, [.ref 34]), .inr (0, 120, fillF (fun _ => 0) (-1) 120), .inl (7, [.ref 36]), .inr (0, 120, fillF (fun _ => 0) (-1) 120), .inl (7, [.ref 38]), .inr (0, 120, fillF (fun _ => 0) 0 120), .inl (7, [.ref 40]), .inr (0, 120, fillF (fun _ => 0) (-1) 120), .inl (7, [.ref 42]), .inr (0, 120, fillF (fun _ => 0) 0 120), .inl (7, [.ref 44]), .inr (0, 120, fillF (fun _ => 0) 0 120), .inl (7, [.ref 46]), .inr (0, 24, fillF (fun _ => 0) 0 24), .inl (2, [.ref 48, .ref 50, .ref 52, .ref 54, .int 0]), .inl (7, [.ref 49]), .inr (0, 6, fillF (fun _ => 0) (-1) 6), .inl (7, [.ref 51]), .inr (0, 6, fillF (fun _ => 0) (-1) 6), .inl (7, [.ref 53]), .inr (0, 6, fillF (fun _ => 0) (-1) 6), .inl (7, [.ref 55]), .inr (0, 6, fillF (fun _ => 0) 0 6), .inl (7, [.ref 57]), .inr (0, 6, fillF (fun _ => 0) (-1) 6), .inl (7, [.ref 59]), .inr (0, 8, fillF (fun _ => 0) (-1) 8), .inl (7, [.ref 61]), .inr (0, 8, fillF (fun _ => 0) (-1) 8), .inl (7, [.ref 63]), .inr (0, 6, fillF (fun _ => 0) (-1) 6), .inl (7, [.ref 65]), .inr (0, 6, upd (upd (upd (upd (upd (upd (fillF (fun _ => 0) (-1) 6) 0 0) 1 1) 2 2) 3 3) 4 4) 5 5), .inl (5, [.ref 1, .int 0, .int 0])] := by
  refine cg_of (by decide) (by simp [Value.category]) (by simp) (fun X ρ0 hl hX0 hG hnm hR hQ hr => ?_)
  have hX : CGX X cX5_init 2 RX5 := ⟨hX0, hG⟩
  have hi := hnm rfl
  refine g_al hX dX5_init_0 rfl rfl rfl ?_
  refine g_obj hX ob_X5_3 rfl (by rw [hR]; exact Nat.le_of_ble_eq_true rfl) (by rw [hR]; exact Nat.le_of_ble_eq_true rfl) dX5_init_1 rfl ?_
  refine g_al hX dX5_init_4 rfl rfl rfl ?_
  refine g_al hX dX5_init_5 rfl rfl rfl ?_
  refine g_put hX hi fg_X5_9 (fun _ => ⟨rfl, rfl⟩) (p := 66) rfl (Nat.le_of_ble_eq_true rfl) dX5_init_6 rfl ?_
  exact g_ret hX hQ hr rfl dX5_init_9

set_option maxRecDepth 100000 in
set_option maxHeartbeats 4000000 in
theorem cg_X1_init_0 (l : Launch) : CG l yX1_init cX1_init 2 2 45 4 14 [.ref 76, .ref 1]
  [.inl (11, [.ref 1, .ref 66, .null, .null, .null]), .inl (10, [.ref 2, .ref 17, .ref 32, .ref 47, .ref 56, .ref 58, .ref 60, .ref 62, .ref 64, .int 0, .int 0]), .inl (9, [.ref 3, .ref 5, .ref 7, .ref 9, .ref 11, .ref 13, .ref 15, .int 0, .int 0, .int 0, .int 0]), .inl (7, [.ref 4]), .inr (0, 24, fillF (fun _ => 0) (-1) 24), .inl (7, [.ref 6]), .inr (0, 24, fillF (fun _ => 0) (-1) 24), .inl (7, [.ref 8]), .inr (0, 24, fillF (fun _ => 0) (-1) 24), .inl (7, [.ref 10]), .inr (0, 24, fillF (fun _ => 0) 7 24), .inl (7, [.ref 12]), .inr (0, 72, fillF (fun _ => 0) 0 72), .inl (7, [.ref 14]), .inr (0, 24, fillF (fun _ => 0) (-1) 24), .inl (7, [.ref 16]), .inr (0, 6, fillF (fun _ => 0) 0 6), .inl (6, [.ref 18, .ref 20, .ref 22, .ref 24, .ref 26, .ref 28, .ref 30, .int 0]), .inl (7, [.ref 19]), .inr (0, 30, fillF (fun _ => 0) 3 30), .inl (7, [.ref 21]), .inr (0, 30, fillF (fun _ => 0) 0 30), .inl (7, [.ref 23]), .inr (0, 30, fillF (fun _ => 0) 0 30), .inl (7, [.ref 25]), .inr (0, 30, fillF (fun _ => 0) (-1) 30), .inl (7, [.ref 27]), .inr (0, 30, fillF (fun _ => 0) (-1) 30), .inl (7, [.ref 29]), .inr (0, 30, fillF (fun _ => 0) (-1) 30), .inl (7, [.ref 31]), .inr (0, 30, fillF (fun _ => 0) 0 30), .inl (4, [.ref 33, .ref 35, .ref 37, .ref 39, .ref 41, .ref 43, .ref 45]), .inl (7, [.ref 34]), .inr (0, 120, fillF (fun _ => 0) (-1) 120), .inl (7, [.ref 36]), .inr (0, 120, fillF (fun _ => 0) (-1) 120), .inl (7, [.ref 38]), .inr (0, 120, fillF (fun _ => 0) 0 120), .inl (7, [.ref 40]), .inr (0, 120, fillF (fun _ => 0) (-1) 120), .inl (7, [.ref 42]), .inr (0, 120, fillF (fun _ => 0) 0 120), .inl (7, [.ref 44]), .inr (0, 120, fillF (fun _ => 0) 0 120), .inl (7, [.ref 46]), .inr (0, 24, fillF (fun _ => 0) 0 24), .inl (2, [.ref 48, .ref 50, .ref 52, .ref 54, .int 0]), .inl (7, [.ref 49]), .inr (0, 6, fillF (fun _ => 0) (-1) 6), .inl (7, [.ref 51]), .inr (0, 6, fillF (fun _ => 0) (-1) 6), .inl (7, [.ref 53]), .inr (0, 6, fillF (fun _ => 0) (-1) 6), .inl (7, [.ref 55]), .inr (0, 6, fillF (fun _ => 0) 0 6), .inl (7, [.ref 57]), .inr (0, 6, fillF (fun _ => 0) (-1) 6), .inl (7, [.ref 59]), .inr (0, 8, fillF (fun _ => 0) (-1) 8), .inl (7, [.ref 61]), .inr (0, 8, fillF (fun _ => 0) (-1) 8), .inl (7, [.ref 63]), .inr (0, 6, fillF (fun _ => 0) (-1) 6), .inl (7, [.ref 65]), .inr (0, 6, upd (upd (upd (upd (upd (upd (fillF (fun _ => 0) (-1) 6) 0 0) 1 1) 2 2) 3 3) 4 4) 5 5), .inl (5, [.ref 1, .int 0, .int 0]), .inl (8, [.ref 1, .ref 66, .null, .ref 68, .ref 70, .ref 72, .ref 74, .int 0, .int 0, .int 0]), .inl (7, [.ref 69]), .inr (0, 6, fillF (fun _ => 0) (-1) 6), .inl (7, [.ref 71]), .inr (0, 30, fillF (fun _ => 0) (-1) 30), .inl (7, [.ref 73]), .inr (0, 6, fillF (fun _ => 0) 0 6), .inl (7, [.ref 75]), .inr (0, 6, fillF (fun _ => 0) 0 6), .inl (1, [.null, .null, .null])]
  [.inl (11, [.ref 1, .ref 66, .null, .null, .null]), .inl (10, [.ref 2, .ref 17, .ref 32, .ref 47, .ref 56, .ref 58, .ref 60, .ref 62, .ref 64, .int 0, .int 0]), .inl (9, [.ref 3, .ref 5, .ref 7, .ref 9, .ref 11, .ref 13, .ref 15, .int 0, .int 0, .int 0, .int 0]), .inl (7, [.ref 4]), .inr (0, 24, fillF (fun _ => 0) (-1) 24), .inl (7, [.ref 6]), .inr (0, 24, fillF (fun _ => 0) (-1) 24), .inl (7, [.ref 8]), .inr (0, 24, fillF (fun _ => 0) (-1) 24), .inl (7, [.ref 10]), .inr (0, 24, fillF (fun _ => 0) 7 24), .inl (7, [.ref 12]), .inr (0, 72, fillF (fun _ => 0) 0 72), .inl (7, [.ref 14]), .inr (0, 24, fillF (fun _ => 0) (-1) 24), .inl (7, [.ref 16]), .inr (0, 6, fillF (fun _ => 0) 0 6), .inl (6, [.ref 18, .ref 20, .ref 22, .ref 24, .ref 26, .ref 28, .ref 30, .int 0]), .inl (7, [.ref 19]), .inr (0, 30, fillF (fun _ => 0) 3 30), .inl (7, [.ref 21]), .inr (0, 30, fillF (fun _ => 0) 0 30), .inl (7, [.ref 23]), .inr (0, 30, fillF (fun _ => 0) 0 30), .inl (7, [.ref 25]), .inr (0, 30, fillF (fun _ => 0) (-1) 30), .inl (7, [.ref 27]), .inr (0, 30, fillF (fun _ => 0) (-1) 30), .inl (7, [.ref 29]), .inr (0, 30, fillF (fun _ => 0) (-1) 30), .inl (7, [.ref 31]), .inr (0, 30, fillF (fun _ => 0) 0 30), .inl (4, [.ref 33, .ref 35, .ref 37, .ref 39, .ref 41, .ref 43, .ref 45]), .inl (7, [.ref 34]), .inr (0, 120, fillF (fun _ => 0) (-1) 120), .inl (7, [.ref 36]), .inr (0, 120, fillF (fun _ => 0) (-1) 120), .inl (7, [.ref 38]), .inr (0, 120, fillF (fun _ => 0) 0 120), .inl (7, [.ref 40]), .inr (0, 120, fillF (fun _ => 0) (-1) 120), .inl (7, [.ref 42]), .inr (0, 120, fillF (fun _ => 0) 0 120), .inl (7, [.ref 44]), .inr (0, 120, fillF (fun _ => 0) 0 120), .inl (7, [.ref 46]), .inr (0, 24, fillF (fun _ => 0) 0 24), .inl (2, [.ref 48, .ref 50, .ref 52, .ref 54, .int 0]), .inl (7, [.ref 49]), .inr (0, 6, fillF (fun _ => 0) (-1) 6), .inl (7, [.ref 51]), .inr (0, 6, fillF (fun _ => 0) (-1) 6), .inl (7, [.ref 53]), .inr (0, 6, fillF (fun _ => 0) (-1) 6), .inl (7, [.ref 55]), .inr (0, 6, fillF (fun _ => 0) 0 6), .inl (7, [.ref 57]), .inr (0, 6, fillF (fun _ => 0) (-1) 6), .inl (7, [.ref 59]), .inr (0, 8, fillF (fun _ => 0) (-1) 8), .inl (7, [.ref 61]), .inr (0, 8, fillF (fun _ => 0) (-1) 8), .inl (7, [.ref 63]), .inr (0, 6, fillF (fun _ => 0) (-1) 6), .inl (7, [.ref 65]), .inr (0, 6, upd (upd (upd (upd (upd (upd (fillF (fun _ => 0) (-1) 6) 0 0) 1 1) 2 2) 3 3) 4 4) 5 5), .inl (5, [.ref 1, .int 0, .int 0]), .inl (8, [.ref 1, .ref 66, .null, .ref 68, .ref 70, .ref 72, .ref 74, .int 0, .int 0, .int 0]), .inl (7, [.ref 69]), .inr (0, 6, fillF (fun _ => 0) (-1) 6), .inl (7, [.ref 71]), .inr (0, 30, fillF (fun _ => 0) (-1) 30), .inl (7, [.ref 73]), .inr (0, 6, fillF (fun _ => 0) 0 6), .inl (7, [.ref 75]), .inr (0, 6, fillF (fun _ => 0) 0 6), .inl (1, [.ref 1, .ref 77, .ref 79]), .inl (7, [.ref 78]), .inr (0, 6, fillF (fun _ => 0) (-1) 6), .inl (7, [.ref 80]), .inr (0, 6, fillF (fun _ => 0) 0 6)] := by
  refine cg_of (by decide) (by simp [Value.category]) (by simp) (fun X ρ0 hl hX0 hG hnm hR hQ hr => ?_)
  have hX : CGX X cX1_init 2 RX1 := ⟨hX0, hG⟩
  have hi := hnm rfl
  refine g_al hX dX1_init_0 rfl rfl rfl ?_
  refine g_obj hX ob_X1_3 rfl (by rw [hR]; exact Nat.le_of_ble_eq_true rfl) (by rw [hR]; exact Nat.le_of_ble_eq_true rfl) dX1_init_1 rfl ?_
  refine g_al hX dX1_init_4 rfl rfl rfl ?_
  refine g_new (q9 := 77) rfl hX nw_X1_9 rfl rfl rfl (Nat.le_of_ble_eq_true rfl) ⟨by rw [hR]; exact Nat.le_of_ble_eq_true rfl, by rw [hR]; exact Nat.le_of_ble_eq_true rfl⟩ dX1_init_5 rfl ?_
  refine g_dup hX dX1_init_8 rfl rfl ?_
  refine g_bi 6 hX dX1_init_9 (by decide) rfl ?_
  refine g_ic (-1) hX dX1_init_11 (by decide) rfl ?_
  refine g_callI hX (bg 309 (by decide +kernel) rfl) (bg 59 (by decide +kernel) rfl) (bg 19 (by decide +kernel) rfl) (bg 60 (by decide +kernel) rfl) rfl ⟨by decide +kernel, by decide +kernel, by decide +kernel⟩ (cg_row _ 77 6 6 (-1) _ _ (by decide) (by decide) (by decide) rfl rfl rfl) rfl rfl ⟨by rw [hR]; exact Nat.le_of_ble_eq_true rfl, by rw [hR]; exact Nat.le_of_ble_eq_true rfl, by rw [hR]; exact Nat.le_of_ble_eq_true rfl, by rw [hR]; exact Nat.le_of_ble_eq_true rfl⟩ (Nat.le_of_ble_eq_true rfl) rfl rfl rfl (Nat.le_of_ble_eq_true rfl) dX1_init_12 rfl ?_
  refine g_put hX hi fg_X1_14 (fun _ => ⟨rfl, rfl⟩) (p := 76) rfl (Nat.le_of_ble_eq_true rfl) dX1_init_15 rfl ?_
  refine g_al hX dX1_init_18 rfl rfl rfl ?_
  refine g_new (q9 := 79) rfl hX nw_X1_9 rfl rfl rfl (Nat.le_of_ble_eq_true rfl) ⟨by rw [hR]; exact Nat.le_of_ble_eq_true rfl, by rw [hR]; exact Nat.le_of_ble_eq_true rfl⟩ dX1_init_19 rfl ?_
  refine g_dup hX dX1_init_22 rfl rfl ?_
  refine g_bi 6 hX dX1_init_23 (by decide) rfl ?_
  refine g_ic 0 hX dX1_init_25 (by decide) rfl ?_
  refine g_callI hX (bg 309 (by decide +kernel) rfl) (bg 59 (by decide +kernel) rfl) (bg 19 (by decide +kernel) rfl) (bg 60 (by decide +kernel) rfl) rfl ⟨by decide +kernel, by decide +kernel, by decide +kernel⟩ (cg_row _ 79 6 6 0 _ _ (by decide) (by decide) (by decide) rfl rfl rfl) rfl rfl ⟨by rw [hR]; exact Nat.le_of_ble_eq_true rfl, by rw [hR]; exact Nat.le_of_ble_eq_true rfl, by rw [hR]; exact Nat.le_of_ble_eq_true rfl, by rw [hR]; exact Nat.le_of_ble_eq_true rfl⟩ (Nat.le_of_ble_eq_true rfl) rfl rfl rfl (Nat.le_of_ble_eq_true rfl) dX1_init_26 rfl ?_
  refine g_put hX hi fg_X1_20 (fun _ => ⟨rfl, rfl⟩) (p := 76) rfl (Nat.le_of_ble_eq_true rfl) dX1_init_29 rfl ?_
  refine g_al hX dX1_init_32 rfl rfl rfl ?_
  refine g_al hX dX1_init_33 rfl rfl rfl ?_
  refine g_put hX hi fg_X1_23 (fun _ => ⟨rfl, rfl⟩) (p := 76) rfl (Nat.le_of_ble_eq_true rfl) dX1_init_34 rfl ?_
  exact g_ret hX hQ hr rfl dX1_init_37

set_option maxRecDepth 100000 in
set_option maxHeartbeats 4000000 in
theorem cg_X8_init_0 (l : Launch) : CG l yX8_init cX8_init 3 3 66 13 69 [.ref 67, .ref 1, .ref 66]
  [.inl (11, [.ref 1, .ref 66, .null, .null, .null]), .inl (10, [.ref 2, .ref 17, .ref 32, .ref 47, .ref 56, .ref 58, .ref 60, .ref 62, .ref 64, .int 0, .int 0]), .inl (9, [.ref 3, .ref 5, .ref 7, .ref 9, .ref 11, .ref 13, .ref 15, .int 0, .int 0, .int 0, .int 0]), .inl (7, [.ref 4]), .inr (0, 24, fillF (fun _ => 0) (-1) 24), .inl (7, [.ref 6]), .inr (0, 24, fillF (fun _ => 0) (-1) 24), .inl (7, [.ref 8]), .inr (0, 24, fillF (fun _ => 0) (-1) 24), .inl (7, [.ref 10]), .inr (0, 24, fillF (fun _ => 0) 7 24), .inl (7, [.ref 12]), .inr (0, 72, fillF (fun _ => 0) 0 72), .inl (7, [.ref 14]), .inr (0, 24, fillF (fun _ => 0) (-1) 24), .inl (7, [.ref 16]), .inr (0, 6, fillF (fun _ => 0) 0 6), .inl (6, [.ref 18, .ref 20, .ref 22, .ref 24, .ref 26, .ref 28, .ref 30, .int 0]), .inl (7, [.ref 19]), .inr (0, 30, fillF (fun _ => 0) 3 30), .inl (7, [.ref 21]), .inr (0, 30, fillF (fun _ => 0) 0 30), .inl (7, [.ref 23]), .inr (0, 30, fillF (fun _ => 0) 0 30), .inl (7, [.ref 25]), .inr (0, 30, fillF (fun _ => 0) (-1) 30), .inl (7, [.ref 27]), .inr (0, 30, fillF (fun _ => 0) (-1) 30), .inl (7, [.ref 29]), .inr (0, 30, fillF (fun _ => 0) (-1) 30), .inl (7, [.ref 31]), .inr (0, 30, fillF (fun _ => 0) 0 30), .inl (4, [.ref 33, .ref 35, .ref 37, .ref 39, .ref 41, .ref 43, .ref 45]), .inl (7, [.ref 34]), .inr (0, 120, fillF (fun _ => 0) (-1) 120), .inl (7, [.ref 36]), .inr (0, 120, fillF (fun _ => 0) (-1) 120), .inl (7, [.ref 38]), .inr (0, 120, fillF (fun _ => 0) 0 120), .inl (7, [.ref 40]), .inr (0, 120, fillF (fun _ => 0) (-1) 120), .inl (7, [.ref 42]), .inr (0, 120, fillF (fun _ => 0) 0 120), .inl (7, [.ref 44]), .inr (0, 120, fillF (fun _ => 0) 0 120), .inl (7, [.ref 46]), .inr (0, 24, fillF (fun _ => 0) 0 24), .inl (2, [.ref 48, .ref 50, .ref 52, .ref 54, .int 0]), .inl (7, [.ref 49]), .inr (0, 6, fillF (fun _ => 0) (-1) 6), .inl (7, [.ref 51]), .inr (0, 6, fillF (fun _ => 0) (-1) 6), .inl (7, [.ref 53]), .inr (0, 6, fillF (fun _ => 0) (-1) 6), .inl (7, [.ref 55]), .inr (0, 6, fillF (fun _ => 0) 0 6), .inl (7, [.ref 57]), .inr (0, 6, fillF (fun _ => 0) (-1) 6), .inl (7, [.ref 59]), .inr (0, 8, fillF (fun _ => 0) (-1) 8), .inl (7, [.ref 61]), .inr (0, 8, fillF (fun _ => 0) (-1) 8), .inl (7, [.ref 63]), .inr (0, 6, fillF (fun _ => 0) (-1) 6), .inl (7, [.ref 65]), .inr (0, 6, upd (upd (upd (upd (upd (upd (fillF (fun _ => 0) (-1) 6) 0 0) 1 1) 2 2) 3 3) 4 4) 5 5), .inl (5, [.ref 1, .int 0, .int 0]), .inl (8, [.null, .null, .null, .null, .null, .null, .null, .int 0, .int 0, .int 0])]
  [.inl (11, [.ref 1, .ref 66, .null, .null, .null]), .inl (10, [.ref 2, .ref 17, .ref 32, .ref 47, .ref 56, .ref 58, .ref 60, .ref 62, .ref 64, .int 0, .int 0]), .inl (9, [.ref 3, .ref 5, .ref 7, .ref 9, .ref 11, .ref 13, .ref 15, .int 0, .int 0, .int 0, .int 0]), .inl (7, [.ref 4]), .inr (0, 24, fillF (fun _ => 0) (-1) 24), .inl (7, [.ref 6]), .inr (0, 24, fillF (fun _ => 0) (-1) 24), .inl (7, [.ref 8]), .inr (0, 24, fillF (fun _ => 0) (-1) 24), .inl (7, [.ref 10]), .inr (0, 24, fillF (fun _ => 0) 7 24), .inl (7, [.ref 12]), .inr (0, 72, fillF (fun _ => 0) 0 72), .inl (7, [.ref 14]), .inr (0, 24, fillF (fun _ => 0) (-1) 24), .inl (7, [.ref 16]), .inr (0, 6, fillF (fun _ => 0) 0 6), .inl (6, [.ref 18, .ref 20, .ref 22, .ref 24, .ref 26, .ref 28, .ref 30, .int 0]), .inl (7, [.ref 19]), .inr (0, 30, fillF (fun _ => 0) 3 30), .inl (7, [.ref 21]), .inr (0, 30, fillF (fun _ => 0) 0 30), .inl (7, [.ref 23]), .inr (0, 30, fillF (fun _ => 0) 0 30), .inl (7, [.ref 25]), .inr (0, 30, fillF (fun _ => 0) (-1) 30), .inl (7, [.ref 27]), .inr (0, 30, fillF (fun _ => 0) (-1) 30), .inl (7, [.ref 29]), .inr (0, 30, fillF (fun _ => 0) (-1) 30), .inl (7, [.ref 31]), .inr (0, 30, fillF (fun _ => 0) 0 30), .inl (4, [.ref 33, .ref 35, .ref 37, .ref 39, .ref 41, .ref 43, .ref 45]), .inl (7, [.ref 34]), .inr (0, 120, fillF (fun _ => 0) (-1) 120), .inl (7, [.ref 36]), .inr (0, 120, fillF (fun _ => 0) (-1) 120), .inl (7, [.ref 38]), .inr (0, 120, fillF (fun _ => 0) 0 120), .inl (7, [.ref 40]), .inr (0, 120, fillF (fun _ => 0) (-1) 120), .inl (7, [.ref 42]), .inr (0, 120, fillF (fun _ => 0) 0 120), .inl (7, [.ref 44]), .inr (0, 120, fillF (fun _ => 0) 0 120), .inl (7, [.ref 46]), .inr (0, 24, fillF (fun _ => 0) 0 24), .inl (2, [.ref 48, .ref 50, .ref 52, .ref 54, .int 0]), .inl (7, [.ref 49]), .inr (0, 6, fillF (fun _ => 0) (-1) 6), .inl (7, [.ref 51]), .inr (0, 6, fillF (fun _ => 0) (-1) 6), .inl (7, [.ref 53]), .inr (0, 6, fillF (fun _ => 0) (-1) 6), .inl (7, [.ref 55]), .inr (0, 6, fillF (fun _ => 0) 0 6), .inl (7, [.ref 57]), .inr (0, 6, fillF (fun _ => 0) (-1) 6), .inl (7, [.ref 59]), .inr (0, 8, fillF (fun _ => 0) (-1) 8), .inl (7, [.ref 61]), .inr (0, 8, fillF (fun _ => 0) (-1) 8), .inl (7, [.ref 63]), .inr (0, 6, fillF (fun _ => 0) (-1) 6), .inl (7, [.ref 65]), .inr (0, 6, upd (upd (upd (upd (upd (upd (fillF (fun _ => 0) (-1) 6) 0 0) 1 1) 2 2) 3 3) 4 4) 5 5), .inl (5, [.ref 1, .int 0, .int 0]), .inl (8, [.ref 1, .ref 66, .ref 76, .ref 68, .ref 70, .ref 72, .ref 74, .int 0, .int 0, .int 0]), .inl (7, [.ref 69]), .inr (0, 6, fillF (fun _ => 0) (-1) 6), .inl (7, [.ref 71]), .inr (0, 30, fillF (fun _ => 0) (-1) 30), .inl (7, [.ref 73]), .inr (0, 6, fillF (fun _ => 0) 0 6), .inl (7, [.ref 75]), .inr (0, 6, fillF (fun _ => 0) 0 6), .inl (1, [.ref 1, .ref 77, .ref 79]), .inl (7, [.ref 78]), .inr (0, 6, fillF (fun _ => 0) (-1) 6), .inl (7, [.ref 80]), .inr (0, 6, fillF (fun _ => 0) 0 6)] := by
  refine cg_of (by decide) (by simp [Value.category]) (by simp) (fun X ρ0 hl hX0 hG hnm hR hQ hr => ?_)
  have hX : CGX X cX8_init 3 RX8 := ⟨hX0, hG⟩
  have hi := hnm rfl
  refine g_al hX dX8_init_0 rfl rfl rfl ?_
  refine g_obj hX ob_X8_3 rfl (by rw [hR]; exact Nat.le_of_ble_eq_true rfl) (by rw [hR]; exact Nat.le_of_ble_eq_true rfl) dX8_init_1 rfl ?_
  refine g_al hX dX8_init_4 rfl rfl rfl ?_
  refine g_new (q9 := 68) rfl hX nw_X8_9 rfl rfl rfl (Nat.le_of_ble_eq_true rfl) ⟨by rw [hR]; exact Nat.le_of_ble_eq_true rfl, by rw [hR]; exact Nat.le_of_ble_eq_true rfl⟩ dX8_init_5 rfl ?_
  refine g_dup hX dX8_init_8 rfl rfl ?_
  refine g_bi 6 hX dX8_init_9 (by decide) rfl ?_
  refine g_ic (-1) hX dX8_init_11 (by decide) rfl ?_
  refine g_callI hX (bg 301 (by decide +kernel) rfl) (bg 59 (by decide +kernel) rfl) (bg 19 (by decide +kernel) rfl) (bg 60 (by decide +kernel) rfl) rfl ⟨by decide +kernel, by decide +kernel, by decide +kernel⟩ (cg_row _ 68 6 6 (-1) _ _ (by decide) (by decide) (by decide) rfl rfl rfl) rfl rfl ⟨by rw [hR]; exact Nat.le_of_ble_eq_true rfl, by rw [hR]; exact Nat.le_of_ble_eq_true rfl, by rw [hR]; exact Nat.le_of_ble_eq_true rfl, by rw [hR]; exact Nat.le_of_ble_eq_true rfl⟩ (Nat.le_of_ble_eq_true rfl) rfl rfl rfl (Nat.le_of_ble_eq_true rfl) dX8_init_12 rfl ?_
  refine g_put hX hi fg_X8_14 (fun _ => ⟨rfl, rfl⟩) (p := 67) rfl (Nat.le_of_ble_eq_true rfl) dX8_init_15 rfl ?_
  refine g_al hX dX8_init_18 rfl rfl rfl ?_
  refine g_new (q9 := 70) rfl hX nw_X8_9 rfl rfl rfl (Nat.le_of_ble_eq_true rfl) ⟨by rw [hR]; exact Nat.le_of_ble_eq_true rfl, by rw [hR]; exact Nat.le_of_ble_eq_true rfl⟩ dX8_init_19 rfl ?_
  refine g_dup hX dX8_init_22 rfl rfl ?_
  refine g_bi 30 hX dX8_init_23 (by decide) rfl ?_
  refine g_ic (-1) hX dX8_init_25 (by decide) rfl ?_
  refine g_callI hX (bg 301 (by decide +kernel) rfl) (bg 59 (by decide +kernel) rfl) (bg 19 (by decide +kernel) rfl) (bg 60 (by decide +kernel) rfl) rfl ⟨by decide +kernel, by decide +kernel, by decide +kernel⟩ (cg_row _ 70 30 30 (-1) _ _ (by decide) (by decide) (by decide) rfl rfl rfl) rfl rfl ⟨by rw [hR]; exact Nat.le_of_ble_eq_true rfl, by rw [hR]; exact Nat.le_of_ble_eq_true rfl, by rw [hR]; exact Nat.le_of_ble_eq_true rfl, by rw [hR]; exact Nat.le_of_ble_eq_true rfl⟩ (Nat.le_of_ble_eq_true rfl) rfl rfl rfl (Nat.le_of_ble_eq_true rfl) dX8_init_26 rfl ?_
  refine g_put hX hi fg_X8_20 (fun _ => ⟨rfl, rfl⟩) (p := 67) rfl (Nat.le_of_ble_eq_true rfl) dX8_init_29 rfl ?_
  refine g_al hX dX8_init_32 rfl rfl rfl ?_
  refine g_new (q9 := 72) rfl hX nw_X8_9 rfl rfl rfl (Nat.le_of_ble_eq_true rfl) ⟨by rw [hR]; exact Nat.le_of_ble_eq_true rfl, by rw [hR]; exact Nat.le_of_ble_eq_true rfl⟩ dX8_init_33 rfl ?_
  refine g_dup hX dX8_init_36 rfl rfl ?_
  refine g_bi 6 hX dX8_init_37 (by decide) rfl ?_
  refine g_ic 0 hX dX8_init_39 (by decide) rfl ?_
  refine g_callI hX (bg 301 (by decide +kernel) rfl) (bg 59 (by decide +kernel) rfl) (bg 19 (by decide +kernel) rfl) (bg 60 (by decide +kernel) rfl) rfl ⟨by decide +kernel, by decide +kernel, by decide +kernel⟩ (cg_row _ 72 6 6 0 _ _ (by decide) (by decide) (by decide) rfl rfl rfl) rfl rfl ⟨by rw [hR]; exact Nat.le_of_ble_eq_true rfl, by rw [hR]; exact Nat.le_of_ble_eq_true rfl, by rw [hR]; exact Nat.le_of_ble_eq_true rfl, by rw [hR]; exact Nat.le_of_ble_eq_true rfl⟩ (Nat.le_of_ble_eq_true rfl) rfl rfl rfl (Nat.le_of_ble_eq_true rfl) dX8_init_40 rfl ?_
  refine g_put hX hi fg_X8_23 (fun _ => ⟨rfl, rfl⟩) (p := 67) rfl (Nat.le_of_ble_eq_true rfl) dX8_init_43 rfl ?_
  refine g_al hX dX8_init_46 rfl rfl rfl ?_
  refine g_new (q9 := 74) rfl hX nw_X8_9 rfl rfl rfl (Nat.le_of_ble_eq_true rfl) ⟨by rw [hR]; exact Nat.le_of_ble_eq_true rfl, by rw [hR]; exact Nat.le_of_ble_eq_true rfl⟩ dX8_init_47 rfl ?_
  refine g_dup hX dX8_init_50 rfl rfl ?_
  refine g_bi 6 hX dX8_init_51 (by decide) rfl ?_
  refine g_ic 0 hX dX8_init_53 (by decide) rfl ?_
  refine g_callI hX (bg 301 (by decide +kernel) rfl) (bg 59 (by decide +kernel) rfl) (bg 19 (by decide +kernel) rfl) (bg 60 (by decide +kernel) rfl) rfl ⟨by decide +kernel, by decide +kernel, by decide +kernel⟩ (cg_row _ 74 6 6 0 _ _ (by decide) (by decide) (by decide) rfl rfl rfl) rfl rfl ⟨by rw [hR]; exact Nat.le_of_ble_eq_true rfl, by rw [hR]; exact Nat.le_of_ble_eq_true rfl, by rw [hR]; exact Nat.le_of_ble_eq_true rfl, by rw [hR]; exact Nat.le_of_ble_eq_true rfl⟩ (Nat.le_of_ble_eq_true rfl) rfl rfl rfl (Nat.le_of_ble_eq_true rfl) dX8_init_54 rfl ?_
  refine g_put hX hi fg_X8_26 (fun _ => ⟨rfl, rfl⟩) (p := 67) rfl (Nat.le_of_ble_eq_true rfl) dX8_init_57 rfl ?_
  refine g_al hX dX8_init_60 rfl rfl rfl ?_
  refine g_al hX dX8_init_61 rfl rfl rfl ?_
  refine g_put hX hi fg_X8_29 (fun _ => ⟨rfl, rfl⟩) (p := 67) rfl (Nat.le_of_ble_eq_true rfl) dX8_init_62 rfl ?_
  refine g_al hX dX8_init_65 rfl rfl rfl ?_
  refine g_al hX dX8_init_66 rfl rfl rfl ?_
  refine g_put hX hi fg_X8_33 (fun _ => ⟨rfl, rfl⟩) (p := 67) rfl (Nat.le_of_ble_eq_true rfl) dX8_init_67 rfl ?_
  refine g_al hX dX8_init_70 rfl rfl rfl ?_
  refine g_new (q9 := 76) rfl hX nw_X8_37 rfl rfl rfl (Nat.le_of_ble_eq_true rfl) ⟨by rw [hR]; exact Nat.le_of_ble_eq_true rfl, by rw [hR]; exact Nat.le_of_ble_eq_true rfl⟩ dX8_init_71 rfl ?_
  refine g_dup hX dX8_init_74 rfl rfl ?_
  refine g_al hX dX8_init_75 rfl rfl rfl ?_
  refine g_callI hX (bg 304 (by decide +kernel) rfl) (bg 305 (by decide +kernel) rfl) (bg 26 (by decide +kernel) rfl) (bg 306 (by decide +kernel) rfl) rfl ⟨by decide +kernel, by decide +kernel, by decide +kernel⟩ (cg_X1_init_0 _) rfl rfl ⟨by rw [hR]; exact Nat.le_of_ble_eq_true rfl, by rw [hR]; exact Nat.le_of_ble_eq_true rfl, by rw [hR]; exact Nat.le_of_ble_eq_true rfl, by rw [hR]; exact Nat.le_of_ble_eq_true rfl⟩ (Nat.le_of_ble_eq_true rfl) rfl rfl rfl (Nat.le_of_ble_eq_true rfl) dX8_init_76 rfl ?_
  refine g_put hX hi fg_X8_42 (fun _ => ⟨rfl, rfl⟩) (p := 67) rfl (Nat.le_of_ble_eq_true rfl) dX8_init_79 rfl ?_
  exact g_ret hX hQ hr rfl dX8_init_82

set_option maxRecDepth 100000 in
set_option maxHeartbeats 4000000 in
theorem cg_X1_init_1 (l : Launch) : CG l yX1_init cX1_init 2 2 45 4 14 [.ref 84, .ref 1]
  [.inl (11, [.ref 1, .ref 66, .ref 67, .null, .null]), .inl (10, [.ref 2, .ref 17, .ref 32, .ref 47, .ref 56, .ref 58, .ref 60, .ref 62, .ref 64, .int 0, .int 0]), .inl (9, [.ref 3, .ref 5, .ref 7, .ref 9, .ref 11, .ref 13, .ref 15, .int 0, .int 0, .int 0, .int 0]), .inl (7, [.ref 4]), .inr (0, 24, fillF (fun _ => 0) (-1) 24), .inl (7, [.ref 6]), .inr (0, 24, fillF (fun _ => 0) (-1) 24), .inl (7, [.ref 8]), .inr (0, 24, fillF (fun _ => 0) (-1) 24), .inl (7, [.ref 10]), .inr (0, 24, fillF (fun _ => 0) 7 24), .inl (7, [.ref 12]), .inr (0, 72, fillF (fun _ => 0) 0 72), .inl (7, [.ref 14]), .inr (0, 24, fillF (fun _ => 0) (-1) 24), .inl (7, [.ref 16]), .inr (0, 6, fillF (fun _ => 0) 0 6), .inl (6, [.ref 18, .ref 20, .ref 22, .ref 24, .ref 26, .ref 28, .ref 30, .int 0]), .inl (7, [.ref 19]), .inr (0, 30, fillF (fun _ => 0) 3 30), .inl (7, [.ref 21]), .inr (0, 30, fillF (fun _ => 0) 0 30), .inl (7, [.ref 23]), .inr (0, 30, fillF (fun _ => 0) 0 30), .inl (7, [.ref 25]), .inr (0, 30, fillF (fun _ => 0) (-1) 30), .inl (7, [.ref 27]), .inr (0, 30, fillF (fun _ => 0) (-1) 30), .inl (7, [.ref 29]), .inr (0, 30, fillF (fun _ => 0) (-1) 30), .inl (7, [.ref 31]), .inr (0, 30, fillF (fun _ => 0) 0 30), .inl (4, [.ref 33, .ref 35, .ref 37, .ref 39, .ref 41, .ref 43, .ref 45]), .inl (7, [.ref 34]), .inr (0, 120, fillF (fun _ => 0) (-1) 120), .inl (7, [.ref 36]), .inr (0, 120, fillF (fun _ => 0) (-1) 120), .inl (7, [.ref 38]), .inr (0, 120, fillF (fun _ => 0) 0 120), .inl (7, [.ref 40]), .inr (0, 120, fillF (fun _ => 0) (-1) 120), .inl (7, [.ref 42]), .inr (0, 120, fillF (fun _ => 0) 0 120), .inl (7, [.ref 44]), .inr (0, 120, fillF (fun _ => 0) 0 120), .inl (7, [.ref 46]), .inr (0, 24, fillF (fun _ => 0) 0 24), .inl (2, [.ref 48, .ref 50, .ref 52, .ref 54, .int 0]), .inl (7, [.ref 49]), .inr (0, 6, fillF (fun _ => 0) (-1) 6), .inl (7, [.ref 51]), .inr (0, 6, fillF (fun _ => 0) (-1) 6), .inl (7, [.ref 53]), .inr (0, 6, fillF (fun _ => 0) (-1) 6), .inl (7, [.ref 55]), .inr (0, 6, fillF (fun _ => 0) 0 6), .inl (7, [.ref 57]), .inr (0, 6, fillF (fun _ => 0) (-1) 6), .inl (7, [.ref 59]), .inr (0, 8, fillF (fun _ => 0) (-1) 8), .inl (7, [.ref 61]), .inr (0, 8, fillF (fun _ => 0) (-1) 8), .inl (7, [.ref 63]), .inr (0, 6, fillF (fun _ => 0) (-1) 6), .inl (7, [.ref 65]), .inr (0, 6, upd (upd (upd (upd (upd (upd (fillF (fun _ => 0) (-1) 6) 0 0) 1 1) 2 2) 3 3) 4 4) 5 5), .inl (5, [.ref 1, .int 0, .int 0]), .inl (8, [.ref 1, .ref 66, .ref 76, .ref 68, .ref 70, .ref 72, .ref 74, .int 0, .int 0, .int 0]), .inl (7, [.ref 69]), .inr (0, 6, fillF (fun _ => 0) (-1) 6), .inl (7, [.ref 71]), .inr (0, 30, fillF (fun _ => 0) (-1) 30), .inl (7, [.ref 73]), .inr (0, 6, fillF (fun _ => 0) 0 6), .inl (7, [.ref 75]), .inr (0, 6, fillF (fun _ => 0) 0 6), .inl (1, [.ref 1, .ref 77, .ref 79]), .inl (7, [.ref 78]), .inr (0, 6, fillF (fun _ => 0) (-1) 6), .inl (7, [.ref 80]), .inr (0, 6, fillF (fun _ => 0) 0 6), .inl (0, [.ref 1, .ref 66, .null, .ref 82]), .inl (7, [.ref 83]), .inr (0, 6, fillF (fun _ => 0) (-1) 6), .inl (1, [.null, .null, .null])]
  [.inl (11, [.ref 1, .ref 66, .ref 67, .null, .null]), .inl (10, [.ref 2, .ref 17, .ref 32, .ref 47, .ref 56, .ref 58, .ref 60, .ref 62, .ref 64, .int 0, .int 0]), .inl (9, [.ref 3, .ref 5, .ref 7, .ref 9, .ref 11, .ref 13, .ref 15, .int 0, .int 0, .int 0, .int 0]), .inl (7, [.ref 4]), .inr (0, 24, fillF (fun _ => 0) (-1) 24), .inl (7, [.ref 6]), .inr (0, 24, fillF (fun _ => 0) (-1) 24), .inl (7, [.ref 8]), .inr (0, 24, fillF (fun _ => 0) (-1) 24), .inl (7, [.ref 10]), .inr (0, 24, fillF (fun _ => 0) 7 24), .inl (7, [.ref 12]), .inr (0, 72, fillF (fun _ => 0) 0 72), .inl (7, [.ref 14]), .inr (0, 24, fillF (fun _ => 0) (-1) 24), .inl (7, [.ref 16]), .inr (0, 6, fillF (fun _ => 0) 0 6), .inl (6, [.ref 18, .ref 20, .ref 22, .ref 24, .ref 26, .ref 28, .ref 30, .int 0]), .inl (7, [.ref 19]), .inr (0, 30, fillF (fun _ => 0) 3 30), .inl (7, [.ref 21]), .inr (0, 30, fillF (fun _ => 0) 0 30), .inl (7, [.ref 23]), .inr (0, 30, fillF (fun _ => 0) 0 30), .inl (7, [.ref 25]), .inr (0, 30, fillF (fun _ => 0) (-1) 30), .inl (7, [.ref 27]), .inr (0, 30, fillF (fun _ => 0) (-1) 30), .inl (7, [.ref 29]), .inr (0, 30, fillF (fun _ => 0) (-1) 30), .inl (7, [.ref 31]), .inr (0, 30, fillF (fun _ => 0) 0 30), .inl (4, [.ref 33, .ref 35, .ref 37, .ref 39, .ref 41, .ref 43, .ref 45]), .inl (7, [.ref 34]), .inr (0, 120, fillF (fun _ => 0) (-1) 120), .inl (7, [.ref 36]), .inr (0, 120, fillF (fun _ => 0) (-1) 120), .inl (7, [.ref 38]), .inr (0, 120, fillF (fun _ => 0) 0 120), .inl (7, [.ref 40]), .inr (0, 120, fillF (fun _ => 0) (-1) 120), .inl (7, [.ref 42]), .inr (0, 120, fillF (fun _ => 0) 0 120), .inl (7, [.ref 44]), .inr (0, 120, fillF (fun _ => 0) 0 120), .inl (7, [.ref 46]), .inr (0, 24, fillF (fun _ => 0) 0 24), .inl (2, [.ref 48, .ref 50, .ref 52, .ref 54, .int 0]), .inl (7, [.ref 49]), .inr (0, 6, fillF (fun _ => 0) (-1) 6), .inl (7, [.ref 51]), .inr (0, 6, fillF (fun _ => 0) (-1) 6), .inl (7, [.ref 53]), .inr (0, 6, fillF (fun _ => 0) (-1) 6), .inl (7, [.ref 55]), .inr (0, 6, fillF (fun _ => 0) 0 6), .inl (7, [.ref 57]), .inr (0, 6, fillF (fun _ => 0) (-1) 6), .inl (7, [.ref 59]), .inr (0, 8, fillF (fun _ => 0) (-1) 8), .inl (7, [.ref 61]), .inr (0, 8, fillF (fun _ => 0) (-1) 8), .inl (7, [.ref 63]), .inr (0, 6, fillF (fun _ => 0) (-1) 6), .inl (7, [.ref 65]), .inr (0, 6, upd (upd (upd (upd (upd (upd (fillF (fun _ => 0) (-1) 6) 0 0) 1 1) 2 2) 3 3) 4 4) 5 5), .inl (5, [.ref 1, .int 0, .int 0]), .inl (8, [.ref 1, .ref 66, .ref 76, .ref 68, .ref 70, .ref 72, .ref 74, .int 0, .int 0, .int 0]), .inl (7, [.ref 69]), .inr (0, 6, fillF (fun _ => 0) (-1) 6), .inl (7, [.ref 71]), .inr (0, 30, fillF (fun _ => 0) (-1) 30), .inl (7, [.ref 73]), .inr (0, 6, fillF (fun _ => 0) 0 6), .inl (7, [.ref 75]), .inr (0, 6, fillF (fun _ => 0) 0 6), .inl (1, [.ref 1, .ref 77, .ref 79]), .inl (7, [.ref 78]), .inr (0, 6, fillF (fun _ => 0) (-1) 6), .inl (7, [.ref 80]), .inr (0, 6, fillF (fun _ => 0) 0 6), .inl (0, [.ref 1, .ref 66, .null, .ref 82]), .inl (7, [.ref 83]), .inr (0, 6, fillF (fun _ => 0) (-1) 6), .inl (1, [.ref 1, .ref 85, .ref 87]), .inl (7, [.ref 86]), .inr (0, 6, fillF (fun _ => 0) (-1) 6), .inl (7, [.ref 88]), .inr (0, 6, fillF (fun _ => 0) 0 6)] := by
  refine cg_of (by decide) (by simp [Value.category]) (by simp) (fun X ρ0 hl hX0 hG hnm hR hQ hr => ?_)
  have hX : CGX X cX1_init 2 RX1 := ⟨hX0, hG⟩
  have hi := hnm rfl
  refine g_al hX dX1_init_0 rfl rfl rfl ?_
  refine g_obj hX ob_X1_3 rfl (by rw [hR]; exact Nat.le_of_ble_eq_true rfl) (by rw [hR]; exact Nat.le_of_ble_eq_true rfl) dX1_init_1 rfl ?_
  refine g_al hX dX1_init_4 rfl rfl rfl ?_
  refine g_new (q9 := 85) rfl hX nw_X1_9 rfl rfl rfl (Nat.le_of_ble_eq_true rfl) ⟨by rw [hR]; exact Nat.le_of_ble_eq_true rfl, by rw [hR]; exact Nat.le_of_ble_eq_true rfl⟩ dX1_init_5 rfl ?_
  refine g_dup hX dX1_init_8 rfl rfl ?_
  refine g_bi 6 hX dX1_init_9 (by decide) rfl ?_
  refine g_ic (-1) hX dX1_init_11 (by decide) rfl ?_
  refine g_callI hX (bg 309 (by decide +kernel) rfl) (bg 59 (by decide +kernel) rfl) (bg 19 (by decide +kernel) rfl) (bg 60 (by decide +kernel) rfl) rfl ⟨by decide +kernel, by decide +kernel, by decide +kernel⟩ (cg_row _ 85 6 6 (-1) _ _ (by decide) (by decide) (by decide) rfl rfl rfl) rfl rfl ⟨by rw [hR]; exact Nat.le_of_ble_eq_true rfl, by rw [hR]; exact Nat.le_of_ble_eq_true rfl, by rw [hR]; exact Nat.le_of_ble_eq_true rfl, by rw [hR]; exact Nat.le_of_ble_eq_true rfl⟩ (Nat.le_of_ble_eq_true rfl) rfl rfl rfl (Nat.le_of_ble_eq_true rfl) dX1_init_12 rfl ?_
  refine g_put hX hi fg_X1_14 (fun _ => ⟨rfl, rfl⟩) (p := 84) rfl (Nat.le_of_ble_eq_true rfl) dX1_init_15 rfl ?_
  refine g_al hX dX1_init_18 rfl rfl rfl ?_
  refine g_new (q9 := 87) rfl hX nw_X1_9 rfl rfl rfl (Nat.le_of_ble_eq_true rfl) ⟨by rw [hR]; exact Nat.le_of_ble_eq_true rfl, by rw [hR]; exact Nat.le_of_ble_eq_true rfl⟩ dX1_init_19 rfl ?_
  refine g_dup hX dX1_init_22 rfl rfl ?_
  refine g_bi 6 hX dX1_init_23 (by decide) rfl ?_
  refine g_ic 0 hX dX1_init_25 (by decide) rfl ?_
  refine g_callI hX (bg 309 (by decide +kernel) rfl) (bg 59 (by decide +kernel) rfl) (bg 19 (by decide +kernel) rfl) (bg 60 (by decide +kernel) rfl) rfl ⟨by decide +kernel, by decide +kernel, by decide +kernel⟩ (cg_row _ 87 6 6 0 _ _ (by decide) (by decide) (by decide) rfl rfl rfl) rfl rfl ⟨by rw [hR]; exact Nat.le_of_ble_eq_true rfl, by rw [hR]; exact Nat.le_of_ble_eq_true rfl, by rw [hR]; exact Nat.le_of_ble_eq_true rfl, by rw [hR]; exact Nat.le_of_ble_eq_true rfl⟩ (Nat.le_of_ble_eq_true rfl) rfl rfl rfl (Nat.le_of_ble_eq_true rfl) dX1_init_26 rfl ?_
  refine g_put hX hi fg_X1_20 (fun _ => ⟨rfl, rfl⟩) (p := 84) rfl (Nat.le_of_ble_eq_true rfl) dX1_init_29 rfl ?_
  refine g_al hX dX1_init_32 rfl rfl rfl ?_
  refine g_al hX dX1_init_33 rfl rfl rfl ?_
  refine g_put hX hi fg_X1_23 (fun _ => ⟨rfl, rfl⟩) (p := 84) rfl (Nat.le_of_ble_eq_true rfl) dX1_init_34 rfl ?_
  exact g_ret hX hQ hr rfl dX1_init_37

set_option maxRecDepth 100000 in
set_option maxHeartbeats 4000000 in
theorem cg_X0_init_0 (l : Launch) : CG l yX0_init cX0_init 3 3 66 7 24 [.ref 81, .ref 1, .ref 66]
  [.inl (11, [.ref 1, .ref 66, .ref 67, .null, .null]), .inl (10, [.ref 2, .ref 17, .ref 32, .ref 47, .ref 56, .ref 58, .ref 60, .ref 62, .ref 64, .int 0, .int 0]), .inl (9, [.ref 3, .ref 5, .ref 7, .ref 9, .ref 11, .ref 13, .ref 15, .int 0, .int 0, .int 0, .int 0]), .inl (7, [.ref 4]), .inr (0, 24, fillF (fun _ => 0) (-1) 24), .inl (7, [.ref 6]), .inr (0, 24, fillF (fun _ => 0) (-1) 24), .inl (7, [.ref 8]), .inr (0, 24, fillF (fun _ => 0) (-1) 24), .inl (7, [.ref 10]), .inr (0, 24, fillF (fun _ => 0) 7 24), .inl (7, [.ref 12]), .inr (0, 72, fillF (fun _ => 0) 0 72), .inl (7, [.ref 14]), .inr (0, 24, fillF (fun _ => 0) (-1) 24), .inl (7, [.ref 16]), .inr (0, 6, fillF (fun _ => 0) 0 6), .inl (6, [.ref 18, .ref 20, .ref 22, .ref 24, .ref 26, .ref 28, .ref 30, .int 0]), .inl (7, [.ref 19]), .inr (0, 30, fillF (fun _ => 0) 3 30), .inl (7, [.ref 21]), .inr (0, 30, fillF (fun _ => 0) 0 30), .inl (7, [.ref 23]), .inr (0, 30, fillF (fun _ => 0) 0 30), .inl (7, [.ref 25]), .inr (0, 30, fillF (fun _ => 0) (-1) 30), .inl (7, [.ref 27]), .inr (0, 30, fillF (fun _ => 0) (-1) 30), .inl (7, [.ref 29]), .inr (0, 30, fillF (fun _ => 0) (-1) 30), .inl (7, [.ref 31]), .inr (0, 30, fillF (fun _ => 0) 0 30), .inl (4, [.ref 33, .ref 35, .ref 37, .ref 39, .ref 41, .ref 43, .ref 45]), .inl (7, [.ref 34]), .inr (0, 120, fillF (fun _ => 0) (-1) 120), .inl (7, [.ref 36]), .inr (0, 120, fillF (fun _ => 0) (-1) 120), .inl (7, [.ref 38]), .inr (0, 120, fillF (fun _ => 0) 0 120), .inl (7, [.ref 40]), .inr (0, 120, fillF (fun _ => 0) (-1) 120), .inl (7, [.ref 42]), .inr (0, 120, fillF (fun _ => 0) 0 120), .inl (7, [.ref 44]), .inr (0, 120, fillF (fun _ => 0) 0 120), .inl (7, [.ref 46]), .inr (0, 24, fillF (fun _ => 0) 0 24), .inl (2, [.ref 48, .ref 50, .ref 52, .ref 54, .int 0]), .inl (7, [.ref 49]), .inr (0, 6, fillF (fun _ => 0) (-1) 6), .inl (7, [.ref 51]), .inr (0, 6, fillF (fun _ => 0) (-1) 6), .inl (7, [.ref 53]), .inr (0, 6, fillF (fun _ => 0) (-1) 6), .inl (7, [.ref 55]), .inr (0, 6, fillF (fun _ => 0) 0 6), .inl (7, [.ref 57]), .inr (0, 6, fillF (fun _ => 0) (-1) 6), .inl (7, [.ref 59]), .inr (0, 8, fillF (fun _ => 0) (-1) 8), .inl (7, [.ref 61]), .inr (0, 8, fillF (fun _ => 0) (-1) 8), .inl (7, [.ref 63]), .inr (0, 6, fillF (fun _ => 0) (-1) 6), .inl (7, [.ref 65]), .inr (0, 6, upd (upd (upd (upd (upd (upd (fillF (fun _ => 0) (-1) 6) 0 0) 1 1) 2 2) 3 3) 4 4) 5 5), .inl (5, [.ref 1, .int 0, .int 0]), .inl (8, [.ref 1, .ref 66, .ref 76, .ref 68, .ref 70, .ref 72, .ref 74, .int 0, .int 0, .int 0]), .inl (7, [.ref 69]), .inr (0, 6, fillF (fun _ => 0) (-1) 6), .inl (7, [.ref 71]), .inr (0, 30, fillF (fun _ => 0) (-1) 30), .inl (7, [.ref 73]), .inr (0, 6, fillF (fun _ => 0) 0 6), .inl (7, [.ref 75]), .inr (0, 6, fillF (fun _ => 0) 0 6), .inl (1, [.ref 1, .ref 77, .ref 79]), .inl (7, [.ref 78]), .inr (0, 6, fillF (fun _ => 0) (-1) 6), .inl (7, [.ref 80]), .inr (0, 6, fillF (fun _ => 0) 0 6), .inl (0, [.null, .null, .null, .null])]
  [.inl (11, [.ref 1, .ref 66, .ref 67, .null, .null]), .inl (10, [.ref 2, .ref 17, .ref 32, .ref 47, .ref 56, .ref 58, .ref 60, .ref 62, .ref 64, .int 0, .int 0]), .inl (9, [.ref 3, .ref 5, .ref 7, .ref 9, .ref 11, .ref 13, .ref 15, .int 0, .int 0, .int 0, .int 0]), .inl (7, [.ref 4]), .inr (0, 24, fillF (fun _ => 0) (-1) 24), .inl (7, [.ref 6]), .inr (0, 24, fillF (fun _ => 0) (-1) 24), .inl (7, [.ref 8]), .inr (0, 24, fillF (fun _ => 0) (-1) 24), .inl (7, [.ref 10]), .inr (0, 24, fillF (fun _ => 0) 7 24), .inl (7, [.ref 12]), .inr (0, 72, fillF (fun _ => 0) 0 72), .inl (7, [.ref 14]), .inr (0, 24, fillF (fun _ => 0) (-1) 24), .inl (7, [.ref 16]), .inr (0, 6, fillF (fun _ => 0) 0 6), .inl (6, [.ref 18, .ref 20, .ref 22, .ref 24, .ref 26, .ref 28, .ref 30, .int 0]), .inl (7, [.ref 19]), .inr (0, 30, fillF (fun _ => 0) 3 30), .inl (7, [.ref 21]), .inr (0, 30, fillF (fun _ => 0) 0 30), .inl (7, [.ref 23]), .inr (0, 30, fillF (fun _ => 0) 0 30), .inl (7, [.ref 25]), .inr (0, 30, fillF (fun _ => 0) (-1) 30), .inl (7, [.ref 27]), .inr (0, 30, fillF (fun _ => 0) (-1) 30), .inl (7, [.ref 29]), .inr (0, 30, fillF (fun _ => 0) (-1) 30), .inl (7, [.ref 31]), .inr (0, 30, fillF (fun _ => 0) 0 30), .inl (4, [.ref 33, .ref 35, .ref 37, .ref 39, .ref 41, .ref 43, .ref 45]), .inl (7, [.ref 34]), .inr (0, 120, fillF (fun _ => 0) (-1) 120), .inl (7, [.ref 36]), .inr (0, 120, fillF (fun _ => 0) (-1) 120), .inl (7, [.ref 38]), .inr (0, 120, fillF (fun _ => 0) 0 120), .inl (7, [.ref 40]), .inr (0, 120, fillF (fun _ => 0) (-1) 120), .inl (7, [.ref 42]), .inr (0, 120, fillF (fun _ => 0) 0 120), .inl (7, [.ref 44]), .inr (0, 120, fillF (fun _ => 0) 0 120), .inl (7, [.ref 46]), .inr (0, 24, fillF (fun _ => 0) 0 24), .inl (2, [.ref 48, .ref 50, .ref 52, .ref 54, .int 0]), .inl (7, [.ref 49]), .inr (0, 6, fillF (fun _ => 0) (-1) 6), .inl (7, [.ref 51]), .inr (0, 6, fillF (fun _ => 0) (-1) 6), .inl (7, [.ref 53]), .inr (0, 6, fillF (fun _ => 0) (-1) 6), .inl (7, [.ref 55]), .inr (0, 6, fillF (fun _ => 0) 0 6), .inl (7, [.ref 57]), .inr (0, 6, fillF (fun _ => 0) (-1) 6), .inl (7, [.ref 59]), .inr (0, 8, fillF (fun _ => 0) (-1) 8), .inl (7, [.ref 61]), .inr (0, 8, fillF (fun _ => 0) (-1) 8), .inl (7, [.ref 63]), .inr (0, 6, fillF (fun _ => 0) (-1) 6), .inl (7, [.ref 65]), .inr (0, 6, upd (upd (upd (upd (upd (upd (fillF (fun _ => 0) (-1) 6) 0 0) 1 1) 2 2) 3 3) 4 4) 5 5), .inl (5, [.ref 1, .int 0, .int 0]), .inl (8, [.ref 1, .ref 66, .ref 76, .ref 68, .ref 70, .ref 72, .ref 74, .int 0, .int 0, .int 0]), .inl (7, [.ref 69]), .inr (0, 6, fillF (fun _ => 0) (-1) 6), .inl (7, [.ref 71]), .inr (0, 30, fillF (fun _ => 0) (-1) 30), .inl (7, [.ref 73]), .inr (0, 6, fillF (fun _ => 0) 0 6), .inl (7, [.ref 75]), .inr (0, 6, fillF (fun _ => 0) 0 6), .inl (1, [.ref 1, .ref 77, .ref 79]), .inl (7, [.ref 78]), .inr (0, 6, fillF (fun _ => 0) (-1) 6), .inl (7, [.ref 80]), .inr (0, 6, fillF (fun _ => 0) 0 6), .inl (0, [.ref 1, .ref 66, .ref 84, .ref 82]), .inl (7, [.ref 83]), .inr (0, 6, fillF (fun _ => 0) (-1) 6), .inl (1, [.ref 1, .ref 85, .ref 87]), .inl (7, [.ref 86]), .inr (0, 6, fillF (fun _ => 0) (-1) 6), .inl (7, [.ref 88]), .inr (0, 6, fillF (fun _ => 0) 0 6)] := by
  refine cg_of (by decide) (by simp [Value.category]) (by simp) (fun X ρ0 hl hX0 hG hnm hR hQ hr => ?_)
  have hX : CGX X cX0_init 3 RX0 := ⟨hX0, hG⟩
  have hi := hnm rfl
  refine g_al hX dX0_init_0 rfl rfl rfl ?_
  refine g_obj hX ob_X0_3 rfl (by rw [hR]; exact Nat.le_of_ble_eq_true rfl) (by rw [hR]; exact Nat.le_of_ble_eq_true rfl) dX0_init_1 rfl ?_
  refine g_al hX dX0_init_4 rfl rfl rfl ?_
  refine g_new (q9 := 82) rfl hX nw_X0_9 rfl rfl rfl (Nat.le_of_ble_eq_true rfl) ⟨by rw [hR]; exact Nat.le_of_ble_eq_true rfl, by rw [hR]; exact Nat.le_of_ble_eq_true rfl⟩ dX0_init_5 rfl ?_
  refine g_dup hX dX0_init_8 rfl rfl ?_
  refine g_bi 6 hX dX0_init_9 (by decide) rfl ?_
  refine g_ic (-1) hX dX0_init_11 (by decide) rfl ?_
  refine g_callI hX (bg 362 (by decide +kernel) rfl) (bg 59 (by decide +kernel) rfl) (bg 19 (by decide +kernel) rfl) (bg 60 (by decide +kernel) rfl) rfl ⟨by decide +kernel, by decide +kernel, by decide +kernel⟩ (cg_row _ 82 6 6 (-1) _ _ (by decide) (by decide) (by decide) rfl rfl rfl) rfl rfl ⟨by rw [hR]; exact Nat.le_of_ble_eq_true rfl, by rw [hR]; exact Nat.le_of_ble_eq_true rfl, by rw [hR]; exact Nat.le_of_ble_eq_true rfl, by rw [hR]; exact Nat.le_of_ble_eq_true rfl⟩ (Nat.le_of_ble_eq_true rfl) rfl rfl rfl (Nat.le_of_ble_eq_true rfl) dX0_init_12 rfl ?_
  refine g_put hX hi fg_X0_14 (fun _ => ⟨rfl, rfl⟩) (p := 81) rfl (Nat.le_of_ble_eq_true rfl) dX0_init_15 rfl ?_
  refine g_al hX dX0_init_18 rfl rfl rfl ?_
  refine g_al hX dX0_init_19 rfl rfl rfl ?_
  refine g_put hX hi fg_X0_20 (fun _ => ⟨rfl, rfl⟩) (p := 81) rfl (Nat.le_of_ble_eq_true rfl) dX0_init_20 rfl ?_
  refine g_al hX dX0_init_23 rfl rfl rfl ?_
  refine g_al hX dX0_init_24 rfl rfl rfl ?_
  refine g_put hX hi fg_X0_24 (fun _ => ⟨rfl, rfl⟩) (p := 81) rfl (Nat.le_of_ble_eq_true rfl) dX0_init_25 rfl ?_
  refine g_al hX dX0_init_28 rfl rfl rfl ?_
  refine g_new (q9 := 84) rfl hX nw_X0_28 rfl rfl rfl (Nat.le_of_ble_eq_true rfl) ⟨by rw [hR]; exact Nat.le_of_ble_eq_true rfl, by rw [hR]; exact Nat.le_of_ble_eq_true rfl⟩ dX0_init_29 rfl ?_
  refine g_dup hX dX0_init_32 rfl rfl ?_
  refine g_al hX dX0_init_33 rfl rfl rfl ?_
  refine g_callI hX (bg 364 (by decide +kernel) rfl) (bg 305 (by decide +kernel) rfl) (bg 26 (by decide +kernel) rfl) (bg 306 (by decide +kernel) rfl) rfl ⟨by decide +kernel, by decide +kernel, by decide +kernel⟩ (cg_X1_init_1 _) rfl rfl ⟨by rw [hR]; exact Nat.le_of_ble_eq_true rfl, by rw [hR]; exact Nat.le_of_ble_eq_true rfl, by rw [hR]; exact Nat.le_of_ble_eq_true rfl, by rw [hR]; exact Nat.le_of_ble_eq_true rfl⟩ (Nat.le_of_ble_eq_true rfl) rfl rfl rfl (Nat.le_of_ble_eq_true rfl) dX0_init_34 rfl ?_
  refine g_put hX hi fg_X0_33 (fun _ => ⟨rfl, rfl⟩) (p := 81) rfl (Nat.le_of_ble_eq_true rfl) dX0_init_37 rfl ?_
  exact g_ret hX hQ hr rfl dX0_init_40

set_option maxRecDepth 100000 in
set_option maxHeartbeats 4000000 in
theorem cg_X3_init_0 (l : Launch) : CG l yX3_init cX3_init 1 2 45 4 14 [.ref 89]
  [.inl (11, [.ref 1, .ref 66, .ref 67, .ref 81, .null]), .inl (10, [.ref 2, .ref 17, .ref 32, .ref 47, .ref 56, .ref 58, .ref 60, .ref 62, .ref 64, .int 0, .int 0]), .inl (9, [.ref 3, .ref 5, .ref 7, .ref 9, .ref 11, .ref 13, .ref 15, .int 0, .int 0, .int 0, .int 0]), .inl (7, [.ref 4]), .inr (0, 24, fillF (fun _ => 0) (-1) 24), .inl (7, [.ref 6]), .inr (0, 24, fillF (fun _ => 0) (-1) 24), .inl (7, [.ref 8]), .inr (0, 24, fillF (fun _ => 0) (-1) 24), .inl (7, [.ref 10]), .inr (0, 24, fillF (fun _ => 0) 7 24), .inl (7, [.ref 12]), .inr (0, 72, fillF (fun _ => 0) 0 72), .inl (7, [.ref 14]), .inr (0, 24, fillF (fun _ => 0) (-1) 24), .inl (7, [.ref 16]), .inr (0, 6, fillF (fun _ => 0) 0 6), .inl (6, [.ref 18, .ref 20, .ref 22, .ref 24, .ref 26, .ref 28, .ref 30, .int 0]), .inl (7, [.ref 19]), .inr (0, 30, fillF (fun _ => 0) 3 30), .inl (7, [.ref 21]), .inr (0, 30, fillF (fun _ => 0) 0 30), .inl (7, [.ref 23]), .inr (0, 30, fillF (fun _ => 0) 0 30), .inl (7, [.ref 25]), .inr (0, 30, fillF (fun _ => 0) (-1) 30), .inl (7, [.ref 27]), .inr (0, 30, fillF (fun _ => 0) (-1) 30), .inl (7, [.ref 29]), .inr (0, 30, fillF (fun _ => 0) (-1) 30), .inl (7, [.ref 31]), .inr (0, 30, fillF (fun _ => 0) 0 30), .inl (4, [.ref 33, .ref 35, .ref 37, .ref 39, .ref 41, .ref 43, .ref 45]), .inl (7, [.ref 34]), .inr (0, 120, fillF (fun _ => 0) (-1) 120), .inl (7, [.ref 36]), .inr (0, 120, fillF (fun _ => 0) (-1) 120), .inl (7, [.ref 38]), .inr (0, 120, fillF (fun _ => 0) 0 120), .inl (7, [.ref 40]), .inr (0, 120, fillF (fun _ => 0) (-1) 120), .inl (7, [.ref 42]), .inr (0, 120, fillF (fun _ => 0) 0 120), .inl (7, [.ref 44]), .inr (0, 120, fillF (fun _ => 0) 0 120), .inl (7, [.ref 46]), .inr (0, 24, fillF (fun _ => 0) 0 24), .inl (2, [.ref 48, .ref 50, .ref 52, .ref 54, .int 0]), .inl (7, [.ref 49]), .inr (0, 6, fillF (fun _ => 0) (-1) 6), .inl (7, [.ref 51]), .inr (0, 6, fillF (fun _ => 0) (-1) 6), .inl (7, [.ref 53]), .inr (0, 6, fillF (fun _ => 0) (-1) 6), .inl (7, [.ref 55]), .inr (0, 6, fillF (fun _ => 0) 0 6), .inl (7, [.ref 57]), .inr (0, 6, fillF (fun _ => 0) (-1) 6), .inl (7, [.ref 59]), .inr (0, 8, fillF (fun _ => 0) (-1) 8), .inl (7, [.ref 61]), .inr (0, 8, fillF (fun _ => 0) (-1) 8), .inl (7, [.ref 63]), .inr (0, 6, fillF (fun _ => 0) (-1) 6), .inl (7, [.ref 65]), .inr (0, 6, upd (upd (upd (upd (upd (upd (fillF (fun _ => 0) (-1) 6) 0 0) 1 1) 2 2) 3 3) 4 4) 5 5), .inl (5, [.ref 1, .int 0, .int 0]), .inl (8, [.ref 1, .ref 66, .ref 76, .ref 68, .ref 70, .ref 72, .ref 74, .int 0, .int 0, .int 0]), .inl (7, [.ref 69]), .inr (0, 6, fillF (fun _ => 0) (-1) 6), .inl (7, [.ref 71]), .inr (0, 30, fillF (fun _ => 0) (-1) 30), .inl (7, [.ref 73]), .inr (0, 6, fillF (fun _ => 0) 0 6), .inl (7, [.ref 75]), .inr (0, 6, fillF (fun _ => 0) 0 6), .inl (1, [.ref 1, .ref 77, .ref 79]), .inl (7, [.ref 78]), .inr (0, 6, fillF (fun _ => 0) (-1) 6), .inl (7, [.ref 80]), .inr (0, 6, fillF (fun _ => 0) 0 6), .inl (0, [.ref 1, .ref 66, .ref 84, .ref 82]), .inl (7, [.ref 83]), .inr (0, 6, fillF (fun _ => 0) (-1) 6), .inl (1, [.ref 1, .ref 85, .ref 87]), .inl (7, [.ref 86]), .inr (0, 6, fillF (fun _ => 0) (-1) 6), .inl (7, [.ref 88]), .inr (0, 6, fillF (fun _ => 0) 0 6), .inl (3, [.null, .null])]
  [.inl (11, [.ref 1, .ref 66, .ref 67, .ref 81, .null]), .inl (10, [.ref 2, .ref 17, .ref 32, .ref 47, .ref 56, .ref 58, .ref 60, .ref 62, .ref 64, .int 0, .int 0]), .inl (9, [.ref 3, .ref 5, .ref 7, .ref 9, .ref 11, .ref 13, .ref 15, .int 0, .int 0, .int 0, .int 0]), .inl (7, [.ref 4]), .inr (0, 24, fillF (fun _ => 0) (-1) 24), .inl (7, [.ref 6]), .inr (0, 24, fillF (fun _ => 0) (-1) 24), .inl (7, [.ref 8]), .inr (0, 24, fillF (fun _ => 0) (-1) 24), .inl (7, [.ref 10]), .inr (0, 24, fillF (fun _ => 0) 7 24), .inl (7, [.ref 12]), .inr (0, 72, fillF (fun _ => 0) 0 72), .inl (7, [.ref 14]), .inr (0, 24, fillF (fun _ => 0) (-1) 24), .inl (7, [.ref 16]), .inr (0, 6, fillF (fun _ => 0) 0 6), .inl (6, [.ref 18, .ref 20, .ref 22, .ref 24, .ref 26, .ref 28, .ref 30, .int 0]), .inl (7, [.ref 19]), .inr (0, 30, fillF (fun _ => 0) 3 30), .inl (7, [.ref 21]), .inr (0, 30, fillF (fun _ => 0) 0 30), .inl (7, [.ref 23]), .inr (0, 30, fillF (fun _ => 0) 0 30), .inl (7, [.ref 25]), .inr (0, 30, fillF (fun _ => 0) (-1) 30), .inl (7, [.ref 27]), .inr (0, 30, fillF (fun _ => 0) (-1) 30), .inl (7, [.ref 29]), .inr (0, 30, fillF (fun _ => 0) (-1) 30), .inl (7, [.ref 31]), .inr (0, 30, fillF (fun _ => 0) 0 30), .inl (4, [.ref 33, .ref 35, .ref 37, .ref 39, .ref 41, .ref 43, .ref 45]), .inl (7, [.ref 34]), .inr (0, 120, fillF (fun _ => 0) (-1) 120), .inl (7, [.ref 36]), .inr (0, 120, fillF (fun _ => 0) (-1) 120), .inl (7, [.ref 38]), .inr (0, 120, fillF (fun _ => 0) 0 120), .inl (7, [.ref 40]), .inr (0, 120, fillF (fun _ => 0) (-1) 120), .inl (7, [.ref 42]), .inr (0, 120, fillF (fun _ => 0) 0 120), .inl (7, [.ref 44]), .inr (0, 120, fillF (fun _ => 0) 0 120), .inl (7, [.ref 46]), .inr (0, 24, fillF (fun _ => 0) 0 24), .inl (2, [.ref 48, .ref 50, .ref 52, .ref 54, .int 0]), .inl (7, [.ref 49]), .inr (0, 6, fillF (fun _ => 0) (-1) 6), .inl (7, [.ref 51]), .inr (0, 6, fillF (fun _ => 0) (-1) 6), .inl (7, [.ref 53]), .inr (0, 6, fillF (fun _ => 0) (-1) 6), .inl (7, [.ref 55]), .inr (0, 6, fillF (fun _ => 0) 0 6), .inl (7, [.ref 57]), .inr (0, 6, fillF (fun _ => 0) (-1) 6), .inl (7, [.ref 59]), .inr (0, 8, fillF (fun _ => 0) (-1) 8), .inl (7, [.ref 61]), .inr (0, 8, fillF (fun _ => 0) (-1) 8), .inl (7, [.ref 63]), .inr (0, 6, fillF (fun _ => 0) (-1) 6), .inl (7, [.ref 65]), .inr (0, 6, upd (upd (upd (upd (upd (upd (fillF (fun _ => 0) (-1) 6) 0 0) 1 1) 2 2) 3 3) 4 4) 5 5), .inl (5, [.ref 1, .int 0, .int 0]), .inl (8, [.ref 1, .ref 66, .ref 76, .ref 68, .ref 70, .ref 72, .ref 74, .int 0, .int 0, .int 0]), .inl (7, [.ref 69]), .inr (0, 6, fillF (fun _ => 0) (-1) 6), .inl (7, [.ref 71]), .inr (0, 30, fillF (fun _ => 0) (-1) 30), .inl (7, [.ref 73]), .inr (0, 6, fillF (fun _ => 0) 0 6), .inl (7, [.ref 75]), .inr (0, 6, fillF (fun _ => 0) 0 6), .inl (1, [.ref 1, .ref 77, .ref 79]), .inl (7, [.ref 78]), .inr (0, 6, fillF (fun _ => 0) (-1) 6), .inl (7, [.ref 80]), .inr (0, 6, fillF (fun _ => 0) 0 6), .inl (0, [.ref 1, .ref 66, .ref 84, .ref 82]), .inl (7, [.ref 83]), .inr (0, 6, fillF (fun _ => 0) (-1) 6), .inl (1, [.ref 1, .ref 85, .ref 87]), .inl (7, [.ref 86]), .inr (0, 6, fillF (fun _ => 0) (-1) 6), .inl (7, [.ref 88]), .inr (0, 6, fillF (fun _ => 0) 0 6), .inl (3, [.ref 90, .ref 92]), .inl (7, [.ref 91]), .inr (0, 6, fillF (fun _ => 0) (-1) 6), .inl (7, [.ref 93]), .inr (0, 6, fillF (fun _ => 0) (-1) 6)] := by
  refine cg_of (by decide) (by simp [Value.category]) (by simp) (fun X ρ0 hl hX0 hG hnm hR hQ hr => ?_)
  have hX : CGX X cX3_init 1 RX3 := ⟨hX0, hG⟩
  have hi := hnm rfl
  refine g_al hX dX3_init_0 rfl rfl rfl ?_
  refine g_obj hX ob_X3_3 rfl (by rw [hR]; exact Nat.le_of_ble_eq_true rfl) (by rw [hR]; exact Nat.le_of_ble_eq_true rfl) dX3_init_1 rfl ?_
  refine g_al hX dX3_init_4 rfl rfl rfl ?_
  refine g_new (q9 := 90) rfl hX nw_X3_9 rfl rfl rfl (Nat.le_of_ble_eq_true rfl) ⟨by rw [hR]; exact Nat.le_of_ble_eq_true rfl, by rw [hR]; exact Nat.le_of_ble_eq_true rfl⟩ dX3_init_5 rfl ?_
  refine g_dup hX dX3_init_8 rfl rfl ?_
  refine g_bi 6 hX dX3_init_9 (by decide) rfl ?_
  refine g_ic (-1) hX dX3_init_11 (by decide) rfl ?_
  refine g_callI hX (bg 386 (by decide +kernel) rfl) (bg 59 (by decide +kernel) rfl) (bg 19 (by decide +kernel) rfl) (bg 60 (by decide +kernel) rfl) rfl ⟨by decide +kernel, by decide +kernel, by decide +kernel⟩ (cg_row _ 90 6 6 (-1) _ _ (by decide) (by decide) (by decide) rfl rfl rfl) rfl rfl ⟨by rw [hR]; exact Nat.le_of_ble_eq_true rfl, by rw [hR]; exact Nat.le_of_ble_eq_true rfl, by rw [hR]; exact Nat.le_of_ble_eq_true rfl, by rw [hR]; exact Nat.le_of_ble_eq_true rfl⟩ (Nat.le_of_ble_eq_true rfl) rfl rfl rfl (Nat.le_of_ble_eq_true rfl) dX3_init_12 rfl ?_
  refine g_put hX hi fg_X3_14 (fun _ => ⟨rfl, rfl⟩) (p := 89) rfl (Nat.le_of_ble_eq_true rfl) dX3_init_15 rfl ?_
  refine g_al hX dX3_init_18 rfl rfl rfl ?_
  refine g_new (q9 := 92) rfl hX nw_X3_9 rfl rfl rfl (Nat.le_of_ble_eq_true rfl) ⟨by rw [hR]; exact Nat.le_of_ble_eq_true rfl, by rw [hR]; exact Nat.le_of_ble_eq_true rfl⟩ dX3_init_19 rfl ?_
  refine g_dup hX dX3_init_22 rfl rfl ?_
  refine g_bi 6 hX dX3_init_23 (by decide) rfl ?_
  refine g_ic (-1) hX dX3_init_25 (by decide) rfl ?_
  refine g_callI hX (bg 386 (by decide +kernel) rfl) (bg 59 (by decide +kernel) rfl) (bg 19 (by decide +kernel) rfl) (bg 60 (by decide +kernel) rfl) rfl ⟨by decide +kernel, by decide +kernel, by decide +kernel⟩ (cg_row _ 92 6 6 (-1) _ _ (by decide) (by decide) (by decide) rfl rfl rfl) rfl rfl ⟨by rw [hR]; exact Nat.le_of_ble_eq_true rfl, by rw [hR]; exact Nat.le_of_ble_eq_true rfl, by rw [hR]; exact Nat.le_of_ble_eq_true rfl, by rw [hR]; exact Nat.le_of_ble_eq_true rfl⟩ (Nat.le_of_ble_eq_true rfl) rfl rfl rfl (Nat.le_of_ble_eq_true rfl) dX3_init_26 rfl ?_
  refine g_put hX hi fg_X3_20 (fun _ => ⟨rfl, rfl⟩) (p := 89) rfl (Nat.le_of_ble_eq_true rfl) dX3_init_29 rfl ?_
  exact g_ret hX hQ hr rfl dX3_init_32

set_option maxRecDepth 100000 in
set_option maxHeartbeats 4000000 in
theorem cg_X11_init_0 (l : Launch) : CG l yX11_init cX11_init 3 4 88 93 1408 [.ref 0]
  [.inl (11, [.null, .null, .null, .null, .null])]
  [.inl (11, [.ref 1, .ref 66, .ref 67, .ref 81, .ref 89]), .inl (10, [.ref 2, .ref 17, .ref 32, .ref 47, .ref 56, .ref 58, .ref 60, .ref 62, .ref 64, .int 0, .int 0]), .inl (9, [.ref 3, .ref 5, .ref 7, .ref 9, .ref 11, .ref 13, .ref 15, .int 0, .int 0, .int 0, .int 0]), .inl (7, [.ref 4]), .inr (0, 24, fillF (fun _ => 0) (-1) 24), .inl (7, [.ref 6]), .inr (0, 24, fillF (fun _ => 0) (-1) 24), .inl (7, [.ref 8]), .inr (0, 24, fillF (fun _ => 0) (-1) 24), .inl (7, [.ref 10]), .inr (0, 24, fillF (fun _ => 0) 7 24), .inl (7, [.ref 12]), .inr (0, 72, fillF (fun _ => 0) 0 72), .inl (7, [.ref 14]), .inr (0, 24, fillF (fun _ => 0) (-1) 24), .inl (7, [.ref 16]), .inr (0, 6, fillF (fun _ => 0) 0 6), .inl (6, [.ref 18, .ref 20, .ref 22, .ref 24, .ref 26, .ref 28, .ref 30, .int 0]), .inl (7, [.ref 19]), .inr (0, 30, fillF (fun _ => 0) 3 30), .inl (7, [.ref 21]), .inr (0, 30, fillF (fun _ => 0) 0 30), .inl (7, [.ref 23]), .inr (0, 30, fillF (fun _ => 0) 0 30), .inl (7, [.ref 25]), .inr (0, 30, fillF (fun _ => 0) (-1) 30), .inl (7, [.ref 27]), .inr (0, 30, fillF (fun _ => 0) (-1) 30), .inl (7, [.ref 29]), .inr (0, 30, fillF (fun _ => 0) (-1) 30), .inl (7, [.ref 31]), .inr (0, 30, fillF (fun _ => 0) 0 30), .inl (4, [.ref 33, .ref 35, .ref 37, .ref 39, .ref 41, .ref 43, .ref 45]), .inl (7, [.ref 34]), .inr (0, 120, fillF (fun _ => 0) (-1) 120), .inl (7, [.ref 36]), .inr (0, 120, fillF (fun _ => 0) (-1) 120), .inl (7, [.ref 38]), .inr (0, 120, fillF (fun _ => 0) 0 120), .inl (7, [.ref 40]), .inr (0, 120, fillF (fun _ => 0) (-1) 120), .inl (7, [.ref 42]), .inr (0, 120, fillF (fun _ => 0) 0 120), .inl (7, [.ref 44]), .inr (0, 120, fillF (fun _ => 0) 0 120), .inl (7, [.ref 46]), .inr (0, 24, fillF (fun _ => 0) 0 24), .inl (2, [.ref 48, .ref 50, .ref 52, .ref 54, .int 0]), .inl (7, [.ref 49]), .inr (0, 6, fillF (fun _ => 0) (-1) 6), .inl (7, [.ref 51]), .inr (0, 6, fillF (fun _ => 0) (-1) 6), .inl (7, [.ref 53]), .inr (0, 6, fillF (fun _ => 0) (-1) 6), .inl (7, [.ref 55]), .inr (0, 6, fillF (fun _ => 0) 0 6), .inl (7, [.ref 57]), .inr (0, 6, fillF (fun _ => 0) (-1) 6), .inl (7, [.ref 59]), .inr (0, 8, fillF (fun _ => 0) (-1) 8), .inl (7, [.ref 61]), .inr (0, 8, fillF (fun _ => 0) (-1) 8), .inl (7, [.ref 63]), .inr (0, 6, fillF (fun _ => 0) (-1) 6), .inl (7, [.ref 65]), .inr (0, 6, upd (upd (upd (upd (upd (upd (fillF (fun _ => 0) (-1) 6) 0 0) 1 1) 2 2) 3 3) 4 4) 5 5), .inl (5, [.ref 1, .int 0, .int 0]), .inl (8, [.ref 1, .ref 66, .ref 76, .ref 68, .ref 70, .ref 72, .ref 74, .int 0, .int 0, .int 0]), .inl (7, [.ref 69]), .inr (0, 6, fillF (fun _ => 0) (-1) 6), .inl (7, [.ref 71]), .inr (0, 30, fillF (fun _ => 0) (-1) 30), .inl (7, [.ref 73]), .inr (0, 6, fillF (fun _ => 0) 0 6), .inl (7, [.ref 75]), .inr (0, 6, fillF (fun _ => 0) 0 6), .inl (1, [.ref 1, .ref 77, .ref 79]), .inl (7, [.ref 78]), .inr (0, 6, fillF (fun _ => 0) (-1) 6), .inl (7, [.ref 80]), .inr (0, 6, fillF (fun _ => 0) 0 6), .inl (0, [.ref 1, .ref 66, .ref 84, .ref 82]), .inl (7, [.ref 83]), .inr (0, 6, fillF (fun _ => 0) (-1) 6), .inl (1, [.ref 1, .ref 85, .ref 87]), .inl (7, [.ref 86]), .inr (0, 6, fillF (fun _ => 0) (-1) 6), .inl (7, [.ref 88]), .inr (0, 6, fillF (fun _ => 0) 0 6), .inl (3, [.ref 90, .ref 92]), .inl (7, [.ref 91]), .inr (0, 6, fillF (fun _ => 0) (-1) 6), .inl (7, [.ref 93]), .inr (0, 6, fillF (fun _ => 0) (-1) 6)] := by
  refine cg_of (by decide) (by simp [Value.category]) (by simp) (fun X ρ0 hl hX0 hG hnm hR hQ hr => ?_)
  have hX : CGX X cX11_init 3 RX11 := ⟨hX0, hG⟩
  have hi := hnm rfl
  refine g_al hX dX11_init_0 rfl rfl rfl ?_
  refine g_obj hX ob_X11_3 rfl (by rw [hR]; exact Nat.le_of_ble_eq_true rfl) (by rw [hR]; exact Nat.le_of_ble_eq_true rfl) dX11_init_1 rfl ?_
  refine g_new (q9 := 1) rfl hX nw_X11_9 rfl rfl rfl (Nat.le_of_ble_eq_true rfl) ⟨by rw [hR]; exact Nat.le_of_ble_eq_true rfl, by rw [hR]; exact Nat.le_of_ble_eq_true rfl⟩ dX11_init_4 rfl ?_
  refine g_dup hX dX11_init_7 rfl rfl ?_
  refine g_callI hX (bg 46 (by decide +kernel) rfl) (bg 47 (by decide +kernel) rfl) (bg 17 (by decide +kernel) rfl) (bg 48 (by decide +kernel) rfl) rfl ⟨by decide +kernel, by decide +kernel, by decide +kernel⟩ (cg_X10_init_0 _) rfl rfl ⟨by rw [hR]; exact Nat.le_of_ble_eq_true rfl, by rw [hR]; exact Nat.le_of_ble_eq_true rfl, by rw [hR]; exact Nat.le_of_ble_eq_true rfl, by rw [hR]; exact Nat.le_of_ble_eq_true rfl⟩ (Nat.le_of_ble_eq_true rfl) rfl rfl rfl (Nat.le_of_ble_eq_true rfl) dX11_init_8 rfl ?_
  refine g_as hX dX11_init_11 rfl (by simp) rfl ?_
  refine g_new (q9 := 66) rfl hX nw_X11_12 rfl rfl rfl (Nat.le_of_ble_eq_true rfl) ⟨by rw [hR]; exact Nat.le_of_ble_eq_true rfl, by rw [hR]; exact Nat.le_of_ble_eq_true rfl⟩ dX11_init_12 rfl ?_
  refine g_dup hX dX11_init_15 rfl rfl ?_
  refine g_al hX dX11_init_16 rfl rfl rfl ?_
  refine g_callI hX (bg 278 (by decide +kernel) rfl) (bg 279 (by decide +kernel) rfl) (bg 24 (by decide +kernel) rfl) (bg 280 (by decide +kernel) rfl) rfl ⟨by decide +kernel, by decide +kernel, by decide +kernel⟩ (cg_X5_init_0 _) rfl rfl ⟨by rw [hR]; exact Nat.le_of_ble_eq_true rfl, by rw [hR]; exact Nat.le_of_ble_eq_true rfl, by rw [hR]; exact Nat.le_of_ble_eq_true rfl, by rw [hR]; exact Nat.le_of_ble_eq_true rfl⟩ (Nat.le_of_ble_eq_true rfl) rfl rfl rfl (Nat.le_of_ble_eq_true rfl) dX11_init_17 rfl ?_
  refine g_as hX dX11_init_20 rfl (by simp) rfl ?_
  refine g_al hX dX11_init_21 rfl rfl rfl ?_
  refine g_al hX dX11_init_22 rfl rfl rfl ?_
  refine g_put hX hi fg_X11_17 (fun _ => ⟨rfl, rfl⟩) (p := 0) rfl (Nat.le_of_ble_eq_true rfl) dX11_init_23 rfl ?_
  refine g_al hX dX11_init_26 rfl rfl rfl ?_
  refine g_al hX dX11_init_27 rfl rfl rfl ?_
  refine g_put hX hi fg_X11_21 (fun _ => ⟨rfl, rfl⟩) (p := 0) rfl (Nat.le_of_ble_eq_true rfl) dX11_init_28 rfl ?_
  refine g_al hX dX11_init_31 rfl rfl rfl ?_
  refine g_new (q9 := 67) rfl hX nw_X11_25 rfl rfl rfl (Nat.le_of_ble_eq_true rfl) ⟨by rw [hR]; exact Nat.le_of_ble_eq_true rfl, by rw [hR]; exact Nat.le_of_ble_eq_true rfl⟩ dX11_init_32 rfl ?_
  refine g_dup hX dX11_init_35 rfl rfl ?_
  refine g_al hX dX11_init_36 rfl rfl rfl ?_
  refine g_al hX dX11_init_37 rfl rfl rfl ?_
  refine g_callI hX (bg 296 (by decide +kernel) rfl) (bg 297 (by decide +kernel) rfl) (bg 25 (by decide +kernel) rfl) (bg 298 (by decide +kernel) rfl) rfl ⟨by decide +kernel, by decide +kernel, by decide +kernel⟩ (cg_X8_init_0 _) rfl rfl ⟨by rw [hR]; exact Nat.le_of_ble_eq_true rfl, by rw [hR]; exact Nat.le_of_ble_eq_true rfl, by rw [hR]; exact Nat.le_of_ble_eq_true rfl, by rw [hR]; exact Nat.le_of_ble_eq_true rfl⟩ (Nat.le_of_ble_eq_true rfl) rfl rfl rfl (Nat.le_of_ble_eq_true rfl) dX11_init_38 rfl ?_
  refine g_put hX hi fg_X11_30 (fun _ => ⟨rfl, rfl⟩) (p := 0) rfl (Nat.le_of_ble_eq_true rfl) dX11_init_41 rfl ?_
  refine g_al hX dX11_init_44 rfl rfl rfl ?_
  refine g_new (q9 := 81) rfl hX nw_X11_34 rfl rfl rfl (Nat.le_of_ble_eq_true rfl) ⟨by rw [hR]; exact Nat.le_of_ble_eq_true rfl, by rw [hR]; exact Nat.le_of_ble_eq_true rfl⟩ dX11_init_45 rfl ?_
  refine g_dup hX dX11_init_48 rfl rfl ?_
  refine g_al hX dX11_init_49 rfl rfl rfl ?_
  refine g_al hX dX11_init_50 rfl rfl rfl ?_
  refine g_callI hX (bg 357 (by decide +kernel) rfl) (bg 358 (by decide +kernel) rfl) (bg 27 (by decide +kernel) rfl) (bg 359 (by decide +kernel) rfl) rfl ⟨by decide +kernel, by decide +kernel, by decide +kernel⟩ (cg_X0_init_0 _) rfl rfl ⟨by rw [hR]; exact Nat.le_of_ble_eq_true rfl, by rw [hR]; exact Nat.le_of_ble_eq_true rfl, by rw [hR]; exact Nat.le_of_ble_eq_true rfl, by rw [hR]; exact Nat.le_of_ble_eq_true rfl⟩ (Nat.le_of_ble_eq_true rfl) rfl rfl rfl (Nat.le_of_ble_eq_true rfl) dX11_init_51 rfl ?_
  refine g_put hX hi fg_X11_37 (fun _ => ⟨rfl, rfl⟩) (p := 0) rfl (Nat.le_of_ble_eq_true rfl) dX11_init_54 rfl ?_
  refine g_al hX dX11_init_57 rfl rfl rfl ?_
  refine g_new (q9 := 89) rfl hX nw_X11_41 rfl rfl rfl (Nat.le_of_ble_eq_true rfl) ⟨by rw [hR]; exact Nat.le_of_ble_eq_true rfl, by rw [hR]; exact Nat.le_of_ble_eq_true rfl⟩ dX11_init_58 rfl ?_
  refine g_dup hX dX11_init_61 rfl rfl ?_
  refine g_callN hX (by decide +kernel) (bg 382 (by decide +kernel) rfl) (bg 28 (by decide +kernel) rfl) (bg 383 (by decide +kernel) rfl) rfl ⟨by decide +kernel, by decide +kernel, by decide +kernel⟩ (cg_X3_init_0 _) rfl rfl ⟨by rw [hR]; exact Nat.le_of_ble_eq_true rfl, by rw [hR]; exact Nat.le_of_ble_eq_true rfl, by rw [hR]; exact Nat.le_of_ble_eq_true rfl, by rw [hR]; exact Nat.le_of_ble_eq_true rfl⟩ (Nat.le_of_ble_eq_true rfl) rfl rfl rfl (Nat.le_of_ble_eq_true rfl) dX11_init_62 rfl ?_
  refine g_put hX hi fg_X11_44 (fun _ => ⟨rfl, rfl⟩) (p := 0) rfl (Nat.le_of_ble_eq_true rfl) dX11_init_65 rfl ?_
  exact g_ret hX hQ hr rfl dX11_init_68
end
section
def R_law : String := "ResolveriumLaw"
def lw_P (b : Addr) (xs : List Int32) (args : Array Value) (s : State) : Prop := args = #[.ref b] ∧ s.IntsAt b xs ∧ xs.length ≤ 260 ∧ (Jvm.Cond.and given_1 narrow_1).before args s = true
def lw_Q (_ : Array Value) (s : State) (o : Outcome) (t : State) : Prop := o = .returned (some (.int 1)) ∧ Framed s o t [] 288 954
def lw_Z (below : List Frame) (a : Array Value) (s : State) : State → Prop := fun t => ∃ o, t.status = .running ∧ Ended t below o ∧ lw_Q a s o t
def lw_At (p : Program) (s : State) (m : MethodId) (meth : Method) (c : Code) (b L : Nat) (xs : Nat → Int32) : Prop :=
  p.tables.exec = Jvm.exec ∧ c.code = code ∧ meth.sig.returnType = ret ∧ c.maxLocals = 8 ∧ s.vm.findClass R_law = some m.cls ∧ (∀ w ∈ lw_tbl, w.before #[Value.ref b] s = true) ∧ va_X b L xs s s.heap ∧ b < s.heap.size ∧ meth.locks = false ∧ (Jvm.Cond.and given_1 narrow_1).before #[Value.ref b] s = true
theorem lw_pre_spec {args : Array Value} {s : State} (h : (Jvm.Cond.and given_1 narrow_1).before args s = true) (hr : rest_1_c.before args s = true) : ∃ (b : Addr) (xs : List Int32), lw_P b xs args s := by
  have hs := flat_of_before _ h
  have hq := flat_of_before _ hr
  have hc : (Cond.count 1).before args s = true := hs _ (by decide +kernel)
  have harr : (Cond.arrayOf (.arg 0) .int).before args s = true := hs _ (by decide +kernel)
  have hle : (Cond.le (.length (.arg 0)) (.int 260)).before args s = true := hs _ (by decide +kernel)
  have hlen : (Cond.isInt (.length (.arg 0))).before args s = true := hq _ (by decide +kernel)
  have hall : (Cond.all (.arg 0) (.isInt (.elem (.arg 0) (.index 0)))).before args s = true := hq _ (by decide +kernel)
  obtain ⟨b, xs, hb, hx⟩ := State.ints_of_pre rfl harr hlen hall
  have hsm : xs.length < 2 ^ 31 := hx.choose_spec.2.2.2
  have hev : (Term.length (.arg 0)).eval args s none [] s = some (.int xs.length.toInt32) := hx.length_eval hb
  have hv := Cond.le_ints hev (show (Term.int 260).eval args s none [] s = some (.int 260) from rfl)
  have hd : xs.length.toInt32 ≤ 260 := by
    simpa [Cond.before, Cond.holds, hv] using hle
  have hN : xs.length ≤ 260 := (Int32.ofNat_le_ofNat hsm (by decide)).mp (show Int32.ofNat xs.length ≤ Int32.ofNat 260 from hd)
  exact ⟨b, xs, Cond.one_arg hc (show args[0]? = some (.ref b) from hb), hx, hN, h⟩
end
section
/-! ===== the start: the tables' facts, the objects, the loop, the end ===== -/
theorem u_all : ∀ q ∈ vwCl, (∀ w ∈ u_ws q.1 q.2.1 q.2.2, w ∈ BIG) ∧ Cond.instantiable q.1 q.2.2 ∈ BIG := fun q hq => by
  simp only [vwCl, List.mem_cons, List.not_mem_nil, or_false] at hq
  rcases hq with rfl | rfl | rfl | rfl | rfl | rfl | rfl | rfl | rfl | rfl | rfl | rfl
  · exact ⟨bgc_0, bg 356 (by decide +kernel) rfl⟩
  · exact ⟨bgc_1, bg 303 (by decide +kernel) rfl⟩
  · exact ⟨bgc_2, bg 192 (by decide +kernel) rfl⟩
  · exact ⟨bgc_3, bg 380 (by decide +kernel) rfl⟩
  · exact ⟨bgc_4, bg 155 (by decide +kernel) rfl⟩
  · exact ⟨bgc_5, bg 277 (by decide +kernel) rfl⟩
  · exact ⟨bgc_6, bg 120 (by decide +kernel) rfl⟩
  · exact ⟨bgc_7, bg 57 (by decide +kernel) rfl⟩
  · exact ⟨bgc_8, bg 295 (by decide +kernel) rfl⟩
  · exact ⟨bgc_9, bg 51 (by decide +kernel) rfl⟩
  · exact ⟨bgc_10, bg 45 (by decide +kernel) rfl⟩
  · exact ⟨bgc_11, bg 37 (by decide +kernel) rfl⟩
theorem st_arr {args : Array Value} {s : State} {ty : FieldType} (hty : ∀ C, ty ≠ .object C) (h : (Cond.arrayClass ty).before args s = true) : ∃ cA : ClassId, ArrOfT s cA ty ∧ va_RA s cA ty := by
  obtain ⟨cA, kA, comp, h1, h2, h3⟩ := Cond.arrayClass_spec h
  refine ⟨cA, fun n z => ⟨fun k h => (by cases h), kA, h2, comp, h3⟩, ?_⟩
  cases ty <;> first | exact h1 | exact absurd rfl (hty _)
theorem st_known {args : Array Value} {s : State} (hts : ∀ w ∈ BIG, w.before args s = true) : ∃ D : va_G, ∀ (c : Nat) (q : vw_C), vwCl[c]? = some q → u_Kn s q.1 q.2.1 q.2.2 (D.1 c) (D.2 c) := by
  have h : ∀ c : Nat, ∃ z : ClassId × (Nat → Nat), ∀ q : vw_C, vwCl[c]? = some q → u_Kn s q.1 q.2.1 q.2.2 z.1 z.2 := by
    intro c
    cases hc : vwCl[c]? with
    | none => exact ⟨(0, fun _ => 0), fun q hq => by cases hq⟩
    | some q =>
      obtain ⟨h1, h2⟩ := u_all q (List.mem_of_getElem? hc)
      obtain ⟨cC, iS, hk⟩ := u_known hts h1 (hts _ h2)
      exact ⟨(cC, iS), fun q' hq' => by cases hq'; exact hk⟩
  exact ⟨(fun c => (Classical.choose (h c)).1, fun c => (Classical.choose (h c)).2), fun c q hq => Classical.choose_spec (h c) q hq⟩

def W1L : List GE := [.inl (11, [.ref 1, .ref 66, .ref 67, .ref 81, .ref 89]), .inl (10, [.ref 2, .ref 17, .ref 32, .ref 47, .ref 56, .ref 58, .ref 60, .ref 62, .ref 64, .int 0, .int 0]), .inl (9, [.ref 3, .ref 5, .ref 7, .ref 9, .ref 11, .ref 13, .ref 15, .int 0, .int 0, .int 0, .int 0]), .inl (7, [.ref 4]), .inr (0, 24, fillF (fun _ => 0) (-1) 24), .inl (7, [.ref 6]), .inr (0, 24, fillF (fun _ => 0) (-1) 24), .inl (7, [.ref 8]), .inr (0, 24, fillF (fun _ => 0) (-1) 24), .inl (7, [.ref 10]), .inr (0, 24, fillF (fun _ => 0) 7 24), .inl (7, [.ref 12]), .inr (0, 72, fillF (fun _ => 0) 0 72), .inl (7, [.ref 14]), .inr (0, 24, fillF (fun _ => 0) (-1) 24), .inl (7, [.ref 16]), .inr (0, 6, fillF (fun _ => 0) 0 6), .inl (6, [.ref 18, .ref 20, .ref 22, .ref 24, .ref 26, .ref 28, .ref 30, .int 0]), .inl (7, [.ref 19]), .inr (0, 30, fillF (fun _ => 0) 3 30), .inl (7, [.ref 21]), .inr (0, 30, fillF (fun _ => 0) 0 30), .inl (7, [.ref 23]), .inr (0, 30, fillF (fun _ => 0) 0 30), .inl (7, [.ref 25]), .inr (0, 30, fillF (fun _ => 0) (-1) 30), .inl (7, [.ref 27]), .inr (0, 30, fillF (fun _ => 0) (-1) 30), .inl (7, [.ref 29]), .inr (0, 30, fillF (fun _ => 0) (-1) 30), .inl (7, [.ref 31]), .inr (0, 30, fillF (fun _ => 0) 0 30), .inl (4, [.ref 33, .ref 35, .ref 37, .ref 39, .ref 41, .ref 43, .ref 45]), .inl (7, [.ref 34]), .inr (0, 120, fillF (fun _ => 0) (-1) 120), .inl (7, [.ref 36]), .inr (0, 120, fillF (fun _ => 0) (-1) 120), .inl (7, [.ref 38]), .inr (0, 120, fillF (fun _ => 0) 0 120), .inl (7, [.ref 40]), .inr (0, 120, fillF (fun _ => 0) (-1) 120), .inl (7, [.ref 42]), .inr (0, 120, fillF (fun _ => 0) 0 120), .inl (7, [.ref 44]), .inr (0, 120, fillF (fun _ => 0) 0 120), .inl (7, [.ref 46]), .inr (0, 24, fillF (fun _ => 0) 0 24), .inl (2, [.ref 48, .ref 50, .ref 52, .ref 54, .int 0]), .inl (7, [.ref 49]), .inr (0, 6, fillF (fun _ => 0) (-1) 6), .inl (7, [.ref 51]), .inr (0, 6, fillF (fun _ => 0) (-1) 6), .inl (7, [.ref 53]), .inr (0, 6, fillF (fun _ => 0) (-1) 6), .inl (7, [.ref 55]), .inr (0, 6, fillF (fun _ => 0) 0 6), .inl (7, [.ref 57]), .inr (0, 6, fillF (fun _ => 0) (-1) 6), .inl (7, [.ref 59]), .inr (0, 8, fillF (fun _ => 0) (-1) 8), .inl (7, [.ref 61]), .inr (0, 8, fillF (fun _ => 0) (-1) 8), .inl (7, [.ref 63]), .inr (0, 6, fillF (fun _ => 0) (-1) 6), .inl (7, [.ref 65]), .inr (0, 6, upd (upd (upd (upd (upd (upd (fillF (fun _ => 0) (-1) 6) 0 0) 1 1) 2 2) 3 3) 4 4) 5 5), .inl (5, [.ref 1, .int 0, .int 0]), .inl (8, [.ref 1, .ref 66, .ref 76, .ref 68, .ref 70, .ref 72, .ref 74, .int 0, .int 0, .int 0]), .inl (7, [.ref 69]), .inr (0, 6, fillF (fun _ => 0) (-1) 6), .inl (7, [.ref 71]), .inr (0, 30, fillF (fun _ => 0) (-1) 30), .inl (7, [.ref 73]), .inr (0, 6, fillF (fun _ => 0) 0 6), .inl (7, [.ref 75]), .inr (0, 6, fillF (fun _ => 0) 0 6), .inl (1, [.ref 1, .ref 77, .ref 79]), .inl (7, [.ref 78]), .inr (0, 6, fillF (fun _ => 0) (-1) 6), .inl (7, [.ref 80]), .inr (0, 6, fillF (fun _ => 0) 0 6), .inl (0, [.ref 1, .ref 66, .ref 84, .ref 82]), .inl (7, [.ref 83]), .inr (0, 6, fillF (fun _ => 0) (-1) 6), .inl (1, [.ref 1, .ref 85, .ref 87]), .inl (7, [.ref 86]), .inr (0, 6, fillF (fun _ => 0) (-1) 6), .inl (7, [.ref 88]), .inr (0, 6, fillF (fun _ => 0) 0 6), .inl (3, [.ref 90, .ref 92]), .inl (7, [.ref 91]), .inr (0, 6, fillF (fun _ => 0) (-1) 6), .inl (7, [.ref 93]), .inr (0, 6, fillF (fun _ => 0) (-1) 6)]
theorem nest_in : ∀ q ∈ nestL, Cond.methodLinkNest q.1 q.2.1 q.2.2 RX11 ∈ lw_tbl := by decide +kernel
theorem nestG_in : ∀ q ∈ nestG, Cond.methodLinkNest q.1 q.2.1 q.2.2 RX11 ∈ lw_tbl := by decide +kernel
end
section
/-! ===== the claim's room (288 cells, 954 slots) is smaller than what the law's first object takes (94 cells, 1413 slots) ===== -/
/-- a room that holds one object: what the walk below takes of a larger machine -/
def room_b : Room := { frames := 11, cells := 1000, slots := 10000, locals := 432 }
theorem set_sum : ∀ (M : List Nat) (i k : Nat), M[i]? = some k → (M.set i 0).sum + k = M.sum
  | [], i, k, h => by simp at h
  | a :: t, 0, k, h => by
    have h : a = k := by simpa using h
    subst h
    simp only [List.set_cons_zero, List.sum_cons]
    omega
  | a :: t, i + 1, k, h => by
    have := set_sum t i k (by simpa using h)
    simp only [List.set_cons_succ, List.sum_cons]
    omega
theorem many_sum : ∀ (ps : List (Nat × Nat)) (M : List Nat), (∀ (i j : Nat) (p q : Nat × Nat), ps[i]? = some p → ps[j]? = some q → p.1 = q.1 → i = j) → (∀ (i : Nat) (p : Nat × Nat), ps[i]? = some p → ∃ k, M[p.1]? = some k ∧ p.2 ≤ k) → (ps.map Prod.snd).sum ≤ M.sum
  | [], M, _, _ => by simp
  | p :: t, M, hd, hm => by
    obtain ⟨k, hk, hle⟩ := hm 0 p rfl
    have h1 := set_sum M p.1 k hk
    have h2 := many_sum t (M.set p.1 0) (fun i j a b ha hb e => by
      have := hd (i + 1) (j + 1) a b (by simpa using ha) (by simpa using hb) e
      omega) (fun i q hq => by
      obtain ⟨k', hk', hle'⟩ := hm (i + 1) q (by simpa using hq)
      have hne : p.1 ≠ q.1 := fun e => by
        have := hd 0 (i + 1) p q rfl (by simpa using hq) e
        omega
      refine ⟨k', ?_, hle'⟩
      rw [List.getElem?_set, if_neg hne]
      exact hk')
    simp only [List.map_cons, List.sum_cons]
    omega
def szE (q : Nat × va_E) : Nat := match q.2 with
  | .inl a => a.2.1
  | .inr _ => 0
theorem cell_size (cA : ClassId) (x : vp_A) : (vp_cell cA x).slots.size = x.1 := by
  obtain ⟨n, f | f | f | f | f⟩ := x <;> exact arrV_size _ _ _
/-- the arrays of a world that lies behind n take so many slots there -/
theorem world_sum {D : va_G} {cl : List vw_C} {ws : va_W} {H : Heap} {n : Nat} (hP : va_P D cl ws H) (hD : va_D (fun q => n ≤ q) ws) : (ws.map szE).sum ≤ ((H.toList.drop n).map (·.slots.size)).sum := by
  have key := many_sum (ws.map fun q => (q.1 - n, szE q)) ((H.toList.drop n).map (·.slots.size)) (fun i j p q hi hj e => ?_) (fun i p hi => ?_)
  · rw [List.map_map] at key
    exact key
  · rw [List.getElem?_map] at hi hj
    obtain ⟨p', hp', rfl⟩ := Option.map_eq_some_iff.mp hi
    obtain ⟨q', hq', rfl⟩ := Option.map_eq_some_iff.mp hj
    have h1 : n ≤ p'.1 := hD.2 i p' hp'
    have h2 : n ≤ q'.1 := hD.2 j q' hq'
    have e : p'.1 - n = q'.1 - n := e
    exact hD.1 i j p' q' hp' hq' (by omega)
  · rw [List.getElem?_map] at hi
    obtain ⟨p', hp', rfl⟩ := Option.map_eq_some_iff.mp hi
    have h1 : n ≤ p'.1 := hD.2 i p' hp'
    have h2 := hP i p' hp'
    have hlt := h2.lt
    have hget : ((H.toList.drop n).map (·.slots.size))[p'.1 - n]? = (H[p'.1]?).map (·.slots.size) := by
      rw [List.getElem?_map, List.getElem?_drop, show n + (p'.1 - n) = p'.1 by omega, Array.getElem?_toList]
    obtain ⟨a, e⟩ := p'
    cases e with
    | inl x =>
      have h2 : H[a]? = some (vp_cell x.1 x.2) := h2
      refine ⟨(vp_cell x.1 x.2).slots.size, ?_, Nat.le_of_eq (cell_size x.1 x.2).symm⟩
      rw [hget, h2]
      rfl
    | inr o =>
      refine ⟨(H[a]'hlt).slots.size, ?_, Nat.zero_le _⟩
      rw [hget, Array.getElem?_eq_getElem hlt]
      rfl
def szG (e : GE) : Nat := match e with
  | .inl _ => 0
  | .inr a => a.2.1
theorem szE_gE (g : GX) (ρ : Nat → Nat) (q : Nat) (e : GE) : szE (q, gE g ρ e) = szG e := by
  rcases e with o | ⟨t, a⟩
  · rfl
  · match t with
    | 0 => rfl
    | _ + 1 => rfl
theorem sz_gwL (g : GX) (ρ : Nat → Nat) : ∀ (L : List GE) (b : Nat), (gwL g ρ b L).map szE = L.map szG
  | [], _ => rfl
  | e :: t, b => by
    simp only [gwL, List.map_cons, szE_gE, sz_gwL g ρ t]
theorem w1_szG : (W1L.map szG).sum = 1300 := by decide +kernel
theorem w1_sum (g : GX) (ρ : Nat → Nat) : ((gw g ρ W1L).map szE).sum = 1300 := by
  rw [sz_gwL]
  exact w1_szG
set_option maxRecDepth 1000000 in
set_option maxHeartbeats 4000000 in
/-- behind the first 'new Resolverium()' of the law: 1300 slots more at the least (its arrays alone) -/
theorem one_object {p : Program} {e : Env} {s : State} {m : MethodId} {below : List Frame} {meth : Method} {c : Code} (l : Launch) {b L : Nat} {xs : Nat → Int32} (C0 : lw_At p s m meth c b L xs) : W p l e room_b s m #[Value.ref b] below meth c s.heap [] 0 0 (fun t => s.slotsUsed + 1300 ≤ t.slotsUsed) (entryFrame m ([Value.ref b] : List Value).toArray 8) := by
  obtain ⟨hx, hb, hr, hml, hown, hts0, hXs, hbl, hlk, hgv⟩ := C0
  have hts : ∀ w ∈ BIG, w.before #[Value.ref b] s = true := fun w h => hts0 w (big_in w h)
  obtain ⟨D, hD⟩ := st_known hts
  obtain ⟨cI, hI1, hI2⟩ := st_arr (ty := .int) (by intro C h; cases h) (hts _ ar_int)
  obtain ⟨g0, hg0⟩ : ∃ g0 : GX, g0 = (D, cI, 0, 0, (fun _ => 0), s.heap.size, fun _ => 0) := ⟨_, rfl⟩
  have hK : va_K D vwCl [(cI, .int)] s := ⟨hD, fun k q hq => by
    match k with
    | 0 => cases hq; exact ⟨hI1, hI2⟩
    | k + 1 => simp at hq⟩
  have hNN : NN s := fun q hq => va_Nw.of rfl (hts0 _ (nest_in q hq))
  have hNG : NG s := fun q hq => va_Nw.of rfl (hts0 _ (nestG_in q hq))
  rw [lg_entry_eq]
  have hl := lv_entry ([Value.ref b]) (n := 8) (Nat.le_of_ble_eq_true rfl)
  generalize (lg_sl ([Value.ref b]) ++ List.replicate (8 - (lg_sl ([Value.ref b])).length) Slot.unset).toArray = ls at hl ⊢
  have hl : lv_has ls 8 [(0, .ref b)] := hl
  have hA : ∀ q, s.heap.size ≤ q → (fun q => s.heap.size ≤ q) q := fun q h => h
  have hP : va_P D vwCl [] s.heap := fun k q h => by simp at h
  have hDD : va_D (fun q => s.heap.size ≤ q) [] := ⟨fun i j p q h => by simp at h, fun k q h => by simp at h⟩
  have hS : va_S (fun q => s.heap.size ≤ q) s.heap s.heap [] := va_S.rf
  refine va_new (ci := 11) (fs := [.null, .null, .null, .null, .null]) (C := RX11) (T := TX11) (N := 5) hx hb hts bgc_11 tyX11 tyX11_ok hown (hts _ (bg 36 (by decide +kernel) rfl)) (hts _ (bg 37 (by decide +kernel) rfl)) (hts _ (bg 16 (by decide +kernel) rfl)) hK hP hDD hS hA rfl (fun j hj => by rcases (show j = 0 ∨ j = 1 ∨ j = 2 ∨ j = 3 ∨ j = 4 by omega) with rfl | rfl | rfl | rfl | rfl <;> rfl) (Nat.le_of_ble_eq_true rfl) (Nat.le_of_ble_eq_true rfl) dL_law_0 (fun q0 H1 hP1 hD1 hS1 => ?_)
  refine lv_dup hx hb dL_law_3 rfl ?_
  have hP1' : va_P (gD g0) vwCl (gw g0 (fun _ => q0) [.inl (11, [.null, .null, .null, .null, .null])]) H1 := by rw [hg0]; exact hP1
  have hD1' : va_D (gA g0) (gw g0 (fun _ => q0) [.inl (11, [.null, .null, .null, .null, .null])]) := by rw [hg0]; exact hD1
  have hHG : ∀ (ρ : Nat → Nat) (ws : List GE) (H : Heap) (locs : List Loc), va_P (gD g0) vwCl (gw g0 ρ ws) H → va_D (gA g0) (gw g0 ρ ws) → va_S (fun q => s.heap.size ≤ q) s.heap H locs → ∀ U : State, U.heap = H → s.WarmedH U.vm → HG g0 ρ ws U := fun ρ ws H locs h1 h2 h3 U hU hW => ⟨by rw [hU]; exact h1, by rw [hg0]; exact va_K.moved hW.alike hK, h2, hNN.warm hW, hNG.warm hW, fun q hq => by rw [hg0]; show s.heap.size ≤ q; have := h3.1; rw [hU] at hq; omega⟩
  have hS1' : va_S (gA g0) s.heap H1 [] := by rw [hg0]; exact hS1
  refine va_callv (va_runI (As := []) (rest := [.ref q0]) (Ts := BIG) ⟨hx, hb, hml, hown, hts⟩ (cg_X11_init_0 l g0 (fun _ => q0)) (cwI 0 hts (big_code (bg 40 (by decide +kernel) rfl)) rfl rfl rfl (hts _ (bg 16 (by decide +kernel) rfl)) (hts _ (bg 38 (by decide +kernel) rfl)) (hts _ (bg 39 (by decide +kernel) rfl)) rfl (by decide +kernel) ⟨Nat.le_of_ble_eq_true rfl, Nat.le_of_ble_eq_true rfl⟩) ⟨HG.blind, fun U hU hW => ⟨rfl, hHG _ _ _ _ hP1' hD1' hS1 U hU hW⟩⟩ rfl rfl hl.1 rfl (lv_room (Nat.le_of_ble_eq_true rfl)) dL_law_4 ⟨Nat.le_of_ble_eq_true rfl, Nat.le_of_ble_eq_true rfl⟩) hS1' (fun q _ h => h) (fun q h => h) (fun ρ2 t H2 locs2 ht hvm hv hB hz hk hS2 => ?_)
  obtain ⟨hP2, hD2⟩ := hB
  rw [ht] at hP2
  have hP2 : va_P (gD g0) vwCl (gw g0 ρ2 W1L) H2 := hP2
  have hD2 : va_D (gA g0) (gw g0 ρ2 W1L) := hD2
  have hD3 : va_D (fun q => s.heap.size ≤ q) (gw g0 ρ2 W1L) := by
    rw [hg0] at hD2 ⊢
    exact hD2
  have hsum := world_sum hP2 hD3
  rw [w1_sum] at hsum
  intro T hT X
  refine ⟨_, Steps.refl _, ?_⟩
  show s.slotsUsed + 1300 ≤ T.slotsUsed
  have h9 : T.slotsUsed = s.slotsUsed + ((T.heap.toList.drop s.heap.size).map (·.slots.size)).sum := X.same.2.2.2.1
  rw [h9, hT]
  omega
set_option maxHeartbeats 4000000 in
/-- from the law's call on: a state of the run in which so much is taken -/
theorem room_run {l : Launch} {p : Program} {e : Env} (ha : l.admits e) (hc : FairCas e.choices) (hk : FairClock e.choices) {s : State} {m : MethodId} {b : Addr} {xs : List Int32} {below : List Frame} (hf : s.frames = .invoking m #[.ref b] :: below)
    (happ : (headSpec (Cond.code x code maxLocals ret :: tables_1) room_b).appliesLoose x e.platform s = true) (hP : lw_P b xs #[.ref b] s) : ∃ t, Steps p.tables e below s t ∧ s.slotsUsed + 1300 ≤ t.slotsUsed := by
  obtain ⟨hrun, hable, halone, hname, hhears, hinit, hroom, hpre⟩ := (Spec.appliesLoose_iff hf).mp happ
  obtain ⟨meth, c, hmeth, hcode, hbytes, hlocals, hret, hlocks, -, -⟩ := Cond.code_spec hname (atoms_spec (ws := Cond.code x code maxLocals ret :: tables_1) hpre _ List.mem_cons_self)
  have hcur := State.cur_lt_of_frames hf
  have hf1 : (s.setFrames (.java (entryFrame m #[.ref b] maxLocals) :: below)).frames = .java (entryFrame m #[.ref b] maxLocals) :: below := State.frames_setFrames _ hcur
  have ht1 := State.topJava?_of_frames hf1
  have hplain : (s.setFrames (.java (entryFrame m #[.ref b] maxLocals) :: below)).plainMethod m := State.plainMethod.of_named (s := s) (plainFor_of_name (by decide)) hname hmeth
  have hAt : At (s.setFrames (.java (entryFrame m #[.ref b] maxLocals) :: below)) m c below :=
    ⟨by rw [ht1]; rfl, ⟨[], by rw [hf1]; rfl⟩, hrun, by simpa using hable, by simpa using halone, by rw [State.code?_eq]; simp [State.setFrames, hmeth, hcode], hplain⟩
  have hstep : (stepThread p.tables e s).1 = (s.setFrames (.java (entryFrame m #[.ref b] maxLocals) :: below)).setTop (entryFrame m #[.ref b] maxLocals) := by
    have hfull : e.platform.stackFull (s.setFrames below).me (s.setFrames below).frames c.maxLocals = false := by
      obtain ⟨-, q1, -, q2⟩ := State.hasRoom_stack hroom
      rw [hf, List.length_cons] at q1
      rw [State.localsInUse_invoking hf hmeth hcode] at q2
      have hw := stackUse_le_stackWeight below
      rw [State.frames_setFrames _ hcur]
      exact Platform.stackFull_eq_false (by rw [State.stackLimits_setFrames]; omega) (by rw [State.stackLimits_setFrames]; omega)
    rw [stepThread_invoking hf, (doInvoke_java (s := s.setFrames below) (e := e) (meth := meth) (code := c) hmeth hcode hlocks hfull).1, State.setTop_self ht1]
    simp only [State.pushFrame, State.frames_setFrames _ hcur, State.setFrames_setFrames, hlocals, entryFrame]
  have B : BodyLoose p l x (headSpec (Cond.code x code maxLocals ret :: tables_1) room_b) code maxLocals ret e s m #[.ref b] below meth c (s.setFrames (.java (entryFrame m #[.ref b] maxLocals) :: below)) :=
    ⟨ha, hc, hk, by cases p <;> rfl, hf, hname, hhears, hinit, hroom, hpre, hmeth, hret, hlocks, hbytes, rfl, hAt⟩
  obtain ⟨-, hxx, hbd, hgv⟩ := hP
  obtain ⟨scr, harrAt, hlist, hof, hsmall⟩ := hxx
  obtain ⟨hcb, hkn, -, -⟩ := State.arrayAt?_spec harrAt
  have hown : s.vm.findClass R_law = some m.cls := findClass_of_methodNamed hname
  have hts0 : ∀ c ∈ (Cond.code x code maxLocals ret :: tables_1), c.before #[Value.ref b] s = true := atoms_spec (ws := Cond.code x code maxLocals ret :: tables_1) hpre
  have hts : ∀ w ∈ lw_tbl, w.before #[Value.ref b] s = true := k2_hts_sels lw_privs (fun w hw => hts0 w (List.mem_cons_of_mem _ hw)) lw_privs_ok
  have X₀ : Stand p l e room_b s m #[Value.ref b] below meth c (s.setFrames (.java (entryFrame m #[.ref b] maxLocals) :: below)) [] 0 0 := Stand.of_body B
  have hsz : scr.slots.size = xs.length := by rw [← Array.length_toList, hlist, List.length_map]
  have hval : ∀ j : Nat, j < xs.length → scr.slots[j]? = some (.int (xs.getD j 0)) := fun j hj => by
    rw [← Array.getElem?_toList, hlist]
    simp [hj]
  have hbl : b < s.heap.size := (Array.getElem?_eq_some_iff.mp hcb).1
  have hX : va_X b xs.length (fun j => xs.getD j 0) s s.heap := ⟨scr, hcb, hof, hkn, hsz, hval⟩
  obtain ⟨t, h1, h2⟩ := one_object (p := p) (e := e) (below := below) l (b := b) (L := xs.length) (xs := fun j => xs.getD j 0) ⟨B.exec, hbytes, hret, hlocals, hown, hts, hX, hbl, hlocks, hgv⟩ (s.setFrames (.java (entryFrame m #[.ref b] maxLocals) :: below)) rfl X₀
  exact ⟨t, Steps.head ⟨hrun, hable, halone⟩ ⟨[.invoking m #[.ref b]], hf, by simp, by simp⟩ (hstep ▸ h1), h2⟩
/-- The claim asks that no more than 954 slots are new at the end of the law's call; but its first object alone takes more. So it is false of every start; and there is a start ('witness_1'). -/
theorem room_falls (hw : WitnessClaimed_1) : ¬ Claimed_1_1 := by
  intro h
  obtain ⟨p, e, s, m, args, below, hL, hW, ha, hle, hc, hk, hf, hfit, hheap, happ, hca, hre, hpr⟩ := hw
  obtain ⟨b, xs, hP⟩ := lw_pre_spec hpr hre
  obtain ⟨rfl, -⟩ := id hP
  obtain ⟨r1, r2, r3, r4, r5, r6, r7, r8⟩ := (Spec.applies_iff hf).mp happ
  obtain ⟨u1, -, u3, -⟩ := State.hasRoom_stack r7
  obtain ⟨l1, l2, l3, l4⟩ := hle
  rw [l1] at u1
  rw [l4] at u3
  have u5 : s.localsInUse + 432 + stackMargin ≤ realStackBytes / 8 := State.hasRoom_real r7
  have u1 : s.frames.length + 11 ≤ launch0.maxFrames := u1
  have u3 : s.localsInUse + 432 ≤ launch0.maxStackSlots - stackMargin := u3
  have htrue : s.slotsTrue = true := by
    simp only [State.hasRoom, Bool.and_eq_true] at r7
    exact r7.2
  obtain ⟨e', he'⟩ : ∃ e' : Env, e' = launch0.env 0 (s.heap.size + 1000) (s.slotsUsed + 10000) := ⟨_, rfl⟩
  have ha' : launch0.admits e' := by rw [he']; exact launch0.admits_env _ _ _
  have hcas : FairCas e'.choices := by rw [he']; exact fairChoices_fair.cas
  have hclk : FairClock e'.choices := by rw [he']; exact fairChoices_fair.clock
  have hroom : ∀ r : Room, r.frames = 11 → r.locals = 432 → r.cells ≤ 1000 → r.slots ≤ 10000 → s.hasRoom e'.platform r = true := fun r q1 q2 q3 q4 => by
    rw [he']
    refine State.hasRoom_of (State.hasRoom_plain r7) ?_ ?_ ?_ ?_ htrue ?_
    · rw [q1]; exact Nat.le_trans u1 (Nat.le_max_left _ _)
    · rw [q2]; exact Nat.le_trans u3 (Nat.le_max_left _ _)
    · exact Nat.le_trans (Nat.add_le_add_left q3 _) (Nat.le_max_right _ _)
    · exact Nat.le_trans (Nat.add_le_add_left q4 _) (Nat.le_max_right _ _)
    · rw [q2]; exact u5
  have happ1 : (headSpec (Cond.code x code maxLocals ret :: tables_1) room_1).applies x e'.platform s = true :=
    (Spec.applies_iff hf).mpr ⟨r1, r2, r3, r4, r5, r6, hroom room_1 rfl rfl (Nat.le_of_ble_eq_true rfl) (Nat.le_of_ble_eq_true rfl), r8⟩
  have hb1 : room_b.frames = 11 := by simp [room_b]
  have hb2 : room_b.locals = 432 := by simp [room_b]
  have hb3 : room_b.cells ≤ 1000 := by simp [room_b]
  have hb4 : room_b.slots ≤ 10000 := by simp [room_b]
  have happb : (headSpec (Cond.code x code maxLocals ret :: tables_1) room_b).applies x e'.platform s = true :=
    (Spec.applies_iff hf).mpr ⟨r1, r2, r3, r4, r5, r6, hroom room_b hb1 hb2 hb3 hb4, r8⟩
  have happ2 : (headSpec (Cond.code x code maxLocals ret :: tables_1) room_b).appliesLoose x e'.platform s = true := ((Spec.applies_iff_loose hf).mp happb).1
  obtain ⟨n, o, h1, h2, h3, h4⟩ := h launch0 rfl hL hW p e' ha' hcas hclk s m #[.ref b] below hf hfit hheap happ1 ⟨trivial, hre, hpr⟩
  have hF : Framed s o (stepsAlone p.tables e' n s) _ 288 954 := h4.2
  have e1 : (stepsAlone p.tables e' n s).slotsUsed = s.slotsUsed + (((stepsAlone p.tables e' n s).heap.toList.drop s.heap.size).map (·.slots.size)).sum := hF.2.2.2.2.2.1
  have e2 : (((stepsAlone p.tables e' n s).heap.toList.drop s.heap.size).map (·.slots.size)).sum ≤ 954 := hF.2.2.2.2.2.2.1
  obtain ⟨t, ⟨k, hk1, hk2⟩, hs⟩ := room_run (p := p) ha' hcas hclk hf happ2 hP
  by_cases hkn : k ≤ n
  · have h9 := (stepsAlone_heap_grows_add p.tables e' k (n - k) s).2
    rw [show k + (n - k) = n by omega, hk1] at h9
    omega
  · exact h3.not_within (hk2 n (by omega))
theorem i_vc_falls (hw : WitnessClaimed_1) : ¬ (Claimed_1_1 ∧ Claimed_1_2) := fun h => room_falls hw h.1
end
