def lw_okq (q : MethodName × Nat) : Prop := (q.1.cls ≠ "java/lang/invoke/MethodHandle" ∧ q.1.cls ≠ "java/lang/invoke/VarHandle") ∧ Cond.instantiable q.1.cls q.2 ∈ tables_1 ∧ Cond.privateMethod q.1 ∈ tables_1 ∧ Cond.instanceMethod q.1 ∈ tables_1
theorem lw_p0 : lw_okq (⟨"SharedRides", "isRequest", "(I)Z"⟩, 6) := ⟨⟨by decide +kernel, by decide +kernel⟩, List.mem_of_getElem? (i := 12) (by decide +kernel), List.mem_of_getElem? (i := 356) (by decide +kernel), List.mem_of_getElem? (i := 357) (by decide +kernel)⟩
theorem lw_p1 : lw_okq (⟨"SharedRides", "routeStillFits", "(I)Z"⟩, 6) := ⟨⟨by decide +kernel, by decide +kernel⟩, List.mem_of_getElem? (i := 12) (by decide +kernel), List.mem_of_getElem? (i := 360) (by decide +kernel), List.mem_of_getElem? (i := 361) (by decide +kernel)⟩
theorem lw_p2 : lw_okq (⟨"SharedRides", "isOpen", "(I)Z"⟩, 6) := ⟨⟨by decide +kernel, by decide +kernel⟩, List.mem_of_getElem? (i := 12) (by decide +kernel), List.mem_of_getElem? (i := 364) (by decide +kernel), List.mem_of_getElem? (i := 365) (by decide +kernel)⟩
theorem lw_p3 : lw_okq (⟨"SharedRides$Timetable", "delayStops", "()Z"⟩, 13) := ⟨⟨by decide +kernel, by decide +kernel⟩, List.mem_of_getElem? (i := 91) (by decide +kernel), List.mem_of_getElem? (i := 379) (by decide +kernel), List.mem_of_getElem? (i := 380) (by decide +kernel)⟩
theorem lw_p4 : lw_okq (⟨"SharedRides$Timetable", "delayPickups", "()Z"⟩, 13) := ⟨⟨by decide +kernel, by decide +kernel⟩, List.mem_of_getElem? (i := 91) (by decide +kernel), List.mem_of_getElem? (i := 383) (by decide +kernel), List.mem_of_getElem? (i := 384) (by decide +kernel)⟩
theorem lw_p5 : lw_okq (⟨"SharedRides$Timetable", "isTooLate", "()Z"⟩, 13) := ⟨⟨by decide +kernel, by decide +kernel⟩, List.mem_of_getElem? (i := 91) (by decide +kernel), List.mem_of_getElem? (i := 387) (by decide +kernel), List.mem_of_getElem? (i := 388) (by decide +kernel)⟩
theorem lw_p6 : lw_okq (⟨"SharedRides", "allRoutesStillFit", "()Z"⟩, 6) := ⟨⟨by decide +kernel, by decide +kernel⟩, List.mem_of_getElem? (i := 12) (by decide +kernel), List.mem_of_getElem? (i := 403) (by decide +kernel), List.mem_of_getElem? (i := 404) (by decide +kernel)⟩
theorem lw_p7 : lw_okq (⟨"SharedRides", "openRequests", "()I"⟩, 6) := ⟨⟨by decide +kernel, by decide +kernel⟩, List.mem_of_getElem? (i := 12) (by decide +kernel), List.mem_of_getElem? (i := 411) (by decide +kernel), List.mem_of_getElem? (i := 412) (by decide +kernel)⟩
theorem lw_p8 : lw_okq (⟨"SharedRides", "isVehicle", "(I)Z"⟩, 6) := ⟨⟨by decide +kernel, by decide +kernel⟩, List.mem_of_getElem? (i := 12) (by decide +kernel), List.mem_of_getElem? (i := 431) (by decide +kernel), List.mem_of_getElem? (i := 432) (by decide +kernel)⟩
theorem lw_p9 : lw_okq (⟨"SharedRides", "insertionError", "(IIII)I"⟩, 6) := ⟨⟨by decide +kernel, by decide +kernel⟩, List.mem_of_getElem? (i := 12) (by decide +kernel), List.mem_of_getElem? (i := 445) (by decide +kernel), List.mem_of_getElem? (i := 446) (by decide +kernel)⟩
theorem lw_p10 : lw_okq (⟨"SharedRides", "openRequestError", "(II)I"⟩, 6) := ⟨⟨by decide +kernel, by decide +kernel⟩, List.mem_of_getElem? (i := 12) (by decide +kernel), List.mem_of_getElem? (i := 474) (by decide +kernel), List.mem_of_getElem? (i := 475) (by decide +kernel)⟩
theorem lw_p11 : lw_okq (⟨"SharedRides", "openRequestError", "(I)I"⟩, 6) := ⟨⟨by decide +kernel, by decide +kernel⟩, List.mem_of_getElem? (i := 12) (by decide +kernel), List.mem_of_getElem? (i := 478) (by decide +kernel), List.mem_of_getElem? (i := 479) (by decide +kernel)⟩
theorem lw_p12 : lw_okq (⟨"SharedRides", "carryOutInsertion", "(I)Z"⟩, 6) := ⟨⟨by decide +kernel, by decide +kernel⟩, List.mem_of_getElem? (i := 12) (by decide +kernel), List.mem_of_getElem? (i := 504) (by decide +kernel), List.mem_of_getElem? (i := 505) (by decide +kernel)⟩
theorem lw_p13 : lw_okq (⟨"SharedRides$Mover", "startOver", "(LSharedRides$Plan;I)V"⟩, 10) := ⟨⟨by decide +kernel, by decide +kernel⟩, List.mem_of_getElem? (i := 208) (by decide +kernel), List.mem_of_getElem? (i := 548) (by decide +kernel), List.mem_of_getElem? (i := 549) (by decide +kernel)⟩
theorem lw_p14 : lw_okq (⟨"SharedRides$Mover", "tryShortChain", "(LSharedRides$Plan;II)V"⟩, 10) := ⟨⟨by decide +kernel, by decide +kernel⟩, List.mem_of_getElem? (i := 208) (by decide +kernel), List.mem_of_getElem? (i := 553) (by decide +kernel), List.mem_of_getElem? (i := 554) (by decide +kernel)⟩
theorem lw_p15 : lw_okq (⟨"SharedRides$Mover", "displace", "(LSharedRides$Plan;II)Z"⟩, 10) := ⟨⟨by decide +kernel, by decide +kernel⟩, List.mem_of_getElem? (i := 208) (by decide +kernel), List.mem_of_getElem? (i := 558) (by decide +kernel), List.mem_of_getElem? (i := 559) (by decide +kernel)⟩
def lw_privs_1 : List (MethodName × Nat) := [(⟨"SharedRides", "isRequest", "(I)Z"⟩, 6), (⟨"SharedRides", "routeStillFits", "(I)Z"⟩, 6), (⟨"SharedRides", "isOpen", "(I)Z"⟩, 6), (⟨"SharedRides$Timetable", "delayStops", "()Z"⟩, 13), (⟨"SharedRides$Timetable", "delayPickups", "()Z"⟩, 13), (⟨"SharedRides$Timetable", "isTooLate", "()Z"⟩, 13), (⟨"SharedRides", "allRoutesStillFit", "()Z"⟩, 6), (⟨"SharedRides", "openRequests", "()I"⟩, 6), (⟨"SharedRides", "isVehicle", "(I)Z"⟩, 6), (⟨"SharedRides", "insertionError", "(IIII)I"⟩, 6), (⟨"SharedRides", "openRequestError", "(II)I"⟩, 6), (⟨"SharedRides", "openRequestError", "(I)I"⟩, 6), (⟨"SharedRides", "carryOutInsertion", "(I)Z"⟩, 6), (⟨"SharedRides$Mover", "startOver", "(LSharedRides$Plan;I)V"⟩, 10), (⟨"SharedRides$Mover", "tryShortChain", "(LSharedRides$Plan;II)V"⟩, 10), (⟨"SharedRides$Mover", "displace", "(LSharedRides$Plan;II)Z"⟩, 10)]
theorem lw_r1 : ∀ q ∈ lw_privs_1, lw_okq q := List.forall_mem_cons.mpr ⟨lw_p0, List.forall_mem_cons.mpr ⟨lw_p1, List.forall_mem_cons.mpr ⟨lw_p2, List.forall_mem_cons.mpr ⟨lw_p3, List.forall_mem_cons.mpr ⟨lw_p4, List.forall_mem_cons.mpr ⟨lw_p5, List.forall_mem_cons.mpr ⟨lw_p6, List.forall_mem_cons.mpr ⟨lw_p7, List.forall_mem_cons.mpr ⟨lw_p8, List.forall_mem_cons.mpr ⟨lw_p9, List.forall_mem_cons.mpr ⟨lw_p10, List.forall_mem_cons.mpr ⟨lw_p11, List.forall_mem_cons.mpr ⟨lw_p12, List.forall_mem_cons.mpr ⟨lw_p13, List.forall_mem_cons.mpr ⟨lw_p14, List.forall_mem_cons.mpr ⟨lw_p15, fun _ h => absurd h List.not_mem_nil⟩⟩⟩⟩⟩⟩⟩⟩⟩⟩⟩⟩⟩⟩⟩⟩
theorem lw_p16 : lw_okq (⟨"SharedRides$Mover", "keepIfBest", "(II)V"⟩, 10) := ⟨⟨by decide +kernel, by decide +kernel⟩, List.mem_of_getElem? (i := 208) (by decide +kernel), List.mem_of_getElem? (i := 567) (by decide +kernel), List.mem_of_getElem? (i := 568) (by decide +kernel)⟩
theorem lw_p17 : lw_okq (⟨"SharedRides$Mover", "tryLongChains", "(LSharedRides$Plan;II)V"⟩, 10) := ⟨⟨by decide +kernel, by decide +kernel⟩, List.mem_of_getElem? (i := 208) (by decide +kernel), List.mem_of_getElem? (i := 571) (by decide +kernel), List.mem_of_getElem? (i := 572) (by decide +kernel)⟩
theorem lw_p18 : lw_okq (⟨"SharedRides$Timetable", "advanceStops", "()Z"⟩, 13) := ⟨⟨by decide +kernel, by decide +kernel⟩, List.mem_of_getElem? (i := 91) (by decide +kernel), List.mem_of_getElem? (i := 617) (by decide +kernel), List.mem_of_getElem? (i := 618) (by decide +kernel)⟩
theorem lw_p19 : lw_okq (⟨"SharedRides$Timetable", "advanceDrops", "()Z"⟩, 13) := ⟨⟨by decide +kernel, by decide +kernel⟩, List.mem_of_getElem? (i := 91) (by decide +kernel), List.mem_of_getElem? (i := 621) (by decide +kernel), List.mem_of_getElem? (i := 622) (by decide +kernel)⟩
def lw_privs_2 : List (MethodName × Nat) := [(⟨"SharedRides$Mover", "keepIfBest", "(II)V"⟩, 10), (⟨"SharedRides$Mover", "tryLongChains", "(LSharedRides$Plan;II)V"⟩, 10), (⟨"SharedRides$Timetable", "advanceStops", "()Z"⟩, 13), (⟨"SharedRides$Timetable", "advanceDrops", "()Z"⟩, 13)]
theorem lw_r2 : ∀ q ∈ lw_privs_2, lw_okq q := List.forall_mem_cons.mpr ⟨lw_p16, List.forall_mem_cons.mpr ⟨lw_p17, List.forall_mem_cons.mpr ⟨lw_p18, List.forall_mem_cons.mpr ⟨lw_p19, fun _ h => absurd h List.not_mem_nil⟩⟩⟩⟩
def lw_privs : List (MethodName × Nat) := lw_privs_1 ++ (lw_privs_2)
def lw_tbl : List Cond := k2_sels lw_privs ++ tables_1
theorem lw_privs_ok : ∀ q ∈ lw_privs, lw_okq q := by
  show ∀ q ∈ lw_privs_1 ++ (lw_privs_2), lw_okq q
  exact List.forall_mem_append.mpr ⟨lw_r1, lw_r2⟩
def RX0 : String := "SharedRides$History"
def TX0 : u_T := fun k => match k with
  | 0 => ("SharedRides$History", "size", "I", false)
  | 1 => ("SharedRides$History", "oldest", "I", false)
  | _ => ("SharedRides$History", "plans", "[LSharedRides$Plan;", true)
def tyX0 : Nat → FieldType := fun k => match k with
  | 0 => .int
  | 1 => .int
  | _ => .array (.object "SharedRides$Plan")
abbrev wsX00 : List Cond := u_ws RX0 TX0 3
theorem nmX0 : ∀ a, a < 3 → ∀ b, b < 3 → a ≠ b → (TX0 a).2.1 ≠ (TX0 b).2.1 := by decide +kernel
theorem tyX0_ok : ∀ k, k < 3 → parseFieldDescriptor (TX0 k).2.2.1 = some (tyX0 k) := by decide +kernel
abbrev cX0_init : ByteArray := prog_2_method_1_code
def yX0_init : MethodName := ⟨RX0, "<init>", "()V"⟩
abbrev cX0_forget : ByteArray := prog_2_method_2_code
def yX0_forget : MethodName := ⟨RX0, "forget", "()V"⟩
abbrev cX0_record : ByteArray := prog_2_method_3_code
def yX0_record : MethodName := ⟨RX0, "record", "(LSharedRides$Plan;)V"⟩
abbrev cX0_restoreLatest : ByteArray := prog_2_method_4_code
def yX0_restoreLatest : MethodName := ⟨RX0, "restoreLatest", "(LSharedRides$Plan;)V"⟩
def RX1 : String := "SharedRides$Inserter"
def TX1 : u_T := fun k => match k with
  | 0 => ("SharedRides$Inserter", "found", "Z", false)
  | 1 => ("SharedRides$Inserter", "cost", "I", false)
  | 2 => ("SharedRides$Inserter", "vehicle", "I", false)
  | 3 => ("SharedRides$Inserter", "i", "I", false)
  | 4 => ("SharedRides$Inserter", "j", "I", false)
  | 5 => ("SharedRides$Inserter", "problem", "LSharedRides$Problem;", true)
  | 6 => ("SharedRides$Inserter", "timetable", "LSharedRides$Timetable;", true)
  | _ => ("SharedRides$Inserter", "trial", "LSharedRides$Route;", true)
def tyX1 : Nat → FieldType := fun k => match k with
  | 0 => .boolean
  | 1 => .int
  | 2 => .int
  | 3 => .int
  | 4 => .int
  | 5 => .object "SharedRides$Problem"
  | 6 => .object "SharedRides$Timetable"
  | _ => .object "SharedRides$Route"
abbrev wsX10 : List Cond := u_ws RX1 TX1 8
theorem nmX1 : ∀ a, a < 8 → ∀ b, b < 8 → a ≠ b → (TX1 a).2.1 ≠ (TX1 b).2.1 := by decide +kernel
theorem tyX1_ok : ∀ k, k < 8 → parseFieldDescriptor (TX1 k).2.2.1 = some (tyX1 k) := by decide +kernel
abbrev cX1_init : ByteArray := prog_3_method_1_code
def yX1_init : MethodName := ⟨RX1, "<init>", "(LSharedRides$Problem;LSharedRides$Timetable;)V"⟩
abbrev cX1_routeWith : ByteArray := prog_3_method_2_code
def yX1_routeWith : MethodName := ⟨RX1, "routeWith", "(LSharedRides$Route;III)LSharedRides$Route;"⟩
abbrev cX1_startOver : ByteArray := prog_3_method_3_code
def yX1_startOver : MethodName := ⟨RX1, "startOver", "()V"⟩
abbrev cX1_tryRoute : ByteArray := prog_3_method_4_code
def yX1_tryRoute : MethodName := ⟨RX1, "tryRoute", "(LSharedRides$Route;I)V"⟩
abbrev cX1_tryAllBut : ByteArray := prog_3_method_5_code
def yX1_tryAllBut : MethodName := ⟨RX1, "tryAllBut", "(ILSharedRides$Plan;I)V"⟩
abbrev cX1_carryOut : ByteArray := prog_3_method_6_code
def yX1_carryOut : MethodName := ⟨RX1, "carryOut", "(LSharedRides$Plan;I)Z"⟩
def RX2 : String := "SharedRides$Mover"
def TX2 : u_T := fun k => match k with
  | 0 => ("SharedRides$Mover", "found", "Z", false)
  | 1 => ("SharedRides$Mover", "change", "I", false)
  | 2 => ("SharedRides$Mover", "firstMoved", "I", false)
  | 3 => ("SharedRides$Mover", "secondMoved", "I", false)
  | 4 => ("SharedRides$Mover", "outcome", "LSharedRides$Plan;", true)
  | 5 => ("SharedRides$Mover", "problem", "LSharedRides$Problem;", true)
  | 6 => ("SharedRides$Mover", "inserter", "LSharedRides$Inserter;", true)
  | 7 => ("SharedRides$Mover", "begun", "LSharedRides$Plan;", true)
  | 8 => ("SharedRides$Mover", "work", "LSharedRides$Plan;", true)
  | _ => ("SharedRides$Mover", "lengthBefore", "I", false)
def tyX2 : Nat → FieldType := fun k => match k with
  | 0 => .boolean
  | 1 => .int
  | 2 => .int
  | 3 => .int
  | 4 => .object "SharedRides$Plan"
  | 5 => .object "SharedRides$Problem"
  | 6 => .object "SharedRides$Inserter"
  | 7 => .object "SharedRides$Plan"
  | 8 => .object "SharedRides$Plan"
  | _ => .int
abbrev wsX20 : List Cond := u_ws RX2 TX2 10
theorem nmX2 : ∀ a, a < 10 → ∀ b, b < 10 → a ≠ b → (TX2 a).2.1 ≠ (TX2 b).2.1 := by decide +kernel
theorem tyX2_ok : ∀ k, k < 10 → parseFieldDescriptor (TX2 k).2.2.1 = some (tyX2 k) := by decide +kernel
abbrev cX2_init : ByteArray := prog_4_method_1_code
def yX2_init : MethodName := ⟨RX2, "<init>", "(LSharedRides$Problem;LSharedRides$Inserter;)V"⟩
abbrev cX2_findChain : ByteArray := prog_4_method_2_code
def yX2_findChain : MethodName := ⟨RX2, "findChain", "(LSharedRides$Plan;I)V"⟩
abbrev cX2_findImprovement : ByteArray := prog_4_method_3_code
def yX2_findImprovement : MethodName := ⟨RX2, "findImprovement", "(LSharedRides$Plan;)V"⟩
abbrev cX2_startOver : ByteArray := prog_4_method_4_code
def yX2_startOver : MethodName := ⟨RX2, "startOver", "(LSharedRides$Plan;I)V"⟩
abbrev cX2_tryShortChain : ByteArray := prog_4_method_5_code
def yX2_tryShortChain : MethodName := ⟨RX2, "tryShortChain", "(LSharedRides$Plan;II)V"⟩
abbrev cX2_tryLongChains : ByteArray := prog_4_method_6_code
def yX2_tryLongChains : MethodName := ⟨RX2, "tryLongChains", "(LSharedRides$Plan;II)V"⟩
abbrev cX2_displace : ByteArray := prog_4_method_7_code
def yX2_displace : MethodName := ⟨RX2, "displace", "(LSharedRides$Plan;II)Z"⟩
abbrev cX2_keepIfBest : ByteArray := prog_4_method_8_code
def yX2_keepIfBest : MethodName := ⟨RX2, "keepIfBest", "(II)V"⟩
def RX3 : String := "SharedRides$Plan"
def TX3 : u_T := fun k => match k with
  | 0 => ("SharedRides$Plan", "routes", "[LSharedRides$Route;", true)
  | _ => ("SharedRides$Plan", "vehicleOf", "[I", true)
def tyX3 : Nat → FieldType := fun k => match k with
  | 0 => .array (.object "SharedRides$Route")
  | _ => .array .int
abbrev wsX30 : List Cond := u_ws RX3 TX3 2
theorem nmX3 : ∀ a, a < 2 → ∀ b, b < 2 → a ≠ b → (TX3 a).2.1 ≠ (TX3 b).2.1 := by decide +kernel
theorem tyX3_ok : ∀ k, k < 2 → parseFieldDescriptor (TX3 k).2.2.1 = some (tyX3 k) := by decide +kernel
abbrev cX3_init : ByteArray := prog_5_method_1_code
def yX3_init : MethodName := ⟨RX3, "<init>", "()V"⟩
abbrev cX3_become : ByteArray := prog_5_method_2_code
def yX3_become : MethodName := ⟨RX3, "become", "(LSharedRides$Plan;)V"⟩
abbrev cX3_put : ByteArray := prog_5_method_3_code
def yX3_put : MethodName := ⟨RX3, "put", "(IIII)V"⟩
abbrev cX3_take : ByteArray := prog_5_method_4_code
def yX3_take : MethodName := ⟨RX3, "take", "(I)V"⟩
abbrev cX3_requestsOf : ByteArray := prog_5_method_5_code
def yX3_requestsOf : MethodName := ⟨RX3, "requestsOf", "(I)I"⟩
def RX4 : String := "SharedRides$Problem"
def TX4 : u_T := fun k => match k with
  | 0 => ("SharedRides$Problem", "vehicles", "I", false)
  | 1 => ("SharedRides$Problem", "requests", "I", false)
  | 2 => ("SharedRides$Problem", "service", "I", false)
  | 3 => ("SharedRides$Problem", "capacity", "[I", true)
  | 4 => ("SharedRides$Problem", "shiftFirst", "[I", true)
  | 5 => ("SharedRides$Problem", "shiftLast", "[I", true)
  | 6 => ("SharedRides$Problem", "limit", "[I", true)
  | 7 => ("SharedRides$Problem", "loadChange", "[I", true)
  | 8 => ("SharedRides$Problem", "windowFirst", "[I", true)
  | 9 => ("SharedRides$Problem", "windowLast", "[I", true)
  | 10 => ("SharedRides$Problem", "placeX", "[I", true)
  | 11 => ("SharedRides$Problem", "placeY", "[I", true)
  | _ => ("SharedRides$Problem", "travel", "[[I", true)
def tyX4 : Nat → FieldType := fun k => match k with
  | 0 => .int
  | 1 => .int
  | 2 => .int
  | 3 => .array .int
  | 4 => .array .int
  | 5 => .array .int
  | 6 => .array .int
  | 7 => .array .int
  | 8 => .array .int
  | 9 => .array .int
  | 10 => .array .int
  | 11 => .array .int
  | _ => .array (.array .int)
abbrev wsX40 : List Cond := u_ws RX4 TX4 13
theorem nmX4 : ∀ a, a < 13 → ∀ b, b < 13 → a ≠ b → (TX4 a).2.1 ≠ (TX4 b).2.1 := by decide +kernel
theorem tyX4_ok : ∀ k, k < 13 → parseFieldDescriptor (TX4 k).2.2.1 = some (tyX4 k) := by decide +kernel
abbrev cX4_init : ByteArray := prog_6_method_1_code
def yX4_init : MethodName := ⟨RX4, "<init>", "()V"⟩
abbrev cX4_keepPlace : ByteArray := prog_6_method_2_code
def yX4_keepPlace : MethodName := ⟨RX4, "keepPlace", "(III)V"⟩
abbrev cX4_keepWindow : ByteArray := prog_6_method_3_code
def yX4_keepWindow : MethodName := ⟨RX4, "keepWindow", "(III)V"⟩
abbrev cX4_keepLoad : ByteArray := prog_6_method_4_code
def yX4_keepLoad : MethodName := ⟨RX4, "keepLoad", "(II)V"⟩
abbrev cX4_length : ByteArray := prog_6_method_5_code
def yX4_length : MethodName := ⟨RX4, "length", "(LSharedRides$Route;)I"⟩
abbrev cX4_totalLength : ByteArray := prog_6_method_6_code
def yX4_totalLength : MethodName := ⟨RX4, "totalLength", "(LSharedRides$Plan;)I"⟩
abbrev cX4_addedLength : ByteArray := prog_6_method_7_code
def yX4_addedLength : MethodName := ⟨RX4, "addedLength", "(LSharedRides$Route;III)I"⟩
def RX5 : String := "SharedRides$Route"
def TX5 : u_T := fun k => match k with
  | 0 => ("SharedRides$Route", "vehicle", "I", false)
  | 1 => ("SharedRides$Route", "depot", "I", false)
  | 2 => ("SharedRides$Route", "size", "I", false)
  | _ => ("SharedRides$Route", "stops", "[I", true)
def tyX5 : Nat → FieldType := fun k => match k with
  | 0 => .int
  | 1 => .int
  | 2 => .int
  | _ => .array .int
abbrev wsX50 : List Cond := u_ws RX5 TX5 4
theorem nmX5 : ∀ a, a < 4 → ∀ b, b < 4 → a ≠ b → (TX5 a).2.1 ≠ (TX5 b).2.1 := by decide +kernel
theorem tyX5_ok : ∀ k, k < 4 → parseFieldDescriptor (TX5 k).2.2.1 = some (tyX5 k) := by decide +kernel
abbrev cX5_init : ByteArray := prog_7_method_1_code
def yX5_init : MethodName := ⟨RX5, "<init>", "(I)V"⟩
abbrev cX5_become : ByteArray := prog_7_method_2_code
def yX5_become : MethodName := ⟨RX5, "become", "(LSharedRides$Route;)V"⟩
abbrev cX5_placeAt : ByteArray := prog_7_method_3_code
def yX5_placeAt : MethodName := ⟨RX5, "placeAt", "(I)I"⟩
abbrev cX5_put : ByteArray := prog_7_method_4_code
def yX5_put : MethodName := ⟨RX5, "put", "(III)V"⟩
abbrev cX5_take : ByteArray := prog_7_method_5_code
def yX5_take : MethodName := ⟨RX5, "take", "(I)V"⟩
def RX6 : String := "SharedRides$Timetable"
def TX6 : u_T := fun k => match k with
  | 0 => ("SharedRides$Timetable", "earliest", "[I", true)
  | 1 => ("SharedRides$Timetable", "latest", "[I", true)
  | 2 => ("SharedRides$Timetable", "loadAfter", "[I", true)
  | 3 => ("SharedRides$Timetable", "gap", "[I", true)
  | 4 => ("SharedRides$Timetable", "greatestLoad", "I", false)
  | 5 => ("SharedRides$Timetable", "problem", "LSharedRides$Problem;", true)
  | 6 => ("SharedRides$Timetable", "lowest", "[I", true)
  | 7 => ("SharedRides$Timetable", "highest", "[I", true)
  | 8 => ("SharedRides$Timetable", "stopNumber", "[I", true)
  | 9 => ("SharedRides$Timetable", "pickupOf", "[I", true)
  | 10 => ("SharedRides$Timetable", "longest", "[I", true)
  | 11 => ("SharedRides$Timetable", "size", "I", false)
  | _ => ("SharedRides$Timetable", "shiftFirst", "I", false)
def tyX6 : Nat → FieldType := fun k => match k with
  | 0 => .array .int
  | 1 => .array .int
  | 2 => .array .int
  | 3 => .array .int
  | 4 => .int
  | 5 => .object "SharedRides$Problem"
  | 6 => .array .int
  | 7 => .array .int
  | 8 => .array .int
  | 9 => .array .int
  | 10 => .array .int
  | 11 => .int
  | _ => .int
abbrev wsX60 : List Cond := u_ws RX6 TX6 13
theorem nmX6 : ∀ a, a < 13 → ∀ b, b < 13 → a ≠ b → (TX6 a).2.1 ≠ (TX6 b).2.1 := by decide +kernel
theorem tyX6_ok : ∀ k, k < 13 → parseFieldDescriptor (TX6 k).2.2.1 = some (tyX6 k) := by decide +kernel
abbrev cX6_init : ByteArray := prog_8_method_1_code
def yX6_init : MethodName := ⟨RX6, "<init>", "(LSharedRides$Problem;)V"⟩
abbrev cX6_fits : ByteArray := prog_8_method_2_code
def yX6_fits : MethodName := ⟨RX6, "fits", "(LSharedRides$Route;)Z"⟩
abbrev cX6_makeLatest : ByteArray := prog_8_method_3_code
def yX6_makeLatest : MethodName := ⟨RX6, "makeLatest", "(LSharedRides$Route;)V"⟩
abbrev cX6_waitBefore : ByteArray := prog_8_method_4_code
def yX6_waitBefore : MethodName := ⟨RX6, "waitBefore", "(I)I"⟩
abbrev cX6_minutesAboard : ByteArray := prog_8_method_5_code
def yX6_minutesAboard : MethodName := ⟨RX6, "minutesAboard", "([II)I"⟩
abbrev cX6_lookAt : ByteArray := prog_8_method_6_code
def yX6_lookAt : MethodName := ⟨RX6, "lookAt", "(LSharedRides$Route;)V"⟩
abbrev cX6_delayStops : ByteArray := prog_8_method_7_code
def yX6_delayStops : MethodName := ⟨RX6, "delayStops", "()Z"⟩
abbrev cX6_delayPickups : ByteArray := prog_8_method_8_code
def yX6_delayPickups : MethodName := ⟨RX6, "delayPickups", "()Z"⟩
abbrev cX6_isTooLate : ByteArray := prog_8_method_9_code
def yX6_isTooLate : MethodName := ⟨RX6, "isTooLate", "()Z"⟩
abbrev cX6_advanceStops : ByteArray := prog_8_method_10_code
def yX6_advanceStops : MethodName := ⟨RX6, "advanceStops", "()Z"⟩
abbrev cX6_advanceDrops : ByteArray := prog_8_method_11_code
def yX6_advanceDrops : MethodName := ⟨RX6, "advanceDrops", "()Z"⟩
def RX7 : String := "SharedRides"
def TX7 : u_T := fun k => match k with
  | 0 => ("SharedRides", "problem", "LSharedRides$Problem;", true)
  | 1 => ("SharedRides", "plan", "LSharedRides$Plan;", true)
  | 2 => ("SharedRides", "history", "LSharedRides$History;", true)
  | 3 => ("SharedRides", "timetable", "LSharedRides$Timetable;", true)
  | 4 => ("SharedRides", "inserter", "LSharedRides$Inserter;", true)
  | _ => ("SharedRides", "mover", "LSharedRides$Mover;", true)
def tyX7 : Nat → FieldType := fun k => match k with
  | 0 => .object "SharedRides$Problem"
  | 1 => .object "SharedRides$Plan"
  | 2 => .object "SharedRides$History"
  | 3 => .object "SharedRides$Timetable"
  | 4 => .object "SharedRides$Inserter"
  | _ => .object "SharedRides$Mover"
abbrev wsX70 : List Cond := u_ws RX7 TX7 6
theorem nmX7 : ∀ a, a < 6 → ∀ b, b < 6 → a ≠ b → (TX7 a).2.1 ≠ (TX7 b).2.1 := by decide +kernel
theorem tyX7_ok : ∀ k, k < 6 → parseFieldDescriptor (TX7 k).2.2.1 = some (tyX7 k) := by decide +kernel
abbrev cX7_init : ByteArray := prog_1_method_1_code
def yX7_init : MethodName := ⟨RX7, "<init>", "()V"⟩
abbrev cX7_addVehicle : ByteArray := prog_1_method_2_code
def yX7_addVehicle : MethodName := ⟨RX7, "addVehicle", "(IIIII)I"⟩
abbrev cX7_addRequest : ByteArray := prog_1_method_3_code
def yX7_addRequest : MethodName := ⟨RX7, "addRequest", "(IIIIII)I"⟩
abbrev cX7_setWindow : ByteArray := prog_1_method_4_code
def yX7_setWindow : MethodName := ⟨RX7, "setWindow", "(IZII)I"⟩
abbrev cX7_setLimit : ByteArray := prog_1_method_5_code
def yX7_setLimit : MethodName := ⟨RX7, "setLimit", "(II)I"⟩
abbrev cX7_setLoad : ByteArray := prog_1_method_6_code
def yX7_setLoad : MethodName := ⟨RX7, "setLoad", "(II)I"⟩
abbrev cX7_setService : ByteArray := prog_1_method_7_code
def yX7_setService : MethodName := ⟨RX7, "setService", "(I)I"⟩
abbrev cX7_count : ByteArray := prog_1_method_8_code
def yX7_count : MethodName := ⟨RX7, "count", "(I)I"⟩
abbrev cX7_request : ByteArray := prog_1_method_9_code
def yX7_request : MethodName := ⟨RX7, "request", "(II)I"⟩
abbrev cX7_vehicle : ByteArray := prog_1_method_10_code
def yX7_vehicle : MethodName := ⟨RX7, "vehicle", "(II)I"⟩
abbrev cX7_stop : ByteArray := prog_1_method_11_code
def yX7_stop : MethodName := ⟨RX7, "stop", "(III)I"⟩
abbrev cX7_rideTime : ByteArray := prog_1_method_12_code
def yX7_rideTime : MethodName := ⟨RX7, "rideTime", "(IZ)I"⟩
abbrev cX7_depotTime : ByteArray := prog_1_method_13_code
def yX7_depotTime : MethodName := ⟨RX7, "depotTime", "(IZ)I"⟩
abbrev cX7_cost : ByteArray := prog_1_method_14_code
def yX7_cost : MethodName := ⟨RX7, "cost", "(IIII)I"⟩
abbrev cX7_insert : ByteArray := prog_1_method_15_code
def yX7_insert : MethodName := ⟨RX7, "insert", "(IIII)I"⟩
abbrev cX7_best : ByteArray := prog_1_method_16_code
def yX7_best : MethodName := ⟨RX7, "best", "(II)I"⟩
abbrev cX7_assignTo : ByteArray := prog_1_method_17_code
def yX7_assignTo : MethodName := ⟨RX7, "assignTo", "(II)I"⟩
abbrev cX7_assign : ByteArray := prog_1_method_18_code
def yX7_assign : MethodName := ⟨RX7, "assign", "(I)I"⟩
abbrev cX7_remove : ByteArray := prog_1_method_19_code
def yX7_remove : MethodName := ⟨RX7, "remove", "(I)I"⟩
abbrev cX7_chainCost : ByteArray := prog_1_method_20_code
def yX7_chainCost : MethodName := ⟨RX7, "chainCost", "(I)I"⟩
abbrev cX7_chain : ByteArray := prog_1_method_21_code
def yX7_chain : MethodName := ⟨RX7, "chain", "(I)I"⟩
abbrev cX7_improve : ByteArray := prog_1_method_22_code
def yX7_improve : MethodName := ⟨RX7, "improve", "()I"⟩
abbrev cX7_undo : ByteArray := prog_1_method_23_code
def yX7_undo : MethodName := ⟨RX7, "undo", "()I"⟩
abbrev cX7_isPlace : ByteArray := prog_1_method_24_code
def yX7_isPlace : MethodName := ⟨RX7, "isPlace", "(II)Z"⟩
abbrev cX7_isLoad : ByteArray := prog_1_method_25_code
def yX7_isLoad : MethodName := ⟨RX7, "isLoad", "(I)Z"⟩
abbrev cX7_isLimit : ByteArray := prog_1_method_26_code
def yX7_isLimit : MethodName := ⟨RX7, "isLimit", "(I)Z"⟩
abbrev cX7_isWindow : ByteArray := prog_1_method_27_code
def yX7_isWindow : MethodName := ⟨RX7, "isWindow", "(II)Z"⟩
abbrev cX7_isVehicle : ByteArray := prog_1_method_28_code
def yX7_isVehicle : MethodName := ⟨RX7, "isVehicle", "(I)Z"⟩
abbrev cX7_isRequest : ByteArray := prog_1_method_29_code
def yX7_isRequest : MethodName := ⟨RX7, "isRequest", "(I)Z"⟩
abbrev cX7_isOpen : ByteArray := prog_1_method_30_code
def yX7_isOpen : MethodName := ⟨RX7, "isOpen", "(I)Z"⟩
abbrev cX7_openRequests : ByteArray := prog_1_method_31_code
def yX7_openRequests : MethodName := ⟨RX7, "openRequests", "()I"⟩
abbrev cX7_routeStillFits : ByteArray := prog_1_method_32_code
def yX7_routeStillFits : MethodName := ⟨RX7, "routeStillFits", "(I)Z"⟩
abbrev cX7_allRoutesStillFit : ByteArray := prog_1_method_33_code
def yX7_allRoutesStillFit : MethodName := ⟨RX7, "allRoutesStillFit", "()Z"⟩
abbrev cX7_openRequestError : ByteArray := prog_1_method_34_code
def yX7_openRequestError : MethodName := ⟨RX7, "openRequestError", "(I)I"⟩
abbrev cX7_openRequestError_ : ByteArray := prog_1_method_35_code
def yX7_openRequestError_ : MethodName := ⟨RX7, "openRequestError", "(II)I"⟩
abbrev cX7_insertionError : ByteArray := prog_1_method_36_code
def yX7_insertionError : MethodName := ⟨RX7, "insertionError", "(IIII)I"⟩
abbrev cX7_carryOutInsertion : ByteArray := prog_1_method_37_code
def yX7_carryOutInsertion : MethodName := ⟨RX7, "carryOutInsertion", "(I)Z"⟩
def RX8 : String := "SharedRidesModel"
def TX8 : u_T := fun k => match k with
  | _ => ("", "", "", false)
def tyX8 : Nat → FieldType := fun k => match k with
  | _ => .int
abbrev wsX80 : List Cond := u_ws RX8 TX8 0
theorem nmX8 : ∀ a, a < 0 → ∀ b, b < 0 → a ≠ b → (TX8 a).2.1 ≠ (TX8 b).2.1 := by decide +kernel
theorem tyX8_ok : ∀ k, k < 0 → parseFieldDescriptor (TX8 k).2.2.1 = some (tyX8 k) := by decide +kernel
def RJ9 : String := "java/lang/Math"
abbrev cJ9_abs_0f7a4 : ByteArray := prog_11_method_59_code
def yJ9_abs_0f7a4 : MethodName := ⟨RJ9, "abs", "(I)I"⟩
def RJ10 : String := "java/lang/System"
def RL : String := "SharedRidesLaw"
abbrev cL_cell : ByteArray := method_2_code
def yL_cell : MethodName := ⟨RL, "cell", "([II)I"⟩
abbrev cL_low : ByteArray := method_3_code
def yL_low : MethodName := ⟨RL, "low", "(II)I"⟩
abbrev cL_size : ByteArray := method_4_code
def yL_size : MethodName := ⟨RL, "size", "(I)I"⟩
abbrev cL_far : ByteArray := method_5_code
def yL_far : MethodName := ⟨RL, "far", "([III)I"⟩
abbrev cL_at : ByteArray := method_6_code
def yL_at : MethodName := ⟨RL, "at", "(LSharedRides;II)I"⟩
abbrev cL_route : ByteArray := method_7_code
def yL_route : MethodName := ⟨RL, "route", "(LSharedRides;[II)Z"⟩
abbrev cL_plan : ByteArray := method_8_code
def yL_plan : MethodName := ⟨RL, "plan", "(LSharedRides;[I)Z"⟩
abbrev cL_best : ByteArray := method_9_code
def yL_best : MethodName := ⟨RL, "best", "(LSharedRides;II)I"⟩
abbrev cL_print : ByteArray := method_10_code
def yL_print : MethodName := ⟨RL, "print", "(LSharedRides;)J"⟩
abbrev cL_puts : ByteArray := method_11_code
def yL_puts : MethodName := ⟨RL, "puts", "(LSharedRides;II)Z"⟩
abbrev cL_chains : ByteArray := method_12_code
def yL_chains : MethodName := ⟨RL, "chains", "(LSharedRides;I)Z"⟩
abbrev cL_errors : ByteArray := method_13_code
def yL_errors : MethodName := ⟨RL, "errors", "(LSharedRides;)Z"⟩
abbrev cL_law : ByteArray := code
def yL_law : MethodName := ⟨RL, "law", "([I)Z"⟩
abbrev vwCl : List vw_C := [(RX0, TX0, 3), (RX1, TX1, 8), (RX2, TX2, 10), (RX3, TX3, 2), (RX4, TX4, 13), (RX5, TX5, 4), (RX6, TX6, 13), (RX7, TX7, 6)]
