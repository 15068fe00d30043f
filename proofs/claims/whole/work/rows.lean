section
-- ===== PART A: goes FIRST, ahead of the names: the tables' words, and 'selects' of the private methods out of them =====
/-- a private method of a class that the tables say can be made, by its rows of tables_1 -/
def lw_okq (q : MethodName × Nat) : Prop := (q.1.cls ≠ "java/lang/invoke/MethodHandle" ∧ q.1.cls ≠ "java/lang/invoke/VarHandle") ∧ Cond.instantiable q.1.cls q.2 ∈ tables_1 ∧ Cond.privateMethod q.1 ∈ tables_1 ∧ Cond.instanceMethod q.1 ∈ tables_1
theorem lw_p0 : lw_okq (⟨"SharedRides", "isRequest", "(I)Z"⟩, 6) := ⟨⟨by decide +kernel, by decide +kernel⟩, List.mem_of_getElem? (i := 13) (by decide +kernel), List.mem_of_getElem? (i := 357) (by decide +kernel), List.mem_of_getElem? (i := 358) (by decide +kernel)⟩
theorem lw_p1 : lw_okq (⟨"SharedRides", "routeStillFits", "(I)Z"⟩, 6) := ⟨⟨by decide +kernel, by decide +kernel⟩, List.mem_of_getElem? (i := 13) (by decide +kernel), List.mem_of_getElem? (i := 361) (by decide +kernel), List.mem_of_getElem? (i := 362) (by decide +kernel)⟩
theorem lw_p2 : lw_okq (⟨"SharedRides", "isOpen", "(I)Z"⟩, 6) := ⟨⟨by decide +kernel, by decide +kernel⟩, List.mem_of_getElem? (i := 13) (by decide +kernel), List.mem_of_getElem? (i := 365) (by decide +kernel), List.mem_of_getElem? (i := 366) (by decide +kernel)⟩
theorem lw_p3 : lw_okq (⟨"SharedRides$Timetable", "delayStops", "()Z"⟩, 13) := ⟨⟨by decide +kernel, by decide +kernel⟩, List.mem_of_getElem? (i := 92) (by decide +kernel), List.mem_of_getElem? (i := 380) (by decide +kernel), List.mem_of_getElem? (i := 381) (by decide +kernel)⟩
theorem lw_p4 : lw_okq (⟨"SharedRides$Timetable", "delayPickups", "()Z"⟩, 13) := ⟨⟨by decide +kernel, by decide +kernel⟩, List.mem_of_getElem? (i := 92) (by decide +kernel), List.mem_of_getElem? (i := 384) (by decide +kernel), List.mem_of_getElem? (i := 385) (by decide +kernel)⟩
theorem lw_p5 : lw_okq (⟨"SharedRides$Timetable", "isTooLate", "()Z"⟩, 13) := ⟨⟨by decide +kernel, by decide +kernel⟩, List.mem_of_getElem? (i := 92) (by decide +kernel), List.mem_of_getElem? (i := 388) (by decide +kernel), List.mem_of_getElem? (i := 389) (by decide +kernel)⟩
theorem lw_p6 : lw_okq (⟨"SharedRides", "allRoutesStillFit", "()Z"⟩, 6) := ⟨⟨by decide +kernel, by decide +kernel⟩, List.mem_of_getElem? (i := 13) (by decide +kernel), List.mem_of_getElem? (i := 404) (by decide +kernel), List.mem_of_getElem? (i := 405) (by decide +kernel)⟩
theorem lw_p7 : lw_okq (⟨"SharedRides", "openRequests", "()I"⟩, 6) := ⟨⟨by decide +kernel, by decide +kernel⟩, List.mem_of_getElem? (i := 13) (by decide +kernel), List.mem_of_getElem? (i := 412) (by decide +kernel), List.mem_of_getElem? (i := 413) (by decide +kernel)⟩
theorem lw_p8 : lw_okq (⟨"SharedRides", "isVehicle", "(I)Z"⟩, 6) := ⟨⟨by decide +kernel, by decide +kernel⟩, List.mem_of_getElem? (i := 13) (by decide +kernel), List.mem_of_getElem? (i := 432) (by decide +kernel), List.mem_of_getElem? (i := 433) (by decide +kernel)⟩
theorem lw_p9 : lw_okq (⟨"SharedRides$Timetable", "advanceStops", "()Z"⟩, 13) := ⟨⟨by decide +kernel, by decide +kernel⟩, List.mem_of_getElem? (i := 92) (by decide +kernel), List.mem_of_getElem? (i := 450) (by decide +kernel), List.mem_of_getElem? (i := 451) (by decide +kernel)⟩
theorem lw_p10 : lw_okq (⟨"SharedRides$Timetable", "advanceDrops", "()Z"⟩, 13) := ⟨⟨by decide +kernel, by decide +kernel⟩, List.mem_of_getElem? (i := 92) (by decide +kernel), List.mem_of_getElem? (i := 454) (by decide +kernel), List.mem_of_getElem? (i := 455) (by decide +kernel)⟩
theorem lw_p11 : lw_okq (⟨"SharedRides", "insertionError", "(IIII)I"⟩, 6) := ⟨⟨by decide +kernel, by decide +kernel⟩, List.mem_of_getElem? (i := 13) (by decide +kernel), List.mem_of_getElem? (i := 478) (by decide +kernel), List.mem_of_getElem? (i := 479) (by decide +kernel)⟩
theorem lw_p12 : lw_okq (⟨"SharedRides", "openRequestError", "(II)I"⟩, 6) := ⟨⟨by decide +kernel, by decide +kernel⟩, List.mem_of_getElem? (i := 13) (by decide +kernel), List.mem_of_getElem? (i := 526) (by decide +kernel), List.mem_of_getElem? (i := 527) (by decide +kernel)⟩
theorem lw_p13 : lw_okq (⟨"SharedRides", "openRequestError", "(I)I"⟩, 6) := ⟨⟨by decide +kernel, by decide +kernel⟩, List.mem_of_getElem? (i := 13) (by decide +kernel), List.mem_of_getElem? (i := 530) (by decide +kernel), List.mem_of_getElem? (i := 531) (by decide +kernel)⟩
theorem lw_p14 : lw_okq (⟨"SharedRides", "carryOutInsertion", "(I)Z"⟩, 6) := ⟨⟨by decide +kernel, by decide +kernel⟩, List.mem_of_getElem? (i := 13) (by decide +kernel), List.mem_of_getElem? (i := 550) (by decide +kernel), List.mem_of_getElem? (i := 551) (by decide +kernel)⟩
theorem lw_p15 : lw_okq (⟨"SharedRides$Mover", "startOver", "(LSharedRides$Plan;I)V"⟩, 10) := ⟨⟨by decide +kernel, by decide +kernel⟩, List.mem_of_getElem? (i := 209) (by decide +kernel), List.mem_of_getElem? (i := 590) (by decide +kernel), List.mem_of_getElem? (i := 591) (by decide +kernel)⟩
def lw_privs_1 : List (MethodName × Nat) := [(⟨"SharedRides", "isRequest", "(I)Z"⟩, 6), (⟨"SharedRides", "routeStillFits", "(I)Z"⟩, 6), (⟨"SharedRides", "isOpen", "(I)Z"⟩, 6), (⟨"SharedRides$Timetable", "delayStops", "()Z"⟩, 13), (⟨"SharedRides$Timetable", "delayPickups", "()Z"⟩, 13), (⟨"SharedRides$Timetable", "isTooLate", "()Z"⟩, 13), (⟨"SharedRides", "allRoutesStillFit", "()Z"⟩, 6), (⟨"SharedRides", "openRequests", "()I"⟩, 6), (⟨"SharedRides", "isVehicle", "(I)Z"⟩, 6), (⟨"SharedRides$Timetable", "advanceStops", "()Z"⟩, 13), (⟨"SharedRides$Timetable", "advanceDrops", "()Z"⟩, 13), (⟨"SharedRides", "insertionError", "(IIII)I"⟩, 6), (⟨"SharedRides", "openRequestError", "(II)I"⟩, 6), (⟨"SharedRides", "openRequestError", "(I)I"⟩, 6), (⟨"SharedRides", "carryOutInsertion", "(I)Z"⟩, 6), (⟨"SharedRides$Mover", "startOver", "(LSharedRides$Plan;I)V"⟩, 10)]
theorem lw_r1 : ∀ q ∈ lw_privs_1, lw_okq q := List.forall_mem_cons.mpr ⟨lw_p0, List.forall_mem_cons.mpr ⟨lw_p1, List.forall_mem_cons.mpr ⟨lw_p2, List.forall_mem_cons.mpr ⟨lw_p3, List.forall_mem_cons.mpr ⟨lw_p4, List.forall_mem_cons.mpr ⟨lw_p5, List.forall_mem_cons.mpr ⟨lw_p6, List.forall_mem_cons.mpr ⟨lw_p7, List.forall_mem_cons.mpr ⟨lw_p8, List.forall_mem_cons.mpr ⟨lw_p9, List.forall_mem_cons.mpr ⟨lw_p10, List.forall_mem_cons.mpr ⟨lw_p11, List.forall_mem_cons.mpr ⟨lw_p12, List.forall_mem_cons.mpr ⟨lw_p13, List.forall_mem_cons.mpr ⟨lw_p14, List.forall_mem_cons.mpr ⟨lw_p15, fun _ h => absurd h List.not_mem_nil⟩⟩⟩⟩⟩⟩⟩⟩⟩⟩⟩⟩⟩⟩⟩⟩
theorem lw_p16 : lw_okq (⟨"SharedRides$Mover", "tryShortChain", "(LSharedRides$Plan;II)V"⟩, 10) := ⟨⟨by decide +kernel, by decide +kernel⟩, List.mem_of_getElem? (i := 209) (by decide +kernel), List.mem_of_getElem? (i := 595) (by decide +kernel), List.mem_of_getElem? (i := 596) (by decide +kernel)⟩
theorem lw_p17 : lw_okq (⟨"SharedRides$Mover", "displace", "(LSharedRides$Plan;II)Z"⟩, 10) := ⟨⟨by decide +kernel, by decide +kernel⟩, List.mem_of_getElem? (i := 209) (by decide +kernel), List.mem_of_getElem? (i := 600) (by decide +kernel), List.mem_of_getElem? (i := 601) (by decide +kernel)⟩
theorem lw_p18 : lw_okq (⟨"SharedRides$Mover", "keepIfBest", "(II)V"⟩, 10) := ⟨⟨by decide +kernel, by decide +kernel⟩, List.mem_of_getElem? (i := 209) (by decide +kernel), List.mem_of_getElem? (i := 609) (by decide +kernel), List.mem_of_getElem? (i := 610) (by decide +kernel)⟩
theorem lw_p19 : lw_okq (⟨"SharedRides$Mover", "tryLongChains", "(LSharedRides$Plan;II)V"⟩, 10) := ⟨⟨by decide +kernel, by decide +kernel⟩, List.mem_of_getElem? (i := 209) (by decide +kernel), List.mem_of_getElem? (i := 613) (by decide +kernel), List.mem_of_getElem? (i := 614) (by decide +kernel)⟩
theorem lw_p20 : lw_okq (⟨"SharedRidesModel", "noRequest", "(I)Z"⟩, 28) := ⟨⟨by decide +kernel, by decide +kernel⟩, List.mem_of_getElem? (i := 638) (by decide +kernel), List.mem_of_getElem? (i := 747) (by decide +kernel), List.mem_of_getElem? (i := 748) (by decide +kernel)⟩
theorem lw_p21 : lw_okq (⟨"SharedRidesModel", "staysFeasible", "(I)Z"⟩, 28) := ⟨⟨by decide +kernel, by decide +kernel⟩, List.mem_of_getElem? (i := 638) (by decide +kernel), List.mem_of_getElem? (i := 751) (by decide +kernel), List.mem_of_getElem? (i := 752) (by decide +kernel)⟩
theorem lw_p22 : lw_okq (⟨"SharedRidesModel", "vehicleOf", "(I)I"⟩, 28) := ⟨⟨by decide +kernel, by decide +kernel⟩, List.mem_of_getElem? (i := 638) (by decide +kernel), List.mem_of_getElem? (i := 755) (by decide +kernel), List.mem_of_getElem? (i := 756) (by decide +kernel)⟩
theorem lw_p23 : lw_okq (⟨"SharedRidesModel", "isRowFeasible", "(I)Z"⟩, 28) := ⟨⟨by decide +kernel, by decide +kernel⟩, List.mem_of_getElem? (i := 638) (by decide +kernel), List.mem_of_getElem? (i := 759) (by decide +kernel), List.mem_of_getElem? (i := 760) (by decide +kernel)⟩
theorem lw_p24 : lw_okq (⟨"SharedRidesModel", "take", "(I)V"⟩, 28) := ⟨⟨by decide +kernel, by decide +kernel⟩, List.mem_of_getElem? (i := 638) (by decide +kernel), List.mem_of_getElem? (i := 763) (by decide +kernel), List.mem_of_getElem? (i := 764) (by decide +kernel)⟩
theorem lw_p25 : lw_okq (⟨"SharedRidesModel", "isFeasible", "(I)Z"⟩, 28) := ⟨⟨by decide +kernel, by decide +kernel⟩, List.mem_of_getElem? (i := 638) (by decide +kernel), List.mem_of_getElem? (i := 767) (by decide +kernel), List.mem_of_getElem? (i := 768) (by decide +kernel)⟩
theorem lw_p26 : lw_okq (⟨"SharedRidesModel", "greatestLoad", "()I"⟩, 28) := ⟨⟨by decide +kernel, by decide +kernel⟩, List.mem_of_getElem? (i := 638) (by decide +kernel), List.mem_of_getElem? (i := 771) (by decide +kernel), List.mem_of_getElem? (i := 772) (by decide +kernel)⟩
theorem lw_p27 : lw_okq (⟨"SharedRidesModel", "layEarly", "(I)Z"⟩, 28) := ⟨⟨by decide +kernel, by decide +kernel⟩, List.mem_of_getElem? (i := 638) (by decide +kernel), List.mem_of_getElem? (i := 775) (by decide +kernel), List.mem_of_getElem? (i := 776) (by decide +kernel)⟩
theorem lw_p28 : lw_okq (⟨"SharedRidesModel", "fromDepot", "(II)I"⟩, 28) := ⟨⟨by decide +kernel, by decide +kernel⟩, List.mem_of_getElem? (i := 638) (by decide +kernel), List.mem_of_getElem? (i := 779) (by decide +kernel), List.mem_of_getElem? (i := 780) (by decide +kernel)⟩
theorem lw_p29 : lw_okq (⟨"SharedRidesModel", "between", "(II)I"⟩, 28) := ⟨⟨by decide +kernel, by decide +kernel⟩, List.mem_of_getElem? (i := 638) (by decide +kernel), List.mem_of_getElem? (i := 786) (by decide +kernel), List.mem_of_getElem? (i := 787) (by decide +kernel)⟩
theorem lw_p30 : lw_okq (⟨"SharedRidesModel", "placeOf", "(I)I"⟩, 28) := ⟨⟨by decide +kernel, by decide +kernel⟩, List.mem_of_getElem? (i := 638) (by decide +kernel), List.mem_of_getElem? (i := 790) (by decide +kernel), List.mem_of_getElem? (i := 791) (by decide +kernel)⟩
theorem lw_p31 : lw_okq (⟨"SharedRidesModel", "total", "()I"⟩, 28) := ⟨⟨by decide +kernel, by decide +kernel⟩, List.mem_of_getElem? (i := 638) (by decide +kernel), List.mem_of_getElem? (i := 810) (by decide +kernel), List.mem_of_getElem? (i := 811) (by decide +kernel)⟩
def lw_privs_2 : List (MethodName × Nat) := [(⟨"SharedRides$Mover", "tryShortChain", "(LSharedRides$Plan;II)V"⟩, 10), (⟨"SharedRides$Mover", "displace", "(LSharedRides$Plan;II)Z"⟩, 10), (⟨"SharedRides$Mover", "keepIfBest", "(II)V"⟩, 10), (⟨"SharedRides$Mover", "tryLongChains", "(LSharedRides$Plan;II)V"⟩, 10), (⟨"SharedRidesModel", "noRequest", "(I)Z"⟩, 28), (⟨"SharedRidesModel", "staysFeasible", "(I)Z"⟩, 28), (⟨"SharedRidesModel", "vehicleOf", "(I)I"⟩, 28), (⟨"SharedRidesModel", "isRowFeasible", "(I)Z"⟩, 28), (⟨"SharedRidesModel", "take", "(I)V"⟩, 28), (⟨"SharedRidesModel", "isFeasible", "(I)Z"⟩, 28), (⟨"SharedRidesModel", "greatestLoad", "()I"⟩, 28), (⟨"SharedRidesModel", "layEarly", "(I)Z"⟩, 28), (⟨"SharedRidesModel", "fromDepot", "(II)I"⟩, 28), (⟨"SharedRidesModel", "between", "(II)I"⟩, 28), (⟨"SharedRidesModel", "placeOf", "(I)I"⟩, 28), (⟨"SharedRidesModel", "total", "()I"⟩, 28)]
theorem lw_r2 : ∀ q ∈ lw_privs_2, lw_okq q := List.forall_mem_cons.mpr ⟨lw_p16, List.forall_mem_cons.mpr ⟨lw_p17, List.forall_mem_cons.mpr ⟨lw_p18, List.forall_mem_cons.mpr ⟨lw_p19, List.forall_mem_cons.mpr ⟨lw_p20, List.forall_mem_cons.mpr ⟨lw_p21, List.forall_mem_cons.mpr ⟨lw_p22, List.forall_mem_cons.mpr ⟨lw_p23, List.forall_mem_cons.mpr ⟨lw_p24, List.forall_mem_cons.mpr ⟨lw_p25, List.forall_mem_cons.mpr ⟨lw_p26, List.forall_mem_cons.mpr ⟨lw_p27, List.forall_mem_cons.mpr ⟨lw_p28, List.forall_mem_cons.mpr ⟨lw_p29, List.forall_mem_cons.mpr ⟨lw_p30, List.forall_mem_cons.mpr ⟨lw_p31, fun _ h => absurd h List.not_mem_nil⟩⟩⟩⟩⟩⟩⟩⟩⟩⟩⟩⟩⟩⟩⟩⟩
theorem lw_p32 : lw_okq (⟨"SharedRidesModel", "length", "(I)I"⟩, 28) := ⟨⟨by decide +kernel, by decide +kernel⟩, List.mem_of_getElem? (i := 638) (by decide +kernel), List.mem_of_getElem? (i := 814) (by decide +kernel), List.mem_of_getElem? (i := 815) (by decide +kernel)⟩
theorem lw_p33 : lw_okq (⟨"SharedRidesModel", "noVehicle", "(I)Z"⟩, 28) := ⟨⟨by decide +kernel, by decide +kernel⟩, List.mem_of_getElem? (i := 638) (by decide +kernel), List.mem_of_getElem? (i := 826) (by decide +kernel), List.mem_of_getElem? (i := 827) (by decide +kernel)⟩
theorem lw_p34 : lw_okq (⟨"SharedRidesModel", "schedule", "(I)V"⟩, 28) := ⟨⟨by decide +kernel, by decide +kernel⟩, List.mem_of_getElem? (i := 638) (by decide +kernel), List.mem_of_getElem? (i := 834) (by decide +kernel), List.mem_of_getElem? (i := 835) (by decide +kernel)⟩
theorem lw_p35 : lw_okq (⟨"SharedRidesModel", "layLate", "(I)V"⟩, 28) := ⟨⟨by decide +kernel, by decide +kernel⟩, List.mem_of_getElem? (i := 638) (by decide +kernel), List.mem_of_getElem? (i := 838) (by decide +kernel), List.mem_of_getElem? (i := 839) (by decide +kernel)⟩
theorem lw_p36 : lw_okq (⟨"SharedRidesModel", "insertBarred", "(IIII)I"⟩, 28) := ⟨⟨by decide +kernel, by decide +kernel⟩, List.mem_of_getElem? (i := 638) (by decide +kernel), List.mem_of_getElem? (i := 854) (by decide +kernel), List.mem_of_getElem? (i := 855) (by decide +kernel)⟩
theorem lw_p37 : lw_okq (⟨"SharedRidesModel", "takeWith", "(IIII)V"⟩, 28) := ⟨⟨by decide +kernel, by decide +kernel⟩, List.mem_of_getElem? (i := 638) (by decide +kernel), List.mem_of_getElem? (i := 858) (by decide +kernel), List.mem_of_getElem? (i := 859) (by decide +kernel)⟩
theorem lw_p38 : lw_okq (⟨"SharedRidesModel", "lengthOfRow", "(I)I"⟩, 28) := ⟨⟨by decide +kernel, by decide +kernel⟩, List.mem_of_getElem? (i := 638) (by decide +kernel), List.mem_of_getElem? (i := 862) (by decide +kernel), List.mem_of_getElem? (i := 863) (by decide +kernel)⟩
theorem lw_p39 : lw_okq (⟨"SharedRidesModel", "putAside", "()V"⟩, 28) := ⟨⟨by decide +kernel, by decide +kernel⟩, List.mem_of_getElem? (i := 638) (by decide +kernel), List.mem_of_getElem? (i := 870) (by decide +kernel), List.mem_of_getElem? (i := 871) (by decide +kernel)⟩
theorem lw_p40 : lw_okq (⟨"SharedRidesModel", "keep", "()V"⟩, 28) := ⟨⟨by decide +kernel, by decide +kernel⟩, List.mem_of_getElem? (i := 638) (by decide +kernel), List.mem_of_getElem? (i := 874) (by decide +kernel), List.mem_of_getElem? (i := 875) (by decide +kernel)⟩
theorem lw_p41 : lw_okq (⟨"SharedRidesModel", "lay", "(I)V"⟩, 28) := ⟨⟨by decide +kernel, by decide +kernel⟩, List.mem_of_getElem? (i := 638) (by decide +kernel), List.mem_of_getElem? (i := 878) (by decide +kernel), List.mem_of_getElem? (i := 879) (by decide +kernel)⟩
theorem lw_p42 : lw_okq (⟨"SharedRidesModel", "findBest", "(II)Z"⟩, 28) := ⟨⟨by decide +kernel, by decide +kernel⟩, List.mem_of_getElem? (i := 638) (by decide +kernel), List.mem_of_getElem? (i := 886) (by decide +kernel), List.mem_of_getElem? (i := 887) (by decide +kernel)⟩
theorem lw_p43 : lw_okq (⟨"SharedRidesModel", "putBest", "(II)Z"⟩, 28) := ⟨⟨by decide +kernel, by decide +kernel⟩, List.mem_of_getElem? (i := 638) (by decide +kernel), List.mem_of_getElem? (i := 894) (by decide +kernel), List.mem_of_getElem? (i := 895) (by decide +kernel)⟩
theorem lw_p44 : lw_okq (⟨"SharedRidesModel", "openBarred", "(I)I"⟩, 28) := ⟨⟨by decide +kernel, by decide +kernel⟩, List.mem_of_getElem? (i := 638) (by decide +kernel), List.mem_of_getElem? (i := 902) (by decide +kernel), List.mem_of_getElem? (i := 903) (by decide +kernel)⟩
theorem lw_p45 : lw_okq (⟨"SharedRidesModel", "putAnywhere", "(II)I"⟩, 28) := ⟨⟨by decide +kernel, by decide +kernel⟩, List.mem_of_getElem? (i := 638) (by decide +kernel), List.mem_of_getElem? (i := 906) (by decide +kernel), List.mem_of_getElem? (i := 907) (by decide +kernel)⟩
theorem lw_p46 : lw_okq (⟨"SharedRidesModel", "takeOut", "(I)V"⟩, 28) := ⟨⟨by decide +kernel, by decide +kernel⟩, List.mem_of_getElem? (i := 638) (by decide +kernel), List.mem_of_getElem? (i := 914) (by decide +kernel), List.mem_of_getElem? (i := 915) (by decide +kernel)⟩
theorem lw_p47 : lw_okq (⟨"SharedRidesModel", "findChain", "(I)Z"⟩, 28) := ⟨⟨by decide +kernel, by decide +kernel⟩, List.mem_of_getElem? (i := 638) (by decide +kernel), List.mem_of_getElem? (i := 922) (by decide +kernel), List.mem_of_getElem? (i := 923) (by decide +kernel)⟩
def lw_privs_3 : List (MethodName × Nat) := [(⟨"SharedRidesModel", "length", "(I)I"⟩, 28), (⟨"SharedRidesModel", "noVehicle", "(I)Z"⟩, 28), (⟨"SharedRidesModel", "schedule", "(I)V"⟩, 28), (⟨"SharedRidesModel", "layLate", "(I)V"⟩, 28), (⟨"SharedRidesModel", "insertBarred", "(IIII)I"⟩, 28), (⟨"SharedRidesModel", "takeWith", "(IIII)V"⟩, 28), (⟨"SharedRidesModel", "lengthOfRow", "(I)I"⟩, 28), (⟨"SharedRidesModel", "putAside", "()V"⟩, 28), (⟨"SharedRidesModel", "keep", "()V"⟩, 28), (⟨"SharedRidesModel", "lay", "(I)V"⟩, 28), (⟨"SharedRidesModel", "findBest", "(II)Z"⟩, 28), (⟨"SharedRidesModel", "putBest", "(II)Z"⟩, 28), (⟨"SharedRidesModel", "openBarred", "(I)I"⟩, 28), (⟨"SharedRidesModel", "putAnywhere", "(II)I"⟩, 28), (⟨"SharedRidesModel", "takeOut", "(I)V"⟩, 28), (⟨"SharedRidesModel", "findChain", "(I)Z"⟩, 28)]
theorem lw_r3 : ∀ q ∈ lw_privs_3, lw_okq q := List.forall_mem_cons.mpr ⟨lw_p32, List.forall_mem_cons.mpr ⟨lw_p33, List.forall_mem_cons.mpr ⟨lw_p34, List.forall_mem_cons.mpr ⟨lw_p35, List.forall_mem_cons.mpr ⟨lw_p36, List.forall_mem_cons.mpr ⟨lw_p37, List.forall_mem_cons.mpr ⟨lw_p38, List.forall_mem_cons.mpr ⟨lw_p39, List.forall_mem_cons.mpr ⟨lw_p40, List.forall_mem_cons.mpr ⟨lw_p41, List.forall_mem_cons.mpr ⟨lw_p42, List.forall_mem_cons.mpr ⟨lw_p43, List.forall_mem_cons.mpr ⟨lw_p44, List.forall_mem_cons.mpr ⟨lw_p45, List.forall_mem_cons.mpr ⟨lw_p46, List.forall_mem_cons.mpr ⟨lw_p47, fun _ h => absurd h List.not_mem_nil⟩⟩⟩⟩⟩⟩⟩⟩⟩⟩⟩⟩⟩⟩⟩⟩
theorem lw_p48 : lw_okq (⟨"SharedRidesModel", "isShort", "(II)Z"⟩, 28) := ⟨⟨by decide +kernel, by decide +kernel⟩, List.mem_of_getElem? (i := 638) (by decide +kernel), List.mem_of_getElem? (i := 926) (by decide +kernel), List.mem_of_getElem? (i := 927) (by decide +kernel)⟩
theorem lw_p49 : lw_okq (⟨"SharedRidesModel", "takeBack", "()V"⟩, 28) := ⟨⟨by decide +kernel, by decide +kernel⟩, List.mem_of_getElem? (i := 638) (by decide +kernel), List.mem_of_getElem? (i := 930) (by decide +kernel), List.mem_of_getElem? (i := 931) (by decide +kernel)⟩
theorem lw_p50 : lw_okq (⟨"SharedRidesModel", "isLong", "(III)Z"⟩, 28) := ⟨⟨by decide +kernel, by decide +kernel⟩, List.mem_of_getElem? (i := 638) (by decide +kernel), List.mem_of_getElem? (i := 934) (by decide +kernel), List.mem_of_getElem? (i := 935) (by decide +kernel)⟩
def lw_privs_4 : List (MethodName × Nat) := [(⟨"SharedRidesModel", "isShort", "(II)Z"⟩, 28), (⟨"SharedRidesModel", "takeBack", "()V"⟩, 28), (⟨"SharedRidesModel", "isLong", "(III)Z"⟩, 28)]
theorem lw_r4 : ∀ q ∈ lw_privs_4, lw_okq q := List.forall_mem_cons.mpr ⟨lw_p48, List.forall_mem_cons.mpr ⟨lw_p49, List.forall_mem_cons.mpr ⟨lw_p50, fun _ h => absurd h List.not_mem_nil⟩⟩⟩
def lw_privs : List (MethodName × Nat) := lw_privs_1 ++ (lw_privs_2 ++ (lw_privs_3 ++ (lw_privs_4)))
def lw_tbl : List Cond := k2_sels lw_privs ++ tables_1
theorem lw_privs_ok : ∀ q ∈ lw_privs, lw_okq q := by
  show ∀ q ∈ lw_privs_1 ++ (lw_privs_2 ++ (lw_privs_3 ++ (lw_privs_4))), lw_okq q
  exact List.forall_mem_append.mpr ⟨lw_r1, List.forall_mem_append.mpr ⟨lw_r2, List.forall_mem_append.mpr ⟨lw_r3, lw_r4⟩⟩⟩
def RX0 : String := "SharedRides$History"
def TX0 : u_T := fun k => match k with
  | 0 => ("SharedRides$History", "size", "I", false)
  | 1 => ("SharedRides$History", "oldest", "I", false)
  | _ => ("SharedRides$History", "plans", "[LSharedRides$Plan;", true)
def tyX0 : Nat → FieldType := fun k => match k with
  | 0 => .int
  | 1 => .int
  | _ => .array (.object "SharedRides$Plan")
abbrev wsX00 : List Cond := u_ws RX0 TX0 3
theorem nmX0 : ∀ a, a < 3 → ∀ b, b < 3 → a ≠ b → (TX0 a).2.1 ≠ (TX0 b).2.1 := by decide +kernel
theorem tyX0_ok : ∀ k, k < 3 → parseFieldDescriptor (TX0 k).2.2.1 = some (tyX0 k) := by decide +kernel
abbrev cX0_init : ByteArray := prog_2_method_1_code
def yX0_init : MethodName := ⟨RX0, "<init>", "()V"⟩
abbrev cX0_forget : ByteArray := prog_2_method_2_code
def yX0_forget : MethodName := ⟨RX0, "forget", "()V"⟩
abbrev cX0_record : ByteArray := prog_2_method_3_code
def yX0_record : MethodName := ⟨RX0, "record", "(LSharedRides$Plan;)V"⟩
abbrev cX0_restoreLatest : ByteArray := prog_2_method_4_code
def yX0_restoreLatest : MethodName := ⟨RX0, "restoreLatest", "(LSharedRides$Plan;)V"⟩
def RX1 : String := "SharedRides$Inserter"
def TX1 : u_T := fun k => match k with
  | 0 => ("SharedRides$Inserter", "found", "Z", false)
  | 1 => ("SharedRides$Inserter", "cost", "I", false)
  | 2 => ("SharedRides$Inserter", "vehicle", "I", false)
  | 3 => ("SharedRides$Inserter", "i", "I", false)
  | 4 => ("SharedRides$Inserter", "j", "I", false)
  | 5 => ("SharedRides$Inserter", "problem", "LSharedRides$Problem;", true)
  | 6 => ("SharedRides$Inserter", "timetable", "LSharedRides$Timetable;", true)
  | _ => ("SharedRides$Inserter", "trial", "LSharedRides$Route;", true)
def tyX1 : Nat → FieldType := fun k => match k with
  | 0 => .boolean
  | 1 => .int
  | 2 => .int
  | 3 => .int
  | 4 => .int
  | 5 => .object "SharedRides$Problem"
  | 6 => .object "SharedRides$Timetable"
  | _ => .object "SharedRides$Route"
abbrev wsX10 : List Cond := u_ws RX1 TX1 8
theorem nmX1 : ∀ a, a < 8 → ∀ b, b < 8 → a ≠ b → (TX1 a).2.1 ≠ (TX1 b).2.1 := by decide +kernel
theorem tyX1_ok : ∀ k, k < 8 → parseFieldDescriptor (TX1 k).2.2.1 = some (tyX1 k) := by decide +kernel
abbrev cX1_init : ByteArray := prog_3_method_1_code
def yX1_init : MethodName := ⟨RX1, "<init>", "(LSharedRides$Problem;LSharedRides$Timetable;)V"⟩
abbrev cX1_routeWith : ByteArray := prog_3_method_2_code
def yX1_routeWith : MethodName := ⟨RX1, "routeWith", "(LSharedRides$Route;III)LSharedRides$Route;"⟩
abbrev cX1_startOver : ByteArray := prog_3_method_3_code
def yX1_startOver : MethodName := ⟨RX1, "startOver", "()V"⟩
abbrev cX1_tryRoute : ByteArray := prog_3_method_4_code
def yX1_tryRoute : MethodName := ⟨RX1, "tryRoute", "(LSharedRides$Route;I)V"⟩
abbrev cX1_tryAllBut : ByteArray := prog_3_method_5_code
def yX1_tryAllBut : MethodName := ⟨RX1, "tryAllBut", "(ILSharedRides$Plan;I)V"⟩
abbrev cX1_carryOut : ByteArray := prog_3_method_6_code
def yX1_carryOut : MethodName := ⟨RX1, "carryOut", "(LSharedRides$Plan;I)Z"⟩
def RX2 : String := "SharedRides$Mover"
def TX2 : u_T := fun k => match k with
  | 0 => ("SharedRides$Mover", "found", "Z", false)
  | 1 => ("SharedRides$Mover", "change", "I", false)
  | 2 => ("SharedRides$Mover", "firstMoved", "I", false)
  | 3 => ("SharedRides$Mover", "secondMoved", "I", false)
  | 4 => ("SharedRides$Mover", "outcome", "LSharedRides$Plan;", true)
  | 5 => ("SharedRides$Mover", "problem", "LSharedRides$Problem;", true)
  | 6 => ("SharedRides$Mover", "inserter", "LSharedRides$Inserter;", true)
  | 7 => ("SharedRides$Mover", "begun", "LSharedRides$Plan;", true)
  | 8 => ("SharedRides$Mover", "work", "LSharedRides$Plan;", true)
  | _ => ("SharedRides$Mover", "lengthBefore", "I", false)
def tyX2 : Nat → FieldType := fun k => match k with
  | 0 => .boolean
  | 1 => .int
  | 2 => .int
  | 3 => .int
  | 4 => .object "SharedRides$Plan"
  | 5 => .object "SharedRides$Problem"
  | 6 => .object "SharedRides$Inserter"
  | 7 => .object "SharedRides$Plan"
  | 8 => .object "SharedRides$Plan"
  | _ => .int
abbrev wsX20 : List Cond := u_ws RX2 TX2 10
theorem nmX2 : ∀ a, a < 10 → ∀ b, b < 10 → a ≠ b → (TX2 a).2.1 ≠ (TX2 b).2.1 := by decide +kernel
theorem tyX2_ok : ∀ k, k < 10 → parseFieldDescriptor (TX2 k).2.2.1 = some (tyX2 k) := by decide +kernel
abbrev cX2_init : ByteArray := prog_4_method_1_code
def yX2_init : MethodName := ⟨RX2, "<init>", "(LSharedRides$Problem;LSharedRides$Inserter;)V"⟩
abbrev cX2_findChain : ByteArray := prog_4_method_2_code
def yX2_findChain : MethodName := ⟨RX2, "findChain", "(LSharedRides$Plan;I)V"⟩
abbrev cX2_findImprovement : ByteArray := prog_4_method_3_code
def yX2_findImprovement : MethodName := ⟨RX2, "findImprovement", "(LSharedRides$Plan;)V"⟩
abbrev cX2_startOver : ByteArray := prog_4_method_4_code
def yX2_startOver : MethodName := ⟨RX2, "startOver", "(LSharedRides$Plan;I)V"⟩
abbrev cX2_tryShortChain : ByteArray := prog_4_method_5_code
def yX2_tryShortChain : MethodName := ⟨RX2, "tryShortChain", "(LSharedRides$Plan;II)V"⟩
abbrev cX2_tryLongChains : ByteArray := prog_4_method_6_code
def yX2_tryLongChains : MethodName := ⟨RX2, "tryLongChains", "(LSharedRides$Plan;II)V"⟩
abbrev cX2_displace : ByteArray := prog_4_method_7_code
def yX2_displace : MethodName := ⟨RX2, "displace", "(LSharedRides$Plan;II)Z"⟩
abbrev cX2_keepIfBest : ByteArray := prog_4_method_8_code
def yX2_keepIfBest : MethodName := ⟨RX2, "keepIfBest", "(II)V"⟩
def RX3 : String := "SharedRides$Plan"
def TX3 : u_T := fun k => match k with
  | 0 => ("SharedRides$Plan", "routes", "[LSharedRides$Route;", true)
  | _ => ("SharedRides$Plan", "vehicleOf", "[I", true)
def tyX3 : Nat → FieldType := fun k => match k with
  | 0 => .array (.object "SharedRides$Route")
  | _ => .array .int
abbrev wsX30 : List Cond := u_ws RX3 TX3 2
theorem nmX3 : ∀ a, a < 2 → ∀ b, b < 2 → a ≠ b → (TX3 a).2.1 ≠ (TX3 b).2.1 := by decide +kernel
theorem tyX3_ok : ∀ k, k < 2 → parseFieldDescriptor (TX3 k).2.2.1 = some (tyX3 k) := by decide +kernel
abbrev cX3_init : ByteArray := prog_5_method_1_code
def yX3_init : MethodName := ⟨RX3, "<init>", "()V"⟩
abbrev cX3_become : ByteArray := prog_5_method_2_code
def yX3_become : MethodName := ⟨RX3, "become", "(LSharedRides$Plan;)V"⟩
abbrev cX3_put : ByteArray := prog_5_method_3_code
def yX3_put : MethodName := ⟨RX3, "put", "(IIII)V"⟩
abbrev cX3_take : ByteArray := prog_5_method_4_code
def yX3_take : MethodName := ⟨RX3, "take", "(I)V"⟩
abbrev cX3_requestsOf : ByteArray := prog_5_method_5_code
def yX3_requestsOf : MethodName := ⟨RX3, "requestsOf", "(I)I"⟩
def RX4 : String := "SharedRides$Problem"
def TX4 : u_T := fun k => match k with
  | 0 => ("SharedRides$Problem", "vehicles", "I", false)
  | 1 => ("SharedRides$Problem", "requests", "I", false)
  | 2 => ("SharedRides$Problem", "service", "I", false)
  | 3 => ("SharedRides$Problem", "capacity", "[I", true)
  | 4 => ("SharedRides$Problem", "shiftFirst", "[I", true)
  | 5 => ("SharedRides$Problem", "shiftLast", "[I", true)
  | 6 => ("SharedRides$Problem", "limit", "[I", true)
  | 7 => ("SharedRides$Problem", "loadChange", "[I", true)
  | 8 => ("SharedRides$Problem", "windowFirst", "[I", true)
  | 9 => ("SharedRides$Problem", "windowLast", "[I", true)
  | 10 => ("SharedRides$Problem", "placeX", "[I", true)
  | 11 => ("SharedRides$Problem", "placeY", "[I", true)
  | _ => ("SharedRides$Problem", "travel", "[[I", true)
def tyX4 : Nat → FieldType := fun k => match k with
  | 0 => .int
  | 1 => .int
  | 2 => .int
  | 3 => .array .int
  | 4 => .array .int
  | 5 => .array .int
  | 6 => .array .int
  | 7 => .array .int
  | 8 => .array .int
  | 9 => .array .int
  | 10 => .array .int
  | 11 => .array .int
  | _ => .array (.array .int)
abbrev wsX40 : List Cond := u_ws RX4 TX4 13
theorem nmX4 : ∀ a, a < 13 → ∀ b, b < 13 → a ≠ b → (TX4 a).2.1 ≠ (TX4 b).2.1 := by decide +kernel
theorem tyX4_ok : ∀ k, k < 13 → parseFieldDescriptor (TX4 k).2.2.1 = some (tyX4 k) := by decide +kernel
abbrev cX4_init : ByteArray := prog_6_method_1_code
def yX4_init : MethodName := ⟨RX4, "<init>", "()V"⟩
abbrev cX4_keepPlace : ByteArray := prog_6_method_2_code
def yX4_keepPlace : MethodName := ⟨RX4, "keepPlace", "(III)V"⟩
abbrev cX4_keepWindow : ByteArray := prog_6_method_3_code
def yX4_keepWindow : MethodName := ⟨RX4, "keepWindow", "(III)V"⟩
abbrev cX4_keepLoad : ByteArray := prog_6_method_4_code
def yX4_keepLoad : MethodName := ⟨RX4, "keepLoad", "(II)V"⟩
abbrev cX4_length : ByteArray := prog_6_method_5_code
def yX4_length : MethodName := ⟨RX4, "length", "(LSharedRides$Route;)I"⟩
abbrev cX4_totalLength : ByteArray := prog_6_method_6_code
def yX4_totalLength : MethodName := ⟨RX4, "totalLength", "(LSharedRides$Plan;)I"⟩
abbrev cX4_addedLength : ByteArray := prog_6_method_7_code
def yX4_addedLength : MethodName := ⟨RX4, "addedLength", "(LSharedRides$Route;III)I"⟩
def RX5 : String := "SharedRides$Route"
def TX5 : u_T := fun k => match k with
  | 0 => ("SharedRides$Route", "vehicle", "I", false)
  | 1 => ("SharedRides$Route", "depot", "I", false)
  | 2 => ("SharedRides$Route", "size", "I", false)
  | _ => ("SharedRides$Route", "stops", "[I", true)
def tyX5 : Nat → FieldType := fun k => match k with
  | 0 => .int
  | 1 => .int
  | 2 => .int
  | _ => .array .int
abbrev wsX50 : List Cond := u_ws RX5 TX5 4
theorem nmX5 : ∀ a, a < 4 → ∀ b, b < 4 → a ≠ b → (TX5 a).2.1 ≠ (TX5 b).2.1 := by decide +kernel
theorem tyX5_ok : ∀ k, k < 4 → parseFieldDescriptor (TX5 k).2.2.1 = some (tyX5 k) := by decide +kernel
abbrev cX5_init : ByteArray := prog_7_method_1_code
def yX5_init : MethodName := ⟨RX5, "<init>", "(I)V"⟩
abbrev cX5_become : ByteArray := prog_7_method_2_code
def yX5_become : MethodName := ⟨RX5, "become", "(LSharedRides$Route;)V"⟩
abbrev cX5_placeAt : ByteArray := prog_7_method_3_code
def yX5_placeAt : MethodName := ⟨RX5, "placeAt", "(I)I"⟩
abbrev cX5_put : ByteArray := prog_7_method_4_code
def yX5_put : MethodName := ⟨RX5, "put", "(III)V"⟩
abbrev cX5_take : ByteArray := prog_7_method_5_code
def yX5_take : MethodName := ⟨RX5, "take", "(I)V"⟩
def RX6 : String := "SharedRides$Timetable"
def TX6 : u_T := fun k => match k with
  | 0 => ("SharedRides$Timetable", "earliest", "[I", true)
  | 1 => ("SharedRides$Timetable", "latest", "[I", true)
  | 2 => ("SharedRides$Timetable", "loadAfter", "[I", true)
  | 3 => ("SharedRides$Timetable", "gap", "[I", true)
  | 4 => ("SharedRides$Timetable", "greatestLoad", "I", false)
  | 5 => ("SharedRides$Timetable", "problem", "LSharedRides$Problem;", true)
  | 6 => ("SharedRides$Timetable", "lowest", "[I", true)
  | 7 => ("SharedRides$Timetable", "highest", "[I", true)
  | 8 => ("SharedRides$Timetable", "stopNumber", "[I", true)
  | 9 => ("SharedRides$Timetable", "pickupOf", "[I", true)
  | 10 => ("SharedRides$Timetable", "longest", "[I", true)
  | 11 => ("SharedRides$Timetable", "size", "I", false)
  | _ => ("SharedRides$Timetable", "shiftFirst", "I", false)
def tyX6 : Nat → FieldType := fun k => match k with
  | 0 => .array .int
  | 1 => .array .int
  | 2 => .array .int
  | 3 => .array .int
  | 4 => .int
  | 5 => .object "SharedRides$Problem"
  | 6 => .array .int
  | 7 => .array .int
  | 8 => .array .int
  | 9 => .array .int
  | 10 => .array .int
  | 11 => .int
  | _ => .int
abbrev wsX60 : List Cond := u_ws RX6 TX6 13
theorem nmX6 : ∀ a, a < 13 → ∀ b, b < 13 → a ≠ b → (TX6 a).2.1 ≠ (TX6 b).2.1 := by decide +kernel
theorem tyX6_ok : ∀ k, k < 13 → parseFieldDescriptor (TX6 k).2.2.1 = some (tyX6 k) := by decide +kernel
abbrev cX6_init : ByteArray := prog_8_method_1_code
def yX6_init : MethodName := ⟨RX6, "<init>", "(LSharedRides$Problem;)V"⟩
abbrev cX6_fits : ByteArray := prog_8_method_2_code
def yX6_fits : MethodName := ⟨RX6, "fits", "(LSharedRides$Route;)Z"⟩
abbrev cX6_makeLatest : ByteArray := prog_8_method_3_code
def yX6_makeLatest : MethodName := ⟨RX6, "makeLatest", "(LSharedRides$Route;)V"⟩
abbrev cX6_waitBefore : ByteArray := prog_8_method_4_code
def yX6_waitBefore : MethodName := ⟨RX6, "waitBefore", "(I)I"⟩
abbrev cX6_rideTime : ByteArray := prog_8_method_5_code
def yX6_rideTime : MethodName := ⟨RX6, "rideTime", "([II)I"⟩
abbrev cX6_lookAt : ByteArray := prog_8_method_6_code
def yX6_lookAt : MethodName := ⟨RX6, "lookAt", "(LSharedRides$Route;)V"⟩
abbrev cX6_delayStops : ByteArray := prog_8_method_7_code
def yX6_delayStops : MethodName := ⟨RX6, "delayStops", "()Z"⟩
abbrev cX6_delayPickups : ByteArray := prog_8_method_8_code
def yX6_delayPickups : MethodName := ⟨RX6, "delayPickups", "()Z"⟩
abbrev cX6_isTooLate : ByteArray := prog_8_method_9_code
def yX6_isTooLate : MethodName := ⟨RX6, "isTooLate", "()Z"⟩
abbrev cX6_advanceStops : ByteArray := prog_8_method_10_code
def yX6_advanceStops : MethodName := ⟨RX6, "advanceStops", "()Z"⟩
abbrev cX6_advanceDrops : ByteArray := prog_8_method_11_code
def yX6_advanceDrops : MethodName := ⟨RX6, "advanceDrops", "()Z"⟩
def RX7 : String := "SharedRides"
def TX7 : u_T := fun k => match k with
  | 0 => ("SharedRides", "problem", "LSharedRides$Problem;", true)
  | 1 => ("SharedRides", "plan", "LSharedRides$Plan;", true)
  | 2 => ("SharedRides", "history", "LSharedRides$History;", true)
  | 3 => ("SharedRides", "timetable", "LSharedRides$Timetable;", true)
  | 4 => ("SharedRides", "inserter", "LSharedRides$Inserter;", true)
  | _ => ("SharedRides", "mover", "LSharedRides$Mover;", true)
def tyX7 : Nat → FieldType := fun k => match k with
  | 0 => .object "SharedRides$Problem"
  | 1 => .object "SharedRides$Plan"
  | 2 => .object "SharedRides$History"
  | 3 => .object "SharedRides$Timetable"
  | 4 => .object "SharedRides$Inserter"
  | _ => .object "SharedRides$Mover"
abbrev wsX70 : List Cond := u_ws RX7 TX7 6
theorem nmX7 : ∀ a, a < 6 → ∀ b, b < 6 → a ≠ b → (TX7 a).2.1 ≠ (TX7 b).2.1 := by decide +kernel
theorem tyX7_ok : ∀ k, k < 6 → parseFieldDescriptor (TX7 k).2.2.1 = some (tyX7 k) := by decide +kernel
abbrev cX7_init : ByteArray := prog_1_method_1_code
def yX7_init : MethodName := ⟨RX7, "<init>", "()V"⟩
abbrev cX7_addVehicle : ByteArray := prog_1_method_2_code
def yX7_addVehicle : MethodName := ⟨RX7, "addVehicle", "(IIIII)I"⟩
abbrev cX7_addRequest : ByteArray := prog_1_method_3_code
def yX7_addRequest : MethodName := ⟨RX7, "addRequest", "(IIIIII)I"⟩
abbrev cX7_setWindow : ByteArray := prog_1_method_4_code
def yX7_setWindow : MethodName := ⟨RX7, "setWindow", "(IZII)I"⟩
abbrev cX7_setLimit : ByteArray := prog_1_method_5_code
def yX7_setLimit : MethodName := ⟨RX7, "setLimit", "(II)I"⟩
abbrev cX7_setLoad : ByteArray := prog_1_method_6_code
def yX7_setLoad : MethodName := ⟨RX7, "setLoad", "(II)I"⟩
abbrev cX7_setService : ByteArray := prog_1_method_7_code
def yX7_setService : MethodName := ⟨RX7, "setService", "(I)I"⟩
abbrev cX7_count : ByteArray := prog_1_method_8_code
def yX7_count : MethodName := ⟨RX7, "count", "(I)I"⟩
abbrev cX7_request : ByteArray := prog_1_method_9_code
def yX7_request : MethodName := ⟨RX7, "request", "(II)I"⟩
abbrev cX7_vehicle : ByteArray := prog_1_method_10_code
def yX7_vehicle : MethodName := ⟨RX7, "vehicle", "(II)I"⟩
abbrev cX7_stop : ByteArray := prog_1_method_11_code
def yX7_stop : MethodName := ⟨RX7, "stop", "(III)I"⟩
abbrev cX7_rideTime : ByteArray := prog_1_method_12_code
def yX7_rideTime : MethodName := ⟨RX7, "rideTime", "(IZ)I"⟩
abbrev cX7_depotTime : ByteArray := prog_1_method_13_code
def yX7_depotTime : MethodName := ⟨RX7, "depotTime", "(IZ)I"⟩
abbrev cX7_cost : ByteArray := prog_1_method_14_code
def yX7_cost : MethodName := ⟨RX7, "cost", "(IIII)I"⟩
abbrev cX7_insert : ByteArray := prog_1_method_15_code
def yX7_insert : MethodName := ⟨RX7, "insert", "(IIII)I"⟩
abbrev cX7_best : ByteArray := prog_1_method_16_code
def yX7_best : MethodName := ⟨RX7, "best", "(II)I"⟩
abbrev cX7_assignTo : ByteArray := prog_1_method_17_code
def yX7_assignTo : MethodName := ⟨RX7, "assignTo", "(II)I"⟩
abbrev cX7_assign : ByteArray := prog_1_method_18_code
def yX7_assign : MethodName := ⟨RX7, "assign", "(I)I"⟩
abbrev cX7_remove : ByteArray := prog_1_method_19_code
def yX7_remove : MethodName := ⟨RX7, "remove", "(I)I"⟩
abbrev cX7_chainCost : ByteArray := prog_1_method_20_code
def yX7_chainCost : MethodName := ⟨RX7, "chainCost", "(I)I"⟩
abbrev cX7_chain : ByteArray := prog_1_method_21_code
def yX7_chain : MethodName := ⟨RX7, "chain", "(I)I"⟩
abbrev cX7_improve : ByteArray := prog_1_method_22_code
def yX7_improve : MethodName := ⟨RX7, "improve", "()I"⟩
abbrev cX7_undo : ByteArray := prog_1_method_23_code
def yX7_undo : MethodName := ⟨RX7, "undo", "()I"⟩
abbrev cX7_isPlace : ByteArray := prog_1_method_24_code
def yX7_isPlace : MethodName := ⟨RX7, "isPlace", "(II)Z"⟩
abbrev cX7_isLoad : ByteArray := prog_1_method_25_code
def yX7_isLoad : MethodName := ⟨RX7, "isLoad", "(I)Z"⟩
abbrev cX7_isLimit : ByteArray := prog_1_method_26_code
def yX7_isLimit : MethodName := ⟨RX7, "isLimit", "(I)Z"⟩
abbrev cX7_isWindow : ByteArray := prog_1_method_27_code
def yX7_isWindow : MethodName := ⟨RX7, "isWindow", "(II)Z"⟩
abbrev cX7_isVehicle : ByteArray := prog_1_method_28_code
def yX7_isVehicle : MethodName := ⟨RX7, "isVehicle", "(I)Z"⟩
abbrev cX7_isRequest : ByteArray := prog_1_method_29_code
def yX7_isRequest : MethodName := ⟨RX7, "isRequest", "(I)Z"⟩
abbrev cX7_isOpen : ByteArray := prog_1_method_30_code
def yX7_isOpen : MethodName := ⟨RX7, "isOpen", "(I)Z"⟩
abbrev cX7_openRequests : ByteArray := prog_1_method_31_code
def yX7_openRequests : MethodName := ⟨RX7, "openRequests", "()I"⟩
abbrev cX7_routeStillFits : ByteArray := prog_1_method_32_code
def yX7_routeStillFits : MethodName := ⟨RX7, "routeStillFits", "(I)Z"⟩
abbrev cX7_allRoutesStillFit : ByteArray := prog_1_method_33_code
def yX7_allRoutesStillFit : MethodName := ⟨RX7, "allRoutesStillFit", "()Z"⟩
abbrev cX7_openRequestError : ByteArray := prog_1_method_34_code
def yX7_openRequestError : MethodName := ⟨RX7, "openRequestError", "(I)I"⟩
abbrev cX7_openRequestError_ : ByteArray := prog_1_method_35_code
def yX7_openRequestError_ : MethodName := ⟨RX7, "openRequestError", "(II)I"⟩
abbrev cX7_insertionError : ByteArray := prog_1_method_36_code
def yX7_insertionError : MethodName := ⟨RX7, "insertionError", "(IIII)I"⟩
abbrev cX7_carryOutInsertion : ByteArray := prog_1_method_37_code
def yX7_carryOutInsertion : MethodName := ⟨RX7, "carryOutInsertion", "(I)Z"⟩
def RX8 : String := "SharedRidesModel"
def TX8 : u_T := fun k => match k with
  | 0 => ("SharedRidesModel", "service", "I", false)
  | 1 => ("SharedRidesModel", "vehicles", "I", false)
  | 2 => ("SharedRidesModel", "depotX", "[I", true)
  | 3 => ("SharedRidesModel", "depotY", "[I", true)
  | 4 => ("SharedRidesModel", "capacity", "[I", true)
  | 5 => ("SharedRidesModel", "shiftFirst", "[I", true)
  | 6 => ("SharedRidesModel", "shiftLast", "[I", true)
  | 7 => ("SharedRidesModel", "requests", "I", false)
  | 8 => ("SharedRidesModel", "placeX", "[I", true)
  | 9 => ("SharedRidesModel", "placeY", "[I", true)
  | 10 => ("SharedRidesModel", "opens", "[I", true)
  | 11 => ("SharedRidesModel", "closes", "[I", true)
  | 12 => ("SharedRidesModel", "loadOf", "[I", true)
  | 13 => ("SharedRidesModel", "limitOf", "[I", true)
  | 14 => ("SharedRidesModel", "row", "[I", true)
  | 15 => ("SharedRidesModel", "many", "I", false)
  | 16 => ("SharedRidesModel", "trial", "[I", true)
  | 17 => ("SharedRidesModel", "early", "[I", true)
  | 18 => ("SharedRidesModel", "late", "[I", true)
  | 19 => ("SharedRidesModel", "bestI", "I", false)
  | 20 => ("SharedRidesModel", "bestJ", "I", false)
  | 21 => ("SharedRidesModel", "bestCost", "I", false)
  | 22 => ("SharedRidesModel", "kept", "I", false)
  | 23 => ("SharedRidesModel", "keptRow", "[I", true)
  | 24 => ("SharedRidesModel", "aside", "[I", true)
  | 25 => ("SharedRidesModel", "chainA", "I", false)
  | 26 => ("SharedRidesModel", "chainB", "I", false)
  | _ => ("SharedRidesModel", "chainTotal", "I", false)
def tyX8 : Nat → FieldType := fun k => match k with
  | 0 => .int
  | 1 => .int
  | 2 => .array .int
  | 3 => .array .int
  | 4 => .array .int
  | 5 => .array .int
  | 6 => .array .int
  | 7 => .int
  | 8 => .array .int
  | 9 => .array .int
  | 10 => .array .int
  | 11 => .array .int
  | 12 => .array .int
  | 13 => .array .int
  | 14 => .array .int
  | 15 => .int
  | 16 => .array .int
  | 17 => .array .int
  | 18 => .array .int
  | 19 => .int
  | 20 => .int
  | 21 => .int
  | 22 => .int
  | 23 => .array .int
  | 24 => .array .int
  | 25 => .int
  | 26 => .int
  | _ => .int
abbrev wsX80 : List Cond := u_ws RX8 TX8 28
theorem nmX8 : ∀ a, a < 28 → ∀ b, b < 28 → a ≠ b → (TX8 a).2.1 ≠ (TX8 b).2.1 := by decide +kernel
theorem tyX8_ok : ∀ k, k < 28 → parseFieldDescriptor (TX8 k).2.2.1 = some (tyX8 k) := by decide +kernel
abbrev cX8_init : ByteArray := prog_10_method_1_code
def yX8_init : MethodName := ⟨RX8, "<init>", "()V"⟩
abbrev cX8_in : ByteArray := prog_10_method_2_code
def yX8_in : MethodName := ⟨RX8, "in", "(III)Z"⟩
abbrev cX8_size : ByteArray := prog_10_method_3_code
def yX8_size : MethodName := ⟨RX8, "size", "(I)I"⟩
abbrev cX8_isPlace : ByteArray := prog_10_method_4_code
def yX8_isPlace : MethodName := ⟨RX8, "isPlace", "(II)Z"⟩
abbrev cX8_noVehicle : ByteArray := prog_10_method_5_code
def yX8_noVehicle : MethodName := ⟨RX8, "noVehicle", "(I)Z"⟩
abbrev cX8_noRequest : ByteArray := prog_10_method_6_code
def yX8_noRequest : MethodName := ⟨RX8, "noRequest", "(I)Z"⟩
abbrev cX8_addVehicle : ByteArray := prog_10_method_7_code
def yX8_addVehicle : MethodName := ⟨RX8, "addVehicle", "(IIIII)I"⟩
abbrev cX8_addRequest : ByteArray := prog_10_method_8_code
def yX8_addRequest : MethodName := ⟨RX8, "addRequest", "(IIIIII)I"⟩
abbrev cX8_vehicleOf : ByteArray := prog_10_method_9_code
def yX8_vehicleOf : MethodName := ⟨RX8, "vehicleOf", "(I)I"⟩
abbrev cX8_take : ByteArray := prog_10_method_10_code
def yX8_take : MethodName := ⟨RX8, "take", "(I)V"⟩
abbrev cX8_between : ByteArray := prog_10_method_11_code
def yX8_between : MethodName := ⟨RX8, "between", "(II)I"⟩
abbrev cX8_fromDepot : ByteArray := prog_10_method_12_code
def yX8_fromDepot : MethodName := ⟨RX8, "fromDepot", "(II)I"⟩
abbrev cX8_length : ByteArray := prog_10_method_13_code
def yX8_length : MethodName := ⟨RX8, "length", "(I)I"⟩
abbrev cX8_placeOf : ByteArray := prog_10_method_14_code
def yX8_placeOf : MethodName := ⟨RX8, "placeOf", "(I)I"⟩
abbrev cX8_greatestLoad : ByteArray := prog_10_method_15_code
def yX8_greatestLoad : MethodName := ⟨RX8, "greatestLoad", "()I"⟩
abbrev cX8_layEarly : ByteArray := prog_10_method_16_code
def yX8_layEarly : MethodName := ⟨RX8, "layEarly", "(I)Z"⟩
abbrev cX8_layLate : ByteArray := prog_10_method_17_code
def yX8_layLate : MethodName := ⟨RX8, "layLate", "(I)V"⟩
abbrev cX8_isFeasible : ByteArray := prog_10_method_18_code
def yX8_isFeasible : MethodName := ⟨RX8, "isFeasible", "(I)Z"⟩
abbrev cX8_isRowFeasible : ByteArray := prog_10_method_19_code
def yX8_isRowFeasible : MethodName := ⟨RX8, "isRowFeasible", "(I)Z"⟩
abbrev cX8_staysFeasible : ByteArray := prog_10_method_20_code
def yX8_staysFeasible : MethodName := ⟨RX8, "staysFeasible", "(I)Z"⟩
abbrev cX8_setWindow : ByteArray := prog_10_method_21_code
def yX8_setWindow : MethodName := ⟨RX8, "setWindow", "(IZII)I"⟩
abbrev cX8_setLimit : ByteArray := prog_10_method_22_code
def yX8_setLimit : MethodName := ⟨RX8, "setLimit", "(II)I"⟩
abbrev cX8_setLoad : ByteArray := prog_10_method_23_code
def yX8_setLoad : MethodName := ⟨RX8, "setLoad", "(II)I"⟩
abbrev cX8_setService : ByteArray := prog_10_method_24_code
def yX8_setService : MethodName := ⟨RX8, "setService", "(I)I"⟩
abbrev cX8_total : ByteArray := prog_10_method_25_code
def yX8_total : MethodName := ⟨RX8, "total", "()I"⟩
abbrev cX8_count : ByteArray := prog_10_method_26_code
def yX8_count : MethodName := ⟨RX8, "count", "(I)I"⟩
abbrev cX8_request : ByteArray := prog_10_method_27_code
def yX8_request : MethodName := ⟨RX8, "request", "(II)I"⟩
abbrev cX8_vehicle : ByteArray := prog_10_method_28_code
def yX8_vehicle : MethodName := ⟨RX8, "vehicle", "(II)I"⟩
abbrev cX8_schedule : ByteArray := prog_10_method_29_code
def yX8_schedule : MethodName := ⟨RX8, "schedule", "(I)V"⟩
abbrev cX8_stop : ByteArray := prog_10_method_30_code
def yX8_stop : MethodName := ⟨RX8, "stop", "(III)I"⟩
abbrev cX8_rideTime : ByteArray := prog_10_method_31_code
def yX8_rideTime : MethodName := ⟨RX8, "rideTime", "(IZ)I"⟩
abbrev cX8_depotTime : ByteArray := prog_10_method_32_code
def yX8_depotTime : MethodName := ⟨RX8, "depotTime", "(IZ)I"⟩
abbrev cX8_takeWith : ByteArray := prog_10_method_33_code
def yX8_takeWith : MethodName := ⟨RX8, "takeWith", "(IIII)V"⟩
abbrev cX8_lay : ByteArray := prog_10_method_34_code
def yX8_lay : MethodName := ⟨RX8, "lay", "(I)V"⟩
abbrev cX8_findBest : ByteArray := prog_10_method_35_code
def yX8_findBest : MethodName := ⟨RX8, "findBest", "(II)Z"⟩
abbrev cX8_putBest : ByteArray := prog_10_method_36_code
def yX8_putBest : MethodName := ⟨RX8, "putBest", "(II)Z"⟩
abbrev cX8_putAnywhere : ByteArray := prog_10_method_37_code
def yX8_putAnywhere : MethodName := ⟨RX8, "putAnywhere", "(II)I"⟩
abbrev cX8_takeOut : ByteArray := prog_10_method_38_code
def yX8_takeOut : MethodName := ⟨RX8, "takeOut", "(I)V"⟩
abbrev cX8_putAside : ByteArray := prog_10_method_39_code
def yX8_putAside : MethodName := ⟨RX8, "putAside", "()V"⟩
abbrev cX8_takeBack : ByteArray := prog_10_method_40_code
def yX8_takeBack : MethodName := ⟨RX8, "takeBack", "()V"⟩
abbrev cX8_keep : ByteArray := prog_10_method_41_code
def yX8_keep : MethodName := ⟨RX8, "keep", "()V"⟩
abbrev cX8_insertBarred : ByteArray := prog_10_method_42_code
def yX8_insertBarred : MethodName := ⟨RX8, "insertBarred", "(IIII)I"⟩
abbrev cX8_lengthOfRow : ByteArray := prog_10_method_43_code
def yX8_lengthOfRow : MethodName := ⟨RX8, "lengthOfRow", "(I)I"⟩
abbrev cX8_cost : ByteArray := prog_10_method_44_code
def yX8_cost : MethodName := ⟨RX8, "cost", "(IIII)I"⟩
abbrev cX8_insert : ByteArray := prog_10_method_45_code
def yX8_insert : MethodName := ⟨RX8, "insert", "(IIII)I"⟩
abbrev cX8_openBarred : ByteArray := prog_10_method_46_code
def yX8_openBarred : MethodName := ⟨RX8, "openBarred", "(I)I"⟩
abbrev cX8_best : ByteArray := prog_10_method_47_code
def yX8_best : MethodName := ⟨RX8, "best", "(II)I"⟩
abbrev cX8_assignTo : ByteArray := prog_10_method_48_code
def yX8_assignTo : MethodName := ⟨RX8, "assignTo", "(II)I"⟩
abbrev cX8_assign : ByteArray := prog_10_method_49_code
def yX8_assign : MethodName := ⟨RX8, "assign", "(I)I"⟩
abbrev cX8_remove : ByteArray := prog_10_method_50_code
def yX8_remove : MethodName := ⟨RX8, "remove", "(I)I"⟩
abbrev cX8_isShort : ByteArray := prog_10_method_51_code
def yX8_isShort : MethodName := ⟨RX8, "isShort", "(II)Z"⟩
abbrev cX8_isLong : ByteArray := prog_10_method_52_code
def yX8_isLong : MethodName := ⟨RX8, "isLong", "(III)Z"⟩
abbrev cX8_findChain : ByteArray := prog_10_method_53_code
def yX8_findChain : MethodName := ⟨RX8, "findChain", "(I)Z"⟩
abbrev cX8_chainCost : ByteArray := prog_10_method_54_code
def yX8_chainCost : MethodName := ⟨RX8, "chainCost", "(I)I"⟩
abbrev cX8_chain : ByteArray := prog_10_method_55_code
def yX8_chain : MethodName := ⟨RX8, "chain", "(I)I"⟩
abbrev cX8_improve : ByteArray := prog_10_method_56_code
def yX8_improve : MethodName := ⟨RX8, "improve", "()I"⟩
abbrev cX8_undo : ByteArray := prog_10_method_57_code
def yX8_undo : MethodName := ⟨RX8, "undo", "()I"⟩
def RJ9 : String := "java/lang/Math"
abbrev cJ9_abs_0f7a4 : ByteArray := prog_11_method_59_code
def yJ9_abs_0f7a4 : MethodName := ⟨RJ9, "abs", "(I)I"⟩
def RJ10 : String := "java/lang/System"
def RL : String := "SharedRidesLaw"
abbrev cL_law : ByteArray := code
def yL_law : MethodName := ⟨RL, "law", "([I)Z"⟩
abbrev vwCl : List vw_C := [(RX0, TX0, 3), (RX1, TX1, 8), (RX2, TX2, 10), (RX3, TX3, 2), (RX4, TX4, 13), (RX5, TX5, 4), (RX6, TX6, 13), (RX7, TX7, 6), (RX8, TX8, 28)]
end
section
theorem dX0_init_0 : decode cX0_init 0 = .ok (.aload_n 0, 1) := by decide +kernel
theorem dX0_init_1 : decode cX0_init 1 = .ok (.invokespecial 3, 3) := by decide +kernel
theorem dX0_init_4 : decode cX0_init 4 = .ok (.aload_n 0, 1) := by decide +kernel
theorem dX0_init_5 : decode cX0_init 5 = .ok (.iconst 0, 1) := by decide +kernel
theorem dX0_init_6 : decode cX0_init 6 = .ok (.putfield 9, 3) := by decide +kernel
theorem dX0_init_9 : decode cX0_init 9 = .ok (.aload_n 0, 1) := by decide +kernel
theorem dX0_init_10 : decode cX0_init 10 = .ok (.iconst 0, 1) := by decide +kernel
theorem dX0_init_11 : decode cX0_init 11 = .ok (.putfield 15, 3) := by decide +kernel
theorem dX0_init_14 : decode cX0_init 14 = .ok (.aload_n 0, 1) := by decide +kernel
theorem dX0_init_15 : decode cX0_init 15 = .ok (.bipush 10, 2) := by decide +kernel
theorem dX0_init_17 : decode cX0_init 17 = .ok (.anewarray 18, 3) := by decide +kernel
theorem dX0_init_20 : decode cX0_init 20 = .ok (.putfield 20, 3) := by decide +kernel
theorem dX0_init_23 : decode cX0_init 23 = .ok (.iconst 0, 1) := by decide +kernel
theorem dX0_init_24 : decode cX0_init 24 = .ok (.istore_n 1, 1) := by decide +kernel
theorem dX0_init_25 : decode cX0_init 25 = .ok (.iload_n 1, 1) := by decide +kernel
theorem dX0_init_26 : decode cX0_init 26 = .ok (.bipush 10, 2) := by decide +kernel
theorem dX0_init_28 : decode cX0_init 28 = .ok (.if_icmp .ge 22, 3) := by decide +kernel
theorem dX0_init_31 : decode cX0_init 31 = .ok (.aload_n 0, 1) := by decide +kernel
theorem dX0_init_32 : decode cX0_init 32 = .ok (.getfield 20, 3) := by decide +kernel
theorem dX0_init_35 : decode cX0_init 35 = .ok (.iload_n 1, 1) := by decide +kernel
theorem dX0_init_36 : decode cX0_init 36 = .ok (.new 18, 3) := by decide +kernel
theorem dX0_init_39 : decode cX0_init 39 = .ok (.dup, 1) := by decide +kernel
theorem dX0_init_40 : decode cX0_init 40 = .ok (.invokespecial 24, 3) := by decide +kernel
theorem dX0_init_43 : decode cX0_init 43 = .ok (.aastore, 1) := by decide +kernel
theorem dX0_init_44 : decode cX0_init 44 = .ok (.iinc 1 1, 3) := by decide +kernel
theorem dX0_init_47 : decode cX0_init 47 = .ok (.goto (-22), 3) := by decide +kernel
theorem dX0_init_50 : decode cX0_init 50 = .ok (.return_, 1) := by decide +kernel
theorem dX0_forget_0 : decode cX0_forget 0 = .ok (.aload_n 0, 1) := by decide +kernel
theorem dX0_forget_1 : decode cX0_forget 1 = .ok (.iconst 0, 1) := by decide +kernel
theorem dX0_forget_2 : decode cX0_forget 2 = .ok (.putfield 9, 3) := by decide +kernel
theorem dX0_forget_5 : decode cX0_forget 5 = .ok (.return_, 1) := by decide +kernel
theorem dX0_record_0 : decode cX0_record 0 = .ok (.aload_n 0, 1) := by decide +kernel
theorem dX0_record_1 : decode cX0_record 1 = .ok (.getfield 9, 3) := by decide +kernel
theorem dX0_record_4 : decode cX0_record 4 = .ok (.bipush 10, 2) := by decide +kernel
theorem dX0_record_6 : decode cX0_record 6 = .ok (.if_icmp .ne 26, 3) := by decide +kernel
theorem dX0_record_9 : decode cX0_record 9 = .ok (.aload_n 0, 1) := by decide +kernel
theorem dX0_record_10 : decode cX0_record 10 = .ok (.aload_n 0, 1) := by decide +kernel
theorem dX0_record_11 : decode cX0_record 11 = .ok (.getfield 15, 3) := by decide +kernel
theorem dX0_record_14 : decode cX0_record 14 = .ok (.iconst 1, 1) := by decide +kernel
theorem dX0_record_15 : decode cX0_record 15 = .ok (.iadd, 1) := by decide +kernel
theorem dX0_record_16 : decode cX0_record 16 = .ok (.bipush 10, 2) := by decide +kernel
theorem dX0_record_18 : decode cX0_record 18 = .ok (.irem, 1) := by decide +kernel
theorem dX0_record_19 : decode cX0_record 19 = .ok (.putfield 15, 3) := by decide +kernel
theorem dX0_record_22 : decode cX0_record 22 = .ok (.aload_n 0, 1) := by decide +kernel
theorem dX0_record_23 : decode cX0_record 23 = .ok (.dup, 1) := by decide +kernel
theorem dX0_record_24 : decode cX0_record 24 = .ok (.getfield 9, 3) := by decide +kernel
theorem dX0_record_27 : decode cX0_record 27 = .ok (.iconst 1, 1) := by decide +kernel
theorem dX0_record_28 : decode cX0_record 28 = .ok (.isub, 1) := by decide +kernel
theorem dX0_record_29 : decode cX0_record 29 = .ok (.putfield 9, 3) := by decide +kernel
theorem dX0_record_32 : decode cX0_record 32 = .ok (.aload_n 0, 1) := by decide +kernel
theorem dX0_record_33 : decode cX0_record 33 = .ok (.getfield 20, 3) := by decide +kernel
theorem dX0_record_36 : decode cX0_record 36 = .ok (.aload_n 0, 1) := by decide +kernel
theorem dX0_record_37 : decode cX0_record 37 = .ok (.getfield 15, 3) := by decide +kernel
theorem dX0_record_40 : decode cX0_record 40 = .ok (.aload_n 0, 1) := by decide +kernel
theorem dX0_record_41 : decode cX0_record 41 = .ok (.getfield 9, 3) := by decide +kernel
theorem dX0_record_44 : decode cX0_record 44 = .ok (.iadd, 1) := by decide +kernel
theorem dX0_record_45 : decode cX0_record 45 = .ok (.bipush 10, 2) := by decide +kernel
theorem dX0_record_47 : decode cX0_record 47 = .ok (.irem, 1) := by decide +kernel
theorem dX0_record_48 : decode cX0_record 48 = .ok (.aaload, 1) := by decide +kernel
theorem dX0_record_49 : decode cX0_record 49 = .ok (.aload_n 1, 1) := by decide +kernel
theorem dX0_record_50 : decode cX0_record 50 = .ok (.invokevirtual 25, 3) := by decide +kernel
theorem dX0_record_53 : decode cX0_record 53 = .ok (.aload_n 0, 1) := by decide +kernel
theorem dX0_record_54 : decode cX0_record 54 = .ok (.dup, 1) := by decide +kernel
theorem dX0_record_55 : decode cX0_record 55 = .ok (.getfield 9, 3) := by decide +kernel
theorem dX0_record_58 : decode cX0_record 58 = .ok (.iconst 1, 1) := by decide +kernel
theorem dX0_record_59 : decode cX0_record 59 = .ok (.iadd, 1) := by decide +kernel
theorem dX0_record_60 : decode cX0_record 60 = .ok (.putfield 9, 3) := by decide +kernel
theorem dX0_record_63 : decode cX0_record 63 = .ok (.return_, 1) := by decide +kernel
theorem dX0_restoreLatest_0 : decode cX0_restoreLatest 0 = .ok (.aload_n 0, 1) := by decide +kernel
theorem dX0_restoreLatest_1 : decode cX0_restoreLatest 1 = .ok (.getfield 9, 3) := by decide +kernel
theorem dX0_restoreLatest_4 : decode cX0_restoreLatest 4 = .ok (.ifCond .le 34, 3) := by decide +kernel
theorem dX0_restoreLatest_7 : decode cX0_restoreLatest 7 = .ok (.aload_n 0, 1) := by decide +kernel
theorem dX0_restoreLatest_8 : decode cX0_restoreLatest 8 = .ok (.dup, 1) := by decide +kernel
theorem dX0_restoreLatest_9 : decode cX0_restoreLatest 9 = .ok (.getfield 9, 3) := by decide +kernel
theorem dX0_restoreLatest_12 : decode cX0_restoreLatest 12 = .ok (.iconst 1, 1) := by decide +kernel
theorem dX0_restoreLatest_13 : decode cX0_restoreLatest 13 = .ok (.isub, 1) := by decide +kernel
theorem dX0_restoreLatest_14 : decode cX0_restoreLatest 14 = .ok (.putfield 9, 3) := by decide +kernel
theorem dX0_restoreLatest_17 : decode cX0_restoreLatest 17 = .ok (.aload_n 1, 1) := by decide +kernel
theorem dX0_restoreLatest_18 : decode cX0_restoreLatest 18 = .ok (.aload_n 0, 1) := by decide +kernel
theorem dX0_restoreLatest_19 : decode cX0_restoreLatest 19 = .ok (.getfield 20, 3) := by decide +kernel
theorem dX0_restoreLatest_22 : decode cX0_restoreLatest 22 = .ok (.aload_n 0, 1) := by decide +kernel
theorem dX0_restoreLatest_23 : decode cX0_restoreLatest 23 = .ok (.getfield 15, 3) := by decide +kernel
theorem dX0_restoreLatest_26 : decode cX0_restoreLatest 26 = .ok (.aload_n 0, 1) := by decide +kernel
theorem dX0_restoreLatest_27 : decode cX0_restoreLatest 27 = .ok (.getfield 9, 3) := by decide +kernel
theorem dX0_restoreLatest_30 : decode cX0_restoreLatest 30 = .ok (.iadd, 1) := by decide +kernel
theorem dX0_restoreLatest_31 : decode cX0_restoreLatest 31 = .ok (.bipush 10, 2) := by decide +kernel
theorem dX0_restoreLatest_33 : decode cX0_restoreLatest 33 = .ok (.irem, 1) := by decide +kernel
theorem dX0_restoreLatest_34 : decode cX0_restoreLatest 34 = .ok (.aaload, 1) := by decide +kernel
theorem dX0_restoreLatest_35 : decode cX0_restoreLatest 35 = .ok (.invokevirtual 25, 3) := by decide +kernel
theorem dX0_restoreLatest_38 : decode cX0_restoreLatest 38 = .ok (.return_, 1) := by decide +kernel
theorem dX1_init_0 : decode cX1_init 0 = .ok (.aload_n 0, 1) := by decide +kernel
theorem dX1_init_1 : decode cX1_init 1 = .ok (.invokespecial 3, 3) := by decide +kernel
theorem dX1_init_4 : decode cX1_init 4 = .ok (.aload_n 0, 1) := by decide +kernel
theorem dX1_init_5 : decode cX1_init 5 = .ok (.iconst 0, 1) := by decide +kernel
theorem dX1_init_6 : decode cX1_init 6 = .ok (.putfield 9, 3) := by decide +kernel
theorem dX1_init_9 : decode cX1_init 9 = .ok (.aload_n 0, 1) := by decide +kernel
theorem dX1_init_10 : decode cX1_init 10 = .ok (.iconst 0, 1) := by decide +kernel
theorem dX1_init_11 : decode cX1_init 11 = .ok (.putfield 15, 3) := by decide +kernel
theorem dX1_init_14 : decode cX1_init 14 = .ok (.aload_n 0, 1) := by decide +kernel
theorem dX1_init_15 : decode cX1_init 15 = .ok (.iconst (-1), 1) := by decide +kernel
theorem dX1_init_16 : decode cX1_init 16 = .ok (.putfield 19, 3) := by decide +kernel
theorem dX1_init_19 : decode cX1_init 19 = .ok (.aload_n 0, 1) := by decide +kernel
theorem dX1_init_20 : decode cX1_init 20 = .ok (.iconst 0, 1) := by decide +kernel
theorem dX1_init_21 : decode cX1_init 21 = .ok (.putfield 22, 3) := by decide +kernel
theorem dX1_init_24 : decode cX1_init 24 = .ok (.aload_n 0, 1) := by decide +kernel
theorem dX1_init_25 : decode cX1_init 25 = .ok (.iconst 0, 1) := by decide +kernel
theorem dX1_init_26 : decode cX1_init 26 = .ok (.putfield 25, 3) := by decide +kernel
theorem dX1_init_29 : decode cX1_init 29 = .ok (.aload_n 0, 1) := by decide +kernel
theorem dX1_init_30 : decode cX1_init 30 = .ok (.new 28, 3) := by decide +kernel
theorem dX1_init_33 : decode cX1_init 33 = .ok (.dup, 1) := by decide +kernel
theorem dX1_init_34 : decode cX1_init 34 = .ok (.iconst 0, 1) := by decide +kernel
theorem dX1_init_35 : decode cX1_init 35 = .ok (.invokespecial 30, 3) := by decide +kernel
theorem dX1_init_38 : decode cX1_init 38 = .ok (.putfield 33, 3) := by decide +kernel
theorem dX1_init_41 : decode cX1_init 41 = .ok (.aload_n 0, 1) := by decide +kernel
theorem dX1_init_42 : decode cX1_init 42 = .ok (.aload_n 1, 1) := by decide +kernel
theorem dX1_init_43 : decode cX1_init 43 = .ok (.putfield 37, 3) := by decide +kernel
theorem dX1_init_46 : decode cX1_init 46 = .ok (.aload_n 0, 1) := by decide +kernel
theorem dX1_init_47 : decode cX1_init 47 = .ok (.aload_n 2, 1) := by decide +kernel
theorem dX1_init_48 : decode cX1_init 48 = .ok (.putfield 41, 3) := by decide +kernel
theorem dX1_init_51 : decode cX1_init 51 = .ok (.return_, 1) := by decide +kernel
theorem dX1_routeWith_0 : decode cX1_routeWith 0 = .ok (.aload_n 0, 1) := by decide +kernel
theorem dX1_routeWith_1 : decode cX1_routeWith 1 = .ok (.getfield 33, 3) := by decide +kernel
theorem dX1_routeWith_4 : decode cX1_routeWith 4 = .ok (.aload_n 1, 1) := by decide +kernel
theorem dX1_routeWith_5 : decode cX1_routeWith 5 = .ok (.invokevirtual 45, 3) := by decide +kernel
theorem dX1_routeWith_8 : decode cX1_routeWith 8 = .ok (.aload_n 0, 1) := by decide +kernel
theorem dX1_routeWith_9 : decode cX1_routeWith 9 = .ok (.getfield 33, 3) := by decide +kernel
theorem dX1_routeWith_12 : decode cX1_routeWith 12 = .ok (.iload_n 2, 1) := by decide +kernel
theorem dX1_routeWith_13 : decode cX1_routeWith 13 = .ok (.iload_n 3, 1) := by decide +kernel
theorem dX1_routeWith_14 : decode cX1_routeWith 14 = .ok (.iload 4, 2) := by decide +kernel
theorem dX1_routeWith_16 : decode cX1_routeWith 16 = .ok (.invokevirtual 49, 3) := by decide +kernel
theorem dX1_routeWith_19 : decode cX1_routeWith 19 = .ok (.aload_n 0, 1) := by decide +kernel
theorem dX1_routeWith_20 : decode cX1_routeWith 20 = .ok (.getfield 33, 3) := by decide +kernel
theorem dX1_routeWith_23 : decode cX1_routeWith 23 = .ok (.areturn, 1) := by decide +kernel
theorem dX1_startOver_0 : decode cX1_startOver 0 = .ok (.aload_n 0, 1) := by decide +kernel
theorem dX1_startOver_1 : decode cX1_startOver 1 = .ok (.iconst 0, 1) := by decide +kernel
theorem dX1_startOver_2 : decode cX1_startOver 2 = .ok (.putfield 9, 3) := by decide +kernel
theorem dX1_startOver_5 : decode cX1_startOver 5 = .ok (.aload_n 0, 1) := by decide +kernel
theorem dX1_startOver_6 : decode cX1_startOver 6 = .ok (.ldc 53, 2) := by decide +kernel
theorem dX1_startOver_8 : decode cX1_startOver 8 = .ok (.putfield 15, 3) := by decide +kernel
theorem dX1_startOver_11 : decode cX1_startOver 11 = .ok (.aload_n 0, 1) := by decide +kernel
theorem dX1_startOver_12 : decode cX1_startOver 12 = .ok (.iconst (-1), 1) := by decide +kernel
theorem dX1_startOver_13 : decode cX1_startOver 13 = .ok (.putfield 19, 3) := by decide +kernel
theorem dX1_startOver_16 : decode cX1_startOver 16 = .ok (.return_, 1) := by decide +kernel
theorem dX1_tryRoute_0 : decode cX1_tryRoute 0 = .ok (.iconst 0, 1) := by decide +kernel
theorem dX1_tryRoute_1 : decode cX1_tryRoute 1 = .ok (.istore_n 3, 1) := by decide +kernel
theorem dX1_tryRoute_2 : decode cX1_tryRoute 2 = .ok (.iload_n 3, 1) := by decide +kernel
theorem dX1_tryRoute_3 : decode cX1_tryRoute 3 = .ok (.aload_n 1, 1) := by decide +kernel
theorem dX1_tryRoute_4 : decode cX1_tryRoute 4 = .ok (.getfield 54, 3) := by decide +kernel
theorem dX1_tryRoute_7 : decode cX1_tryRoute 7 = .ok (.if_icmp .gt 103, 3) := by decide +kernel
theorem dX1_tryRoute_10 : decode cX1_tryRoute 10 = .ok (.iload_n 3, 1) := by decide +kernel
theorem dX1_tryRoute_11 : decode cX1_tryRoute 11 = .ok (.iconst 1, 1) := by decide +kernel
theorem dX1_tryRoute_12 : decode cX1_tryRoute 12 = .ok (.iadd, 1) := by decide +kernel
theorem dX1_tryRoute_13 : decode cX1_tryRoute 13 = .ok (.istore 4, 2) := by decide +kernel
theorem dX1_tryRoute_15 : decode cX1_tryRoute 15 = .ok (.iload 4, 2) := by decide +kernel
theorem dX1_tryRoute_17 : decode cX1_tryRoute 17 = .ok (.aload_n 1, 1) := by decide +kernel
theorem dX1_tryRoute_18 : decode cX1_tryRoute 18 = .ok (.getfield 54, 3) := by decide +kernel
theorem dX1_tryRoute_21 : decode cX1_tryRoute 21 = .ok (.iconst 1, 1) := by decide +kernel
theorem dX1_tryRoute_22 : decode cX1_tryRoute 22 = .ok (.iadd, 1) := by decide +kernel
theorem dX1_tryRoute_23 : decode cX1_tryRoute 23 = .ok (.if_icmp .gt 81, 3) := by decide +kernel
theorem dX1_tryRoute_26 : decode cX1_tryRoute 26 = .ok (.aload_n 0, 1) := by decide +kernel
theorem dX1_tryRoute_27 : decode cX1_tryRoute 27 = .ok (.getfield 37, 3) := by decide +kernel
theorem dX1_tryRoute_30 : decode cX1_tryRoute 30 = .ok (.aload_n 1, 1) := by decide +kernel
theorem dX1_tryRoute_31 : decode cX1_tryRoute 31 = .ok (.iload_n 2, 1) := by decide +kernel
theorem dX1_tryRoute_32 : decode cX1_tryRoute 32 = .ok (.iload_n 3, 1) := by decide +kernel
theorem dX1_tryRoute_33 : decode cX1_tryRoute 33 = .ok (.iload 4, 2) := by decide +kernel
theorem dX1_tryRoute_35 : decode cX1_tryRoute 35 = .ok (.invokevirtual 57, 3) := by decide +kernel
theorem dX1_tryRoute_38 : decode cX1_tryRoute 38 = .ok (.istore 5, 2) := by decide +kernel
theorem dX1_tryRoute_40 : decode cX1_tryRoute 40 = .ok (.iload 5, 2) := by decide +kernel
theorem dX1_tryRoute_42 : decode cX1_tryRoute 42 = .ok (.aload_n 0, 1) := by decide +kernel
theorem dX1_tryRoute_43 : decode cX1_tryRoute 43 = .ok (.getfield 15, 3) := by decide +kernel
theorem dX1_tryRoute_46 : decode cX1_tryRoute 46 = .ok (.if_icmp .ge 52, 3) := by decide +kernel
theorem dX1_tryRoute_49 : decode cX1_tryRoute 49 = .ok (.aload_n 0, 1) := by decide +kernel
theorem dX1_tryRoute_50 : decode cX1_tryRoute 50 = .ok (.getfield 41, 3) := by decide +kernel
theorem dX1_tryRoute_53 : decode cX1_tryRoute 53 = .ok (.aload_n 0, 1) := by decide +kernel
theorem dX1_tryRoute_54 : decode cX1_tryRoute 54 = .ok (.aload_n 1, 1) := by decide +kernel
theorem dX1_tryRoute_55 : decode cX1_tryRoute 55 = .ok (.iload_n 2, 1) := by decide +kernel
theorem dX1_tryRoute_56 : decode cX1_tryRoute 56 = .ok (.iload_n 3, 1) := by decide +kernel
theorem dX1_tryRoute_57 : decode cX1_tryRoute 57 = .ok (.iload 4, 2) := by decide +kernel
theorem dX1_tryRoute_59 : decode cX1_tryRoute 59 = .ok (.invokevirtual 63, 3) := by decide +kernel
theorem dX1_tryRoute_62 : decode cX1_tryRoute 62 = .ok (.invokevirtual 67, 3) := by decide +kernel
theorem dX1_tryRoute_65 : decode cX1_tryRoute 65 = .ok (.ifCond .eq 33, 3) := by decide +kernel
theorem dX1_tryRoute_68 : decode cX1_tryRoute 68 = .ok (.aload_n 0, 1) := by decide +kernel
theorem dX1_tryRoute_69 : decode cX1_tryRoute 69 = .ok (.iconst 1, 1) := by decide +kernel
theorem dX1_tryRoute_70 : decode cX1_tryRoute 70 = .ok (.putfield 9, 3) := by decide +kernel
theorem dX1_tryRoute_73 : decode cX1_tryRoute 73 = .ok (.aload_n 0, 1) := by decide +kernel
theorem dX1_tryRoute_74 : decode cX1_tryRoute 74 = .ok (.iload 5, 2) := by decide +kernel
theorem dX1_tryRoute_76 : decode cX1_tryRoute 76 = .ok (.putfield 15, 3) := by decide +kernel
theorem dX1_tryRoute_79 : decode cX1_tryRoute 79 = .ok (.aload_n 0, 1) := by decide +kernel
theorem dX1_tryRoute_80 : decode cX1_tryRoute 80 = .ok (.aload_n 1, 1) := by decide +kernel
theorem dX1_tryRoute_81 : decode cX1_tryRoute 81 = .ok (.getfield 73, 3) := by decide +kernel
theorem dX1_tryRoute_84 : decode cX1_tryRoute 84 = .ok (.putfield 19, 3) := by decide +kernel
theorem dX1_tryRoute_87 : decode cX1_tryRoute 87 = .ok (.aload_n 0, 1) := by decide +kernel
theorem dX1_tryRoute_88 : decode cX1_tryRoute 88 = .ok (.iload_n 3, 1) := by decide +kernel
theorem dX1_tryRoute_89 : decode cX1_tryRoute 89 = .ok (.putfield 22, 3) := by decide +kernel
theorem dX1_tryRoute_92 : decode cX1_tryRoute 92 = .ok (.aload_n 0, 1) := by decide +kernel
theorem dX1_tryRoute_93 : decode cX1_tryRoute 93 = .ok (.iload 4, 2) := by decide +kernel
theorem dX1_tryRoute_95 : decode cX1_tryRoute 95 = .ok (.putfield 25, 3) := by decide +kernel
theorem dX1_tryRoute_98 : decode cX1_tryRoute 98 = .ok (.iinc 4 1, 3) := by decide +kernel
theorem dX1_tryRoute_101 : decode cX1_tryRoute 101 = .ok (.goto (-86), 3) := by decide +kernel
theorem dX1_tryRoute_104 : decode cX1_tryRoute 104 = .ok (.iinc 3 1, 3) := by decide +kernel
theorem dX1_tryRoute_107 : decode cX1_tryRoute 107 = .ok (.goto (-105), 3) := by decide +kernel
theorem dX1_tryRoute_110 : decode cX1_tryRoute 110 = .ok (.return_, 1) := by decide +kernel
theorem dX1_tryAllBut_0 : decode cX1_tryAllBut 0 = .ok (.aload_n 0, 1) := by decide +kernel
theorem dX1_tryAllBut_1 : decode cX1_tryAllBut 1 = .ok (.invokevirtual 74, 3) := by decide +kernel
theorem dX1_tryAllBut_4 : decode cX1_tryAllBut 4 = .ok (.iconst 0, 1) := by decide +kernel
theorem dX1_tryAllBut_5 : decode cX1_tryAllBut 5 = .ok (.istore 4, 2) := by decide +kernel
theorem dX1_tryAllBut_7 : decode cX1_tryAllBut 7 = .ok (.iload 4, 2) := by decide +kernel
theorem dX1_tryAllBut_9 : decode cX1_tryAllBut 9 = .ok (.aload_n 0, 1) := by decide +kernel
theorem dX1_tryAllBut_10 : decode cX1_tryAllBut 10 = .ok (.getfield 37, 3) := by decide +kernel
theorem dX1_tryAllBut_13 : decode cX1_tryAllBut 13 = .ok (.getfield 77, 3) := by decide +kernel
theorem dX1_tryAllBut_16 : decode cX1_tryAllBut 16 = .ok (.if_icmp .ge 27, 3) := by decide +kernel
theorem dX1_tryAllBut_19 : decode cX1_tryAllBut 19 = .ok (.iload 4, 2) := by decide +kernel
theorem dX1_tryAllBut_21 : decode cX1_tryAllBut 21 = .ok (.iload_n 1, 1) := by decide +kernel
theorem dX1_tryAllBut_22 : decode cX1_tryAllBut 22 = .ok (.if_icmp .eq 15, 3) := by decide +kernel
theorem dX1_tryAllBut_25 : decode cX1_tryAllBut 25 = .ok (.aload_n 0, 1) := by decide +kernel
theorem dX1_tryAllBut_26 : decode cX1_tryAllBut 26 = .ok (.aload_n 2, 1) := by decide +kernel
theorem dX1_tryAllBut_27 : decode cX1_tryAllBut 27 = .ok (.getfield 80, 3) := by decide +kernel
theorem dX1_tryAllBut_30 : decode cX1_tryAllBut 30 = .ok (.iload 4, 2) := by decide +kernel
theorem dX1_tryAllBut_32 : decode cX1_tryAllBut 32 = .ok (.aaload, 1) := by decide +kernel
theorem dX1_tryAllBut_33 : decode cX1_tryAllBut 33 = .ok (.iload_n 3, 1) := by decide +kernel
theorem dX1_tryAllBut_34 : decode cX1_tryAllBut 34 = .ok (.invokevirtual 86, 3) := by decide +kernel
theorem dX1_tryAllBut_37 : decode cX1_tryAllBut 37 = .ok (.iinc 4 1, 3) := by decide +kernel
theorem dX1_tryAllBut_40 : decode cX1_tryAllBut 40 = .ok (.goto (-33), 3) := by decide +kernel
theorem dX1_tryAllBut_43 : decode cX1_tryAllBut 43 = .ok (.return_, 1) := by decide +kernel
theorem dX1_carryOut_0 : decode cX1_carryOut 0 = .ok (.aload_n 0, 1) := by decide +kernel
theorem dX1_carryOut_1 : decode cX1_carryOut 1 = .ok (.getfield 9, 3) := by decide +kernel
theorem dX1_carryOut_4 : decode cX1_carryOut 4 = .ok (.ifCond .eq 20, 3) := by decide +kernel
theorem dX1_carryOut_7 : decode cX1_carryOut 7 = .ok (.aload_n 1, 1) := by decide +kernel
theorem dX1_carryOut_8 : decode cX1_carryOut 8 = .ok (.iload_n 2, 1) := by decide +kernel
theorem dX1_carryOut_9 : decode cX1_carryOut 9 = .ok (.aload_n 0, 1) := by decide +kernel
theorem dX1_carryOut_10 : decode cX1_carryOut 10 = .ok (.getfield 19, 3) := by decide +kernel
theorem dX1_carryOut_13 : decode cX1_carryOut 13 = .ok (.aload_n 0, 1) := by decide +kernel
theorem dX1_carryOut_14 : decode cX1_carryOut 14 = .ok (.getfield 22, 3) := by decide +kernel
theorem dX1_carryOut_17 : decode cX1_carryOut 17 = .ok (.aload_n 0, 1) := by decide +kernel
theorem dX1_carryOut_18 : decode cX1_carryOut 18 = .ok (.getfield 25, 3) := by decide +kernel
theorem dX1_carryOut_21 : decode cX1_carryOut 21 = .ok (.invokevirtual 90, 3) := by decide +kernel
theorem dX1_carryOut_24 : decode cX1_carryOut 24 = .ok (.aload_n 0, 1) := by decide +kernel
theorem dX1_carryOut_25 : decode cX1_carryOut 25 = .ok (.getfield 9, 3) := by decide +kernel
theorem dX1_carryOut_28 : decode cX1_carryOut 28 = .ok (.ireturn, 1) := by decide +kernel
theorem dX2_init_0 : decode cX2_init 0 = .ok (.aload_n 0, 1) := by decide +kernel
theorem dX2_init_1 : decode cX2_init 1 = .ok (.invokespecial 3, 3) := by decide +kernel
theorem dX2_init_4 : decode cX2_init 4 = .ok (.aload_n 0, 1) := by decide +kernel
theorem dX2_init_5 : decode cX2_init 5 = .ok (.iconst 0, 1) := by decide +kernel
theorem dX2_init_6 : decode cX2_init 6 = .ok (.putfield 9, 3) := by decide +kernel
theorem dX2_init_9 : decode cX2_init 9 = .ok (.aload_n 0, 1) := by decide +kernel
theorem dX2_init_10 : decode cX2_init 10 = .ok (.iconst 0, 1) := by decide +kernel
theorem dX2_init_11 : decode cX2_init 11 = .ok (.putfield 15, 3) := by decide +kernel
theorem dX2_init_14 : decode cX2_init 14 = .ok (.aload_n 0, 1) := by decide +kernel
theorem dX2_init_15 : decode cX2_init 15 = .ok (.iconst 0, 1) := by decide +kernel
theorem dX2_init_16 : decode cX2_init 16 = .ok (.putfield 19, 3) := by decide +kernel
theorem dX2_init_19 : decode cX2_init 19 = .ok (.aload_n 0, 1) := by decide +kernel
theorem dX2_init_20 : decode cX2_init 20 = .ok (.iconst 0, 1) := by decide +kernel
theorem dX2_init_21 : decode cX2_init 21 = .ok (.putfield 22, 3) := by decide +kernel
theorem dX2_init_24 : decode cX2_init 24 = .ok (.aload_n 0, 1) := by decide +kernel
theorem dX2_init_25 : decode cX2_init 25 = .ok (.new 25, 3) := by decide +kernel
theorem dX2_init_28 : decode cX2_init 28 = .ok (.dup, 1) := by decide +kernel
theorem dX2_init_29 : decode cX2_init 29 = .ok (.invokespecial 27, 3) := by decide +kernel
theorem dX2_init_32 : decode cX2_init 32 = .ok (.putfield 28, 3) := by decide +kernel
theorem dX2_init_35 : decode cX2_init 35 = .ok (.aload_n 0, 1) := by decide +kernel
theorem dX2_init_36 : decode cX2_init 36 = .ok (.new 25, 3) := by decide +kernel
theorem dX2_init_39 : decode cX2_init 39 = .ok (.dup, 1) := by decide +kernel
theorem dX2_init_40 : decode cX2_init 40 = .ok (.invokespecial 27, 3) := by decide +kernel
theorem dX2_init_43 : decode cX2_init 43 = .ok (.putfield 32, 3) := by decide +kernel
theorem dX2_init_46 : decode cX2_init 46 = .ok (.aload_n 0, 1) := by decide +kernel
theorem dX2_init_47 : decode cX2_init 47 = .ok (.new 25, 3) := by decide +kernel
theorem dX2_init_50 : decode cX2_init 50 = .ok (.dup, 1) := by decide +kernel
theorem dX2_init_51 : decode cX2_init 51 = .ok (.invokespecial 27, 3) := by decide +kernel
theorem dX2_init_54 : decode cX2_init 54 = .ok (.putfield 35, 3) := by decide +kernel
theorem dX2_init_57 : decode cX2_init 57 = .ok (.aload_n 0, 1) := by decide +kernel
theorem dX2_init_58 : decode cX2_init 58 = .ok (.iconst 0, 1) := by decide +kernel
theorem dX2_init_59 : decode cX2_init 59 = .ok (.putfield 38, 3) := by decide +kernel
theorem dX2_init_62 : decode cX2_init 62 = .ok (.aload_n 0, 1) := by decide +kernel
theorem dX2_init_63 : decode cX2_init 63 = .ok (.aload_n 1, 1) := by decide +kernel
theorem dX2_init_64 : decode cX2_init 64 = .ok (.putfield 41, 3) := by decide +kernel
theorem dX2_init_67 : decode cX2_init 67 = .ok (.aload_n 0, 1) := by decide +kernel
theorem dX2_init_68 : decode cX2_init 68 = .ok (.aload_n 2, 1) := by decide +kernel
theorem dX2_init_69 : decode cX2_init 69 = .ok (.putfield 45, 3) := by decide +kernel
theorem dX2_init_72 : decode cX2_init 72 = .ok (.return_, 1) := by decide +kernel
theorem dX2_findChain_0 : decode cX2_findChain 0 = .ok (.aload_n 0, 1) := by decide +kernel
theorem dX2_findChain_1 : decode cX2_findChain 1 = .ok (.aload_n 1, 1) := by decide +kernel
theorem dX2_findChain_2 : decode cX2_findChain 2 = .ok (.ldc 49, 2) := by decide +kernel
theorem dX2_findChain_4 : decode cX2_findChain 4 = .ok (.invokevirtual 50, 3) := by decide +kernel
theorem dX2_findChain_7 : decode cX2_findChain 7 = .ok (.iconst 0, 1) := by decide +kernel
theorem dX2_findChain_8 : decode cX2_findChain 8 = .ok (.istore_n 3, 1) := by decide +kernel
theorem dX2_findChain_9 : decode cX2_findChain 9 = .ok (.iload_n 3, 1) := by decide +kernel
theorem dX2_findChain_10 : decode cX2_findChain 10 = .ok (.aload_n 0, 1) := by decide +kernel
theorem dX2_findChain_11 : decode cX2_findChain 11 = .ok (.getfield 41, 3) := by decide +kernel
theorem dX2_findChain_14 : decode cX2_findChain 14 = .ok (.getfield 54, 3) := by decide +kernel
theorem dX2_findChain_17 : decode cX2_findChain 17 = .ok (.if_icmp .ge 16, 3) := by decide +kernel
theorem dX2_findChain_20 : decode cX2_findChain 20 = .ok (.aload_n 0, 1) := by decide +kernel
theorem dX2_findChain_21 : decode cX2_findChain 21 = .ok (.aload_n 1, 1) := by decide +kernel
theorem dX2_findChain_22 : decode cX2_findChain 22 = .ok (.iload_n 2, 1) := by decide +kernel
theorem dX2_findChain_23 : decode cX2_findChain 23 = .ok (.iload_n 3, 1) := by decide +kernel
theorem dX2_findChain_24 : decode cX2_findChain 24 = .ok (.invokevirtual 59, 3) := by decide +kernel
theorem dX2_findChain_27 : decode cX2_findChain 27 = .ok (.iinc 3 1, 3) := by decide +kernel
theorem dX2_findChain_30 : decode cX2_findChain 30 = .ok (.goto (-21), 3) := by decide +kernel
theorem dX2_findChain_33 : decode cX2_findChain 33 = .ok (.aload_n 0, 1) := by decide +kernel
theorem dX2_findChain_34 : decode cX2_findChain 34 = .ok (.getfield 9, 3) := by decide +kernel
theorem dX2_findChain_37 : decode cX2_findChain 37 = .ok (.ifCond .eq 4, 3) := by decide +kernel
theorem dX2_findChain_40 : decode cX2_findChain 40 = .ok (.return_, 1) := by decide +kernel
theorem dX2_findChain_41 : decode cX2_findChain 41 = .ok (.iconst 0, 1) := by decide +kernel
theorem dX2_findChain_42 : decode cX2_findChain 42 = .ok (.istore_n 3, 1) := by decide +kernel
theorem dX2_findChain_43 : decode cX2_findChain 43 = .ok (.iload_n 3, 1) := by decide +kernel
theorem dX2_findChain_44 : decode cX2_findChain 44 = .ok (.aload_n 0, 1) := by decide +kernel
theorem dX2_findChain_45 : decode cX2_findChain 45 = .ok (.getfield 41, 3) := by decide +kernel
theorem dX2_findChain_48 : decode cX2_findChain 48 = .ok (.getfield 54, 3) := by decide +kernel
theorem dX2_findChain_51 : decode cX2_findChain 51 = .ok (.if_icmp .ge 16, 3) := by decide +kernel
theorem dX2_findChain_54 : decode cX2_findChain 54 = .ok (.aload_n 0, 1) := by decide +kernel
theorem dX2_findChain_55 : decode cX2_findChain 55 = .ok (.aload_n 1, 1) := by decide +kernel
theorem dX2_findChain_56 : decode cX2_findChain 56 = .ok (.iload_n 2, 1) := by decide +kernel
theorem dX2_findChain_57 : decode cX2_findChain 57 = .ok (.iload_n 3, 1) := by decide +kernel
theorem dX2_findChain_58 : decode cX2_findChain 58 = .ok (.invokevirtual 63, 3) := by decide +kernel
theorem dX2_findChain_61 : decode cX2_findChain 61 = .ok (.iinc 3 1, 3) := by decide +kernel
theorem dX2_findChain_64 : decode cX2_findChain 64 = .ok (.goto (-21), 3) := by decide +kernel
theorem dX2_findChain_67 : decode cX2_findChain 67 = .ok (.return_, 1) := by decide +kernel
theorem dX2_findImprovement_0 : decode cX2_findImprovement 0 = .ok (.aload_n 0, 1) := by decide +kernel
theorem dX2_findImprovement_1 : decode cX2_findImprovement 1 = .ok (.aload_n 1, 1) := by decide +kernel
theorem dX2_findImprovement_2 : decode cX2_findImprovement 2 = .ok (.iconst 0, 1) := by decide +kernel
theorem dX2_findImprovement_3 : decode cX2_findImprovement 3 = .ok (.invokevirtual 50, 3) := by decide +kernel
theorem dX2_findImprovement_6 : decode cX2_findImprovement 6 = .ok (.iconst 0, 1) := by decide +kernel
theorem dX2_findImprovement_7 : decode cX2_findImprovement 7 = .ok (.istore_n 2, 1) := by decide +kernel
theorem dX2_findImprovement_8 : decode cX2_findImprovement 8 = .ok (.iload_n 2, 1) := by decide +kernel
theorem dX2_findImprovement_9 : decode cX2_findImprovement 9 = .ok (.aload_n 0, 1) := by decide +kernel
theorem dX2_findImprovement_10 : decode cX2_findImprovement 10 = .ok (.getfield 41, 3) := by decide +kernel
theorem dX2_findImprovement_13 : decode cX2_findImprovement 13 = .ok (.getfield 54, 3) := by decide +kernel
theorem dX2_findImprovement_16 : decode cX2_findImprovement 16 = .ok (.if_icmp .ge 69, 3) := by decide +kernel
theorem dX2_findImprovement_19 : decode cX2_findImprovement 19 = .ok (.aload_n 1, 1) := by decide +kernel
theorem dX2_findImprovement_20 : decode cX2_findImprovement 20 = .ok (.getfield 66, 3) := by decide +kernel
theorem dX2_findImprovement_23 : decode cX2_findImprovement 23 = .ok (.iload_n 2, 1) := by decide +kernel
theorem dX2_findImprovement_24 : decode cX2_findImprovement 24 = .ok (.iaload, 1) := by decide +kernel
theorem dX2_findImprovement_25 : decode cX2_findImprovement 25 = .ok (.iconst (-1), 1) := by decide +kernel
theorem dX2_findImprovement_26 : decode cX2_findImprovement 26 = .ok (.if_icmp .eq 53, 3) := by decide +kernel
theorem dX2_findImprovement_29 : decode cX2_findImprovement 29 = .ok (.aload_n 0, 1) := by decide +kernel
theorem dX2_findImprovement_30 : decode cX2_findImprovement 30 = .ok (.getfield 35, 3) := by decide +kernel
theorem dX2_findImprovement_33 : decode cX2_findImprovement 33 = .ok (.aload_n 1, 1) := by decide +kernel
theorem dX2_findImprovement_34 : decode cX2_findImprovement 34 = .ok (.invokevirtual 70, 3) := by decide +kernel
theorem dX2_findImprovement_37 : decode cX2_findImprovement 37 = .ok (.aload_n 0, 1) := by decide +kernel
theorem dX2_findImprovement_38 : decode cX2_findImprovement 38 = .ok (.getfield 35, 3) := by decide +kernel
theorem dX2_findImprovement_41 : decode cX2_findImprovement 41 = .ok (.iload_n 2, 1) := by decide +kernel
theorem dX2_findImprovement_42 : decode cX2_findImprovement 42 = .ok (.invokevirtual 74, 3) := by decide +kernel
theorem dX2_findImprovement_45 : decode cX2_findImprovement 45 = .ok (.aload_n 0, 1) := by decide +kernel
theorem dX2_findImprovement_46 : decode cX2_findImprovement 46 = .ok (.getfield 45, 3) := by decide +kernel
theorem dX2_findImprovement_49 : decode cX2_findImprovement 49 = .ok (.iconst (-1), 1) := by decide +kernel
theorem dX2_findImprovement_50 : decode cX2_findImprovement 50 = .ok (.aload_n 0, 1) := by decide +kernel
theorem dX2_findImprovement_51 : decode cX2_findImprovement 51 = .ok (.getfield 35, 3) := by decide +kernel
theorem dX2_findImprovement_54 : decode cX2_findImprovement 54 = .ok (.iload_n 2, 1) := by decide +kernel
theorem dX2_findImprovement_55 : decode cX2_findImprovement 55 = .ok (.invokevirtual 78, 3) := by decide +kernel
theorem dX2_findImprovement_58 : decode cX2_findImprovement 58 = .ok (.aload_n 0, 1) := by decide +kernel
theorem dX2_findImprovement_59 : decode cX2_findImprovement 59 = .ok (.getfield 45, 3) := by decide +kernel
theorem dX2_findImprovement_62 : decode cX2_findImprovement 62 = .ok (.aload_n 0, 1) := by decide +kernel
theorem dX2_findImprovement_63 : decode cX2_findImprovement 63 = .ok (.getfield 35, 3) := by decide +kernel
theorem dX2_findImprovement_66 : decode cX2_findImprovement 66 = .ok (.iload_n 2, 1) := by decide +kernel
theorem dX2_findImprovement_67 : decode cX2_findImprovement 67 = .ok (.invokevirtual 84, 3) := by decide +kernel
theorem dX2_findImprovement_70 : decode cX2_findImprovement 70 = .ok (.ifCond .eq 9, 3) := by decide +kernel
theorem dX2_findImprovement_73 : decode cX2_findImprovement 73 = .ok (.aload_n 0, 1) := by decide +kernel
theorem dX2_findImprovement_74 : decode cX2_findImprovement 74 = .ok (.iload_n 2, 1) := by decide +kernel
theorem dX2_findImprovement_75 : decode cX2_findImprovement 75 = .ok (.iload_n 2, 1) := by decide +kernel
theorem dX2_findImprovement_76 : decode cX2_findImprovement 76 = .ok (.invokevirtual 88, 3) := by decide +kernel
theorem dX2_findImprovement_79 : decode cX2_findImprovement 79 = .ok (.iinc 2 1, 3) := by decide +kernel
theorem dX2_findImprovement_82 : decode cX2_findImprovement 82 = .ok (.goto (-74), 3) := by decide +kernel
theorem dX2_findImprovement_85 : decode cX2_findImprovement 85 = .ok (.return_, 1) := by decide +kernel
theorem dX2_startOver_0 : decode cX2_startOver 0 = .ok (.aload_n 0, 1) := by decide +kernel
theorem dX2_startOver_1 : decode cX2_startOver 1 = .ok (.iconst 0, 1) := by decide +kernel
theorem dX2_startOver_2 : decode cX2_startOver 2 = .ok (.putfield 9, 3) := by decide +kernel
theorem dX2_startOver_5 : decode cX2_startOver 5 = .ok (.aload_n 0, 1) := by decide +kernel
theorem dX2_startOver_6 : decode cX2_startOver 6 = .ok (.iload_n 2, 1) := by decide +kernel
theorem dX2_startOver_7 : decode cX2_startOver 7 = .ok (.putfield 15, 3) := by decide +kernel
theorem dX2_startOver_10 : decode cX2_startOver 10 = .ok (.aload_n 0, 1) := by decide +kernel
theorem dX2_startOver_11 : decode cX2_startOver 11 = .ok (.aload_n 0, 1) := by decide +kernel
theorem dX2_startOver_12 : decode cX2_startOver 12 = .ok (.getfield 41, 3) := by decide +kernel
theorem dX2_startOver_15 : decode cX2_startOver 15 = .ok (.aload_n 1, 1) := by decide +kernel
theorem dX2_startOver_16 : decode cX2_startOver 16 = .ok (.invokevirtual 92, 3) := by decide +kernel
theorem dX2_startOver_19 : decode cX2_startOver 19 = .ok (.putfield 38, 3) := by decide +kernel
theorem dX2_startOver_22 : decode cX2_startOver 22 = .ok (.return_, 1) := by decide +kernel
theorem dX2_tryShortChain_0 : decode cX2_tryShortChain 0 = .ok (.aload_n 1, 1) := by decide +kernel
theorem dX2_tryShortChain_1 : decode cX2_tryShortChain 1 = .ok (.getfield 66, 3) := by decide +kernel
theorem dX2_tryShortChain_4 : decode cX2_tryShortChain 4 = .ok (.iload_n 3, 1) := by decide +kernel
theorem dX2_tryShortChain_5 : decode cX2_tryShortChain 5 = .ok (.iaload, 1) := by decide +kernel
theorem dX2_tryShortChain_6 : decode cX2_tryShortChain 6 = .ok (.istore 4, 2) := by decide +kernel
theorem dX2_tryShortChain_8 : decode cX2_tryShortChain 8 = .ok (.aload_n 0, 1) := by decide +kernel
theorem dX2_tryShortChain_9 : decode cX2_tryShortChain 9 = .ok (.getfield 35, 3) := by decide +kernel
theorem dX2_tryShortChain_12 : decode cX2_tryShortChain 12 = .ok (.aload_n 1, 1) := by decide +kernel
theorem dX2_tryShortChain_13 : decode cX2_tryShortChain 13 = .ok (.invokevirtual 70, 3) := by decide +kernel
theorem dX2_tryShortChain_16 : decode cX2_tryShortChain 16 = .ok (.aload_n 0, 1) := by decide +kernel
theorem dX2_tryShortChain_17 : decode cX2_tryShortChain 17 = .ok (.aload_n 0, 1) := by decide +kernel
theorem dX2_tryShortChain_18 : decode cX2_tryShortChain 18 = .ok (.getfield 35, 3) := by decide +kernel
theorem dX2_tryShortChain_21 : decode cX2_tryShortChain 21 = .ok (.iload_n 2, 1) := by decide +kernel
theorem dX2_tryShortChain_22 : decode cX2_tryShortChain 22 = .ok (.iload_n 3, 1) := by decide +kernel
theorem dX2_tryShortChain_23 : decode cX2_tryShortChain 23 = .ok (.invokevirtual 96, 3) := by decide +kernel
theorem dX2_tryShortChain_26 : decode cX2_tryShortChain 26 = .ok (.ifCond .eq 39, 3) := by decide +kernel
theorem dX2_tryShortChain_29 : decode cX2_tryShortChain 29 = .ok (.aload_n 0, 1) := by decide +kernel
theorem dX2_tryShortChain_30 : decode cX2_tryShortChain 30 = .ok (.getfield 45, 3) := by decide +kernel
theorem dX2_tryShortChain_33 : decode cX2_tryShortChain 33 = .ok (.iload 4, 2) := by decide +kernel
theorem dX2_tryShortChain_35 : decode cX2_tryShortChain 35 = .ok (.aload_n 0, 1) := by decide +kernel
theorem dX2_tryShortChain_36 : decode cX2_tryShortChain 36 = .ok (.getfield 35, 3) := by decide +kernel
theorem dX2_tryShortChain_39 : decode cX2_tryShortChain 39 = .ok (.iload_n 3, 1) := by decide +kernel
theorem dX2_tryShortChain_40 : decode cX2_tryShortChain 40 = .ok (.invokevirtual 78, 3) := by decide +kernel
theorem dX2_tryShortChain_43 : decode cX2_tryShortChain 43 = .ok (.aload_n 0, 1) := by decide +kernel
theorem dX2_tryShortChain_44 : decode cX2_tryShortChain 44 = .ok (.getfield 45, 3) := by decide +kernel
theorem dX2_tryShortChain_47 : decode cX2_tryShortChain 47 = .ok (.aload_n 0, 1) := by decide +kernel
theorem dX2_tryShortChain_48 : decode cX2_tryShortChain 48 = .ok (.getfield 35, 3) := by decide +kernel
theorem dX2_tryShortChain_51 : decode cX2_tryShortChain 51 = .ok (.iload_n 3, 1) := by decide +kernel
theorem dX2_tryShortChain_52 : decode cX2_tryShortChain 52 = .ok (.invokevirtual 84, 3) := by decide +kernel
theorem dX2_tryShortChain_55 : decode cX2_tryShortChain 55 = .ok (.ifCond .eq 10, 3) := by decide +kernel
theorem dX2_tryShortChain_58 : decode cX2_tryShortChain 58 = .ok (.aload_n 0, 1) := by decide +kernel
theorem dX2_tryShortChain_59 : decode cX2_tryShortChain 59 = .ok (.iload_n 3, 1) := by decide +kernel
theorem dX2_tryShortChain_60 : decode cX2_tryShortChain 60 = .ok (.bipush 99, 2) := by decide +kernel
theorem dX2_tryShortChain_62 : decode cX2_tryShortChain 62 = .ok (.invokevirtual 88, 3) := by decide +kernel
theorem dX2_tryShortChain_65 : decode cX2_tryShortChain 65 = .ok (.return_, 1) := by decide +kernel
theorem dX2_tryLongChains_0 : decode cX2_tryLongChains 0 = .ok (.aload_n 0, 1) := by decide +kernel
theorem dX2_tryLongChains_1 : decode cX2_tryLongChains 1 = .ok (.getfield 32, 3) := by decide +kernel
theorem dX2_tryLongChains_4 : decode cX2_tryLongChains 4 = .ok (.aload_n 1, 1) := by decide +kernel
theorem dX2_tryLongChains_5 : decode cX2_tryLongChains 5 = .ok (.invokevirtual 70, 3) := by decide +kernel
theorem dX2_tryLongChains_8 : decode cX2_tryLongChains 8 = .ok (.aload_n 0, 1) := by decide +kernel
theorem dX2_tryLongChains_9 : decode cX2_tryLongChains 9 = .ok (.aload_n 0, 1) := by decide +kernel
theorem dX2_tryLongChains_10 : decode cX2_tryLongChains 10 = .ok (.getfield 32, 3) := by decide +kernel
theorem dX2_tryLongChains_13 : decode cX2_tryLongChains 13 = .ok (.iload_n 2, 1) := by decide +kernel
theorem dX2_tryLongChains_14 : decode cX2_tryLongChains 14 = .ok (.iload_n 3, 1) := by decide +kernel
theorem dX2_tryLongChains_15 : decode cX2_tryLongChains 15 = .ok (.invokevirtual 96, 3) := by decide +kernel
theorem dX2_tryLongChains_18 : decode cX2_tryLongChains 18 = .ok (.ifCond .ne 4, 3) := by decide +kernel
theorem dX2_tryLongChains_21 : decode cX2_tryLongChains 21 = .ok (.return_, 1) := by decide +kernel
theorem dX2_tryLongChains_22 : decode cX2_tryLongChains 22 = .ok (.iconst 0, 1) := by decide +kernel
theorem dX2_tryLongChains_23 : decode cX2_tryLongChains 23 = .ok (.istore 4, 2) := by decide +kernel
theorem dX2_tryLongChains_25 : decode cX2_tryLongChains 25 = .ok (.iload 4, 2) := by decide +kernel
theorem dX2_tryLongChains_27 : decode cX2_tryLongChains 27 = .ok (.aload_n 0, 1) := by decide +kernel
theorem dX2_tryLongChains_28 : decode cX2_tryLongChains 28 = .ok (.getfield 41, 3) := by decide +kernel
theorem dX2_tryLongChains_31 : decode cX2_tryLongChains 31 = .ok (.getfield 54, 3) := by decide +kernel
theorem dX2_tryLongChains_34 : decode cX2_tryLongChains 34 = .ok (.if_icmp .ge 101, 3) := by decide +kernel
theorem dX2_tryLongChains_37 : decode cX2_tryLongChains 37 = .ok (.aload_n 1, 1) := by decide +kernel
theorem dX2_tryLongChains_38 : decode cX2_tryLongChains 38 = .ok (.getfield 66, 3) := by decide +kernel
theorem dX2_tryLongChains_41 : decode cX2_tryLongChains 41 = .ok (.iload 4, 2) := by decide +kernel
theorem dX2_tryLongChains_43 : decode cX2_tryLongChains 43 = .ok (.iaload, 1) := by decide +kernel
theorem dX2_tryLongChains_44 : decode cX2_tryLongChains 44 = .ok (.istore 5, 2) := by decide +kernel
theorem dX2_tryLongChains_46 : decode cX2_tryLongChains 46 = .ok (.iload 5, 2) := by decide +kernel
theorem dX2_tryLongChains_48 : decode cX2_tryLongChains 48 = .ok (.iconst (-1), 1) := by decide +kernel
theorem dX2_tryLongChains_49 : decode cX2_tryLongChains 49 = .ok (.if_icmp .eq 80, 3) := by decide +kernel
theorem dX2_tryLongChains_52 : decode cX2_tryLongChains 52 = .ok (.iload 5, 2) := by decide +kernel
theorem dX2_tryLongChains_54 : decode cX2_tryLongChains 54 = .ok (.aload_n 1, 1) := by decide +kernel
theorem dX2_tryLongChains_55 : decode cX2_tryLongChains 55 = .ok (.getfield 66, 3) := by decide +kernel
theorem dX2_tryLongChains_58 : decode cX2_tryLongChains 58 = .ok (.iload_n 3, 1) := by decide +kernel
theorem dX2_tryLongChains_59 : decode cX2_tryLongChains 59 = .ok (.iaload, 1) := by decide +kernel
theorem dX2_tryLongChains_60 : decode cX2_tryLongChains 60 = .ok (.if_icmp .ne 6, 3) := by decide +kernel
theorem dX2_tryLongChains_63 : decode cX2_tryLongChains 63 = .ok (.goto 66, 3) := by decide +kernel
theorem dX2_tryLongChains_66 : decode cX2_tryLongChains 66 = .ok (.aload_n 0, 1) := by decide +kernel
theorem dX2_tryLongChains_67 : decode cX2_tryLongChains 67 = .ok (.getfield 35, 3) := by decide +kernel
theorem dX2_tryLongChains_70 : decode cX2_tryLongChains 70 = .ok (.aload_n 0, 1) := by decide +kernel
theorem dX2_tryLongChains_71 : decode cX2_tryLongChains 71 = .ok (.getfield 32, 3) := by decide +kernel
theorem dX2_tryLongChains_74 : decode cX2_tryLongChains 74 = .ok (.invokevirtual 70, 3) := by decide +kernel
theorem dX2_tryLongChains_77 : decode cX2_tryLongChains 77 = .ok (.aload_n 0, 1) := by decide +kernel
theorem dX2_tryLongChains_78 : decode cX2_tryLongChains 78 = .ok (.aload_n 0, 1) := by decide +kernel
theorem dX2_tryLongChains_79 : decode cX2_tryLongChains 79 = .ok (.getfield 35, 3) := by decide +kernel
theorem dX2_tryLongChains_82 : decode cX2_tryLongChains 82 = .ok (.iload_n 3, 1) := by decide +kernel
theorem dX2_tryLongChains_83 : decode cX2_tryLongChains 83 = .ok (.iload 4, 2) := by decide +kernel
theorem dX2_tryLongChains_85 : decode cX2_tryLongChains 85 = .ok (.invokevirtual 96, 3) := by decide +kernel
theorem dX2_tryLongChains_88 : decode cX2_tryLongChains 88 = .ok (.ifCond .eq 41, 3) := by decide +kernel
theorem dX2_tryLongChains_91 : decode cX2_tryLongChains 91 = .ok (.aload_n 0, 1) := by decide +kernel
theorem dX2_tryLongChains_92 : decode cX2_tryLongChains 92 = .ok (.getfield 45, 3) := by decide +kernel
theorem dX2_tryLongChains_95 : decode cX2_tryLongChains 95 = .ok (.iload 5, 2) := by decide +kernel
theorem dX2_tryLongChains_97 : decode cX2_tryLongChains 97 = .ok (.aload_n 0, 1) := by decide +kernel
theorem dX2_tryLongChains_98 : decode cX2_tryLongChains 98 = .ok (.getfield 35, 3) := by decide +kernel
theorem dX2_tryLongChains_101 : decode cX2_tryLongChains 101 = .ok (.iload 4, 2) := by decide +kernel
theorem dX2_tryLongChains_103 : decode cX2_tryLongChains 103 = .ok (.invokevirtual 78, 3) := by decide +kernel
theorem dX2_tryLongChains_106 : decode cX2_tryLongChains 106 = .ok (.aload_n 0, 1) := by decide +kernel
theorem dX2_tryLongChains_107 : decode cX2_tryLongChains 107 = .ok (.getfield 45, 3) := by decide +kernel
theorem dX2_tryLongChains_110 : decode cX2_tryLongChains 110 = .ok (.aload_n 0, 1) := by decide +kernel
theorem dX2_tryLongChains_111 : decode cX2_tryLongChains 111 = .ok (.getfield 35, 3) := by decide +kernel
theorem dX2_tryLongChains_114 : decode cX2_tryLongChains 114 = .ok (.iload 4, 2) := by decide +kernel
theorem dX2_tryLongChains_116 : decode cX2_tryLongChains 116 = .ok (.invokevirtual 84, 3) := by decide +kernel
theorem dX2_tryLongChains_119 : decode cX2_tryLongChains 119 = .ok (.ifCond .eq 10, 3) := by decide +kernel
theorem dX2_tryLongChains_122 : decode cX2_tryLongChains 122 = .ok (.aload_n 0, 1) := by decide +kernel
theorem dX2_tryLongChains_123 : decode cX2_tryLongChains 123 = .ok (.iload_n 3, 1) := by decide +kernel
theorem dX2_tryLongChains_124 : decode cX2_tryLongChains 124 = .ok (.iload 4, 2) := by decide +kernel
theorem dX2_tryLongChains_126 : decode cX2_tryLongChains 126 = .ok (.invokevirtual 88, 3) := by decide +kernel
theorem dX2_tryLongChains_129 : decode cX2_tryLongChains 129 = .ok (.iinc 4 1, 3) := by decide +kernel
theorem dX2_tryLongChains_132 : decode cX2_tryLongChains 132 = .ok (.goto (-107), 3) := by decide +kernel
theorem dX2_tryLongChains_135 : decode cX2_tryLongChains 135 = .ok (.return_, 1) := by decide +kernel
theorem dX2_displace_0 : decode cX2_displace 0 = .ok (.aload_n 1, 1) := by decide +kernel
theorem dX2_displace_1 : decode cX2_displace 1 = .ok (.getfield 66, 3) := by decide +kernel
theorem dX2_displace_4 : decode cX2_displace 4 = .ok (.iload_n 3, 1) := by decide +kernel
theorem dX2_displace_5 : decode cX2_displace 5 = .ok (.iaload, 1) := by decide +kernel
theorem dX2_displace_6 : decode cX2_displace 6 = .ok (.istore 4, 2) := by decide +kernel
theorem dX2_displace_8 : decode cX2_displace 8 = .ok (.iload 4, 2) := by decide +kernel
theorem dX2_displace_10 : decode cX2_displace 10 = .ok (.iconst (-1), 1) := by decide +kernel
theorem dX2_displace_11 : decode cX2_displace 11 = .ok (.if_icmp .ne 5, 3) := by decide +kernel
theorem dX2_displace_14 : decode cX2_displace 14 = .ok (.iconst 0, 1) := by decide +kernel
theorem dX2_displace_15 : decode cX2_displace 15 = .ok (.ireturn, 1) := by decide +kernel
theorem dX2_displace_16 : decode cX2_displace 16 = .ok (.aload_n 1, 1) := by decide +kernel
theorem dX2_displace_17 : decode cX2_displace 17 = .ok (.iload_n 3, 1) := by decide +kernel
theorem dX2_displace_18 : decode cX2_displace 18 = .ok (.invokevirtual 74, 3) := by decide +kernel
theorem dX2_displace_21 : decode cX2_displace 21 = .ok (.aload_n 0, 1) := by decide +kernel
theorem dX2_displace_22 : decode cX2_displace 22 = .ok (.getfield 45, 3) := by decide +kernel
theorem dX2_displace_25 : decode cX2_displace 25 = .ok (.invokevirtual 100, 3) := by decide +kernel
theorem dX2_displace_28 : decode cX2_displace 28 = .ok (.aload_n 0, 1) := by decide +kernel
theorem dX2_displace_29 : decode cX2_displace 29 = .ok (.getfield 45, 3) := by decide +kernel
theorem dX2_displace_32 : decode cX2_displace 32 = .ok (.aload_n 1, 1) := by decide +kernel
theorem dX2_displace_33 : decode cX2_displace 33 = .ok (.getfield 102, 3) := by decide +kernel
theorem dX2_displace_36 : decode cX2_displace 36 = .ok (.iload 4, 2) := by decide +kernel
theorem dX2_displace_38 : decode cX2_displace 38 = .ok (.aaload, 1) := by decide +kernel
theorem dX2_displace_39 : decode cX2_displace 39 = .ok (.iload_n 2, 1) := by decide +kernel
theorem dX2_displace_40 : decode cX2_displace 40 = .ok (.invokevirtual 106, 3) := by decide +kernel
theorem dX2_displace_43 : decode cX2_displace 43 = .ok (.aload_n 0, 1) := by decide +kernel
theorem dX2_displace_44 : decode cX2_displace 44 = .ok (.getfield 45, 3) := by decide +kernel
theorem dX2_displace_47 : decode cX2_displace 47 = .ok (.aload_n 1, 1) := by decide +kernel
theorem dX2_displace_48 : decode cX2_displace 48 = .ok (.iload_n 2, 1) := by decide +kernel
theorem dX2_displace_49 : decode cX2_displace 49 = .ok (.invokevirtual 84, 3) := by decide +kernel
theorem dX2_displace_52 : decode cX2_displace 52 = .ok (.ireturn, 1) := by decide +kernel
theorem dX2_keepIfBest_0 : decode cX2_keepIfBest 0 = .ok (.aload_n 0, 1) := by decide +kernel
theorem dX2_keepIfBest_1 : decode cX2_keepIfBest 1 = .ok (.getfield 41, 3) := by decide +kernel
theorem dX2_keepIfBest_4 : decode cX2_keepIfBest 4 = .ok (.aload_n 0, 1) := by decide +kernel
theorem dX2_keepIfBest_5 : decode cX2_keepIfBest 5 = .ok (.getfield 35, 3) := by decide +kernel
theorem dX2_keepIfBest_8 : decode cX2_keepIfBest 8 = .ok (.invokevirtual 92, 3) := by decide +kernel
theorem dX2_keepIfBest_11 : decode cX2_keepIfBest 11 = .ok (.aload_n 0, 1) := by decide +kernel
theorem dX2_keepIfBest_12 : decode cX2_keepIfBest 12 = .ok (.getfield 38, 3) := by decide +kernel
theorem dX2_keepIfBest_15 : decode cX2_keepIfBest 15 = .ok (.isub, 1) := by decide +kernel
theorem dX2_keepIfBest_16 : decode cX2_keepIfBest 16 = .ok (.istore_n 3, 1) := by decide +kernel
theorem dX2_keepIfBest_17 : decode cX2_keepIfBest 17 = .ok (.iload_n 3, 1) := by decide +kernel
theorem dX2_keepIfBest_18 : decode cX2_keepIfBest 18 = .ok (.aload_n 0, 1) := by decide +kernel
theorem dX2_keepIfBest_19 : decode cX2_keepIfBest 19 = .ok (.getfield 15, 3) := by decide +kernel
theorem dX2_keepIfBest_22 : decode cX2_keepIfBest 22 = .ok (.if_icmp .ge 34, 3) := by decide +kernel
theorem dX2_keepIfBest_25 : decode cX2_keepIfBest 25 = .ok (.aload_n 0, 1) := by decide +kernel
theorem dX2_keepIfBest_26 : decode cX2_keepIfBest 26 = .ok (.iconst 1, 1) := by decide +kernel
theorem dX2_keepIfBest_27 : decode cX2_keepIfBest 27 = .ok (.putfield 9, 3) := by decide +kernel
theorem dX2_keepIfBest_30 : decode cX2_keepIfBest 30 = .ok (.aload_n 0, 1) := by decide +kernel
theorem dX2_keepIfBest_31 : decode cX2_keepIfBest 31 = .ok (.iload_n 3, 1) := by decide +kernel
theorem dX2_keepIfBest_32 : decode cX2_keepIfBest 32 = .ok (.putfield 15, 3) := by decide +kernel
theorem dX2_keepIfBest_35 : decode cX2_keepIfBest 35 = .ok (.aload_n 0, 1) := by decide +kernel
theorem dX2_keepIfBest_36 : decode cX2_keepIfBest 36 = .ok (.iload_n 1, 1) := by decide +kernel
theorem dX2_keepIfBest_37 : decode cX2_keepIfBest 37 = .ok (.putfield 19, 3) := by decide +kernel
theorem dX2_keepIfBest_40 : decode cX2_keepIfBest 40 = .ok (.aload_n 0, 1) := by decide +kernel
theorem dX2_keepIfBest_41 : decode cX2_keepIfBest 41 = .ok (.iload_n 2, 1) := by decide +kernel
theorem dX2_keepIfBest_42 : decode cX2_keepIfBest 42 = .ok (.putfield 22, 3) := by decide +kernel
theorem dX2_keepIfBest_45 : decode cX2_keepIfBest 45 = .ok (.aload_n 0, 1) := by decide +kernel
theorem dX2_keepIfBest_46 : decode cX2_keepIfBest 46 = .ok (.getfield 28, 3) := by decide +kernel
theorem dX2_keepIfBest_49 : decode cX2_keepIfBest 49 = .ok (.aload_n 0, 1) := by decide +kernel
theorem dX2_keepIfBest_50 : decode cX2_keepIfBest 50 = .ok (.getfield 35, 3) := by decide +kernel
theorem dX2_keepIfBest_53 : decode cX2_keepIfBest 53 = .ok (.invokevirtual 70, 3) := by decide +kernel
theorem dX2_keepIfBest_56 : decode cX2_keepIfBest 56 = .ok (.return_, 1) := by decide +kernel
theorem dX3_init_0 : decode cX3_init 0 = .ok (.aload_n 0, 1) := by decide +kernel
theorem dX3_init_1 : decode cX3_init 1 = .ok (.invokespecial 3, 3) := by decide +kernel
theorem dX3_init_4 : decode cX3_init 4 = .ok (.aload_n 0, 1) := by decide +kernel
theorem dX3_init_5 : decode cX3_init 5 = .ok (.iconst 4, 1) := by decide +kernel
theorem dX3_init_6 : decode cX3_init 6 = .ok (.anewarray 9, 3) := by decide +kernel
theorem dX3_init_9 : decode cX3_init 9 = .ok (.putfield 11, 3) := by decide +kernel
theorem dX3_init_12 : decode cX3_init 12 = .ok (.aload_n 0, 1) := by decide +kernel
theorem dX3_init_13 : decode cX3_init 13 = .ok (.bipush 12, 2) := by decide +kernel
theorem dX3_init_15 : decode cX3_init 15 = .ok (.newarray .int, 2) := by decide +kernel
theorem dX3_init_17 : decode cX3_init 17 = .ok (.putfield 17, 3) := by decide +kernel
theorem dX3_init_20 : decode cX3_init 20 = .ok (.iconst 0, 1) := by decide +kernel
theorem dX3_init_21 : decode cX3_init 21 = .ok (.istore_n 1, 1) := by decide +kernel
theorem dX3_init_22 : decode cX3_init 22 = .ok (.iload_n 1, 1) := by decide +kernel
theorem dX3_init_23 : decode cX3_init 23 = .ok (.iconst 4, 1) := by decide +kernel
theorem dX3_init_24 : decode cX3_init 24 = .ok (.if_icmp .ge 23, 3) := by decide +kernel
theorem dX3_init_27 : decode cX3_init 27 = .ok (.aload_n 0, 1) := by decide +kernel
theorem dX3_init_28 : decode cX3_init 28 = .ok (.getfield 11, 3) := by decide +kernel
theorem dX3_init_31 : decode cX3_init 31 = .ok (.iload_n 1, 1) := by decide +kernel
theorem dX3_init_32 : decode cX3_init 32 = .ok (.new 9, 3) := by decide +kernel
theorem dX3_init_35 : decode cX3_init 35 = .ok (.dup, 1) := by decide +kernel
theorem dX3_init_36 : decode cX3_init 36 = .ok (.iload_n 1, 1) := by decide +kernel
theorem dX3_init_37 : decode cX3_init 37 = .ok (.invokespecial 21, 3) := by decide +kernel
theorem dX3_init_40 : decode cX3_init 40 = .ok (.aastore, 1) := by decide +kernel
theorem dX3_init_41 : decode cX3_init 41 = .ok (.iinc 1 1, 3) := by decide +kernel
theorem dX3_init_44 : decode cX3_init 44 = .ok (.goto (-22), 3) := by decide +kernel
theorem dX3_init_47 : decode cX3_init 47 = .ok (.iconst 0, 1) := by decide +kernel
theorem dX3_init_48 : decode cX3_init 48 = .ok (.istore_n 1, 1) := by decide +kernel
theorem dX3_init_49 : decode cX3_init 49 = .ok (.iload_n 1, 1) := by decide +kernel
theorem dX3_init_50 : decode cX3_init 50 = .ok (.bipush 12, 2) := by decide +kernel
theorem dX3_init_52 : decode cX3_init 52 = .ok (.if_icmp .ge 16, 3) := by decide +kernel
theorem dX3_init_55 : decode cX3_init 55 = .ok (.aload_n 0, 1) := by decide +kernel
theorem dX3_init_56 : decode cX3_init 56 = .ok (.getfield 17, 3) := by decide +kernel
theorem dX3_init_59 : decode cX3_init 59 = .ok (.iload_n 1, 1) := by decide +kernel
theorem dX3_init_60 : decode cX3_init 60 = .ok (.iconst (-1), 1) := by decide +kernel
theorem dX3_init_61 : decode cX3_init 61 = .ok (.iastore, 1) := by decide +kernel
theorem dX3_init_62 : decode cX3_init 62 = .ok (.iinc 1 1, 3) := by decide +kernel
theorem dX3_init_65 : decode cX3_init 65 = .ok (.goto (-16), 3) := by decide +kernel
theorem dX3_init_68 : decode cX3_init 68 = .ok (.return_, 1) := by decide +kernel
theorem dX3_become_0 : decode cX3_become 0 = .ok (.iconst 0, 1) := by decide +kernel
theorem dX3_become_1 : decode cX3_become 1 = .ok (.istore_n 2, 1) := by decide +kernel
theorem dX3_become_2 : decode cX3_become 2 = .ok (.iload_n 2, 1) := by decide +kernel
theorem dX3_become_3 : decode cX3_become 3 = .ok (.iconst 4, 1) := by decide +kernel
theorem dX3_become_4 : decode cX3_become 4 = .ok (.if_icmp .ge 24, 3) := by decide +kernel
theorem dX3_become_7 : decode cX3_become 7 = .ok (.aload_n 0, 1) := by decide +kernel
theorem dX3_become_8 : decode cX3_become 8 = .ok (.getfield 11, 3) := by decide +kernel
theorem dX3_become_11 : decode cX3_become 11 = .ok (.iload_n 2, 1) := by decide +kernel
theorem dX3_become_12 : decode cX3_become 12 = .ok (.aaload, 1) := by decide +kernel
theorem dX3_become_13 : decode cX3_become 13 = .ok (.aload_n 1, 1) := by decide +kernel
theorem dX3_become_14 : decode cX3_become 14 = .ok (.getfield 11, 3) := by decide +kernel
theorem dX3_become_17 : decode cX3_become 17 = .ok (.iload_n 2, 1) := by decide +kernel
theorem dX3_become_18 : decode cX3_become 18 = .ok (.aaload, 1) := by decide +kernel
theorem dX3_become_19 : decode cX3_become 19 = .ok (.invokevirtual 24, 3) := by decide +kernel
theorem dX3_become_22 : decode cX3_become 22 = .ok (.iinc 2 1, 3) := by decide +kernel
theorem dX3_become_25 : decode cX3_become 25 = .ok (.goto (-23), 3) := by decide +kernel
theorem dX3_become_28 : decode cX3_become 28 = .ok (.aload_n 1, 1) := by decide +kernel
theorem dX3_become_29 : decode cX3_become 29 = .ok (.getfield 17, 3) := by decide +kernel
theorem dX3_become_32 : decode cX3_become 32 = .ok (.iconst 0, 1) := by decide +kernel
theorem dX3_become_33 : decode cX3_become 33 = .ok (.aload_n 0, 1) := by decide +kernel
theorem dX3_become_34 : decode cX3_become 34 = .ok (.getfield 17, 3) := by decide +kernel
theorem dX3_become_37 : decode cX3_become 37 = .ok (.iconst 0, 1) := by decide +kernel
theorem dX3_become_38 : decode cX3_become 38 = .ok (.bipush 12, 2) := by decide +kernel
theorem dX3_become_40 : decode cX3_become 40 = .ok (.invokestatic 28, 3) := by decide +kernel
theorem dX3_become_43 : decode cX3_become 43 = .ok (.return_, 1) := by decide +kernel
theorem dX3_put_0 : decode cX3_put 0 = .ok (.iload_n 2, 1) := by decide +kernel
theorem dX3_put_1 : decode cX3_put 1 = .ok (.iconst (-1), 1) := by decide +kernel
theorem dX3_put_2 : decode cX3_put 2 = .ok (.if_icmp .ne 4, 3) := by decide +kernel
theorem dX3_put_5 : decode cX3_put 5 = .ok (.return_, 1) := by decide +kernel
theorem dX3_put_6 : decode cX3_put 6 = .ok (.aload_n 0, 1) := by decide +kernel
theorem dX3_put_7 : decode cX3_put 7 = .ok (.getfield 11, 3) := by decide +kernel
theorem dX3_put_10 : decode cX3_put 10 = .ok (.iload_n 2, 1) := by decide +kernel
theorem dX3_put_11 : decode cX3_put 11 = .ok (.aaload, 1) := by decide +kernel
theorem dX3_put_12 : decode cX3_put 12 = .ok (.iload_n 1, 1) := by decide +kernel
theorem dX3_put_13 : decode cX3_put 13 = .ok (.iload_n 3, 1) := by decide +kernel
theorem dX3_put_14 : decode cX3_put 14 = .ok (.iload 4, 2) := by decide +kernel
theorem dX3_put_16 : decode cX3_put 16 = .ok (.invokevirtual 34, 3) := by decide +kernel
theorem dX3_put_19 : decode cX3_put 19 = .ok (.aload_n 0, 1) := by decide +kernel
theorem dX3_put_20 : decode cX3_put 20 = .ok (.getfield 17, 3) := by decide +kernel
theorem dX3_put_23 : decode cX3_put 23 = .ok (.iload_n 1, 1) := by decide +kernel
theorem dX3_put_24 : decode cX3_put 24 = .ok (.iload_n 2, 1) := by decide +kernel
theorem dX3_put_25 : decode cX3_put 25 = .ok (.iastore, 1) := by decide +kernel
theorem dX3_put_26 : decode cX3_put 26 = .ok (.return_, 1) := by decide +kernel
theorem dX3_take_0 : decode cX3_take 0 = .ok (.aload_n 0, 1) := by decide +kernel
theorem dX3_take_1 : decode cX3_take 1 = .ok (.getfield 17, 3) := by decide +kernel
theorem dX3_take_4 : decode cX3_take 4 = .ok (.iload_n 1, 1) := by decide +kernel
theorem dX3_take_5 : decode cX3_take 5 = .ok (.iaload, 1) := by decide +kernel
theorem dX3_take_6 : decode cX3_take 6 = .ok (.iconst (-1), 1) := by decide +kernel
theorem dX3_take_7 : decode cX3_take 7 = .ok (.if_icmp .ne 4, 3) := by decide +kernel
theorem dX3_take_10 : decode cX3_take 10 = .ok (.return_, 1) := by decide +kernel
theorem dX3_take_11 : decode cX3_take 11 = .ok (.aload_n 0, 1) := by decide +kernel
theorem dX3_take_12 : decode cX3_take 12 = .ok (.getfield 11, 3) := by decide +kernel
theorem dX3_take_15 : decode cX3_take 15 = .ok (.aload_n 0, 1) := by decide +kernel
theorem dX3_take_16 : decode cX3_take 16 = .ok (.getfield 17, 3) := by decide +kernel
theorem dX3_take_19 : decode cX3_take 19 = .ok (.iload_n 1, 1) := by decide +kernel
theorem dX3_take_20 : decode cX3_take 20 = .ok (.iaload, 1) := by decide +kernel
theorem dX3_take_21 : decode cX3_take 21 = .ok (.aaload, 1) := by decide +kernel
theorem dX3_take_22 : decode cX3_take 22 = .ok (.iload_n 1, 1) := by decide +kernel
theorem dX3_take_23 : decode cX3_take 23 = .ok (.invokevirtual 38, 3) := by decide +kernel
theorem dX3_take_26 : decode cX3_take 26 = .ok (.aload_n 0, 1) := by decide +kernel
theorem dX3_take_27 : decode cX3_take 27 = .ok (.getfield 17, 3) := by decide +kernel
theorem dX3_take_30 : decode cX3_take 30 = .ok (.iload_n 1, 1) := by decide +kernel
theorem dX3_take_31 : decode cX3_take 31 = .ok (.iconst (-1), 1) := by decide +kernel
theorem dX3_take_32 : decode cX3_take 32 = .ok (.iastore, 1) := by decide +kernel
theorem dX3_take_33 : decode cX3_take 33 = .ok (.return_, 1) := by decide +kernel
theorem dX3_requestsOf_0 : decode cX3_requestsOf 0 = .ok (.iconst 0, 1) := by decide +kernel
theorem dX3_requestsOf_1 : decode cX3_requestsOf 1 = .ok (.istore_n 2, 1) := by decide +kernel
theorem dX3_requestsOf_2 : decode cX3_requestsOf 2 = .ok (.iconst 0, 1) := by decide +kernel
theorem dX3_requestsOf_3 : decode cX3_requestsOf 3 = .ok (.istore_n 3, 1) := by decide +kernel
theorem dX3_requestsOf_4 : decode cX3_requestsOf 4 = .ok (.iload_n 3, 1) := by decide +kernel
theorem dX3_requestsOf_5 : decode cX3_requestsOf 5 = .ok (.bipush 12, 2) := by decide +kernel
theorem dX3_requestsOf_7 : decode cX3_requestsOf 7 = .ok (.if_icmp .ge 25, 3) := by decide +kernel
theorem dX3_requestsOf_10 : decode cX3_requestsOf 10 = .ok (.aload_n 0, 1) := by decide +kernel
theorem dX3_requestsOf_11 : decode cX3_requestsOf 11 = .ok (.getfield 17, 3) := by decide +kernel
theorem dX3_requestsOf_14 : decode cX3_requestsOf 14 = .ok (.iload_n 3, 1) := by decide +kernel
theorem dX3_requestsOf_15 : decode cX3_requestsOf 15 = .ok (.iaload, 1) := by decide +kernel
theorem dX3_requestsOf_16 : decode cX3_requestsOf 16 = .ok (.iload_n 1, 1) := by decide +kernel
theorem dX3_requestsOf_17 : decode cX3_requestsOf 17 = .ok (.if_icmp .ne 9, 3) := by decide +kernel
theorem dX3_requestsOf_20 : decode cX3_requestsOf 20 = .ok (.iload_n 2, 1) := by decide +kernel
theorem dX3_requestsOf_21 : decode cX3_requestsOf 21 = .ok (.iconst 1, 1) := by decide +kernel
theorem dX3_requestsOf_22 : decode cX3_requestsOf 22 = .ok (.iload_n 3, 1) := by decide +kernel
theorem dX3_requestsOf_23 : decode cX3_requestsOf 23 = .ok (.ishl, 1) := by decide +kernel
theorem dX3_requestsOf_24 : decode cX3_requestsOf 24 = .ok (.ior, 1) := by decide +kernel
theorem dX3_requestsOf_25 : decode cX3_requestsOf 25 = .ok (.istore_n 2, 1) := by decide +kernel
theorem dX3_requestsOf_26 : decode cX3_requestsOf 26 = .ok (.iinc 3 1, 3) := by decide +kernel
theorem dX3_requestsOf_29 : decode cX3_requestsOf 29 = .ok (.goto (-25), 3) := by decide +kernel
theorem dX3_requestsOf_32 : decode cX3_requestsOf 32 = .ok (.iload_n 2, 1) := by decide +kernel
theorem dX3_requestsOf_33 : decode cX3_requestsOf 33 = .ok (.ireturn, 1) := by decide +kernel
theorem dX4_init_0 : decode cX4_init 0 = .ok (.aload_n 0, 1) := by decide +kernel
theorem dX4_init_1 : decode cX4_init 1 = .ok (.invokespecial 3, 3) := by decide +kernel
theorem dX4_init_4 : decode cX4_init 4 = .ok (.aload_n 0, 1) := by decide +kernel
theorem dX4_init_5 : decode cX4_init 5 = .ok (.iconst 0, 1) := by decide +kernel
theorem dX4_init_6 : decode cX4_init 6 = .ok (.putfield 9, 3) := by decide +kernel
theorem dX4_init_9 : decode cX4_init 9 = .ok (.aload_n 0, 1) := by decide +kernel
theorem dX4_init_10 : decode cX4_init 10 = .ok (.iconst 0, 1) := by decide +kernel
theorem dX4_init_11 : decode cX4_init 11 = .ok (.putfield 15, 3) := by decide +kernel
theorem dX4_init_14 : decode cX4_init 14 = .ok (.aload_n 0, 1) := by decide +kernel
theorem dX4_init_15 : decode cX4_init 15 = .ok (.iconst 1, 1) := by decide +kernel
theorem dX4_init_16 : decode cX4_init 16 = .ok (.putfield 18, 3) := by decide +kernel
theorem dX4_init_19 : decode cX4_init 19 = .ok (.aload_n 0, 1) := by decide +kernel
theorem dX4_init_20 : decode cX4_init 20 = .ok (.iconst 4, 1) := by decide +kernel
theorem dX4_init_21 : decode cX4_init 21 = .ok (.newarray .int, 2) := by decide +kernel
theorem dX4_init_23 : decode cX4_init 23 = .ok (.putfield 21, 3) := by decide +kernel
theorem dX4_init_26 : decode cX4_init 26 = .ok (.aload_n 0, 1) := by decide +kernel
theorem dX4_init_27 : decode cX4_init 27 = .ok (.iconst 4, 1) := by decide +kernel
theorem dX4_init_28 : decode cX4_init 28 = .ok (.newarray .int, 2) := by decide +kernel
theorem dX4_init_30 : decode cX4_init 30 = .ok (.putfield 25, 3) := by decide +kernel
theorem dX4_init_33 : decode cX4_init 33 = .ok (.aload_n 0, 1) := by decide +kernel
theorem dX4_init_34 : decode cX4_init 34 = .ok (.iconst 4, 1) := by decide +kernel
theorem dX4_init_35 : decode cX4_init 35 = .ok (.newarray .int, 2) := by decide +kernel
theorem dX4_init_37 : decode cX4_init 37 = .ok (.putfield 28, 3) := by decide +kernel
theorem dX4_init_40 : decode cX4_init 40 = .ok (.aload_n 0, 1) := by decide +kernel
theorem dX4_init_41 : decode cX4_init 41 = .ok (.bipush 12, 2) := by decide +kernel
theorem dX4_init_43 : decode cX4_init 43 = .ok (.newarray .int, 2) := by decide +kernel
theorem dX4_init_45 : decode cX4_init 45 = .ok (.putfield 31, 3) := by decide +kernel
theorem dX4_init_48 : decode cX4_init 48 = .ok (.aload_n 0, 1) := by decide +kernel
theorem dX4_init_49 : decode cX4_init 49 = .ok (.bipush 24, 2) := by decide +kernel
theorem dX4_init_51 : decode cX4_init 51 = .ok (.newarray .int, 2) := by decide +kernel
theorem dX4_init_53 : decode cX4_init 53 = .ok (.putfield 34, 3) := by decide +kernel
theorem dX4_init_56 : decode cX4_init 56 = .ok (.aload_n 0, 1) := by decide +kernel
theorem dX4_init_57 : decode cX4_init 57 = .ok (.bipush 24, 2) := by decide +kernel
theorem dX4_init_59 : decode cX4_init 59 = .ok (.newarray .int, 2) := by decide +kernel
theorem dX4_init_61 : decode cX4_init 61 = .ok (.putfield 37, 3) := by decide +kernel
theorem dX4_init_64 : decode cX4_init 64 = .ok (.aload_n 0, 1) := by decide +kernel
theorem dX4_init_65 : decode cX4_init 65 = .ok (.bipush 24, 2) := by decide +kernel
theorem dX4_init_67 : decode cX4_init 67 = .ok (.newarray .int, 2) := by decide +kernel
theorem dX4_init_69 : decode cX4_init 69 = .ok (.putfield 40, 3) := by decide +kernel
theorem dX4_init_72 : decode cX4_init 72 = .ok (.aload_n 0, 1) := by decide +kernel
theorem dX4_init_73 : decode cX4_init 73 = .ok (.bipush 28, 2) := by decide +kernel
theorem dX4_init_75 : decode cX4_init 75 = .ok (.newarray .int, 2) := by decide +kernel
theorem dX4_init_77 : decode cX4_init 77 = .ok (.putfield 43, 3) := by decide +kernel
theorem dX4_init_80 : decode cX4_init 80 = .ok (.aload_n 0, 1) := by decide +kernel
theorem dX4_init_81 : decode cX4_init 81 = .ok (.bipush 28, 2) := by decide +kernel
theorem dX4_init_83 : decode cX4_init 83 = .ok (.newarray .int, 2) := by decide +kernel
theorem dX4_init_85 : decode cX4_init 85 = .ok (.putfield 46, 3) := by decide +kernel
theorem dX4_init_88 : decode cX4_init 88 = .ok (.aload_n 0, 1) := by decide +kernel
theorem dX4_init_89 : decode cX4_init 89 = .ok (.bipush 28, 2) := by decide +kernel
theorem dX4_init_91 : decode cX4_init 91 = .ok (.bipush 28, 2) := by decide +kernel
theorem dX4_init_93 : decode cX4_init 93 = .ok (.multianewarray 49 2, 4) := by decide +kernel
theorem dX4_init_97 : decode cX4_init 97 = .ok (.putfield 51, 3) := by decide +kernel
theorem dX4_init_100 : decode cX4_init 100 = .ok (.return_, 1) := by decide +kernel
theorem dX4_keepPlace_0 : decode cX4_keepPlace 0 = .ok (.aload_n 0, 1) := by decide +kernel
theorem dX4_keepPlace_1 : decode cX4_keepPlace 1 = .ok (.getfield 43, 3) := by decide +kernel
theorem dX4_keepPlace_4 : decode cX4_keepPlace 4 = .ok (.iload_n 1, 1) := by decide +kernel
theorem dX4_keepPlace_5 : decode cX4_keepPlace 5 = .ok (.iload_n 2, 1) := by decide +kernel
theorem dX4_keepPlace_6 : decode cX4_keepPlace 6 = .ok (.iastore, 1) := by decide +kernel
theorem dX4_keepPlace_7 : decode cX4_keepPlace 7 = .ok (.aload_n 0, 1) := by decide +kernel
theorem dX4_keepPlace_8 : decode cX4_keepPlace 8 = .ok (.getfield 46, 3) := by decide +kernel
theorem dX4_keepPlace_11 : decode cX4_keepPlace 11 = .ok (.iload_n 1, 1) := by decide +kernel
theorem dX4_keepPlace_12 : decode cX4_keepPlace 12 = .ok (.iload_n 3, 1) := by decide +kernel
theorem dX4_keepPlace_13 : decode cX4_keepPlace 13 = .ok (.iastore, 1) := by decide +kernel
theorem dX4_keepPlace_14 : decode cX4_keepPlace 14 = .ok (.iconst 0, 1) := by decide +kernel
theorem dX4_keepPlace_15 : decode cX4_keepPlace 15 = .ok (.istore 4, 2) := by decide +kernel
theorem dX4_keepPlace_17 : decode cX4_keepPlace 17 = .ok (.iload 4, 2) := by decide +kernel
theorem dX4_keepPlace_19 : decode cX4_keepPlace 19 = .ok (.bipush 28, 2) := by decide +kernel
theorem dX4_keepPlace_21 : decode cX4_keepPlace 21 = .ok (.if_icmp .ge 58, 3) := by decide +kernel
theorem dX4_keepPlace_24 : decode cX4_keepPlace 24 = .ok (.iload_n 2, 1) := by decide +kernel
theorem dX4_keepPlace_25 : decode cX4_keepPlace 25 = .ok (.aload_n 0, 1) := by decide +kernel
theorem dX4_keepPlace_26 : decode cX4_keepPlace 26 = .ok (.getfield 43, 3) := by decide +kernel
theorem dX4_keepPlace_29 : decode cX4_keepPlace 29 = .ok (.iload 4, 2) := by decide +kernel
theorem dX4_keepPlace_31 : decode cX4_keepPlace 31 = .ok (.iaload, 1) := by decide +kernel
theorem dX4_keepPlace_32 : decode cX4_keepPlace 32 = .ok (.isub, 1) := by decide +kernel
theorem dX4_keepPlace_33 : decode cX4_keepPlace 33 = .ok (.invokestatic 54, 3) := by decide +kernel
theorem dX4_keepPlace_36 : decode cX4_keepPlace 36 = .ok (.iload_n 3, 1) := by decide +kernel
theorem dX4_keepPlace_37 : decode cX4_keepPlace 37 = .ok (.aload_n 0, 1) := by decide +kernel
theorem dX4_keepPlace_38 : decode cX4_keepPlace 38 = .ok (.getfield 46, 3) := by decide +kernel
theorem dX4_keepPlace_41 : decode cX4_keepPlace 41 = .ok (.iload 4, 2) := by decide +kernel
theorem dX4_keepPlace_43 : decode cX4_keepPlace 43 = .ok (.iaload, 1) := by decide +kernel
theorem dX4_keepPlace_44 : decode cX4_keepPlace 44 = .ok (.isub, 1) := by decide +kernel
theorem dX4_keepPlace_45 : decode cX4_keepPlace 45 = .ok (.invokestatic 54, 3) := by decide +kernel
theorem dX4_keepPlace_48 : decode cX4_keepPlace 48 = .ok (.iadd, 1) := by decide +kernel
theorem dX4_keepPlace_49 : decode cX4_keepPlace 49 = .ok (.istore 5, 2) := by decide +kernel
theorem dX4_keepPlace_51 : decode cX4_keepPlace 51 = .ok (.aload_n 0, 1) := by decide +kernel
theorem dX4_keepPlace_52 : decode cX4_keepPlace 52 = .ok (.getfield 51, 3) := by decide +kernel
theorem dX4_keepPlace_55 : decode cX4_keepPlace 55 = .ok (.iload_n 1, 1) := by decide +kernel
theorem dX4_keepPlace_56 : decode cX4_keepPlace 56 = .ok (.aaload, 1) := by decide +kernel
theorem dX4_keepPlace_57 : decode cX4_keepPlace 57 = .ok (.iload 4, 2) := by decide +kernel
theorem dX4_keepPlace_59 : decode cX4_keepPlace 59 = .ok (.iload 5, 2) := by decide +kernel
theorem dX4_keepPlace_61 : decode cX4_keepPlace 61 = .ok (.iastore, 1) := by decide +kernel
theorem dX4_keepPlace_62 : decode cX4_keepPlace 62 = .ok (.aload_n 0, 1) := by decide +kernel
theorem dX4_keepPlace_63 : decode cX4_keepPlace 63 = .ok (.getfield 51, 3) := by decide +kernel
theorem dX4_keepPlace_66 : decode cX4_keepPlace 66 = .ok (.iload 4, 2) := by decide +kernel
theorem dX4_keepPlace_68 : decode cX4_keepPlace 68 = .ok (.aaload, 1) := by decide +kernel
theorem dX4_keepPlace_69 : decode cX4_keepPlace 69 = .ok (.iload_n 1, 1) := by decide +kernel
theorem dX4_keepPlace_70 : decode cX4_keepPlace 70 = .ok (.iload 5, 2) := by decide +kernel
theorem dX4_keepPlace_72 : decode cX4_keepPlace 72 = .ok (.iastore, 1) := by decide +kernel
theorem dX4_keepPlace_73 : decode cX4_keepPlace 73 = .ok (.iinc 4 1, 3) := by decide +kernel
theorem dX4_keepPlace_76 : decode cX4_keepPlace 76 = .ok (.goto (-59), 3) := by decide +kernel
theorem dX4_keepPlace_79 : decode cX4_keepPlace 79 = .ok (.return_, 1) := by decide +kernel
theorem dX4_keepWindow_0 : decode cX4_keepWindow 0 = .ok (.aload_n 0, 1) := by decide +kernel
theorem dX4_keepWindow_1 : decode cX4_keepWindow 1 = .ok (.getfield 37, 3) := by decide +kernel
theorem dX4_keepWindow_4 : decode cX4_keepWindow 4 = .ok (.iload_n 1, 1) := by decide +kernel
theorem dX4_keepWindow_5 : decode cX4_keepWindow 5 = .ok (.iload_n 2, 1) := by decide +kernel
theorem dX4_keepWindow_6 : decode cX4_keepWindow 6 = .ok (.iastore, 1) := by decide +kernel
theorem dX4_keepWindow_7 : decode cX4_keepWindow 7 = .ok (.aload_n 0, 1) := by decide +kernel
theorem dX4_keepWindow_8 : decode cX4_keepWindow 8 = .ok (.getfield 40, 3) := by decide +kernel
theorem dX4_keepWindow_11 : decode cX4_keepWindow 11 = .ok (.iload_n 1, 1) := by decide +kernel
theorem dX4_keepWindow_12 : decode cX4_keepWindow 12 = .ok (.iload_n 3, 1) := by decide +kernel
theorem dX4_keepWindow_13 : decode cX4_keepWindow 13 = .ok (.iastore, 1) := by decide +kernel
theorem dX4_keepWindow_14 : decode cX4_keepWindow 14 = .ok (.return_, 1) := by decide +kernel
theorem dX4_keepLoad_0 : decode cX4_keepLoad 0 = .ok (.aload_n 0, 1) := by decide +kernel
theorem dX4_keepLoad_1 : decode cX4_keepLoad 1 = .ok (.getfield 34, 3) := by decide +kernel
theorem dX4_keepLoad_4 : decode cX4_keepLoad 4 = .ok (.iconst 2, 1) := by decide +kernel
theorem dX4_keepLoad_5 : decode cX4_keepLoad 5 = .ok (.iload_n 1, 1) := by decide +kernel
theorem dX4_keepLoad_6 : decode cX4_keepLoad 6 = .ok (.imul, 1) := by decide +kernel
theorem dX4_keepLoad_7 : decode cX4_keepLoad 7 = .ok (.iload_n 2, 1) := by decide +kernel
theorem dX4_keepLoad_8 : decode cX4_keepLoad 8 = .ok (.iastore, 1) := by decide +kernel
theorem dX4_keepLoad_9 : decode cX4_keepLoad 9 = .ok (.aload_n 0, 1) := by decide +kernel
theorem dX4_keepLoad_10 : decode cX4_keepLoad 10 = .ok (.getfield 34, 3) := by decide +kernel
theorem dX4_keepLoad_13 : decode cX4_keepLoad 13 = .ok (.iconst 2, 1) := by decide +kernel
theorem dX4_keepLoad_14 : decode cX4_keepLoad 14 = .ok (.iload_n 1, 1) := by decide +kernel
theorem dX4_keepLoad_15 : decode cX4_keepLoad 15 = .ok (.imul, 1) := by decide +kernel
theorem dX4_keepLoad_16 : decode cX4_keepLoad 16 = .ok (.iconst 1, 1) := by decide +kernel
theorem dX4_keepLoad_17 : decode cX4_keepLoad 17 = .ok (.iadd, 1) := by decide +kernel
theorem dX4_keepLoad_18 : decode cX4_keepLoad 18 = .ok (.iload_n 2, 1) := by decide +kernel
theorem dX4_keepLoad_19 : decode cX4_keepLoad 19 = .ok (.ineg, 1) := by decide +kernel
theorem dX4_keepLoad_20 : decode cX4_keepLoad 20 = .ok (.iastore, 1) := by decide +kernel
theorem dX4_keepLoad_21 : decode cX4_keepLoad 21 = .ok (.return_, 1) := by decide +kernel
theorem dX4_length_0 : decode cX4_length 0 = .ok (.iconst 0, 1) := by decide +kernel
theorem dX4_length_1 : decode cX4_length 1 = .ok (.istore_n 2, 1) := by decide +kernel
theorem dX4_length_2 : decode cX4_length 2 = .ok (.aload_n 1, 1) := by decide +kernel
theorem dX4_length_3 : decode cX4_length 3 = .ok (.getfield 60, 3) := by decide +kernel
theorem dX4_length_6 : decode cX4_length 6 = .ok (.istore_n 3, 1) := by decide +kernel
theorem dX4_length_7 : decode cX4_length 7 = .ok (.iconst 0, 1) := by decide +kernel
theorem dX4_length_8 : decode cX4_length 8 = .ok (.istore 4, 2) := by decide +kernel
theorem dX4_length_10 : decode cX4_length 10 = .ok (.iload 4, 2) := by decide +kernel
theorem dX4_length_12 : decode cX4_length 12 = .ok (.aload_n 1, 1) := by decide +kernel
theorem dX4_length_13 : decode cX4_length 13 = .ok (.getfield 65, 3) := by decide +kernel
theorem dX4_length_16 : decode cX4_length 16 = .ok (.if_icmp .ge 34, 3) := by decide +kernel
theorem dX4_length_19 : decode cX4_length 19 = .ok (.iload_n 2, 1) := by decide +kernel
theorem dX4_length_20 : decode cX4_length 20 = .ok (.aload_n 0, 1) := by decide +kernel
theorem dX4_length_21 : decode cX4_length 21 = .ok (.getfield 51, 3) := by decide +kernel
theorem dX4_length_24 : decode cX4_length 24 = .ok (.iload_n 3, 1) := by decide +kernel
theorem dX4_length_25 : decode cX4_length 25 = .ok (.aaload, 1) := by decide +kernel
theorem dX4_length_26 : decode cX4_length 26 = .ok (.aload_n 1, 1) := by decide +kernel
theorem dX4_length_27 : decode cX4_length 27 = .ok (.getfield 68, 3) := by decide +kernel
theorem dX4_length_30 : decode cX4_length 30 = .ok (.iload 4, 2) := by decide +kernel
theorem dX4_length_32 : decode cX4_length 32 = .ok (.iaload, 1) := by decide +kernel
theorem dX4_length_33 : decode cX4_length 33 = .ok (.iaload, 1) := by decide +kernel
theorem dX4_length_34 : decode cX4_length 34 = .ok (.iadd, 1) := by decide +kernel
theorem dX4_length_35 : decode cX4_length 35 = .ok (.istore_n 2, 1) := by decide +kernel
theorem dX4_length_36 : decode cX4_length 36 = .ok (.aload_n 1, 1) := by decide +kernel
theorem dX4_length_37 : decode cX4_length 37 = .ok (.getfield 68, 3) := by decide +kernel
theorem dX4_length_40 : decode cX4_length 40 = .ok (.iload 4, 2) := by decide +kernel
theorem dX4_length_42 : decode cX4_length 42 = .ok (.iaload, 1) := by decide +kernel
theorem dX4_length_43 : decode cX4_length 43 = .ok (.istore_n 3, 1) := by decide +kernel
theorem dX4_length_44 : decode cX4_length 44 = .ok (.iinc 4 1, 3) := by decide +kernel
theorem dX4_length_47 : decode cX4_length 47 = .ok (.goto (-37), 3) := by decide +kernel
theorem dX4_length_50 : decode cX4_length 50 = .ok (.iload_n 2, 1) := by decide +kernel
theorem dX4_length_51 : decode cX4_length 51 = .ok (.aload_n 0, 1) := by decide +kernel
theorem dX4_length_52 : decode cX4_length 52 = .ok (.getfield 51, 3) := by decide +kernel
theorem dX4_length_55 : decode cX4_length 55 = .ok (.iload_n 3, 1) := by decide +kernel
theorem dX4_length_56 : decode cX4_length 56 = .ok (.aaload, 1) := by decide +kernel
theorem dX4_length_57 : decode cX4_length 57 = .ok (.aload_n 1, 1) := by decide +kernel
theorem dX4_length_58 : decode cX4_length 58 = .ok (.getfield 60, 3) := by decide +kernel
theorem dX4_length_61 : decode cX4_length 61 = .ok (.iaload, 1) := by decide +kernel
theorem dX4_length_62 : decode cX4_length 62 = .ok (.iadd, 1) := by decide +kernel
theorem dX4_length_63 : decode cX4_length 63 = .ok (.ireturn, 1) := by decide +kernel
theorem dX4_totalLength_0 : decode cX4_totalLength 0 = .ok (.iconst 0, 1) := by decide +kernel
theorem dX4_totalLength_1 : decode cX4_totalLength 1 = .ok (.istore_n 2, 1) := by decide +kernel
theorem dX4_totalLength_2 : decode cX4_totalLength 2 = .ok (.iconst 0, 1) := by decide +kernel
theorem dX4_totalLength_3 : decode cX4_totalLength 3 = .ok (.istore_n 3, 1) := by decide +kernel
theorem dX4_totalLength_4 : decode cX4_totalLength 4 = .ok (.iload_n 3, 1) := by decide +kernel
theorem dX4_totalLength_5 : decode cX4_totalLength 5 = .ok (.aload_n 0, 1) := by decide +kernel
theorem dX4_totalLength_6 : decode cX4_totalLength 6 = .ok (.getfield 9, 3) := by decide +kernel
theorem dX4_totalLength_9 : decode cX4_totalLength 9 = .ok (.if_icmp .ge 22, 3) := by decide +kernel
theorem dX4_totalLength_12 : decode cX4_totalLength 12 = .ok (.iload_n 2, 1) := by decide +kernel
theorem dX4_totalLength_13 : decode cX4_totalLength 13 = .ok (.aload_n 0, 1) := by decide +kernel
theorem dX4_totalLength_14 : decode cX4_totalLength 14 = .ok (.aload_n 1, 1) := by decide +kernel
theorem dX4_totalLength_15 : decode cX4_totalLength 15 = .ok (.getfield 71, 3) := by decide +kernel
theorem dX4_totalLength_18 : decode cX4_totalLength 18 = .ok (.iload_n 3, 1) := by decide +kernel
theorem dX4_totalLength_19 : decode cX4_totalLength 19 = .ok (.aaload, 1) := by decide +kernel
theorem dX4_totalLength_20 : decode cX4_totalLength 20 = .ok (.invokevirtual 77, 3) := by decide +kernel
theorem dX4_totalLength_23 : decode cX4_totalLength 23 = .ok (.iadd, 1) := by decide +kernel
theorem dX4_totalLength_24 : decode cX4_totalLength 24 = .ok (.istore_n 2, 1) := by decide +kernel
theorem dX4_totalLength_25 : decode cX4_totalLength 25 = .ok (.iinc 3 1, 3) := by decide +kernel
theorem dX4_totalLength_28 : decode cX4_totalLength 28 = .ok (.goto (-24), 3) := by decide +kernel
theorem dX4_totalLength_31 : decode cX4_totalLength 31 = .ok (.iload_n 2, 1) := by decide +kernel
theorem dX4_totalLength_32 : decode cX4_totalLength 32 = .ok (.ireturn, 1) := by decide +kernel
theorem dX4_addedLength_0 : decode cX4_addedLength 0 = .ok (.iconst 2, 1) := by decide +kernel
theorem dX4_addedLength_1 : decode cX4_addedLength 1 = .ok (.iload_n 2, 1) := by decide +kernel
theorem dX4_addedLength_2 : decode cX4_addedLength 2 = .ok (.imul, 1) := by decide +kernel
theorem dX4_addedLength_3 : decode cX4_addedLength 3 = .ok (.istore 5, 2) := by decide +kernel
theorem dX4_addedLength_5 : decode cX4_addedLength 5 = .ok (.iload 5, 2) := by decide +kernel
theorem dX4_addedLength_7 : decode cX4_addedLength 7 = .ok (.iconst 1, 1) := by decide +kernel
theorem dX4_addedLength_8 : decode cX4_addedLength 8 = .ok (.iadd, 1) := by decide +kernel
theorem dX4_addedLength_9 : decode cX4_addedLength 9 = .ok (.istore 6, 2) := by decide +kernel
theorem dX4_addedLength_11 : decode cX4_addedLength 11 = .ok (.aload_n 1, 1) := by decide +kernel
theorem dX4_addedLength_12 : decode cX4_addedLength 12 = .ok (.iload_n 3, 1) := by decide +kernel
theorem dX4_addedLength_13 : decode cX4_addedLength 13 = .ok (.iconst 1, 1) := by decide +kernel
theorem dX4_addedLength_14 : decode cX4_addedLength 14 = .ok (.isub, 1) := by decide +kernel
theorem dX4_addedLength_15 : decode cX4_addedLength 15 = .ok (.invokevirtual 81, 3) := by decide +kernel
theorem dX4_addedLength_18 : decode cX4_addedLength 18 = .ok (.istore 7, 2) := by decide +kernel
theorem dX4_addedLength_20 : decode cX4_addedLength 20 = .ok (.aload_n 1, 1) := by decide +kernel
theorem dX4_addedLength_21 : decode cX4_addedLength 21 = .ok (.iload_n 3, 1) := by decide +kernel
theorem dX4_addedLength_22 : decode cX4_addedLength 22 = .ok (.invokevirtual 81, 3) := by decide +kernel
theorem dX4_addedLength_25 : decode cX4_addedLength 25 = .ok (.istore 8, 2) := by decide +kernel
theorem dX4_addedLength_27 : decode cX4_addedLength 27 = .ok (.iload 4, 2) := by decide +kernel
theorem dX4_addedLength_29 : decode cX4_addedLength 29 = .ok (.iload_n 3, 1) := by decide +kernel
theorem dX4_addedLength_30 : decode cX4_addedLength 30 = .ok (.iconst 1, 1) := by decide +kernel
theorem dX4_addedLength_31 : decode cX4_addedLength 31 = .ok (.iadd, 1) := by decide +kernel
theorem dX4_addedLength_32 : decode cX4_addedLength 32 = .ok (.if_icmp .ne 47, 3) := by decide +kernel
theorem dX4_addedLength_35 : decode cX4_addedLength 35 = .ok (.aload_n 0, 1) := by decide +kernel
theorem dX4_addedLength_36 : decode cX4_addedLength 36 = .ok (.getfield 51, 3) := by decide +kernel
theorem dX4_addedLength_39 : decode cX4_addedLength 39 = .ok (.iload 7, 2) := by decide +kernel
theorem dX4_addedLength_41 : decode cX4_addedLength 41 = .ok (.aaload, 1) := by decide +kernel
theorem dX4_addedLength_42 : decode cX4_addedLength 42 = .ok (.iload 5, 2) := by decide +kernel
theorem dX4_addedLength_44 : decode cX4_addedLength 44 = .ok (.iaload, 1) := by decide +kernel
theorem dX4_addedLength_45 : decode cX4_addedLength 45 = .ok (.aload_n 0, 1) := by decide +kernel
theorem dX4_addedLength_46 : decode cX4_addedLength 46 = .ok (.getfield 51, 3) := by decide +kernel
theorem dX4_addedLength_49 : decode cX4_addedLength 49 = .ok (.iload 5, 2) := by decide +kernel
theorem dX4_addedLength_51 : decode cX4_addedLength 51 = .ok (.aaload, 1) := by decide +kernel
theorem dX4_addedLength_52 : decode cX4_addedLength 52 = .ok (.iload 6, 2) := by decide +kernel
theorem dX4_addedLength_54 : decode cX4_addedLength 54 = .ok (.iaload, 1) := by decide +kernel
theorem dX4_addedLength_55 : decode cX4_addedLength 55 = .ok (.iadd, 1) := by decide +kernel
theorem dX4_addedLength_56 : decode cX4_addedLength 56 = .ok (.aload_n 0, 1) := by decide +kernel
theorem dX4_addedLength_57 : decode cX4_addedLength 57 = .ok (.getfield 51, 3) := by decide +kernel
theorem dX4_addedLength_60 : decode cX4_addedLength 60 = .ok (.iload 6, 2) := by decide +kernel
theorem dX4_addedLength_62 : decode cX4_addedLength 62 = .ok (.aaload, 1) := by decide +kernel
theorem dX4_addedLength_63 : decode cX4_addedLength 63 = .ok (.iload 8, 2) := by decide +kernel
theorem dX4_addedLength_65 : decode cX4_addedLength 65 = .ok (.iaload, 1) := by decide +kernel
theorem dX4_addedLength_66 : decode cX4_addedLength 66 = .ok (.iadd, 1) := by decide +kernel
theorem dX4_addedLength_67 : decode cX4_addedLength 67 = .ok (.aload_n 0, 1) := by decide +kernel
theorem dX4_addedLength_68 : decode cX4_addedLength 68 = .ok (.getfield 51, 3) := by decide +kernel
theorem dX4_addedLength_71 : decode cX4_addedLength 71 = .ok (.iload 7, 2) := by decide +kernel
theorem dX4_addedLength_73 : decode cX4_addedLength 73 = .ok (.aaload, 1) := by decide +kernel
theorem dX4_addedLength_74 : decode cX4_addedLength 74 = .ok (.iload 8, 2) := by decide +kernel
theorem dX4_addedLength_76 : decode cX4_addedLength 76 = .ok (.iaload, 1) := by decide +kernel
theorem dX4_addedLength_77 : decode cX4_addedLength 77 = .ok (.isub, 1) := by decide +kernel
theorem dX4_addedLength_78 : decode cX4_addedLength 78 = .ok (.ireturn, 1) := by decide +kernel
theorem dX4_addedLength_79 : decode cX4_addedLength 79 = .ok (.aload_n 1, 1) := by decide +kernel
theorem dX4_addedLength_80 : decode cX4_addedLength 80 = .ok (.iload 4, 2) := by decide +kernel
theorem dX4_addedLength_82 : decode cX4_addedLength 82 = .ok (.iconst 2, 1) := by decide +kernel
theorem dX4_addedLength_83 : decode cX4_addedLength 83 = .ok (.isub, 1) := by decide +kernel
theorem dX4_addedLength_84 : decode cX4_addedLength 84 = .ok (.invokevirtual 81, 3) := by decide +kernel
theorem dX4_addedLength_87 : decode cX4_addedLength 87 = .ok (.istore 9, 2) := by decide +kernel
theorem dX4_addedLength_89 : decode cX4_addedLength 89 = .ok (.aload_n 1, 1) := by decide +kernel
theorem dX4_addedLength_90 : decode cX4_addedLength 90 = .ok (.iload 4, 2) := by decide +kernel
theorem dX4_addedLength_92 : decode cX4_addedLength 92 = .ok (.iconst 1, 1) := by decide +kernel
theorem dX4_addedLength_93 : decode cX4_addedLength 93 = .ok (.isub, 1) := by decide +kernel
theorem dX4_addedLength_94 : decode cX4_addedLength 94 = .ok (.invokevirtual 81, 3) := by decide +kernel
theorem dX4_addedLength_97 : decode cX4_addedLength 97 = .ok (.istore 10, 2) := by decide +kernel
theorem dX4_addedLength_99 : decode cX4_addedLength 99 = .ok (.aload_n 0, 1) := by decide +kernel
theorem dX4_addedLength_100 : decode cX4_addedLength 100 = .ok (.getfield 51, 3) := by decide +kernel
theorem dX4_addedLength_103 : decode cX4_addedLength 103 = .ok (.iload 7, 2) := by decide +kernel
theorem dX4_addedLength_105 : decode cX4_addedLength 105 = .ok (.aaload, 1) := by decide +kernel
theorem dX4_addedLength_106 : decode cX4_addedLength 106 = .ok (.iload 5, 2) := by decide +kernel
theorem dX4_addedLength_108 : decode cX4_addedLength 108 = .ok (.iaload, 1) := by decide +kernel
theorem dX4_addedLength_109 : decode cX4_addedLength 109 = .ok (.aload_n 0, 1) := by decide +kernel
theorem dX4_addedLength_110 : decode cX4_addedLength 110 = .ok (.getfield 51, 3) := by decide +kernel
theorem dX4_addedLength_113 : decode cX4_addedLength 113 = .ok (.iload 5, 2) := by decide +kernel
theorem dX4_addedLength_115 : decode cX4_addedLength 115 = .ok (.aaload, 1) := by decide +kernel
theorem dX4_addedLength_116 : decode cX4_addedLength 116 = .ok (.iload 8, 2) := by decide +kernel
theorem dX4_addedLength_118 : decode cX4_addedLength 118 = .ok (.iaload, 1) := by decide +kernel
theorem dX4_addedLength_119 : decode cX4_addedLength 119 = .ok (.iadd, 1) := by decide +kernel
theorem dX4_addedLength_120 : decode cX4_addedLength 120 = .ok (.aload_n 0, 1) := by decide +kernel
theorem dX4_addedLength_121 : decode cX4_addedLength 121 = .ok (.getfield 51, 3) := by decide +kernel
theorem dX4_addedLength_124 : decode cX4_addedLength 124 = .ok (.iload 7, 2) := by decide +kernel
theorem dX4_addedLength_126 : decode cX4_addedLength 126 = .ok (.aaload, 1) := by decide +kernel
theorem dX4_addedLength_127 : decode cX4_addedLength 127 = .ok (.iload 8, 2) := by decide +kernel
theorem dX4_addedLength_129 : decode cX4_addedLength 129 = .ok (.iaload, 1) := by decide +kernel
theorem dX4_addedLength_130 : decode cX4_addedLength 130 = .ok (.isub, 1) := by decide +kernel
theorem dX4_addedLength_131 : decode cX4_addedLength 131 = .ok (.aload_n 0, 1) := by decide +kernel
theorem dX4_addedLength_132 : decode cX4_addedLength 132 = .ok (.getfield 51, 3) := by decide +kernel
theorem dX4_addedLength_135 : decode cX4_addedLength 135 = .ok (.iload 9, 2) := by decide +kernel
theorem dX4_addedLength_137 : decode cX4_addedLength 137 = .ok (.aaload, 1) := by decide +kernel
theorem dX4_addedLength_138 : decode cX4_addedLength 138 = .ok (.iload 6, 2) := by decide +kernel
theorem dX4_addedLength_140 : decode cX4_addedLength 140 = .ok (.iaload, 1) := by decide +kernel
theorem dX4_addedLength_141 : decode cX4_addedLength 141 = .ok (.iadd, 1) := by decide +kernel
theorem dX4_addedLength_142 : decode cX4_addedLength 142 = .ok (.aload_n 0, 1) := by decide +kernel
theorem dX4_addedLength_143 : decode cX4_addedLength 143 = .ok (.getfield 51, 3) := by decide +kernel
theorem dX4_addedLength_146 : decode cX4_addedLength 146 = .ok (.iload 6, 2) := by decide +kernel
theorem dX4_addedLength_148 : decode cX4_addedLength 148 = .ok (.aaload, 1) := by decide +kernel
theorem dX4_addedLength_149 : decode cX4_addedLength 149 = .ok (.iload 10, 2) := by decide +kernel
theorem dX4_addedLength_151 : decode cX4_addedLength 151 = .ok (.iaload, 1) := by decide +kernel
theorem dX4_addedLength_152 : decode cX4_addedLength 152 = .ok (.iadd, 1) := by decide +kernel
theorem dX4_addedLength_153 : decode cX4_addedLength 153 = .ok (.aload_n 0, 1) := by decide +kernel
theorem dX4_addedLength_154 : decode cX4_addedLength 154 = .ok (.getfield 51, 3) := by decide +kernel
theorem dX4_addedLength_157 : decode cX4_addedLength 157 = .ok (.iload 9, 2) := by decide +kernel
theorem dX4_addedLength_159 : decode cX4_addedLength 159 = .ok (.aaload, 1) := by decide +kernel
theorem dX4_addedLength_160 : decode cX4_addedLength 160 = .ok (.iload 10, 2) := by decide +kernel
theorem dX4_addedLength_162 : decode cX4_addedLength 162 = .ok (.iaload, 1) := by decide +kernel
theorem dX4_addedLength_163 : decode cX4_addedLength 163 = .ok (.isub, 1) := by decide +kernel
theorem dX4_addedLength_164 : decode cX4_addedLength 164 = .ok (.ireturn, 1) := by decide +kernel
theorem dX5_init_0 : decode cX5_init 0 = .ok (.aload_n 0, 1) := by decide +kernel
theorem dX5_init_1 : decode cX5_init 1 = .ok (.invokespecial 3, 3) := by decide +kernel
theorem dX5_init_4 : decode cX5_init 4 = .ok (.aload_n 0, 1) := by decide +kernel
theorem dX5_init_5 : decode cX5_init 5 = .ok (.iconst 0, 1) := by decide +kernel
theorem dX5_init_6 : decode cX5_init 6 = .ok (.putfield 9, 3) := by decide +kernel
theorem dX5_init_9 : decode cX5_init 9 = .ok (.aload_n 0, 1) := by decide +kernel
theorem dX5_init_10 : decode cX5_init 10 = .ok (.bipush 24, 2) := by decide +kernel
theorem dX5_init_12 : decode cX5_init 12 = .ok (.newarray .int, 2) := by decide +kernel
theorem dX5_init_14 : decode cX5_init 14 = .ok (.putfield 15, 3) := by decide +kernel
theorem dX5_init_17 : decode cX5_init 17 = .ok (.aload_n 0, 1) := by decide +kernel
theorem dX5_init_18 : decode cX5_init 18 = .ok (.iload_n 1, 1) := by decide +kernel
theorem dX5_init_19 : decode cX5_init 19 = .ok (.putfield 19, 3) := by decide +kernel
theorem dX5_init_22 : decode cX5_init 22 = .ok (.aload_n 0, 1) := by decide +kernel
theorem dX5_init_23 : decode cX5_init 23 = .ok (.bipush 24, 2) := by decide +kernel
theorem dX5_init_25 : decode cX5_init 25 = .ok (.iload_n 1, 1) := by decide +kernel
theorem dX5_init_26 : decode cX5_init 26 = .ok (.iadd, 1) := by decide +kernel
theorem dX5_init_27 : decode cX5_init 27 = .ok (.putfield 22, 3) := by decide +kernel
theorem dX5_init_30 : decode cX5_init 30 = .ok (.return_, 1) := by decide +kernel
theorem dX5_become_0 : decode cX5_become 0 = .ok (.aload_n 0, 1) := by decide +kernel
theorem dX5_become_1 : decode cX5_become 1 = .ok (.aload_n 1, 1) := by decide +kernel
theorem dX5_become_2 : decode cX5_become 2 = .ok (.getfield 19, 3) := by decide +kernel
theorem dX5_become_5 : decode cX5_become 5 = .ok (.putfield 19, 3) := by decide +kernel
theorem dX5_become_8 : decode cX5_become 8 = .ok (.aload_n 0, 1) := by decide +kernel
theorem dX5_become_9 : decode cX5_become 9 = .ok (.aload_n 1, 1) := by decide +kernel
theorem dX5_become_10 : decode cX5_become 10 = .ok (.getfield 22, 3) := by decide +kernel
theorem dX5_become_13 : decode cX5_become 13 = .ok (.putfield 22, 3) := by decide +kernel
theorem dX5_become_16 : decode cX5_become 16 = .ok (.aload_n 0, 1) := by decide +kernel
theorem dX5_become_17 : decode cX5_become 17 = .ok (.aload_n 1, 1) := by decide +kernel
theorem dX5_become_18 : decode cX5_become 18 = .ok (.getfield 9, 3) := by decide +kernel
theorem dX5_become_21 : decode cX5_become 21 = .ok (.putfield 9, 3) := by decide +kernel
theorem dX5_become_24 : decode cX5_become 24 = .ok (.aload_n 1, 1) := by decide +kernel
theorem dX5_become_25 : decode cX5_become 25 = .ok (.getfield 15, 3) := by decide +kernel
theorem dX5_become_28 : decode cX5_become 28 = .ok (.iconst 0, 1) := by decide +kernel
theorem dX5_become_29 : decode cX5_become 29 = .ok (.aload_n 0, 1) := by decide +kernel
theorem dX5_become_30 : decode cX5_become 30 = .ok (.getfield 15, 3) := by decide +kernel
theorem dX5_become_33 : decode cX5_become 33 = .ok (.iconst 0, 1) := by decide +kernel
theorem dX5_become_34 : decode cX5_become 34 = .ok (.bipush 24, 2) := by decide +kernel
theorem dX5_become_36 : decode cX5_become 36 = .ok (.invokestatic 25, 3) := by decide +kernel
theorem dX5_become_39 : decode cX5_become 39 = .ok (.return_, 1) := by decide +kernel
theorem dX5_placeAt_0 : decode cX5_placeAt 0 = .ok (.iload_n 1, 1) := by decide +kernel
theorem dX5_placeAt_1 : decode cX5_placeAt 1 = .ok (.ifCond .lt 20, 3) := by decide +kernel
theorem dX5_placeAt_4 : decode cX5_placeAt 4 = .ok (.iload_n 1, 1) := by decide +kernel
theorem dX5_placeAt_5 : decode cX5_placeAt 5 = .ok (.aload_n 0, 1) := by decide +kernel
theorem dX5_placeAt_6 : decode cX5_placeAt 6 = .ok (.getfield 9, 3) := by decide +kernel
theorem dX5_placeAt_9 : decode cX5_placeAt 9 = .ok (.if_icmp .ge 12, 3) := by decide +kernel
theorem dX5_placeAt_12 : decode cX5_placeAt 12 = .ok (.aload_n 0, 1) := by decide +kernel
theorem dX5_placeAt_13 : decode cX5_placeAt 13 = .ok (.getfield 15, 3) := by decide +kernel
theorem dX5_placeAt_16 : decode cX5_placeAt 16 = .ok (.iload_n 1, 1) := by decide +kernel
theorem dX5_placeAt_17 : decode cX5_placeAt 17 = .ok (.iaload, 1) := by decide +kernel
theorem dX5_placeAt_18 : decode cX5_placeAt 18 = .ok (.goto 7, 3) := by decide +kernel
theorem dX5_placeAt_21 : decode cX5_placeAt 21 = .ok (.aload_n 0, 1) := by decide +kernel
theorem dX5_placeAt_22 : decode cX5_placeAt 22 = .ok (.getfield 22, 3) := by decide +kernel
theorem dX5_placeAt_25 : decode cX5_placeAt 25 = .ok (.ireturn, 1) := by decide +kernel
theorem dX5_put_0 : decode cX5_put 0 = .ok (.aload_n 0, 1) := by decide +kernel
theorem dX5_put_1 : decode cX5_put 1 = .ok (.getfield 9, 3) := by decide +kernel
theorem dX5_put_4 : decode cX5_put 4 = .ok (.iconst 2, 1) := by decide +kernel
theorem dX5_put_5 : decode cX5_put 5 = .ok (.iadd, 1) := by decide +kernel
theorem dX5_put_6 : decode cX5_put 6 = .ok (.bipush 24, 2) := by decide +kernel
theorem dX5_put_8 : decode cX5_put 8 = .ok (.if_icmp .gt 22, 3) := by decide +kernel
theorem dX5_put_11 : decode cX5_put 11 = .ok (.iload_n 2, 1) := by decide +kernel
theorem dX5_put_12 : decode cX5_put 12 = .ok (.ifCond .lt 18, 3) := by decide +kernel
theorem dX5_put_15 : decode cX5_put 15 = .ok (.iload_n 3, 1) := by decide +kernel
theorem dX5_put_16 : decode cX5_put 16 = .ok (.iload_n 2, 1) := by decide +kernel
theorem dX5_put_17 : decode cX5_put 17 = .ok (.if_icmp .le 13, 3) := by decide +kernel
theorem dX5_put_20 : decode cX5_put 20 = .ok (.iload_n 3, 1) := by decide +kernel
theorem dX5_put_21 : decode cX5_put 21 = .ok (.aload_n 0, 1) := by decide +kernel
theorem dX5_put_22 : decode cX5_put 22 = .ok (.getfield 9, 3) := by decide +kernel
theorem dX5_put_25 : decode cX5_put 25 = .ok (.iconst 1, 1) := by decide +kernel
theorem dX5_put_26 : decode cX5_put 26 = .ok (.iadd, 1) := by decide +kernel
theorem dX5_put_27 : decode cX5_put 27 = .ok (.if_icmp .le 4, 3) := by decide +kernel
theorem dX5_put_30 : decode cX5_put 30 = .ok (.return_, 1) := by decide +kernel
theorem dX5_put_31 : decode cX5_put 31 = .ok (.aload_n 0, 1) := by decide +kernel
theorem dX5_put_32 : decode cX5_put 32 = .ok (.getfield 9, 3) := by decide +kernel
theorem dX5_put_35 : decode cX5_put 35 = .ok (.iconst 1, 1) := by decide +kernel
theorem dX5_put_36 : decode cX5_put 36 = .ok (.iadd, 1) := by decide +kernel
theorem dX5_put_37 : decode cX5_put 37 = .ok (.istore 4, 2) := by decide +kernel
theorem dX5_put_39 : decode cX5_put 39 = .ok (.iload 4, 2) := by decide +kernel
theorem dX5_put_41 : decode cX5_put 41 = .ok (.iload_n 3, 1) := by decide +kernel
theorem dX5_put_42 : decode cX5_put 42 = .ok (.if_icmp .le 25, 3) := by decide +kernel
theorem dX5_put_45 : decode cX5_put 45 = .ok (.aload_n 0, 1) := by decide +kernel
theorem dX5_put_46 : decode cX5_put 46 = .ok (.getfield 15, 3) := by decide +kernel
theorem dX5_put_49 : decode cX5_put 49 = .ok (.iload 4, 2) := by decide +kernel
theorem dX5_put_51 : decode cX5_put 51 = .ok (.aload_n 0, 1) := by decide +kernel
theorem dX5_put_52 : decode cX5_put 52 = .ok (.getfield 15, 3) := by decide +kernel
theorem dX5_put_55 : decode cX5_put 55 = .ok (.iload 4, 2) := by decide +kernel
theorem dX5_put_57 : decode cX5_put 57 = .ok (.iconst 2, 1) := by decide +kernel
theorem dX5_put_58 : decode cX5_put 58 = .ok (.isub, 1) := by decide +kernel
theorem dX5_put_59 : decode cX5_put 59 = .ok (.iaload, 1) := by decide +kernel
theorem dX5_put_60 : decode cX5_put 60 = .ok (.iastore, 1) := by decide +kernel
theorem dX5_put_61 : decode cX5_put 61 = .ok (.iinc 4 (-1), 3) := by decide +kernel
theorem dX5_put_64 : decode cX5_put 64 = .ok (.goto (-25), 3) := by decide +kernel
theorem dX5_put_67 : decode cX5_put 67 = .ok (.iload_n 3, 1) := by decide +kernel
theorem dX5_put_68 : decode cX5_put 68 = .ok (.iconst 1, 1) := by decide +kernel
theorem dX5_put_69 : decode cX5_put 69 = .ok (.isub, 1) := by decide +kernel
theorem dX5_put_70 : decode cX5_put 70 = .ok (.istore 4, 2) := by decide +kernel
theorem dX5_put_72 : decode cX5_put 72 = .ok (.iload 4, 2) := by decide +kernel
theorem dX5_put_74 : decode cX5_put 74 = .ok (.iload_n 2, 1) := by decide +kernel
theorem dX5_put_75 : decode cX5_put 75 = .ok (.if_icmp .le 25, 3) := by decide +kernel
theorem dX5_put_78 : decode cX5_put 78 = .ok (.aload_n 0, 1) := by decide +kernel
theorem dX5_put_79 : decode cX5_put 79 = .ok (.getfield 15, 3) := by decide +kernel
theorem dX5_put_82 : decode cX5_put 82 = .ok (.iload 4, 2) := by decide +kernel
theorem dX5_put_84 : decode cX5_put 84 = .ok (.aload_n 0, 1) := by decide +kernel
theorem dX5_put_85 : decode cX5_put 85 = .ok (.getfield 15, 3) := by decide +kernel
theorem dX5_put_88 : decode cX5_put 88 = .ok (.iload 4, 2) := by decide +kernel
theorem dX5_put_90 : decode cX5_put 90 = .ok (.iconst 1, 1) := by decide +kernel
theorem dX5_put_91 : decode cX5_put 91 = .ok (.isub, 1) := by decide +kernel
theorem dX5_put_92 : decode cX5_put 92 = .ok (.iaload, 1) := by decide +kernel
theorem dX5_put_93 : decode cX5_put 93 = .ok (.iastore, 1) := by decide +kernel
theorem dX5_put_94 : decode cX5_put 94 = .ok (.iinc 4 (-1), 3) := by decide +kernel
theorem dX5_put_97 : decode cX5_put 97 = .ok (.goto (-25), 3) := by decide +kernel
theorem dX5_put_100 : decode cX5_put 100 = .ok (.aload_n 0, 1) := by decide +kernel
theorem dX5_put_101 : decode cX5_put 101 = .ok (.getfield 15, 3) := by decide +kernel
theorem dX5_put_104 : decode cX5_put 104 = .ok (.iload_n 2, 1) := by decide +kernel
theorem dX5_put_105 : decode cX5_put 105 = .ok (.iconst 2, 1) := by decide +kernel
theorem dX5_put_106 : decode cX5_put 106 = .ok (.iload_n 1, 1) := by decide +kernel
theorem dX5_put_107 : decode cX5_put 107 = .ok (.imul, 1) := by decide +kernel
theorem dX5_put_108 : decode cX5_put 108 = .ok (.iastore, 1) := by decide +kernel
theorem dX5_put_109 : decode cX5_put 109 = .ok (.aload_n 0, 1) := by decide +kernel
theorem dX5_put_110 : decode cX5_put 110 = .ok (.getfield 15, 3) := by decide +kernel
theorem dX5_put_113 : decode cX5_put 113 = .ok (.iload_n 3, 1) := by decide +kernel
theorem dX5_put_114 : decode cX5_put 114 = .ok (.iconst 2, 1) := by decide +kernel
theorem dX5_put_115 : decode cX5_put 115 = .ok (.iload_n 1, 1) := by decide +kernel
theorem dX5_put_116 : decode cX5_put 116 = .ok (.imul, 1) := by decide +kernel
theorem dX5_put_117 : decode cX5_put 117 = .ok (.iconst 1, 1) := by decide +kernel
theorem dX5_put_118 : decode cX5_put 118 = .ok (.iadd, 1) := by decide +kernel
theorem dX5_put_119 : decode cX5_put 119 = .ok (.iastore, 1) := by decide +kernel
theorem dX5_put_120 : decode cX5_put 120 = .ok (.aload_n 0, 1) := by decide +kernel
theorem dX5_put_121 : decode cX5_put 121 = .ok (.dup, 1) := by decide +kernel
theorem dX5_put_122 : decode cX5_put 122 = .ok (.getfield 9, 3) := by decide +kernel
theorem dX5_put_125 : decode cX5_put 125 = .ok (.iconst 2, 1) := by decide +kernel
theorem dX5_put_126 : decode cX5_put 126 = .ok (.iadd, 1) := by decide +kernel
theorem dX5_put_127 : decode cX5_put 127 = .ok (.putfield 9, 3) := by decide +kernel
theorem dX5_put_130 : decode cX5_put 130 = .ok (.return_, 1) := by decide +kernel
theorem dX5_take_0 : decode cX5_take 0 = .ok (.iconst 0, 1) := by decide +kernel
theorem dX5_take_1 : decode cX5_take 1 = .ok (.istore_n 2, 1) := by decide +kernel
theorem dX5_take_2 : decode cX5_take 2 = .ok (.iconst 0, 1) := by decide +kernel
theorem dX5_take_3 : decode cX5_take 3 = .ok (.istore_n 3, 1) := by decide +kernel
theorem dX5_take_4 : decode cX5_take 4 = .ok (.iload_n 3, 1) := by decide +kernel
theorem dX5_take_5 : decode cX5_take 5 = .ok (.aload_n 0, 1) := by decide +kernel
theorem dX5_take_6 : decode cX5_take 6 = .ok (.getfield 9, 3) := by decide +kernel
theorem dX5_take_9 : decode cX5_take 9 = .ok (.if_icmp .ge 36, 3) := by decide +kernel
theorem dX5_take_12 : decode cX5_take 12 = .ok (.aload_n 0, 1) := by decide +kernel
theorem dX5_take_13 : decode cX5_take 13 = .ok (.getfield 15, 3) := by decide +kernel
theorem dX5_take_16 : decode cX5_take 16 = .ok (.iload_n 3, 1) := by decide +kernel
theorem dX5_take_17 : decode cX5_take 17 = .ok (.iaload, 1) := by decide +kernel
theorem dX5_take_18 : decode cX5_take 18 = .ok (.iconst 2, 1) := by decide +kernel
theorem dX5_take_19 : decode cX5_take 19 = .ok (.idiv, 1) := by decide +kernel
theorem dX5_take_20 : decode cX5_take 20 = .ok (.iload_n 1, 1) := by decide +kernel
theorem dX5_take_21 : decode cX5_take 21 = .ok (.if_icmp .eq 18, 3) := by decide +kernel
theorem dX5_take_24 : decode cX5_take 24 = .ok (.aload_n 0, 1) := by decide +kernel
theorem dX5_take_25 : decode cX5_take 25 = .ok (.getfield 15, 3) := by decide +kernel
theorem dX5_take_28 : decode cX5_take 28 = .ok (.iload_n 2, 1) := by decide +kernel
theorem dX5_take_29 : decode cX5_take 29 = .ok (.aload_n 0, 1) := by decide +kernel
theorem dX5_take_30 : decode cX5_take 30 = .ok (.getfield 15, 3) := by decide +kernel
theorem dX5_take_33 : decode cX5_take 33 = .ok (.iload_n 3, 1) := by decide +kernel
theorem dX5_take_34 : decode cX5_take 34 = .ok (.iaload, 1) := by decide +kernel
theorem dX5_take_35 : decode cX5_take 35 = .ok (.iastore, 1) := by decide +kernel
theorem dX5_take_36 : decode cX5_take 36 = .ok (.iinc 2 1, 3) := by decide +kernel
theorem dX5_take_39 : decode cX5_take 39 = .ok (.iinc 3 1, 3) := by decide +kernel
theorem dX5_take_42 : decode cX5_take 42 = .ok (.goto (-38), 3) := by decide +kernel
theorem dX5_take_45 : decode cX5_take 45 = .ok (.aload_n 0, 1) := by decide +kernel
theorem dX5_take_46 : decode cX5_take 46 = .ok (.iload_n 2, 1) := by decide +kernel
theorem dX5_take_47 : decode cX5_take 47 = .ok (.putfield 9, 3) := by decide +kernel
theorem dX5_take_50 : decode cX5_take 50 = .ok (.return_, 1) := by decide +kernel
theorem dX6_init_0 : decode cX6_init 0 = .ok (.aload_n 0, 1) := by decide +kernel
theorem dX6_init_1 : decode cX6_init 1 = .ok (.invokespecial 3, 3) := by decide +kernel
theorem dX6_init_4 : decode cX6_init 4 = .ok (.aload_n 0, 1) := by decide +kernel
theorem dX6_init_5 : decode cX6_init 5 = .ok (.bipush 24, 2) := by decide +kernel
theorem dX6_init_7 : decode cX6_init 7 = .ok (.newarray .int, 2) := by decide +kernel
theorem dX6_init_9 : decode cX6_init 9 = .ok (.putfield 9, 3) := by decide +kernel
theorem dX6_init_12 : decode cX6_init 12 = .ok (.aload_n 0, 1) := by decide +kernel
theorem dX6_init_13 : decode cX6_init 13 = .ok (.bipush 24, 2) := by decide +kernel
theorem dX6_init_15 : decode cX6_init 15 = .ok (.newarray .int, 2) := by decide +kernel
theorem dX6_init_17 : decode cX6_init 17 = .ok (.putfield 15, 3) := by decide +kernel
theorem dX6_init_20 : decode cX6_init 20 = .ok (.aload_n 0, 1) := by decide +kernel
theorem dX6_init_21 : decode cX6_init 21 = .ok (.bipush 24, 2) := by decide +kernel
theorem dX6_init_23 : decode cX6_init 23 = .ok (.newarray .int, 2) := by decide +kernel
theorem dX6_init_25 : decode cX6_init 25 = .ok (.putfield 18, 3) := by decide +kernel
theorem dX6_init_28 : decode cX6_init 28 = .ok (.aload_n 0, 1) := by decide +kernel
theorem dX6_init_29 : decode cX6_init 29 = .ok (.bipush 25, 2) := by decide +kernel
theorem dX6_init_31 : decode cX6_init 31 = .ok (.newarray .int, 2) := by decide +kernel
theorem dX6_init_33 : decode cX6_init 33 = .ok (.putfield 21, 3) := by decide +kernel
theorem dX6_init_36 : decode cX6_init 36 = .ok (.aload_n 0, 1) := by decide +kernel
theorem dX6_init_37 : decode cX6_init 37 = .ok (.iconst 0, 1) := by decide +kernel
theorem dX6_init_38 : decode cX6_init 38 = .ok (.putfield 24, 3) := by decide +kernel
theorem dX6_init_41 : decode cX6_init 41 = .ok (.aload_n 0, 1) := by decide +kernel
theorem dX6_init_42 : decode cX6_init 42 = .ok (.bipush 24, 2) := by decide +kernel
theorem dX6_init_44 : decode cX6_init 44 = .ok (.newarray .int, 2) := by decide +kernel
theorem dX6_init_46 : decode cX6_init 46 = .ok (.putfield 28, 3) := by decide +kernel
theorem dX6_init_49 : decode cX6_init 49 = .ok (.aload_n 0, 1) := by decide +kernel
theorem dX6_init_50 : decode cX6_init 50 = .ok (.bipush 24, 2) := by decide +kernel
theorem dX6_init_52 : decode cX6_init 52 = .ok (.newarray .int, 2) := by decide +kernel
theorem dX6_init_54 : decode cX6_init 54 = .ok (.putfield 31, 3) := by decide +kernel
theorem dX6_init_57 : decode cX6_init 57 = .ok (.aload_n 0, 1) := by decide +kernel
theorem dX6_init_58 : decode cX6_init 58 = .ok (.bipush 24, 2) := by decide +kernel
theorem dX6_init_60 : decode cX6_init 60 = .ok (.newarray .int, 2) := by decide +kernel
theorem dX6_init_62 : decode cX6_init 62 = .ok (.putfield 34, 3) := by decide +kernel
theorem dX6_init_65 : decode cX6_init 65 = .ok (.aload_n 0, 1) := by decide +kernel
theorem dX6_init_66 : decode cX6_init 66 = .ok (.bipush 24, 2) := by decide +kernel
theorem dX6_init_68 : decode cX6_init 68 = .ok (.newarray .int, 2) := by decide +kernel
theorem dX6_init_70 : decode cX6_init 70 = .ok (.putfield 37, 3) := by decide +kernel
theorem dX6_init_73 : decode cX6_init 73 = .ok (.aload_n 0, 1) := by decide +kernel
theorem dX6_init_74 : decode cX6_init 74 = .ok (.bipush 24, 2) := by decide +kernel
theorem dX6_init_76 : decode cX6_init 76 = .ok (.newarray .int, 2) := by decide +kernel
theorem dX6_init_78 : decode cX6_init 78 = .ok (.putfield 40, 3) := by decide +kernel
theorem dX6_init_81 : decode cX6_init 81 = .ok (.aload_n 0, 1) := by decide +kernel
theorem dX6_init_82 : decode cX6_init 82 = .ok (.iconst 0, 1) := by decide +kernel
theorem dX6_init_83 : decode cX6_init 83 = .ok (.putfield 43, 3) := by decide +kernel
theorem dX6_init_86 : decode cX6_init 86 = .ok (.aload_n 0, 1) := by decide +kernel
theorem dX6_init_87 : decode cX6_init 87 = .ok (.iconst 0, 1) := by decide +kernel
theorem dX6_init_88 : decode cX6_init 88 = .ok (.putfield 46, 3) := by decide +kernel
theorem dX6_init_91 : decode cX6_init 91 = .ok (.aload_n 0, 1) := by decide +kernel
theorem dX6_init_92 : decode cX6_init 92 = .ok (.aload_n 1, 1) := by decide +kernel
theorem dX6_init_93 : decode cX6_init 93 = .ok (.putfield 49, 3) := by decide +kernel
theorem dX6_init_96 : decode cX6_init 96 = .ok (.return_, 1) := by decide +kernel
theorem dX6_fits_0 : decode cX6_fits 0 = .ok (.aload_n 0, 1) := by decide +kernel
theorem dX6_fits_1 : decode cX6_fits 1 = .ok (.aload_n 1, 1) := by decide +kernel
theorem dX6_fits_2 : decode cX6_fits 2 = .ok (.invokevirtual 53, 3) := by decide +kernel
theorem dX6_fits_5 : decode cX6_fits 5 = .ok (.aload_n 0, 1) := by decide +kernel
theorem dX6_fits_6 : decode cX6_fits 6 = .ok (.getfield 24, 3) := by decide +kernel
theorem dX6_fits_9 : decode cX6_fits 9 = .ok (.aload_n 0, 1) := by decide +kernel
theorem dX6_fits_10 : decode cX6_fits 10 = .ok (.getfield 49, 3) := by decide +kernel
theorem dX6_fits_13 : decode cX6_fits 13 = .ok (.getfield 57, 3) := by decide +kernel
theorem dX6_fits_16 : decode cX6_fits 16 = .ok (.aload_n 1, 1) := by decide +kernel
theorem dX6_fits_17 : decode cX6_fits 17 = .ok (.getfield 62, 3) := by decide +kernel
theorem dX6_fits_20 : decode cX6_fits 20 = .ok (.iaload, 1) := by decide +kernel
theorem dX6_fits_21 : decode cX6_fits 21 = .ok (.if_icmp .le 5, 3) := by decide +kernel
theorem dX6_fits_24 : decode cX6_fits 24 = .ok (.iconst 0, 1) := by decide +kernel
theorem dX6_fits_25 : decode cX6_fits 25 = .ok (.ireturn, 1) := by decide +kernel
theorem dX6_fits_26 : decode cX6_fits 26 = .ok (.aload_n 0, 1) := by decide +kernel
theorem dX6_fits_27 : decode cX6_fits 27 = .ok (.getfield 28, 3) := by decide +kernel
theorem dX6_fits_30 : decode cX6_fits 30 = .ok (.iconst 0, 1) := by decide +kernel
theorem dX6_fits_31 : decode cX6_fits 31 = .ok (.aload_n 0, 1) := by decide +kernel
theorem dX6_fits_32 : decode cX6_fits 32 = .ok (.getfield 9, 3) := by decide +kernel
theorem dX6_fits_35 : decode cX6_fits 35 = .ok (.iconst 0, 1) := by decide +kernel
theorem dX6_fits_36 : decode cX6_fits 36 = .ok (.bipush 24, 2) := by decide +kernel
theorem dX6_fits_38 : decode cX6_fits 38 = .ok (.invokestatic 67, 3) := by decide +kernel
theorem dX6_fits_41 : decode cX6_fits 41 = .ok (.iconst 0, 1) := by decide +kernel
theorem dX6_fits_42 : decode cX6_fits 42 = .ok (.istore_n 2, 1) := by decide +kernel
theorem dX6_fits_43 : decode cX6_fits 43 = .ok (.iload_n 2, 1) := by decide +kernel
theorem dX6_fits_44 : decode cX6_fits 44 = .ok (.aload_n 0, 1) := by decide +kernel
theorem dX6_fits_45 : decode cX6_fits 45 = .ok (.getfield 43, 3) := by decide +kernel
theorem dX6_fits_48 : decode cX6_fits 48 = .ok (.if_icmp .gt 40, 3) := by decide +kernel
theorem dX6_fits_51 : decode cX6_fits 51 = .ok (.aload_n 0, 1) := by decide +kernel
theorem dX6_fits_52 : decode cX6_fits 52 = .ok (.invokevirtual 73, 3) := by decide +kernel
theorem dX6_fits_55 : decode cX6_fits 55 = .ok (.istore_n 3, 1) := by decide +kernel
theorem dX6_fits_56 : decode cX6_fits 56 = .ok (.aload_n 0, 1) := by decide +kernel
theorem dX6_fits_57 : decode cX6_fits 57 = .ok (.invokevirtual 77, 3) := by decide +kernel
theorem dX6_fits_60 : decode cX6_fits 60 = .ok (.istore 4, 2) := by decide +kernel
theorem dX6_fits_62 : decode cX6_fits 62 = .ok (.aload_n 0, 1) := by decide +kernel
theorem dX6_fits_63 : decode cX6_fits 63 = .ok (.invokevirtual 80, 3) := by decide +kernel
theorem dX6_fits_66 : decode cX6_fits 66 = .ok (.ifCond .eq 5, 3) := by decide +kernel
theorem dX6_fits_69 : decode cX6_fits 69 = .ok (.iconst 0, 1) := by decide +kernel
theorem dX6_fits_70 : decode cX6_fits 70 = .ok (.ireturn, 1) := by decide +kernel
theorem dX6_fits_71 : decode cX6_fits 71 = .ok (.iload_n 3, 1) := by decide +kernel
theorem dX6_fits_72 : decode cX6_fits 72 = .ok (.ifCond .ne 10, 3) := by decide +kernel
theorem dX6_fits_75 : decode cX6_fits 75 = .ok (.iload 4, 2) := by decide +kernel
theorem dX6_fits_77 : decode cX6_fits 77 = .ok (.ifCond .ne 5, 3) := by decide +kernel
theorem dX6_fits_80 : decode cX6_fits 80 = .ok (.iconst 1, 1) := by decide +kernel
theorem dX6_fits_81 : decode cX6_fits 81 = .ok (.ireturn, 1) := by decide +kernel
theorem dX6_fits_82 : decode cX6_fits 82 = .ok (.iinc 2 1, 3) := by decide +kernel
theorem dX6_fits_85 : decode cX6_fits 85 = .ok (.goto (-42), 3) := by decide +kernel
theorem dX6_fits_88 : decode cX6_fits 88 = .ok (.iconst 0, 1) := by decide +kernel
theorem dX6_fits_89 : decode cX6_fits 89 = .ok (.ireturn, 1) := by decide +kernel
theorem dX6_makeLatest_0 : decode cX6_makeLatest 0 = .ok (.aload_n 0, 1) := by decide +kernel
theorem dX6_makeLatest_1 : decode cX6_makeLatest 1 = .ok (.aload_n 1, 1) := by decide +kernel
theorem dX6_makeLatest_2 : decode cX6_makeLatest 2 = .ok (.invokevirtual 53, 3) := by decide +kernel
theorem dX6_makeLatest_5 : decode cX6_makeLatest 5 = .ok (.aload_n 0, 1) := by decide +kernel
theorem dX6_makeLatest_6 : decode cX6_makeLatest 6 = .ok (.getfield 31, 3) := by decide +kernel
theorem dX6_makeLatest_9 : decode cX6_makeLatest 9 = .ok (.iconst 0, 1) := by decide +kernel
theorem dX6_makeLatest_10 : decode cX6_makeLatest 10 = .ok (.aload_n 0, 1) := by decide +kernel
theorem dX6_makeLatest_11 : decode cX6_makeLatest 11 = .ok (.getfield 15, 3) := by decide +kernel
theorem dX6_makeLatest_14 : decode cX6_makeLatest 14 = .ok (.iconst 0, 1) := by decide +kernel
theorem dX6_makeLatest_15 : decode cX6_makeLatest 15 = .ok (.bipush 24, 2) := by decide +kernel
theorem dX6_makeLatest_17 : decode cX6_makeLatest 17 = .ok (.invokestatic 67, 3) := by decide +kernel
theorem dX6_makeLatest_20 : decode cX6_makeLatest 20 = .ok (.iconst 0, 1) := by decide +kernel
theorem dX6_makeLatest_21 : decode cX6_makeLatest 21 = .ok (.istore_n 2, 1) := by decide +kernel
theorem dX6_makeLatest_22 : decode cX6_makeLatest 22 = .ok (.iload_n 2, 1) := by decide +kernel
theorem dX6_makeLatest_23 : decode cX6_makeLatest 23 = .ok (.aload_n 0, 1) := by decide +kernel
theorem dX6_makeLatest_24 : decode cX6_makeLatest 24 = .ok (.getfield 43, 3) := by decide +kernel
theorem dX6_makeLatest_27 : decode cX6_makeLatest 27 = .ok (.if_icmp .gt 30, 3) := by decide +kernel
theorem dX6_makeLatest_30 : decode cX6_makeLatest 30 = .ok (.aload_n 0, 1) := by decide +kernel
theorem dX6_makeLatest_31 : decode cX6_makeLatest 31 = .ok (.invokevirtual 83, 3) := by decide +kernel
theorem dX6_makeLatest_34 : decode cX6_makeLatest 34 = .ok (.istore_n 3, 1) := by decide +kernel
theorem dX6_makeLatest_35 : decode cX6_makeLatest 35 = .ok (.aload_n 0, 1) := by decide +kernel
theorem dX6_makeLatest_36 : decode cX6_makeLatest 36 = .ok (.invokevirtual 86, 3) := by decide +kernel
theorem dX6_makeLatest_39 : decode cX6_makeLatest 39 = .ok (.istore 4, 2) := by decide +kernel
theorem dX6_makeLatest_41 : decode cX6_makeLatest 41 = .ok (.iload_n 3, 1) := by decide +kernel
theorem dX6_makeLatest_42 : decode cX6_makeLatest 42 = .ok (.ifCond .ne 9, 3) := by decide +kernel
theorem dX6_makeLatest_45 : decode cX6_makeLatest 45 = .ok (.iload 4, 2) := by decide +kernel
theorem dX6_makeLatest_47 : decode cX6_makeLatest 47 = .ok (.ifCond .ne 4, 3) := by decide +kernel
theorem dX6_makeLatest_50 : decode cX6_makeLatest 50 = .ok (.return_, 1) := by decide +kernel
theorem dX6_makeLatest_51 : decode cX6_makeLatest 51 = .ok (.iinc 2 1, 3) := by decide +kernel
theorem dX6_makeLatest_54 : decode cX6_makeLatest 54 = .ok (.goto (-32), 3) := by decide +kernel
theorem dX6_makeLatest_57 : decode cX6_makeLatest 57 = .ok (.return_, 1) := by decide +kernel
theorem dX6_waitBefore_0 : decode cX6_waitBefore 0 = .ok (.aload_n 0, 1) := by decide +kernel
theorem dX6_waitBefore_1 : decode cX6_waitBefore 1 = .ok (.getfield 9, 3) := by decide +kernel
theorem dX6_waitBefore_4 : decode cX6_waitBefore 4 = .ok (.iload_n 1, 1) := by decide +kernel
theorem dX6_waitBefore_5 : decode cX6_waitBefore 5 = .ok (.iaload, 1) := by decide +kernel
theorem dX6_waitBefore_6 : decode cX6_waitBefore 6 = .ok (.aload_n 0, 1) := by decide +kernel
theorem dX6_waitBefore_7 : decode cX6_waitBefore 7 = .ok (.getfield 21, 3) := by decide +kernel
theorem dX6_waitBefore_10 : decode cX6_waitBefore 10 = .ok (.iload_n 1, 1) := by decide +kernel
theorem dX6_waitBefore_11 : decode cX6_waitBefore 11 = .ok (.iaload, 1) := by decide +kernel
theorem dX6_waitBefore_12 : decode cX6_waitBefore 12 = .ok (.isub, 1) := by decide +kernel
theorem dX6_waitBefore_13 : decode cX6_waitBefore 13 = .ok (.iload_n 1, 1) := by decide +kernel
theorem dX6_waitBefore_14 : decode cX6_waitBefore 14 = .ok (.ifCond .ne 10, 3) := by decide +kernel
theorem dX6_waitBefore_17 : decode cX6_waitBefore 17 = .ok (.aload_n 0, 1) := by decide +kernel
theorem dX6_waitBefore_18 : decode cX6_waitBefore 18 = .ok (.getfield 46, 3) := by decide +kernel
theorem dX6_waitBefore_21 : decode cX6_waitBefore 21 = .ok (.goto 11, 3) := by decide +kernel
theorem dX6_waitBefore_24 : decode cX6_waitBefore 24 = .ok (.aload_n 0, 1) := by decide +kernel
theorem dX6_waitBefore_25 : decode cX6_waitBefore 25 = .ok (.getfield 9, 3) := by decide +kernel
theorem dX6_waitBefore_28 : decode cX6_waitBefore 28 = .ok (.iload_n 1, 1) := by decide +kernel
theorem dX6_waitBefore_29 : decode cX6_waitBefore 29 = .ok (.iconst 1, 1) := by decide +kernel
theorem dX6_waitBefore_30 : decode cX6_waitBefore 30 = .ok (.isub, 1) := by decide +kernel
theorem dX6_waitBefore_31 : decode cX6_waitBefore 31 = .ok (.iaload, 1) := by decide +kernel
theorem dX6_waitBefore_32 : decode cX6_waitBefore 32 = .ok (.isub, 1) := by decide +kernel
theorem dX6_waitBefore_33 : decode cX6_waitBefore 33 = .ok (.ireturn, 1) := by decide +kernel
theorem dX6_rideTime_0 : decode cX6_rideTime 0 = .ok (.aload_n 0, 1) := by decide +kernel
theorem dX6_rideTime_1 : decode cX6_rideTime 1 = .ok (.getfield 34, 3) := by decide +kernel
theorem dX6_rideTime_4 : decode cX6_rideTime 4 = .ok (.iconst 2, 1) := by decide +kernel
theorem dX6_rideTime_5 : decode cX6_rideTime 5 = .ok (.iload_n 2, 1) := by decide +kernel
theorem dX6_rideTime_6 : decode cX6_rideTime 6 = .ok (.imul, 1) := by decide +kernel
theorem dX6_rideTime_7 : decode cX6_rideTime 7 = .ok (.iaload, 1) := by decide +kernel
theorem dX6_rideTime_8 : decode cX6_rideTime 8 = .ok (.istore_n 3, 1) := by decide +kernel
theorem dX6_rideTime_9 : decode cX6_rideTime 9 = .ok (.aload_n 0, 1) := by decide +kernel
theorem dX6_rideTime_10 : decode cX6_rideTime 10 = .ok (.getfield 34, 3) := by decide +kernel
theorem dX6_rideTime_13 : decode cX6_rideTime 13 = .ok (.iconst 2, 1) := by decide +kernel
theorem dX6_rideTime_14 : decode cX6_rideTime 14 = .ok (.iload_n 2, 1) := by decide +kernel
theorem dX6_rideTime_15 : decode cX6_rideTime 15 = .ok (.imul, 1) := by decide +kernel
theorem dX6_rideTime_16 : decode cX6_rideTime 16 = .ok (.iconst 1, 1) := by decide +kernel
theorem dX6_rideTime_17 : decode cX6_rideTime 17 = .ok (.iadd, 1) := by decide +kernel
theorem dX6_rideTime_18 : decode cX6_rideTime 18 = .ok (.iaload, 1) := by decide +kernel
theorem dX6_rideTime_19 : decode cX6_rideTime 19 = .ok (.istore 4, 2) := by decide +kernel
theorem dX6_rideTime_21 : decode cX6_rideTime 21 = .ok (.aload_n 1, 1) := by decide +kernel
theorem dX6_rideTime_22 : decode cX6_rideTime 22 = .ok (.iload 4, 2) := by decide +kernel
theorem dX6_rideTime_24 : decode cX6_rideTime 24 = .ok (.iaload, 1) := by decide +kernel
theorem dX6_rideTime_25 : decode cX6_rideTime 25 = .ok (.aload_n 1, 1) := by decide +kernel
theorem dX6_rideTime_26 : decode cX6_rideTime 26 = .ok (.iload_n 3, 1) := by decide +kernel
theorem dX6_rideTime_27 : decode cX6_rideTime 27 = .ok (.iaload, 1) := by decide +kernel
theorem dX6_rideTime_28 : decode cX6_rideTime 28 = .ok (.isub, 1) := by decide +kernel
theorem dX6_rideTime_29 : decode cX6_rideTime 29 = .ok (.aload_n 0, 1) := by decide +kernel
theorem dX6_rideTime_30 : decode cX6_rideTime 30 = .ok (.getfield 49, 3) := by decide +kernel
theorem dX6_rideTime_33 : decode cX6_rideTime 33 = .ok (.getfield 89, 3) := by decide +kernel
theorem dX6_rideTime_36 : decode cX6_rideTime 36 = .ok (.isub, 1) := by decide +kernel
theorem dX6_rideTime_37 : decode cX6_rideTime 37 = .ok (.ireturn, 1) := by decide +kernel
theorem dX6_lookAt_0 : decode cX6_lookAt 0 = .ok (.aload_n 1, 1) := by decide +kernel
theorem dX6_lookAt_1 : decode cX6_lookAt 1 = .ok (.getfield 92, 3) := by decide +kernel
theorem dX6_lookAt_4 : decode cX6_lookAt 4 = .ok (.istore_n 2, 1) := by decide +kernel
theorem dX6_lookAt_5 : decode cX6_lookAt 5 = .ok (.iconst 0, 1) := by decide +kernel
theorem dX6_lookAt_6 : decode cX6_lookAt 6 = .ok (.istore_n 3, 1) := by decide +kernel
theorem dX6_lookAt_7 : decode cX6_lookAt 7 = .ok (.aload_n 0, 1) := by decide +kernel
theorem dX6_lookAt_8 : decode cX6_lookAt 8 = .ok (.aload_n 1, 1) := by decide +kernel
theorem dX6_lookAt_9 : decode cX6_lookAt 9 = .ok (.getfield 95, 3) := by decide +kernel
theorem dX6_lookAt_12 : decode cX6_lookAt 12 = .ok (.putfield 43, 3) := by decide +kernel
theorem dX6_lookAt_15 : decode cX6_lookAt 15 = .ok (.aload_n 0, 1) := by decide +kernel
theorem dX6_lookAt_16 : decode cX6_lookAt 16 = .ok (.aload_n 0, 1) := by decide +kernel
theorem dX6_lookAt_17 : decode cX6_lookAt 17 = .ok (.getfield 49, 3) := by decide +kernel
theorem dX6_lookAt_20 : decode cX6_lookAt 20 = .ok (.getfield 96, 3) := by decide +kernel
theorem dX6_lookAt_23 : decode cX6_lookAt 23 = .ok (.aload_n 1, 1) := by decide +kernel
theorem dX6_lookAt_24 : decode cX6_lookAt 24 = .ok (.getfield 62, 3) := by decide +kernel
theorem dX6_lookAt_27 : decode cX6_lookAt 27 = .ok (.iaload, 1) := by decide +kernel
theorem dX6_lookAt_28 : decode cX6_lookAt 28 = .ok (.putfield 46, 3) := by decide +kernel
theorem dX6_lookAt_31 : decode cX6_lookAt 31 = .ok (.aload_n 0, 1) := by decide +kernel
theorem dX6_lookAt_32 : decode cX6_lookAt 32 = .ok (.iconst 0, 1) := by decide +kernel
theorem dX6_lookAt_33 : decode cX6_lookAt 33 = .ok (.putfield 24, 3) := by decide +kernel
theorem dX6_lookAt_36 : decode cX6_lookAt 36 = .ok (.iconst 0, 1) := by decide +kernel
theorem dX6_lookAt_37 : decode cX6_lookAt 37 = .ok (.istore 4, 2) := by decide +kernel
theorem dX6_lookAt_39 : decode cX6_lookAt 39 = .ok (.iload 4, 2) := by decide +kernel
theorem dX6_lookAt_41 : decode cX6_lookAt 41 = .ok (.aload_n 0, 1) := by decide +kernel
theorem dX6_lookAt_42 : decode cX6_lookAt 42 = .ok (.getfield 43, 3) := by decide +kernel
theorem dX6_lookAt_45 : decode cX6_lookAt 45 = .ok (.if_icmp .ge 187, 3) := by decide +kernel
theorem dX6_lookAt_48 : decode cX6_lookAt 48 = .ok (.aload_n 1, 1) := by decide +kernel
theorem dX6_lookAt_49 : decode cX6_lookAt 49 = .ok (.getfield 98, 3) := by decide +kernel
theorem dX6_lookAt_52 : decode cX6_lookAt 52 = .ok (.iload 4, 2) := by decide +kernel
theorem dX6_lookAt_54 : decode cX6_lookAt 54 = .ok (.iaload, 1) := by decide +kernel
theorem dX6_lookAt_55 : decode cX6_lookAt 55 = .ok (.istore 5, 2) := by decide +kernel
theorem dX6_lookAt_57 : decode cX6_lookAt 57 = .ok (.iload_n 3, 1) := by decide +kernel
theorem dX6_lookAt_58 : decode cX6_lookAt 58 = .ok (.aload_n 0, 1) := by decide +kernel
theorem dX6_lookAt_59 : decode cX6_lookAt 59 = .ok (.getfield 49, 3) := by decide +kernel
theorem dX6_lookAt_62 : decode cX6_lookAt 62 = .ok (.getfield 101, 3) := by decide +kernel
theorem dX6_lookAt_65 : decode cX6_lookAt 65 = .ok (.iload 5, 2) := by decide +kernel
theorem dX6_lookAt_67 : decode cX6_lookAt 67 = .ok (.iaload, 1) := by decide +kernel
theorem dX6_lookAt_68 : decode cX6_lookAt 68 = .ok (.iadd, 1) := by decide +kernel
theorem dX6_lookAt_69 : decode cX6_lookAt 69 = .ok (.istore_n 3, 1) := by decide +kernel
theorem dX6_lookAt_70 : decode cX6_lookAt 70 = .ok (.aload_n 0, 1) := by decide +kernel
theorem dX6_lookAt_71 : decode cX6_lookAt 71 = .ok (.getfield 18, 3) := by decide +kernel
theorem dX6_lookAt_74 : decode cX6_lookAt 74 = .ok (.iload 4, 2) := by decide +kernel
theorem dX6_lookAt_76 : decode cX6_lookAt 76 = .ok (.iload_n 3, 1) := by decide +kernel
theorem dX6_lookAt_77 : decode cX6_lookAt 77 = .ok (.iastore, 1) := by decide +kernel
theorem dX6_lookAt_78 : decode cX6_lookAt 78 = .ok (.aload_n 0, 1) := by decide +kernel
theorem dX6_lookAt_79 : decode cX6_lookAt 79 = .ok (.iload_n 3, 1) := by decide +kernel
theorem dX6_lookAt_80 : decode cX6_lookAt 80 = .ok (.aload_n 0, 1) := by decide +kernel
theorem dX6_lookAt_81 : decode cX6_lookAt 81 = .ok (.getfield 24, 3) := by decide +kernel
theorem dX6_lookAt_84 : decode cX6_lookAt 84 = .ok (.if_icmp .le 7, 3) := by decide +kernel
theorem dX6_lookAt_87 : decode cX6_lookAt 87 = .ok (.iload_n 3, 1) := by decide +kernel
theorem dX6_lookAt_88 : decode cX6_lookAt 88 = .ok (.goto 7, 3) := by decide +kernel
theorem dX6_lookAt_91 : decode cX6_lookAt 91 = .ok (.aload_n 0, 1) := by decide +kernel
theorem dX6_lookAt_92 : decode cX6_lookAt 92 = .ok (.getfield 24, 3) := by decide +kernel
theorem dX6_lookAt_95 : decode cX6_lookAt 95 = .ok (.putfield 24, 3) := by decide +kernel
theorem dX6_lookAt_98 : decode cX6_lookAt 98 = .ok (.aload_n 0, 1) := by decide +kernel
theorem dX6_lookAt_99 : decode cX6_lookAt 99 = .ok (.getfield 21, 3) := by decide +kernel
theorem dX6_lookAt_102 : decode cX6_lookAt 102 = .ok (.iload 4, 2) := by decide +kernel
theorem dX6_lookAt_104 : decode cX6_lookAt 104 = .ok (.aload_n 0, 1) := by decide +kernel
theorem dX6_lookAt_105 : decode cX6_lookAt 105 = .ok (.getfield 49, 3) := by decide +kernel
theorem dX6_lookAt_108 : decode cX6_lookAt 108 = .ok (.getfield 104, 3) := by decide +kernel
theorem dX6_lookAt_111 : decode cX6_lookAt 111 = .ok (.iload_n 2, 1) := by decide +kernel
theorem dX6_lookAt_112 : decode cX6_lookAt 112 = .ok (.aaload, 1) := by decide +kernel
theorem dX6_lookAt_113 : decode cX6_lookAt 113 = .ok (.iload 5, 2) := by decide +kernel
theorem dX6_lookAt_115 : decode cX6_lookAt 115 = .ok (.iaload, 1) := by decide +kernel
theorem dX6_lookAt_116 : decode cX6_lookAt 116 = .ok (.iload 4, 2) := by decide +kernel
theorem dX6_lookAt_118 : decode cX6_lookAt 118 = .ok (.ifCond .ne 7, 3) := by decide +kernel
theorem dX6_lookAt_121 : decode cX6_lookAt 121 = .ok (.iconst 0, 1) := by decide +kernel
theorem dX6_lookAt_122 : decode cX6_lookAt 122 = .ok (.goto 10, 3) := by decide +kernel
theorem dX6_lookAt_125 : decode cX6_lookAt 125 = .ok (.aload_n 0, 1) := by decide +kernel
theorem dX6_lookAt_126 : decode cX6_lookAt 126 = .ok (.getfield 49, 3) := by decide +kernel
theorem dX6_lookAt_129 : decode cX6_lookAt 129 = .ok (.getfield 89, 3) := by decide +kernel
theorem dX6_lookAt_132 : decode cX6_lookAt 132 = .ok (.iadd, 1) := by decide +kernel
theorem dX6_lookAt_133 : decode cX6_lookAt 133 = .ok (.iastore, 1) := by decide +kernel
theorem dX6_lookAt_134 : decode cX6_lookAt 134 = .ok (.aload_n 0, 1) := by decide +kernel
theorem dX6_lookAt_135 : decode cX6_lookAt 135 = .ok (.getfield 28, 3) := by decide +kernel
theorem dX6_lookAt_138 : decode cX6_lookAt 138 = .ok (.iload 4, 2) := by decide +kernel
theorem dX6_lookAt_140 : decode cX6_lookAt 140 = .ok (.aload_n 0, 1) := by decide +kernel
theorem dX6_lookAt_141 : decode cX6_lookAt 141 = .ok (.getfield 49, 3) := by decide +kernel
theorem dX6_lookAt_144 : decode cX6_lookAt 144 = .ok (.getfield 108, 3) := by decide +kernel
theorem dX6_lookAt_147 : decode cX6_lookAt 147 = .ok (.iload 5, 2) := by decide +kernel
theorem dX6_lookAt_149 : decode cX6_lookAt 149 = .ok (.iaload, 1) := by decide +kernel
theorem dX6_lookAt_150 : decode cX6_lookAt 150 = .ok (.iastore, 1) := by decide +kernel
theorem dX6_lookAt_151 : decode cX6_lookAt 151 = .ok (.aload_n 0, 1) := by decide +kernel
theorem dX6_lookAt_152 : decode cX6_lookAt 152 = .ok (.getfield 31, 3) := by decide +kernel
theorem dX6_lookAt_155 : decode cX6_lookAt 155 = .ok (.iload 4, 2) := by decide +kernel
theorem dX6_lookAt_157 : decode cX6_lookAt 157 = .ok (.aload_n 0, 1) := by decide +kernel
theorem dX6_lookAt_158 : decode cX6_lookAt 158 = .ok (.getfield 49, 3) := by decide +kernel
theorem dX6_lookAt_161 : decode cX6_lookAt 161 = .ok (.getfield 111, 3) := by decide +kernel
theorem dX6_lookAt_164 : decode cX6_lookAt 164 = .ok (.iload 5, 2) := by decide +kernel
theorem dX6_lookAt_166 : decode cX6_lookAt 166 = .ok (.iaload, 1) := by decide +kernel
theorem dX6_lookAt_167 : decode cX6_lookAt 167 = .ok (.iastore, 1) := by decide +kernel
theorem dX6_lookAt_168 : decode cX6_lookAt 168 = .ok (.aload_n 0, 1) := by decide +kernel
theorem dX6_lookAt_169 : decode cX6_lookAt 169 = .ok (.getfield 34, 3) := by decide +kernel
theorem dX6_lookAt_172 : decode cX6_lookAt 172 = .ok (.iload 5, 2) := by decide +kernel
theorem dX6_lookAt_174 : decode cX6_lookAt 174 = .ok (.iload 4, 2) := by decide +kernel
theorem dX6_lookAt_176 : decode cX6_lookAt 176 = .ok (.iastore, 1) := by decide +kernel
theorem dX6_lookAt_177 : decode cX6_lookAt 177 = .ok (.aload_n 0, 1) := by decide +kernel
theorem dX6_lookAt_178 : decode cX6_lookAt 178 = .ok (.getfield 37, 3) := by decide +kernel
theorem dX6_lookAt_181 : decode cX6_lookAt 181 = .ok (.iload 4, 2) := by decide +kernel
theorem dX6_lookAt_183 : decode cX6_lookAt 183 = .ok (.aload_n 0, 1) := by decide +kernel
theorem dX6_lookAt_184 : decode cX6_lookAt 184 = .ok (.getfield 34, 3) := by decide +kernel
theorem dX6_lookAt_187 : decode cX6_lookAt 187 = .ok (.iload 5, 2) := by decide +kernel
theorem dX6_lookAt_189 : decode cX6_lookAt 189 = .ok (.iload 5, 2) := by decide +kernel
theorem dX6_lookAt_191 : decode cX6_lookAt 191 = .ok (.iconst 2, 1) := by decide +kernel
theorem dX6_lookAt_192 : decode cX6_lookAt 192 = .ok (.irem, 1) := by decide +kernel
theorem dX6_lookAt_193 : decode cX6_lookAt 193 = .ok (.isub, 1) := by decide +kernel
theorem dX6_lookAt_194 : decode cX6_lookAt 194 = .ok (.iaload, 1) := by decide +kernel
theorem dX6_lookAt_195 : decode cX6_lookAt 195 = .ok (.iastore, 1) := by decide +kernel
theorem dX6_lookAt_196 : decode cX6_lookAt 196 = .ok (.aload_n 0, 1) := by decide +kernel
theorem dX6_lookAt_197 : decode cX6_lookAt 197 = .ok (.getfield 40, 3) := by decide +kernel
theorem dX6_lookAt_200 : decode cX6_lookAt 200 = .ok (.iload 4, 2) := by decide +kernel
theorem dX6_lookAt_202 : decode cX6_lookAt 202 = .ok (.aload_n 0, 1) := by decide +kernel
theorem dX6_lookAt_203 : decode cX6_lookAt 203 = .ok (.getfield 49, 3) := by decide +kernel
theorem dX6_lookAt_206 : decode cX6_lookAt 206 = .ok (.getfield 89, 3) := by decide +kernel
theorem dX6_lookAt_209 : decode cX6_lookAt 209 = .ok (.aload_n 0, 1) := by decide +kernel
theorem dX6_lookAt_210 : decode cX6_lookAt 210 = .ok (.getfield 49, 3) := by decide +kernel
theorem dX6_lookAt_213 : decode cX6_lookAt 213 = .ok (.getfield 114, 3) := by decide +kernel
theorem dX6_lookAt_216 : decode cX6_lookAt 216 = .ok (.iload 5, 2) := by decide +kernel
theorem dX6_lookAt_218 : decode cX6_lookAt 218 = .ok (.iconst 2, 1) := by decide +kernel
theorem dX6_lookAt_219 : decode cX6_lookAt 219 = .ok (.idiv, 1) := by decide +kernel
theorem dX6_lookAt_220 : decode cX6_lookAt 220 = .ok (.iaload, 1) := by decide +kernel
theorem dX6_lookAt_221 : decode cX6_lookAt 221 = .ok (.iadd, 1) := by decide +kernel
theorem dX6_lookAt_222 : decode cX6_lookAt 222 = .ok (.iastore, 1) := by decide +kernel
theorem dX6_lookAt_223 : decode cX6_lookAt 223 = .ok (.iload 5, 2) := by decide +kernel
theorem dX6_lookAt_225 : decode cX6_lookAt 225 = .ok (.istore_n 2, 1) := by decide +kernel
theorem dX6_lookAt_226 : decode cX6_lookAt 226 = .ok (.iinc 4 1, 3) := by decide +kernel
theorem dX6_lookAt_229 : decode cX6_lookAt 229 = .ok (.goto (-190), 3) := by decide +kernel
theorem dX6_lookAt_232 : decode cX6_lookAt 232 = .ok (.aload_n 0, 1) := by decide +kernel
theorem dX6_lookAt_233 : decode cX6_lookAt 233 = .ok (.getfield 43, 3) := by decide +kernel
theorem dX6_lookAt_236 : decode cX6_lookAt 236 = .ok (.ifCond .le 142, 3) := by decide +kernel
theorem dX6_lookAt_239 : decode cX6_lookAt 239 = .ok (.aload_n 0, 1) := by decide +kernel
theorem dX6_lookAt_240 : decode cX6_lookAt 240 = .ok (.getfield 46, 3) := by decide +kernel
theorem dX6_lookAt_243 : decode cX6_lookAt 243 = .ok (.aload_n 0, 1) := by decide +kernel
theorem dX6_lookAt_244 : decode cX6_lookAt 244 = .ok (.getfield 21, 3) := by decide +kernel
theorem dX6_lookAt_247 : decode cX6_lookAt 247 = .ok (.iconst 0, 1) := by decide +kernel
theorem dX6_lookAt_248 : decode cX6_lookAt 248 = .ok (.iaload, 1) := by decide +kernel
theorem dX6_lookAt_249 : decode cX6_lookAt 249 = .ok (.iadd, 1) := by decide +kernel
theorem dX6_lookAt_250 : decode cX6_lookAt 250 = .ok (.istore 4, 2) := by decide +kernel
theorem dX6_lookAt_252 : decode cX6_lookAt 252 = .ok (.aload_n 0, 1) := by decide +kernel
theorem dX6_lookAt_253 : decode cX6_lookAt 253 = .ok (.getfield 28, 3) := by decide +kernel
theorem dX6_lookAt_256 : decode cX6_lookAt 256 = .ok (.iconst 0, 1) := by decide +kernel
theorem dX6_lookAt_257 : decode cX6_lookAt 257 = .ok (.iload 4, 2) := by decide +kernel
theorem dX6_lookAt_259 : decode cX6_lookAt 259 = .ok (.aload_n 0, 1) := by decide +kernel
theorem dX6_lookAt_260 : decode cX6_lookAt 260 = .ok (.getfield 28, 3) := by decide +kernel
theorem dX6_lookAt_263 : decode cX6_lookAt 263 = .ok (.iconst 0, 1) := by decide +kernel
theorem dX6_lookAt_264 : decode cX6_lookAt 264 = .ok (.iaload, 1) := by decide +kernel
theorem dX6_lookAt_265 : decode cX6_lookAt 265 = .ok (.if_icmp .le 8, 3) := by decide +kernel
theorem dX6_lookAt_268 : decode cX6_lookAt 268 = .ok (.iload 4, 2) := by decide +kernel
theorem dX6_lookAt_270 : decode cX6_lookAt 270 = .ok (.goto 9, 3) := by decide +kernel
theorem dX6_lookAt_273 : decode cX6_lookAt 273 = .ok (.aload_n 0, 1) := by decide +kernel
theorem dX6_lookAt_274 : decode cX6_lookAt 274 = .ok (.getfield 28, 3) := by decide +kernel
theorem dX6_lookAt_277 : decode cX6_lookAt 277 = .ok (.iconst 0, 1) := by decide +kernel
theorem dX6_lookAt_278 : decode cX6_lookAt 278 = .ok (.iaload, 1) := by decide +kernel
theorem dX6_lookAt_279 : decode cX6_lookAt 279 = .ok (.iastore, 1) := by decide +kernel
theorem dX6_lookAt_280 : decode cX6_lookAt 280 = .ok (.aload_n 0, 1) := by decide +kernel
theorem dX6_lookAt_281 : decode cX6_lookAt 281 = .ok (.getfield 21, 3) := by decide +kernel
theorem dX6_lookAt_284 : decode cX6_lookAt 284 = .ok (.aload_n 0, 1) := by decide +kernel
theorem dX6_lookAt_285 : decode cX6_lookAt 285 = .ok (.getfield 43, 3) := by decide +kernel
theorem dX6_lookAt_288 : decode cX6_lookAt 288 = .ok (.aload_n 0, 1) := by decide +kernel
theorem dX6_lookAt_289 : decode cX6_lookAt 289 = .ok (.getfield 49, 3) := by decide +kernel
theorem dX6_lookAt_292 : decode cX6_lookAt 292 = .ok (.getfield 104, 3) := by decide +kernel
theorem dX6_lookAt_295 : decode cX6_lookAt 295 = .ok (.iload_n 2, 1) := by decide +kernel
theorem dX6_lookAt_296 : decode cX6_lookAt 296 = .ok (.aaload, 1) := by decide +kernel
theorem dX6_lookAt_297 : decode cX6_lookAt 297 = .ok (.aload_n 1, 1) := by decide +kernel
theorem dX6_lookAt_298 : decode cX6_lookAt 298 = .ok (.getfield 92, 3) := by decide +kernel
theorem dX6_lookAt_301 : decode cX6_lookAt 301 = .ok (.iaload, 1) := by decide +kernel
theorem dX6_lookAt_302 : decode cX6_lookAt 302 = .ok (.aload_n 0, 1) := by decide +kernel
theorem dX6_lookAt_303 : decode cX6_lookAt 303 = .ok (.getfield 49, 3) := by decide +kernel
theorem dX6_lookAt_306 : decode cX6_lookAt 306 = .ok (.getfield 89, 3) := by decide +kernel
theorem dX6_lookAt_309 : decode cX6_lookAt 309 = .ok (.iadd, 1) := by decide +kernel
theorem dX6_lookAt_310 : decode cX6_lookAt 310 = .ok (.iastore, 1) := by decide +kernel
theorem dX6_lookAt_311 : decode cX6_lookAt 311 = .ok (.aload_n 0, 1) := by decide +kernel
theorem dX6_lookAt_312 : decode cX6_lookAt 312 = .ok (.getfield 49, 3) := by decide +kernel
theorem dX6_lookAt_315 : decode cX6_lookAt 315 = .ok (.getfield 117, 3) := by decide +kernel
theorem dX6_lookAt_318 : decode cX6_lookAt 318 = .ok (.aload_n 1, 1) := by decide +kernel
theorem dX6_lookAt_319 : decode cX6_lookAt 319 = .ok (.getfield 62, 3) := by decide +kernel
theorem dX6_lookAt_322 : decode cX6_lookAt 322 = .ok (.iaload, 1) := by decide +kernel
theorem dX6_lookAt_323 : decode cX6_lookAt 323 = .ok (.aload_n 0, 1) := by decide +kernel
theorem dX6_lookAt_324 : decode cX6_lookAt 324 = .ok (.getfield 21, 3) := by decide +kernel
theorem dX6_lookAt_327 : decode cX6_lookAt 327 = .ok (.aload_n 0, 1) := by decide +kernel
theorem dX6_lookAt_328 : decode cX6_lookAt 328 = .ok (.getfield 43, 3) := by decide +kernel
theorem dX6_lookAt_331 : decode cX6_lookAt 331 = .ok (.iaload, 1) := by decide +kernel
theorem dX6_lookAt_332 : decode cX6_lookAt 332 = .ok (.isub, 1) := by decide +kernel
theorem dX6_lookAt_333 : decode cX6_lookAt 333 = .ok (.istore 5, 2) := by decide +kernel
theorem dX6_lookAt_335 : decode cX6_lookAt 335 = .ok (.aload_n 0, 1) := by decide +kernel
theorem dX6_lookAt_336 : decode cX6_lookAt 336 = .ok (.getfield 31, 3) := by decide +kernel
theorem dX6_lookAt_339 : decode cX6_lookAt 339 = .ok (.aload_n 0, 1) := by decide +kernel
theorem dX6_lookAt_340 : decode cX6_lookAt 340 = .ok (.getfield 43, 3) := by decide +kernel
theorem dX6_lookAt_343 : decode cX6_lookAt 343 = .ok (.iconst 1, 1) := by decide +kernel
theorem dX6_lookAt_344 : decode cX6_lookAt 344 = .ok (.isub, 1) := by decide +kernel
theorem dX6_lookAt_345 : decode cX6_lookAt 345 = .ok (.iload 5, 2) := by decide +kernel
theorem dX6_lookAt_347 : decode cX6_lookAt 347 = .ok (.aload_n 0, 1) := by decide +kernel
theorem dX6_lookAt_348 : decode cX6_lookAt 348 = .ok (.getfield 31, 3) := by decide +kernel
theorem dX6_lookAt_351 : decode cX6_lookAt 351 = .ok (.aload_n 0, 1) := by decide +kernel
theorem dX6_lookAt_352 : decode cX6_lookAt 352 = .ok (.getfield 43, 3) := by decide +kernel
theorem dX6_lookAt_355 : decode cX6_lookAt 355 = .ok (.iconst 1, 1) := by decide +kernel
theorem dX6_lookAt_356 : decode cX6_lookAt 356 = .ok (.isub, 1) := by decide +kernel
theorem dX6_lookAt_357 : decode cX6_lookAt 357 = .ok (.iaload, 1) := by decide +kernel
theorem dX6_lookAt_358 : decode cX6_lookAt 358 = .ok (.if_icmp .ge 8, 3) := by decide +kernel
theorem dX6_lookAt_361 : decode cX6_lookAt 361 = .ok (.iload 5, 2) := by decide +kernel
theorem dX6_lookAt_363 : decode cX6_lookAt 363 = .ok (.goto 14, 3) := by decide +kernel
theorem dX6_lookAt_366 : decode cX6_lookAt 366 = .ok (.aload_n 0, 1) := by decide +kernel
theorem dX6_lookAt_367 : decode cX6_lookAt 367 = .ok (.getfield 31, 3) := by decide +kernel
theorem dX6_lookAt_370 : decode cX6_lookAt 370 = .ok (.aload_n 0, 1) := by decide +kernel
theorem dX6_lookAt_371 : decode cX6_lookAt 371 = .ok (.getfield 43, 3) := by decide +kernel
theorem dX6_lookAt_374 : decode cX6_lookAt 374 = .ok (.iconst 1, 1) := by decide +kernel
theorem dX6_lookAt_375 : decode cX6_lookAt 375 = .ok (.isub, 1) := by decide +kernel
theorem dX6_lookAt_376 : decode cX6_lookAt 376 = .ok (.iaload, 1) := by decide +kernel
theorem dX6_lookAt_377 : decode cX6_lookAt 377 = .ok (.iastore, 1) := by decide +kernel
theorem dX6_lookAt_378 : decode cX6_lookAt 378 = .ok (.return_, 1) := by decide +kernel
theorem dX6_delayStops_0 : decode cX6_delayStops 0 = .ok (.iconst 0, 1) := by decide +kernel
theorem dX6_delayStops_1 : decode cX6_delayStops 1 = .ok (.istore_n 1, 1) := by decide +kernel
theorem dX6_delayStops_2 : decode cX6_delayStops 2 = .ok (.iconst 1, 1) := by decide +kernel
theorem dX6_delayStops_3 : decode cX6_delayStops 3 = .ok (.istore_n 2, 1) := by decide +kernel
theorem dX6_delayStops_4 : decode cX6_delayStops 4 = .ok (.iload_n 2, 1) := by decide +kernel
theorem dX6_delayStops_5 : decode cX6_delayStops 5 = .ok (.aload_n 0, 1) := by decide +kernel
theorem dX6_delayStops_6 : decode cX6_delayStops 6 = .ok (.getfield 43, 3) := by decide +kernel
theorem dX6_delayStops_9 : decode cX6_delayStops 9 = .ok (.if_icmp .ge 44, 3) := by decide +kernel
theorem dX6_delayStops_12 : decode cX6_delayStops 12 = .ok (.aload_n 0, 1) := by decide +kernel
theorem dX6_delayStops_13 : decode cX6_delayStops 13 = .ok (.getfield 9, 3) := by decide +kernel
theorem dX6_delayStops_16 : decode cX6_delayStops 16 = .ok (.iload_n 2, 1) := by decide +kernel
theorem dX6_delayStops_17 : decode cX6_delayStops 17 = .ok (.iconst 1, 1) := by decide +kernel
theorem dX6_delayStops_18 : decode cX6_delayStops 18 = .ok (.isub, 1) := by decide +kernel
theorem dX6_delayStops_19 : decode cX6_delayStops 19 = .ok (.iaload, 1) := by decide +kernel
theorem dX6_delayStops_20 : decode cX6_delayStops 20 = .ok (.aload_n 0, 1) := by decide +kernel
theorem dX6_delayStops_21 : decode cX6_delayStops 21 = .ok (.getfield 21, 3) := by decide +kernel
theorem dX6_delayStops_24 : decode cX6_delayStops 24 = .ok (.iload_n 2, 1) := by decide +kernel
theorem dX6_delayStops_25 : decode cX6_delayStops 25 = .ok (.iaload, 1) := by decide +kernel
theorem dX6_delayStops_26 : decode cX6_delayStops 26 = .ok (.iadd, 1) := by decide +kernel
theorem dX6_delayStops_27 : decode cX6_delayStops 27 = .ok (.istore_n 3, 1) := by decide +kernel
theorem dX6_delayStops_28 : decode cX6_delayStops 28 = .ok (.aload_n 0, 1) := by decide +kernel
theorem dX6_delayStops_29 : decode cX6_delayStops 29 = .ok (.getfield 9, 3) := by decide +kernel
theorem dX6_delayStops_32 : decode cX6_delayStops 32 = .ok (.iload_n 2, 1) := by decide +kernel
theorem dX6_delayStops_33 : decode cX6_delayStops 33 = .ok (.iaload, 1) := by decide +kernel
theorem dX6_delayStops_34 : decode cX6_delayStops 34 = .ok (.iload_n 3, 1) := by decide +kernel
theorem dX6_delayStops_35 : decode cX6_delayStops 35 = .ok (.if_icmp .ge 12, 3) := by decide +kernel
theorem dX6_delayStops_38 : decode cX6_delayStops 38 = .ok (.aload_n 0, 1) := by decide +kernel
theorem dX6_delayStops_39 : decode cX6_delayStops 39 = .ok (.getfield 9, 3) := by decide +kernel
theorem dX6_delayStops_42 : decode cX6_delayStops 42 = .ok (.iload_n 2, 1) := by decide +kernel
theorem dX6_delayStops_43 : decode cX6_delayStops 43 = .ok (.iload_n 3, 1) := by decide +kernel
theorem dX6_delayStops_44 : decode cX6_delayStops 44 = .ok (.iastore, 1) := by decide +kernel
theorem dX6_delayStops_45 : decode cX6_delayStops 45 = .ok (.iconst 1, 1) := by decide +kernel
theorem dX6_delayStops_46 : decode cX6_delayStops 46 = .ok (.istore_n 1, 1) := by decide +kernel
theorem dX6_delayStops_47 : decode cX6_delayStops 47 = .ok (.iinc 2 1, 3) := by decide +kernel
theorem dX6_delayStops_50 : decode cX6_delayStops 50 = .ok (.goto (-46), 3) := by decide +kernel
theorem dX6_delayStops_53 : decode cX6_delayStops 53 = .ok (.iload_n 1, 1) := by decide +kernel
theorem dX6_delayStops_54 : decode cX6_delayStops 54 = .ok (.ireturn, 1) := by decide +kernel
theorem dX6_delayPickups_0 : decode cX6_delayPickups 0 = .ok (.iconst 0, 1) := by decide +kernel
theorem dX6_delayPickups_1 : decode cX6_delayPickups 1 = .ok (.istore_n 1, 1) := by decide +kernel
theorem dX6_delayPickups_2 : decode cX6_delayPickups 2 = .ok (.aload_n 0, 1) := by decide +kernel
theorem dX6_delayPickups_3 : decode cX6_delayPickups 3 = .ok (.getfield 43, 3) := by decide +kernel
theorem dX6_delayPickups_6 : decode cX6_delayPickups 6 = .ok (.iconst 1, 1) := by decide +kernel
theorem dX6_delayPickups_7 : decode cX6_delayPickups 7 = .ok (.isub, 1) := by decide +kernel
theorem dX6_delayPickups_8 : decode cX6_delayPickups 8 = .ok (.istore_n 2, 1) := by decide +kernel
theorem dX6_delayPickups_9 : decode cX6_delayPickups 9 = .ok (.iload_n 2, 1) := by decide +kernel
theorem dX6_delayPickups_10 : decode cX6_delayPickups 10 = .ok (.ifCond .le 52, 3) := by decide +kernel
theorem dX6_delayPickups_13 : decode cX6_delayPickups 13 = .ok (.aload_n 0, 1) := by decide +kernel
theorem dX6_delayPickups_14 : decode cX6_delayPickups 14 = .ok (.getfield 9, 3) := by decide +kernel
theorem dX6_delayPickups_17 : decode cX6_delayPickups 17 = .ok (.iload_n 2, 1) := by decide +kernel
theorem dX6_delayPickups_18 : decode cX6_delayPickups 18 = .ok (.iaload, 1) := by decide +kernel
theorem dX6_delayPickups_19 : decode cX6_delayPickups 19 = .ok (.aload_n 0, 1) := by decide +kernel
theorem dX6_delayPickups_20 : decode cX6_delayPickups 20 = .ok (.getfield 40, 3) := by decide +kernel
theorem dX6_delayPickups_23 : decode cX6_delayPickups 23 = .ok (.iload_n 2, 1) := by decide +kernel
theorem dX6_delayPickups_24 : decode cX6_delayPickups 24 = .ok (.iaload, 1) := by decide +kernel
theorem dX6_delayPickups_25 : decode cX6_delayPickups 25 = .ok (.isub, 1) := by decide +kernel
theorem dX6_delayPickups_26 : decode cX6_delayPickups 26 = .ok (.istore_n 3, 1) := by decide +kernel
theorem dX6_delayPickups_27 : decode cX6_delayPickups 27 = .ok (.aload_n 0, 1) := by decide +kernel
theorem dX6_delayPickups_28 : decode cX6_delayPickups 28 = .ok (.getfield 9, 3) := by decide +kernel
theorem dX6_delayPickups_31 : decode cX6_delayPickups 31 = .ok (.aload_n 0, 1) := by decide +kernel
theorem dX6_delayPickups_32 : decode cX6_delayPickups 32 = .ok (.getfield 37, 3) := by decide +kernel
theorem dX6_delayPickups_35 : decode cX6_delayPickups 35 = .ok (.iload_n 2, 1) := by decide +kernel
theorem dX6_delayPickups_36 : decode cX6_delayPickups 36 = .ok (.iaload, 1) := by decide +kernel
theorem dX6_delayPickups_37 : decode cX6_delayPickups 37 = .ok (.iaload, 1) := by decide +kernel
theorem dX6_delayPickups_38 : decode cX6_delayPickups 38 = .ok (.iload_n 3, 1) := by decide +kernel
theorem dX6_delayPickups_39 : decode cX6_delayPickups 39 = .ok (.if_icmp .ge 17, 3) := by decide +kernel
theorem dX6_delayPickups_42 : decode cX6_delayPickups 42 = .ok (.aload_n 0, 1) := by decide +kernel
theorem dX6_delayPickups_43 : decode cX6_delayPickups 43 = .ok (.getfield 9, 3) := by decide +kernel
theorem dX6_delayPickups_46 : decode cX6_delayPickups 46 = .ok (.aload_n 0, 1) := by decide +kernel
theorem dX6_delayPickups_47 : decode cX6_delayPickups 47 = .ok (.getfield 37, 3) := by decide +kernel
theorem dX6_delayPickups_50 : decode cX6_delayPickups 50 = .ok (.iload_n 2, 1) := by decide +kernel
theorem dX6_delayPickups_51 : decode cX6_delayPickups 51 = .ok (.iaload, 1) := by decide +kernel
theorem dX6_delayPickups_52 : decode cX6_delayPickups 52 = .ok (.iload_n 3, 1) := by decide +kernel
theorem dX6_delayPickups_53 : decode cX6_delayPickups 53 = .ok (.iastore, 1) := by decide +kernel
theorem dX6_delayPickups_54 : decode cX6_delayPickups 54 = .ok (.iconst 1, 1) := by decide +kernel
theorem dX6_delayPickups_55 : decode cX6_delayPickups 55 = .ok (.istore_n 1, 1) := by decide +kernel
theorem dX6_delayPickups_56 : decode cX6_delayPickups 56 = .ok (.iinc 2 (-1), 3) := by decide +kernel
theorem dX6_delayPickups_59 : decode cX6_delayPickups 59 = .ok (.goto (-50), 3) := by decide +kernel
theorem dX6_delayPickups_62 : decode cX6_delayPickups 62 = .ok (.iload_n 1, 1) := by decide +kernel
theorem dX6_delayPickups_63 : decode cX6_delayPickups 63 = .ok (.ireturn, 1) := by decide +kernel
theorem dX6_isTooLate_0 : decode cX6_isTooLate 0 = .ok (.iconst 0, 1) := by decide +kernel
theorem dX6_isTooLate_1 : decode cX6_isTooLate 1 = .ok (.istore_n 1, 1) := by decide +kernel
theorem dX6_isTooLate_2 : decode cX6_isTooLate 2 = .ok (.iload_n 1, 1) := by decide +kernel
theorem dX6_isTooLate_3 : decode cX6_isTooLate 3 = .ok (.aload_n 0, 1) := by decide +kernel
theorem dX6_isTooLate_4 : decode cX6_isTooLate 4 = .ok (.getfield 43, 3) := by decide +kernel
theorem dX6_isTooLate_7 : decode cX6_isTooLate 7 = .ok (.if_icmp .ge 26, 3) := by decide +kernel
theorem dX6_isTooLate_10 : decode cX6_isTooLate 10 = .ok (.aload_n 0, 1) := by decide +kernel
theorem dX6_isTooLate_11 : decode cX6_isTooLate 11 = .ok (.getfield 9, 3) := by decide +kernel
theorem dX6_isTooLate_14 : decode cX6_isTooLate 14 = .ok (.iload_n 1, 1) := by decide +kernel
theorem dX6_isTooLate_15 : decode cX6_isTooLate 15 = .ok (.iaload, 1) := by decide +kernel
theorem dX6_isTooLate_16 : decode cX6_isTooLate 16 = .ok (.aload_n 0, 1) := by decide +kernel
theorem dX6_isTooLate_17 : decode cX6_isTooLate 17 = .ok (.getfield 31, 3) := by decide +kernel
theorem dX6_isTooLate_20 : decode cX6_isTooLate 20 = .ok (.iload_n 1, 1) := by decide +kernel
theorem dX6_isTooLate_21 : decode cX6_isTooLate 21 = .ok (.iaload, 1) := by decide +kernel
theorem dX6_isTooLate_22 : decode cX6_isTooLate 22 = .ok (.if_icmp .le 5, 3) := by decide +kernel
theorem dX6_isTooLate_25 : decode cX6_isTooLate 25 = .ok (.iconst 1, 1) := by decide +kernel
theorem dX6_isTooLate_26 : decode cX6_isTooLate 26 = .ok (.ireturn, 1) := by decide +kernel
theorem dX6_isTooLate_27 : decode cX6_isTooLate 27 = .ok (.iinc 1 1, 3) := by decide +kernel
theorem dX6_isTooLate_30 : decode cX6_isTooLate 30 = .ok (.goto (-28), 3) := by decide +kernel
theorem dX6_isTooLate_33 : decode cX6_isTooLate 33 = .ok (.iconst 0, 1) := by decide +kernel
theorem dX6_isTooLate_34 : decode cX6_isTooLate 34 = .ok (.ireturn, 1) := by decide +kernel
theorem dX6_advanceStops_0 : decode cX6_advanceStops 0 = .ok (.iconst 0, 1) := by decide +kernel
theorem dX6_advanceStops_1 : decode cX6_advanceStops 1 = .ok (.istore_n 1, 1) := by decide +kernel
theorem dX6_advanceStops_2 : decode cX6_advanceStops 2 = .ok (.aload_n 0, 1) := by decide +kernel
theorem dX6_advanceStops_3 : decode cX6_advanceStops 3 = .ok (.getfield 43, 3) := by decide +kernel
theorem dX6_advanceStops_6 : decode cX6_advanceStops 6 = .ok (.iconst 2, 1) := by decide +kernel
theorem dX6_advanceStops_7 : decode cX6_advanceStops 7 = .ok (.isub, 1) := by decide +kernel
theorem dX6_advanceStops_8 : decode cX6_advanceStops 8 = .ok (.istore_n 2, 1) := by decide +kernel
theorem dX6_advanceStops_9 : decode cX6_advanceStops 9 = .ok (.iload_n 2, 1) := by decide +kernel
theorem dX6_advanceStops_10 : decode cX6_advanceStops 10 = .ok (.ifCond .lt 46, 3) := by decide +kernel
theorem dX6_advanceStops_13 : decode cX6_advanceStops 13 = .ok (.aload_n 0, 1) := by decide +kernel
theorem dX6_advanceStops_14 : decode cX6_advanceStops 14 = .ok (.getfield 15, 3) := by decide +kernel
theorem dX6_advanceStops_17 : decode cX6_advanceStops 17 = .ok (.iload_n 2, 1) := by decide +kernel
theorem dX6_advanceStops_18 : decode cX6_advanceStops 18 = .ok (.iconst 1, 1) := by decide +kernel
theorem dX6_advanceStops_19 : decode cX6_advanceStops 19 = .ok (.iadd, 1) := by decide +kernel
theorem dX6_advanceStops_20 : decode cX6_advanceStops 20 = .ok (.iaload, 1) := by decide +kernel
theorem dX6_advanceStops_21 : decode cX6_advanceStops 21 = .ok (.aload_n 0, 1) := by decide +kernel
theorem dX6_advanceStops_22 : decode cX6_advanceStops 22 = .ok (.getfield 21, 3) := by decide +kernel
theorem dX6_advanceStops_25 : decode cX6_advanceStops 25 = .ok (.iload_n 2, 1) := by decide +kernel
theorem dX6_advanceStops_26 : decode cX6_advanceStops 26 = .ok (.iconst 1, 1) := by decide +kernel
theorem dX6_advanceStops_27 : decode cX6_advanceStops 27 = .ok (.iadd, 1) := by decide +kernel
theorem dX6_advanceStops_28 : decode cX6_advanceStops 28 = .ok (.iaload, 1) := by decide +kernel
theorem dX6_advanceStops_29 : decode cX6_advanceStops 29 = .ok (.isub, 1) := by decide +kernel
theorem dX6_advanceStops_30 : decode cX6_advanceStops 30 = .ok (.istore_n 3, 1) := by decide +kernel
theorem dX6_advanceStops_31 : decode cX6_advanceStops 31 = .ok (.aload_n 0, 1) := by decide +kernel
theorem dX6_advanceStops_32 : decode cX6_advanceStops 32 = .ok (.getfield 15, 3) := by decide +kernel
theorem dX6_advanceStops_35 : decode cX6_advanceStops 35 = .ok (.iload_n 2, 1) := by decide +kernel
theorem dX6_advanceStops_36 : decode cX6_advanceStops 36 = .ok (.iaload, 1) := by decide +kernel
theorem dX6_advanceStops_37 : decode cX6_advanceStops 37 = .ok (.iload_n 3, 1) := by decide +kernel
theorem dX6_advanceStops_38 : decode cX6_advanceStops 38 = .ok (.if_icmp .le 12, 3) := by decide +kernel
theorem dX6_advanceStops_41 : decode cX6_advanceStops 41 = .ok (.aload_n 0, 1) := by decide +kernel
theorem dX6_advanceStops_42 : decode cX6_advanceStops 42 = .ok (.getfield 15, 3) := by decide +kernel
theorem dX6_advanceStops_45 : decode cX6_advanceStops 45 = .ok (.iload_n 2, 1) := by decide +kernel
theorem dX6_advanceStops_46 : decode cX6_advanceStops 46 = .ok (.iload_n 3, 1) := by decide +kernel
theorem dX6_advanceStops_47 : decode cX6_advanceStops 47 = .ok (.iastore, 1) := by decide +kernel
theorem dX6_advanceStops_48 : decode cX6_advanceStops 48 = .ok (.iconst 1, 1) := by decide +kernel
theorem dX6_advanceStops_49 : decode cX6_advanceStops 49 = .ok (.istore_n 1, 1) := by decide +kernel
theorem dX6_advanceStops_50 : decode cX6_advanceStops 50 = .ok (.iinc 2 (-1), 3) := by decide +kernel
theorem dX6_advanceStops_53 : decode cX6_advanceStops 53 = .ok (.goto (-44), 3) := by decide +kernel
theorem dX6_advanceStops_56 : decode cX6_advanceStops 56 = .ok (.iload_n 1, 1) := by decide +kernel
theorem dX6_advanceStops_57 : decode cX6_advanceStops 57 = .ok (.ireturn, 1) := by decide +kernel
theorem dX6_advanceDrops_0 : decode cX6_advanceDrops 0 = .ok (.iconst 0, 1) := by decide +kernel
theorem dX6_advanceDrops_1 : decode cX6_advanceDrops 1 = .ok (.istore_n 1, 1) := by decide +kernel
theorem dX6_advanceDrops_2 : decode cX6_advanceDrops 2 = .ok (.iconst 1, 1) := by decide +kernel
theorem dX6_advanceDrops_3 : decode cX6_advanceDrops 3 = .ok (.istore_n 2, 1) := by decide +kernel
theorem dX6_advanceDrops_4 : decode cX6_advanceDrops 4 = .ok (.iload_n 2, 1) := by decide +kernel
theorem dX6_advanceDrops_5 : decode cX6_advanceDrops 5 = .ok (.aload_n 0, 1) := by decide +kernel
theorem dX6_advanceDrops_6 : decode cX6_advanceDrops 6 = .ok (.getfield 43, 3) := by decide +kernel
theorem dX6_advanceDrops_9 : decode cX6_advanceDrops 9 = .ok (.if_icmp .ge 47, 3) := by decide +kernel
theorem dX6_advanceDrops_12 : decode cX6_advanceDrops 12 = .ok (.aload_n 0, 1) := by decide +kernel
theorem dX6_advanceDrops_13 : decode cX6_advanceDrops 13 = .ok (.getfield 15, 3) := by decide +kernel
theorem dX6_advanceDrops_16 : decode cX6_advanceDrops 16 = .ok (.aload_n 0, 1) := by decide +kernel
theorem dX6_advanceDrops_17 : decode cX6_advanceDrops 17 = .ok (.getfield 37, 3) := by decide +kernel
theorem dX6_advanceDrops_20 : decode cX6_advanceDrops 20 = .ok (.iload_n 2, 1) := by decide +kernel
theorem dX6_advanceDrops_21 : decode cX6_advanceDrops 21 = .ok (.iaload, 1) := by decide +kernel
theorem dX6_advanceDrops_22 : decode cX6_advanceDrops 22 = .ok (.iaload, 1) := by decide +kernel
theorem dX6_advanceDrops_23 : decode cX6_advanceDrops 23 = .ok (.aload_n 0, 1) := by decide +kernel
theorem dX6_advanceDrops_24 : decode cX6_advanceDrops 24 = .ok (.getfield 40, 3) := by decide +kernel
theorem dX6_advanceDrops_27 : decode cX6_advanceDrops 27 = .ok (.iload_n 2, 1) := by decide +kernel
theorem dX6_advanceDrops_28 : decode cX6_advanceDrops 28 = .ok (.iaload, 1) := by decide +kernel
theorem dX6_advanceDrops_29 : decode cX6_advanceDrops 29 = .ok (.iadd, 1) := by decide +kernel
theorem dX6_advanceDrops_30 : decode cX6_advanceDrops 30 = .ok (.istore_n 3, 1) := by decide +kernel
theorem dX6_advanceDrops_31 : decode cX6_advanceDrops 31 = .ok (.aload_n 0, 1) := by decide +kernel
theorem dX6_advanceDrops_32 : decode cX6_advanceDrops 32 = .ok (.getfield 15, 3) := by decide +kernel
theorem dX6_advanceDrops_35 : decode cX6_advanceDrops 35 = .ok (.iload_n 2, 1) := by decide +kernel
theorem dX6_advanceDrops_36 : decode cX6_advanceDrops 36 = .ok (.iaload, 1) := by decide +kernel
theorem dX6_advanceDrops_37 : decode cX6_advanceDrops 37 = .ok (.iload_n 3, 1) := by decide +kernel
theorem dX6_advanceDrops_38 : decode cX6_advanceDrops 38 = .ok (.if_icmp .le 12, 3) := by decide +kernel
theorem dX6_advanceDrops_41 : decode cX6_advanceDrops 41 = .ok (.aload_n 0, 1) := by decide +kernel
theorem dX6_advanceDrops_42 : decode cX6_advanceDrops 42 = .ok (.getfield 15, 3) := by decide +kernel
theorem dX6_advanceDrops_45 : decode cX6_advanceDrops 45 = .ok (.iload_n 2, 1) := by decide +kernel
theorem dX6_advanceDrops_46 : decode cX6_advanceDrops 46 = .ok (.iload_n 3, 1) := by decide +kernel
theorem dX6_advanceDrops_47 : decode cX6_advanceDrops 47 = .ok (.iastore, 1) := by decide +kernel
theorem dX6_advanceDrops_48 : decode cX6_advanceDrops 48 = .ok (.iconst 1, 1) := by decide +kernel
theorem dX6_advanceDrops_49 : decode cX6_advanceDrops 49 = .ok (.istore_n 1, 1) := by decide +kernel
theorem dX6_advanceDrops_50 : decode cX6_advanceDrops 50 = .ok (.iinc 2 1, 3) := by decide +kernel
theorem dX6_advanceDrops_53 : decode cX6_advanceDrops 53 = .ok (.goto (-49), 3) := by decide +kernel
theorem dX6_advanceDrops_56 : decode cX6_advanceDrops 56 = .ok (.iload_n 1, 1) := by decide +kernel
theorem dX6_advanceDrops_57 : decode cX6_advanceDrops 57 = .ok (.ireturn, 1) := by decide +kernel
theorem dX7_init_0 : decode cX7_init 0 = .ok (.aload_n 0, 1) := by decide +kernel
theorem dX7_init_1 : decode cX7_init 1 = .ok (.invokespecial 3, 3) := by decide +kernel
theorem dX7_init_4 : decode cX7_init 4 = .ok (.new 9, 3) := by decide +kernel
theorem dX7_init_7 : decode cX7_init 7 = .ok (.dup, 1) := by decide +kernel
theorem dX7_init_8 : decode cX7_init 8 = .ok (.invokespecial 11, 3) := by decide +kernel
theorem dX7_init_11 : decode cX7_init 11 = .ok (.astore_n 1, 1) := by decide +kernel
theorem dX7_init_12 : decode cX7_init 12 = .ok (.new 12, 3) := by decide +kernel
theorem dX7_init_15 : decode cX7_init 15 = .ok (.dup, 1) := by decide +kernel
theorem dX7_init_16 : decode cX7_init 16 = .ok (.aload_n 1, 1) := by decide +kernel
theorem dX7_init_17 : decode cX7_init 17 = .ok (.invokespecial 14, 3) := by decide +kernel
theorem dX7_init_20 : decode cX7_init 20 = .ok (.astore_n 2, 1) := by decide +kernel
theorem dX7_init_21 : decode cX7_init 21 = .ok (.new 17, 3) := by decide +kernel
theorem dX7_init_24 : decode cX7_init 24 = .ok (.dup, 1) := by decide +kernel
theorem dX7_init_25 : decode cX7_init 25 = .ok (.aload_n 1, 1) := by decide +kernel
theorem dX7_init_26 : decode cX7_init 26 = .ok (.aload_n 2, 1) := by decide +kernel
theorem dX7_init_27 : decode cX7_init 27 = .ok (.invokespecial 19, 3) := by decide +kernel
theorem dX7_init_30 : decode cX7_init 30 = .ok (.astore_n 3, 1) := by decide +kernel
theorem dX7_init_31 : decode cX7_init 31 = .ok (.aload_n 0, 1) := by decide +kernel
theorem dX7_init_32 : decode cX7_init 32 = .ok (.aload_n 1, 1) := by decide +kernel
theorem dX7_init_33 : decode cX7_init 33 = .ok (.putfield 22, 3) := by decide +kernel
theorem dX7_init_36 : decode cX7_init 36 = .ok (.aload_n 0, 1) := by decide +kernel
theorem dX7_init_37 : decode cX7_init 37 = .ok (.aload_n 2, 1) := by decide +kernel
theorem dX7_init_38 : decode cX7_init 38 = .ok (.putfield 26, 3) := by decide +kernel
theorem dX7_init_41 : decode cX7_init 41 = .ok (.aload_n 0, 1) := by decide +kernel
theorem dX7_init_42 : decode cX7_init 42 = .ok (.aload_n 3, 1) := by decide +kernel
theorem dX7_init_43 : decode cX7_init 43 = .ok (.putfield 30, 3) := by decide +kernel
theorem dX7_init_46 : decode cX7_init 46 = .ok (.aload_n 0, 1) := by decide +kernel
theorem dX7_init_47 : decode cX7_init 47 = .ok (.new 34, 3) := by decide +kernel
theorem dX7_init_50 : decode cX7_init 50 = .ok (.dup, 1) := by decide +kernel
theorem dX7_init_51 : decode cX7_init 51 = .ok (.aload_n 1, 1) := by decide +kernel
theorem dX7_init_52 : decode cX7_init 52 = .ok (.aload_n 3, 1) := by decide +kernel
theorem dX7_init_53 : decode cX7_init 53 = .ok (.invokespecial 36, 3) := by decide +kernel
theorem dX7_init_56 : decode cX7_init 56 = .ok (.putfield 39, 3) := by decide +kernel
theorem dX7_init_59 : decode cX7_init 59 = .ok (.aload_n 0, 1) := by decide +kernel
theorem dX7_init_60 : decode cX7_init 60 = .ok (.new 43, 3) := by decide +kernel
theorem dX7_init_63 : decode cX7_init 63 = .ok (.dup, 1) := by decide +kernel
theorem dX7_init_64 : decode cX7_init 64 = .ok (.invokespecial 45, 3) := by decide +kernel
theorem dX7_init_67 : decode cX7_init 67 = .ok (.putfield 46, 3) := by decide +kernel
theorem dX7_init_70 : decode cX7_init 70 = .ok (.aload_n 0, 1) := by decide +kernel
theorem dX7_init_71 : decode cX7_init 71 = .ok (.new 50, 3) := by decide +kernel
theorem dX7_init_74 : decode cX7_init 74 = .ok (.dup, 1) := by decide +kernel
theorem dX7_init_75 : decode cX7_init 75 = .ok (.invokespecial 52, 3) := by decide +kernel
theorem dX7_init_78 : decode cX7_init 78 = .ok (.putfield 53, 3) := by decide +kernel
theorem dX7_init_81 : decode cX7_init 81 = .ok (.return_, 1) := by decide +kernel
theorem dX7_addVehicle_0 : decode cX7_addVehicle 0 = .ok (.iload_n 1, 1) := by decide +kernel
theorem dX7_addVehicle_1 : decode cX7_addVehicle 1 = .ok (.iload_n 2, 1) := by decide +kernel
theorem dX7_addVehicle_2 : decode cX7_addVehicle 2 = .ok (.invokestatic 57, 3) := by decide +kernel
theorem dX7_addVehicle_5 : decode cX7_addVehicle 5 = .ok (.ifCond .eq 20, 3) := by decide +kernel
theorem dX7_addVehicle_8 : decode cX7_addVehicle 8 = .ok (.iload_n 3, 1) := by decide +kernel
theorem dX7_addVehicle_9 : decode cX7_addVehicle 9 = .ok (.invokestatic 61, 3) := by decide +kernel
theorem dX7_addVehicle_12 : decode cX7_addVehicle 12 = .ok (.ifCond .eq 13, 3) := by decide +kernel
theorem dX7_addVehicle_15 : decode cX7_addVehicle 15 = .ok (.iload 4, 2) := by decide +kernel
theorem dX7_addVehicle_17 : decode cX7_addVehicle 17 = .ok (.iload 5, 2) := by decide +kernel
theorem dX7_addVehicle_19 : decode cX7_addVehicle 19 = .ok (.invokestatic 65, 3) := by decide +kernel
theorem dX7_addVehicle_22 : decode cX7_addVehicle 22 = .ok (.ifCond .ne 7, 3) := by decide +kernel
theorem dX7_addVehicle_25 : decode cX7_addVehicle 25 = .ok (.sipush (-1002), 3) := by decide +kernel
theorem dX7_addVehicle_28 : decode cX7_addVehicle 28 = .ok (.ireturn, 1) := by decide +kernel
theorem dX7_addVehicle_29 : decode cX7_addVehicle 29 = .ok (.aload_n 0, 1) := by decide +kernel
theorem dX7_addVehicle_30 : decode cX7_addVehicle 30 = .ok (.getfield 22, 3) := by decide +kernel
theorem dX7_addVehicle_33 : decode cX7_addVehicle 33 = .ok (.getfield 68, 3) := by decide +kernel
theorem dX7_addVehicle_36 : decode cX7_addVehicle 36 = .ok (.iconst 4, 1) := by decide +kernel
theorem dX7_addVehicle_37 : decode cX7_addVehicle 37 = .ok (.if_icmp .lt 7, 3) := by decide +kernel
theorem dX7_addVehicle_40 : decode cX7_addVehicle 40 = .ok (.sipush (-1006), 3) := by decide +kernel
theorem dX7_addVehicle_43 : decode cX7_addVehicle 43 = .ok (.ireturn, 1) := by decide +kernel
theorem dX7_addVehicle_44 : decode cX7_addVehicle 44 = .ok (.aload_n 0, 1) := by decide +kernel
theorem dX7_addVehicle_45 : decode cX7_addVehicle 45 = .ok (.getfield 22, 3) := by decide +kernel
theorem dX7_addVehicle_48 : decode cX7_addVehicle 48 = .ok (.getfield 68, 3) := by decide +kernel
theorem dX7_addVehicle_51 : decode cX7_addVehicle 51 = .ok (.istore 6, 2) := by decide +kernel
theorem dX7_addVehicle_53 : decode cX7_addVehicle 53 = .ok (.aload_n 0, 1) := by decide +kernel
theorem dX7_addVehicle_54 : decode cX7_addVehicle 54 = .ok (.getfield 22, 3) := by decide +kernel
theorem dX7_addVehicle_57 : decode cX7_addVehicle 57 = .ok (.getfield 72, 3) := by decide +kernel
theorem dX7_addVehicle_60 : decode cX7_addVehicle 60 = .ok (.iload 6, 2) := by decide +kernel
theorem dX7_addVehicle_62 : decode cX7_addVehicle 62 = .ok (.iload_n 3, 1) := by decide +kernel
theorem dX7_addVehicle_63 : decode cX7_addVehicle 63 = .ok (.iastore, 1) := by decide +kernel
theorem dX7_addVehicle_64 : decode cX7_addVehicle 64 = .ok (.aload_n 0, 1) := by decide +kernel
theorem dX7_addVehicle_65 : decode cX7_addVehicle 65 = .ok (.getfield 22, 3) := by decide +kernel
theorem dX7_addVehicle_68 : decode cX7_addVehicle 68 = .ok (.getfield 76, 3) := by decide +kernel
theorem dX7_addVehicle_71 : decode cX7_addVehicle 71 = .ok (.iload 6, 2) := by decide +kernel
theorem dX7_addVehicle_73 : decode cX7_addVehicle 73 = .ok (.iload 4, 2) := by decide +kernel
theorem dX7_addVehicle_75 : decode cX7_addVehicle 75 = .ok (.iastore, 1) := by decide +kernel
theorem dX7_addVehicle_76 : decode cX7_addVehicle 76 = .ok (.aload_n 0, 1) := by decide +kernel
theorem dX7_addVehicle_77 : decode cX7_addVehicle 77 = .ok (.getfield 22, 3) := by decide +kernel
theorem dX7_addVehicle_80 : decode cX7_addVehicle 80 = .ok (.getfield 79, 3) := by decide +kernel
theorem dX7_addVehicle_83 : decode cX7_addVehicle 83 = .ok (.iload 6, 2) := by decide +kernel
theorem dX7_addVehicle_85 : decode cX7_addVehicle 85 = .ok (.iload 5, 2) := by decide +kernel
theorem dX7_addVehicle_87 : decode cX7_addVehicle 87 = .ok (.iastore, 1) := by decide +kernel
theorem dX7_addVehicle_88 : decode cX7_addVehicle 88 = .ok (.aload_n 0, 1) := by decide +kernel
theorem dX7_addVehicle_89 : decode cX7_addVehicle 89 = .ok (.getfield 22, 3) := by decide +kernel
theorem dX7_addVehicle_92 : decode cX7_addVehicle 92 = .ok (.bipush 24, 2) := by decide +kernel
theorem dX7_addVehicle_94 : decode cX7_addVehicle 94 = .ok (.iload 6, 2) := by decide +kernel
theorem dX7_addVehicle_96 : decode cX7_addVehicle 96 = .ok (.iadd, 1) := by decide +kernel
theorem dX7_addVehicle_97 : decode cX7_addVehicle 97 = .ok (.iload_n 1, 1) := by decide +kernel
theorem dX7_addVehicle_98 : decode cX7_addVehicle 98 = .ok (.iload_n 2, 1) := by decide +kernel
theorem dX7_addVehicle_99 : decode cX7_addVehicle 99 = .ok (.invokevirtual 82, 3) := by decide +kernel
theorem dX7_addVehicle_102 : decode cX7_addVehicle 102 = .ok (.aload_n 0, 1) := by decide +kernel
theorem dX7_addVehicle_103 : decode cX7_addVehicle 103 = .ok (.getfield 22, 3) := by decide +kernel
theorem dX7_addVehicle_106 : decode cX7_addVehicle 106 = .ok (.iload 6, 2) := by decide +kernel
theorem dX7_addVehicle_108 : decode cX7_addVehicle 108 = .ok (.iconst 1, 1) := by decide +kernel
theorem dX7_addVehicle_109 : decode cX7_addVehicle 109 = .ok (.iadd, 1) := by decide +kernel
theorem dX7_addVehicle_110 : decode cX7_addVehicle 110 = .ok (.putfield 68, 3) := by decide +kernel
theorem dX7_addVehicle_113 : decode cX7_addVehicle 113 = .ok (.aload_n 0, 1) := by decide +kernel
theorem dX7_addVehicle_114 : decode cX7_addVehicle 114 = .ok (.getfield 53, 3) := by decide +kernel
theorem dX7_addVehicle_117 : decode cX7_addVehicle 117 = .ok (.invokevirtual 86, 3) := by decide +kernel
theorem dX7_addVehicle_120 : decode cX7_addVehicle 120 = .ok (.iload 6, 2) := by decide +kernel
theorem dX7_addVehicle_122 : decode cX7_addVehicle 122 = .ok (.ireturn, 1) := by decide +kernel
theorem dX7_addRequest_0 : decode cX7_addRequest 0 = .ok (.iload_n 1, 1) := by decide +kernel
theorem dX7_addRequest_1 : decode cX7_addRequest 1 = .ok (.iload_n 2, 1) := by decide +kernel
theorem dX7_addRequest_2 : decode cX7_addRequest 2 = .ok (.invokestatic 57, 3) := by decide +kernel
theorem dX7_addRequest_5 : decode cX7_addRequest 5 = .ok (.ifCond .eq 28, 3) := by decide +kernel
theorem dX7_addRequest_8 : decode cX7_addRequest 8 = .ok (.iload_n 3, 1) := by decide +kernel
theorem dX7_addRequest_9 : decode cX7_addRequest 9 = .ok (.iload 4, 2) := by decide +kernel
theorem dX7_addRequest_11 : decode cX7_addRequest 11 = .ok (.invokestatic 57, 3) := by decide +kernel
theorem dX7_addRequest_14 : decode cX7_addRequest 14 = .ok (.ifCond .eq 19, 3) := by decide +kernel
theorem dX7_addRequest_17 : decode cX7_addRequest 17 = .ok (.iload 5, 2) := by decide +kernel
theorem dX7_addRequest_19 : decode cX7_addRequest 19 = .ok (.invokestatic 61, 3) := by decide +kernel
theorem dX7_addRequest_22 : decode cX7_addRequest 22 = .ok (.ifCond .eq 11, 3) := by decide +kernel
theorem dX7_addRequest_25 : decode cX7_addRequest 25 = .ok (.iload 6, 2) := by decide +kernel
theorem dX7_addRequest_27 : decode cX7_addRequest 27 = .ok (.invokestatic 89, 3) := by decide +kernel
theorem dX7_addRequest_30 : decode cX7_addRequest 30 = .ok (.ifCond .ne 7, 3) := by decide +kernel
theorem dX7_addRequest_33 : decode cX7_addRequest 33 = .ok (.sipush (-1002), 3) := by decide +kernel
theorem dX7_addRequest_36 : decode cX7_addRequest 36 = .ok (.ireturn, 1) := by decide +kernel
theorem dX7_addRequest_37 : decode cX7_addRequest 37 = .ok (.aload_n 0, 1) := by decide +kernel
theorem dX7_addRequest_38 : decode cX7_addRequest 38 = .ok (.getfield 22, 3) := by decide +kernel
theorem dX7_addRequest_41 : decode cX7_addRequest 41 = .ok (.getfield 92, 3) := by decide +kernel
theorem dX7_addRequest_44 : decode cX7_addRequest 44 = .ok (.bipush 12, 2) := by decide +kernel
theorem dX7_addRequest_46 : decode cX7_addRequest 46 = .ok (.if_icmp .lt 7, 3) := by decide +kernel
theorem dX7_addRequest_49 : decode cX7_addRequest 49 = .ok (.sipush (-1006), 3) := by decide +kernel
theorem dX7_addRequest_52 : decode cX7_addRequest 52 = .ok (.ireturn, 1) := by decide +kernel
theorem dX7_addRequest_53 : decode cX7_addRequest 53 = .ok (.aload_n 0, 1) := by decide +kernel
theorem dX7_addRequest_54 : decode cX7_addRequest 54 = .ok (.getfield 22, 3) := by decide +kernel
theorem dX7_addRequest_57 : decode cX7_addRequest 57 = .ok (.getfield 92, 3) := by decide +kernel
theorem dX7_addRequest_60 : decode cX7_addRequest 60 = .ok (.istore 7, 2) := by decide +kernel
theorem dX7_addRequest_62 : decode cX7_addRequest 62 = .ok (.aload_n 0, 1) := by decide +kernel
theorem dX7_addRequest_63 : decode cX7_addRequest 63 = .ok (.getfield 22, 3) := by decide +kernel
theorem dX7_addRequest_66 : decode cX7_addRequest 66 = .ok (.iload 7, 2) := by decide +kernel
theorem dX7_addRequest_68 : decode cX7_addRequest 68 = .ok (.iload 5, 2) := by decide +kernel
theorem dX7_addRequest_70 : decode cX7_addRequest 70 = .ok (.invokevirtual 95, 3) := by decide +kernel
theorem dX7_addRequest_73 : decode cX7_addRequest 73 = .ok (.aload_n 0, 1) := by decide +kernel
theorem dX7_addRequest_74 : decode cX7_addRequest 74 = .ok (.getfield 22, 3) := by decide +kernel
theorem dX7_addRequest_77 : decode cX7_addRequest 77 = .ok (.getfield 99, 3) := by decide +kernel
theorem dX7_addRequest_80 : decode cX7_addRequest 80 = .ok (.iload 7, 2) := by decide +kernel
theorem dX7_addRequest_82 : decode cX7_addRequest 82 = .ok (.iload 6, 2) := by decide +kernel
theorem dX7_addRequest_84 : decode cX7_addRequest 84 = .ok (.iastore, 1) := by decide +kernel
theorem dX7_addRequest_85 : decode cX7_addRequest 85 = .ok (.aload_n 0, 1) := by decide +kernel
theorem dX7_addRequest_86 : decode cX7_addRequest 86 = .ok (.getfield 22, 3) := by decide +kernel
theorem dX7_addRequest_89 : decode cX7_addRequest 89 = .ok (.iconst 2, 1) := by decide +kernel
theorem dX7_addRequest_90 : decode cX7_addRequest 90 = .ok (.iload 7, 2) := by decide +kernel
theorem dX7_addRequest_92 : decode cX7_addRequest 92 = .ok (.imul, 1) := by decide +kernel
theorem dX7_addRequest_93 : decode cX7_addRequest 93 = .ok (.iload_n 1, 1) := by decide +kernel
theorem dX7_addRequest_94 : decode cX7_addRequest 94 = .ok (.iload_n 2, 1) := by decide +kernel
theorem dX7_addRequest_95 : decode cX7_addRequest 95 = .ok (.invokevirtual 82, 3) := by decide +kernel
theorem dX7_addRequest_98 : decode cX7_addRequest 98 = .ok (.aload_n 0, 1) := by decide +kernel
theorem dX7_addRequest_99 : decode cX7_addRequest 99 = .ok (.getfield 22, 3) := by decide +kernel
theorem dX7_addRequest_102 : decode cX7_addRequest 102 = .ok (.iconst 2, 1) := by decide +kernel
theorem dX7_addRequest_103 : decode cX7_addRequest 103 = .ok (.iload 7, 2) := by decide +kernel
theorem dX7_addRequest_105 : decode cX7_addRequest 105 = .ok (.imul, 1) := by decide +kernel
theorem dX7_addRequest_106 : decode cX7_addRequest 106 = .ok (.iconst 1, 1) := by decide +kernel
theorem dX7_addRequest_107 : decode cX7_addRequest 107 = .ok (.iadd, 1) := by decide +kernel
theorem dX7_addRequest_108 : decode cX7_addRequest 108 = .ok (.iload_n 3, 1) := by decide +kernel
theorem dX7_addRequest_109 : decode cX7_addRequest 109 = .ok (.iload 4, 2) := by decide +kernel
theorem dX7_addRequest_111 : decode cX7_addRequest 111 = .ok (.invokevirtual 82, 3) := by decide +kernel
theorem dX7_addRequest_114 : decode cX7_addRequest 114 = .ok (.aload_n 0, 1) := by decide +kernel
theorem dX7_addRequest_115 : decode cX7_addRequest 115 = .ok (.getfield 22, 3) := by decide +kernel
theorem dX7_addRequest_118 : decode cX7_addRequest 118 = .ok (.iconst 2, 1) := by decide +kernel
theorem dX7_addRequest_119 : decode cX7_addRequest 119 = .ok (.iload 7, 2) := by decide +kernel
theorem dX7_addRequest_121 : decode cX7_addRequest 121 = .ok (.imul, 1) := by decide +kernel
theorem dX7_addRequest_122 : decode cX7_addRequest 122 = .ok (.iconst 0, 1) := by decide +kernel
theorem dX7_addRequest_123 : decode cX7_addRequest 123 = .ok (.sipush 5000, 3) := by decide +kernel
theorem dX7_addRequest_126 : decode cX7_addRequest 126 = .ok (.invokevirtual 102, 3) := by decide +kernel
theorem dX7_addRequest_129 : decode cX7_addRequest 129 = .ok (.aload_n 0, 1) := by decide +kernel
theorem dX7_addRequest_130 : decode cX7_addRequest 130 = .ok (.getfield 22, 3) := by decide +kernel
theorem dX7_addRequest_133 : decode cX7_addRequest 133 = .ok (.iconst 2, 1) := by decide +kernel
theorem dX7_addRequest_134 : decode cX7_addRequest 134 = .ok (.iload 7, 2) := by decide +kernel
theorem dX7_addRequest_136 : decode cX7_addRequest 136 = .ok (.imul, 1) := by decide +kernel
theorem dX7_addRequest_137 : decode cX7_addRequest 137 = .ok (.iconst 1, 1) := by decide +kernel
theorem dX7_addRequest_138 : decode cX7_addRequest 138 = .ok (.iadd, 1) := by decide +kernel
theorem dX7_addRequest_139 : decode cX7_addRequest 139 = .ok (.iconst 0, 1) := by decide +kernel
theorem dX7_addRequest_140 : decode cX7_addRequest 140 = .ok (.sipush 5000, 3) := by decide +kernel
theorem dX7_addRequest_143 : decode cX7_addRequest 143 = .ok (.invokevirtual 102, 3) := by decide +kernel
theorem dX7_addRequest_146 : decode cX7_addRequest 146 = .ok (.aload_n 0, 1) := by decide +kernel
theorem dX7_addRequest_147 : decode cX7_addRequest 147 = .ok (.getfield 22, 3) := by decide +kernel
theorem dX7_addRequest_150 : decode cX7_addRequest 150 = .ok (.iload 7, 2) := by decide +kernel
theorem dX7_addRequest_152 : decode cX7_addRequest 152 = .ok (.iconst 1, 1) := by decide +kernel
theorem dX7_addRequest_153 : decode cX7_addRequest 153 = .ok (.iadd, 1) := by decide +kernel
theorem dX7_addRequest_154 : decode cX7_addRequest 154 = .ok (.putfield 92, 3) := by decide +kernel
theorem dX7_addRequest_157 : decode cX7_addRequest 157 = .ok (.aload_n 0, 1) := by decide +kernel
theorem dX7_addRequest_158 : decode cX7_addRequest 158 = .ok (.getfield 53, 3) := by decide +kernel
theorem dX7_addRequest_161 : decode cX7_addRequest 161 = .ok (.invokevirtual 86, 3) := by decide +kernel
theorem dX7_addRequest_164 : decode cX7_addRequest 164 = .ok (.iload 7, 2) := by decide +kernel
theorem dX7_addRequest_166 : decode cX7_addRequest 166 = .ok (.ireturn, 1) := by decide +kernel
theorem dX7_setWindow_0 : decode cX7_setWindow 0 = .ok (.aload_n 0, 1) := by decide +kernel
theorem dX7_setWindow_1 : decode cX7_setWindow 1 = .ok (.iload_n 1, 1) := by decide +kernel
theorem dX7_setWindow_2 : decode cX7_setWindow 2 = .ok (.invokevirtual 105, 3) := by decide +kernel
theorem dX7_setWindow_5 : decode cX7_setWindow 5 = .ok (.ifCond .ne 7, 3) := by decide +kernel
theorem dX7_setWindow_8 : decode cX7_setWindow 8 = .ok (.sipush (-1001), 3) := by decide +kernel
theorem dX7_setWindow_11 : decode cX7_setWindow 11 = .ok (.ireturn, 1) := by decide +kernel
theorem dX7_setWindow_12 : decode cX7_setWindow 12 = .ok (.iload_n 3, 1) := by decide +kernel
theorem dX7_setWindow_13 : decode cX7_setWindow 13 = .ok (.iload 4, 2) := by decide +kernel
theorem dX7_setWindow_15 : decode cX7_setWindow 15 = .ok (.invokestatic 65, 3) := by decide +kernel
theorem dX7_setWindow_18 : decode cX7_setWindow 18 = .ok (.ifCond .ne 7, 3) := by decide +kernel
theorem dX7_setWindow_21 : decode cX7_setWindow 21 = .ok (.sipush (-1002), 3) := by decide +kernel
theorem dX7_setWindow_24 : decode cX7_setWindow 24 = .ok (.ireturn, 1) := by decide +kernel
theorem dX7_setWindow_25 : decode cX7_setWindow 25 = .ok (.iload_n 2, 1) := by decide +kernel
theorem dX7_setWindow_26 : decode cX7_setWindow 26 = .ok (.ifCond .eq 11, 3) := by decide +kernel
theorem dX7_setWindow_29 : decode cX7_setWindow 29 = .ok (.iconst 2, 1) := by decide +kernel
theorem dX7_setWindow_30 : decode cX7_setWindow 30 = .ok (.iload_n 1, 1) := by decide +kernel
theorem dX7_setWindow_31 : decode cX7_setWindow 31 = .ok (.imul, 1) := by decide +kernel
theorem dX7_setWindow_32 : decode cX7_setWindow 32 = .ok (.iconst 1, 1) := by decide +kernel
theorem dX7_setWindow_33 : decode cX7_setWindow 33 = .ok (.iadd, 1) := by decide +kernel
theorem dX7_setWindow_34 : decode cX7_setWindow 34 = .ok (.goto 6, 3) := by decide +kernel
theorem dX7_setWindow_37 : decode cX7_setWindow 37 = .ok (.iconst 2, 1) := by decide +kernel
theorem dX7_setWindow_38 : decode cX7_setWindow 38 = .ok (.iload_n 1, 1) := by decide +kernel
theorem dX7_setWindow_39 : decode cX7_setWindow 39 = .ok (.imul, 1) := by decide +kernel
theorem dX7_setWindow_40 : decode cX7_setWindow 40 = .ok (.istore 5, 2) := by decide +kernel
theorem dX7_setWindow_42 : decode cX7_setWindow 42 = .ok (.aload_n 0, 1) := by decide +kernel
theorem dX7_setWindow_43 : decode cX7_setWindow 43 = .ok (.getfield 22, 3) := by decide +kernel
theorem dX7_setWindow_46 : decode cX7_setWindow 46 = .ok (.getfield 108, 3) := by decide +kernel
theorem dX7_setWindow_49 : decode cX7_setWindow 49 = .ok (.iload 5, 2) := by decide +kernel
theorem dX7_setWindow_51 : decode cX7_setWindow 51 = .ok (.iaload, 1) := by decide +kernel
theorem dX7_setWindow_52 : decode cX7_setWindow 52 = .ok (.istore 6, 2) := by decide +kernel
theorem dX7_setWindow_54 : decode cX7_setWindow 54 = .ok (.aload_n 0, 1) := by decide +kernel
theorem dX7_setWindow_55 : decode cX7_setWindow 55 = .ok (.getfield 22, 3) := by decide +kernel
theorem dX7_setWindow_58 : decode cX7_setWindow 58 = .ok (.getfield 111, 3) := by decide +kernel
theorem dX7_setWindow_61 : decode cX7_setWindow 61 = .ok (.iload 5, 2) := by decide +kernel
theorem dX7_setWindow_63 : decode cX7_setWindow 63 = .ok (.iaload, 1) := by decide +kernel
theorem dX7_setWindow_64 : decode cX7_setWindow 64 = .ok (.istore 7, 2) := by decide +kernel
theorem dX7_setWindow_66 : decode cX7_setWindow 66 = .ok (.iload_n 3, 1) := by decide +kernel
theorem dX7_setWindow_67 : decode cX7_setWindow 67 = .ok (.iload 6, 2) := by decide +kernel
theorem dX7_setWindow_69 : decode cX7_setWindow 69 = .ok (.if_icmp .ne 12, 3) := by decide +kernel
theorem dX7_setWindow_72 : decode cX7_setWindow 72 = .ok (.iload 4, 2) := by decide +kernel
theorem dX7_setWindow_74 : decode cX7_setWindow 74 = .ok (.iload 7, 2) := by decide +kernel
theorem dX7_setWindow_76 : decode cX7_setWindow 76 = .ok (.if_icmp .ne 5, 3) := by decide +kernel
theorem dX7_setWindow_79 : decode cX7_setWindow 79 = .ok (.iconst 0, 1) := by decide +kernel
theorem dX7_setWindow_80 : decode cX7_setWindow 80 = .ok (.ireturn, 1) := by decide +kernel
theorem dX7_setWindow_81 : decode cX7_setWindow 81 = .ok (.aload_n 0, 1) := by decide +kernel
theorem dX7_setWindow_82 : decode cX7_setWindow 82 = .ok (.getfield 22, 3) := by decide +kernel
theorem dX7_setWindow_85 : decode cX7_setWindow 85 = .ok (.iload 5, 2) := by decide +kernel
theorem dX7_setWindow_87 : decode cX7_setWindow 87 = .ok (.iload_n 3, 1) := by decide +kernel
theorem dX7_setWindow_88 : decode cX7_setWindow 88 = .ok (.iload 4, 2) := by decide +kernel
theorem dX7_setWindow_90 : decode cX7_setWindow 90 = .ok (.invokevirtual 102, 3) := by decide +kernel
theorem dX7_setWindow_93 : decode cX7_setWindow 93 = .ok (.aload_n 0, 1) := by decide +kernel
theorem dX7_setWindow_94 : decode cX7_setWindow 94 = .ok (.iload_n 1, 1) := by decide +kernel
theorem dX7_setWindow_95 : decode cX7_setWindow 95 = .ok (.invokevirtual 114, 3) := by decide +kernel
theorem dX7_setWindow_98 : decode cX7_setWindow 98 = .ok (.ifCond .ne 20, 3) := by decide +kernel
theorem dX7_setWindow_101 : decode cX7_setWindow 101 = .ok (.aload_n 0, 1) := by decide +kernel
theorem dX7_setWindow_102 : decode cX7_setWindow 102 = .ok (.getfield 22, 3) := by decide +kernel
theorem dX7_setWindow_105 : decode cX7_setWindow 105 = .ok (.iload 5, 2) := by decide +kernel
theorem dX7_setWindow_107 : decode cX7_setWindow 107 = .ok (.iload 6, 2) := by decide +kernel
theorem dX7_setWindow_109 : decode cX7_setWindow 109 = .ok (.iload 7, 2) := by decide +kernel
theorem dX7_setWindow_111 : decode cX7_setWindow 111 = .ok (.invokevirtual 102, 3) := by decide +kernel
theorem dX7_setWindow_114 : decode cX7_setWindow 114 = .ok (.sipush (-1005), 3) := by decide +kernel
theorem dX7_setWindow_117 : decode cX7_setWindow 117 = .ok (.ireturn, 1) := by decide +kernel
theorem dX7_setWindow_118 : decode cX7_setWindow 118 = .ok (.aload_n 0, 1) := by decide +kernel
theorem dX7_setWindow_119 : decode cX7_setWindow 119 = .ok (.getfield 53, 3) := by decide +kernel
theorem dX7_setWindow_122 : decode cX7_setWindow 122 = .ok (.invokevirtual 86, 3) := by decide +kernel
theorem dX7_setWindow_125 : decode cX7_setWindow 125 = .ok (.iconst 1, 1) := by decide +kernel
theorem dX7_setWindow_126 : decode cX7_setWindow 126 = .ok (.ireturn, 1) := by decide +kernel
theorem dX7_setLimit_0 : decode cX7_setLimit 0 = .ok (.aload_n 0, 1) := by decide +kernel
theorem dX7_setLimit_1 : decode cX7_setLimit 1 = .ok (.iload_n 1, 1) := by decide +kernel
theorem dX7_setLimit_2 : decode cX7_setLimit 2 = .ok (.invokevirtual 105, 3) := by decide +kernel
theorem dX7_setLimit_5 : decode cX7_setLimit 5 = .ok (.ifCond .ne 7, 3) := by decide +kernel
theorem dX7_setLimit_8 : decode cX7_setLimit 8 = .ok (.sipush (-1001), 3) := by decide +kernel
theorem dX7_setLimit_11 : decode cX7_setLimit 11 = .ok (.ireturn, 1) := by decide +kernel
theorem dX7_setLimit_12 : decode cX7_setLimit 12 = .ok (.iload_n 2, 1) := by decide +kernel
theorem dX7_setLimit_13 : decode cX7_setLimit 13 = .ok (.invokestatic 89, 3) := by decide +kernel
theorem dX7_setLimit_16 : decode cX7_setLimit 16 = .ok (.ifCond .ne 7, 3) := by decide +kernel
theorem dX7_setLimit_19 : decode cX7_setLimit 19 = .ok (.sipush (-1002), 3) := by decide +kernel
theorem dX7_setLimit_22 : decode cX7_setLimit 22 = .ok (.ireturn, 1) := by decide +kernel
theorem dX7_setLimit_23 : decode cX7_setLimit 23 = .ok (.aload_n 0, 1) := by decide +kernel
theorem dX7_setLimit_24 : decode cX7_setLimit 24 = .ok (.getfield 22, 3) := by decide +kernel
theorem dX7_setLimit_27 : decode cX7_setLimit 27 = .ok (.getfield 99, 3) := by decide +kernel
theorem dX7_setLimit_30 : decode cX7_setLimit 30 = .ok (.iload_n 1, 1) := by decide +kernel
theorem dX7_setLimit_31 : decode cX7_setLimit 31 = .ok (.iaload, 1) := by decide +kernel
theorem dX7_setLimit_32 : decode cX7_setLimit 32 = .ok (.istore_n 3, 1) := by decide +kernel
theorem dX7_setLimit_33 : decode cX7_setLimit 33 = .ok (.iload_n 2, 1) := by decide +kernel
theorem dX7_setLimit_34 : decode cX7_setLimit 34 = .ok (.iload_n 3, 1) := by decide +kernel
theorem dX7_setLimit_35 : decode cX7_setLimit 35 = .ok (.if_icmp .ne 5, 3) := by decide +kernel
theorem dX7_setLimit_38 : decode cX7_setLimit 38 = .ok (.iload_n 3, 1) := by decide +kernel
theorem dX7_setLimit_39 : decode cX7_setLimit 39 = .ok (.ireturn, 1) := by decide +kernel
theorem dX7_setLimit_40 : decode cX7_setLimit 40 = .ok (.aload_n 0, 1) := by decide +kernel
theorem dX7_setLimit_41 : decode cX7_setLimit 41 = .ok (.getfield 22, 3) := by decide +kernel
theorem dX7_setLimit_44 : decode cX7_setLimit 44 = .ok (.getfield 99, 3) := by decide +kernel
theorem dX7_setLimit_47 : decode cX7_setLimit 47 = .ok (.iload_n 1, 1) := by decide +kernel
theorem dX7_setLimit_48 : decode cX7_setLimit 48 = .ok (.iload_n 2, 1) := by decide +kernel
theorem dX7_setLimit_49 : decode cX7_setLimit 49 = .ok (.iastore, 1) := by decide +kernel
theorem dX7_setLimit_50 : decode cX7_setLimit 50 = .ok (.aload_n 0, 1) := by decide +kernel
theorem dX7_setLimit_51 : decode cX7_setLimit 51 = .ok (.iload_n 1, 1) := by decide +kernel
theorem dX7_setLimit_52 : decode cX7_setLimit 52 = .ok (.invokevirtual 114, 3) := by decide +kernel
theorem dX7_setLimit_55 : decode cX7_setLimit 55 = .ok (.ifCond .ne 17, 3) := by decide +kernel
theorem dX7_setLimit_58 : decode cX7_setLimit 58 = .ok (.aload_n 0, 1) := by decide +kernel
theorem dX7_setLimit_59 : decode cX7_setLimit 59 = .ok (.getfield 22, 3) := by decide +kernel
theorem dX7_setLimit_62 : decode cX7_setLimit 62 = .ok (.getfield 99, 3) := by decide +kernel
theorem dX7_setLimit_65 : decode cX7_setLimit 65 = .ok (.iload_n 1, 1) := by decide +kernel
theorem dX7_setLimit_66 : decode cX7_setLimit 66 = .ok (.iload_n 3, 1) := by decide +kernel
theorem dX7_setLimit_67 : decode cX7_setLimit 67 = .ok (.iastore, 1) := by decide +kernel
theorem dX7_setLimit_68 : decode cX7_setLimit 68 = .ok (.sipush (-1005), 3) := by decide +kernel
theorem dX7_setLimit_71 : decode cX7_setLimit 71 = .ok (.ireturn, 1) := by decide +kernel
theorem dX7_setLimit_72 : decode cX7_setLimit 72 = .ok (.aload_n 0, 1) := by decide +kernel
theorem dX7_setLimit_73 : decode cX7_setLimit 73 = .ok (.getfield 53, 3) := by decide +kernel
theorem dX7_setLimit_76 : decode cX7_setLimit 76 = .ok (.invokevirtual 86, 3) := by decide +kernel
theorem dX7_setLimit_79 : decode cX7_setLimit 79 = .ok (.iload_n 3, 1) := by decide +kernel
theorem dX7_setLimit_80 : decode cX7_setLimit 80 = .ok (.ireturn, 1) := by decide +kernel
theorem dX7_setLoad_0 : decode cX7_setLoad 0 = .ok (.aload_n 0, 1) := by decide +kernel
theorem dX7_setLoad_1 : decode cX7_setLoad 1 = .ok (.iload_n 1, 1) := by decide +kernel
theorem dX7_setLoad_2 : decode cX7_setLoad 2 = .ok (.invokevirtual 105, 3) := by decide +kernel
theorem dX7_setLoad_5 : decode cX7_setLoad 5 = .ok (.ifCond .ne 7, 3) := by decide +kernel
theorem dX7_setLoad_8 : decode cX7_setLoad 8 = .ok (.sipush (-1001), 3) := by decide +kernel
theorem dX7_setLoad_11 : decode cX7_setLoad 11 = .ok (.ireturn, 1) := by decide +kernel
theorem dX7_setLoad_12 : decode cX7_setLoad 12 = .ok (.iload_n 2, 1) := by decide +kernel
theorem dX7_setLoad_13 : decode cX7_setLoad 13 = .ok (.invokestatic 61, 3) := by decide +kernel
theorem dX7_setLoad_16 : decode cX7_setLoad 16 = .ok (.ifCond .ne 7, 3) := by decide +kernel
theorem dX7_setLoad_19 : decode cX7_setLoad 19 = .ok (.sipush (-1002), 3) := by decide +kernel
theorem dX7_setLoad_22 : decode cX7_setLoad 22 = .ok (.ireturn, 1) := by decide +kernel
theorem dX7_setLoad_23 : decode cX7_setLoad 23 = .ok (.aload_n 0, 1) := by decide +kernel
theorem dX7_setLoad_24 : decode cX7_setLoad 24 = .ok (.getfield 22, 3) := by decide +kernel
theorem dX7_setLoad_27 : decode cX7_setLoad 27 = .ok (.getfield 117, 3) := by decide +kernel
theorem dX7_setLoad_30 : decode cX7_setLoad 30 = .ok (.iconst 2, 1) := by decide +kernel
theorem dX7_setLoad_31 : decode cX7_setLoad 31 = .ok (.iload_n 1, 1) := by decide +kernel
theorem dX7_setLoad_32 : decode cX7_setLoad 32 = .ok (.imul, 1) := by decide +kernel
theorem dX7_setLoad_33 : decode cX7_setLoad 33 = .ok (.iaload, 1) := by decide +kernel
theorem dX7_setLoad_34 : decode cX7_setLoad 34 = .ok (.istore_n 3, 1) := by decide +kernel
theorem dX7_setLoad_35 : decode cX7_setLoad 35 = .ok (.iload_n 2, 1) := by decide +kernel
theorem dX7_setLoad_36 : decode cX7_setLoad 36 = .ok (.iload_n 3, 1) := by decide +kernel
theorem dX7_setLoad_37 : decode cX7_setLoad 37 = .ok (.if_icmp .ne 5, 3) := by decide +kernel
theorem dX7_setLoad_40 : decode cX7_setLoad 40 = .ok (.iload_n 3, 1) := by decide +kernel
theorem dX7_setLoad_41 : decode cX7_setLoad 41 = .ok (.ireturn, 1) := by decide +kernel
theorem dX7_setLoad_42 : decode cX7_setLoad 42 = .ok (.aload_n 0, 1) := by decide +kernel
theorem dX7_setLoad_43 : decode cX7_setLoad 43 = .ok (.getfield 22, 3) := by decide +kernel
theorem dX7_setLoad_46 : decode cX7_setLoad 46 = .ok (.iload_n 1, 1) := by decide +kernel
theorem dX7_setLoad_47 : decode cX7_setLoad 47 = .ok (.iload_n 2, 1) := by decide +kernel
theorem dX7_setLoad_48 : decode cX7_setLoad 48 = .ok (.invokevirtual 95, 3) := by decide +kernel
theorem dX7_setLoad_51 : decode cX7_setLoad 51 = .ok (.aload_n 0, 1) := by decide +kernel
theorem dX7_setLoad_52 : decode cX7_setLoad 52 = .ok (.iload_n 1, 1) := by decide +kernel
theorem dX7_setLoad_53 : decode cX7_setLoad 53 = .ok (.invokevirtual 114, 3) := by decide +kernel
theorem dX7_setLoad_56 : decode cX7_setLoad 56 = .ok (.ifCond .ne 16, 3) := by decide +kernel
theorem dX7_setLoad_59 : decode cX7_setLoad 59 = .ok (.aload_n 0, 1) := by decide +kernel
theorem dX7_setLoad_60 : decode cX7_setLoad 60 = .ok (.getfield 22, 3) := by decide +kernel
theorem dX7_setLoad_63 : decode cX7_setLoad 63 = .ok (.iload_n 1, 1) := by decide +kernel
theorem dX7_setLoad_64 : decode cX7_setLoad 64 = .ok (.iload_n 3, 1) := by decide +kernel
theorem dX7_setLoad_65 : decode cX7_setLoad 65 = .ok (.invokevirtual 95, 3) := by decide +kernel
theorem dX7_setLoad_68 : decode cX7_setLoad 68 = .ok (.sipush (-1005), 3) := by decide +kernel
theorem dX7_setLoad_71 : decode cX7_setLoad 71 = .ok (.ireturn, 1) := by decide +kernel
theorem dX7_setLoad_72 : decode cX7_setLoad 72 = .ok (.aload_n 0, 1) := by decide +kernel
theorem dX7_setLoad_73 : decode cX7_setLoad 73 = .ok (.getfield 53, 3) := by decide +kernel
theorem dX7_setLoad_76 : decode cX7_setLoad 76 = .ok (.invokevirtual 86, 3) := by decide +kernel
theorem dX7_setLoad_79 : decode cX7_setLoad 79 = .ok (.iload_n 3, 1) := by decide +kernel
theorem dX7_setLoad_80 : decode cX7_setLoad 80 = .ok (.ireturn, 1) := by decide +kernel
theorem dX7_setService_0 : decode cX7_setService 0 = .ok (.iload_n 1, 1) := by decide +kernel
theorem dX7_setService_1 : decode cX7_setService 1 = .ok (.ifCond .lt 9, 3) := by decide +kernel
theorem dX7_setService_4 : decode cX7_setService 4 = .ok (.iload_n 1, 1) := by decide +kernel
theorem dX7_setService_5 : decode cX7_setService 5 = .ok (.bipush 10, 2) := by decide +kernel
theorem dX7_setService_7 : decode cX7_setService 7 = .ok (.if_icmp .le 7, 3) := by decide +kernel
theorem dX7_setService_10 : decode cX7_setService 10 = .ok (.sipush (-1002), 3) := by decide +kernel
theorem dX7_setService_13 : decode cX7_setService 13 = .ok (.ireturn, 1) := by decide +kernel
theorem dX7_setService_14 : decode cX7_setService 14 = .ok (.aload_n 0, 1) := by decide +kernel
theorem dX7_setService_15 : decode cX7_setService 15 = .ok (.getfield 22, 3) := by decide +kernel
theorem dX7_setService_18 : decode cX7_setService 18 = .ok (.getfield 120, 3) := by decide +kernel
theorem dX7_setService_21 : decode cX7_setService 21 = .ok (.istore_n 2, 1) := by decide +kernel
theorem dX7_setService_22 : decode cX7_setService 22 = .ok (.iload_n 1, 1) := by decide +kernel
theorem dX7_setService_23 : decode cX7_setService 23 = .ok (.iload_n 2, 1) := by decide +kernel
theorem dX7_setService_24 : decode cX7_setService 24 = .ok (.if_icmp .ne 5, 3) := by decide +kernel
theorem dX7_setService_27 : decode cX7_setService 27 = .ok (.iload_n 2, 1) := by decide +kernel
theorem dX7_setService_28 : decode cX7_setService 28 = .ok (.ireturn, 1) := by decide +kernel
theorem dX7_setService_29 : decode cX7_setService 29 = .ok (.aload_n 0, 1) := by decide +kernel
theorem dX7_setService_30 : decode cX7_setService 30 = .ok (.getfield 22, 3) := by decide +kernel
theorem dX7_setService_33 : decode cX7_setService 33 = .ok (.iload_n 1, 1) := by decide +kernel
theorem dX7_setService_34 : decode cX7_setService 34 = .ok (.putfield 120, 3) := by decide +kernel
theorem dX7_setService_37 : decode cX7_setService 37 = .ok (.aload_n 0, 1) := by decide +kernel
theorem dX7_setService_38 : decode cX7_setService 38 = .ok (.invokevirtual 123, 3) := by decide +kernel
theorem dX7_setService_41 : decode cX7_setService 41 = .ok (.ifCond .ne 15, 3) := by decide +kernel
theorem dX7_setService_44 : decode cX7_setService 44 = .ok (.aload_n 0, 1) := by decide +kernel
theorem dX7_setService_45 : decode cX7_setService 45 = .ok (.getfield 22, 3) := by decide +kernel
theorem dX7_setService_48 : decode cX7_setService 48 = .ok (.iload_n 2, 1) := by decide +kernel
theorem dX7_setService_49 : decode cX7_setService 49 = .ok (.putfield 120, 3) := by decide +kernel
theorem dX7_setService_52 : decode cX7_setService 52 = .ok (.sipush (-1005), 3) := by decide +kernel
theorem dX7_setService_55 : decode cX7_setService 55 = .ok (.ireturn, 1) := by decide +kernel
theorem dX7_setService_56 : decode cX7_setService 56 = .ok (.aload_n 0, 1) := by decide +kernel
theorem dX7_setService_57 : decode cX7_setService 57 = .ok (.getfield 53, 3) := by decide +kernel
theorem dX7_setService_60 : decode cX7_setService 60 = .ok (.invokevirtual 86, 3) := by decide +kernel
theorem dX7_setService_63 : decode cX7_setService 63 = .ok (.iload_n 2, 1) := by decide +kernel
theorem dX7_setService_64 : decode cX7_setService 64 = .ok (.ireturn, 1) := by decide +kernel
theorem dX7_count_0 : decode cX7_count 0 = .ok (.iload_n 1, 1) := by decide +kernel
theorem dX7_count_1 : decode cX7_count 1 = .ok (.tableswitch 88 0 5 #[39, 47, 55, 60, 72, 80], 39) := by decide +kernel
theorem dX7_count_40 : decode cX7_count 40 = .ok (.aload_n 0, 1) := by decide +kernel
theorem dX7_count_41 : decode cX7_count 41 = .ok (.getfield 22, 3) := by decide +kernel
theorem dX7_count_44 : decode cX7_count 44 = .ok (.getfield 68, 3) := by decide +kernel
theorem dX7_count_47 : decode cX7_count 47 = .ok (.ireturn, 1) := by decide +kernel
theorem dX7_count_48 : decode cX7_count 48 = .ok (.aload_n 0, 1) := by decide +kernel
theorem dX7_count_49 : decode cX7_count 49 = .ok (.getfield 22, 3) := by decide +kernel
theorem dX7_count_52 : decode cX7_count 52 = .ok (.getfield 92, 3) := by decide +kernel
theorem dX7_count_55 : decode cX7_count 55 = .ok (.ireturn, 1) := by decide +kernel
theorem dX7_count_56 : decode cX7_count 56 = .ok (.aload_n 0, 1) := by decide +kernel
theorem dX7_count_57 : decode cX7_count 57 = .ok (.invokevirtual 127, 3) := by decide +kernel
theorem dX7_count_60 : decode cX7_count 60 = .ok (.ireturn, 1) := by decide +kernel
theorem dX7_count_61 : decode cX7_count 61 = .ok (.aload_n 0, 1) := by decide +kernel
theorem dX7_count_62 : decode cX7_count 62 = .ok (.getfield 22, 3) := by decide +kernel
theorem dX7_count_65 : decode cX7_count 65 = .ok (.aload_n 0, 1) := by decide +kernel
theorem dX7_count_66 : decode cX7_count 66 = .ok (.getfield 46, 3) := by decide +kernel
theorem dX7_count_69 : decode cX7_count 69 = .ok (.invokevirtual 131, 3) := by decide +kernel
theorem dX7_count_72 : decode cX7_count 72 = .ok (.ireturn, 1) := by decide +kernel
theorem dX7_count_73 : decode cX7_count 73 = .ok (.aload_n 0, 1) := by decide +kernel
theorem dX7_count_74 : decode cX7_count 74 = .ok (.getfield 22, 3) := by decide +kernel
theorem dX7_count_77 : decode cX7_count 77 = .ok (.getfield 120, 3) := by decide +kernel
theorem dX7_count_80 : decode cX7_count 80 = .ok (.ireturn, 1) := by decide +kernel
theorem dX7_count_81 : decode cX7_count 81 = .ok (.aload_n 0, 1) := by decide +kernel
theorem dX7_count_82 : decode cX7_count 82 = .ok (.getfield 53, 3) := by decide +kernel
theorem dX7_count_85 : decode cX7_count 85 = .ok (.getfield 135, 3) := by decide +kernel
theorem dX7_count_88 : decode cX7_count 88 = .ok (.ireturn, 1) := by decide +kernel
theorem dX7_count_89 : decode cX7_count 89 = .ok (.sipush (-1002), 3) := by decide +kernel
theorem dX7_count_92 : decode cX7_count 92 = .ok (.ireturn, 1) := by decide +kernel
theorem dX7_request_0 : decode cX7_request 0 = .ok (.aload_n 0, 1) := by decide +kernel
theorem dX7_request_1 : decode cX7_request 1 = .ok (.iload_n 1, 1) := by decide +kernel
theorem dX7_request_2 : decode cX7_request 2 = .ok (.invokevirtual 105, 3) := by decide +kernel
theorem dX7_request_5 : decode cX7_request 5 = .ok (.ifCond .ne 7, 3) := by decide +kernel
theorem dX7_request_8 : decode cX7_request 8 = .ok (.sipush (-1001), 3) := by decide +kernel
theorem dX7_request_11 : decode cX7_request 11 = .ok (.ireturn, 1) := by decide +kernel
theorem dX7_request_12 : decode cX7_request 12 = .ok (.iconst 2, 1) := by decide +kernel
theorem dX7_request_13 : decode cX7_request 13 = .ok (.iload_n 1, 1) := by decide +kernel
theorem dX7_request_14 : decode cX7_request 14 = .ok (.imul, 1) := by decide +kernel
theorem dX7_request_15 : decode cX7_request 15 = .ok (.istore_n 3, 1) := by decide +kernel
theorem dX7_request_16 : decode cX7_request 16 = .ok (.iload_n 2, 1) := by decide +kernel
theorem dX7_request_17 : decode cX7_request 17 = .ok (.tableswitch 149 0 7 #[47, 71, 81, 91, 101, 111, 123, 135], 47) := by decide +kernel
theorem dX7_request_64 : decode cX7_request 64 = .ok (.aload_n 0, 1) := by decide +kernel
theorem dX7_request_65 : decode cX7_request 65 = .ok (.iload_n 1, 1) := by decide +kernel
theorem dX7_request_66 : decode cX7_request 66 = .ok (.invokevirtual 138, 3) := by decide +kernel
theorem dX7_request_69 : decode cX7_request 69 = .ok (.ifCond .eq 9, 3) := by decide +kernel
theorem dX7_request_72 : decode cX7_request 72 = .ok (.sipush (-1007), 3) := by decide +kernel
theorem dX7_request_75 : decode cX7_request 75 = .ok (.goto 12, 3) := by decide +kernel
theorem dX7_request_78 : decode cX7_request 78 = .ok (.aload_n 0, 1) := by decide +kernel
theorem dX7_request_79 : decode cX7_request 79 = .ok (.getfield 46, 3) := by decide +kernel
theorem dX7_request_82 : decode cX7_request 82 = .ok (.getfield 141, 3) := by decide +kernel
theorem dX7_request_85 : decode cX7_request 85 = .ok (.iload_n 1, 1) := by decide +kernel
theorem dX7_request_86 : decode cX7_request 86 = .ok (.iaload, 1) := by decide +kernel
theorem dX7_request_87 : decode cX7_request 87 = .ok (.ireturn, 1) := by decide +kernel
theorem dX7_request_88 : decode cX7_request 88 = .ok (.aload_n 0, 1) := by decide +kernel
theorem dX7_request_89 : decode cX7_request 89 = .ok (.getfield 22, 3) := by decide +kernel
theorem dX7_request_92 : decode cX7_request 92 = .ok (.getfield 117, 3) := by decide +kernel
theorem dX7_request_95 : decode cX7_request 95 = .ok (.iload_n 3, 1) := by decide +kernel
theorem dX7_request_96 : decode cX7_request 96 = .ok (.iaload, 1) := by decide +kernel
theorem dX7_request_97 : decode cX7_request 97 = .ok (.ireturn, 1) := by decide +kernel
theorem dX7_request_98 : decode cX7_request 98 = .ok (.aload_n 0, 1) := by decide +kernel
theorem dX7_request_99 : decode cX7_request 99 = .ok (.getfield 22, 3) := by decide +kernel
theorem dX7_request_102 : decode cX7_request 102 = .ok (.getfield 99, 3) := by decide +kernel
theorem dX7_request_105 : decode cX7_request 105 = .ok (.iload_n 1, 1) := by decide +kernel
theorem dX7_request_106 : decode cX7_request 106 = .ok (.iaload, 1) := by decide +kernel
theorem dX7_request_107 : decode cX7_request 107 = .ok (.ireturn, 1) := by decide +kernel
theorem dX7_request_108 : decode cX7_request 108 = .ok (.aload_n 0, 1) := by decide +kernel
theorem dX7_request_109 : decode cX7_request 109 = .ok (.getfield 22, 3) := by decide +kernel
theorem dX7_request_112 : decode cX7_request 112 = .ok (.getfield 108, 3) := by decide +kernel
theorem dX7_request_115 : decode cX7_request 115 = .ok (.iload_n 3, 1) := by decide +kernel
theorem dX7_request_116 : decode cX7_request 116 = .ok (.iaload, 1) := by decide +kernel
theorem dX7_request_117 : decode cX7_request 117 = .ok (.ireturn, 1) := by decide +kernel
theorem dX7_request_118 : decode cX7_request 118 = .ok (.aload_n 0, 1) := by decide +kernel
theorem dX7_request_119 : decode cX7_request 119 = .ok (.getfield 22, 3) := by decide +kernel
theorem dX7_request_122 : decode cX7_request 122 = .ok (.getfield 111, 3) := by decide +kernel
theorem dX7_request_125 : decode cX7_request 125 = .ok (.iload_n 3, 1) := by decide +kernel
theorem dX7_request_126 : decode cX7_request 126 = .ok (.iaload, 1) := by decide +kernel
theorem dX7_request_127 : decode cX7_request 127 = .ok (.ireturn, 1) := by decide +kernel
theorem dX7_request_128 : decode cX7_request 128 = .ok (.aload_n 0, 1) := by decide +kernel
theorem dX7_request_129 : decode cX7_request 129 = .ok (.getfield 22, 3) := by decide +kernel
theorem dX7_request_132 : decode cX7_request 132 = .ok (.getfield 108, 3) := by decide +kernel
theorem dX7_request_135 : decode cX7_request 135 = .ok (.iload_n 3, 1) := by decide +kernel
theorem dX7_request_136 : decode cX7_request 136 = .ok (.iconst 1, 1) := by decide +kernel
theorem dX7_request_137 : decode cX7_request 137 = .ok (.iadd, 1) := by decide +kernel
theorem dX7_request_138 : decode cX7_request 138 = .ok (.iaload, 1) := by decide +kernel
theorem dX7_request_139 : decode cX7_request 139 = .ok (.ireturn, 1) := by decide +kernel
theorem dX7_request_140 : decode cX7_request 140 = .ok (.aload_n 0, 1) := by decide +kernel
theorem dX7_request_141 : decode cX7_request 141 = .ok (.getfield 22, 3) := by decide +kernel
theorem dX7_request_144 : decode cX7_request 144 = .ok (.getfield 111, 3) := by decide +kernel
theorem dX7_request_147 : decode cX7_request 147 = .ok (.iload_n 3, 1) := by decide +kernel
theorem dX7_request_148 : decode cX7_request 148 = .ok (.iconst 1, 1) := by decide +kernel
theorem dX7_request_149 : decode cX7_request 149 = .ok (.iadd, 1) := by decide +kernel
theorem dX7_request_150 : decode cX7_request 150 = .ok (.iaload, 1) := by decide +kernel
theorem dX7_request_151 : decode cX7_request 151 = .ok (.ireturn, 1) := by decide +kernel
theorem dX7_request_152 : decode cX7_request 152 = .ok (.aload_n 0, 1) := by decide +kernel
theorem dX7_request_153 : decode cX7_request 153 = .ok (.getfield 22, 3) := by decide +kernel
theorem dX7_request_156 : decode cX7_request 156 = .ok (.getfield 144, 3) := by decide +kernel
theorem dX7_request_159 : decode cX7_request 159 = .ok (.iload_n 3, 1) := by decide +kernel
theorem dX7_request_160 : decode cX7_request 160 = .ok (.aaload, 1) := by decide +kernel
theorem dX7_request_161 : decode cX7_request 161 = .ok (.iload_n 3, 1) := by decide +kernel
theorem dX7_request_162 : decode cX7_request 162 = .ok (.iconst 1, 1) := by decide +kernel
theorem dX7_request_163 : decode cX7_request 163 = .ok (.iadd, 1) := by decide +kernel
theorem dX7_request_164 : decode cX7_request 164 = .ok (.iaload, 1) := by decide +kernel
theorem dX7_request_165 : decode cX7_request 165 = .ok (.ireturn, 1) := by decide +kernel
theorem dX7_request_166 : decode cX7_request 166 = .ok (.sipush (-1002), 3) := by decide +kernel
theorem dX7_request_169 : decode cX7_request 169 = .ok (.ireturn, 1) := by decide +kernel
theorem dX7_vehicle_0 : decode cX7_vehicle 0 = .ok (.aload_n 0, 1) := by decide +kernel
theorem dX7_vehicle_1 : decode cX7_vehicle 1 = .ok (.iload_n 1, 1) := by decide +kernel
theorem dX7_vehicle_2 : decode cX7_vehicle 2 = .ok (.invokevirtual 148, 3) := by decide +kernel
theorem dX7_vehicle_5 : decode cX7_vehicle 5 = .ok (.ifCond .ne 7, 3) := by decide +kernel
theorem dX7_vehicle_8 : decode cX7_vehicle 8 = .ok (.sipush (-1001), 3) := by decide +kernel
theorem dX7_vehicle_11 : decode cX7_vehicle 11 = .ok (.ireturn, 1) := by decide +kernel
theorem dX7_vehicle_12 : decode cX7_vehicle 12 = .ok (.aload_n 0, 1) := by decide +kernel
theorem dX7_vehicle_13 : decode cX7_vehicle 13 = .ok (.getfield 46, 3) := by decide +kernel
theorem dX7_vehicle_16 : decode cX7_vehicle 16 = .ok (.getfield 151, 3) := by decide +kernel
theorem dX7_vehicle_19 : decode cX7_vehicle 19 = .ok (.iload_n 1, 1) := by decide +kernel
theorem dX7_vehicle_20 : decode cX7_vehicle 20 = .ok (.aaload, 1) := by decide +kernel
theorem dX7_vehicle_21 : decode cX7_vehicle 21 = .ok (.astore_n 3, 1) := by decide +kernel
theorem dX7_vehicle_22 : decode cX7_vehicle 22 = .ok (.iload_n 2, 1) := by decide +kernel
theorem dX7_vehicle_23 : decode cX7_vehicle 23 = .ok (.tableswitch 110 0 6 #[41, 51, 61, 71, 76, 85, 101], 41) := by decide +kernel
theorem dX7_vehicle_64 : decode cX7_vehicle 64 = .ok (.aload_n 0, 1) := by decide +kernel
theorem dX7_vehicle_65 : decode cX7_vehicle 65 = .ok (.getfield 22, 3) := by decide +kernel
theorem dX7_vehicle_68 : decode cX7_vehicle 68 = .ok (.getfield 72, 3) := by decide +kernel
theorem dX7_vehicle_71 : decode cX7_vehicle 71 = .ok (.iload_n 1, 1) := by decide +kernel
theorem dX7_vehicle_72 : decode cX7_vehicle 72 = .ok (.iaload, 1) := by decide +kernel
theorem dX7_vehicle_73 : decode cX7_vehicle 73 = .ok (.ireturn, 1) := by decide +kernel
theorem dX7_vehicle_74 : decode cX7_vehicle 74 = .ok (.aload_n 0, 1) := by decide +kernel
theorem dX7_vehicle_75 : decode cX7_vehicle 75 = .ok (.getfield 22, 3) := by decide +kernel
theorem dX7_vehicle_78 : decode cX7_vehicle 78 = .ok (.getfield 76, 3) := by decide +kernel
theorem dX7_vehicle_81 : decode cX7_vehicle 81 = .ok (.iload_n 1, 1) := by decide +kernel
theorem dX7_vehicle_82 : decode cX7_vehicle 82 = .ok (.iaload, 1) := by decide +kernel
theorem dX7_vehicle_83 : decode cX7_vehicle 83 = .ok (.ireturn, 1) := by decide +kernel
theorem dX7_vehicle_84 : decode cX7_vehicle 84 = .ok (.aload_n 0, 1) := by decide +kernel
theorem dX7_vehicle_85 : decode cX7_vehicle 85 = .ok (.getfield 22, 3) := by decide +kernel
theorem dX7_vehicle_88 : decode cX7_vehicle 88 = .ok (.getfield 79, 3) := by decide +kernel
theorem dX7_vehicle_91 : decode cX7_vehicle 91 = .ok (.iload_n 1, 1) := by decide +kernel
theorem dX7_vehicle_92 : decode cX7_vehicle 92 = .ok (.iaload, 1) := by decide +kernel
theorem dX7_vehicle_93 : decode cX7_vehicle 93 = .ok (.ireturn, 1) := by decide +kernel
theorem dX7_vehicle_94 : decode cX7_vehicle 94 = .ok (.aload_n 3, 1) := by decide +kernel
theorem dX7_vehicle_95 : decode cX7_vehicle 95 = .ok (.getfield 155, 3) := by decide +kernel
theorem dX7_vehicle_98 : decode cX7_vehicle 98 = .ok (.ireturn, 1) := by decide +kernel
theorem dX7_vehicle_99 : decode cX7_vehicle 99 = .ok (.aload_n 0, 1) := by decide +kernel
theorem dX7_vehicle_100 : decode cX7_vehicle 100 = .ok (.getfield 22, 3) := by decide +kernel
theorem dX7_vehicle_103 : decode cX7_vehicle 103 = .ok (.aload_n 3, 1) := by decide +kernel
theorem dX7_vehicle_104 : decode cX7_vehicle 104 = .ok (.invokevirtual 158, 3) := by decide +kernel
theorem dX7_vehicle_107 : decode cX7_vehicle 107 = .ok (.ireturn, 1) := by decide +kernel
theorem dX7_vehicle_108 : decode cX7_vehicle 108 = .ok (.aload_n 0, 1) := by decide +kernel
theorem dX7_vehicle_109 : decode cX7_vehicle 109 = .ok (.getfield 26, 3) := by decide +kernel
theorem dX7_vehicle_112 : decode cX7_vehicle 112 = .ok (.aload_n 3, 1) := by decide +kernel
theorem dX7_vehicle_113 : decode cX7_vehicle 113 = .ok (.invokevirtual 162, 3) := by decide +kernel
theorem dX7_vehicle_116 : decode cX7_vehicle 116 = .ok (.aload_n 0, 1) := by decide +kernel
theorem dX7_vehicle_117 : decode cX7_vehicle 117 = .ok (.getfield 26, 3) := by decide +kernel
theorem dX7_vehicle_120 : decode cX7_vehicle 120 = .ok (.getfield 166, 3) := by decide +kernel
theorem dX7_vehicle_123 : decode cX7_vehicle 123 = .ok (.ireturn, 1) := by decide +kernel
theorem dX7_vehicle_124 : decode cX7_vehicle 124 = .ok (.aload_n 0, 1) := by decide +kernel
theorem dX7_vehicle_125 : decode cX7_vehicle 125 = .ok (.getfield 46, 3) := by decide +kernel
theorem dX7_vehicle_128 : decode cX7_vehicle 128 = .ok (.iload_n 1, 1) := by decide +kernel
theorem dX7_vehicle_129 : decode cX7_vehicle 129 = .ok (.invokevirtual 169, 3) := by decide +kernel
theorem dX7_vehicle_132 : decode cX7_vehicle 132 = .ok (.ireturn, 1) := by decide +kernel
theorem dX7_vehicle_133 : decode cX7_vehicle 133 = .ok (.sipush (-1002), 3) := by decide +kernel
theorem dX7_vehicle_136 : decode cX7_vehicle 136 = .ok (.ireturn, 1) := by decide +kernel
theorem dX7_stop_0 : decode cX7_stop 0 = .ok (.aload_n 0, 1) := by decide +kernel
theorem dX7_stop_1 : decode cX7_stop 1 = .ok (.iload_n 1, 1) := by decide +kernel
theorem dX7_stop_2 : decode cX7_stop 2 = .ok (.invokevirtual 148, 3) := by decide +kernel
theorem dX7_stop_5 : decode cX7_stop 5 = .ok (.ifCond .ne 7, 3) := by decide +kernel
theorem dX7_stop_8 : decode cX7_stop 8 = .ok (.sipush (-1001), 3) := by decide +kernel
theorem dX7_stop_11 : decode cX7_stop 11 = .ok (.ireturn, 1) := by decide +kernel
theorem dX7_stop_12 : decode cX7_stop 12 = .ok (.aload_n 0, 1) := by decide +kernel
theorem dX7_stop_13 : decode cX7_stop 13 = .ok (.getfield 46, 3) := by decide +kernel
theorem dX7_stop_16 : decode cX7_stop 16 = .ok (.getfield 151, 3) := by decide +kernel
theorem dX7_stop_19 : decode cX7_stop 19 = .ok (.iload_n 1, 1) := by decide +kernel
theorem dX7_stop_20 : decode cX7_stop 20 = .ok (.aaload, 1) := by decide +kernel
theorem dX7_stop_21 : decode cX7_stop 21 = .ok (.astore 4, 2) := by decide +kernel
theorem dX7_stop_23 : decode cX7_stop 23 = .ok (.iload_n 2, 1) := by decide +kernel
theorem dX7_stop_24 : decode cX7_stop 24 = .ok (.ifCond .lt 12, 3) := by decide +kernel
theorem dX7_stop_27 : decode cX7_stop 27 = .ok (.iload_n 2, 1) := by decide +kernel
theorem dX7_stop_28 : decode cX7_stop 28 = .ok (.aload 4, 2) := by decide +kernel
theorem dX7_stop_30 : decode cX7_stop 30 = .ok (.getfield 155, 3) := by decide +kernel
theorem dX7_stop_33 : decode cX7_stop 33 = .ok (.if_icmp .lt 7, 3) := by decide +kernel
theorem dX7_stop_36 : decode cX7_stop 36 = .ok (.sipush (-1001), 3) := by decide +kernel
theorem dX7_stop_39 : decode cX7_stop 39 = .ok (.ireturn, 1) := by decide +kernel
theorem dX7_stop_40 : decode cX7_stop 40 = .ok (.aload 4, 2) := by decide +kernel
theorem dX7_stop_42 : decode cX7_stop 42 = .ok (.getfield 173, 3) := by decide +kernel
theorem dX7_stop_45 : decode cX7_stop 45 = .ok (.iload_n 2, 1) := by decide +kernel
theorem dX7_stop_46 : decode cX7_stop 46 = .ok (.iaload, 1) := by decide +kernel
theorem dX7_stop_47 : decode cX7_stop 47 = .ok (.istore 5, 2) := by decide +kernel
theorem dX7_stop_49 : decode cX7_stop 49 = .ok (.iload_n 3, 1) := by decide +kernel
theorem dX7_stop_50 : decode cX7_stop 50 = .ok (.tableswitch 125 0 5 #[38, 43, 48, 68, 87, 106], 38) := by decide +kernel
theorem dX7_stop_88 : decode cX7_stop 88 = .ok (.iload 5, 2) := by decide +kernel
theorem dX7_stop_90 : decode cX7_stop 90 = .ok (.iconst 2, 1) := by decide +kernel
theorem dX7_stop_91 : decode cX7_stop 91 = .ok (.idiv, 1) := by decide +kernel
theorem dX7_stop_92 : decode cX7_stop 92 = .ok (.ireturn, 1) := by decide +kernel
theorem dX7_stop_93 : decode cX7_stop 93 = .ok (.iload 5, 2) := by decide +kernel
theorem dX7_stop_95 : decode cX7_stop 95 = .ok (.iconst 2, 1) := by decide +kernel
theorem dX7_stop_96 : decode cX7_stop 96 = .ok (.irem, 1) := by decide +kernel
theorem dX7_stop_97 : decode cX7_stop 97 = .ok (.ireturn, 1) := by decide +kernel
theorem dX7_stop_98 : decode cX7_stop 98 = .ok (.aload_n 0, 1) := by decide +kernel
theorem dX7_stop_99 : decode cX7_stop 99 = .ok (.getfield 26, 3) := by decide +kernel
theorem dX7_stop_102 : decode cX7_stop 102 = .ok (.aload 4, 2) := by decide +kernel
theorem dX7_stop_104 : decode cX7_stop 104 = .ok (.invokevirtual 176, 3) := by decide +kernel
theorem dX7_stop_107 : decode cX7_stop 107 = .ok (.pop, 1) := by decide +kernel
theorem dX7_stop_108 : decode cX7_stop 108 = .ok (.aload_n 0, 1) := by decide +kernel
theorem dX7_stop_109 : decode cX7_stop 109 = .ok (.getfield 26, 3) := by decide +kernel
theorem dX7_stop_112 : decode cX7_stop 112 = .ok (.getfield 180, 3) := by decide +kernel
theorem dX7_stop_115 : decode cX7_stop 115 = .ok (.iload_n 2, 1) := by decide +kernel
theorem dX7_stop_116 : decode cX7_stop 116 = .ok (.iaload, 1) := by decide +kernel
theorem dX7_stop_117 : decode cX7_stop 117 = .ok (.ireturn, 1) := by decide +kernel
theorem dX7_stop_118 : decode cX7_stop 118 = .ok (.aload_n 0, 1) := by decide +kernel
theorem dX7_stop_119 : decode cX7_stop 119 = .ok (.getfield 26, 3) := by decide +kernel
theorem dX7_stop_122 : decode cX7_stop 122 = .ok (.aload 4, 2) := by decide +kernel
theorem dX7_stop_124 : decode cX7_stop 124 = .ok (.invokevirtual 183, 3) := by decide +kernel
theorem dX7_stop_127 : decode cX7_stop 127 = .ok (.aload_n 0, 1) := by decide +kernel
theorem dX7_stop_128 : decode cX7_stop 128 = .ok (.getfield 26, 3) := by decide +kernel
theorem dX7_stop_131 : decode cX7_stop 131 = .ok (.getfield 186, 3) := by decide +kernel
theorem dX7_stop_134 : decode cX7_stop 134 = .ok (.iload_n 2, 1) := by decide +kernel
theorem dX7_stop_135 : decode cX7_stop 135 = .ok (.iaload, 1) := by decide +kernel
theorem dX7_stop_136 : decode cX7_stop 136 = .ok (.ireturn, 1) := by decide +kernel
theorem dX7_stop_137 : decode cX7_stop 137 = .ok (.aload_n 0, 1) := by decide +kernel
theorem dX7_stop_138 : decode cX7_stop 138 = .ok (.getfield 26, 3) := by decide +kernel
theorem dX7_stop_141 : decode cX7_stop 141 = .ok (.aload 4, 2) := by decide +kernel
theorem dX7_stop_143 : decode cX7_stop 143 = .ok (.invokevirtual 162, 3) := by decide +kernel
theorem dX7_stop_146 : decode cX7_stop 146 = .ok (.aload_n 0, 1) := by decide +kernel
theorem dX7_stop_147 : decode cX7_stop 147 = .ok (.getfield 26, 3) := by decide +kernel
theorem dX7_stop_150 : decode cX7_stop 150 = .ok (.getfield 189, 3) := by decide +kernel
theorem dX7_stop_153 : decode cX7_stop 153 = .ok (.iload_n 2, 1) := by decide +kernel
theorem dX7_stop_154 : decode cX7_stop 154 = .ok (.iaload, 1) := by decide +kernel
theorem dX7_stop_155 : decode cX7_stop 155 = .ok (.ireturn, 1) := by decide +kernel
theorem dX7_stop_156 : decode cX7_stop 156 = .ok (.aload_n 0, 1) := by decide +kernel
theorem dX7_stop_157 : decode cX7_stop 157 = .ok (.getfield 26, 3) := by decide +kernel
theorem dX7_stop_160 : decode cX7_stop 160 = .ok (.aload 4, 2) := by decide +kernel
theorem dX7_stop_162 : decode cX7_stop 162 = .ok (.invokevirtual 176, 3) := by decide +kernel
theorem dX7_stop_165 : decode cX7_stop 165 = .ok (.pop, 1) := by decide +kernel
theorem dX7_stop_166 : decode cX7_stop 166 = .ok (.aload_n 0, 1) := by decide +kernel
theorem dX7_stop_167 : decode cX7_stop 167 = .ok (.getfield 26, 3) := by decide +kernel
theorem dX7_stop_170 : decode cX7_stop 170 = .ok (.iload_n 2, 1) := by decide +kernel
theorem dX7_stop_171 : decode cX7_stop 171 = .ok (.invokevirtual 192, 3) := by decide +kernel
theorem dX7_stop_174 : decode cX7_stop 174 = .ok (.ireturn, 1) := by decide +kernel
theorem dX7_stop_175 : decode cX7_stop 175 = .ok (.sipush (-1002), 3) := by decide +kernel
theorem dX7_stop_178 : decode cX7_stop 178 = .ok (.ireturn, 1) := by decide +kernel
theorem dX7_rideTime_0 : decode cX7_rideTime 0 = .ok (.aload_n 0, 1) := by decide +kernel
theorem dX7_rideTime_1 : decode cX7_rideTime 1 = .ok (.iload_n 1, 1) := by decide +kernel
theorem dX7_rideTime_2 : decode cX7_rideTime 2 = .ok (.invokevirtual 105, 3) := by decide +kernel
theorem dX7_rideTime_5 : decode cX7_rideTime 5 = .ok (.ifCond .ne 7, 3) := by decide +kernel
theorem dX7_rideTime_8 : decode cX7_rideTime 8 = .ok (.sipush (-1001), 3) := by decide +kernel
theorem dX7_rideTime_11 : decode cX7_rideTime 11 = .ok (.ireturn, 1) := by decide +kernel
theorem dX7_rideTime_12 : decode cX7_rideTime 12 = .ok (.aload_n 0, 1) := by decide +kernel
theorem dX7_rideTime_13 : decode cX7_rideTime 13 = .ok (.iload_n 1, 1) := by decide +kernel
theorem dX7_rideTime_14 : decode cX7_rideTime 14 = .ok (.invokevirtual 138, 3) := by decide +kernel
theorem dX7_rideTime_17 : decode cX7_rideTime 17 = .ok (.ifCond .eq 7, 3) := by decide +kernel
theorem dX7_rideTime_20 : decode cX7_rideTime 20 = .ok (.sipush (-1004), 3) := by decide +kernel
theorem dX7_rideTime_23 : decode cX7_rideTime 23 = .ok (.ireturn, 1) := by decide +kernel
theorem dX7_rideTime_24 : decode cX7_rideTime 24 = .ok (.aload_n 0, 1) := by decide +kernel
theorem dX7_rideTime_25 : decode cX7_rideTime 25 = .ok (.getfield 46, 3) := by decide +kernel
theorem dX7_rideTime_28 : decode cX7_rideTime 28 = .ok (.getfield 151, 3) := by decide +kernel
theorem dX7_rideTime_31 : decode cX7_rideTime 31 = .ok (.aload_n 0, 1) := by decide +kernel
theorem dX7_rideTime_32 : decode cX7_rideTime 32 = .ok (.getfield 46, 3) := by decide +kernel
theorem dX7_rideTime_35 : decode cX7_rideTime 35 = .ok (.getfield 141, 3) := by decide +kernel
theorem dX7_rideTime_38 : decode cX7_rideTime 38 = .ok (.iload_n 1, 1) := by decide +kernel
theorem dX7_rideTime_39 : decode cX7_rideTime 39 = .ok (.iaload, 1) := by decide +kernel
theorem dX7_rideTime_40 : decode cX7_rideTime 40 = .ok (.aaload, 1) := by decide +kernel
theorem dX7_rideTime_41 : decode cX7_rideTime 41 = .ok (.astore_n 3, 1) := by decide +kernel
theorem dX7_rideTime_42 : decode cX7_rideTime 42 = .ok (.iload_n 2, 1) := by decide +kernel
theorem dX7_rideTime_43 : decode cX7_rideTime 43 = .ok (.ifCond .eq 27, 3) := by decide +kernel
theorem dX7_rideTime_46 : decode cX7_rideTime 46 = .ok (.aload_n 0, 1) := by decide +kernel
theorem dX7_rideTime_47 : decode cX7_rideTime 47 = .ok (.getfield 26, 3) := by decide +kernel
theorem dX7_rideTime_50 : decode cX7_rideTime 50 = .ok (.aload_n 3, 1) := by decide +kernel
theorem dX7_rideTime_51 : decode cX7_rideTime 51 = .ok (.invokevirtual 183, 3) := by decide +kernel
theorem dX7_rideTime_54 : decode cX7_rideTime 54 = .ok (.aload_n 0, 1) := by decide +kernel
theorem dX7_rideTime_55 : decode cX7_rideTime 55 = .ok (.getfield 26, 3) := by decide +kernel
theorem dX7_rideTime_58 : decode cX7_rideTime 58 = .ok (.aload_n 0, 1) := by decide +kernel
theorem dX7_rideTime_59 : decode cX7_rideTime 59 = .ok (.getfield 26, 3) := by decide +kernel
theorem dX7_rideTime_62 : decode cX7_rideTime 62 = .ok (.getfield 186, 3) := by decide +kernel
theorem dX7_rideTime_65 : decode cX7_rideTime 65 = .ok (.iload_n 1, 1) := by decide +kernel
theorem dX7_rideTime_66 : decode cX7_rideTime 66 = .ok (.invokevirtual 195, 3) := by decide +kernel
theorem dX7_rideTime_69 : decode cX7_rideTime 69 = .ok (.ireturn, 1) := by decide +kernel
theorem dX7_rideTime_70 : decode cX7_rideTime 70 = .ok (.aload_n 0, 1) := by decide +kernel
theorem dX7_rideTime_71 : decode cX7_rideTime 71 = .ok (.getfield 26, 3) := by decide +kernel
theorem dX7_rideTime_74 : decode cX7_rideTime 74 = .ok (.aload_n 3, 1) := by decide +kernel
theorem dX7_rideTime_75 : decode cX7_rideTime 75 = .ok (.invokevirtual 176, 3) := by decide +kernel
theorem dX7_rideTime_78 : decode cX7_rideTime 78 = .ok (.pop, 1) := by decide +kernel
theorem dX7_rideTime_79 : decode cX7_rideTime 79 = .ok (.aload_n 0, 1) := by decide +kernel
theorem dX7_rideTime_80 : decode cX7_rideTime 80 = .ok (.getfield 26, 3) := by decide +kernel
theorem dX7_rideTime_83 : decode cX7_rideTime 83 = .ok (.aload_n 0, 1) := by decide +kernel
theorem dX7_rideTime_84 : decode cX7_rideTime 84 = .ok (.getfield 26, 3) := by decide +kernel
theorem dX7_rideTime_87 : decode cX7_rideTime 87 = .ok (.getfield 180, 3) := by decide +kernel
theorem dX7_rideTime_90 : decode cX7_rideTime 90 = .ok (.iload_n 1, 1) := by decide +kernel
theorem dX7_rideTime_91 : decode cX7_rideTime 91 = .ok (.invokevirtual 195, 3) := by decide +kernel
theorem dX7_rideTime_94 : decode cX7_rideTime 94 = .ok (.ireturn, 1) := by decide +kernel
theorem dX7_depotTime_0 : decode cX7_depotTime 0 = .ok (.aload_n 0, 1) := by decide +kernel
theorem dX7_depotTime_1 : decode cX7_depotTime 1 = .ok (.iload_n 1, 1) := by decide +kernel
theorem dX7_depotTime_2 : decode cX7_depotTime 2 = .ok (.invokevirtual 148, 3) := by decide +kernel
theorem dX7_depotTime_5 : decode cX7_depotTime 5 = .ok (.ifCond .ne 7, 3) := by decide +kernel
theorem dX7_depotTime_8 : decode cX7_depotTime 8 = .ok (.sipush (-1001), 3) := by decide +kernel
theorem dX7_depotTime_11 : decode cX7_depotTime 11 = .ok (.ireturn, 1) := by decide +kernel
theorem dX7_depotTime_12 : decode cX7_depotTime 12 = .ok (.aload_n 0, 1) := by decide +kernel
theorem dX7_depotTime_13 : decode cX7_depotTime 13 = .ok (.getfield 46, 3) := by decide +kernel
theorem dX7_depotTime_16 : decode cX7_depotTime 16 = .ok (.getfield 151, 3) := by decide +kernel
theorem dX7_depotTime_19 : decode cX7_depotTime 19 = .ok (.iload_n 1, 1) := by decide +kernel
theorem dX7_depotTime_20 : decode cX7_depotTime 20 = .ok (.aaload, 1) := by decide +kernel
theorem dX7_depotTime_21 : decode cX7_depotTime 21 = .ok (.astore_n 3, 1) := by decide +kernel
theorem dX7_depotTime_22 : decode cX7_depotTime 22 = .ok (.aload_n 3, 1) := by decide +kernel
theorem dX7_depotTime_23 : decode cX7_depotTime 23 = .ok (.getfield 155, 3) := by decide +kernel
theorem dX7_depotTime_26 : decode cX7_depotTime 26 = .ok (.ifCond .ne 7, 3) := by decide +kernel
theorem dX7_depotTime_29 : decode cX7_depotTime 29 = .ok (.sipush (-1007), 3) := by decide +kernel
theorem dX7_depotTime_32 : decode cX7_depotTime 32 = .ok (.ireturn, 1) := by decide +kernel
theorem dX7_depotTime_33 : decode cX7_depotTime 33 = .ok (.iload_n 2, 1) := by decide +kernel
theorem dX7_depotTime_34 : decode cX7_depotTime 34 = .ok (.ifCond .eq 40, 3) := by decide +kernel
theorem dX7_depotTime_37 : decode cX7_depotTime 37 = .ok (.aload_n 0, 1) := by decide +kernel
theorem dX7_depotTime_38 : decode cX7_depotTime 38 = .ok (.getfield 26, 3) := by decide +kernel
theorem dX7_depotTime_41 : decode cX7_depotTime 41 = .ok (.aload_n 3, 1) := by decide +kernel
theorem dX7_depotTime_42 : decode cX7_depotTime 42 = .ok (.invokevirtual 176, 3) := by decide +kernel
theorem dX7_depotTime_45 : decode cX7_depotTime 45 = .ok (.pop, 1) := by decide +kernel
theorem dX7_depotTime_46 : decode cX7_depotTime 46 = .ok (.aload_n 0, 1) := by decide +kernel
theorem dX7_depotTime_47 : decode cX7_depotTime 47 = .ok (.getfield 26, 3) := by decide +kernel
theorem dX7_depotTime_50 : decode cX7_depotTime 50 = .ok (.getfield 180, 3) := by decide +kernel
theorem dX7_depotTime_53 : decode cX7_depotTime 53 = .ok (.aload_n 3, 1) := by decide +kernel
theorem dX7_depotTime_54 : decode cX7_depotTime 54 = .ok (.getfield 155, 3) := by decide +kernel
theorem dX7_depotTime_57 : decode cX7_depotTime 57 = .ok (.iconst 1, 1) := by decide +kernel
theorem dX7_depotTime_58 : decode cX7_depotTime 58 = .ok (.isub, 1) := by decide +kernel
theorem dX7_depotTime_59 : decode cX7_depotTime 59 = .ok (.iaload, 1) := by decide +kernel
theorem dX7_depotTime_60 : decode cX7_depotTime 60 = .ok (.aload_n 0, 1) := by decide +kernel
theorem dX7_depotTime_61 : decode cX7_depotTime 61 = .ok (.getfield 26, 3) := by decide +kernel
theorem dX7_depotTime_64 : decode cX7_depotTime 64 = .ok (.getfield 199, 3) := by decide +kernel
theorem dX7_depotTime_67 : decode cX7_depotTime 67 = .ok (.aload_n 3, 1) := by decide +kernel
theorem dX7_depotTime_68 : decode cX7_depotTime 68 = .ok (.getfield 155, 3) := by decide +kernel
theorem dX7_depotTime_71 : decode cX7_depotTime 71 = .ok (.iaload, 1) := by decide +kernel
theorem dX7_depotTime_72 : decode cX7_depotTime 72 = .ok (.iadd, 1) := by decide +kernel
theorem dX7_depotTime_73 : decode cX7_depotTime 73 = .ok (.ireturn, 1) := by decide +kernel
theorem dX7_depotTime_74 : decode cX7_depotTime 74 = .ok (.aload_n 0, 1) := by decide +kernel
theorem dX7_depotTime_75 : decode cX7_depotTime 75 = .ok (.getfield 26, 3) := by decide +kernel
theorem dX7_depotTime_78 : decode cX7_depotTime 78 = .ok (.aload_n 3, 1) := by decide +kernel
theorem dX7_depotTime_79 : decode cX7_depotTime 79 = .ok (.invokevirtual 183, 3) := by decide +kernel
theorem dX7_depotTime_82 : decode cX7_depotTime 82 = .ok (.aload_n 0, 1) := by decide +kernel
theorem dX7_depotTime_83 : decode cX7_depotTime 83 = .ok (.getfield 26, 3) := by decide +kernel
theorem dX7_depotTime_86 : decode cX7_depotTime 86 = .ok (.getfield 186, 3) := by decide +kernel
theorem dX7_depotTime_89 : decode cX7_depotTime 89 = .ok (.iconst 0, 1) := by decide +kernel
theorem dX7_depotTime_90 : decode cX7_depotTime 90 = .ok (.iaload, 1) := by decide +kernel
theorem dX7_depotTime_91 : decode cX7_depotTime 91 = .ok (.aload_n 0, 1) := by decide +kernel
theorem dX7_depotTime_92 : decode cX7_depotTime 92 = .ok (.getfield 26, 3) := by decide +kernel
theorem dX7_depotTime_95 : decode cX7_depotTime 95 = .ok (.getfield 199, 3) := by decide +kernel
theorem dX7_depotTime_98 : decode cX7_depotTime 98 = .ok (.iconst 0, 1) := by decide +kernel
theorem dX7_depotTime_99 : decode cX7_depotTime 99 = .ok (.iaload, 1) := by decide +kernel
theorem dX7_depotTime_100 : decode cX7_depotTime 100 = .ok (.isub, 1) := by decide +kernel
theorem dX7_depotTime_101 : decode cX7_depotTime 101 = .ok (.ireturn, 1) := by decide +kernel
theorem dX7_cost_0 : decode cX7_cost 0 = .ok (.aload_n 0, 1) := by decide +kernel
theorem dX7_cost_1 : decode cX7_cost 1 = .ok (.iload_n 1, 1) := by decide +kernel
theorem dX7_cost_2 : decode cX7_cost 2 = .ok (.iload_n 2, 1) := by decide +kernel
theorem dX7_cost_3 : decode cX7_cost 3 = .ok (.iload_n 3, 1) := by decide +kernel
theorem dX7_cost_4 : decode cX7_cost 4 = .ok (.iload 4, 2) := by decide +kernel
theorem dX7_cost_6 : decode cX7_cost 6 = .ok (.invokevirtual 202, 3) := by decide +kernel
theorem dX7_cost_9 : decode cX7_cost 9 = .ok (.istore 5, 2) := by decide +kernel
theorem dX7_cost_11 : decode cX7_cost 11 = .ok (.iload 5, 2) := by decide +kernel
theorem dX7_cost_13 : decode cX7_cost 13 = .ok (.ifCond .eq 6, 3) := by decide +kernel
theorem dX7_cost_16 : decode cX7_cost 16 = .ok (.iload 5, 2) := by decide +kernel
theorem dX7_cost_18 : decode cX7_cost 18 = .ok (.ireturn, 1) := by decide +kernel
theorem dX7_cost_19 : decode cX7_cost 19 = .ok (.aload_n 0, 1) := by decide +kernel
theorem dX7_cost_20 : decode cX7_cost 20 = .ok (.getfield 22, 3) := by decide +kernel
theorem dX7_cost_23 : decode cX7_cost 23 = .ok (.aload_n 0, 1) := by decide +kernel
theorem dX7_cost_24 : decode cX7_cost 24 = .ok (.getfield 46, 3) := by decide +kernel
theorem dX7_cost_27 : decode cX7_cost 27 = .ok (.getfield 151, 3) := by decide +kernel
theorem dX7_cost_30 : decode cX7_cost 30 = .ok (.iload_n 2, 1) := by decide +kernel
theorem dX7_cost_31 : decode cX7_cost 31 = .ok (.aaload, 1) := by decide +kernel
theorem dX7_cost_32 : decode cX7_cost 32 = .ok (.iload_n 1, 1) := by decide +kernel
theorem dX7_cost_33 : decode cX7_cost 33 = .ok (.iload_n 3, 1) := by decide +kernel
theorem dX7_cost_34 : decode cX7_cost 34 = .ok (.iload 4, 2) := by decide +kernel
theorem dX7_cost_36 : decode cX7_cost 36 = .ok (.invokevirtual 206, 3) := by decide +kernel
theorem dX7_cost_39 : decode cX7_cost 39 = .ok (.ireturn, 1) := by decide +kernel
theorem dX7_insert_0 : decode cX7_insert 0 = .ok (.aload_n 0, 1) := by decide +kernel
theorem dX7_insert_1 : decode cX7_insert 1 = .ok (.iload_n 1, 1) := by decide +kernel
theorem dX7_insert_2 : decode cX7_insert 2 = .ok (.iload_n 2, 1) := by decide +kernel
theorem dX7_insert_3 : decode cX7_insert 3 = .ok (.iload_n 3, 1) := by decide +kernel
theorem dX7_insert_4 : decode cX7_insert 4 = .ok (.iload 4, 2) := by decide +kernel
theorem dX7_insert_6 : decode cX7_insert 6 = .ok (.invokevirtual 202, 3) := by decide +kernel
theorem dX7_insert_9 : decode cX7_insert 9 = .ok (.istore 5, 2) := by decide +kernel
theorem dX7_insert_11 : decode cX7_insert 11 = .ok (.iload 5, 2) := by decide +kernel
theorem dX7_insert_13 : decode cX7_insert 13 = .ok (.ifCond .eq 6, 3) := by decide +kernel
theorem dX7_insert_16 : decode cX7_insert 16 = .ok (.iload 5, 2) := by decide +kernel
theorem dX7_insert_18 : decode cX7_insert 18 = .ok (.ireturn, 1) := by decide +kernel
theorem dX7_insert_19 : decode cX7_insert 19 = .ok (.aload_n 0, 1) := by decide +kernel
theorem dX7_insert_20 : decode cX7_insert 20 = .ok (.getfield 22, 3) := by decide +kernel
theorem dX7_insert_23 : decode cX7_insert 23 = .ok (.aload_n 0, 1) := by decide +kernel
theorem dX7_insert_24 : decode cX7_insert 24 = .ok (.getfield 46, 3) := by decide +kernel
theorem dX7_insert_27 : decode cX7_insert 27 = .ok (.getfield 151, 3) := by decide +kernel
theorem dX7_insert_30 : decode cX7_insert 30 = .ok (.iload_n 2, 1) := by decide +kernel
theorem dX7_insert_31 : decode cX7_insert 31 = .ok (.aaload, 1) := by decide +kernel
theorem dX7_insert_32 : decode cX7_insert 32 = .ok (.iload_n 1, 1) := by decide +kernel
theorem dX7_insert_33 : decode cX7_insert 33 = .ok (.iload_n 3, 1) := by decide +kernel
theorem dX7_insert_34 : decode cX7_insert 34 = .ok (.iload 4, 2) := by decide +kernel
theorem dX7_insert_36 : decode cX7_insert 36 = .ok (.invokevirtual 206, 3) := by decide +kernel
theorem dX7_insert_39 : decode cX7_insert 39 = .ok (.istore 6, 2) := by decide +kernel
theorem dX7_insert_41 : decode cX7_insert 41 = .ok (.aload_n 0, 1) := by decide +kernel
theorem dX7_insert_42 : decode cX7_insert 42 = .ok (.getfield 53, 3) := by decide +kernel
theorem dX7_insert_45 : decode cX7_insert 45 = .ok (.aload_n 0, 1) := by decide +kernel
theorem dX7_insert_46 : decode cX7_insert 46 = .ok (.getfield 46, 3) := by decide +kernel
theorem dX7_insert_49 : decode cX7_insert 49 = .ok (.invokevirtual 210, 3) := by decide +kernel
theorem dX7_insert_52 : decode cX7_insert 52 = .ok (.aload_n 0, 1) := by decide +kernel
theorem dX7_insert_53 : decode cX7_insert 53 = .ok (.getfield 46, 3) := by decide +kernel
theorem dX7_insert_56 : decode cX7_insert 56 = .ok (.iload_n 1, 1) := by decide +kernel
theorem dX7_insert_57 : decode cX7_insert 57 = .ok (.iload_n 2, 1) := by decide +kernel
theorem dX7_insert_58 : decode cX7_insert 58 = .ok (.iload_n 3, 1) := by decide +kernel
theorem dX7_insert_59 : decode cX7_insert 59 = .ok (.iload 4, 2) := by decide +kernel
theorem dX7_insert_61 : decode cX7_insert 61 = .ok (.invokevirtual 214, 3) := by decide +kernel
theorem dX7_insert_64 : decode cX7_insert 64 = .ok (.iload 6, 2) := by decide +kernel
theorem dX7_insert_66 : decode cX7_insert 66 = .ok (.ireturn, 1) := by decide +kernel
theorem dX7_best_0 : decode cX7_best 0 = .ok (.aload_n 0, 1) := by decide +kernel
theorem dX7_best_1 : decode cX7_best 1 = .ok (.iload_n 1, 1) := by decide +kernel
theorem dX7_best_2 : decode cX7_best 2 = .ok (.iload_n 2, 1) := by decide +kernel
theorem dX7_best_3 : decode cX7_best 3 = .ok (.invokevirtual 218, 3) := by decide +kernel
theorem dX7_best_6 : decode cX7_best 6 = .ok (.istore_n 3, 1) := by decide +kernel
theorem dX7_best_7 : decode cX7_best 7 = .ok (.iload_n 3, 1) := by decide +kernel
theorem dX7_best_8 : decode cX7_best 8 = .ok (.ifCond .eq 5, 3) := by decide +kernel
theorem dX7_best_11 : decode cX7_best 11 = .ok (.iload_n 3, 1) := by decide +kernel
theorem dX7_best_12 : decode cX7_best 12 = .ok (.ireturn, 1) := by decide +kernel
theorem dX7_best_13 : decode cX7_best 13 = .ok (.aload_n 0, 1) := by decide +kernel
theorem dX7_best_14 : decode cX7_best 14 = .ok (.getfield 30, 3) := by decide +kernel
theorem dX7_best_17 : decode cX7_best 17 = .ok (.invokevirtual 222, 3) := by decide +kernel
theorem dX7_best_20 : decode cX7_best 20 = .ok (.aload_n 0, 1) := by decide +kernel
theorem dX7_best_21 : decode cX7_best 21 = .ok (.getfield 30, 3) := by decide +kernel
theorem dX7_best_24 : decode cX7_best 24 = .ok (.aload_n 0, 1) := by decide +kernel
theorem dX7_best_25 : decode cX7_best 25 = .ok (.getfield 46, 3) := by decide +kernel
theorem dX7_best_28 : decode cX7_best 28 = .ok (.getfield 151, 3) := by decide +kernel
theorem dX7_best_31 : decode cX7_best 31 = .ok (.iload_n 2, 1) := by decide +kernel
theorem dX7_best_32 : decode cX7_best 32 = .ok (.aaload, 1) := by decide +kernel
theorem dX7_best_33 : decode cX7_best 33 = .ok (.iload_n 1, 1) := by decide +kernel
theorem dX7_best_34 : decode cX7_best 34 = .ok (.invokevirtual 225, 3) := by decide +kernel
theorem dX7_best_37 : decode cX7_best 37 = .ok (.aload_n 0, 1) := by decide +kernel
theorem dX7_best_38 : decode cX7_best 38 = .ok (.getfield 30, 3) := by decide +kernel
theorem dX7_best_41 : decode cX7_best 41 = .ok (.getfield 229, 3) := by decide +kernel
theorem dX7_best_44 : decode cX7_best 44 = .ok (.ifCond .eq 24, 3) := by decide +kernel
theorem dX7_best_47 : decode cX7_best 47 = .ok (.bipush 100, 2) := by decide +kernel
theorem dX7_best_49 : decode cX7_best 49 = .ok (.aload_n 0, 1) := by decide +kernel
theorem dX7_best_50 : decode cX7_best 50 = .ok (.getfield 30, 3) := by decide +kernel
theorem dX7_best_53 : decode cX7_best 53 = .ok (.getfield 233, 3) := by decide +kernel
theorem dX7_best_56 : decode cX7_best 56 = .ok (.imul, 1) := by decide +kernel
theorem dX7_best_57 : decode cX7_best 57 = .ok (.aload_n 0, 1) := by decide +kernel
theorem dX7_best_58 : decode cX7_best 58 = .ok (.getfield 30, 3) := by decide +kernel
theorem dX7_best_61 : decode cX7_best 61 = .ok (.getfield 236, 3) := by decide +kernel
theorem dX7_best_64 : decode cX7_best 64 = .ok (.iadd, 1) := by decide +kernel
theorem dX7_best_65 : decode cX7_best 65 = .ok (.goto 6, 3) := by decide +kernel
theorem dX7_best_68 : decode cX7_best 68 = .ok (.sipush (-1007), 3) := by decide +kernel
theorem dX7_best_71 : decode cX7_best 71 = .ok (.ireturn, 1) := by decide +kernel
theorem dX7_assignTo_0 : decode cX7_assignTo 0 = .ok (.aload_n 0, 1) := by decide +kernel
theorem dX7_assignTo_1 : decode cX7_assignTo 1 = .ok (.iload_n 1, 1) := by decide +kernel
theorem dX7_assignTo_2 : decode cX7_assignTo 2 = .ok (.iload_n 2, 1) := by decide +kernel
theorem dX7_assignTo_3 : decode cX7_assignTo 3 = .ok (.invokevirtual 218, 3) := by decide +kernel
theorem dX7_assignTo_6 : decode cX7_assignTo 6 = .ok (.istore_n 3, 1) := by decide +kernel
theorem dX7_assignTo_7 : decode cX7_assignTo 7 = .ok (.iload_n 3, 1) := by decide +kernel
theorem dX7_assignTo_8 : decode cX7_assignTo 8 = .ok (.ifCond .eq 5, 3) := by decide +kernel
theorem dX7_assignTo_11 : decode cX7_assignTo 11 = .ok (.iload_n 3, 1) := by decide +kernel
theorem dX7_assignTo_12 : decode cX7_assignTo 12 = .ok (.ireturn, 1) := by decide +kernel
theorem dX7_assignTo_13 : decode cX7_assignTo 13 = .ok (.aload_n 0, 1) := by decide +kernel
theorem dX7_assignTo_14 : decode cX7_assignTo 14 = .ok (.getfield 30, 3) := by decide +kernel
theorem dX7_assignTo_17 : decode cX7_assignTo 17 = .ok (.invokevirtual 222, 3) := by decide +kernel
theorem dX7_assignTo_20 : decode cX7_assignTo 20 = .ok (.aload_n 0, 1) := by decide +kernel
theorem dX7_assignTo_21 : decode cX7_assignTo 21 = .ok (.getfield 30, 3) := by decide +kernel
theorem dX7_assignTo_24 : decode cX7_assignTo 24 = .ok (.aload_n 0, 1) := by decide +kernel
theorem dX7_assignTo_25 : decode cX7_assignTo 25 = .ok (.getfield 46, 3) := by decide +kernel
theorem dX7_assignTo_28 : decode cX7_assignTo 28 = .ok (.getfield 151, 3) := by decide +kernel
theorem dX7_assignTo_31 : decode cX7_assignTo 31 = .ok (.iload_n 2, 1) := by decide +kernel
theorem dX7_assignTo_32 : decode cX7_assignTo 32 = .ok (.aaload, 1) := by decide +kernel
theorem dX7_assignTo_33 : decode cX7_assignTo 33 = .ok (.iload_n 1, 1) := by decide +kernel
theorem dX7_assignTo_34 : decode cX7_assignTo 34 = .ok (.invokevirtual 225, 3) := by decide +kernel
theorem dX7_assignTo_37 : decode cX7_assignTo 37 = .ok (.aload_n 0, 1) := by decide +kernel
theorem dX7_assignTo_38 : decode cX7_assignTo 38 = .ok (.iload_n 1, 1) := by decide +kernel
theorem dX7_assignTo_39 : decode cX7_assignTo 39 = .ok (.invokevirtual 239, 3) := by decide +kernel
theorem dX7_assignTo_42 : decode cX7_assignTo 42 = .ok (.ifCond .eq 13, 3) := by decide +kernel
theorem dX7_assignTo_45 : decode cX7_assignTo 45 = .ok (.aload_n 0, 1) := by decide +kernel
theorem dX7_assignTo_46 : decode cX7_assignTo 46 = .ok (.getfield 30, 3) := by decide +kernel
theorem dX7_assignTo_49 : decode cX7_assignTo 49 = .ok (.getfield 242, 3) := by decide +kernel
theorem dX7_assignTo_52 : decode cX7_assignTo 52 = .ok (.goto 6, 3) := by decide +kernel
theorem dX7_assignTo_55 : decode cX7_assignTo 55 = .ok (.sipush (-1005), 3) := by decide +kernel
theorem dX7_assignTo_58 : decode cX7_assignTo 58 = .ok (.ireturn, 1) := by decide +kernel
theorem dX7_assign_0 : decode cX7_assign 0 = .ok (.aload_n 0, 1) := by decide +kernel
theorem dX7_assign_1 : decode cX7_assign 1 = .ok (.iload_n 1, 1) := by decide +kernel
theorem dX7_assign_2 : decode cX7_assign 2 = .ok (.invokevirtual 245, 3) := by decide +kernel
theorem dX7_assign_5 : decode cX7_assign 5 = .ok (.istore_n 2, 1) := by decide +kernel
theorem dX7_assign_6 : decode cX7_assign 6 = .ok (.iload_n 2, 1) := by decide +kernel
theorem dX7_assign_7 : decode cX7_assign 7 = .ok (.ifCond .eq 5, 3) := by decide +kernel
theorem dX7_assign_10 : decode cX7_assign 10 = .ok (.iload_n 2, 1) := by decide +kernel
theorem dX7_assign_11 : decode cX7_assign 11 = .ok (.ireturn, 1) := by decide +kernel
theorem dX7_assign_12 : decode cX7_assign 12 = .ok (.aload_n 0, 1) := by decide +kernel
theorem dX7_assign_13 : decode cX7_assign 13 = .ok (.getfield 30, 3) := by decide +kernel
theorem dX7_assign_16 : decode cX7_assign 16 = .ok (.invokevirtual 222, 3) := by decide +kernel
theorem dX7_assign_19 : decode cX7_assign 19 = .ok (.aload_n 0, 1) := by decide +kernel
theorem dX7_assign_20 : decode cX7_assign 20 = .ok (.getfield 30, 3) := by decide +kernel
theorem dX7_assign_23 : decode cX7_assign 23 = .ok (.iconst (-1), 1) := by decide +kernel
theorem dX7_assign_24 : decode cX7_assign 24 = .ok (.aload_n 0, 1) := by decide +kernel
theorem dX7_assign_25 : decode cX7_assign 25 = .ok (.getfield 46, 3) := by decide +kernel
theorem dX7_assign_28 : decode cX7_assign 28 = .ok (.iload_n 1, 1) := by decide +kernel
theorem dX7_assign_29 : decode cX7_assign 29 = .ok (.invokevirtual 247, 3) := by decide +kernel
theorem dX7_assign_32 : decode cX7_assign 32 = .ok (.aload_n 0, 1) := by decide +kernel
theorem dX7_assign_33 : decode cX7_assign 33 = .ok (.iload_n 1, 1) := by decide +kernel
theorem dX7_assign_34 : decode cX7_assign 34 = .ok (.invokevirtual 239, 3) := by decide +kernel
theorem dX7_assign_37 : decode cX7_assign 37 = .ok (.ifCond .eq 13, 3) := by decide +kernel
theorem dX7_assign_40 : decode cX7_assign 40 = .ok (.aload_n 0, 1) := by decide +kernel
theorem dX7_assign_41 : decode cX7_assign 41 = .ok (.getfield 30, 3) := by decide +kernel
theorem dX7_assign_44 : decode cX7_assign 44 = .ok (.getfield 251, 3) := by decide +kernel
theorem dX7_assign_47 : decode cX7_assign 47 = .ok (.goto 6, 3) := by decide +kernel
theorem dX7_assign_50 : decode cX7_assign 50 = .ok (.sipush (-1005), 3) := by decide +kernel
theorem dX7_assign_53 : decode cX7_assign 53 = .ok (.ireturn, 1) := by decide +kernel
theorem dX7_remove_0 : decode cX7_remove 0 = .ok (.aload_n 0, 1) := by decide +kernel
theorem dX7_remove_1 : decode cX7_remove 1 = .ok (.iload_n 1, 1) := by decide +kernel
theorem dX7_remove_2 : decode cX7_remove 2 = .ok (.invokevirtual 105, 3) := by decide +kernel
theorem dX7_remove_5 : decode cX7_remove 5 = .ok (.ifCond .ne 7, 3) := by decide +kernel
theorem dX7_remove_8 : decode cX7_remove 8 = .ok (.sipush (-1001), 3) := by decide +kernel
theorem dX7_remove_11 : decode cX7_remove 11 = .ok (.ireturn, 1) := by decide +kernel
theorem dX7_remove_12 : decode cX7_remove 12 = .ok (.aload_n 0, 1) := by decide +kernel
theorem dX7_remove_13 : decode cX7_remove 13 = .ok (.iload_n 1, 1) := by decide +kernel
theorem dX7_remove_14 : decode cX7_remove 14 = .ok (.invokevirtual 138, 3) := by decide +kernel
theorem dX7_remove_17 : decode cX7_remove 17 = .ok (.ifCond .eq 7, 3) := by decide +kernel
theorem dX7_remove_20 : decode cX7_remove 20 = .ok (.sipush (-1004), 3) := by decide +kernel
theorem dX7_remove_23 : decode cX7_remove 23 = .ok (.ireturn, 1) := by decide +kernel
theorem dX7_remove_24 : decode cX7_remove 24 = .ok (.aload_n 0, 1) := by decide +kernel
theorem dX7_remove_25 : decode cX7_remove 25 = .ok (.getfield 22, 3) := by decide +kernel
theorem dX7_remove_28 : decode cX7_remove 28 = .ok (.aload_n 0, 1) := by decide +kernel
theorem dX7_remove_29 : decode cX7_remove 29 = .ok (.getfield 46, 3) := by decide +kernel
theorem dX7_remove_32 : decode cX7_remove 32 = .ok (.invokevirtual 131, 3) := by decide +kernel
theorem dX7_remove_35 : decode cX7_remove 35 = .ok (.istore_n 2, 1) := by decide +kernel
theorem dX7_remove_36 : decode cX7_remove 36 = .ok (.aload_n 0, 1) := by decide +kernel
theorem dX7_remove_37 : decode cX7_remove 37 = .ok (.getfield 53, 3) := by decide +kernel
theorem dX7_remove_40 : decode cX7_remove 40 = .ok (.aload_n 0, 1) := by decide +kernel
theorem dX7_remove_41 : decode cX7_remove 41 = .ok (.getfield 46, 3) := by decide +kernel
theorem dX7_remove_44 : decode cX7_remove 44 = .ok (.invokevirtual 210, 3) := by decide +kernel
theorem dX7_remove_47 : decode cX7_remove 47 = .ok (.aload_n 0, 1) := by decide +kernel
theorem dX7_remove_48 : decode cX7_remove 48 = .ok (.getfield 46, 3) := by decide +kernel
theorem dX7_remove_51 : decode cX7_remove 51 = .ok (.iload_n 1, 1) := by decide +kernel
theorem dX7_remove_52 : decode cX7_remove 52 = .ok (.invokevirtual 254, 3) := by decide +kernel
theorem dX7_remove_55 : decode cX7_remove 55 = .ok (.iload_n 2, 1) := by decide +kernel
theorem dX7_remove_56 : decode cX7_remove 56 = .ok (.aload_n 0, 1) := by decide +kernel
theorem dX7_remove_57 : decode cX7_remove 57 = .ok (.getfield 22, 3) := by decide +kernel
theorem dX7_remove_60 : decode cX7_remove 60 = .ok (.aload_n 0, 1) := by decide +kernel
theorem dX7_remove_61 : decode cX7_remove 61 = .ok (.getfield 46, 3) := by decide +kernel
theorem dX7_remove_64 : decode cX7_remove 64 = .ok (.invokevirtual 131, 3) := by decide +kernel
theorem dX7_remove_67 : decode cX7_remove 67 = .ok (.isub, 1) := by decide +kernel
theorem dX7_remove_68 : decode cX7_remove 68 = .ok (.ireturn, 1) := by decide +kernel
theorem dX7_chainCost_0 : decode cX7_chainCost 0 = .ok (.aload_n 0, 1) := by decide +kernel
theorem dX7_chainCost_1 : decode cX7_chainCost 1 = .ok (.iload_n 1, 1) := by decide +kernel
theorem dX7_chainCost_2 : decode cX7_chainCost 2 = .ok (.invokevirtual 245, 3) := by decide +kernel
theorem dX7_chainCost_5 : decode cX7_chainCost 5 = .ok (.istore_n 2, 1) := by decide +kernel
theorem dX7_chainCost_6 : decode cX7_chainCost 6 = .ok (.iload_n 2, 1) := by decide +kernel
theorem dX7_chainCost_7 : decode cX7_chainCost 7 = .ok (.ifCond .eq 5, 3) := by decide +kernel
theorem dX7_chainCost_10 : decode cX7_chainCost 10 = .ok (.iload_n 2, 1) := by decide +kernel
theorem dX7_chainCost_11 : decode cX7_chainCost 11 = .ok (.ireturn, 1) := by decide +kernel
theorem dX7_chainCost_12 : decode cX7_chainCost 12 = .ok (.aload_n 0, 1) := by decide +kernel
theorem dX7_chainCost_13 : decode cX7_chainCost 13 = .ok (.getfield 39, 3) := by decide +kernel
theorem dX7_chainCost_16 : decode cX7_chainCost 16 = .ok (.aload_n 0, 1) := by decide +kernel
theorem dX7_chainCost_17 : decode cX7_chainCost 17 = .ok (.getfield 46, 3) := by decide +kernel
theorem dX7_chainCost_20 : decode cX7_chainCost 20 = .ok (.iload_n 1, 1) := by decide +kernel
theorem dX7_chainCost_21 : decode cX7_chainCost 21 = .ok (.invokevirtual 258, 3) := by decide +kernel
theorem dX7_chainCost_24 : decode cX7_chainCost 24 = .ok (.aload_n 0, 1) := by decide +kernel
theorem dX7_chainCost_25 : decode cX7_chainCost 25 = .ok (.getfield 39, 3) := by decide +kernel
theorem dX7_chainCost_28 : decode cX7_chainCost 28 = .ok (.getfield 262, 3) := by decide +kernel
theorem dX7_chainCost_31 : decode cX7_chainCost 31 = .ok (.ifCond .eq 17, 3) := by decide +kernel
theorem dX7_chainCost_34 : decode cX7_chainCost 34 = .ok (.aload_n 0, 1) := by decide +kernel
theorem dX7_chainCost_35 : decode cX7_chainCost 35 = .ok (.getfield 39, 3) := by decide +kernel
theorem dX7_chainCost_38 : decode cX7_chainCost 38 = .ok (.getfield 263, 3) := by decide +kernel
theorem dX7_chainCost_41 : decode cX7_chainCost 41 = .ok (.sipush 10000, 3) := by decide +kernel
theorem dX7_chainCost_44 : decode cX7_chainCost 44 = .ok (.iadd, 1) := by decide +kernel
theorem dX7_chainCost_45 : decode cX7_chainCost 45 = .ok (.goto 6, 3) := by decide +kernel
theorem dX7_chainCost_48 : decode cX7_chainCost 48 = .ok (.sipush (-1005), 3) := by decide +kernel
theorem dX7_chainCost_51 : decode cX7_chainCost 51 = .ok (.ireturn, 1) := by decide +kernel
theorem dX7_chain_0 : decode cX7_chain 0 = .ok (.aload_n 0, 1) := by decide +kernel
theorem dX7_chain_1 : decode cX7_chain 1 = .ok (.iload_n 1, 1) := by decide +kernel
theorem dX7_chain_2 : decode cX7_chain 2 = .ok (.invokevirtual 245, 3) := by decide +kernel
theorem dX7_chain_5 : decode cX7_chain 5 = .ok (.istore_n 2, 1) := by decide +kernel
theorem dX7_chain_6 : decode cX7_chain 6 = .ok (.iload_n 2, 1) := by decide +kernel
theorem dX7_chain_7 : decode cX7_chain 7 = .ok (.ifCond .eq 5, 3) := by decide +kernel
theorem dX7_chain_10 : decode cX7_chain 10 = .ok (.iload_n 2, 1) := by decide +kernel
theorem dX7_chain_11 : decode cX7_chain 11 = .ok (.ireturn, 1) := by decide +kernel
theorem dX7_chain_12 : decode cX7_chain 12 = .ok (.aload_n 0, 1) := by decide +kernel
theorem dX7_chain_13 : decode cX7_chain 13 = .ok (.getfield 39, 3) := by decide +kernel
theorem dX7_chain_16 : decode cX7_chain 16 = .ok (.aload_n 0, 1) := by decide +kernel
theorem dX7_chain_17 : decode cX7_chain 17 = .ok (.getfield 46, 3) := by decide +kernel
theorem dX7_chain_20 : decode cX7_chain 20 = .ok (.iload_n 1, 1) := by decide +kernel
theorem dX7_chain_21 : decode cX7_chain 21 = .ok (.invokevirtual 258, 3) := by decide +kernel
theorem dX7_chain_24 : decode cX7_chain 24 = .ok (.aload_n 0, 1) := by decide +kernel
theorem dX7_chain_25 : decode cX7_chain 25 = .ok (.getfield 39, 3) := by decide +kernel
theorem dX7_chain_28 : decode cX7_chain 28 = .ok (.getfield 262, 3) := by decide +kernel
theorem dX7_chain_31 : decode cX7_chain 31 = .ok (.ifCond .ne 7, 3) := by decide +kernel
theorem dX7_chain_34 : decode cX7_chain 34 = .ok (.sipush (-1005), 3) := by decide +kernel
theorem dX7_chain_37 : decode cX7_chain 37 = .ok (.ireturn, 1) := by decide +kernel
theorem dX7_chain_38 : decode cX7_chain 38 = .ok (.aload_n 0, 1) := by decide +kernel
theorem dX7_chain_39 : decode cX7_chain 39 = .ok (.getfield 53, 3) := by decide +kernel
theorem dX7_chain_42 : decode cX7_chain 42 = .ok (.aload_n 0, 1) := by decide +kernel
theorem dX7_chain_43 : decode cX7_chain 43 = .ok (.getfield 46, 3) := by decide +kernel
theorem dX7_chain_46 : decode cX7_chain 46 = .ok (.invokevirtual 210, 3) := by decide +kernel
theorem dX7_chain_49 : decode cX7_chain 49 = .ok (.aload_n 0, 1) := by decide +kernel
theorem dX7_chain_50 : decode cX7_chain 50 = .ok (.getfield 46, 3) := by decide +kernel
theorem dX7_chain_53 : decode cX7_chain 53 = .ok (.aload_n 0, 1) := by decide +kernel
theorem dX7_chain_54 : decode cX7_chain 54 = .ok (.getfield 39, 3) := by decide +kernel
theorem dX7_chain_57 : decode cX7_chain 57 = .ok (.getfield 266, 3) := by decide +kernel
theorem dX7_chain_60 : decode cX7_chain 60 = .ok (.invokevirtual 269, 3) := by decide +kernel
theorem dX7_chain_63 : decode cX7_chain 63 = .ok (.bipush 100, 2) := by decide +kernel
theorem dX7_chain_65 : decode cX7_chain 65 = .ok (.aload_n 0, 1) := by decide +kernel
theorem dX7_chain_66 : decode cX7_chain 66 = .ok (.getfield 39, 3) := by decide +kernel
theorem dX7_chain_69 : decode cX7_chain 69 = .ok (.getfield 272, 3) := by decide +kernel
theorem dX7_chain_72 : decode cX7_chain 72 = .ok (.imul, 1) := by decide +kernel
theorem dX7_chain_73 : decode cX7_chain 73 = .ok (.aload_n 0, 1) := by decide +kernel
theorem dX7_chain_74 : decode cX7_chain 74 = .ok (.getfield 39, 3) := by decide +kernel
theorem dX7_chain_77 : decode cX7_chain 77 = .ok (.getfield 275, 3) := by decide +kernel
theorem dX7_chain_80 : decode cX7_chain 80 = .ok (.iadd, 1) := by decide +kernel
theorem dX7_chain_81 : decode cX7_chain 81 = .ok (.ireturn, 1) := by decide +kernel
theorem dX7_improve_0 : decode cX7_improve 0 = .ok (.aload_n 0, 1) := by decide +kernel
theorem dX7_improve_1 : decode cX7_improve 1 = .ok (.getfield 39, 3) := by decide +kernel
theorem dX7_improve_4 : decode cX7_improve 4 = .ok (.aload_n 0, 1) := by decide +kernel
theorem dX7_improve_5 : decode cX7_improve 5 = .ok (.getfield 46, 3) := by decide +kernel
theorem dX7_improve_8 : decode cX7_improve 8 = .ok (.invokevirtual 278, 3) := by decide +kernel
theorem dX7_improve_11 : decode cX7_improve 11 = .ok (.aload_n 0, 1) := by decide +kernel
theorem dX7_improve_12 : decode cX7_improve 12 = .ok (.getfield 39, 3) := by decide +kernel
theorem dX7_improve_15 : decode cX7_improve 15 = .ok (.getfield 262, 3) := by decide +kernel
theorem dX7_improve_18 : decode cX7_improve 18 = .ok (.ifCond .ne 7, 3) := by decide +kernel
theorem dX7_improve_21 : decode cX7_improve 21 = .ok (.sipush (-1007), 3) := by decide +kernel
theorem dX7_improve_24 : decode cX7_improve 24 = .ok (.ireturn, 1) := by decide +kernel
theorem dX7_improve_25 : decode cX7_improve 25 = .ok (.aload_n 0, 1) := by decide +kernel
theorem dX7_improve_26 : decode cX7_improve 26 = .ok (.getfield 53, 3) := by decide +kernel
theorem dX7_improve_29 : decode cX7_improve 29 = .ok (.aload_n 0, 1) := by decide +kernel
theorem dX7_improve_30 : decode cX7_improve 30 = .ok (.getfield 46, 3) := by decide +kernel
theorem dX7_improve_33 : decode cX7_improve 33 = .ok (.invokevirtual 210, 3) := by decide +kernel
theorem dX7_improve_36 : decode cX7_improve 36 = .ok (.aload_n 0, 1) := by decide +kernel
theorem dX7_improve_37 : decode cX7_improve 37 = .ok (.getfield 46, 3) := by decide +kernel
theorem dX7_improve_40 : decode cX7_improve 40 = .ok (.aload_n 0, 1) := by decide +kernel
theorem dX7_improve_41 : decode cX7_improve 41 = .ok (.getfield 39, 3) := by decide +kernel
theorem dX7_improve_44 : decode cX7_improve 44 = .ok (.getfield 266, 3) := by decide +kernel
theorem dX7_improve_47 : decode cX7_improve 47 = .ok (.invokevirtual 269, 3) := by decide +kernel
theorem dX7_improve_50 : decode cX7_improve 50 = .ok (.aload_n 0, 1) := by decide +kernel
theorem dX7_improve_51 : decode cX7_improve 51 = .ok (.getfield 39, 3) := by decide +kernel
theorem dX7_improve_54 : decode cX7_improve 54 = .ok (.getfield 263, 3) := by decide +kernel
theorem dX7_improve_57 : decode cX7_improve 57 = .ok (.ineg, 1) := by decide +kernel
theorem dX7_improve_58 : decode cX7_improve 58 = .ok (.ireturn, 1) := by decide +kernel
theorem dX7_undo_0 : decode cX7_undo 0 = .ok (.aload_n 0, 1) := by decide +kernel
theorem dX7_undo_1 : decode cX7_undo 1 = .ok (.getfield 53, 3) := by decide +kernel
theorem dX7_undo_4 : decode cX7_undo 4 = .ok (.getfield 135, 3) := by decide +kernel
theorem dX7_undo_7 : decode cX7_undo 7 = .ok (.ifCond .ne 7, 3) := by decide +kernel
theorem dX7_undo_10 : decode cX7_undo 10 = .ok (.sipush (-1007), 3) := by decide +kernel
theorem dX7_undo_13 : decode cX7_undo 13 = .ok (.ireturn, 1) := by decide +kernel
theorem dX7_undo_14 : decode cX7_undo 14 = .ok (.aload_n 0, 1) := by decide +kernel
theorem dX7_undo_15 : decode cX7_undo 15 = .ok (.getfield 53, 3) := by decide +kernel
theorem dX7_undo_18 : decode cX7_undo 18 = .ok (.aload_n 0, 1) := by decide +kernel
theorem dX7_undo_19 : decode cX7_undo 19 = .ok (.getfield 46, 3) := by decide +kernel
theorem dX7_undo_22 : decode cX7_undo 22 = .ok (.invokevirtual 281, 3) := by decide +kernel
theorem dX7_undo_25 : decode cX7_undo 25 = .ok (.aload_n 0, 1) := by decide +kernel
theorem dX7_undo_26 : decode cX7_undo 26 = .ok (.getfield 53, 3) := by decide +kernel
theorem dX7_undo_29 : decode cX7_undo 29 = .ok (.getfield 135, 3) := by decide +kernel
theorem dX7_undo_32 : decode cX7_undo 32 = .ok (.ireturn, 1) := by decide +kernel
theorem dX7_isPlace_0 : decode cX7_isPlace 0 = .ok (.iload_n 0, 1) := by decide +kernel
theorem dX7_isPlace_1 : decode cX7_isPlace 1 = .ok (.ifCond .lt 23, 3) := by decide +kernel
theorem dX7_isPlace_4 : decode cX7_isPlace 4 = .ok (.iload_n 0, 1) := by decide +kernel
theorem dX7_isPlace_5 : decode cX7_isPlace 5 = .ok (.bipush 99, 2) := by decide +kernel
theorem dX7_isPlace_7 : decode cX7_isPlace 7 = .ok (.if_icmp .gt 17, 3) := by decide +kernel
theorem dX7_isPlace_10 : decode cX7_isPlace 10 = .ok (.iload_n 1, 1) := by decide +kernel
theorem dX7_isPlace_11 : decode cX7_isPlace 11 = .ok (.ifCond .lt 13, 3) := by decide +kernel
theorem dX7_isPlace_14 : decode cX7_isPlace 14 = .ok (.iload_n 1, 1) := by decide +kernel
theorem dX7_isPlace_15 : decode cX7_isPlace 15 = .ok (.bipush 99, 2) := by decide +kernel
theorem dX7_isPlace_17 : decode cX7_isPlace 17 = .ok (.if_icmp .gt 7, 3) := by decide +kernel
theorem dX7_isPlace_20 : decode cX7_isPlace 20 = .ok (.iconst 1, 1) := by decide +kernel
theorem dX7_isPlace_21 : decode cX7_isPlace 21 = .ok (.goto 4, 3) := by decide +kernel
theorem dX7_isPlace_24 : decode cX7_isPlace 24 = .ok (.iconst 0, 1) := by decide +kernel
theorem dX7_isPlace_25 : decode cX7_isPlace 25 = .ok (.ireturn, 1) := by decide +kernel
theorem dX7_isLoad_0 : decode cX7_isLoad 0 = .ok (.iload_n 0, 1) := by decide +kernel
theorem dX7_isLoad_1 : decode cX7_isLoad 1 = .ok (.iconst 1, 1) := by decide +kernel
theorem dX7_isLoad_2 : decode cX7_isLoad 2 = .ok (.if_icmp .lt 13, 3) := by decide +kernel
theorem dX7_isLoad_5 : decode cX7_isLoad 5 = .ok (.iload_n 0, 1) := by decide +kernel
theorem dX7_isLoad_6 : decode cX7_isLoad 6 = .ok (.bipush 8, 2) := by decide +kernel
theorem dX7_isLoad_8 : decode cX7_isLoad 8 = .ok (.if_icmp .gt 7, 3) := by decide +kernel
theorem dX7_isLoad_11 : decode cX7_isLoad 11 = .ok (.iconst 1, 1) := by decide +kernel
theorem dX7_isLoad_12 : decode cX7_isLoad 12 = .ok (.goto 4, 3) := by decide +kernel
theorem dX7_isLoad_15 : decode cX7_isLoad 15 = .ok (.iconst 0, 1) := by decide +kernel
theorem dX7_isLoad_16 : decode cX7_isLoad 16 = .ok (.ireturn, 1) := by decide +kernel
theorem dX7_isLimit_0 : decode cX7_isLimit 0 = .ok (.iload_n 0, 1) := by decide +kernel
theorem dX7_isLimit_1 : decode cX7_isLimit 1 = .ok (.ifCond .lt 14, 3) := by decide +kernel
theorem dX7_isLimit_4 : decode cX7_isLimit 4 = .ok (.iload_n 0, 1) := by decide +kernel
theorem dX7_isLimit_5 : decode cX7_isLimit 5 = .ok (.sipush 1000, 3) := by decide +kernel
theorem dX7_isLimit_8 : decode cX7_isLimit 8 = .ok (.if_icmp .gt 7, 3) := by decide +kernel
theorem dX7_isLimit_11 : decode cX7_isLimit 11 = .ok (.iconst 1, 1) := by decide +kernel
theorem dX7_isLimit_12 : decode cX7_isLimit 12 = .ok (.goto 4, 3) := by decide +kernel
theorem dX7_isLimit_15 : decode cX7_isLimit 15 = .ok (.iconst 0, 1) := by decide +kernel
theorem dX7_isLimit_16 : decode cX7_isLimit 16 = .ok (.ireturn, 1) := by decide +kernel
theorem dX7_isWindow_0 : decode cX7_isWindow 0 = .ok (.iload_n 0, 1) := by decide +kernel
theorem dX7_isWindow_1 : decode cX7_isWindow 1 = .ok (.ifCond .lt 19, 3) := by decide +kernel
theorem dX7_isWindow_4 : decode cX7_isWindow 4 = .ok (.iload_n 0, 1) := by decide +kernel
theorem dX7_isWindow_5 : decode cX7_isWindow 5 = .ok (.iload_n 1, 1) := by decide +kernel
theorem dX7_isWindow_6 : decode cX7_isWindow 6 = .ok (.if_icmp .gt 14, 3) := by decide +kernel
theorem dX7_isWindow_9 : decode cX7_isWindow 9 = .ok (.iload_n 1, 1) := by decide +kernel
theorem dX7_isWindow_10 : decode cX7_isWindow 10 = .ok (.sipush 5000, 3) := by decide +kernel
theorem dX7_isWindow_13 : decode cX7_isWindow 13 = .ok (.if_icmp .gt 7, 3) := by decide +kernel
theorem dX7_isWindow_16 : decode cX7_isWindow 16 = .ok (.iconst 1, 1) := by decide +kernel
theorem dX7_isWindow_17 : decode cX7_isWindow 17 = .ok (.goto 4, 3) := by decide +kernel
theorem dX7_isWindow_20 : decode cX7_isWindow 20 = .ok (.iconst 0, 1) := by decide +kernel
theorem dX7_isWindow_21 : decode cX7_isWindow 21 = .ok (.ireturn, 1) := by decide +kernel
theorem dX7_isVehicle_0 : decode cX7_isVehicle 0 = .ok (.iload_n 1, 1) := by decide +kernel
theorem dX7_isVehicle_1 : decode cX7_isVehicle 1 = .ok (.ifCond .lt 18, 3) := by decide +kernel
theorem dX7_isVehicle_4 : decode cX7_isVehicle 4 = .ok (.iload_n 1, 1) := by decide +kernel
theorem dX7_isVehicle_5 : decode cX7_isVehicle 5 = .ok (.aload_n 0, 1) := by decide +kernel
theorem dX7_isVehicle_6 : decode cX7_isVehicle 6 = .ok (.getfield 22, 3) := by decide +kernel
theorem dX7_isVehicle_9 : decode cX7_isVehicle 9 = .ok (.getfield 68, 3) := by decide +kernel
theorem dX7_isVehicle_12 : decode cX7_isVehicle 12 = .ok (.if_icmp .ge 7, 3) := by decide +kernel
theorem dX7_isVehicle_15 : decode cX7_isVehicle 15 = .ok (.iconst 1, 1) := by decide +kernel
theorem dX7_isVehicle_16 : decode cX7_isVehicle 16 = .ok (.goto 4, 3) := by decide +kernel
theorem dX7_isVehicle_19 : decode cX7_isVehicle 19 = .ok (.iconst 0, 1) := by decide +kernel
theorem dX7_isVehicle_20 : decode cX7_isVehicle 20 = .ok (.ireturn, 1) := by decide +kernel
theorem dX7_isRequest_0 : decode cX7_isRequest 0 = .ok (.iload_n 1, 1) := by decide +kernel
theorem dX7_isRequest_1 : decode cX7_isRequest 1 = .ok (.ifCond .lt 18, 3) := by decide +kernel
theorem dX7_isRequest_4 : decode cX7_isRequest 4 = .ok (.iload_n 1, 1) := by decide +kernel
theorem dX7_isRequest_5 : decode cX7_isRequest 5 = .ok (.aload_n 0, 1) := by decide +kernel
theorem dX7_isRequest_6 : decode cX7_isRequest 6 = .ok (.getfield 22, 3) := by decide +kernel
theorem dX7_isRequest_9 : decode cX7_isRequest 9 = .ok (.getfield 92, 3) := by decide +kernel
theorem dX7_isRequest_12 : decode cX7_isRequest 12 = .ok (.if_icmp .ge 7, 3) := by decide +kernel
theorem dX7_isRequest_15 : decode cX7_isRequest 15 = .ok (.iconst 1, 1) := by decide +kernel
theorem dX7_isRequest_16 : decode cX7_isRequest 16 = .ok (.goto 4, 3) := by decide +kernel
theorem dX7_isRequest_19 : decode cX7_isRequest 19 = .ok (.iconst 0, 1) := by decide +kernel
theorem dX7_isRequest_20 : decode cX7_isRequest 20 = .ok (.ireturn, 1) := by decide +kernel
theorem dX7_isOpen_0 : decode cX7_isOpen 0 = .ok (.aload_n 0, 1) := by decide +kernel
theorem dX7_isOpen_1 : decode cX7_isOpen 1 = .ok (.getfield 46, 3) := by decide +kernel
theorem dX7_isOpen_4 : decode cX7_isOpen 4 = .ok (.getfield 141, 3) := by decide +kernel
theorem dX7_isOpen_7 : decode cX7_isOpen 7 = .ok (.iload_n 1, 1) := by decide +kernel
theorem dX7_isOpen_8 : decode cX7_isOpen 8 = .ok (.iaload, 1) := by decide +kernel
theorem dX7_isOpen_9 : decode cX7_isOpen 9 = .ok (.iconst (-1), 1) := by decide +kernel
theorem dX7_isOpen_10 : decode cX7_isOpen 10 = .ok (.if_icmp .ne 7, 3) := by decide +kernel
theorem dX7_isOpen_13 : decode cX7_isOpen 13 = .ok (.iconst 1, 1) := by decide +kernel
theorem dX7_isOpen_14 : decode cX7_isOpen 14 = .ok (.goto 4, 3) := by decide +kernel
theorem dX7_isOpen_17 : decode cX7_isOpen 17 = .ok (.iconst 0, 1) := by decide +kernel
theorem dX7_isOpen_18 : decode cX7_isOpen 18 = .ok (.ireturn, 1) := by decide +kernel
theorem dX7_openRequests_0 : decode cX7_openRequests 0 = .ok (.iconst 0, 1) := by decide +kernel
theorem dX7_openRequests_1 : decode cX7_openRequests 1 = .ok (.istore_n 1, 1) := by decide +kernel
theorem dX7_openRequests_2 : decode cX7_openRequests 2 = .ok (.iconst 0, 1) := by decide +kernel
theorem dX7_openRequests_3 : decode cX7_openRequests 3 = .ok (.istore_n 2, 1) := by decide +kernel
theorem dX7_openRequests_4 : decode cX7_openRequests 4 = .ok (.iload_n 2, 1) := by decide +kernel
theorem dX7_openRequests_5 : decode cX7_openRequests 5 = .ok (.aload_n 0, 1) := by decide +kernel
theorem dX7_openRequests_6 : decode cX7_openRequests 6 = .ok (.getfield 22, 3) := by decide +kernel
theorem dX7_openRequests_9 : decode cX7_openRequests 9 = .ok (.getfield 92, 3) := by decide +kernel
theorem dX7_openRequests_12 : decode cX7_openRequests 12 = .ok (.if_icmp .ge 20, 3) := by decide +kernel
theorem dX7_openRequests_15 : decode cX7_openRequests 15 = .ok (.aload_n 0, 1) := by decide +kernel
theorem dX7_openRequests_16 : decode cX7_openRequests 16 = .ok (.iload_n 2, 1) := by decide +kernel
theorem dX7_openRequests_17 : decode cX7_openRequests 17 = .ok (.invokevirtual 138, 3) := by decide +kernel
theorem dX7_openRequests_20 : decode cX7_openRequests 20 = .ok (.ifCond .eq 6, 3) := by decide +kernel
theorem dX7_openRequests_23 : decode cX7_openRequests 23 = .ok (.iinc 1 1, 3) := by decide +kernel
theorem dX7_openRequests_26 : decode cX7_openRequests 26 = .ok (.iinc 2 1, 3) := by decide +kernel
theorem dX7_openRequests_29 : decode cX7_openRequests 29 = .ok (.goto (-25), 3) := by decide +kernel
theorem dX7_openRequests_32 : decode cX7_openRequests 32 = .ok (.iload_n 1, 1) := by decide +kernel
theorem dX7_openRequests_33 : decode cX7_openRequests 33 = .ok (.ireturn, 1) := by decide +kernel
theorem dX7_routeStillFits_0 : decode cX7_routeStillFits 0 = .ok (.aload_n 0, 1) := by decide +kernel
theorem dX7_routeStillFits_1 : decode cX7_routeStillFits 1 = .ok (.iload_n 1, 1) := by decide +kernel
theorem dX7_routeStillFits_2 : decode cX7_routeStillFits 2 = .ok (.invokevirtual 138, 3) := by decide +kernel
theorem dX7_routeStillFits_5 : decode cX7_routeStillFits 5 = .ok (.ifCond .ne 30, 3) := by decide +kernel
theorem dX7_routeStillFits_8 : decode cX7_routeStillFits 8 = .ok (.aload_n 0, 1) := by decide +kernel
theorem dX7_routeStillFits_9 : decode cX7_routeStillFits 9 = .ok (.getfield 26, 3) := by decide +kernel
theorem dX7_routeStillFits_12 : decode cX7_routeStillFits 12 = .ok (.aload_n 0, 1) := by decide +kernel
theorem dX7_routeStillFits_13 : decode cX7_routeStillFits 13 = .ok (.getfield 46, 3) := by decide +kernel
theorem dX7_routeStillFits_16 : decode cX7_routeStillFits 16 = .ok (.getfield 151, 3) := by decide +kernel
theorem dX7_routeStillFits_19 : decode cX7_routeStillFits 19 = .ok (.aload_n 0, 1) := by decide +kernel
theorem dX7_routeStillFits_20 : decode cX7_routeStillFits 20 = .ok (.getfield 46, 3) := by decide +kernel
theorem dX7_routeStillFits_23 : decode cX7_routeStillFits 23 = .ok (.getfield 141, 3) := by decide +kernel
theorem dX7_routeStillFits_26 : decode cX7_routeStillFits 26 = .ok (.iload_n 1, 1) := by decide +kernel
theorem dX7_routeStillFits_27 : decode cX7_routeStillFits 27 = .ok (.iaload, 1) := by decide +kernel
theorem dX7_routeStillFits_28 : decode cX7_routeStillFits 28 = .ok (.aaload, 1) := by decide +kernel
theorem dX7_routeStillFits_29 : decode cX7_routeStillFits 29 = .ok (.invokevirtual 176, 3) := by decide +kernel
theorem dX7_routeStillFits_32 : decode cX7_routeStillFits 32 = .ok (.ifCond .eq 7, 3) := by decide +kernel
theorem dX7_routeStillFits_35 : decode cX7_routeStillFits 35 = .ok (.iconst 1, 1) := by decide +kernel
theorem dX7_routeStillFits_36 : decode cX7_routeStillFits 36 = .ok (.goto 4, 3) := by decide +kernel
theorem dX7_routeStillFits_39 : decode cX7_routeStillFits 39 = .ok (.iconst 0, 1) := by decide +kernel
theorem dX7_routeStillFits_40 : decode cX7_routeStillFits 40 = .ok (.ireturn, 1) := by decide +kernel
theorem dX7_allRoutesStillFit_0 : decode cX7_allRoutesStillFit 0 = .ok (.iconst 0, 1) := by decide +kernel
theorem dX7_allRoutesStillFit_1 : decode cX7_allRoutesStillFit 1 = .ok (.istore_n 1, 1) := by decide +kernel
theorem dX7_allRoutesStillFit_2 : decode cX7_allRoutesStillFit 2 = .ok (.iload_n 1, 1) := by decide +kernel
theorem dX7_allRoutesStillFit_3 : decode cX7_allRoutesStillFit 3 = .ok (.aload_n 0, 1) := by decide +kernel
theorem dX7_allRoutesStillFit_4 : decode cX7_allRoutesStillFit 4 = .ok (.getfield 22, 3) := by decide +kernel
theorem dX7_allRoutesStillFit_7 : decode cX7_allRoutesStillFit 7 = .ok (.getfield 68, 3) := by decide +kernel
theorem dX7_allRoutesStillFit_10 : decode cX7_allRoutesStillFit 10 = .ok (.if_icmp .ge 30, 3) := by decide +kernel
theorem dX7_allRoutesStillFit_13 : decode cX7_allRoutesStillFit 13 = .ok (.aload_n 0, 1) := by decide +kernel
theorem dX7_allRoutesStillFit_14 : decode cX7_allRoutesStillFit 14 = .ok (.getfield 26, 3) := by decide +kernel
theorem dX7_allRoutesStillFit_17 : decode cX7_allRoutesStillFit 17 = .ok (.aload_n 0, 1) := by decide +kernel
theorem dX7_allRoutesStillFit_18 : decode cX7_allRoutesStillFit 18 = .ok (.getfield 46, 3) := by decide +kernel
theorem dX7_allRoutesStillFit_21 : decode cX7_allRoutesStillFit 21 = .ok (.getfield 151, 3) := by decide +kernel
theorem dX7_allRoutesStillFit_24 : decode cX7_allRoutesStillFit 24 = .ok (.iload_n 1, 1) := by decide +kernel
theorem dX7_allRoutesStillFit_25 : decode cX7_allRoutesStillFit 25 = .ok (.aaload, 1) := by decide +kernel
theorem dX7_allRoutesStillFit_26 : decode cX7_allRoutesStillFit 26 = .ok (.invokevirtual 176, 3) := by decide +kernel
theorem dX7_allRoutesStillFit_29 : decode cX7_allRoutesStillFit 29 = .ok (.ifCond .ne 5, 3) := by decide +kernel
theorem dX7_allRoutesStillFit_32 : decode cX7_allRoutesStillFit 32 = .ok (.iconst 0, 1) := by decide +kernel
theorem dX7_allRoutesStillFit_33 : decode cX7_allRoutesStillFit 33 = .ok (.ireturn, 1) := by decide +kernel
theorem dX7_allRoutesStillFit_34 : decode cX7_allRoutesStillFit 34 = .ok (.iinc 1 1, 3) := by decide +kernel
theorem dX7_allRoutesStillFit_37 : decode cX7_allRoutesStillFit 37 = .ok (.goto (-35), 3) := by decide +kernel
theorem dX7_allRoutesStillFit_40 : decode cX7_allRoutesStillFit 40 = .ok (.iconst 1, 1) := by decide +kernel
theorem dX7_allRoutesStillFit_41 : decode cX7_allRoutesStillFit 41 = .ok (.ireturn, 1) := by decide +kernel
theorem dX7_openRequestError_0 : decode cX7_openRequestError 0 = .ok (.aload_n 0, 1) := by decide +kernel
theorem dX7_openRequestError_1 : decode cX7_openRequestError 1 = .ok (.iload_n 1, 1) := by decide +kernel
theorem dX7_openRequestError_2 : decode cX7_openRequestError 2 = .ok (.invokevirtual 105, 3) := by decide +kernel
theorem dX7_openRequestError_5 : decode cX7_openRequestError 5 = .ok (.ifCond .ne 7, 3) := by decide +kernel
theorem dX7_openRequestError_8 : decode cX7_openRequestError 8 = .ok (.sipush (-1001), 3) := by decide +kernel
theorem dX7_openRequestError_11 : decode cX7_openRequestError 11 = .ok (.ireturn, 1) := by decide +kernel
theorem dX7_openRequestError_12 : decode cX7_openRequestError 12 = .ok (.aload_n 0, 1) := by decide +kernel
theorem dX7_openRequestError_13 : decode cX7_openRequestError 13 = .ok (.iload_n 1, 1) := by decide +kernel
theorem dX7_openRequestError_14 : decode cX7_openRequestError 14 = .ok (.invokevirtual 138, 3) := by decide +kernel
theorem dX7_openRequestError_17 : decode cX7_openRequestError 17 = .ok (.ifCond .eq 7, 3) := by decide +kernel
theorem dX7_openRequestError_20 : decode cX7_openRequestError 20 = .ok (.iconst 0, 1) := by decide +kernel
theorem dX7_openRequestError_21 : decode cX7_openRequestError 21 = .ok (.goto 6, 3) := by decide +kernel
theorem dX7_openRequestError_24 : decode cX7_openRequestError 24 = .ok (.sipush (-1003), 3) := by decide +kernel
theorem dX7_openRequestError_27 : decode cX7_openRequestError 27 = .ok (.ireturn, 1) := by decide +kernel
theorem dX7_openRequestError__0 : decode cX7_openRequestError_ 0 = .ok (.aload_n 0, 1) := by decide +kernel
theorem dX7_openRequestError__1 : decode cX7_openRequestError_ 1 = .ok (.iload_n 2, 1) := by decide +kernel
theorem dX7_openRequestError__2 : decode cX7_openRequestError_ 2 = .ok (.invokevirtual 148, 3) := by decide +kernel
theorem dX7_openRequestError__5 : decode cX7_openRequestError_ 5 = .ok (.ifCond .eq 11, 3) := by decide +kernel
theorem dX7_openRequestError__8 : decode cX7_openRequestError_ 8 = .ok (.aload_n 0, 1) := by decide +kernel
theorem dX7_openRequestError__9 : decode cX7_openRequestError_ 9 = .ok (.iload_n 1, 1) := by decide +kernel
theorem dX7_openRequestError__10 : decode cX7_openRequestError_ 10 = .ok (.invokevirtual 245, 3) := by decide +kernel
theorem dX7_openRequestError__13 : decode cX7_openRequestError_ 13 = .ok (.goto 6, 3) := by decide +kernel
theorem dX7_openRequestError__16 : decode cX7_openRequestError_ 16 = .ok (.sipush (-1001), 3) := by decide +kernel
theorem dX7_openRequestError__19 : decode cX7_openRequestError_ 19 = .ok (.ireturn, 1) := by decide +kernel
theorem dX7_insertionError_0 : decode cX7_insertionError 0 = .ok (.aload_n 0, 1) := by decide +kernel
theorem dX7_insertionError_1 : decode cX7_insertionError 1 = .ok (.iload_n 1, 1) := by decide +kernel
theorem dX7_insertionError_2 : decode cX7_insertionError 2 = .ok (.invokevirtual 105, 3) := by decide +kernel
theorem dX7_insertionError_5 : decode cX7_insertionError 5 = .ok (.ifCond .eq 11, 3) := by decide +kernel
theorem dX7_insertionError_8 : decode cX7_insertionError 8 = .ok (.aload_n 0, 1) := by decide +kernel
theorem dX7_insertionError_9 : decode cX7_insertionError 9 = .ok (.iload_n 2, 1) := by decide +kernel
theorem dX7_insertionError_10 : decode cX7_insertionError 10 = .ok (.invokevirtual 148, 3) := by decide +kernel
theorem dX7_insertionError_13 : decode cX7_insertionError 13 = .ok (.ifCond .ne 7, 3) := by decide +kernel
theorem dX7_insertionError_16 : decode cX7_insertionError 16 = .ok (.sipush (-1001), 3) := by decide +kernel
theorem dX7_insertionError_19 : decode cX7_insertionError 19 = .ok (.ireturn, 1) := by decide +kernel
theorem dX7_insertionError_20 : decode cX7_insertionError 20 = .ok (.aload_n 0, 1) := by decide +kernel
theorem dX7_insertionError_21 : decode cX7_insertionError 21 = .ok (.getfield 46, 3) := by decide +kernel
theorem dX7_insertionError_24 : decode cX7_insertionError 24 = .ok (.getfield 151, 3) := by decide +kernel
theorem dX7_insertionError_27 : decode cX7_insertionError 27 = .ok (.iload_n 2, 1) := by decide +kernel
theorem dX7_insertionError_28 : decode cX7_insertionError 28 = .ok (.aaload, 1) := by decide +kernel
theorem dX7_insertionError_29 : decode cX7_insertionError 29 = .ok (.astore 5, 2) := by decide +kernel
theorem dX7_insertionError_31 : decode cX7_insertionError 31 = .ok (.iload_n 3, 1) := by decide +kernel
theorem dX7_insertionError_32 : decode cX7_insertionError 32 = .ok (.ifCond .lt 21, 3) := by decide +kernel
theorem dX7_insertionError_35 : decode cX7_insertionError 35 = .ok (.iload 4, 2) := by decide +kernel
theorem dX7_insertionError_37 : decode cX7_insertionError 37 = .ok (.iload_n 3, 1) := by decide +kernel
theorem dX7_insertionError_38 : decode cX7_insertionError 38 = .ok (.if_icmp .le 15, 3) := by decide +kernel
theorem dX7_insertionError_41 : decode cX7_insertionError 41 = .ok (.iload 4, 2) := by decide +kernel
theorem dX7_insertionError_43 : decode cX7_insertionError 43 = .ok (.aload 5, 2) := by decide +kernel
theorem dX7_insertionError_45 : decode cX7_insertionError 45 = .ok (.getfield 155, 3) := by decide +kernel
theorem dX7_insertionError_48 : decode cX7_insertionError 48 = .ok (.iconst 1, 1) := by decide +kernel
theorem dX7_insertionError_49 : decode cX7_insertionError 49 = .ok (.iadd, 1) := by decide +kernel
theorem dX7_insertionError_50 : decode cX7_insertionError 50 = .ok (.if_icmp .le 7, 3) := by decide +kernel
theorem dX7_insertionError_53 : decode cX7_insertionError 53 = .ok (.sipush (-1002), 3) := by decide +kernel
theorem dX7_insertionError_56 : decode cX7_insertionError 56 = .ok (.ireturn, 1) := by decide +kernel
theorem dX7_insertionError_57 : decode cX7_insertionError 57 = .ok (.aload_n 0, 1) := by decide +kernel
theorem dX7_insertionError_58 : decode cX7_insertionError 58 = .ok (.iload_n 1, 1) := by decide +kernel
theorem dX7_insertionError_59 : decode cX7_insertionError 59 = .ok (.invokevirtual 138, 3) := by decide +kernel
theorem dX7_insertionError_62 : decode cX7_insertionError 62 = .ok (.ifCond .ne 7, 3) := by decide +kernel
theorem dX7_insertionError_65 : decode cX7_insertionError 65 = .ok (.sipush (-1003), 3) := by decide +kernel
theorem dX7_insertionError_68 : decode cX7_insertionError 68 = .ok (.ireturn, 1) := by decide +kernel
theorem dX7_insertionError_69 : decode cX7_insertionError 69 = .ok (.aload_n 0, 1) := by decide +kernel
theorem dX7_insertionError_70 : decode cX7_insertionError 70 = .ok (.getfield 26, 3) := by decide +kernel
theorem dX7_insertionError_73 : decode cX7_insertionError 73 = .ok (.aload_n 0, 1) := by decide +kernel
theorem dX7_insertionError_74 : decode cX7_insertionError 74 = .ok (.getfield 30, 3) := by decide +kernel
theorem dX7_insertionError_77 : decode cX7_insertionError 77 = .ok (.aload 5, 2) := by decide +kernel
theorem dX7_insertionError_79 : decode cX7_insertionError 79 = .ok (.iload_n 1, 1) := by decide +kernel
theorem dX7_insertionError_80 : decode cX7_insertionError 80 = .ok (.iload_n 3, 1) := by decide +kernel
theorem dX7_insertionError_81 : decode cX7_insertionError 81 = .ok (.iload 4, 2) := by decide +kernel
theorem dX7_insertionError_83 : decode cX7_insertionError 83 = .ok (.invokevirtual 284, 3) := by decide +kernel
theorem dX7_insertionError_86 : decode cX7_insertionError 86 = .ok (.invokevirtual 176, 3) := by decide +kernel
theorem dX7_insertionError_89 : decode cX7_insertionError 89 = .ok (.ifCond .eq 7, 3) := by decide +kernel
theorem dX7_insertionError_92 : decode cX7_insertionError 92 = .ok (.iconst 0, 1) := by decide +kernel
theorem dX7_insertionError_93 : decode cX7_insertionError 93 = .ok (.goto 6, 3) := by decide +kernel
theorem dX7_insertionError_96 : decode cX7_insertionError 96 = .ok (.sipush (-1005), 3) := by decide +kernel
theorem dX7_insertionError_99 : decode cX7_insertionError 99 = .ok (.ireturn, 1) := by decide +kernel
theorem dX7_carryOutInsertion_0 : decode cX7_carryOutInsertion 0 = .ok (.aload_n 0, 1) := by decide +kernel
theorem dX7_carryOutInsertion_1 : decode cX7_carryOutInsertion 1 = .ok (.getfield 30, 3) := by decide +kernel
theorem dX7_carryOutInsertion_4 : decode cX7_carryOutInsertion 4 = .ok (.getfield 229, 3) := by decide +kernel
theorem dX7_carryOutInsertion_7 : decode cX7_carryOutInsertion 7 = .ok (.ifCond .ne 5, 3) := by decide +kernel
theorem dX7_carryOutInsertion_10 : decode cX7_carryOutInsertion 10 = .ok (.iconst 0, 1) := by decide +kernel
theorem dX7_carryOutInsertion_11 : decode cX7_carryOutInsertion 11 = .ok (.ireturn, 1) := by decide +kernel
theorem dX7_carryOutInsertion_12 : decode cX7_carryOutInsertion 12 = .ok (.aload_n 0, 1) := by decide +kernel
theorem dX7_carryOutInsertion_13 : decode cX7_carryOutInsertion 13 = .ok (.getfield 53, 3) := by decide +kernel
theorem dX7_carryOutInsertion_16 : decode cX7_carryOutInsertion 16 = .ok (.aload_n 0, 1) := by decide +kernel
theorem dX7_carryOutInsertion_17 : decode cX7_carryOutInsertion 17 = .ok (.getfield 46, 3) := by decide +kernel
theorem dX7_carryOutInsertion_20 : decode cX7_carryOutInsertion 20 = .ok (.invokevirtual 210, 3) := by decide +kernel
theorem dX7_carryOutInsertion_23 : decode cX7_carryOutInsertion 23 = .ok (.aload_n 0, 1) := by decide +kernel
theorem dX7_carryOutInsertion_24 : decode cX7_carryOutInsertion 24 = .ok (.getfield 30, 3) := by decide +kernel
theorem dX7_carryOutInsertion_27 : decode cX7_carryOutInsertion 27 = .ok (.aload_n 0, 1) := by decide +kernel
theorem dX7_carryOutInsertion_28 : decode cX7_carryOutInsertion 28 = .ok (.getfield 46, 3) := by decide +kernel
theorem dX7_carryOutInsertion_31 : decode cX7_carryOutInsertion 31 = .ok (.iload_n 1, 1) := by decide +kernel
theorem dX7_carryOutInsertion_32 : decode cX7_carryOutInsertion 32 = .ok (.invokevirtual 288, 3) := by decide +kernel
theorem dX7_carryOutInsertion_35 : decode cX7_carryOutInsertion 35 = .ok (.ireturn, 1) := by decide +kernel
end
section
theorem dX8_init_0 : decode cX8_init 0 = .ok (.aload_n 0, 1) := by decide +kernel
theorem dX8_init_1 : decode cX8_init 1 = .ok (.invokespecial 1, 3) := by decide +kernel
theorem dX8_init_4 : decode cX8_init 4 = .ok (.aload_n 0, 1) := by decide +kernel
theorem dX8_init_5 : decode cX8_init 5 = .ok (.iconst 4, 1) := by decide +kernel
theorem dX8_init_6 : decode cX8_init 6 = .ok (.newarray .int, 2) := by decide +kernel
theorem dX8_init_8 : decode cX8_init 8 = .ok (.putfield 7, 3) := by decide +kernel
theorem dX8_init_11 : decode cX8_init 11 = .ok (.aload_n 0, 1) := by decide +kernel
theorem dX8_init_12 : decode cX8_init 12 = .ok (.iconst 4, 1) := by decide +kernel
theorem dX8_init_13 : decode cX8_init 13 = .ok (.newarray .int, 2) := by decide +kernel
theorem dX8_init_15 : decode cX8_init 15 = .ok (.putfield 13, 3) := by decide +kernel
theorem dX8_init_18 : decode cX8_init 18 = .ok (.aload_n 0, 1) := by decide +kernel
theorem dX8_init_19 : decode cX8_init 19 = .ok (.iconst 4, 1) := by decide +kernel
theorem dX8_init_20 : decode cX8_init 20 = .ok (.newarray .int, 2) := by decide +kernel
theorem dX8_init_22 : decode cX8_init 22 = .ok (.putfield 16, 3) := by decide +kernel
theorem dX8_init_25 : decode cX8_init 25 = .ok (.aload_n 0, 1) := by decide +kernel
theorem dX8_init_26 : decode cX8_init 26 = .ok (.iconst 4, 1) := by decide +kernel
theorem dX8_init_27 : decode cX8_init 27 = .ok (.newarray .int, 2) := by decide +kernel
theorem dX8_init_29 : decode cX8_init 29 = .ok (.putfield 19, 3) := by decide +kernel
theorem dX8_init_32 : decode cX8_init 32 = .ok (.aload_n 0, 1) := by decide +kernel
theorem dX8_init_33 : decode cX8_init 33 = .ok (.iconst 4, 1) := by decide +kernel
theorem dX8_init_34 : decode cX8_init 34 = .ok (.newarray .int, 2) := by decide +kernel
theorem dX8_init_36 : decode cX8_init 36 = .ok (.putfield 22, 3) := by decide +kernel
theorem dX8_init_39 : decode cX8_init 39 = .ok (.aload_n 0, 1) := by decide +kernel
theorem dX8_init_40 : decode cX8_init 40 = .ok (.bipush 24, 2) := by decide +kernel
theorem dX8_init_42 : decode cX8_init 42 = .ok (.newarray .int, 2) := by decide +kernel
theorem dX8_init_44 : decode cX8_init 44 = .ok (.putfield 25, 3) := by decide +kernel
theorem dX8_init_47 : decode cX8_init 47 = .ok (.aload_n 0, 1) := by decide +kernel
theorem dX8_init_48 : decode cX8_init 48 = .ok (.bipush 24, 2) := by decide +kernel
theorem dX8_init_50 : decode cX8_init 50 = .ok (.newarray .int, 2) := by decide +kernel
theorem dX8_init_52 : decode cX8_init 52 = .ok (.putfield 28, 3) := by decide +kernel
theorem dX8_init_55 : decode cX8_init 55 = .ok (.aload_n 0, 1) := by decide +kernel
theorem dX8_init_56 : decode cX8_init 56 = .ok (.bipush 24, 2) := by decide +kernel
theorem dX8_init_58 : decode cX8_init 58 = .ok (.newarray .int, 2) := by decide +kernel
theorem dX8_init_60 : decode cX8_init 60 = .ok (.putfield 31, 3) := by decide +kernel
theorem dX8_init_63 : decode cX8_init 63 = .ok (.aload_n 0, 1) := by decide +kernel
theorem dX8_init_64 : decode cX8_init 64 = .ok (.bipush 24, 2) := by decide +kernel
theorem dX8_init_66 : decode cX8_init 66 = .ok (.newarray .int, 2) := by decide +kernel
theorem dX8_init_68 : decode cX8_init 68 = .ok (.putfield 34, 3) := by decide +kernel
theorem dX8_init_71 : decode cX8_init 71 = .ok (.aload_n 0, 1) := by decide +kernel
theorem dX8_init_72 : decode cX8_init 72 = .ok (.bipush 12, 2) := by decide +kernel
theorem dX8_init_74 : decode cX8_init 74 = .ok (.newarray .int, 2) := by decide +kernel
theorem dX8_init_76 : decode cX8_init 76 = .ok (.putfield 37, 3) := by decide +kernel
theorem dX8_init_79 : decode cX8_init 79 = .ok (.aload_n 0, 1) := by decide +kernel
theorem dX8_init_80 : decode cX8_init 80 = .ok (.bipush 12, 2) := by decide +kernel
theorem dX8_init_82 : decode cX8_init 82 = .ok (.newarray .int, 2) := by decide +kernel
theorem dX8_init_84 : decode cX8_init 84 = .ok (.putfield 40, 3) := by decide +kernel
theorem dX8_init_87 : decode cX8_init 87 = .ok (.aload_n 0, 1) := by decide +kernel
theorem dX8_init_88 : decode cX8_init 88 = .ok (.bipush 100, 2) := by decide +kernel
theorem dX8_init_90 : decode cX8_init 90 = .ok (.newarray .int, 2) := by decide +kernel
theorem dX8_init_92 : decode cX8_init 92 = .ok (.putfield 43, 3) := by decide +kernel
theorem dX8_init_95 : decode cX8_init 95 = .ok (.aload_n 0, 1) := by decide +kernel
theorem dX8_init_96 : decode cX8_init 96 = .ok (.bipush 26, 2) := by decide +kernel
theorem dX8_init_98 : decode cX8_init 98 = .ok (.newarray .int, 2) := by decide +kernel
theorem dX8_init_100 : decode cX8_init 100 = .ok (.putfield 46, 3) := by decide +kernel
theorem dX8_init_103 : decode cX8_init 103 = .ok (.aload_n 0, 1) := by decide +kernel
theorem dX8_init_104 : decode cX8_init 104 = .ok (.bipush 26, 2) := by decide +kernel
theorem dX8_init_106 : decode cX8_init 106 = .ok (.newarray .int, 2) := by decide +kernel
theorem dX8_init_108 : decode cX8_init 108 = .ok (.putfield 49, 3) := by decide +kernel
theorem dX8_init_111 : decode cX8_init 111 = .ok (.aload_n 0, 1) := by decide +kernel
theorem dX8_init_112 : decode cX8_init 112 = .ok (.bipush 26, 2) := by decide +kernel
theorem dX8_init_114 : decode cX8_init 114 = .ok (.newarray .int, 2) := by decide +kernel
theorem dX8_init_116 : decode cX8_init 116 = .ok (.putfield 52, 3) := by decide +kernel
theorem dX8_init_119 : decode cX8_init 119 = .ok (.aload_n 0, 1) := by decide +kernel
theorem dX8_init_120 : decode cX8_init 120 = .ok (.sipush 1000, 3) := by decide +kernel
theorem dX8_init_123 : decode cX8_init 123 = .ok (.newarray .int, 2) := by decide +kernel
theorem dX8_init_125 : decode cX8_init 125 = .ok (.putfield 55, 3) := by decide +kernel
theorem dX8_init_128 : decode cX8_init 128 = .ok (.aload_n 0, 1) := by decide +kernel
theorem dX8_init_129 : decode cX8_init 129 = .ok (.bipush 100, 2) := by decide +kernel
theorem dX8_init_131 : decode cX8_init 131 = .ok (.newarray .int, 2) := by decide +kernel
theorem dX8_init_133 : decode cX8_init 133 = .ok (.putfield 58, 3) := by decide +kernel
theorem dX8_init_136 : decode cX8_init 136 = .ok (.aload_n 0, 1) := by decide +kernel
theorem dX8_init_137 : decode cX8_init 137 = .ok (.iconst 1, 1) := by decide +kernel
theorem dX8_init_138 : decode cX8_init 138 = .ok (.putfield 61, 3) := by decide +kernel
theorem dX8_init_141 : decode cX8_init 141 = .ok (.return_, 1) := by decide +kernel
theorem dX8_in_0 : decode cX8_in 0 = .ok (.iload_n 0, 1) := by decide +kernel
theorem dX8_in_1 : decode cX8_in 1 = .ok (.iload_n 1, 1) := by decide +kernel
theorem dX8_in_2 : decode cX8_in 2 = .ok (.if_icmp .lt 12, 3) := by decide +kernel
theorem dX8_in_5 : decode cX8_in 5 = .ok (.iload_n 0, 1) := by decide +kernel
theorem dX8_in_6 : decode cX8_in 6 = .ok (.iload_n 2, 1) := by decide +kernel
theorem dX8_in_7 : decode cX8_in 7 = .ok (.if_icmp .gt 7, 3) := by decide +kernel
theorem dX8_in_10 : decode cX8_in 10 = .ok (.iconst 1, 1) := by decide +kernel
theorem dX8_in_11 : decode cX8_in 11 = .ok (.goto 4, 3) := by decide +kernel
theorem dX8_in_14 : decode cX8_in 14 = .ok (.iconst 0, 1) := by decide +kernel
theorem dX8_in_15 : decode cX8_in 15 = .ok (.ireturn, 1) := by decide +kernel
theorem dX8_size_0 : decode cX8_size 0 = .ok (.iload_n 0, 1) := by decide +kernel
theorem dX8_size_1 : decode cX8_size 1 = .ok (.ifCond .ge 8, 3) := by decide +kernel
theorem dX8_size_4 : decode cX8_size 4 = .ok (.iload_n 0, 1) := by decide +kernel
theorem dX8_size_5 : decode cX8_size 5 = .ok (.ineg, 1) := by decide +kernel
theorem dX8_size_6 : decode cX8_size 6 = .ok (.goto 4, 3) := by decide +kernel
theorem dX8_size_9 : decode cX8_size 9 = .ok (.iload_n 0, 1) := by decide +kernel
theorem dX8_size_10 : decode cX8_size 10 = .ok (.ireturn, 1) := by decide +kernel
theorem dX8_isPlace_0 : decode cX8_isPlace 0 = .ok (.iload_n 0, 1) := by decide +kernel
theorem dX8_isPlace_1 : decode cX8_isPlace 1 = .ok (.iconst 0, 1) := by decide +kernel
theorem dX8_isPlace_2 : decode cX8_isPlace 2 = .ok (.bipush 99, 2) := by decide +kernel
theorem dX8_isPlace_4 : decode cX8_isPlace 4 = .ok (.invokestatic 65, 3) := by decide +kernel
theorem dX8_isPlace_7 : decode cX8_isPlace 7 = .ok (.ifCond .eq 17, 3) := by decide +kernel
theorem dX8_isPlace_10 : decode cX8_isPlace 10 = .ok (.iload_n 1, 1) := by decide +kernel
theorem dX8_isPlace_11 : decode cX8_isPlace 11 = .ok (.iconst 0, 1) := by decide +kernel
theorem dX8_isPlace_12 : decode cX8_isPlace 12 = .ok (.bipush 99, 2) := by decide +kernel
theorem dX8_isPlace_14 : decode cX8_isPlace 14 = .ok (.invokestatic 65, 3) := by decide +kernel
theorem dX8_isPlace_17 : decode cX8_isPlace 17 = .ok (.ifCond .eq 7, 3) := by decide +kernel
theorem dX8_isPlace_20 : decode cX8_isPlace 20 = .ok (.iconst 1, 1) := by decide +kernel
theorem dX8_isPlace_21 : decode cX8_isPlace 21 = .ok (.goto 4, 3) := by decide +kernel
theorem dX8_isPlace_24 : decode cX8_isPlace 24 = .ok (.iconst 0, 1) := by decide +kernel
theorem dX8_isPlace_25 : decode cX8_isPlace 25 = .ok (.ireturn, 1) := by decide +kernel
theorem dX8_noVehicle_0 : decode cX8_noVehicle 0 = .ok (.iload_n 1, 1) := by decide +kernel
theorem dX8_noVehicle_1 : decode cX8_noVehicle 1 = .ok (.iconst 0, 1) := by decide +kernel
theorem dX8_noVehicle_2 : decode cX8_noVehicle 2 = .ok (.aload_n 0, 1) := by decide +kernel
theorem dX8_noVehicle_3 : decode cX8_noVehicle 3 = .ok (.getfield 69, 3) := by decide +kernel
theorem dX8_noVehicle_6 : decode cX8_noVehicle 6 = .ok (.iconst 1, 1) := by decide +kernel
theorem dX8_noVehicle_7 : decode cX8_noVehicle 7 = .ok (.isub, 1) := by decide +kernel
theorem dX8_noVehicle_8 : decode cX8_noVehicle 8 = .ok (.invokestatic 65, 3) := by decide +kernel
theorem dX8_noVehicle_11 : decode cX8_noVehicle 11 = .ok (.ifCond .ne 7, 3) := by decide +kernel
theorem dX8_noVehicle_14 : decode cX8_noVehicle 14 = .ok (.iconst 1, 1) := by decide +kernel
theorem dX8_noVehicle_15 : decode cX8_noVehicle 15 = .ok (.goto 4, 3) := by decide +kernel
theorem dX8_noVehicle_18 : decode cX8_noVehicle 18 = .ok (.iconst 0, 1) := by decide +kernel
theorem dX8_noVehicle_19 : decode cX8_noVehicle 19 = .ok (.ireturn, 1) := by decide +kernel
theorem dX8_noRequest_0 : decode cX8_noRequest 0 = .ok (.iload_n 1, 1) := by decide +kernel
theorem dX8_noRequest_1 : decode cX8_noRequest 1 = .ok (.iconst 0, 1) := by decide +kernel
theorem dX8_noRequest_2 : decode cX8_noRequest 2 = .ok (.aload_n 0, 1) := by decide +kernel
theorem dX8_noRequest_3 : decode cX8_noRequest 3 = .ok (.getfield 72, 3) := by decide +kernel
theorem dX8_noRequest_6 : decode cX8_noRequest 6 = .ok (.iconst 1, 1) := by decide +kernel
theorem dX8_noRequest_7 : decode cX8_noRequest 7 = .ok (.isub, 1) := by decide +kernel
theorem dX8_noRequest_8 : decode cX8_noRequest 8 = .ok (.invokestatic 65, 3) := by decide +kernel
theorem dX8_noRequest_11 : decode cX8_noRequest 11 = .ok (.ifCond .ne 7, 3) := by decide +kernel
theorem dX8_noRequest_14 : decode cX8_noRequest 14 = .ok (.iconst 1, 1) := by decide +kernel
theorem dX8_noRequest_15 : decode cX8_noRequest 15 = .ok (.goto 4, 3) := by decide +kernel
theorem dX8_noRequest_18 : decode cX8_noRequest 18 = .ok (.iconst 0, 1) := by decide +kernel
theorem dX8_noRequest_19 : decode cX8_noRequest 19 = .ok (.ireturn, 1) := by decide +kernel
theorem dX8_addVehicle_0 : decode cX8_addVehicle 0 = .ok (.iload_n 1, 1) := by decide +kernel
theorem dX8_addVehicle_1 : decode cX8_addVehicle 1 = .ok (.iload_n 2, 1) := by decide +kernel
theorem dX8_addVehicle_2 : decode cX8_addVehicle 2 = .ok (.invokestatic 75, 3) := by decide +kernel
theorem dX8_addVehicle_5 : decode cX8_addVehicle 5 = .ok (.ifCond .eq 38, 3) := by decide +kernel
theorem dX8_addVehicle_8 : decode cX8_addVehicle 8 = .ok (.iload_n 3, 1) := by decide +kernel
theorem dX8_addVehicle_9 : decode cX8_addVehicle 9 = .ok (.iconst 1, 1) := by decide +kernel
theorem dX8_addVehicle_10 : decode cX8_addVehicle 10 = .ok (.bipush 8, 2) := by decide +kernel
theorem dX8_addVehicle_12 : decode cX8_addVehicle 12 = .ok (.invokestatic 65, 3) := by decide +kernel
theorem dX8_addVehicle_15 : decode cX8_addVehicle 15 = .ok (.ifCond .eq 28, 3) := by decide +kernel
theorem dX8_addVehicle_18 : decode cX8_addVehicle 18 = .ok (.iload 4, 2) := by decide +kernel
theorem dX8_addVehicle_20 : decode cX8_addVehicle 20 = .ok (.iconst 0, 1) := by decide +kernel
theorem dX8_addVehicle_21 : decode cX8_addVehicle 21 = .ok (.sipush 5000, 3) := by decide +kernel
theorem dX8_addVehicle_24 : decode cX8_addVehicle 24 = .ok (.invokestatic 65, 3) := by decide +kernel
theorem dX8_addVehicle_27 : decode cX8_addVehicle 27 = .ok (.ifCond .eq 16, 3) := by decide +kernel
theorem dX8_addVehicle_30 : decode cX8_addVehicle 30 = .ok (.iload 5, 2) := by decide +kernel
theorem dX8_addVehicle_32 : decode cX8_addVehicle 32 = .ok (.iload 4, 2) := by decide +kernel
theorem dX8_addVehicle_34 : decode cX8_addVehicle 34 = .ok (.sipush 5000, 3) := by decide +kernel
theorem dX8_addVehicle_37 : decode cX8_addVehicle 37 = .ok (.invokestatic 65, 3) := by decide +kernel
theorem dX8_addVehicle_40 : decode cX8_addVehicle 40 = .ok (.ifCond .ne 7, 3) := by decide +kernel
theorem dX8_addVehicle_43 : decode cX8_addVehicle 43 = .ok (.sipush (-1002), 3) := by decide +kernel
theorem dX8_addVehicle_46 : decode cX8_addVehicle 46 = .ok (.ireturn, 1) := by decide +kernel
theorem dX8_addVehicle_47 : decode cX8_addVehicle 47 = .ok (.aload_n 0, 1) := by decide +kernel
theorem dX8_addVehicle_48 : decode cX8_addVehicle 48 = .ok (.getfield 69, 3) := by decide +kernel
theorem dX8_addVehicle_51 : decode cX8_addVehicle 51 = .ok (.iconst 4, 1) := by decide +kernel
theorem dX8_addVehicle_52 : decode cX8_addVehicle 52 = .ok (.if_icmp .ne 7, 3) := by decide +kernel
theorem dX8_addVehicle_55 : decode cX8_addVehicle 55 = .ok (.sipush (-1006), 3) := by decide +kernel
theorem dX8_addVehicle_58 : decode cX8_addVehicle 58 = .ok (.ireturn, 1) := by decide +kernel
theorem dX8_addVehicle_59 : decode cX8_addVehicle 59 = .ok (.aload_n 0, 1) := by decide +kernel
theorem dX8_addVehicle_60 : decode cX8_addVehicle 60 = .ok (.getfield 7, 3) := by decide +kernel
theorem dX8_addVehicle_63 : decode cX8_addVehicle 63 = .ok (.aload_n 0, 1) := by decide +kernel
theorem dX8_addVehicle_64 : decode cX8_addVehicle 64 = .ok (.getfield 69, 3) := by decide +kernel
theorem dX8_addVehicle_67 : decode cX8_addVehicle 67 = .ok (.iload_n 1, 1) := by decide +kernel
theorem dX8_addVehicle_68 : decode cX8_addVehicle 68 = .ok (.iastore, 1) := by decide +kernel
theorem dX8_addVehicle_69 : decode cX8_addVehicle 69 = .ok (.aload_n 0, 1) := by decide +kernel
theorem dX8_addVehicle_70 : decode cX8_addVehicle 70 = .ok (.getfield 13, 3) := by decide +kernel
theorem dX8_addVehicle_73 : decode cX8_addVehicle 73 = .ok (.aload_n 0, 1) := by decide +kernel
theorem dX8_addVehicle_74 : decode cX8_addVehicle 74 = .ok (.getfield 69, 3) := by decide +kernel
theorem dX8_addVehicle_77 : decode cX8_addVehicle 77 = .ok (.iload_n 2, 1) := by decide +kernel
theorem dX8_addVehicle_78 : decode cX8_addVehicle 78 = .ok (.iastore, 1) := by decide +kernel
theorem dX8_addVehicle_79 : decode cX8_addVehicle 79 = .ok (.aload_n 0, 1) := by decide +kernel
theorem dX8_addVehicle_80 : decode cX8_addVehicle 80 = .ok (.getfield 16, 3) := by decide +kernel
theorem dX8_addVehicle_83 : decode cX8_addVehicle 83 = .ok (.aload_n 0, 1) := by decide +kernel
theorem dX8_addVehicle_84 : decode cX8_addVehicle 84 = .ok (.getfield 69, 3) := by decide +kernel
theorem dX8_addVehicle_87 : decode cX8_addVehicle 87 = .ok (.iload_n 3, 1) := by decide +kernel
theorem dX8_addVehicle_88 : decode cX8_addVehicle 88 = .ok (.iastore, 1) := by decide +kernel
theorem dX8_addVehicle_89 : decode cX8_addVehicle 89 = .ok (.aload_n 0, 1) := by decide +kernel
theorem dX8_addVehicle_90 : decode cX8_addVehicle 90 = .ok (.getfield 19, 3) := by decide +kernel
theorem dX8_addVehicle_93 : decode cX8_addVehicle 93 = .ok (.aload_n 0, 1) := by decide +kernel
theorem dX8_addVehicle_94 : decode cX8_addVehicle 94 = .ok (.getfield 69, 3) := by decide +kernel
theorem dX8_addVehicle_97 : decode cX8_addVehicle 97 = .ok (.iload 4, 2) := by decide +kernel
theorem dX8_addVehicle_99 : decode cX8_addVehicle 99 = .ok (.iastore, 1) := by decide +kernel
theorem dX8_addVehicle_100 : decode cX8_addVehicle 100 = .ok (.aload_n 0, 1) := by decide +kernel
theorem dX8_addVehicle_101 : decode cX8_addVehicle 101 = .ok (.getfield 22, 3) := by decide +kernel
theorem dX8_addVehicle_104 : decode cX8_addVehicle 104 = .ok (.aload_n 0, 1) := by decide +kernel
theorem dX8_addVehicle_105 : decode cX8_addVehicle 105 = .ok (.getfield 69, 3) := by decide +kernel
theorem dX8_addVehicle_108 : decode cX8_addVehicle 108 = .ok (.iload 5, 2) := by decide +kernel
theorem dX8_addVehicle_110 : decode cX8_addVehicle 110 = .ok (.iastore, 1) := by decide +kernel
theorem dX8_addVehicle_111 : decode cX8_addVehicle 111 = .ok (.aload_n 0, 1) := by decide +kernel
theorem dX8_addVehicle_112 : decode cX8_addVehicle 112 = .ok (.dup, 1) := by decide +kernel
theorem dX8_addVehicle_113 : decode cX8_addVehicle 113 = .ok (.getfield 69, 3) := by decide +kernel
theorem dX8_addVehicle_116 : decode cX8_addVehicle 116 = .ok (.iconst 1, 1) := by decide +kernel
theorem dX8_addVehicle_117 : decode cX8_addVehicle 117 = .ok (.iadd, 1) := by decide +kernel
theorem dX8_addVehicle_118 : decode cX8_addVehicle 118 = .ok (.putfield 69, 3) := by decide +kernel
theorem dX8_addVehicle_121 : decode cX8_addVehicle 121 = .ok (.aload_n 0, 1) := by decide +kernel
theorem dX8_addVehicle_122 : decode cX8_addVehicle 122 = .ok (.iconst 0, 1) := by decide +kernel
theorem dX8_addVehicle_123 : decode cX8_addVehicle 123 = .ok (.putfield 79, 3) := by decide +kernel
theorem dX8_addVehicle_126 : decode cX8_addVehicle 126 = .ok (.aload_n 0, 1) := by decide +kernel
theorem dX8_addVehicle_127 : decode cX8_addVehicle 127 = .ok (.getfield 69, 3) := by decide +kernel
theorem dX8_addVehicle_130 : decode cX8_addVehicle 130 = .ok (.iconst 1, 1) := by decide +kernel
theorem dX8_addVehicle_131 : decode cX8_addVehicle 131 = .ok (.isub, 1) := by decide +kernel
theorem dX8_addVehicle_132 : decode cX8_addVehicle 132 = .ok (.ireturn, 1) := by decide +kernel
theorem dX8_addRequest_0 : decode cX8_addRequest 0 = .ok (.iload_n 1, 1) := by decide +kernel
theorem dX8_addRequest_1 : decode cX8_addRequest 1 = .ok (.iload_n 2, 1) := by decide +kernel
theorem dX8_addRequest_2 : decode cX8_addRequest 2 = .ok (.invokestatic 75, 3) := by decide +kernel
theorem dX8_addRequest_5 : decode cX8_addRequest 5 = .ok (.ifCond .eq 35, 3) := by decide +kernel
theorem dX8_addRequest_8 : decode cX8_addRequest 8 = .ok (.iload_n 3, 1) := by decide +kernel
theorem dX8_addRequest_9 : decode cX8_addRequest 9 = .ok (.iload 4, 2) := by decide +kernel
theorem dX8_addRequest_11 : decode cX8_addRequest 11 = .ok (.invokestatic 75, 3) := by decide +kernel
theorem dX8_addRequest_14 : decode cX8_addRequest 14 = .ok (.ifCond .eq 26, 3) := by decide +kernel
theorem dX8_addRequest_17 : decode cX8_addRequest 17 = .ok (.iload 5, 2) := by decide +kernel
theorem dX8_addRequest_19 : decode cX8_addRequest 19 = .ok (.iconst 1, 1) := by decide +kernel
theorem dX8_addRequest_20 : decode cX8_addRequest 20 = .ok (.bipush 8, 2) := by decide +kernel
theorem dX8_addRequest_22 : decode cX8_addRequest 22 = .ok (.invokestatic 65, 3) := by decide +kernel
theorem dX8_addRequest_25 : decode cX8_addRequest 25 = .ok (.ifCond .eq 15, 3) := by decide +kernel
theorem dX8_addRequest_28 : decode cX8_addRequest 28 = .ok (.iload 6, 2) := by decide +kernel
theorem dX8_addRequest_30 : decode cX8_addRequest 30 = .ok (.iconst 0, 1) := by decide +kernel
theorem dX8_addRequest_31 : decode cX8_addRequest 31 = .ok (.sipush 1000, 3) := by decide +kernel
theorem dX8_addRequest_34 : decode cX8_addRequest 34 = .ok (.invokestatic 65, 3) := by decide +kernel
theorem dX8_addRequest_37 : decode cX8_addRequest 37 = .ok (.ifCond .ne 7, 3) := by decide +kernel
theorem dX8_addRequest_40 : decode cX8_addRequest 40 = .ok (.sipush (-1002), 3) := by decide +kernel
theorem dX8_addRequest_43 : decode cX8_addRequest 43 = .ok (.ireturn, 1) := by decide +kernel
theorem dX8_addRequest_44 : decode cX8_addRequest 44 = .ok (.aload_n 0, 1) := by decide +kernel
theorem dX8_addRequest_45 : decode cX8_addRequest 45 = .ok (.getfield 72, 3) := by decide +kernel
theorem dX8_addRequest_48 : decode cX8_addRequest 48 = .ok (.bipush 12, 2) := by decide +kernel
theorem dX8_addRequest_50 : decode cX8_addRequest 50 = .ok (.if_icmp .ne 7, 3) := by decide +kernel
theorem dX8_addRequest_53 : decode cX8_addRequest 53 = .ok (.sipush (-1006), 3) := by decide +kernel
theorem dX8_addRequest_56 : decode cX8_addRequest 56 = .ok (.ireturn, 1) := by decide +kernel
theorem dX8_addRequest_57 : decode cX8_addRequest 57 = .ok (.iconst 2, 1) := by decide +kernel
theorem dX8_addRequest_58 : decode cX8_addRequest 58 = .ok (.aload_n 0, 1) := by decide +kernel
theorem dX8_addRequest_59 : decode cX8_addRequest 59 = .ok (.getfield 72, 3) := by decide +kernel
theorem dX8_addRequest_62 : decode cX8_addRequest 62 = .ok (.imul, 1) := by decide +kernel
theorem dX8_addRequest_63 : decode cX8_addRequest 63 = .ok (.istore 7, 2) := by decide +kernel
theorem dX8_addRequest_65 : decode cX8_addRequest 65 = .ok (.aload_n 0, 1) := by decide +kernel
theorem dX8_addRequest_66 : decode cX8_addRequest 66 = .ok (.getfield 25, 3) := by decide +kernel
theorem dX8_addRequest_69 : decode cX8_addRequest 69 = .ok (.iload 7, 2) := by decide +kernel
theorem dX8_addRequest_71 : decode cX8_addRequest 71 = .ok (.iload_n 1, 1) := by decide +kernel
theorem dX8_addRequest_72 : decode cX8_addRequest 72 = .ok (.iastore, 1) := by decide +kernel
theorem dX8_addRequest_73 : decode cX8_addRequest 73 = .ok (.aload_n 0, 1) := by decide +kernel
theorem dX8_addRequest_74 : decode cX8_addRequest 74 = .ok (.getfield 28, 3) := by decide +kernel
theorem dX8_addRequest_77 : decode cX8_addRequest 77 = .ok (.iload 7, 2) := by decide +kernel
theorem dX8_addRequest_79 : decode cX8_addRequest 79 = .ok (.iload_n 2, 1) := by decide +kernel
theorem dX8_addRequest_80 : decode cX8_addRequest 80 = .ok (.iastore, 1) := by decide +kernel
theorem dX8_addRequest_81 : decode cX8_addRequest 81 = .ok (.aload_n 0, 1) := by decide +kernel
theorem dX8_addRequest_82 : decode cX8_addRequest 82 = .ok (.getfield 25, 3) := by decide +kernel
theorem dX8_addRequest_85 : decode cX8_addRequest 85 = .ok (.iload 7, 2) := by decide +kernel
theorem dX8_addRequest_87 : decode cX8_addRequest 87 = .ok (.iconst 1, 1) := by decide +kernel
theorem dX8_addRequest_88 : decode cX8_addRequest 88 = .ok (.iadd, 1) := by decide +kernel
theorem dX8_addRequest_89 : decode cX8_addRequest 89 = .ok (.iload_n 3, 1) := by decide +kernel
theorem dX8_addRequest_90 : decode cX8_addRequest 90 = .ok (.iastore, 1) := by decide +kernel
theorem dX8_addRequest_91 : decode cX8_addRequest 91 = .ok (.aload_n 0, 1) := by decide +kernel
theorem dX8_addRequest_92 : decode cX8_addRequest 92 = .ok (.getfield 28, 3) := by decide +kernel
theorem dX8_addRequest_95 : decode cX8_addRequest 95 = .ok (.iload 7, 2) := by decide +kernel
theorem dX8_addRequest_97 : decode cX8_addRequest 97 = .ok (.iconst 1, 1) := by decide +kernel
theorem dX8_addRequest_98 : decode cX8_addRequest 98 = .ok (.iadd, 1) := by decide +kernel
theorem dX8_addRequest_99 : decode cX8_addRequest 99 = .ok (.iload 4, 2) := by decide +kernel
theorem dX8_addRequest_101 : decode cX8_addRequest 101 = .ok (.iastore, 1) := by decide +kernel
theorem dX8_addRequest_102 : decode cX8_addRequest 102 = .ok (.iload 7, 2) := by decide +kernel
theorem dX8_addRequest_104 : decode cX8_addRequest 104 = .ok (.istore 8, 2) := by decide +kernel
theorem dX8_addRequest_106 : decode cX8_addRequest 106 = .ok (.iload 8, 2) := by decide +kernel
theorem dX8_addRequest_108 : decode cX8_addRequest 108 = .ok (.iload 7, 2) := by decide +kernel
theorem dX8_addRequest_110 : decode cX8_addRequest 110 = .ok (.iconst 2, 1) := by decide +kernel
theorem dX8_addRequest_111 : decode cX8_addRequest 111 = .ok (.iadd, 1) := by decide +kernel
theorem dX8_addRequest_112 : decode cX8_addRequest 112 = .ok (.if_icmp .ge 27, 3) := by decide +kernel
theorem dX8_addRequest_115 : decode cX8_addRequest 115 = .ok (.aload_n 0, 1) := by decide +kernel
theorem dX8_addRequest_116 : decode cX8_addRequest 116 = .ok (.getfield 31, 3) := by decide +kernel
theorem dX8_addRequest_119 : decode cX8_addRequest 119 = .ok (.iload 8, 2) := by decide +kernel
theorem dX8_addRequest_121 : decode cX8_addRequest 121 = .ok (.iconst 0, 1) := by decide +kernel
theorem dX8_addRequest_122 : decode cX8_addRequest 122 = .ok (.iastore, 1) := by decide +kernel
theorem dX8_addRequest_123 : decode cX8_addRequest 123 = .ok (.aload_n 0, 1) := by decide +kernel
theorem dX8_addRequest_124 : decode cX8_addRequest 124 = .ok (.getfield 34, 3) := by decide +kernel
theorem dX8_addRequest_127 : decode cX8_addRequest 127 = .ok (.iload 8, 2) := by decide +kernel
theorem dX8_addRequest_129 : decode cX8_addRequest 129 = .ok (.sipush 5000, 3) := by decide +kernel
theorem dX8_addRequest_132 : decode cX8_addRequest 132 = .ok (.iastore, 1) := by decide +kernel
theorem dX8_addRequest_133 : decode cX8_addRequest 133 = .ok (.iinc 8 1, 3) := by decide +kernel
theorem dX8_addRequest_136 : decode cX8_addRequest 136 = .ok (.goto (-30), 3) := by decide +kernel
theorem dX8_addRequest_139 : decode cX8_addRequest 139 = .ok (.aload_n 0, 1) := by decide +kernel
theorem dX8_addRequest_140 : decode cX8_addRequest 140 = .ok (.getfield 37, 3) := by decide +kernel
theorem dX8_addRequest_143 : decode cX8_addRequest 143 = .ok (.aload_n 0, 1) := by decide +kernel
theorem dX8_addRequest_144 : decode cX8_addRequest 144 = .ok (.getfield 72, 3) := by decide +kernel
theorem dX8_addRequest_147 : decode cX8_addRequest 147 = .ok (.iload 5, 2) := by decide +kernel
theorem dX8_addRequest_149 : decode cX8_addRequest 149 = .ok (.iastore, 1) := by decide +kernel
theorem dX8_addRequest_150 : decode cX8_addRequest 150 = .ok (.aload_n 0, 1) := by decide +kernel
theorem dX8_addRequest_151 : decode cX8_addRequest 151 = .ok (.getfield 40, 3) := by decide +kernel
theorem dX8_addRequest_154 : decode cX8_addRequest 154 = .ok (.aload_n 0, 1) := by decide +kernel
theorem dX8_addRequest_155 : decode cX8_addRequest 155 = .ok (.getfield 72, 3) := by decide +kernel
theorem dX8_addRequest_158 : decode cX8_addRequest 158 = .ok (.iload 6, 2) := by decide +kernel
theorem dX8_addRequest_160 : decode cX8_addRequest 160 = .ok (.iastore, 1) := by decide +kernel
theorem dX8_addRequest_161 : decode cX8_addRequest 161 = .ok (.aload_n 0, 1) := by decide +kernel
theorem dX8_addRequest_162 : decode cX8_addRequest 162 = .ok (.dup, 1) := by decide +kernel
theorem dX8_addRequest_163 : decode cX8_addRequest 163 = .ok (.getfield 72, 3) := by decide +kernel
theorem dX8_addRequest_166 : decode cX8_addRequest 166 = .ok (.iconst 1, 1) := by decide +kernel
theorem dX8_addRequest_167 : decode cX8_addRequest 167 = .ok (.iadd, 1) := by decide +kernel
theorem dX8_addRequest_168 : decode cX8_addRequest 168 = .ok (.putfield 72, 3) := by decide +kernel
theorem dX8_addRequest_171 : decode cX8_addRequest 171 = .ok (.aload_n 0, 1) := by decide +kernel
theorem dX8_addRequest_172 : decode cX8_addRequest 172 = .ok (.iconst 0, 1) := by decide +kernel
theorem dX8_addRequest_173 : decode cX8_addRequest 173 = .ok (.putfield 79, 3) := by decide +kernel
theorem dX8_addRequest_176 : decode cX8_addRequest 176 = .ok (.aload_n 0, 1) := by decide +kernel
theorem dX8_addRequest_177 : decode cX8_addRequest 177 = .ok (.getfield 72, 3) := by decide +kernel
theorem dX8_addRequest_180 : decode cX8_addRequest 180 = .ok (.iconst 1, 1) := by decide +kernel
theorem dX8_addRequest_181 : decode cX8_addRequest 181 = .ok (.isub, 1) := by decide +kernel
theorem dX8_addRequest_182 : decode cX8_addRequest 182 = .ok (.ireturn, 1) := by decide +kernel
theorem dX8_vehicleOf_0 : decode cX8_vehicleOf 0 = .ok (.iconst 0, 1) := by decide +kernel
theorem dX8_vehicleOf_1 : decode cX8_vehicleOf 1 = .ok (.istore_n 2, 1) := by decide +kernel
theorem dX8_vehicleOf_2 : decode cX8_vehicleOf 2 = .ok (.iload_n 2, 1) := by decide +kernel
theorem dX8_vehicleOf_3 : decode cX8_vehicleOf 3 = .ok (.aload_n 0, 1) := by decide +kernel
theorem dX8_vehicleOf_4 : decode cX8_vehicleOf 4 = .ok (.getfield 69, 3) := by decide +kernel
theorem dX8_vehicleOf_7 : decode cX8_vehicleOf 7 = .ok (.if_icmp .ge 49, 3) := by decide +kernel
theorem dX8_vehicleOf_10 : decode cX8_vehicleOf 10 = .ok (.iconst 0, 1) := by decide +kernel
theorem dX8_vehicleOf_11 : decode cX8_vehicleOf 11 = .ok (.istore_n 3, 1) := by decide +kernel
theorem dX8_vehicleOf_12 : decode cX8_vehicleOf 12 = .ok (.iload_n 3, 1) := by decide +kernel
theorem dX8_vehicleOf_13 : decode cX8_vehicleOf 13 = .ok (.aload_n 0, 1) := by decide +kernel
theorem dX8_vehicleOf_14 : decode cX8_vehicleOf 14 = .ok (.getfield 43, 3) := by decide +kernel
theorem dX8_vehicleOf_17 : decode cX8_vehicleOf 17 = .ok (.bipush 96, 2) := by decide +kernel
theorem dX8_vehicleOf_19 : decode cX8_vehicleOf 19 = .ok (.iload_n 2, 1) := by decide +kernel
theorem dX8_vehicleOf_20 : decode cX8_vehicleOf 20 = .ok (.iadd, 1) := by decide +kernel
theorem dX8_vehicleOf_21 : decode cX8_vehicleOf 21 = .ok (.iaload, 1) := by decide +kernel
theorem dX8_vehicleOf_22 : decode cX8_vehicleOf 22 = .ok (.if_icmp .ge 28, 3) := by decide +kernel
theorem dX8_vehicleOf_25 : decode cX8_vehicleOf 25 = .ok (.aload_n 0, 1) := by decide +kernel
theorem dX8_vehicleOf_26 : decode cX8_vehicleOf 26 = .ok (.getfield 43, 3) := by decide +kernel
theorem dX8_vehicleOf_29 : decode cX8_vehicleOf 29 = .ok (.bipush 24, 2) := by decide +kernel
theorem dX8_vehicleOf_31 : decode cX8_vehicleOf 31 = .ok (.iload_n 2, 1) := by decide +kernel
theorem dX8_vehicleOf_32 : decode cX8_vehicleOf 32 = .ok (.imul, 1) := by decide +kernel
theorem dX8_vehicleOf_33 : decode cX8_vehicleOf 33 = .ok (.iload_n 3, 1) := by decide +kernel
theorem dX8_vehicleOf_34 : decode cX8_vehicleOf 34 = .ok (.iadd, 1) := by decide +kernel
theorem dX8_vehicleOf_35 : decode cX8_vehicleOf 35 = .ok (.iaload, 1) := by decide +kernel
theorem dX8_vehicleOf_36 : decode cX8_vehicleOf 36 = .ok (.iconst 2, 1) := by decide +kernel
theorem dX8_vehicleOf_37 : decode cX8_vehicleOf 37 = .ok (.idiv, 1) := by decide +kernel
theorem dX8_vehicleOf_38 : decode cX8_vehicleOf 38 = .ok (.iload_n 1, 1) := by decide +kernel
theorem dX8_vehicleOf_39 : decode cX8_vehicleOf 39 = .ok (.if_icmp .ne 5, 3) := by decide +kernel
theorem dX8_vehicleOf_42 : decode cX8_vehicleOf 42 = .ok (.iload_n 2, 1) := by decide +kernel
theorem dX8_vehicleOf_43 : decode cX8_vehicleOf 43 = .ok (.ireturn, 1) := by decide +kernel
theorem dX8_vehicleOf_44 : decode cX8_vehicleOf 44 = .ok (.iinc 3 1, 3) := by decide +kernel
theorem dX8_vehicleOf_47 : decode cX8_vehicleOf 47 = .ok (.goto (-35), 3) := by decide +kernel
theorem dX8_vehicleOf_50 : decode cX8_vehicleOf 50 = .ok (.iinc 2 1, 3) := by decide +kernel
theorem dX8_vehicleOf_53 : decode cX8_vehicleOf 53 = .ok (.goto (-51), 3) := by decide +kernel
theorem dX8_vehicleOf_56 : decode cX8_vehicleOf 56 = .ok (.iconst (-1), 1) := by decide +kernel
theorem dX8_vehicleOf_57 : decode cX8_vehicleOf 57 = .ok (.ireturn, 1) := by decide +kernel
theorem dX8_take_0 : decode cX8_take 0 = .ok (.aload_n 0, 1) := by decide +kernel
theorem dX8_take_1 : decode cX8_take 1 = .ok (.aload_n 0, 1) := by decide +kernel
theorem dX8_take_2 : decode cX8_take 2 = .ok (.getfield 43, 3) := by decide +kernel
theorem dX8_take_5 : decode cX8_take 5 = .ok (.bipush 96, 2) := by decide +kernel
theorem dX8_take_7 : decode cX8_take 7 = .ok (.iload_n 1, 1) := by decide +kernel
theorem dX8_take_8 : decode cX8_take 8 = .ok (.iadd, 1) := by decide +kernel
theorem dX8_take_9 : decode cX8_take 9 = .ok (.iaload, 1) := by decide +kernel
theorem dX8_take_10 : decode cX8_take 10 = .ok (.putfield 82, 3) := by decide +kernel
theorem dX8_take_13 : decode cX8_take 13 = .ok (.iconst 0, 1) := by decide +kernel
theorem dX8_take_14 : decode cX8_take 14 = .ok (.istore_n 2, 1) := by decide +kernel
theorem dX8_take_15 : decode cX8_take 15 = .ok (.iload_n 2, 1) := by decide +kernel
theorem dX8_take_16 : decode cX8_take 16 = .ok (.aload_n 0, 1) := by decide +kernel
theorem dX8_take_17 : decode cX8_take 17 = .ok (.getfield 82, 3) := by decide +kernel
theorem dX8_take_20 : decode cX8_take 20 = .ok (.if_icmp .ge 26, 3) := by decide +kernel
theorem dX8_take_23 : decode cX8_take 23 = .ok (.aload_n 0, 1) := by decide +kernel
theorem dX8_take_24 : decode cX8_take 24 = .ok (.getfield 46, 3) := by decide +kernel
theorem dX8_take_27 : decode cX8_take 27 = .ok (.iload_n 2, 1) := by decide +kernel
theorem dX8_take_28 : decode cX8_take 28 = .ok (.aload_n 0, 1) := by decide +kernel
theorem dX8_take_29 : decode cX8_take 29 = .ok (.getfield 43, 3) := by decide +kernel
theorem dX8_take_32 : decode cX8_take 32 = .ok (.bipush 24, 2) := by decide +kernel
theorem dX8_take_34 : decode cX8_take 34 = .ok (.iload_n 1, 1) := by decide +kernel
theorem dX8_take_35 : decode cX8_take 35 = .ok (.imul, 1) := by decide +kernel
theorem dX8_take_36 : decode cX8_take 36 = .ok (.iload_n 2, 1) := by decide +kernel
theorem dX8_take_37 : decode cX8_take 37 = .ok (.iadd, 1) := by decide +kernel
theorem dX8_take_38 : decode cX8_take 38 = .ok (.iaload, 1) := by decide +kernel
theorem dX8_take_39 : decode cX8_take 39 = .ok (.iastore, 1) := by decide +kernel
theorem dX8_take_40 : decode cX8_take 40 = .ok (.iinc 2 1, 3) := by decide +kernel
theorem dX8_take_43 : decode cX8_take 43 = .ok (.goto (-28), 3) := by decide +kernel
theorem dX8_take_46 : decode cX8_take 46 = .ok (.return_, 1) := by decide +kernel
theorem dX8_between_0 : decode cX8_between 0 = .ok (.aload_n 0, 1) := by decide +kernel
theorem dX8_between_1 : decode cX8_between 1 = .ok (.getfield 25, 3) := by decide +kernel
theorem dX8_between_4 : decode cX8_between 4 = .ok (.iload_n 1, 1) := by decide +kernel
theorem dX8_between_5 : decode cX8_between 5 = .ok (.iaload, 1) := by decide +kernel
theorem dX8_between_6 : decode cX8_between 6 = .ok (.aload_n 0, 1) := by decide +kernel
theorem dX8_between_7 : decode cX8_between 7 = .ok (.getfield 25, 3) := by decide +kernel
theorem dX8_between_10 : decode cX8_between 10 = .ok (.iload_n 2, 1) := by decide +kernel
theorem dX8_between_11 : decode cX8_between 11 = .ok (.iaload, 1) := by decide +kernel
theorem dX8_between_12 : decode cX8_between 12 = .ok (.isub, 1) := by decide +kernel
theorem dX8_between_13 : decode cX8_between 13 = .ok (.invokestatic 85, 3) := by decide +kernel
theorem dX8_between_16 : decode cX8_between 16 = .ok (.aload_n 0, 1) := by decide +kernel
theorem dX8_between_17 : decode cX8_between 17 = .ok (.getfield 28, 3) := by decide +kernel
theorem dX8_between_20 : decode cX8_between 20 = .ok (.iload_n 1, 1) := by decide +kernel
theorem dX8_between_21 : decode cX8_between 21 = .ok (.iaload, 1) := by decide +kernel
theorem dX8_between_22 : decode cX8_between 22 = .ok (.aload_n 0, 1) := by decide +kernel
theorem dX8_between_23 : decode cX8_between 23 = .ok (.getfield 28, 3) := by decide +kernel
theorem dX8_between_26 : decode cX8_between 26 = .ok (.iload_n 2, 1) := by decide +kernel
theorem dX8_between_27 : decode cX8_between 27 = .ok (.iaload, 1) := by decide +kernel
theorem dX8_between_28 : decode cX8_between 28 = .ok (.isub, 1) := by decide +kernel
theorem dX8_between_29 : decode cX8_between 29 = .ok (.invokestatic 85, 3) := by decide +kernel
theorem dX8_between_32 : decode cX8_between 32 = .ok (.iadd, 1) := by decide +kernel
theorem dX8_between_33 : decode cX8_between 33 = .ok (.ireturn, 1) := by decide +kernel
theorem dX8_fromDepot_0 : decode cX8_fromDepot 0 = .ok (.aload_n 0, 1) := by decide +kernel
theorem dX8_fromDepot_1 : decode cX8_fromDepot 1 = .ok (.getfield 25, 3) := by decide +kernel
theorem dX8_fromDepot_4 : decode cX8_fromDepot 4 = .ok (.iload_n 2, 1) := by decide +kernel
theorem dX8_fromDepot_5 : decode cX8_fromDepot 5 = .ok (.iaload, 1) := by decide +kernel
theorem dX8_fromDepot_6 : decode cX8_fromDepot 6 = .ok (.aload_n 0, 1) := by decide +kernel
theorem dX8_fromDepot_7 : decode cX8_fromDepot 7 = .ok (.getfield 7, 3) := by decide +kernel
theorem dX8_fromDepot_10 : decode cX8_fromDepot 10 = .ok (.iload_n 1, 1) := by decide +kernel
theorem dX8_fromDepot_11 : decode cX8_fromDepot 11 = .ok (.iaload, 1) := by decide +kernel
theorem dX8_fromDepot_12 : decode cX8_fromDepot 12 = .ok (.isub, 1) := by decide +kernel
theorem dX8_fromDepot_13 : decode cX8_fromDepot 13 = .ok (.invokestatic 85, 3) := by decide +kernel
theorem dX8_fromDepot_16 : decode cX8_fromDepot 16 = .ok (.aload_n 0, 1) := by decide +kernel
theorem dX8_fromDepot_17 : decode cX8_fromDepot 17 = .ok (.getfield 28, 3) := by decide +kernel
theorem dX8_fromDepot_20 : decode cX8_fromDepot 20 = .ok (.iload_n 2, 1) := by decide +kernel
theorem dX8_fromDepot_21 : decode cX8_fromDepot 21 = .ok (.iaload, 1) := by decide +kernel
theorem dX8_fromDepot_22 : decode cX8_fromDepot 22 = .ok (.aload_n 0, 1) := by decide +kernel
theorem dX8_fromDepot_23 : decode cX8_fromDepot 23 = .ok (.getfield 13, 3) := by decide +kernel
theorem dX8_fromDepot_26 : decode cX8_fromDepot 26 = .ok (.iload_n 1, 1) := by decide +kernel
theorem dX8_fromDepot_27 : decode cX8_fromDepot 27 = .ok (.iaload, 1) := by decide +kernel
theorem dX8_fromDepot_28 : decode cX8_fromDepot 28 = .ok (.isub, 1) := by decide +kernel
theorem dX8_fromDepot_29 : decode cX8_fromDepot 29 = .ok (.invokestatic 85, 3) := by decide +kernel
theorem dX8_fromDepot_32 : decode cX8_fromDepot 32 = .ok (.iadd, 1) := by decide +kernel
theorem dX8_fromDepot_33 : decode cX8_fromDepot 33 = .ok (.ireturn, 1) := by decide +kernel
theorem dX8_length_0 : decode cX8_length 0 = .ok (.aload_n 0, 1) := by decide +kernel
theorem dX8_length_1 : decode cX8_length 1 = .ok (.getfield 82, 3) := by decide +kernel
theorem dX8_length_4 : decode cX8_length 4 = .ok (.ifCond .ne 5, 3) := by decide +kernel
theorem dX8_length_7 : decode cX8_length 7 = .ok (.iconst 0, 1) := by decide +kernel
theorem dX8_length_8 : decode cX8_length 8 = .ok (.ireturn, 1) := by decide +kernel
theorem dX8_length_9 : decode cX8_length 9 = .ok (.aload_n 0, 1) := by decide +kernel
theorem dX8_length_10 : decode cX8_length 10 = .ok (.iload_n 1, 1) := by decide +kernel
theorem dX8_length_11 : decode cX8_length 11 = .ok (.aload_n 0, 1) := by decide +kernel
theorem dX8_length_12 : decode cX8_length 12 = .ok (.getfield 46, 3) := by decide +kernel
theorem dX8_length_15 : decode cX8_length 15 = .ok (.iconst 0, 1) := by decide +kernel
theorem dX8_length_16 : decode cX8_length 16 = .ok (.iaload, 1) := by decide +kernel
theorem dX8_length_17 : decode cX8_length 17 = .ok (.invokevirtual 89, 3) := by decide +kernel
theorem dX8_length_20 : decode cX8_length 20 = .ok (.aload_n 0, 1) := by decide +kernel
theorem dX8_length_21 : decode cX8_length 21 = .ok (.iload_n 1, 1) := by decide +kernel
theorem dX8_length_22 : decode cX8_length 22 = .ok (.aload_n 0, 1) := by decide +kernel
theorem dX8_length_23 : decode cX8_length 23 = .ok (.getfield 46, 3) := by decide +kernel
theorem dX8_length_26 : decode cX8_length 26 = .ok (.aload_n 0, 1) := by decide +kernel
theorem dX8_length_27 : decode cX8_length 27 = .ok (.getfield 82, 3) := by decide +kernel
theorem dX8_length_30 : decode cX8_length 30 = .ok (.iconst 1, 1) := by decide +kernel
theorem dX8_length_31 : decode cX8_length 31 = .ok (.isub, 1) := by decide +kernel
theorem dX8_length_32 : decode cX8_length 32 = .ok (.iaload, 1) := by decide +kernel
theorem dX8_length_33 : decode cX8_length 33 = .ok (.invokevirtual 89, 3) := by decide +kernel
theorem dX8_length_36 : decode cX8_length 36 = .ok (.iadd, 1) := by decide +kernel
theorem dX8_length_37 : decode cX8_length 37 = .ok (.istore_n 2, 1) := by decide +kernel
theorem dX8_length_38 : decode cX8_length 38 = .ok (.iconst 1, 1) := by decide +kernel
theorem dX8_length_39 : decode cX8_length 39 = .ok (.istore_n 3, 1) := by decide +kernel
theorem dX8_length_40 : decode cX8_length 40 = .ok (.iload_n 3, 1) := by decide +kernel
theorem dX8_length_41 : decode cX8_length 41 = .ok (.aload_n 0, 1) := by decide +kernel
theorem dX8_length_42 : decode cX8_length 42 = .ok (.getfield 82, 3) := by decide +kernel
theorem dX8_length_45 : decode cX8_length 45 = .ok (.if_icmp .ge 30, 3) := by decide +kernel
theorem dX8_length_48 : decode cX8_length 48 = .ok (.iload_n 2, 1) := by decide +kernel
theorem dX8_length_49 : decode cX8_length 49 = .ok (.aload_n 0, 1) := by decide +kernel
theorem dX8_length_50 : decode cX8_length 50 = .ok (.aload_n 0, 1) := by decide +kernel
theorem dX8_length_51 : decode cX8_length 51 = .ok (.getfield 46, 3) := by decide +kernel
theorem dX8_length_54 : decode cX8_length 54 = .ok (.iload_n 3, 1) := by decide +kernel
theorem dX8_length_55 : decode cX8_length 55 = .ok (.iconst 1, 1) := by decide +kernel
theorem dX8_length_56 : decode cX8_length 56 = .ok (.isub, 1) := by decide +kernel
theorem dX8_length_57 : decode cX8_length 57 = .ok (.iaload, 1) := by decide +kernel
theorem dX8_length_58 : decode cX8_length 58 = .ok (.aload_n 0, 1) := by decide +kernel
theorem dX8_length_59 : decode cX8_length 59 = .ok (.getfield 46, 3) := by decide +kernel
theorem dX8_length_62 : decode cX8_length 62 = .ok (.iload_n 3, 1) := by decide +kernel
theorem dX8_length_63 : decode cX8_length 63 = .ok (.iaload, 1) := by decide +kernel
theorem dX8_length_64 : decode cX8_length 64 = .ok (.invokevirtual 93, 3) := by decide +kernel
theorem dX8_length_67 : decode cX8_length 67 = .ok (.iadd, 1) := by decide +kernel
theorem dX8_length_68 : decode cX8_length 68 = .ok (.istore_n 2, 1) := by decide +kernel
theorem dX8_length_69 : decode cX8_length 69 = .ok (.iinc 3 1, 3) := by decide +kernel
theorem dX8_length_72 : decode cX8_length 72 = .ok (.goto (-32), 3) := by decide +kernel
theorem dX8_length_75 : decode cX8_length 75 = .ok (.iload_n 2, 1) := by decide +kernel
theorem dX8_length_76 : decode cX8_length 76 = .ok (.ireturn, 1) := by decide +kernel
theorem dX8_placeOf_0 : decode cX8_placeOf 0 = .ok (.iconst 0, 1) := by decide +kernel
theorem dX8_placeOf_1 : decode cX8_placeOf 1 = .ok (.istore_n 2, 1) := by decide +kernel
theorem dX8_placeOf_2 : decode cX8_placeOf 2 = .ok (.aload_n 0, 1) := by decide +kernel
theorem dX8_placeOf_3 : decode cX8_placeOf 3 = .ok (.getfield 46, 3) := by decide +kernel
theorem dX8_placeOf_6 : decode cX8_placeOf 6 = .ok (.iload_n 2, 1) := by decide +kernel
theorem dX8_placeOf_7 : decode cX8_placeOf 7 = .ok (.iaload, 1) := by decide +kernel
theorem dX8_placeOf_8 : decode cX8_placeOf 8 = .ok (.iload_n 1, 1) := by decide +kernel
theorem dX8_placeOf_9 : decode cX8_placeOf 9 = .ok (.if_icmp .eq 9, 3) := by decide +kernel
theorem dX8_placeOf_12 : decode cX8_placeOf 12 = .ok (.iinc 2 1, 3) := by decide +kernel
theorem dX8_placeOf_15 : decode cX8_placeOf 15 = .ok (.goto (-13), 3) := by decide +kernel
theorem dX8_placeOf_18 : decode cX8_placeOf 18 = .ok (.iload_n 2, 1) := by decide +kernel
theorem dX8_placeOf_19 : decode cX8_placeOf 19 = .ok (.ireturn, 1) := by decide +kernel
theorem dX8_greatestLoad_0 : decode cX8_greatestLoad 0 = .ok (.iconst 0, 1) := by decide +kernel
theorem dX8_greatestLoad_1 : decode cX8_greatestLoad 1 = .ok (.istore_n 1, 1) := by decide +kernel
theorem dX8_greatestLoad_2 : decode cX8_greatestLoad 2 = .ok (.iconst 0, 1) := by decide +kernel
theorem dX8_greatestLoad_3 : decode cX8_greatestLoad 3 = .ok (.istore_n 2, 1) := by decide +kernel
theorem dX8_greatestLoad_4 : decode cX8_greatestLoad 4 = .ok (.iconst 0, 1) := by decide +kernel
theorem dX8_greatestLoad_5 : decode cX8_greatestLoad 5 = .ok (.istore_n 3, 1) := by decide +kernel
theorem dX8_greatestLoad_6 : decode cX8_greatestLoad 6 = .ok (.iload_n 3, 1) := by decide +kernel
theorem dX8_greatestLoad_7 : decode cX8_greatestLoad 7 = .ok (.aload_n 0, 1) := by decide +kernel
theorem dX8_greatestLoad_8 : decode cX8_greatestLoad 8 = .ok (.getfield 82, 3) := by decide +kernel
theorem dX8_greatestLoad_11 : decode cX8_greatestLoad 11 = .ok (.if_icmp .ge 57, 3) := by decide +kernel
theorem dX8_greatestLoad_14 : decode cX8_greatestLoad 14 = .ok (.aload_n 0, 1) := by decide +kernel
theorem dX8_greatestLoad_15 : decode cX8_greatestLoad 15 = .ok (.getfield 37, 3) := by decide +kernel
theorem dX8_greatestLoad_18 : decode cX8_greatestLoad 18 = .ok (.aload_n 0, 1) := by decide +kernel
theorem dX8_greatestLoad_19 : decode cX8_greatestLoad 19 = .ok (.getfield 46, 3) := by decide +kernel
theorem dX8_greatestLoad_22 : decode cX8_greatestLoad 22 = .ok (.iload_n 3, 1) := by decide +kernel
theorem dX8_greatestLoad_23 : decode cX8_greatestLoad 23 = .ok (.iaload, 1) := by decide +kernel
theorem dX8_greatestLoad_24 : decode cX8_greatestLoad 24 = .ok (.iconst 2, 1) := by decide +kernel
theorem dX8_greatestLoad_25 : decode cX8_greatestLoad 25 = .ok (.idiv, 1) := by decide +kernel
theorem dX8_greatestLoad_26 : decode cX8_greatestLoad 26 = .ok (.iaload, 1) := by decide +kernel
theorem dX8_greatestLoad_27 : decode cX8_greatestLoad 27 = .ok (.istore 4, 2) := by decide +kernel
theorem dX8_greatestLoad_29 : decode cX8_greatestLoad 29 = .ok (.iload_n 1, 1) := by decide +kernel
theorem dX8_greatestLoad_30 : decode cX8_greatestLoad 30 = .ok (.aload_n 0, 1) := by decide +kernel
theorem dX8_greatestLoad_31 : decode cX8_greatestLoad 31 = .ok (.getfield 46, 3) := by decide +kernel
theorem dX8_greatestLoad_34 : decode cX8_greatestLoad 34 = .ok (.iload_n 3, 1) := by decide +kernel
theorem dX8_greatestLoad_35 : decode cX8_greatestLoad 35 = .ok (.iaload, 1) := by decide +kernel
theorem dX8_greatestLoad_36 : decode cX8_greatestLoad 36 = .ok (.iconst 2, 1) := by decide +kernel
theorem dX8_greatestLoad_37 : decode cX8_greatestLoad 37 = .ok (.irem, 1) := by decide +kernel
theorem dX8_greatestLoad_38 : decode cX8_greatestLoad 38 = .ok (.ifCond .ne 8, 3) := by decide +kernel
theorem dX8_greatestLoad_41 : decode cX8_greatestLoad 41 = .ok (.iload 4, 2) := by decide +kernel
theorem dX8_greatestLoad_43 : decode cX8_greatestLoad 43 = .ok (.goto 6, 3) := by decide +kernel
theorem dX8_greatestLoad_46 : decode cX8_greatestLoad 46 = .ok (.iload 4, 2) := by decide +kernel
theorem dX8_greatestLoad_48 : decode cX8_greatestLoad 48 = .ok (.ineg, 1) := by decide +kernel
theorem dX8_greatestLoad_49 : decode cX8_greatestLoad 49 = .ok (.iadd, 1) := by decide +kernel
theorem dX8_greatestLoad_50 : decode cX8_greatestLoad 50 = .ok (.istore_n 1, 1) := by decide +kernel
theorem dX8_greatestLoad_51 : decode cX8_greatestLoad 51 = .ok (.iload_n 1, 1) := by decide +kernel
theorem dX8_greatestLoad_52 : decode cX8_greatestLoad 52 = .ok (.iload_n 2, 1) := by decide +kernel
theorem dX8_greatestLoad_53 : decode cX8_greatestLoad 53 = .ok (.if_icmp .le 7, 3) := by decide +kernel
theorem dX8_greatestLoad_56 : decode cX8_greatestLoad 56 = .ok (.iload_n 1, 1) := by decide +kernel
theorem dX8_greatestLoad_57 : decode cX8_greatestLoad 57 = .ok (.goto 4, 3) := by decide +kernel
theorem dX8_greatestLoad_60 : decode cX8_greatestLoad 60 = .ok (.iload_n 2, 1) := by decide +kernel
theorem dX8_greatestLoad_61 : decode cX8_greatestLoad 61 = .ok (.istore_n 2, 1) := by decide +kernel
theorem dX8_greatestLoad_62 : decode cX8_greatestLoad 62 = .ok (.iinc 3 1, 3) := by decide +kernel
theorem dX8_greatestLoad_65 : decode cX8_greatestLoad 65 = .ok (.goto (-59), 3) := by decide +kernel
theorem dX8_greatestLoad_68 : decode cX8_greatestLoad 68 = .ok (.iload_n 2, 1) := by decide +kernel
theorem dX8_greatestLoad_69 : decode cX8_greatestLoad 69 = .ok (.ireturn, 1) := by decide +kernel
theorem dX8_layEarly_0 : decode cX8_layEarly 0 = .ok (.iconst 0, 1) := by decide +kernel
theorem dX8_layEarly_1 : decode cX8_layEarly 1 = .ok (.istore_n 2, 1) := by decide +kernel
theorem dX8_layEarly_2 : decode cX8_layEarly 2 = .ok (.iload_n 2, 1) := by decide +kernel
theorem dX8_layEarly_3 : decode cX8_layEarly 3 = .ok (.aload_n 0, 1) := by decide +kernel
theorem dX8_layEarly_4 : decode cX8_layEarly 4 = .ok (.getfield 82, 3) := by decide +kernel
theorem dX8_layEarly_7 : decode cX8_layEarly 7 = .ok (.if_icmp .ge 26, 3) := by decide +kernel
theorem dX8_layEarly_10 : decode cX8_layEarly 10 = .ok (.aload_n 0, 1) := by decide +kernel
theorem dX8_layEarly_11 : decode cX8_layEarly 11 = .ok (.getfield 49, 3) := by decide +kernel
theorem dX8_layEarly_14 : decode cX8_layEarly 14 = .ok (.iload_n 2, 1) := by decide +kernel
theorem dX8_layEarly_15 : decode cX8_layEarly 15 = .ok (.aload_n 0, 1) := by decide +kernel
theorem dX8_layEarly_16 : decode cX8_layEarly 16 = .ok (.getfield 31, 3) := by decide +kernel
theorem dX8_layEarly_19 : decode cX8_layEarly 19 = .ok (.aload_n 0, 1) := by decide +kernel
theorem dX8_layEarly_20 : decode cX8_layEarly 20 = .ok (.getfield 46, 3) := by decide +kernel
theorem dX8_layEarly_23 : decode cX8_layEarly 23 = .ok (.iload_n 2, 1) := by decide +kernel
theorem dX8_layEarly_24 : decode cX8_layEarly 24 = .ok (.iaload, 1) := by decide +kernel
theorem dX8_layEarly_25 : decode cX8_layEarly 25 = .ok (.iaload, 1) := by decide +kernel
theorem dX8_layEarly_26 : decode cX8_layEarly 26 = .ok (.iastore, 1) := by decide +kernel
theorem dX8_layEarly_27 : decode cX8_layEarly 27 = .ok (.iinc 2 1, 3) := by decide +kernel
theorem dX8_layEarly_30 : decode cX8_layEarly 30 = .ok (.goto (-28), 3) := by decide +kernel
theorem dX8_layEarly_33 : decode cX8_layEarly 33 = .ok (.aload_n 0, 1) := by decide +kernel
theorem dX8_layEarly_34 : decode cX8_layEarly 34 = .ok (.getfield 82, 3) := by decide +kernel
theorem dX8_layEarly_37 : decode cX8_layEarly 37 = .ok (.ifCond .le 54, 3) := by decide +kernel
theorem dX8_layEarly_40 : decode cX8_layEarly 40 = .ok (.aload_n 0, 1) := by decide +kernel
theorem dX8_layEarly_41 : decode cX8_layEarly 41 = .ok (.getfield 49, 3) := by decide +kernel
theorem dX8_layEarly_44 : decode cX8_layEarly 44 = .ok (.iconst 0, 1) := by decide +kernel
theorem dX8_layEarly_45 : decode cX8_layEarly 45 = .ok (.iaload, 1) := by decide +kernel
theorem dX8_layEarly_46 : decode cX8_layEarly 46 = .ok (.aload_n 0, 1) := by decide +kernel
theorem dX8_layEarly_47 : decode cX8_layEarly 47 = .ok (.getfield 19, 3) := by decide +kernel
theorem dX8_layEarly_50 : decode cX8_layEarly 50 = .ok (.iload_n 1, 1) := by decide +kernel
theorem dX8_layEarly_51 : decode cX8_layEarly 51 = .ok (.iaload, 1) := by decide +kernel
theorem dX8_layEarly_52 : decode cX8_layEarly 52 = .ok (.aload_n 0, 1) := by decide +kernel
theorem dX8_layEarly_53 : decode cX8_layEarly 53 = .ok (.iload_n 1, 1) := by decide +kernel
theorem dX8_layEarly_54 : decode cX8_layEarly 54 = .ok (.aload_n 0, 1) := by decide +kernel
theorem dX8_layEarly_55 : decode cX8_layEarly 55 = .ok (.getfield 46, 3) := by decide +kernel
theorem dX8_layEarly_58 : decode cX8_layEarly 58 = .ok (.iconst 0, 1) := by decide +kernel
theorem dX8_layEarly_59 : decode cX8_layEarly 59 = .ok (.iaload, 1) := by decide +kernel
theorem dX8_layEarly_60 : decode cX8_layEarly 60 = .ok (.invokevirtual 89, 3) := by decide +kernel
theorem dX8_layEarly_63 : decode cX8_layEarly 63 = .ok (.iadd, 1) := by decide +kernel
theorem dX8_layEarly_64 : decode cX8_layEarly 64 = .ok (.if_icmp .ge 27, 3) := by decide +kernel
theorem dX8_layEarly_67 : decode cX8_layEarly 67 = .ok (.aload_n 0, 1) := by decide +kernel
theorem dX8_layEarly_68 : decode cX8_layEarly 68 = .ok (.getfield 49, 3) := by decide +kernel
theorem dX8_layEarly_71 : decode cX8_layEarly 71 = .ok (.iconst 0, 1) := by decide +kernel
theorem dX8_layEarly_72 : decode cX8_layEarly 72 = .ok (.aload_n 0, 1) := by decide +kernel
theorem dX8_layEarly_73 : decode cX8_layEarly 73 = .ok (.getfield 19, 3) := by decide +kernel
theorem dX8_layEarly_76 : decode cX8_layEarly 76 = .ok (.iload_n 1, 1) := by decide +kernel
theorem dX8_layEarly_77 : decode cX8_layEarly 77 = .ok (.iaload, 1) := by decide +kernel
theorem dX8_layEarly_78 : decode cX8_layEarly 78 = .ok (.aload_n 0, 1) := by decide +kernel
theorem dX8_layEarly_79 : decode cX8_layEarly 79 = .ok (.iload_n 1, 1) := by decide +kernel
theorem dX8_layEarly_80 : decode cX8_layEarly 80 = .ok (.aload_n 0, 1) := by decide +kernel
theorem dX8_layEarly_81 : decode cX8_layEarly 81 = .ok (.getfield 46, 3) := by decide +kernel
theorem dX8_layEarly_84 : decode cX8_layEarly 84 = .ok (.iconst 0, 1) := by decide +kernel
theorem dX8_layEarly_85 : decode cX8_layEarly 85 = .ok (.iaload, 1) := by decide +kernel
theorem dX8_layEarly_86 : decode cX8_layEarly 86 = .ok (.invokevirtual 89, 3) := by decide +kernel
theorem dX8_layEarly_89 : decode cX8_layEarly 89 = .ok (.iadd, 1) := by decide +kernel
theorem dX8_layEarly_90 : decode cX8_layEarly 90 = .ok (.iastore, 1) := by decide +kernel
theorem dX8_layEarly_91 : decode cX8_layEarly 91 = .ok (.iconst 1, 1) := by decide +kernel
theorem dX8_layEarly_92 : decode cX8_layEarly 92 = .ok (.istore_n 2, 1) := by decide +kernel
theorem dX8_layEarly_93 : decode cX8_layEarly 93 = .ok (.iconst 0, 1) := by decide +kernel
theorem dX8_layEarly_94 : decode cX8_layEarly 94 = .ok (.istore_n 3, 1) := by decide +kernel
theorem dX8_layEarly_95 : decode cX8_layEarly 95 = .ok (.iload_n 2, 1) := by decide +kernel
theorem dX8_layEarly_96 : decode cX8_layEarly 96 = .ok (.ifCond .eq 207, 3) := by decide +kernel
theorem dX8_layEarly_99 : decode cX8_layEarly 99 = .ok (.iload_n 3, 1) := by decide +kernel
theorem dX8_layEarly_100 : decode cX8_layEarly 100 = .ok (.aload_n 0, 1) := by decide +kernel
theorem dX8_layEarly_101 : decode cX8_layEarly 101 = .ok (.getfield 82, 3) := by decide +kernel
theorem dX8_layEarly_104 : decode cX8_layEarly 104 = .ok (.iconst 1, 1) := by decide +kernel
theorem dX8_layEarly_105 : decode cX8_layEarly 105 = .ok (.iadd, 1) := by decide +kernel
theorem dX8_layEarly_106 : decode cX8_layEarly 106 = .ok (.if_icmp .le 5, 3) := by decide +kernel
theorem dX8_layEarly_109 : decode cX8_layEarly 109 = .ok (.iconst 0, 1) := by decide +kernel
theorem dX8_layEarly_110 : decode cX8_layEarly 110 = .ok (.ireturn, 1) := by decide +kernel
theorem dX8_layEarly_111 : decode cX8_layEarly 111 = .ok (.iinc 3 1, 3) := by decide +kernel
theorem dX8_layEarly_114 : decode cX8_layEarly 114 = .ok (.iconst 0, 1) := by decide +kernel
theorem dX8_layEarly_115 : decode cX8_layEarly 115 = .ok (.istore_n 2, 1) := by decide +kernel
theorem dX8_layEarly_116 : decode cX8_layEarly 116 = .ok (.iconst 0, 1) := by decide +kernel
theorem dX8_layEarly_117 : decode cX8_layEarly 117 = .ok (.istore 4, 2) := by decide +kernel
theorem dX8_layEarly_119 : decode cX8_layEarly 119 = .ok (.iload 4, 2) := by decide +kernel
theorem dX8_layEarly_121 : decode cX8_layEarly 121 = .ok (.aload_n 0, 1) := by decide +kernel
theorem dX8_layEarly_122 : decode cX8_layEarly 122 = .ok (.getfield 82, 3) := by decide +kernel
theorem dX8_layEarly_125 : decode cX8_layEarly 125 = .ok (.if_icmp .ge 175, 3) := by decide +kernel
theorem dX8_layEarly_128 : decode cX8_layEarly 128 = .ok (.iload 4, 2) := by decide +kernel
theorem dX8_layEarly_130 : decode cX8_layEarly 130 = .ok (.ifCond .ne 12, 3) := by decide +kernel
theorem dX8_layEarly_133 : decode cX8_layEarly 133 = .ok (.aload_n 0, 1) := by decide +kernel
theorem dX8_layEarly_134 : decode cX8_layEarly 134 = .ok (.getfield 49, 3) := by decide +kernel
theorem dX8_layEarly_137 : decode cX8_layEarly 137 = .ok (.iconst 0, 1) := by decide +kernel
theorem dX8_layEarly_138 : decode cX8_layEarly 138 = .ok (.iaload, 1) := by decide +kernel
theorem dX8_layEarly_139 : decode cX8_layEarly 139 = .ok (.goto 38, 3) := by decide +kernel
theorem dX8_layEarly_142 : decode cX8_layEarly 142 = .ok (.aload_n 0, 1) := by decide +kernel
theorem dX8_layEarly_143 : decode cX8_layEarly 143 = .ok (.getfield 49, 3) := by decide +kernel
theorem dX8_layEarly_146 : decode cX8_layEarly 146 = .ok (.iload 4, 2) := by decide +kernel
theorem dX8_layEarly_148 : decode cX8_layEarly 148 = .ok (.iconst 1, 1) := by decide +kernel
theorem dX8_layEarly_149 : decode cX8_layEarly 149 = .ok (.isub, 1) := by decide +kernel
theorem dX8_layEarly_150 : decode cX8_layEarly 150 = .ok (.iaload, 1) := by decide +kernel
theorem dX8_layEarly_151 : decode cX8_layEarly 151 = .ok (.aload_n 0, 1) := by decide +kernel
theorem dX8_layEarly_152 : decode cX8_layEarly 152 = .ok (.getfield 61, 3) := by decide +kernel
theorem dX8_layEarly_155 : decode cX8_layEarly 155 = .ok (.iadd, 1) := by decide +kernel
theorem dX8_layEarly_156 : decode cX8_layEarly 156 = .ok (.aload_n 0, 1) := by decide +kernel
theorem dX8_layEarly_157 : decode cX8_layEarly 157 = .ok (.aload_n 0, 1) := by decide +kernel
theorem dX8_layEarly_158 : decode cX8_layEarly 158 = .ok (.getfield 46, 3) := by decide +kernel
theorem dX8_layEarly_161 : decode cX8_layEarly 161 = .ok (.iload 4, 2) := by decide +kernel
theorem dX8_layEarly_163 : decode cX8_layEarly 163 = .ok (.iconst 1, 1) := by decide +kernel
theorem dX8_layEarly_164 : decode cX8_layEarly 164 = .ok (.isub, 1) := by decide +kernel
theorem dX8_layEarly_165 : decode cX8_layEarly 165 = .ok (.iaload, 1) := by decide +kernel
theorem dX8_layEarly_166 : decode cX8_layEarly 166 = .ok (.aload_n 0, 1) := by decide +kernel
theorem dX8_layEarly_167 : decode cX8_layEarly 167 = .ok (.getfield 46, 3) := by decide +kernel
theorem dX8_layEarly_170 : decode cX8_layEarly 170 = .ok (.iload 4, 2) := by decide +kernel
theorem dX8_layEarly_172 : decode cX8_layEarly 172 = .ok (.iaload, 1) := by decide +kernel
theorem dX8_layEarly_173 : decode cX8_layEarly 173 = .ok (.invokevirtual 93, 3) := by decide +kernel
theorem dX8_layEarly_176 : decode cX8_layEarly 176 = .ok (.iadd, 1) := by decide +kernel
theorem dX8_layEarly_177 : decode cX8_layEarly 177 = .ok (.istore 5, 2) := by decide +kernel
theorem dX8_layEarly_179 : decode cX8_layEarly 179 = .ok (.aload_n 0, 1) := by decide +kernel
theorem dX8_layEarly_180 : decode cX8_layEarly 180 = .ok (.getfield 46, 3) := by decide +kernel
theorem dX8_layEarly_183 : decode cX8_layEarly 183 = .ok (.iload 4, 2) := by decide +kernel
theorem dX8_layEarly_185 : decode cX8_layEarly 185 = .ok (.iaload, 1) := by decide +kernel
theorem dX8_layEarly_186 : decode cX8_layEarly 186 = .ok (.iconst 2, 1) := by decide +kernel
theorem dX8_layEarly_187 : decode cX8_layEarly 187 = .ok (.irem, 1) := by decide +kernel
theorem dX8_layEarly_188 : decode cX8_layEarly 188 = .ok (.ifCond .ne 59, 3) := by decide +kernel
theorem dX8_layEarly_191 : decode cX8_layEarly 191 = .ok (.aload_n 0, 1) := by decide +kernel
theorem dX8_layEarly_192 : decode cX8_layEarly 192 = .ok (.getfield 49, 3) := by decide +kernel
theorem dX8_layEarly_195 : decode cX8_layEarly 195 = .ok (.aload_n 0, 1) := by decide +kernel
theorem dX8_layEarly_196 : decode cX8_layEarly 196 = .ok (.aload_n 0, 1) := by decide +kernel
theorem dX8_layEarly_197 : decode cX8_layEarly 197 = .ok (.getfield 46, 3) := by decide +kernel
theorem dX8_layEarly_200 : decode cX8_layEarly 200 = .ok (.iload 4, 2) := by decide +kernel
theorem dX8_layEarly_202 : decode cX8_layEarly 202 = .ok (.iaload, 1) := by decide +kernel
theorem dX8_layEarly_203 : decode cX8_layEarly 203 = .ok (.iconst 1, 1) := by decide +kernel
theorem dX8_layEarly_204 : decode cX8_layEarly 204 = .ok (.iadd, 1) := by decide +kernel
theorem dX8_layEarly_205 : decode cX8_layEarly 205 = .ok (.invokevirtual 96, 3) := by decide +kernel
theorem dX8_layEarly_208 : decode cX8_layEarly 208 = .ok (.iaload, 1) := by decide +kernel
theorem dX8_layEarly_209 : decode cX8_layEarly 209 = .ok (.aload_n 0, 1) := by decide +kernel
theorem dX8_layEarly_210 : decode cX8_layEarly 210 = .ok (.getfield 40, 3) := by decide +kernel
theorem dX8_layEarly_213 : decode cX8_layEarly 213 = .ok (.aload_n 0, 1) := by decide +kernel
theorem dX8_layEarly_214 : decode cX8_layEarly 214 = .ok (.getfield 46, 3) := by decide +kernel
theorem dX8_layEarly_217 : decode cX8_layEarly 217 = .ok (.iload 4, 2) := by decide +kernel
theorem dX8_layEarly_219 : decode cX8_layEarly 219 = .ok (.iaload, 1) := by decide +kernel
theorem dX8_layEarly_220 : decode cX8_layEarly 220 = .ok (.iconst 2, 1) := by decide +kernel
theorem dX8_layEarly_221 : decode cX8_layEarly 221 = .ok (.idiv, 1) := by decide +kernel
theorem dX8_layEarly_222 : decode cX8_layEarly 222 = .ok (.iaload, 1) := by decide +kernel
theorem dX8_layEarly_223 : decode cX8_layEarly 223 = .ok (.isub, 1) := by decide +kernel
theorem dX8_layEarly_224 : decode cX8_layEarly 224 = .ok (.aload_n 0, 1) := by decide +kernel
theorem dX8_layEarly_225 : decode cX8_layEarly 225 = .ok (.getfield 61, 3) := by decide +kernel
theorem dX8_layEarly_228 : decode cX8_layEarly 228 = .ok (.isub, 1) := by decide +kernel
theorem dX8_layEarly_229 : decode cX8_layEarly 229 = .ok (.istore 6, 2) := by decide +kernel
theorem dX8_layEarly_231 : decode cX8_layEarly 231 = .ok (.iload 6, 2) := by decide +kernel
theorem dX8_layEarly_233 : decode cX8_layEarly 233 = .ok (.iload 5, 2) := by decide +kernel
theorem dX8_layEarly_235 : decode cX8_layEarly 235 = .ok (.if_icmp .le 8, 3) := by decide +kernel
theorem dX8_layEarly_238 : decode cX8_layEarly 238 = .ok (.iload 6, 2) := by decide +kernel
theorem dX8_layEarly_240 : decode cX8_layEarly 240 = .ok (.goto 5, 3) := by decide +kernel
theorem dX8_layEarly_243 : decode cX8_layEarly 243 = .ok (.iload 5, 2) := by decide +kernel
theorem dX8_layEarly_245 : decode cX8_layEarly 245 = .ok (.istore 5, 2) := by decide +kernel
theorem dX8_layEarly_247 : decode cX8_layEarly 247 = .ok (.iload 5, 2) := by decide +kernel
theorem dX8_layEarly_249 : decode cX8_layEarly 249 = .ok (.aload_n 0, 1) := by decide +kernel
theorem dX8_layEarly_250 : decode cX8_layEarly 250 = .ok (.getfield 49, 3) := by decide +kernel
theorem dX8_layEarly_253 : decode cX8_layEarly 253 = .ok (.iload 4, 2) := by decide +kernel
theorem dX8_layEarly_255 : decode cX8_layEarly 255 = .ok (.iaload, 1) := by decide +kernel
theorem dX8_layEarly_256 : decode cX8_layEarly 256 = .ok (.if_icmp .le 14, 3) := by decide +kernel
theorem dX8_layEarly_259 : decode cX8_layEarly 259 = .ok (.aload_n 0, 1) := by decide +kernel
theorem dX8_layEarly_260 : decode cX8_layEarly 260 = .ok (.getfield 49, 3) := by decide +kernel
theorem dX8_layEarly_263 : decode cX8_layEarly 263 = .ok (.iload 4, 2) := by decide +kernel
theorem dX8_layEarly_265 : decode cX8_layEarly 265 = .ok (.iload 5, 2) := by decide +kernel
theorem dX8_layEarly_267 : decode cX8_layEarly 267 = .ok (.iastore, 1) := by decide +kernel
theorem dX8_layEarly_268 : decode cX8_layEarly 268 = .ok (.iconst 1, 1) := by decide +kernel
theorem dX8_layEarly_269 : decode cX8_layEarly 269 = .ok (.istore_n 2, 1) := by decide +kernel
theorem dX8_layEarly_270 : decode cX8_layEarly 270 = .ok (.aload_n 0, 1) := by decide +kernel
theorem dX8_layEarly_271 : decode cX8_layEarly 271 = .ok (.getfield 49, 3) := by decide +kernel
theorem dX8_layEarly_274 : decode cX8_layEarly 274 = .ok (.iload 4, 2) := by decide +kernel
theorem dX8_layEarly_276 : decode cX8_layEarly 276 = .ok (.iaload, 1) := by decide +kernel
theorem dX8_layEarly_277 : decode cX8_layEarly 277 = .ok (.aload_n 0, 1) := by decide +kernel
theorem dX8_layEarly_278 : decode cX8_layEarly 278 = .ok (.getfield 34, 3) := by decide +kernel
theorem dX8_layEarly_281 : decode cX8_layEarly 281 = .ok (.aload_n 0, 1) := by decide +kernel
theorem dX8_layEarly_282 : decode cX8_layEarly 282 = .ok (.getfield 46, 3) := by decide +kernel
theorem dX8_layEarly_285 : decode cX8_layEarly 285 = .ok (.iload 4, 2) := by decide +kernel
theorem dX8_layEarly_287 : decode cX8_layEarly 287 = .ok (.iaload, 1) := by decide +kernel
theorem dX8_layEarly_288 : decode cX8_layEarly 288 = .ok (.iaload, 1) := by decide +kernel
theorem dX8_layEarly_289 : decode cX8_layEarly 289 = .ok (.if_icmp .le 5, 3) := by decide +kernel
theorem dX8_layEarly_292 : decode cX8_layEarly 292 = .ok (.iconst 0, 1) := by decide +kernel
theorem dX8_layEarly_293 : decode cX8_layEarly 293 = .ok (.ireturn, 1) := by decide +kernel
theorem dX8_layEarly_294 : decode cX8_layEarly 294 = .ok (.iinc 4 1, 3) := by decide +kernel
theorem dX8_layEarly_297 : decode cX8_layEarly 297 = .ok (.goto (-178), 3) := by decide +kernel
theorem dX8_layEarly_300 : decode cX8_layEarly 300 = .ok (.goto (-205), 3) := by decide +kernel
theorem dX8_layEarly_303 : decode cX8_layEarly 303 = .ok (.aload_n 0, 1) := by decide +kernel
theorem dX8_layEarly_304 : decode cX8_layEarly 304 = .ok (.getfield 82, 3) := by decide +kernel
theorem dX8_layEarly_307 : decode cX8_layEarly 307 = .ok (.ifCond .eq 45, 3) := by decide +kernel
theorem dX8_layEarly_310 : decode cX8_layEarly 310 = .ok (.aload_n 0, 1) := by decide +kernel
theorem dX8_layEarly_311 : decode cX8_layEarly 311 = .ok (.getfield 49, 3) := by decide +kernel
theorem dX8_layEarly_314 : decode cX8_layEarly 314 = .ok (.aload_n 0, 1) := by decide +kernel
theorem dX8_layEarly_315 : decode cX8_layEarly 315 = .ok (.getfield 82, 3) := by decide +kernel
theorem dX8_layEarly_318 : decode cX8_layEarly 318 = .ok (.iconst 1, 1) := by decide +kernel
theorem dX8_layEarly_319 : decode cX8_layEarly 319 = .ok (.isub, 1) := by decide +kernel
theorem dX8_layEarly_320 : decode cX8_layEarly 320 = .ok (.iaload, 1) := by decide +kernel
theorem dX8_layEarly_321 : decode cX8_layEarly 321 = .ok (.aload_n 0, 1) := by decide +kernel
theorem dX8_layEarly_322 : decode cX8_layEarly 322 = .ok (.getfield 61, 3) := by decide +kernel
theorem dX8_layEarly_325 : decode cX8_layEarly 325 = .ok (.iadd, 1) := by decide +kernel
theorem dX8_layEarly_326 : decode cX8_layEarly 326 = .ok (.aload_n 0, 1) := by decide +kernel
theorem dX8_layEarly_327 : decode cX8_layEarly 327 = .ok (.iload_n 1, 1) := by decide +kernel
theorem dX8_layEarly_328 : decode cX8_layEarly 328 = .ok (.aload_n 0, 1) := by decide +kernel
theorem dX8_layEarly_329 : decode cX8_layEarly 329 = .ok (.getfield 46, 3) := by decide +kernel
theorem dX8_layEarly_332 : decode cX8_layEarly 332 = .ok (.aload_n 0, 1) := by decide +kernel
theorem dX8_layEarly_333 : decode cX8_layEarly 333 = .ok (.getfield 82, 3) := by decide +kernel
theorem dX8_layEarly_336 : decode cX8_layEarly 336 = .ok (.iconst 1, 1) := by decide +kernel
theorem dX8_layEarly_337 : decode cX8_layEarly 337 = .ok (.isub, 1) := by decide +kernel
theorem dX8_layEarly_338 : decode cX8_layEarly 338 = .ok (.iaload, 1) := by decide +kernel
theorem dX8_layEarly_339 : decode cX8_layEarly 339 = .ok (.invokevirtual 89, 3) := by decide +kernel
theorem dX8_layEarly_342 : decode cX8_layEarly 342 = .ok (.iadd, 1) := by decide +kernel
theorem dX8_layEarly_343 : decode cX8_layEarly 343 = .ok (.aload_n 0, 1) := by decide +kernel
theorem dX8_layEarly_344 : decode cX8_layEarly 344 = .ok (.getfield 22, 3) := by decide +kernel
theorem dX8_layEarly_347 : decode cX8_layEarly 347 = .ok (.iload_n 1, 1) := by decide +kernel
theorem dX8_layEarly_348 : decode cX8_layEarly 348 = .ok (.iaload, 1) := by decide +kernel
theorem dX8_layEarly_349 : decode cX8_layEarly 349 = .ok (.if_icmp .gt 7, 3) := by decide +kernel
theorem dX8_layEarly_352 : decode cX8_layEarly 352 = .ok (.iconst 1, 1) := by decide +kernel
theorem dX8_layEarly_353 : decode cX8_layEarly 353 = .ok (.goto 4, 3) := by decide +kernel
theorem dX8_layEarly_356 : decode cX8_layEarly 356 = .ok (.iconst 0, 1) := by decide +kernel
theorem dX8_layEarly_357 : decode cX8_layEarly 357 = .ok (.ireturn, 1) := by decide +kernel
theorem dX8_layLate_0 : decode cX8_layLate 0 = .ok (.iconst 0, 1) := by decide +kernel
theorem dX8_layLate_1 : decode cX8_layLate 1 = .ok (.istore_n 2, 1) := by decide +kernel
theorem dX8_layLate_2 : decode cX8_layLate 2 = .ok (.iload_n 2, 1) := by decide +kernel
theorem dX8_layLate_3 : decode cX8_layLate 3 = .ok (.aload_n 0, 1) := by decide +kernel
theorem dX8_layLate_4 : decode cX8_layLate 4 = .ok (.getfield 82, 3) := by decide +kernel
theorem dX8_layLate_7 : decode cX8_layLate 7 = .ok (.if_icmp .ge 26, 3) := by decide +kernel
theorem dX8_layLate_10 : decode cX8_layLate 10 = .ok (.aload_n 0, 1) := by decide +kernel
theorem dX8_layLate_11 : decode cX8_layLate 11 = .ok (.getfield 52, 3) := by decide +kernel
theorem dX8_layLate_14 : decode cX8_layLate 14 = .ok (.iload_n 2, 1) := by decide +kernel
theorem dX8_layLate_15 : decode cX8_layLate 15 = .ok (.aload_n 0, 1) := by decide +kernel
theorem dX8_layLate_16 : decode cX8_layLate 16 = .ok (.getfield 34, 3) := by decide +kernel
theorem dX8_layLate_19 : decode cX8_layLate 19 = .ok (.aload_n 0, 1) := by decide +kernel
theorem dX8_layLate_20 : decode cX8_layLate 20 = .ok (.getfield 46, 3) := by decide +kernel
theorem dX8_layLate_23 : decode cX8_layLate 23 = .ok (.iload_n 2, 1) := by decide +kernel
theorem dX8_layLate_24 : decode cX8_layLate 24 = .ok (.iaload, 1) := by decide +kernel
theorem dX8_layLate_25 : decode cX8_layLate 25 = .ok (.iaload, 1) := by decide +kernel
theorem dX8_layLate_26 : decode cX8_layLate 26 = .ok (.iastore, 1) := by decide +kernel
theorem dX8_layLate_27 : decode cX8_layLate 27 = .ok (.iinc 2 1, 3) := by decide +kernel
theorem dX8_layLate_30 : decode cX8_layLate 30 = .ok (.goto (-28), 3) := by decide +kernel
theorem dX8_layLate_33 : decode cX8_layLate 33 = .ok (.aload_n 0, 1) := by decide +kernel
theorem dX8_layLate_34 : decode cX8_layLate 34 = .ok (.getfield 82, 3) := by decide +kernel
theorem dX8_layLate_37 : decode cX8_layLate 37 = .ok (.ifCond .ne 7, 3) := by decide +kernel
theorem dX8_layLate_40 : decode cX8_layLate 40 = .ok (.iconst 0, 1) := by decide +kernel
theorem dX8_layLate_41 : decode cX8_layLate 41 = .ok (.goto 31, 3) := by decide +kernel
theorem dX8_layLate_44 : decode cX8_layLate 44 = .ok (.aload_n 0, 1) := by decide +kernel
theorem dX8_layLate_45 : decode cX8_layLate 45 = .ok (.getfield 22, 3) := by decide +kernel
theorem dX8_layLate_48 : decode cX8_layLate 48 = .ok (.iload_n 1, 1) := by decide +kernel
theorem dX8_layLate_49 : decode cX8_layLate 49 = .ok (.iaload, 1) := by decide +kernel
theorem dX8_layLate_50 : decode cX8_layLate 50 = .ok (.aload_n 0, 1) := by decide +kernel
theorem dX8_layLate_51 : decode cX8_layLate 51 = .ok (.getfield 61, 3) := by decide +kernel
theorem dX8_layLate_54 : decode cX8_layLate 54 = .ok (.isub, 1) := by decide +kernel
theorem dX8_layLate_55 : decode cX8_layLate 55 = .ok (.aload_n 0, 1) := by decide +kernel
theorem dX8_layLate_56 : decode cX8_layLate 56 = .ok (.iload_n 1, 1) := by decide +kernel
theorem dX8_layLate_57 : decode cX8_layLate 57 = .ok (.aload_n 0, 1) := by decide +kernel
theorem dX8_layLate_58 : decode cX8_layLate 58 = .ok (.getfield 46, 3) := by decide +kernel
theorem dX8_layLate_61 : decode cX8_layLate 61 = .ok (.aload_n 0, 1) := by decide +kernel
theorem dX8_layLate_62 : decode cX8_layLate 62 = .ok (.getfield 82, 3) := by decide +kernel
theorem dX8_layLate_65 : decode cX8_layLate 65 = .ok (.iconst 1, 1) := by decide +kernel
theorem dX8_layLate_66 : decode cX8_layLate 66 = .ok (.isub, 1) := by decide +kernel
theorem dX8_layLate_67 : decode cX8_layLate 67 = .ok (.iaload, 1) := by decide +kernel
theorem dX8_layLate_68 : decode cX8_layLate 68 = .ok (.invokevirtual 89, 3) := by decide +kernel
theorem dX8_layLate_71 : decode cX8_layLate 71 = .ok (.isub, 1) := by decide +kernel
theorem dX8_layLate_72 : decode cX8_layLate 72 = .ok (.istore_n 2, 1) := by decide +kernel
theorem dX8_layLate_73 : decode cX8_layLate 73 = .ok (.aload_n 0, 1) := by decide +kernel
theorem dX8_layLate_74 : decode cX8_layLate 74 = .ok (.getfield 82, 3) := by decide +kernel
theorem dX8_layLate_77 : decode cX8_layLate 77 = .ok (.ifCond .le 30, 3) := by decide +kernel
theorem dX8_layLate_80 : decode cX8_layLate 80 = .ok (.aload_n 0, 1) := by decide +kernel
theorem dX8_layLate_81 : decode cX8_layLate 81 = .ok (.getfield 52, 3) := by decide +kernel
theorem dX8_layLate_84 : decode cX8_layLate 84 = .ok (.aload_n 0, 1) := by decide +kernel
theorem dX8_layLate_85 : decode cX8_layLate 85 = .ok (.getfield 82, 3) := by decide +kernel
theorem dX8_layLate_88 : decode cX8_layLate 88 = .ok (.iconst 1, 1) := by decide +kernel
theorem dX8_layLate_89 : decode cX8_layLate 89 = .ok (.isub, 1) := by decide +kernel
theorem dX8_layLate_90 : decode cX8_layLate 90 = .ok (.iaload, 1) := by decide +kernel
theorem dX8_layLate_91 : decode cX8_layLate 91 = .ok (.iload_n 2, 1) := by decide +kernel
theorem dX8_layLate_92 : decode cX8_layLate 92 = .ok (.if_icmp .le 15, 3) := by decide +kernel
theorem dX8_layLate_95 : decode cX8_layLate 95 = .ok (.aload_n 0, 1) := by decide +kernel
theorem dX8_layLate_96 : decode cX8_layLate 96 = .ok (.getfield 52, 3) := by decide +kernel
theorem dX8_layLate_99 : decode cX8_layLate 99 = .ok (.aload_n 0, 1) := by decide +kernel
theorem dX8_layLate_100 : decode cX8_layLate 100 = .ok (.getfield 82, 3) := by decide +kernel
theorem dX8_layLate_103 : decode cX8_layLate 103 = .ok (.iconst 1, 1) := by decide +kernel
theorem dX8_layLate_104 : decode cX8_layLate 104 = .ok (.isub, 1) := by decide +kernel
theorem dX8_layLate_105 : decode cX8_layLate 105 = .ok (.iload_n 2, 1) := by decide +kernel
theorem dX8_layLate_106 : decode cX8_layLate 106 = .ok (.iastore, 1) := by decide +kernel
theorem dX8_layLate_107 : decode cX8_layLate 107 = .ok (.iconst 1, 1) := by decide +kernel
theorem dX8_layLate_108 : decode cX8_layLate 108 = .ok (.istore_n 3, 1) := by decide +kernel
theorem dX8_layLate_109 : decode cX8_layLate 109 = .ok (.iload_n 3, 1) := by decide +kernel
theorem dX8_layLate_110 : decode cX8_layLate 110 = .ok (.ifCond .eq 177, 3) := by decide +kernel
theorem dX8_layLate_113 : decode cX8_layLate 113 = .ok (.iconst 0, 1) := by decide +kernel
theorem dX8_layLate_114 : decode cX8_layLate 114 = .ok (.istore_n 3, 1) := by decide +kernel
theorem dX8_layLate_115 : decode cX8_layLate 115 = .ok (.aload_n 0, 1) := by decide +kernel
theorem dX8_layLate_116 : decode cX8_layLate 116 = .ok (.getfield 82, 3) := by decide +kernel
theorem dX8_layLate_119 : decode cX8_layLate 119 = .ok (.iconst 1, 1) := by decide +kernel
theorem dX8_layLate_120 : decode cX8_layLate 120 = .ok (.isub, 1) := by decide +kernel
theorem dX8_layLate_121 : decode cX8_layLate 121 = .ok (.istore 4, 2) := by decide +kernel
theorem dX8_layLate_123 : decode cX8_layLate 123 = .ok (.iload 4, 2) := by decide +kernel
theorem dX8_layLate_125 : decode cX8_layLate 125 = .ok (.ifCond .lt 159, 3) := by decide +kernel
theorem dX8_layLate_128 : decode cX8_layLate 128 = .ok (.iload 4, 2) := by decide +kernel
theorem dX8_layLate_130 : decode cX8_layLate 130 = .ok (.aload_n 0, 1) := by decide +kernel
theorem dX8_layLate_131 : decode cX8_layLate 131 = .ok (.getfield 82, 3) := by decide +kernel
theorem dX8_layLate_134 : decode cX8_layLate 134 = .ok (.iconst 1, 1) := by decide +kernel
theorem dX8_layLate_135 : decode cX8_layLate 135 = .ok (.isub, 1) := by decide +kernel
theorem dX8_layLate_136 : decode cX8_layLate 136 = .ok (.if_icmp .ne 13, 3) := by decide +kernel
theorem dX8_layLate_139 : decode cX8_layLate 139 = .ok (.aload_n 0, 1) := by decide +kernel
theorem dX8_layLate_140 : decode cX8_layLate 140 = .ok (.getfield 52, 3) := by decide +kernel
theorem dX8_layLate_143 : decode cX8_layLate 143 = .ok (.iload 4, 2) := by decide +kernel
theorem dX8_layLate_145 : decode cX8_layLate 145 = .ok (.iaload, 1) := by decide +kernel
theorem dX8_layLate_146 : decode cX8_layLate 146 = .ok (.goto 38, 3) := by decide +kernel
theorem dX8_layLate_149 : decode cX8_layLate 149 = .ok (.aload_n 0, 1) := by decide +kernel
theorem dX8_layLate_150 : decode cX8_layLate 150 = .ok (.getfield 52, 3) := by decide +kernel
theorem dX8_layLate_153 : decode cX8_layLate 153 = .ok (.iload 4, 2) := by decide +kernel
theorem dX8_layLate_155 : decode cX8_layLate 155 = .ok (.iconst 1, 1) := by decide +kernel
theorem dX8_layLate_156 : decode cX8_layLate 156 = .ok (.iadd, 1) := by decide +kernel
theorem dX8_layLate_157 : decode cX8_layLate 157 = .ok (.iaload, 1) := by decide +kernel
theorem dX8_layLate_158 : decode cX8_layLate 158 = .ok (.aload_n 0, 1) := by decide +kernel
theorem dX8_layLate_159 : decode cX8_layLate 159 = .ok (.getfield 61, 3) := by decide +kernel
theorem dX8_layLate_162 : decode cX8_layLate 162 = .ok (.isub, 1) := by decide +kernel
theorem dX8_layLate_163 : decode cX8_layLate 163 = .ok (.aload_n 0, 1) := by decide +kernel
theorem dX8_layLate_164 : decode cX8_layLate 164 = .ok (.aload_n 0, 1) := by decide +kernel
theorem dX8_layLate_165 : decode cX8_layLate 165 = .ok (.getfield 46, 3) := by decide +kernel
theorem dX8_layLate_168 : decode cX8_layLate 168 = .ok (.iload 4, 2) := by decide +kernel
theorem dX8_layLate_170 : decode cX8_layLate 170 = .ok (.iaload, 1) := by decide +kernel
theorem dX8_layLate_171 : decode cX8_layLate 171 = .ok (.aload_n 0, 1) := by decide +kernel
theorem dX8_layLate_172 : decode cX8_layLate 172 = .ok (.getfield 46, 3) := by decide +kernel
theorem dX8_layLate_175 : decode cX8_layLate 175 = .ok (.iload 4, 2) := by decide +kernel
theorem dX8_layLate_177 : decode cX8_layLate 177 = .ok (.iconst 1, 1) := by decide +kernel
theorem dX8_layLate_178 : decode cX8_layLate 178 = .ok (.iadd, 1) := by decide +kernel
theorem dX8_layLate_179 : decode cX8_layLate 179 = .ok (.iaload, 1) := by decide +kernel
theorem dX8_layLate_180 : decode cX8_layLate 180 = .ok (.invokevirtual 93, 3) := by decide +kernel
theorem dX8_layLate_183 : decode cX8_layLate 183 = .ok (.isub, 1) := by decide +kernel
theorem dX8_layLate_184 : decode cX8_layLate 184 = .ok (.istore 5, 2) := by decide +kernel
theorem dX8_layLate_186 : decode cX8_layLate 186 = .ok (.aload_n 0, 1) := by decide +kernel
theorem dX8_layLate_187 : decode cX8_layLate 187 = .ok (.getfield 46, 3) := by decide +kernel
theorem dX8_layLate_190 : decode cX8_layLate 190 = .ok (.iload 4, 2) := by decide +kernel
theorem dX8_layLate_192 : decode cX8_layLate 192 = .ok (.iaload, 1) := by decide +kernel
theorem dX8_layLate_193 : decode cX8_layLate 193 = .ok (.iconst 2, 1) := by decide +kernel
theorem dX8_layLate_194 : decode cX8_layLate 194 = .ok (.irem, 1) := by decide +kernel
theorem dX8_layLate_195 : decode cX8_layLate 195 = .ok (.iconst 1, 1) := by decide +kernel
theorem dX8_layLate_196 : decode cX8_layLate 196 = .ok (.if_icmp .ne 59, 3) := by decide +kernel
theorem dX8_layLate_199 : decode cX8_layLate 199 = .ok (.aload_n 0, 1) := by decide +kernel
theorem dX8_layLate_200 : decode cX8_layLate 200 = .ok (.getfield 52, 3) := by decide +kernel
theorem dX8_layLate_203 : decode cX8_layLate 203 = .ok (.aload_n 0, 1) := by decide +kernel
theorem dX8_layLate_204 : decode cX8_layLate 204 = .ok (.aload_n 0, 1) := by decide +kernel
theorem dX8_layLate_205 : decode cX8_layLate 205 = .ok (.getfield 46, 3) := by decide +kernel
theorem dX8_layLate_208 : decode cX8_layLate 208 = .ok (.iload 4, 2) := by decide +kernel
theorem dX8_layLate_210 : decode cX8_layLate 210 = .ok (.iaload, 1) := by decide +kernel
theorem dX8_layLate_211 : decode cX8_layLate 211 = .ok (.iconst 1, 1) := by decide +kernel
theorem dX8_layLate_212 : decode cX8_layLate 212 = .ok (.isub, 1) := by decide +kernel
theorem dX8_layLate_213 : decode cX8_layLate 213 = .ok (.invokevirtual 96, 3) := by decide +kernel
theorem dX8_layLate_216 : decode cX8_layLate 216 = .ok (.iaload, 1) := by decide +kernel
theorem dX8_layLate_217 : decode cX8_layLate 217 = .ok (.aload_n 0, 1) := by decide +kernel
theorem dX8_layLate_218 : decode cX8_layLate 218 = .ok (.getfield 61, 3) := by decide +kernel
theorem dX8_layLate_221 : decode cX8_layLate 221 = .ok (.iadd, 1) := by decide +kernel
theorem dX8_layLate_222 : decode cX8_layLate 222 = .ok (.aload_n 0, 1) := by decide +kernel
theorem dX8_layLate_223 : decode cX8_layLate 223 = .ok (.getfield 40, 3) := by decide +kernel
theorem dX8_layLate_226 : decode cX8_layLate 226 = .ok (.aload_n 0, 1) := by decide +kernel
theorem dX8_layLate_227 : decode cX8_layLate 227 = .ok (.getfield 46, 3) := by decide +kernel
theorem dX8_layLate_230 : decode cX8_layLate 230 = .ok (.iload 4, 2) := by decide +kernel
theorem dX8_layLate_232 : decode cX8_layLate 232 = .ok (.iaload, 1) := by decide +kernel
theorem dX8_layLate_233 : decode cX8_layLate 233 = .ok (.iconst 2, 1) := by decide +kernel
theorem dX8_layLate_234 : decode cX8_layLate 234 = .ok (.idiv, 1) := by decide +kernel
theorem dX8_layLate_235 : decode cX8_layLate 235 = .ok (.iaload, 1) := by decide +kernel
theorem dX8_layLate_236 : decode cX8_layLate 236 = .ok (.iadd, 1) := by decide +kernel
theorem dX8_layLate_237 : decode cX8_layLate 237 = .ok (.istore 6, 2) := by decide +kernel
theorem dX8_layLate_239 : decode cX8_layLate 239 = .ok (.iload 6, 2) := by decide +kernel
theorem dX8_layLate_241 : decode cX8_layLate 241 = .ok (.iload 5, 2) := by decide +kernel
theorem dX8_layLate_243 : decode cX8_layLate 243 = .ok (.if_icmp .ge 8, 3) := by decide +kernel
theorem dX8_layLate_246 : decode cX8_layLate 246 = .ok (.iload 6, 2) := by decide +kernel
theorem dX8_layLate_248 : decode cX8_layLate 248 = .ok (.goto 5, 3) := by decide +kernel
theorem dX8_layLate_251 : decode cX8_layLate 251 = .ok (.iload 5, 2) := by decide +kernel
theorem dX8_layLate_253 : decode cX8_layLate 253 = .ok (.istore 5, 2) := by decide +kernel
theorem dX8_layLate_255 : decode cX8_layLate 255 = .ok (.iload 5, 2) := by decide +kernel
theorem dX8_layLate_257 : decode cX8_layLate 257 = .ok (.aload_n 0, 1) := by decide +kernel
theorem dX8_layLate_258 : decode cX8_layLate 258 = .ok (.getfield 52, 3) := by decide +kernel
theorem dX8_layLate_261 : decode cX8_layLate 261 = .ok (.iload 4, 2) := by decide +kernel
theorem dX8_layLate_263 : decode cX8_layLate 263 = .ok (.iaload, 1) := by decide +kernel
theorem dX8_layLate_264 : decode cX8_layLate 264 = .ok (.if_icmp .ge 14, 3) := by decide +kernel
theorem dX8_layLate_267 : decode cX8_layLate 267 = .ok (.aload_n 0, 1) := by decide +kernel
theorem dX8_layLate_268 : decode cX8_layLate 268 = .ok (.getfield 52, 3) := by decide +kernel
theorem dX8_layLate_271 : decode cX8_layLate 271 = .ok (.iload 4, 2) := by decide +kernel
theorem dX8_layLate_273 : decode cX8_layLate 273 = .ok (.iload 5, 2) := by decide +kernel
theorem dX8_layLate_275 : decode cX8_layLate 275 = .ok (.iastore, 1) := by decide +kernel
theorem dX8_layLate_276 : decode cX8_layLate 276 = .ok (.iconst 1, 1) := by decide +kernel
theorem dX8_layLate_277 : decode cX8_layLate 277 = .ok (.istore_n 3, 1) := by decide +kernel
theorem dX8_layLate_278 : decode cX8_layLate 278 = .ok (.iinc 4 (-1), 3) := by decide +kernel
theorem dX8_layLate_281 : decode cX8_layLate 281 = .ok (.goto (-158), 3) := by decide +kernel
theorem dX8_layLate_284 : decode cX8_layLate 284 = .ok (.goto (-175), 3) := by decide +kernel
theorem dX8_layLate_287 : decode cX8_layLate 287 = .ok (.return_, 1) := by decide +kernel
theorem dX8_isFeasible_0 : decode cX8_isFeasible 0 = .ok (.aload_n 0, 1) := by decide +kernel
theorem dX8_isFeasible_1 : decode cX8_isFeasible 1 = .ok (.invokevirtual 99, 3) := by decide +kernel
theorem dX8_isFeasible_4 : decode cX8_isFeasible 4 = .ok (.aload_n 0, 1) := by decide +kernel
theorem dX8_isFeasible_5 : decode cX8_isFeasible 5 = .ok (.getfield 16, 3) := by decide +kernel
theorem dX8_isFeasible_8 : decode cX8_isFeasible 8 = .ok (.iload_n 1, 1) := by decide +kernel
theorem dX8_isFeasible_9 : decode cX8_isFeasible 9 = .ok (.iaload, 1) := by decide +kernel
theorem dX8_isFeasible_10 : decode cX8_isFeasible 10 = .ok (.if_icmp .gt 15, 3) := by decide +kernel
theorem dX8_isFeasible_13 : decode cX8_isFeasible 13 = .ok (.aload_n 0, 1) := by decide +kernel
theorem dX8_isFeasible_14 : decode cX8_isFeasible 14 = .ok (.iload_n 1, 1) := by decide +kernel
theorem dX8_isFeasible_15 : decode cX8_isFeasible 15 = .ok (.invokevirtual 103, 3) := by decide +kernel
theorem dX8_isFeasible_18 : decode cX8_isFeasible 18 = .ok (.ifCond .eq 7, 3) := by decide +kernel
theorem dX8_isFeasible_21 : decode cX8_isFeasible 21 = .ok (.iconst 1, 1) := by decide +kernel
theorem dX8_isFeasible_22 : decode cX8_isFeasible 22 = .ok (.goto 4, 3) := by decide +kernel
theorem dX8_isFeasible_25 : decode cX8_isFeasible 25 = .ok (.iconst 0, 1) := by decide +kernel
theorem dX8_isFeasible_26 : decode cX8_isFeasible 26 = .ok (.ireturn, 1) := by decide +kernel
theorem dX8_isRowFeasible_0 : decode cX8_isRowFeasible 0 = .ok (.aload_n 0, 1) := by decide +kernel
theorem dX8_isRowFeasible_1 : decode cX8_isRowFeasible 1 = .ok (.iload_n 1, 1) := by decide +kernel
theorem dX8_isRowFeasible_2 : decode cX8_isRowFeasible 2 = .ok (.invokevirtual 107, 3) := by decide +kernel
theorem dX8_isRowFeasible_5 : decode cX8_isRowFeasible 5 = .ok (.aload_n 0, 1) := by decide +kernel
theorem dX8_isRowFeasible_6 : decode cX8_isRowFeasible 6 = .ok (.iload_n 1, 1) := by decide +kernel
theorem dX8_isRowFeasible_7 : decode cX8_isRowFeasible 7 = .ok (.invokevirtual 111, 3) := by decide +kernel
theorem dX8_isRowFeasible_10 : decode cX8_isRowFeasible 10 = .ok (.ireturn, 1) := by decide +kernel
theorem dX8_staysFeasible_0 : decode cX8_staysFeasible 0 = .ok (.aload_n 0, 1) := by decide +kernel
theorem dX8_staysFeasible_1 : decode cX8_staysFeasible 1 = .ok (.iload_n 1, 1) := by decide +kernel
theorem dX8_staysFeasible_2 : decode cX8_staysFeasible 2 = .ok (.invokevirtual 114, 3) := by decide +kernel
theorem dX8_staysFeasible_5 : decode cX8_staysFeasible 5 = .ok (.istore_n 2, 1) := by decide +kernel
theorem dX8_staysFeasible_6 : decode cX8_staysFeasible 6 = .ok (.iload_n 2, 1) := by decide +kernel
theorem dX8_staysFeasible_7 : decode cX8_staysFeasible 7 = .ok (.ifCond .lt 11, 3) := by decide +kernel
theorem dX8_staysFeasible_10 : decode cX8_staysFeasible 10 = .ok (.aload_n 0, 1) := by decide +kernel
theorem dX8_staysFeasible_11 : decode cX8_staysFeasible 11 = .ok (.iload_n 2, 1) := by decide +kernel
theorem dX8_staysFeasible_12 : decode cX8_staysFeasible 12 = .ok (.invokevirtual 117, 3) := by decide +kernel
theorem dX8_staysFeasible_15 : decode cX8_staysFeasible 15 = .ok (.ifCond .eq 7, 3) := by decide +kernel
theorem dX8_staysFeasible_18 : decode cX8_staysFeasible 18 = .ok (.iconst 1, 1) := by decide +kernel
theorem dX8_staysFeasible_19 : decode cX8_staysFeasible 19 = .ok (.goto 4, 3) := by decide +kernel
theorem dX8_staysFeasible_22 : decode cX8_staysFeasible 22 = .ok (.iconst 0, 1) := by decide +kernel
theorem dX8_staysFeasible_23 : decode cX8_staysFeasible 23 = .ok (.ireturn, 1) := by decide +kernel
theorem dX8_setWindow_0 : decode cX8_setWindow 0 = .ok (.aload_n 0, 1) := by decide +kernel
theorem dX8_setWindow_1 : decode cX8_setWindow 1 = .ok (.iload_n 1, 1) := by decide +kernel
theorem dX8_setWindow_2 : decode cX8_setWindow 2 = .ok (.invokevirtual 120, 3) := by decide +kernel
theorem dX8_setWindow_5 : decode cX8_setWindow 5 = .ok (.ifCond .eq 7, 3) := by decide +kernel
theorem dX8_setWindow_8 : decode cX8_setWindow 8 = .ok (.sipush (-1001), 3) := by decide +kernel
theorem dX8_setWindow_11 : decode cX8_setWindow 11 = .ok (.ireturn, 1) := by decide +kernel
theorem dX8_setWindow_12 : decode cX8_setWindow 12 = .ok (.iload_n 3, 1) := by decide +kernel
theorem dX8_setWindow_13 : decode cX8_setWindow 13 = .ok (.iconst 0, 1) := by decide +kernel
theorem dX8_setWindow_14 : decode cX8_setWindow 14 = .ok (.sipush 5000, 3) := by decide +kernel
theorem dX8_setWindow_17 : decode cX8_setWindow 17 = .ok (.invokestatic 65, 3) := by decide +kernel
theorem dX8_setWindow_20 : decode cX8_setWindow 20 = .ok (.ifCond .eq 15, 3) := by decide +kernel
theorem dX8_setWindow_23 : decode cX8_setWindow 23 = .ok (.iload 4, 2) := by decide +kernel
theorem dX8_setWindow_25 : decode cX8_setWindow 25 = .ok (.iload_n 3, 1) := by decide +kernel
theorem dX8_setWindow_26 : decode cX8_setWindow 26 = .ok (.sipush 5000, 3) := by decide +kernel
theorem dX8_setWindow_29 : decode cX8_setWindow 29 = .ok (.invokestatic 65, 3) := by decide +kernel
theorem dX8_setWindow_32 : decode cX8_setWindow 32 = .ok (.ifCond .ne 7, 3) := by decide +kernel
theorem dX8_setWindow_35 : decode cX8_setWindow 35 = .ok (.sipush (-1002), 3) := by decide +kernel
theorem dX8_setWindow_38 : decode cX8_setWindow 38 = .ok (.ireturn, 1) := by decide +kernel
theorem dX8_setWindow_39 : decode cX8_setWindow 39 = .ok (.iconst 2, 1) := by decide +kernel
theorem dX8_setWindow_40 : decode cX8_setWindow 40 = .ok (.iload_n 1, 1) := by decide +kernel
theorem dX8_setWindow_41 : decode cX8_setWindow 41 = .ok (.imul, 1) := by decide +kernel
theorem dX8_setWindow_42 : decode cX8_setWindow 42 = .ok (.iload_n 2, 1) := by decide +kernel
theorem dX8_setWindow_43 : decode cX8_setWindow 43 = .ok (.ifCond .eq 7, 3) := by decide +kernel
theorem dX8_setWindow_46 : decode cX8_setWindow 46 = .ok (.iconst 1, 1) := by decide +kernel
theorem dX8_setWindow_47 : decode cX8_setWindow 47 = .ok (.goto 4, 3) := by decide +kernel
theorem dX8_setWindow_50 : decode cX8_setWindow 50 = .ok (.iconst 0, 1) := by decide +kernel
theorem dX8_setWindow_51 : decode cX8_setWindow 51 = .ok (.iadd, 1) := by decide +kernel
theorem dX8_setWindow_52 : decode cX8_setWindow 52 = .ok (.istore 5, 2) := by decide +kernel
theorem dX8_setWindow_54 : decode cX8_setWindow 54 = .ok (.aload_n 0, 1) := by decide +kernel
theorem dX8_setWindow_55 : decode cX8_setWindow 55 = .ok (.getfield 31, 3) := by decide +kernel
theorem dX8_setWindow_58 : decode cX8_setWindow 58 = .ok (.iload 5, 2) := by decide +kernel
theorem dX8_setWindow_60 : decode cX8_setWindow 60 = .ok (.iaload, 1) := by decide +kernel
theorem dX8_setWindow_61 : decode cX8_setWindow 61 = .ok (.istore 6, 2) := by decide +kernel
theorem dX8_setWindow_63 : decode cX8_setWindow 63 = .ok (.aload_n 0, 1) := by decide +kernel
theorem dX8_setWindow_64 : decode cX8_setWindow 64 = .ok (.getfield 34, 3) := by decide +kernel
theorem dX8_setWindow_67 : decode cX8_setWindow 67 = .ok (.iload 5, 2) := by decide +kernel
theorem dX8_setWindow_69 : decode cX8_setWindow 69 = .ok (.iaload, 1) := by decide +kernel
theorem dX8_setWindow_70 : decode cX8_setWindow 70 = .ok (.istore 7, 2) := by decide +kernel
theorem dX8_setWindow_72 : decode cX8_setWindow 72 = .ok (.aload_n 0, 1) := by decide +kernel
theorem dX8_setWindow_73 : decode cX8_setWindow 73 = .ok (.getfield 31, 3) := by decide +kernel
theorem dX8_setWindow_76 : decode cX8_setWindow 76 = .ok (.iload 5, 2) := by decide +kernel
theorem dX8_setWindow_78 : decode cX8_setWindow 78 = .ok (.iload_n 3, 1) := by decide +kernel
theorem dX8_setWindow_79 : decode cX8_setWindow 79 = .ok (.iastore, 1) := by decide +kernel
theorem dX8_setWindow_80 : decode cX8_setWindow 80 = .ok (.aload_n 0, 1) := by decide +kernel
theorem dX8_setWindow_81 : decode cX8_setWindow 81 = .ok (.getfield 34, 3) := by decide +kernel
theorem dX8_setWindow_84 : decode cX8_setWindow 84 = .ok (.iload 5, 2) := by decide +kernel
theorem dX8_setWindow_86 : decode cX8_setWindow 86 = .ok (.iload 4, 2) := by decide +kernel
theorem dX8_setWindow_88 : decode cX8_setWindow 88 = .ok (.iastore, 1) := by decide +kernel
theorem dX8_setWindow_89 : decode cX8_setWindow 89 = .ok (.aload_n 0, 1) := by decide +kernel
theorem dX8_setWindow_90 : decode cX8_setWindow 90 = .ok (.iload_n 1, 1) := by decide +kernel
theorem dX8_setWindow_91 : decode cX8_setWindow 91 = .ok (.invokevirtual 123, 3) := by decide +kernel
theorem dX8_setWindow_94 : decode cX8_setWindow 94 = .ok (.ifCond .ne 25, 3) := by decide +kernel
theorem dX8_setWindow_97 : decode cX8_setWindow 97 = .ok (.aload_n 0, 1) := by decide +kernel
theorem dX8_setWindow_98 : decode cX8_setWindow 98 = .ok (.getfield 31, 3) := by decide +kernel
theorem dX8_setWindow_101 : decode cX8_setWindow 101 = .ok (.iload 5, 2) := by decide +kernel
theorem dX8_setWindow_103 : decode cX8_setWindow 103 = .ok (.iload 6, 2) := by decide +kernel
theorem dX8_setWindow_105 : decode cX8_setWindow 105 = .ok (.iastore, 1) := by decide +kernel
theorem dX8_setWindow_106 : decode cX8_setWindow 106 = .ok (.aload_n 0, 1) := by decide +kernel
theorem dX8_setWindow_107 : decode cX8_setWindow 107 = .ok (.getfield 34, 3) := by decide +kernel
theorem dX8_setWindow_110 : decode cX8_setWindow 110 = .ok (.iload 5, 2) := by decide +kernel
theorem dX8_setWindow_112 : decode cX8_setWindow 112 = .ok (.iload 7, 2) := by decide +kernel
theorem dX8_setWindow_114 : decode cX8_setWindow 114 = .ok (.iastore, 1) := by decide +kernel
theorem dX8_setWindow_115 : decode cX8_setWindow 115 = .ok (.sipush (-1005), 3) := by decide +kernel
theorem dX8_setWindow_118 : decode cX8_setWindow 118 = .ok (.ireturn, 1) := by decide +kernel
theorem dX8_setWindow_119 : decode cX8_setWindow 119 = .ok (.iload_n 3, 1) := by decide +kernel
theorem dX8_setWindow_120 : decode cX8_setWindow 120 = .ok (.iload 6, 2) := by decide +kernel
theorem dX8_setWindow_122 : decode cX8_setWindow 122 = .ok (.if_icmp .ne 10, 3) := by decide +kernel
theorem dX8_setWindow_125 : decode cX8_setWindow 125 = .ok (.iload 4, 2) := by decide +kernel
theorem dX8_setWindow_127 : decode cX8_setWindow 127 = .ok (.iload 7, 2) := by decide +kernel
theorem dX8_setWindow_129 : decode cX8_setWindow 129 = .ok (.if_icmp .eq 7, 3) := by decide +kernel
theorem dX8_setWindow_132 : decode cX8_setWindow 132 = .ok (.iconst 1, 1) := by decide +kernel
theorem dX8_setWindow_133 : decode cX8_setWindow 133 = .ok (.goto 4, 3) := by decide +kernel
theorem dX8_setWindow_136 : decode cX8_setWindow 136 = .ok (.iconst 0, 1) := by decide +kernel
theorem dX8_setWindow_137 : decode cX8_setWindow 137 = .ok (.istore 8, 2) := by decide +kernel
theorem dX8_setWindow_139 : decode cX8_setWindow 139 = .ok (.aload_n 0, 1) := by decide +kernel
theorem dX8_setWindow_140 : decode cX8_setWindow 140 = .ok (.iload 8, 2) := by decide +kernel
theorem dX8_setWindow_142 : decode cX8_setWindow 142 = .ok (.ifCond .eq 7, 3) := by decide +kernel
theorem dX8_setWindow_145 : decode cX8_setWindow 145 = .ok (.iconst 0, 1) := by decide +kernel
theorem dX8_setWindow_146 : decode cX8_setWindow 146 = .ok (.goto 7, 3) := by decide +kernel
theorem dX8_setWindow_149 : decode cX8_setWindow 149 = .ok (.aload_n 0, 1) := by decide +kernel
theorem dX8_setWindow_150 : decode cX8_setWindow 150 = .ok (.getfield 79, 3) := by decide +kernel
theorem dX8_setWindow_153 : decode cX8_setWindow 153 = .ok (.putfield 79, 3) := by decide +kernel
theorem dX8_setWindow_156 : decode cX8_setWindow 156 = .ok (.iload 8, 2) := by decide +kernel
theorem dX8_setWindow_158 : decode cX8_setWindow 158 = .ok (.ifCond .eq 7, 3) := by decide +kernel
theorem dX8_setWindow_161 : decode cX8_setWindow 161 = .ok (.iconst 1, 1) := by decide +kernel
theorem dX8_setWindow_162 : decode cX8_setWindow 162 = .ok (.goto 4, 3) := by decide +kernel
theorem dX8_setWindow_165 : decode cX8_setWindow 165 = .ok (.iconst 0, 1) := by decide +kernel
theorem dX8_setWindow_166 : decode cX8_setWindow 166 = .ok (.ireturn, 1) := by decide +kernel
theorem dX8_setLimit_0 : decode cX8_setLimit 0 = .ok (.aload_n 0, 1) := by decide +kernel
theorem dX8_setLimit_1 : decode cX8_setLimit 1 = .ok (.iload_n 1, 1) := by decide +kernel
theorem dX8_setLimit_2 : decode cX8_setLimit 2 = .ok (.invokevirtual 120, 3) := by decide +kernel
theorem dX8_setLimit_5 : decode cX8_setLimit 5 = .ok (.ifCond .eq 7, 3) := by decide +kernel
theorem dX8_setLimit_8 : decode cX8_setLimit 8 = .ok (.sipush (-1001), 3) := by decide +kernel
theorem dX8_setLimit_11 : decode cX8_setLimit 11 = .ok (.ireturn, 1) := by decide +kernel
theorem dX8_setLimit_12 : decode cX8_setLimit 12 = .ok (.iload_n 2, 1) := by decide +kernel
theorem dX8_setLimit_13 : decode cX8_setLimit 13 = .ok (.iconst 0, 1) := by decide +kernel
theorem dX8_setLimit_14 : decode cX8_setLimit 14 = .ok (.sipush 1000, 3) := by decide +kernel
theorem dX8_setLimit_17 : decode cX8_setLimit 17 = .ok (.invokestatic 65, 3) := by decide +kernel
theorem dX8_setLimit_20 : decode cX8_setLimit 20 = .ok (.ifCond .ne 7, 3) := by decide +kernel
theorem dX8_setLimit_23 : decode cX8_setLimit 23 = .ok (.sipush (-1002), 3) := by decide +kernel
theorem dX8_setLimit_26 : decode cX8_setLimit 26 = .ok (.ireturn, 1) := by decide +kernel
theorem dX8_setLimit_27 : decode cX8_setLimit 27 = .ok (.aload_n 0, 1) := by decide +kernel
theorem dX8_setLimit_28 : decode cX8_setLimit 28 = .ok (.getfield 40, 3) := by decide +kernel
theorem dX8_setLimit_31 : decode cX8_setLimit 31 = .ok (.iload_n 1, 1) := by decide +kernel
theorem dX8_setLimit_32 : decode cX8_setLimit 32 = .ok (.iaload, 1) := by decide +kernel
theorem dX8_setLimit_33 : decode cX8_setLimit 33 = .ok (.istore_n 3, 1) := by decide +kernel
theorem dX8_setLimit_34 : decode cX8_setLimit 34 = .ok (.aload_n 0, 1) := by decide +kernel
theorem dX8_setLimit_35 : decode cX8_setLimit 35 = .ok (.getfield 40, 3) := by decide +kernel
theorem dX8_setLimit_38 : decode cX8_setLimit 38 = .ok (.iload_n 1, 1) := by decide +kernel
theorem dX8_setLimit_39 : decode cX8_setLimit 39 = .ok (.iload_n 2, 1) := by decide +kernel
theorem dX8_setLimit_40 : decode cX8_setLimit 40 = .ok (.iastore, 1) := by decide +kernel
theorem dX8_setLimit_41 : decode cX8_setLimit 41 = .ok (.aload_n 0, 1) := by decide +kernel
theorem dX8_setLimit_42 : decode cX8_setLimit 42 = .ok (.iload_n 1, 1) := by decide +kernel
theorem dX8_setLimit_43 : decode cX8_setLimit 43 = .ok (.invokevirtual 123, 3) := by decide +kernel
theorem dX8_setLimit_46 : decode cX8_setLimit 46 = .ok (.ifCond .ne 14, 3) := by decide +kernel
theorem dX8_setLimit_49 : decode cX8_setLimit 49 = .ok (.aload_n 0, 1) := by decide +kernel
theorem dX8_setLimit_50 : decode cX8_setLimit 50 = .ok (.getfield 40, 3) := by decide +kernel
theorem dX8_setLimit_53 : decode cX8_setLimit 53 = .ok (.iload_n 1, 1) := by decide +kernel
theorem dX8_setLimit_54 : decode cX8_setLimit 54 = .ok (.iload_n 3, 1) := by decide +kernel
theorem dX8_setLimit_55 : decode cX8_setLimit 55 = .ok (.iastore, 1) := by decide +kernel
theorem dX8_setLimit_56 : decode cX8_setLimit 56 = .ok (.sipush (-1005), 3) := by decide +kernel
theorem dX8_setLimit_59 : decode cX8_setLimit 59 = .ok (.ireturn, 1) := by decide +kernel
theorem dX8_setLimit_60 : decode cX8_setLimit 60 = .ok (.aload_n 0, 1) := by decide +kernel
theorem dX8_setLimit_61 : decode cX8_setLimit 61 = .ok (.iload_n 3, 1) := by decide +kernel
theorem dX8_setLimit_62 : decode cX8_setLimit 62 = .ok (.iload_n 2, 1) := by decide +kernel
theorem dX8_setLimit_63 : decode cX8_setLimit 63 = .ok (.if_icmp .eq 7, 3) := by decide +kernel
theorem dX8_setLimit_66 : decode cX8_setLimit 66 = .ok (.iconst 0, 1) := by decide +kernel
theorem dX8_setLimit_67 : decode cX8_setLimit 67 = .ok (.goto 7, 3) := by decide +kernel
theorem dX8_setLimit_70 : decode cX8_setLimit 70 = .ok (.aload_n 0, 1) := by decide +kernel
theorem dX8_setLimit_71 : decode cX8_setLimit 71 = .ok (.getfield 79, 3) := by decide +kernel
theorem dX8_setLimit_74 : decode cX8_setLimit 74 = .ok (.putfield 79, 3) := by decide +kernel
theorem dX8_setLimit_77 : decode cX8_setLimit 77 = .ok (.iload_n 3, 1) := by decide +kernel
theorem dX8_setLimit_78 : decode cX8_setLimit 78 = .ok (.ireturn, 1) := by decide +kernel
theorem dX8_setLoad_0 : decode cX8_setLoad 0 = .ok (.aload_n 0, 1) := by decide +kernel
theorem dX8_setLoad_1 : decode cX8_setLoad 1 = .ok (.iload_n 1, 1) := by decide +kernel
theorem dX8_setLoad_2 : decode cX8_setLoad 2 = .ok (.invokevirtual 120, 3) := by decide +kernel
theorem dX8_setLoad_5 : decode cX8_setLoad 5 = .ok (.ifCond .eq 7, 3) := by decide +kernel
theorem dX8_setLoad_8 : decode cX8_setLoad 8 = .ok (.sipush (-1001), 3) := by decide +kernel
theorem dX8_setLoad_11 : decode cX8_setLoad 11 = .ok (.ireturn, 1) := by decide +kernel
theorem dX8_setLoad_12 : decode cX8_setLoad 12 = .ok (.iload_n 2, 1) := by decide +kernel
theorem dX8_setLoad_13 : decode cX8_setLoad 13 = .ok (.iconst 1, 1) := by decide +kernel
theorem dX8_setLoad_14 : decode cX8_setLoad 14 = .ok (.bipush 8, 2) := by decide +kernel
theorem dX8_setLoad_16 : decode cX8_setLoad 16 = .ok (.invokestatic 65, 3) := by decide +kernel
theorem dX8_setLoad_19 : decode cX8_setLoad 19 = .ok (.ifCond .ne 7, 3) := by decide +kernel
theorem dX8_setLoad_22 : decode cX8_setLoad 22 = .ok (.sipush (-1002), 3) := by decide +kernel
theorem dX8_setLoad_25 : decode cX8_setLoad 25 = .ok (.ireturn, 1) := by decide +kernel
theorem dX8_setLoad_26 : decode cX8_setLoad 26 = .ok (.aload_n 0, 1) := by decide +kernel
theorem dX8_setLoad_27 : decode cX8_setLoad 27 = .ok (.getfield 37, 3) := by decide +kernel
theorem dX8_setLoad_30 : decode cX8_setLoad 30 = .ok (.iload_n 1, 1) := by decide +kernel
theorem dX8_setLoad_31 : decode cX8_setLoad 31 = .ok (.iaload, 1) := by decide +kernel
theorem dX8_setLoad_32 : decode cX8_setLoad 32 = .ok (.istore_n 3, 1) := by decide +kernel
theorem dX8_setLoad_33 : decode cX8_setLoad 33 = .ok (.aload_n 0, 1) := by decide +kernel
theorem dX8_setLoad_34 : decode cX8_setLoad 34 = .ok (.getfield 37, 3) := by decide +kernel
theorem dX8_setLoad_37 : decode cX8_setLoad 37 = .ok (.iload_n 1, 1) := by decide +kernel
theorem dX8_setLoad_38 : decode cX8_setLoad 38 = .ok (.iload_n 2, 1) := by decide +kernel
theorem dX8_setLoad_39 : decode cX8_setLoad 39 = .ok (.iastore, 1) := by decide +kernel
theorem dX8_setLoad_40 : decode cX8_setLoad 40 = .ok (.aload_n 0, 1) := by decide +kernel
theorem dX8_setLoad_41 : decode cX8_setLoad 41 = .ok (.iload_n 1, 1) := by decide +kernel
theorem dX8_setLoad_42 : decode cX8_setLoad 42 = .ok (.invokevirtual 123, 3) := by decide +kernel
theorem dX8_setLoad_45 : decode cX8_setLoad 45 = .ok (.ifCond .ne 14, 3) := by decide +kernel
theorem dX8_setLoad_48 : decode cX8_setLoad 48 = .ok (.aload_n 0, 1) := by decide +kernel
theorem dX8_setLoad_49 : decode cX8_setLoad 49 = .ok (.getfield 37, 3) := by decide +kernel
theorem dX8_setLoad_52 : decode cX8_setLoad 52 = .ok (.iload_n 1, 1) := by decide +kernel
theorem dX8_setLoad_53 : decode cX8_setLoad 53 = .ok (.iload_n 3, 1) := by decide +kernel
theorem dX8_setLoad_54 : decode cX8_setLoad 54 = .ok (.iastore, 1) := by decide +kernel
theorem dX8_setLoad_55 : decode cX8_setLoad 55 = .ok (.sipush (-1005), 3) := by decide +kernel
theorem dX8_setLoad_58 : decode cX8_setLoad 58 = .ok (.ireturn, 1) := by decide +kernel
theorem dX8_setLoad_59 : decode cX8_setLoad 59 = .ok (.aload_n 0, 1) := by decide +kernel
theorem dX8_setLoad_60 : decode cX8_setLoad 60 = .ok (.iload_n 3, 1) := by decide +kernel
theorem dX8_setLoad_61 : decode cX8_setLoad 61 = .ok (.iload_n 2, 1) := by decide +kernel
theorem dX8_setLoad_62 : decode cX8_setLoad 62 = .ok (.if_icmp .eq 7, 3) := by decide +kernel
theorem dX8_setLoad_65 : decode cX8_setLoad 65 = .ok (.iconst 0, 1) := by decide +kernel
theorem dX8_setLoad_66 : decode cX8_setLoad 66 = .ok (.goto 7, 3) := by decide +kernel
theorem dX8_setLoad_69 : decode cX8_setLoad 69 = .ok (.aload_n 0, 1) := by decide +kernel
theorem dX8_setLoad_70 : decode cX8_setLoad 70 = .ok (.getfield 79, 3) := by decide +kernel
theorem dX8_setLoad_73 : decode cX8_setLoad 73 = .ok (.putfield 79, 3) := by decide +kernel
theorem dX8_setLoad_76 : decode cX8_setLoad 76 = .ok (.iload_n 3, 1) := by decide +kernel
theorem dX8_setLoad_77 : decode cX8_setLoad 77 = .ok (.ireturn, 1) := by decide +kernel
theorem dX8_setService_0 : decode cX8_setService 0 = .ok (.iload_n 1, 1) := by decide +kernel
theorem dX8_setService_1 : decode cX8_setService 1 = .ok (.iconst 0, 1) := by decide +kernel
theorem dX8_setService_2 : decode cX8_setService 2 = .ok (.bipush 10, 2) := by decide +kernel
theorem dX8_setService_4 : decode cX8_setService 4 = .ok (.invokestatic 65, 3) := by decide +kernel
theorem dX8_setService_7 : decode cX8_setService 7 = .ok (.ifCond .ne 7, 3) := by decide +kernel
theorem dX8_setService_10 : decode cX8_setService 10 = .ok (.sipush (-1002), 3) := by decide +kernel
theorem dX8_setService_13 : decode cX8_setService 13 = .ok (.ireturn, 1) := by decide +kernel
theorem dX8_setService_14 : decode cX8_setService 14 = .ok (.aload_n 0, 1) := by decide +kernel
theorem dX8_setService_15 : decode cX8_setService 15 = .ok (.getfield 61, 3) := by decide +kernel
theorem dX8_setService_18 : decode cX8_setService 18 = .ok (.istore_n 2, 1) := by decide +kernel
theorem dX8_setService_19 : decode cX8_setService 19 = .ok (.aload_n 0, 1) := by decide +kernel
theorem dX8_setService_20 : decode cX8_setService 20 = .ok (.iload_n 1, 1) := by decide +kernel
theorem dX8_setService_21 : decode cX8_setService 21 = .ok (.putfield 61, 3) := by decide +kernel
theorem dX8_setService_24 : decode cX8_setService 24 = .ok (.iconst 0, 1) := by decide +kernel
theorem dX8_setService_25 : decode cX8_setService 25 = .ok (.istore_n 3, 1) := by decide +kernel
theorem dX8_setService_26 : decode cX8_setService 26 = .ok (.iload_n 3, 1) := by decide +kernel
theorem dX8_setService_27 : decode cX8_setService 27 = .ok (.aload_n 0, 1) := by decide +kernel
theorem dX8_setService_28 : decode cX8_setService 28 = .ok (.getfield 69, 3) := by decide +kernel
theorem dX8_setService_31 : decode cX8_setService 31 = .ok (.if_icmp .ge 26, 3) := by decide +kernel
theorem dX8_setService_34 : decode cX8_setService 34 = .ok (.aload_n 0, 1) := by decide +kernel
theorem dX8_setService_35 : decode cX8_setService 35 = .ok (.iload_n 3, 1) := by decide +kernel
theorem dX8_setService_36 : decode cX8_setService 36 = .ok (.invokevirtual 117, 3) := by decide +kernel
theorem dX8_setService_39 : decode cX8_setService 39 = .ok (.ifCond .ne 12, 3) := by decide +kernel
theorem dX8_setService_42 : decode cX8_setService 42 = .ok (.aload_n 0, 1) := by decide +kernel
theorem dX8_setService_43 : decode cX8_setService 43 = .ok (.iload_n 2, 1) := by decide +kernel
theorem dX8_setService_44 : decode cX8_setService 44 = .ok (.putfield 61, 3) := by decide +kernel
theorem dX8_setService_47 : decode cX8_setService 47 = .ok (.sipush (-1005), 3) := by decide +kernel
theorem dX8_setService_50 : decode cX8_setService 50 = .ok (.ireturn, 1) := by decide +kernel
theorem dX8_setService_51 : decode cX8_setService 51 = .ok (.iinc 3 1, 3) := by decide +kernel
theorem dX8_setService_54 : decode cX8_setService 54 = .ok (.goto (-28), 3) := by decide +kernel
theorem dX8_setService_57 : decode cX8_setService 57 = .ok (.aload_n 0, 1) := by decide +kernel
theorem dX8_setService_58 : decode cX8_setService 58 = .ok (.iload_n 2, 1) := by decide +kernel
theorem dX8_setService_59 : decode cX8_setService 59 = .ok (.iload_n 1, 1) := by decide +kernel
theorem dX8_setService_60 : decode cX8_setService 60 = .ok (.if_icmp .eq 7, 3) := by decide +kernel
theorem dX8_setService_63 : decode cX8_setService 63 = .ok (.iconst 0, 1) := by decide +kernel
theorem dX8_setService_64 : decode cX8_setService 64 = .ok (.goto 7, 3) := by decide +kernel
theorem dX8_setService_67 : decode cX8_setService 67 = .ok (.aload_n 0, 1) := by decide +kernel
theorem dX8_setService_68 : decode cX8_setService 68 = .ok (.getfield 79, 3) := by decide +kernel
theorem dX8_setService_71 : decode cX8_setService 71 = .ok (.putfield 79, 3) := by decide +kernel
theorem dX8_setService_74 : decode cX8_setService 74 = .ok (.iload_n 2, 1) := by decide +kernel
theorem dX8_setService_75 : decode cX8_setService 75 = .ok (.ireturn, 1) := by decide +kernel
theorem dX8_total_0 : decode cX8_total 0 = .ok (.iconst 0, 1) := by decide +kernel
theorem dX8_total_1 : decode cX8_total 1 = .ok (.istore_n 1, 1) := by decide +kernel
theorem dX8_total_2 : decode cX8_total 2 = .ok (.iconst 0, 1) := by decide +kernel
theorem dX8_total_3 : decode cX8_total 3 = .ok (.istore_n 2, 1) := by decide +kernel
theorem dX8_total_4 : decode cX8_total 4 = .ok (.iload_n 2, 1) := by decide +kernel
theorem dX8_total_5 : decode cX8_total 5 = .ok (.aload_n 0, 1) := by decide +kernel
theorem dX8_total_6 : decode cX8_total 6 = .ok (.getfield 69, 3) := by decide +kernel
theorem dX8_total_9 : decode cX8_total 9 = .ok (.if_icmp .ge 22, 3) := by decide +kernel
theorem dX8_total_12 : decode cX8_total 12 = .ok (.aload_n 0, 1) := by decide +kernel
theorem dX8_total_13 : decode cX8_total 13 = .ok (.iload_n 2, 1) := by decide +kernel
theorem dX8_total_14 : decode cX8_total 14 = .ok (.invokevirtual 107, 3) := by decide +kernel
theorem dX8_total_17 : decode cX8_total 17 = .ok (.iload_n 1, 1) := by decide +kernel
theorem dX8_total_18 : decode cX8_total 18 = .ok (.aload_n 0, 1) := by decide +kernel
theorem dX8_total_19 : decode cX8_total 19 = .ok (.iload_n 2, 1) := by decide +kernel
theorem dX8_total_20 : decode cX8_total 20 = .ok (.invokevirtual 126, 3) := by decide +kernel
theorem dX8_total_23 : decode cX8_total 23 = .ok (.iadd, 1) := by decide +kernel
theorem dX8_total_24 : decode cX8_total 24 = .ok (.istore_n 1, 1) := by decide +kernel
theorem dX8_total_25 : decode cX8_total 25 = .ok (.iinc 2 1, 3) := by decide +kernel
theorem dX8_total_28 : decode cX8_total 28 = .ok (.goto (-24), 3) := by decide +kernel
theorem dX8_total_31 : decode cX8_total 31 = .ok (.iload_n 1, 1) := by decide +kernel
theorem dX8_total_32 : decode cX8_total 32 = .ok (.ireturn, 1) := by decide +kernel
theorem dX8_count_0 : decode cX8_count 0 = .ok (.iconst 0, 1) := by decide +kernel
theorem dX8_count_1 : decode cX8_count 1 = .ok (.istore_n 2, 1) := by decide +kernel
theorem dX8_count_2 : decode cX8_count 2 = .ok (.iconst 0, 1) := by decide +kernel
theorem dX8_count_3 : decode cX8_count 3 = .ok (.istore_n 3, 1) := by decide +kernel
theorem dX8_count_4 : decode cX8_count 4 = .ok (.iload_n 3, 1) := by decide +kernel
theorem dX8_count_5 : decode cX8_count 5 = .ok (.aload_n 0, 1) := by decide +kernel
theorem dX8_count_6 : decode cX8_count 6 = .ok (.getfield 72, 3) := by decide +kernel
theorem dX8_count_9 : decode cX8_count 9 = .ok (.if_icmp .ge 25, 3) := by decide +kernel
theorem dX8_count_12 : decode cX8_count 12 = .ok (.iload_n 2, 1) := by decide +kernel
theorem dX8_count_13 : decode cX8_count 13 = .ok (.aload_n 0, 1) := by decide +kernel
theorem dX8_count_14 : decode cX8_count 14 = .ok (.iload_n 3, 1) := by decide +kernel
theorem dX8_count_15 : decode cX8_count 15 = .ok (.invokevirtual 114, 3) := by decide +kernel
theorem dX8_count_18 : decode cX8_count 18 = .ok (.ifCond .ge 7, 3) := by decide +kernel
theorem dX8_count_21 : decode cX8_count 21 = .ok (.iconst 1, 1) := by decide +kernel
theorem dX8_count_22 : decode cX8_count 22 = .ok (.goto 4, 3) := by decide +kernel
theorem dX8_count_25 : decode cX8_count 25 = .ok (.iconst 0, 1) := by decide +kernel
theorem dX8_count_26 : decode cX8_count 26 = .ok (.iadd, 1) := by decide +kernel
theorem dX8_count_27 : decode cX8_count 27 = .ok (.istore_n 2, 1) := by decide +kernel
theorem dX8_count_28 : decode cX8_count 28 = .ok (.iinc 3 1, 3) := by decide +kernel
theorem dX8_count_31 : decode cX8_count 31 = .ok (.goto (-27), 3) := by decide +kernel
theorem dX8_count_34 : decode cX8_count 34 = .ok (.iload_n 1, 1) := by decide +kernel
theorem dX8_count_35 : decode cX8_count 35 = .ok (.tableswitch 64 0 5 #[37, 42, 47, 49, 54, 59], 37) := by decide +kernel
theorem dX8_count_72 : decode cX8_count 72 = .ok (.aload_n 0, 1) := by decide +kernel
theorem dX8_count_73 : decode cX8_count 73 = .ok (.getfield 69, 3) := by decide +kernel
theorem dX8_count_76 : decode cX8_count 76 = .ok (.ireturn, 1) := by decide +kernel
theorem dX8_count_77 : decode cX8_count 77 = .ok (.aload_n 0, 1) := by decide +kernel
theorem dX8_count_78 : decode cX8_count 78 = .ok (.getfield 72, 3) := by decide +kernel
theorem dX8_count_81 : decode cX8_count 81 = .ok (.ireturn, 1) := by decide +kernel
theorem dX8_count_82 : decode cX8_count 82 = .ok (.iload_n 2, 1) := by decide +kernel
theorem dX8_count_83 : decode cX8_count 83 = .ok (.ireturn, 1) := by decide +kernel
theorem dX8_count_84 : decode cX8_count 84 = .ok (.aload_n 0, 1) := by decide +kernel
theorem dX8_count_85 : decode cX8_count 85 = .ok (.invokevirtual 129, 3) := by decide +kernel
theorem dX8_count_88 : decode cX8_count 88 = .ok (.ireturn, 1) := by decide +kernel
theorem dX8_count_89 : decode cX8_count 89 = .ok (.aload_n 0, 1) := by decide +kernel
theorem dX8_count_90 : decode cX8_count 90 = .ok (.getfield 61, 3) := by decide +kernel
theorem dX8_count_93 : decode cX8_count 93 = .ok (.ireturn, 1) := by decide +kernel
theorem dX8_count_94 : decode cX8_count 94 = .ok (.aload_n 0, 1) := by decide +kernel
theorem dX8_count_95 : decode cX8_count 95 = .ok (.getfield 79, 3) := by decide +kernel
theorem dX8_count_98 : decode cX8_count 98 = .ok (.ireturn, 1) := by decide +kernel
theorem dX8_count_99 : decode cX8_count 99 = .ok (.sipush (-1002), 3) := by decide +kernel
theorem dX8_count_102 : decode cX8_count 102 = .ok (.ireturn, 1) := by decide +kernel
theorem dX8_request_0 : decode cX8_request 0 = .ok (.aload_n 0, 1) := by decide +kernel
theorem dX8_request_1 : decode cX8_request 1 = .ok (.iload_n 1, 1) := by decide +kernel
theorem dX8_request_2 : decode cX8_request 2 = .ok (.invokevirtual 120, 3) := by decide +kernel
theorem dX8_request_5 : decode cX8_request 5 = .ok (.ifCond .eq 7, 3) := by decide +kernel
theorem dX8_request_8 : decode cX8_request 8 = .ok (.sipush (-1001), 3) := by decide +kernel
theorem dX8_request_11 : decode cX8_request 11 = .ok (.ireturn, 1) := by decide +kernel
theorem dX8_request_12 : decode cX8_request 12 = .ok (.iload_n 2, 1) := by decide +kernel
theorem dX8_request_13 : decode cX8_request 13 = .ok (.tableswitch 134 0 7 #[47, 67, 74, 81, 90, 99, 110, 121], 47) := by decide +kernel
theorem dX8_request_60 : decode cX8_request 60 = .ok (.aload_n 0, 1) := by decide +kernel
theorem dX8_request_61 : decode cX8_request 61 = .ok (.iload_n 1, 1) := by decide +kernel
theorem dX8_request_62 : decode cX8_request 62 = .ok (.invokevirtual 114, 3) := by decide +kernel
theorem dX8_request_65 : decode cX8_request 65 = .ok (.ifCond .ge 9, 3) := by decide +kernel
theorem dX8_request_68 : decode cX8_request 68 = .ok (.sipush (-1007), 3) := by decide +kernel
theorem dX8_request_71 : decode cX8_request 71 = .ok (.goto 8, 3) := by decide +kernel
theorem dX8_request_74 : decode cX8_request 74 = .ok (.aload_n 0, 1) := by decide +kernel
theorem dX8_request_75 : decode cX8_request 75 = .ok (.iload_n 1, 1) := by decide +kernel
theorem dX8_request_76 : decode cX8_request 76 = .ok (.invokevirtual 114, 3) := by decide +kernel
theorem dX8_request_79 : decode cX8_request 79 = .ok (.ireturn, 1) := by decide +kernel
theorem dX8_request_80 : decode cX8_request 80 = .ok (.aload_n 0, 1) := by decide +kernel
theorem dX8_request_81 : decode cX8_request 81 = .ok (.getfield 37, 3) := by decide +kernel
theorem dX8_request_84 : decode cX8_request 84 = .ok (.iload_n 1, 1) := by decide +kernel
theorem dX8_request_85 : decode cX8_request 85 = .ok (.iaload, 1) := by decide +kernel
theorem dX8_request_86 : decode cX8_request 86 = .ok (.ireturn, 1) := by decide +kernel
theorem dX8_request_87 : decode cX8_request 87 = .ok (.aload_n 0, 1) := by decide +kernel
theorem dX8_request_88 : decode cX8_request 88 = .ok (.getfield 40, 3) := by decide +kernel
theorem dX8_request_91 : decode cX8_request 91 = .ok (.iload_n 1, 1) := by decide +kernel
theorem dX8_request_92 : decode cX8_request 92 = .ok (.iaload, 1) := by decide +kernel
theorem dX8_request_93 : decode cX8_request 93 = .ok (.ireturn, 1) := by decide +kernel
theorem dX8_request_94 : decode cX8_request 94 = .ok (.aload_n 0, 1) := by decide +kernel
theorem dX8_request_95 : decode cX8_request 95 = .ok (.getfield 31, 3) := by decide +kernel
theorem dX8_request_98 : decode cX8_request 98 = .ok (.iconst 2, 1) := by decide +kernel
theorem dX8_request_99 : decode cX8_request 99 = .ok (.iload_n 1, 1) := by decide +kernel
theorem dX8_request_100 : decode cX8_request 100 = .ok (.imul, 1) := by decide +kernel
theorem dX8_request_101 : decode cX8_request 101 = .ok (.iaload, 1) := by decide +kernel
theorem dX8_request_102 : decode cX8_request 102 = .ok (.ireturn, 1) := by decide +kernel
theorem dX8_request_103 : decode cX8_request 103 = .ok (.aload_n 0, 1) := by decide +kernel
theorem dX8_request_104 : decode cX8_request 104 = .ok (.getfield 34, 3) := by decide +kernel
theorem dX8_request_107 : decode cX8_request 107 = .ok (.iconst 2, 1) := by decide +kernel
theorem dX8_request_108 : decode cX8_request 108 = .ok (.iload_n 1, 1) := by decide +kernel
theorem dX8_request_109 : decode cX8_request 109 = .ok (.imul, 1) := by decide +kernel
theorem dX8_request_110 : decode cX8_request 110 = .ok (.iaload, 1) := by decide +kernel
theorem dX8_request_111 : decode cX8_request 111 = .ok (.ireturn, 1) := by decide +kernel
theorem dX8_request_112 : decode cX8_request 112 = .ok (.aload_n 0, 1) := by decide +kernel
theorem dX8_request_113 : decode cX8_request 113 = .ok (.getfield 31, 3) := by decide +kernel
theorem dX8_request_116 : decode cX8_request 116 = .ok (.iconst 2, 1) := by decide +kernel
theorem dX8_request_117 : decode cX8_request 117 = .ok (.iload_n 1, 1) := by decide +kernel
theorem dX8_request_118 : decode cX8_request 118 = .ok (.imul, 1) := by decide +kernel
theorem dX8_request_119 : decode cX8_request 119 = .ok (.iconst 1, 1) := by decide +kernel
theorem dX8_request_120 : decode cX8_request 120 = .ok (.iadd, 1) := by decide +kernel
theorem dX8_request_121 : decode cX8_request 121 = .ok (.iaload, 1) := by decide +kernel
theorem dX8_request_122 : decode cX8_request 122 = .ok (.ireturn, 1) := by decide +kernel
theorem dX8_request_123 : decode cX8_request 123 = .ok (.aload_n 0, 1) := by decide +kernel
theorem dX8_request_124 : decode cX8_request 124 = .ok (.getfield 34, 3) := by decide +kernel
theorem dX8_request_127 : decode cX8_request 127 = .ok (.iconst 2, 1) := by decide +kernel
theorem dX8_request_128 : decode cX8_request 128 = .ok (.iload_n 1, 1) := by decide +kernel
theorem dX8_request_129 : decode cX8_request 129 = .ok (.imul, 1) := by decide +kernel
theorem dX8_request_130 : decode cX8_request 130 = .ok (.iconst 1, 1) := by decide +kernel
theorem dX8_request_131 : decode cX8_request 131 = .ok (.iadd, 1) := by decide +kernel
theorem dX8_request_132 : decode cX8_request 132 = .ok (.iaload, 1) := by decide +kernel
theorem dX8_request_133 : decode cX8_request 133 = .ok (.ireturn, 1) := by decide +kernel
theorem dX8_request_134 : decode cX8_request 134 = .ok (.aload_n 0, 1) := by decide +kernel
theorem dX8_request_135 : decode cX8_request 135 = .ok (.iconst 2, 1) := by decide +kernel
theorem dX8_request_136 : decode cX8_request 136 = .ok (.iload_n 1, 1) := by decide +kernel
theorem dX8_request_137 : decode cX8_request 137 = .ok (.imul, 1) := by decide +kernel
theorem dX8_request_138 : decode cX8_request 138 = .ok (.iconst 2, 1) := by decide +kernel
theorem dX8_request_139 : decode cX8_request 139 = .ok (.iload_n 1, 1) := by decide +kernel
theorem dX8_request_140 : decode cX8_request 140 = .ok (.imul, 1) := by decide +kernel
theorem dX8_request_141 : decode cX8_request 141 = .ok (.iconst 1, 1) := by decide +kernel
theorem dX8_request_142 : decode cX8_request 142 = .ok (.iadd, 1) := by decide +kernel
theorem dX8_request_143 : decode cX8_request 143 = .ok (.invokevirtual 93, 3) := by decide +kernel
theorem dX8_request_146 : decode cX8_request 146 = .ok (.ireturn, 1) := by decide +kernel
theorem dX8_request_147 : decode cX8_request 147 = .ok (.sipush (-1002), 3) := by decide +kernel
theorem dX8_request_150 : decode cX8_request 150 = .ok (.ireturn, 1) := by decide +kernel
theorem dX8_vehicle_0 : decode cX8_vehicle 0 = .ok (.aload_n 0, 1) := by decide +kernel
theorem dX8_vehicle_1 : decode cX8_vehicle 1 = .ok (.iload_n 1, 1) := by decide +kernel
theorem dX8_vehicle_2 : decode cX8_vehicle 2 = .ok (.invokevirtual 132, 3) := by decide +kernel
theorem dX8_vehicle_5 : decode cX8_vehicle 5 = .ok (.ifCond .eq 7, 3) := by decide +kernel
theorem dX8_vehicle_8 : decode cX8_vehicle 8 = .ok (.sipush (-1001), 3) := by decide +kernel
theorem dX8_vehicle_11 : decode cX8_vehicle 11 = .ok (.ireturn, 1) := by decide +kernel
theorem dX8_vehicle_12 : decode cX8_vehicle 12 = .ok (.aload_n 0, 1) := by decide +kernel
theorem dX8_vehicle_13 : decode cX8_vehicle 13 = .ok (.iload_n 1, 1) := by decide +kernel
theorem dX8_vehicle_14 : decode cX8_vehicle 14 = .ok (.invokevirtual 107, 3) := by decide +kernel
theorem dX8_vehicle_17 : decode cX8_vehicle 17 = .ok (.iconst 0, 1) := by decide +kernel
theorem dX8_vehicle_18 : decode cX8_vehicle 18 = .ok (.istore_n 3, 1) := by decide +kernel
theorem dX8_vehicle_19 : decode cX8_vehicle 19 = .ok (.iconst 0, 1) := by decide +kernel
theorem dX8_vehicle_20 : decode cX8_vehicle 20 = .ok (.istore 4, 2) := by decide +kernel
theorem dX8_vehicle_22 : decode cX8_vehicle 22 = .ok (.iload 4, 2) := by decide +kernel
theorem dX8_vehicle_24 : decode cX8_vehicle 24 = .ok (.aload_n 0, 1) := by decide +kernel
theorem dX8_vehicle_25 : decode cX8_vehicle 25 = .ok (.getfield 82, 3) := by decide +kernel
theorem dX8_vehicle_28 : decode cX8_vehicle 28 = .ok (.if_icmp .ge 23, 3) := by decide +kernel
theorem dX8_vehicle_31 : decode cX8_vehicle 31 = .ok (.iload_n 3, 1) := by decide +kernel
theorem dX8_vehicle_32 : decode cX8_vehicle 32 = .ok (.iconst 1, 1) := by decide +kernel
theorem dX8_vehicle_33 : decode cX8_vehicle 33 = .ok (.aload_n 0, 1) := by decide +kernel
theorem dX8_vehicle_34 : decode cX8_vehicle 34 = .ok (.getfield 46, 3) := by decide +kernel
theorem dX8_vehicle_37 : decode cX8_vehicle 37 = .ok (.iload 4, 2) := by decide +kernel
theorem dX8_vehicle_39 : decode cX8_vehicle 39 = .ok (.iaload, 1) := by decide +kernel
theorem dX8_vehicle_40 : decode cX8_vehicle 40 = .ok (.iconst 2, 1) := by decide +kernel
theorem dX8_vehicle_41 : decode cX8_vehicle 41 = .ok (.idiv, 1) := by decide +kernel
theorem dX8_vehicle_42 : decode cX8_vehicle 42 = .ok (.ishl, 1) := by decide +kernel
theorem dX8_vehicle_43 : decode cX8_vehicle 43 = .ok (.ior, 1) := by decide +kernel
theorem dX8_vehicle_44 : decode cX8_vehicle 44 = .ok (.istore_n 3, 1) := by decide +kernel
theorem dX8_vehicle_45 : decode cX8_vehicle 45 = .ok (.iinc 4 1, 3) := by decide +kernel
theorem dX8_vehicle_48 : decode cX8_vehicle 48 = .ok (.goto (-26), 3) := by decide +kernel
theorem dX8_vehicle_51 : decode cX8_vehicle 51 = .ok (.iload_n 2, 1) := by decide +kernel
theorem dX8_vehicle_52 : decode cX8_vehicle 52 = .ok (.tableswitch 83 0 6 #[44, 51, 58, 65, 70, 76, 81], 44) := by decide +kernel
theorem dX8_vehicle_96 : decode cX8_vehicle 96 = .ok (.aload_n 0, 1) := by decide +kernel
theorem dX8_vehicle_97 : decode cX8_vehicle 97 = .ok (.getfield 16, 3) := by decide +kernel
theorem dX8_vehicle_100 : decode cX8_vehicle 100 = .ok (.iload_n 1, 1) := by decide +kernel
theorem dX8_vehicle_101 : decode cX8_vehicle 101 = .ok (.iaload, 1) := by decide +kernel
theorem dX8_vehicle_102 : decode cX8_vehicle 102 = .ok (.ireturn, 1) := by decide +kernel
theorem dX8_vehicle_103 : decode cX8_vehicle 103 = .ok (.aload_n 0, 1) := by decide +kernel
theorem dX8_vehicle_104 : decode cX8_vehicle 104 = .ok (.getfield 19, 3) := by decide +kernel
theorem dX8_vehicle_107 : decode cX8_vehicle 107 = .ok (.iload_n 1, 1) := by decide +kernel
theorem dX8_vehicle_108 : decode cX8_vehicle 108 = .ok (.iaload, 1) := by decide +kernel
theorem dX8_vehicle_109 : decode cX8_vehicle 109 = .ok (.ireturn, 1) := by decide +kernel
theorem dX8_vehicle_110 : decode cX8_vehicle 110 = .ok (.aload_n 0, 1) := by decide +kernel
theorem dX8_vehicle_111 : decode cX8_vehicle 111 = .ok (.getfield 22, 3) := by decide +kernel
theorem dX8_vehicle_114 : decode cX8_vehicle 114 = .ok (.iload_n 1, 1) := by decide +kernel
theorem dX8_vehicle_115 : decode cX8_vehicle 115 = .ok (.iaload, 1) := by decide +kernel
theorem dX8_vehicle_116 : decode cX8_vehicle 116 = .ok (.ireturn, 1) := by decide +kernel
theorem dX8_vehicle_117 : decode cX8_vehicle 117 = .ok (.aload_n 0, 1) := by decide +kernel
theorem dX8_vehicle_118 : decode cX8_vehicle 118 = .ok (.getfield 82, 3) := by decide +kernel
theorem dX8_vehicle_121 : decode cX8_vehicle 121 = .ok (.ireturn, 1) := by decide +kernel
theorem dX8_vehicle_122 : decode cX8_vehicle 122 = .ok (.aload_n 0, 1) := by decide +kernel
theorem dX8_vehicle_123 : decode cX8_vehicle 123 = .ok (.iload_n 1, 1) := by decide +kernel
theorem dX8_vehicle_124 : decode cX8_vehicle 124 = .ok (.invokevirtual 126, 3) := by decide +kernel
theorem dX8_vehicle_127 : decode cX8_vehicle 127 = .ok (.ireturn, 1) := by decide +kernel
theorem dX8_vehicle_128 : decode cX8_vehicle 128 = .ok (.aload_n 0, 1) := by decide +kernel
theorem dX8_vehicle_129 : decode cX8_vehicle 129 = .ok (.invokevirtual 99, 3) := by decide +kernel
theorem dX8_vehicle_132 : decode cX8_vehicle 132 = .ok (.ireturn, 1) := by decide +kernel
theorem dX8_vehicle_133 : decode cX8_vehicle 133 = .ok (.iload_n 3, 1) := by decide +kernel
theorem dX8_vehicle_134 : decode cX8_vehicle 134 = .ok (.ireturn, 1) := by decide +kernel
theorem dX8_vehicle_135 : decode cX8_vehicle 135 = .ok (.sipush (-1002), 3) := by decide +kernel
theorem dX8_vehicle_138 : decode cX8_vehicle 138 = .ok (.ireturn, 1) := by decide +kernel
theorem dX8_schedule_0 : decode cX8_schedule 0 = .ok (.aload_n 0, 1) := by decide +kernel
theorem dX8_schedule_1 : decode cX8_schedule 1 = .ok (.iload_n 1, 1) := by decide +kernel
theorem dX8_schedule_2 : decode cX8_schedule 2 = .ok (.invokevirtual 107, 3) := by decide +kernel
theorem dX8_schedule_5 : decode cX8_schedule 5 = .ok (.aload_n 0, 1) := by decide +kernel
theorem dX8_schedule_6 : decode cX8_schedule 6 = .ok (.iload_n 1, 1) := by decide +kernel
theorem dX8_schedule_7 : decode cX8_schedule 7 = .ok (.invokevirtual 103, 3) := by decide +kernel
theorem dX8_schedule_10 : decode cX8_schedule 10 = .ok (.pop, 1) := by decide +kernel
theorem dX8_schedule_11 : decode cX8_schedule 11 = .ok (.aload_n 0, 1) := by decide +kernel
theorem dX8_schedule_12 : decode cX8_schedule 12 = .ok (.iload_n 1, 1) := by decide +kernel
theorem dX8_schedule_13 : decode cX8_schedule 13 = .ok (.invokevirtual 135, 3) := by decide +kernel
theorem dX8_schedule_16 : decode cX8_schedule 16 = .ok (.return_, 1) := by decide +kernel
theorem dX8_stop_0 : decode cX8_stop 0 = .ok (.aload_n 0, 1) := by decide +kernel
theorem dX8_stop_1 : decode cX8_stop 1 = .ok (.iload_n 1, 1) := by decide +kernel
theorem dX8_stop_2 : decode cX8_stop 2 = .ok (.invokevirtual 132, 3) := by decide +kernel
theorem dX8_stop_5 : decode cX8_stop 5 = .ok (.ifCond .ne 22, 3) := by decide +kernel
theorem dX8_stop_8 : decode cX8_stop 8 = .ok (.iload_n 2, 1) := by decide +kernel
theorem dX8_stop_9 : decode cX8_stop 9 = .ok (.iconst 0, 1) := by decide +kernel
theorem dX8_stop_10 : decode cX8_stop 10 = .ok (.aload_n 0, 1) := by decide +kernel
theorem dX8_stop_11 : decode cX8_stop 11 = .ok (.getfield 43, 3) := by decide +kernel
theorem dX8_stop_14 : decode cX8_stop 14 = .ok (.bipush 96, 2) := by decide +kernel
theorem dX8_stop_16 : decode cX8_stop 16 = .ok (.iload_n 1, 1) := by decide +kernel
theorem dX8_stop_17 : decode cX8_stop 17 = .ok (.iadd, 1) := by decide +kernel
theorem dX8_stop_18 : decode cX8_stop 18 = .ok (.iaload, 1) := by decide +kernel
theorem dX8_stop_19 : decode cX8_stop 19 = .ok (.iconst 1, 1) := by decide +kernel
theorem dX8_stop_20 : decode cX8_stop 20 = .ok (.isub, 1) := by decide +kernel
theorem dX8_stop_21 : decode cX8_stop 21 = .ok (.invokestatic 65, 3) := by decide +kernel
theorem dX8_stop_24 : decode cX8_stop 24 = .ok (.ifCond .ne 7, 3) := by decide +kernel
theorem dX8_stop_27 : decode cX8_stop 27 = .ok (.sipush (-1001), 3) := by decide +kernel
theorem dX8_stop_30 : decode cX8_stop 30 = .ok (.ireturn, 1) := by decide +kernel
theorem dX8_stop_31 : decode cX8_stop 31 = .ok (.aload_n 0, 1) := by decide +kernel
theorem dX8_stop_32 : decode cX8_stop 32 = .ok (.iload_n 1, 1) := by decide +kernel
theorem dX8_stop_33 : decode cX8_stop 33 = .ok (.invokevirtual 138, 3) := by decide +kernel
theorem dX8_stop_36 : decode cX8_stop 36 = .ok (.iconst 0, 1) := by decide +kernel
theorem dX8_stop_37 : decode cX8_stop 37 = .ok (.istore 4, 2) := by decide +kernel
theorem dX8_stop_39 : decode cX8_stop 39 = .ok (.iconst 0, 1) := by decide +kernel
theorem dX8_stop_40 : decode cX8_stop 40 = .ok (.istore 5, 2) := by decide +kernel
theorem dX8_stop_42 : decode cX8_stop 42 = .ok (.iload 5, 2) := by decide +kernel
theorem dX8_stop_44 : decode cX8_stop 44 = .ok (.iload_n 2, 1) := by decide +kernel
theorem dX8_stop_45 : decode cX8_stop 45 = .ok (.if_icmp .gt 58, 3) := by decide +kernel
theorem dX8_stop_48 : decode cX8_stop 48 = .ok (.iload 4, 2) := by decide +kernel
theorem dX8_stop_50 : decode cX8_stop 50 = .ok (.aload_n 0, 1) := by decide +kernel
theorem dX8_stop_51 : decode cX8_stop 51 = .ok (.getfield 46, 3) := by decide +kernel
theorem dX8_stop_54 : decode cX8_stop 54 = .ok (.iload 5, 2) := by decide +kernel
theorem dX8_stop_56 : decode cX8_stop 56 = .ok (.iaload, 1) := by decide +kernel
theorem dX8_stop_57 : decode cX8_stop 57 = .ok (.iconst 2, 1) := by decide +kernel
theorem dX8_stop_58 : decode cX8_stop 58 = .ok (.irem, 1) := by decide +kernel
theorem dX8_stop_59 : decode cX8_stop 59 = .ok (.ifCond .ne 20, 3) := by decide +kernel
theorem dX8_stop_62 : decode cX8_stop 62 = .ok (.aload_n 0, 1) := by decide +kernel
theorem dX8_stop_63 : decode cX8_stop 63 = .ok (.getfield 37, 3) := by decide +kernel
theorem dX8_stop_66 : decode cX8_stop 66 = .ok (.aload_n 0, 1) := by decide +kernel
theorem dX8_stop_67 : decode cX8_stop 67 = .ok (.getfield 46, 3) := by decide +kernel
theorem dX8_stop_70 : decode cX8_stop 70 = .ok (.iload 5, 2) := by decide +kernel
theorem dX8_stop_72 : decode cX8_stop 72 = .ok (.iaload, 1) := by decide +kernel
theorem dX8_stop_73 : decode cX8_stop 73 = .ok (.iconst 2, 1) := by decide +kernel
theorem dX8_stop_74 : decode cX8_stop 74 = .ok (.idiv, 1) := by decide +kernel
theorem dX8_stop_75 : decode cX8_stop 75 = .ok (.iaload, 1) := by decide +kernel
theorem dX8_stop_76 : decode cX8_stop 76 = .ok (.goto 18, 3) := by decide +kernel
theorem dX8_stop_79 : decode cX8_stop 79 = .ok (.aload_n 0, 1) := by decide +kernel
theorem dX8_stop_80 : decode cX8_stop 80 = .ok (.getfield 37, 3) := by decide +kernel
theorem dX8_stop_83 : decode cX8_stop 83 = .ok (.aload_n 0, 1) := by decide +kernel
theorem dX8_stop_84 : decode cX8_stop 84 = .ok (.getfield 46, 3) := by decide +kernel
theorem dX8_stop_87 : decode cX8_stop 87 = .ok (.iload 5, 2) := by decide +kernel
theorem dX8_stop_89 : decode cX8_stop 89 = .ok (.iaload, 1) := by decide +kernel
theorem dX8_stop_90 : decode cX8_stop 90 = .ok (.iconst 2, 1) := by decide +kernel
theorem dX8_stop_91 : decode cX8_stop 91 = .ok (.idiv, 1) := by decide +kernel
theorem dX8_stop_92 : decode cX8_stop 92 = .ok (.iaload, 1) := by decide +kernel
theorem dX8_stop_93 : decode cX8_stop 93 = .ok (.ineg, 1) := by decide +kernel
theorem dX8_stop_94 : decode cX8_stop 94 = .ok (.iadd, 1) := by decide +kernel
theorem dX8_stop_95 : decode cX8_stop 95 = .ok (.istore 4, 2) := by decide +kernel
theorem dX8_stop_97 : decode cX8_stop 97 = .ok (.iinc 5 1, 3) := by decide +kernel
theorem dX8_stop_100 : decode cX8_stop 100 = .ok (.goto (-58), 3) := by decide +kernel
theorem dX8_stop_103 : decode cX8_stop 103 = .ok (.iload_n 2, 1) := by decide +kernel
theorem dX8_stop_104 : decode cX8_stop 104 = .ok (.ifCond .ne 24, 3) := by decide +kernel
theorem dX8_stop_107 : decode cX8_stop 107 = .ok (.aload_n 0, 1) := by decide +kernel
theorem dX8_stop_108 : decode cX8_stop 108 = .ok (.getfield 19, 3) := by decide +kernel
theorem dX8_stop_111 : decode cX8_stop 111 = .ok (.iload_n 1, 1) := by decide +kernel
theorem dX8_stop_112 : decode cX8_stop 112 = .ok (.iaload, 1) := by decide +kernel
theorem dX8_stop_113 : decode cX8_stop 113 = .ok (.aload_n 0, 1) := by decide +kernel
theorem dX8_stop_114 : decode cX8_stop 114 = .ok (.iload_n 1, 1) := by decide +kernel
theorem dX8_stop_115 : decode cX8_stop 115 = .ok (.aload_n 0, 1) := by decide +kernel
theorem dX8_stop_116 : decode cX8_stop 116 = .ok (.getfield 46, 3) := by decide +kernel
theorem dX8_stop_119 : decode cX8_stop 119 = .ok (.iconst 0, 1) := by decide +kernel
theorem dX8_stop_120 : decode cX8_stop 120 = .ok (.iaload, 1) := by decide +kernel
theorem dX8_stop_121 : decode cX8_stop 121 = .ok (.invokevirtual 89, 3) := by decide +kernel
theorem dX8_stop_124 : decode cX8_stop 124 = .ok (.iadd, 1) := by decide +kernel
theorem dX8_stop_125 : decode cX8_stop 125 = .ok (.goto 35, 3) := by decide +kernel
theorem dX8_stop_128 : decode cX8_stop 128 = .ok (.aload_n 0, 1) := by decide +kernel
theorem dX8_stop_129 : decode cX8_stop 129 = .ok (.getfield 49, 3) := by decide +kernel
theorem dX8_stop_132 : decode cX8_stop 132 = .ok (.iload_n 2, 1) := by decide +kernel
theorem dX8_stop_133 : decode cX8_stop 133 = .ok (.iconst 1, 1) := by decide +kernel
theorem dX8_stop_134 : decode cX8_stop 134 = .ok (.isub, 1) := by decide +kernel
theorem dX8_stop_135 : decode cX8_stop 135 = .ok (.iaload, 1) := by decide +kernel
theorem dX8_stop_136 : decode cX8_stop 136 = .ok (.aload_n 0, 1) := by decide +kernel
theorem dX8_stop_137 : decode cX8_stop 137 = .ok (.getfield 61, 3) := by decide +kernel
theorem dX8_stop_140 : decode cX8_stop 140 = .ok (.iadd, 1) := by decide +kernel
theorem dX8_stop_141 : decode cX8_stop 141 = .ok (.aload_n 0, 1) := by decide +kernel
theorem dX8_stop_142 : decode cX8_stop 142 = .ok (.aload_n 0, 1) := by decide +kernel
theorem dX8_stop_143 : decode cX8_stop 143 = .ok (.getfield 46, 3) := by decide +kernel
theorem dX8_stop_146 : decode cX8_stop 146 = .ok (.iload_n 2, 1) := by decide +kernel
theorem dX8_stop_147 : decode cX8_stop 147 = .ok (.iconst 1, 1) := by decide +kernel
theorem dX8_stop_148 : decode cX8_stop 148 = .ok (.isub, 1) := by decide +kernel
theorem dX8_stop_149 : decode cX8_stop 149 = .ok (.iaload, 1) := by decide +kernel
theorem dX8_stop_150 : decode cX8_stop 150 = .ok (.aload_n 0, 1) := by decide +kernel
theorem dX8_stop_151 : decode cX8_stop 151 = .ok (.getfield 46, 3) := by decide +kernel
theorem dX8_stop_154 : decode cX8_stop 154 = .ok (.iload_n 2, 1) := by decide +kernel
theorem dX8_stop_155 : decode cX8_stop 155 = .ok (.iaload, 1) := by decide +kernel
theorem dX8_stop_156 : decode cX8_stop 156 = .ok (.invokevirtual 93, 3) := by decide +kernel
theorem dX8_stop_159 : decode cX8_stop 159 = .ok (.iadd, 1) := by decide +kernel
theorem dX8_stop_160 : decode cX8_stop 160 = .ok (.istore 5, 2) := by decide +kernel
theorem dX8_stop_162 : decode cX8_stop 162 = .ok (.iload_n 3, 1) := by decide +kernel
theorem dX8_stop_163 : decode cX8_stop 163 = .ok (.tableswitch 82 0 5 #[37, 46, 55, 62, 69, 72], 37) := by decide +kernel
theorem dX8_stop_200 : decode cX8_stop 200 = .ok (.aload_n 0, 1) := by decide +kernel
theorem dX8_stop_201 : decode cX8_stop 201 = .ok (.getfield 46, 3) := by decide +kernel
theorem dX8_stop_204 : decode cX8_stop 204 = .ok (.iload_n 2, 1) := by decide +kernel
theorem dX8_stop_205 : decode cX8_stop 205 = .ok (.iaload, 1) := by decide +kernel
theorem dX8_stop_206 : decode cX8_stop 206 = .ok (.iconst 2, 1) := by decide +kernel
theorem dX8_stop_207 : decode cX8_stop 207 = .ok (.idiv, 1) := by decide +kernel
theorem dX8_stop_208 : decode cX8_stop 208 = .ok (.ireturn, 1) := by decide +kernel
theorem dX8_stop_209 : decode cX8_stop 209 = .ok (.aload_n 0, 1) := by decide +kernel
theorem dX8_stop_210 : decode cX8_stop 210 = .ok (.getfield 46, 3) := by decide +kernel
theorem dX8_stop_213 : decode cX8_stop 213 = .ok (.iload_n 2, 1) := by decide +kernel
theorem dX8_stop_214 : decode cX8_stop 214 = .ok (.iaload, 1) := by decide +kernel
theorem dX8_stop_215 : decode cX8_stop 215 = .ok (.iconst 2, 1) := by decide +kernel
theorem dX8_stop_216 : decode cX8_stop 216 = .ok (.irem, 1) := by decide +kernel
theorem dX8_stop_217 : decode cX8_stop 217 = .ok (.ireturn, 1) := by decide +kernel
theorem dX8_stop_218 : decode cX8_stop 218 = .ok (.aload_n 0, 1) := by decide +kernel
theorem dX8_stop_219 : decode cX8_stop 219 = .ok (.getfield 49, 3) := by decide +kernel
theorem dX8_stop_222 : decode cX8_stop 222 = .ok (.iload_n 2, 1) := by decide +kernel
theorem dX8_stop_223 : decode cX8_stop 223 = .ok (.iaload, 1) := by decide +kernel
theorem dX8_stop_224 : decode cX8_stop 224 = .ok (.ireturn, 1) := by decide +kernel
theorem dX8_stop_225 : decode cX8_stop 225 = .ok (.aload_n 0, 1) := by decide +kernel
theorem dX8_stop_226 : decode cX8_stop 226 = .ok (.getfield 52, 3) := by decide +kernel
theorem dX8_stop_229 : decode cX8_stop 229 = .ok (.iload_n 2, 1) := by decide +kernel
theorem dX8_stop_230 : decode cX8_stop 230 = .ok (.iaload, 1) := by decide +kernel
theorem dX8_stop_231 : decode cX8_stop 231 = .ok (.ireturn, 1) := by decide +kernel
theorem dX8_stop_232 : decode cX8_stop 232 = .ok (.iload 4, 2) := by decide +kernel
theorem dX8_stop_234 : decode cX8_stop 234 = .ok (.ireturn, 1) := by decide +kernel
theorem dX8_stop_235 : decode cX8_stop 235 = .ok (.aload_n 0, 1) := by decide +kernel
theorem dX8_stop_236 : decode cX8_stop 236 = .ok (.getfield 49, 3) := by decide +kernel
theorem dX8_stop_239 : decode cX8_stop 239 = .ok (.iload_n 2, 1) := by decide +kernel
theorem dX8_stop_240 : decode cX8_stop 240 = .ok (.iaload, 1) := by decide +kernel
theorem dX8_stop_241 : decode cX8_stop 241 = .ok (.iload 5, 2) := by decide +kernel
theorem dX8_stop_243 : decode cX8_stop 243 = .ok (.isub, 1) := by decide +kernel
theorem dX8_stop_244 : decode cX8_stop 244 = .ok (.ireturn, 1) := by decide +kernel
theorem dX8_stop_245 : decode cX8_stop 245 = .ok (.sipush (-1002), 3) := by decide +kernel
theorem dX8_stop_248 : decode cX8_stop 248 = .ok (.ireturn, 1) := by decide +kernel
theorem dX8_rideTime_0 : decode cX8_rideTime 0 = .ok (.aload_n 0, 1) := by decide +kernel
theorem dX8_rideTime_1 : decode cX8_rideTime 1 = .ok (.iload_n 1, 1) := by decide +kernel
theorem dX8_rideTime_2 : decode cX8_rideTime 2 = .ok (.invokevirtual 120, 3) := by decide +kernel
theorem dX8_rideTime_5 : decode cX8_rideTime 5 = .ok (.ifCond .eq 7, 3) := by decide +kernel
theorem dX8_rideTime_8 : decode cX8_rideTime 8 = .ok (.sipush (-1001), 3) := by decide +kernel
theorem dX8_rideTime_11 : decode cX8_rideTime 11 = .ok (.ireturn, 1) := by decide +kernel
theorem dX8_rideTime_12 : decode cX8_rideTime 12 = .ok (.aload_n 0, 1) := by decide +kernel
theorem dX8_rideTime_13 : decode cX8_rideTime 13 = .ok (.iload_n 1, 1) := by decide +kernel
theorem dX8_rideTime_14 : decode cX8_rideTime 14 = .ok (.invokevirtual 114, 3) := by decide +kernel
theorem dX8_rideTime_17 : decode cX8_rideTime 17 = .ok (.istore_n 3, 1) := by decide +kernel
theorem dX8_rideTime_18 : decode cX8_rideTime 18 = .ok (.iload_n 3, 1) := by decide +kernel
theorem dX8_rideTime_19 : decode cX8_rideTime 19 = .ok (.ifCond .ge 7, 3) := by decide +kernel
theorem dX8_rideTime_22 : decode cX8_rideTime 22 = .ok (.sipush (-1004), 3) := by decide +kernel
theorem dX8_rideTime_25 : decode cX8_rideTime 25 = .ok (.ireturn, 1) := by decide +kernel
theorem dX8_rideTime_26 : decode cX8_rideTime 26 = .ok (.aload_n 0, 1) := by decide +kernel
theorem dX8_rideTime_27 : decode cX8_rideTime 27 = .ok (.iload_n 3, 1) := by decide +kernel
theorem dX8_rideTime_28 : decode cX8_rideTime 28 = .ok (.invokevirtual 138, 3) := by decide +kernel
theorem dX8_rideTime_31 : decode cX8_rideTime 31 = .ok (.aload_n 0, 1) := by decide +kernel
theorem dX8_rideTime_32 : decode cX8_rideTime 32 = .ok (.iconst 2, 1) := by decide +kernel
theorem dX8_rideTime_33 : decode cX8_rideTime 33 = .ok (.iload_n 1, 1) := by decide +kernel
theorem dX8_rideTime_34 : decode cX8_rideTime 34 = .ok (.imul, 1) := by decide +kernel
theorem dX8_rideTime_35 : decode cX8_rideTime 35 = .ok (.invokevirtual 96, 3) := by decide +kernel
theorem dX8_rideTime_38 : decode cX8_rideTime 38 = .ok (.istore 4, 2) := by decide +kernel
theorem dX8_rideTime_40 : decode cX8_rideTime 40 = .ok (.aload_n 0, 1) := by decide +kernel
theorem dX8_rideTime_41 : decode cX8_rideTime 41 = .ok (.iconst 2, 1) := by decide +kernel
theorem dX8_rideTime_42 : decode cX8_rideTime 42 = .ok (.iload_n 1, 1) := by decide +kernel
theorem dX8_rideTime_43 : decode cX8_rideTime 43 = .ok (.imul, 1) := by decide +kernel
theorem dX8_rideTime_44 : decode cX8_rideTime 44 = .ok (.iconst 1, 1) := by decide +kernel
theorem dX8_rideTime_45 : decode cX8_rideTime 45 = .ok (.iadd, 1) := by decide +kernel
theorem dX8_rideTime_46 : decode cX8_rideTime 46 = .ok (.invokevirtual 96, 3) := by decide +kernel
theorem dX8_rideTime_49 : decode cX8_rideTime 49 = .ok (.istore 5, 2) := by decide +kernel
theorem dX8_rideTime_51 : decode cX8_rideTime 51 = .ok (.iload_n 2, 1) := by decide +kernel
theorem dX8_rideTime_52 : decode cX8_rideTime 52 = .ok (.ifCond .eq 21, 3) := by decide +kernel
theorem dX8_rideTime_55 : decode cX8_rideTime 55 = .ok (.aload_n 0, 1) := by decide +kernel
theorem dX8_rideTime_56 : decode cX8_rideTime 56 = .ok (.getfield 52, 3) := by decide +kernel
theorem dX8_rideTime_59 : decode cX8_rideTime 59 = .ok (.iload 5, 2) := by decide +kernel
theorem dX8_rideTime_61 : decode cX8_rideTime 61 = .ok (.iaload, 1) := by decide +kernel
theorem dX8_rideTime_62 : decode cX8_rideTime 62 = .ok (.aload_n 0, 1) := by decide +kernel
theorem dX8_rideTime_63 : decode cX8_rideTime 63 = .ok (.getfield 52, 3) := by decide +kernel
theorem dX8_rideTime_66 : decode cX8_rideTime 66 = .ok (.iload 4, 2) := by decide +kernel
theorem dX8_rideTime_68 : decode cX8_rideTime 68 = .ok (.iaload, 1) := by decide +kernel
theorem dX8_rideTime_69 : decode cX8_rideTime 69 = .ok (.isub, 1) := by decide +kernel
theorem dX8_rideTime_70 : decode cX8_rideTime 70 = .ok (.goto 18, 3) := by decide +kernel
theorem dX8_rideTime_73 : decode cX8_rideTime 73 = .ok (.aload_n 0, 1) := by decide +kernel
theorem dX8_rideTime_74 : decode cX8_rideTime 74 = .ok (.getfield 49, 3) := by decide +kernel
theorem dX8_rideTime_77 : decode cX8_rideTime 77 = .ok (.iload 5, 2) := by decide +kernel
theorem dX8_rideTime_79 : decode cX8_rideTime 79 = .ok (.iaload, 1) := by decide +kernel
theorem dX8_rideTime_80 : decode cX8_rideTime 80 = .ok (.aload_n 0, 1) := by decide +kernel
theorem dX8_rideTime_81 : decode cX8_rideTime 81 = .ok (.getfield 49, 3) := by decide +kernel
theorem dX8_rideTime_84 : decode cX8_rideTime 84 = .ok (.iload 4, 2) := by decide +kernel
theorem dX8_rideTime_86 : decode cX8_rideTime 86 = .ok (.iaload, 1) := by decide +kernel
theorem dX8_rideTime_87 : decode cX8_rideTime 87 = .ok (.isub, 1) := by decide +kernel
theorem dX8_rideTime_88 : decode cX8_rideTime 88 = .ok (.aload_n 0, 1) := by decide +kernel
theorem dX8_rideTime_89 : decode cX8_rideTime 89 = .ok (.getfield 61, 3) := by decide +kernel
theorem dX8_rideTime_92 : decode cX8_rideTime 92 = .ok (.isub, 1) := by decide +kernel
theorem dX8_rideTime_93 : decode cX8_rideTime 93 = .ok (.ireturn, 1) := by decide +kernel
theorem dX8_depotTime_0 : decode cX8_depotTime 0 = .ok (.aload_n 0, 1) := by decide +kernel
theorem dX8_depotTime_1 : decode cX8_depotTime 1 = .ok (.iload_n 1, 1) := by decide +kernel
theorem dX8_depotTime_2 : decode cX8_depotTime 2 = .ok (.invokevirtual 132, 3) := by decide +kernel
theorem dX8_depotTime_5 : decode cX8_depotTime 5 = .ok (.ifCond .eq 7, 3) := by decide +kernel
theorem dX8_depotTime_8 : decode cX8_depotTime 8 = .ok (.sipush (-1001), 3) := by decide +kernel
theorem dX8_depotTime_11 : decode cX8_depotTime 11 = .ok (.ireturn, 1) := by decide +kernel
theorem dX8_depotTime_12 : decode cX8_depotTime 12 = .ok (.aload_n 0, 1) := by decide +kernel
theorem dX8_depotTime_13 : decode cX8_depotTime 13 = .ok (.iload_n 1, 1) := by decide +kernel
theorem dX8_depotTime_14 : decode cX8_depotTime 14 = .ok (.invokevirtual 138, 3) := by decide +kernel
theorem dX8_depotTime_17 : decode cX8_depotTime 17 = .ok (.aload_n 0, 1) := by decide +kernel
theorem dX8_depotTime_18 : decode cX8_depotTime 18 = .ok (.getfield 82, 3) := by decide +kernel
theorem dX8_depotTime_21 : decode cX8_depotTime 21 = .ok (.ifCond .ne 7, 3) := by decide +kernel
theorem dX8_depotTime_24 : decode cX8_depotTime 24 = .ok (.sipush (-1007), 3) := by decide +kernel
theorem dX8_depotTime_27 : decode cX8_depotTime 27 = .ok (.ireturn, 1) := by decide +kernel
theorem dX8_depotTime_28 : decode cX8_depotTime 28 = .ok (.iload_n 2, 1) := by decide +kernel
theorem dX8_depotTime_29 : decode cX8_depotTime 29 = .ok (.ifCond .eq 39, 3) := by decide +kernel
theorem dX8_depotTime_32 : decode cX8_depotTime 32 = .ok (.aload_n 0, 1) := by decide +kernel
theorem dX8_depotTime_33 : decode cX8_depotTime 33 = .ok (.getfield 49, 3) := by decide +kernel
theorem dX8_depotTime_36 : decode cX8_depotTime 36 = .ok (.aload_n 0, 1) := by decide +kernel
theorem dX8_depotTime_37 : decode cX8_depotTime 37 = .ok (.getfield 82, 3) := by decide +kernel
theorem dX8_depotTime_40 : decode cX8_depotTime 40 = .ok (.iconst 1, 1) := by decide +kernel
theorem dX8_depotTime_41 : decode cX8_depotTime 41 = .ok (.isub, 1) := by decide +kernel
theorem dX8_depotTime_42 : decode cX8_depotTime 42 = .ok (.iaload, 1) := by decide +kernel
theorem dX8_depotTime_43 : decode cX8_depotTime 43 = .ok (.aload_n 0, 1) := by decide +kernel
theorem dX8_depotTime_44 : decode cX8_depotTime 44 = .ok (.getfield 61, 3) := by decide +kernel
theorem dX8_depotTime_47 : decode cX8_depotTime 47 = .ok (.iadd, 1) := by decide +kernel
theorem dX8_depotTime_48 : decode cX8_depotTime 48 = .ok (.aload_n 0, 1) := by decide +kernel
theorem dX8_depotTime_49 : decode cX8_depotTime 49 = .ok (.iload_n 1, 1) := by decide +kernel
theorem dX8_depotTime_50 : decode cX8_depotTime 50 = .ok (.aload_n 0, 1) := by decide +kernel
theorem dX8_depotTime_51 : decode cX8_depotTime 51 = .ok (.getfield 46, 3) := by decide +kernel
theorem dX8_depotTime_54 : decode cX8_depotTime 54 = .ok (.aload_n 0, 1) := by decide +kernel
theorem dX8_depotTime_55 : decode cX8_depotTime 55 = .ok (.getfield 82, 3) := by decide +kernel
theorem dX8_depotTime_58 : decode cX8_depotTime 58 = .ok (.iconst 1, 1) := by decide +kernel
theorem dX8_depotTime_59 : decode cX8_depotTime 59 = .ok (.isub, 1) := by decide +kernel
theorem dX8_depotTime_60 : decode cX8_depotTime 60 = .ok (.iaload, 1) := by decide +kernel
theorem dX8_depotTime_61 : decode cX8_depotTime 61 = .ok (.invokevirtual 89, 3) := by decide +kernel
theorem dX8_depotTime_64 : decode cX8_depotTime 64 = .ok (.iadd, 1) := by decide +kernel
theorem dX8_depotTime_65 : decode cX8_depotTime 65 = .ok (.goto 21, 3) := by decide +kernel
theorem dX8_depotTime_68 : decode cX8_depotTime 68 = .ok (.aload_n 0, 1) := by decide +kernel
theorem dX8_depotTime_69 : decode cX8_depotTime 69 = .ok (.getfield 52, 3) := by decide +kernel
theorem dX8_depotTime_72 : decode cX8_depotTime 72 = .ok (.iconst 0, 1) := by decide +kernel
theorem dX8_depotTime_73 : decode cX8_depotTime 73 = .ok (.iaload, 1) := by decide +kernel
theorem dX8_depotTime_74 : decode cX8_depotTime 74 = .ok (.aload_n 0, 1) := by decide +kernel
theorem dX8_depotTime_75 : decode cX8_depotTime 75 = .ok (.iload_n 1, 1) := by decide +kernel
theorem dX8_depotTime_76 : decode cX8_depotTime 76 = .ok (.aload_n 0, 1) := by decide +kernel
theorem dX8_depotTime_77 : decode cX8_depotTime 77 = .ok (.getfield 46, 3) := by decide +kernel
theorem dX8_depotTime_80 : decode cX8_depotTime 80 = .ok (.iconst 0, 1) := by decide +kernel
theorem dX8_depotTime_81 : decode cX8_depotTime 81 = .ok (.iaload, 1) := by decide +kernel
theorem dX8_depotTime_82 : decode cX8_depotTime 82 = .ok (.invokevirtual 89, 3) := by decide +kernel
theorem dX8_depotTime_85 : decode cX8_depotTime 85 = .ok (.isub, 1) := by decide +kernel
theorem dX8_depotTime_86 : decode cX8_depotTime 86 = .ok (.ireturn, 1) := by decide +kernel
theorem dX8_takeWith_0 : decode cX8_takeWith 0 = .ok (.aload_n 0, 1) := by decide +kernel
theorem dX8_takeWith_1 : decode cX8_takeWith 1 = .ok (.aload_n 0, 1) := by decide +kernel
theorem dX8_takeWith_2 : decode cX8_takeWith 2 = .ok (.getfield 43, 3) := by decide +kernel
theorem dX8_takeWith_5 : decode cX8_takeWith 5 = .ok (.bipush 96, 2) := by decide +kernel
theorem dX8_takeWith_7 : decode cX8_takeWith 7 = .ok (.iload_n 1, 1) := by decide +kernel
theorem dX8_takeWith_8 : decode cX8_takeWith 8 = .ok (.iadd, 1) := by decide +kernel
theorem dX8_takeWith_9 : decode cX8_takeWith 9 = .ok (.iaload, 1) := by decide +kernel
theorem dX8_takeWith_10 : decode cX8_takeWith 10 = .ok (.iconst 2, 1) := by decide +kernel
theorem dX8_takeWith_11 : decode cX8_takeWith 11 = .ok (.iadd, 1) := by decide +kernel
theorem dX8_takeWith_12 : decode cX8_takeWith 12 = .ok (.putfield 82, 3) := by decide +kernel
theorem dX8_takeWith_15 : decode cX8_takeWith 15 = .ok (.iconst 0, 1) := by decide +kernel
theorem dX8_takeWith_16 : decode cX8_takeWith 16 = .ok (.istore 5, 2) := by decide +kernel
theorem dX8_takeWith_18 : decode cX8_takeWith 18 = .ok (.iconst 0, 1) := by decide +kernel
theorem dX8_takeWith_19 : decode cX8_takeWith 19 = .ok (.istore 6, 2) := by decide +kernel
theorem dX8_takeWith_21 : decode cX8_takeWith 21 = .ok (.iload 6, 2) := by decide +kernel
theorem dX8_takeWith_23 : decode cX8_takeWith 23 = .ok (.aload_n 0, 1) := by decide +kernel
theorem dX8_takeWith_24 : decode cX8_takeWith 24 = .ok (.getfield 82, 3) := by decide +kernel
theorem dX8_takeWith_27 : decode cX8_takeWith 27 = .ok (.if_icmp .ge 70, 3) := by decide +kernel
theorem dX8_takeWith_30 : decode cX8_takeWith 30 = .ok (.iload 6, 2) := by decide +kernel
theorem dX8_takeWith_32 : decode cX8_takeWith 32 = .ok (.iload_n 3, 1) := by decide +kernel
theorem dX8_takeWith_33 : decode cX8_takeWith 33 = .ok (.if_icmp .eq 10, 3) := by decide +kernel
theorem dX8_takeWith_36 : decode cX8_takeWith 36 = .ok (.iload 6, 2) := by decide +kernel
theorem dX8_takeWith_38 : decode cX8_takeWith 38 = .ok (.iload 4, 2) := by decide +kernel
theorem dX8_takeWith_40 : decode cX8_takeWith 40 = .ok (.if_icmp .ne 29, 3) := by decide +kernel
theorem dX8_takeWith_43 : decode cX8_takeWith 43 = .ok (.aload_n 0, 1) := by decide +kernel
theorem dX8_takeWith_44 : decode cX8_takeWith 44 = .ok (.getfield 46, 3) := by decide +kernel
theorem dX8_takeWith_47 : decode cX8_takeWith 47 = .ok (.iload 6, 2) := by decide +kernel
theorem dX8_takeWith_49 : decode cX8_takeWith 49 = .ok (.iconst 2, 1) := by decide +kernel
theorem dX8_takeWith_50 : decode cX8_takeWith 50 = .ok (.iload_n 2, 1) := by decide +kernel
theorem dX8_takeWith_51 : decode cX8_takeWith 51 = .ok (.imul, 1) := by decide +kernel
theorem dX8_takeWith_52 : decode cX8_takeWith 52 = .ok (.iload 6, 2) := by decide +kernel
theorem dX8_takeWith_54 : decode cX8_takeWith 54 = .ok (.iload 4, 2) := by decide +kernel
theorem dX8_takeWith_56 : decode cX8_takeWith 56 = .ok (.if_icmp .ne 7, 3) := by decide +kernel
theorem dX8_takeWith_59 : decode cX8_takeWith 59 = .ok (.iconst 1, 1) := by decide +kernel
theorem dX8_takeWith_60 : decode cX8_takeWith 60 = .ok (.goto 4, 3) := by decide +kernel
theorem dX8_takeWith_63 : decode cX8_takeWith 63 = .ok (.iconst 0, 1) := by decide +kernel
theorem dX8_takeWith_64 : decode cX8_takeWith 64 = .ok (.iadd, 1) := by decide +kernel
theorem dX8_takeWith_65 : decode cX8_takeWith 65 = .ok (.iastore, 1) := by decide +kernel
theorem dX8_takeWith_66 : decode cX8_takeWith 66 = .ok (.goto 25, 3) := by decide +kernel
theorem dX8_takeWith_69 : decode cX8_takeWith 69 = .ok (.aload_n 0, 1) := by decide +kernel
theorem dX8_takeWith_70 : decode cX8_takeWith 70 = .ok (.getfield 46, 3) := by decide +kernel
theorem dX8_takeWith_73 : decode cX8_takeWith 73 = .ok (.iload 6, 2) := by decide +kernel
theorem dX8_takeWith_75 : decode cX8_takeWith 75 = .ok (.aload_n 0, 1) := by decide +kernel
theorem dX8_takeWith_76 : decode cX8_takeWith 76 = .ok (.getfield 43, 3) := by decide +kernel
theorem dX8_takeWith_79 : decode cX8_takeWith 79 = .ok (.bipush 24, 2) := by decide +kernel
theorem dX8_takeWith_81 : decode cX8_takeWith 81 = .ok (.iload_n 1, 1) := by decide +kernel
theorem dX8_takeWith_82 : decode cX8_takeWith 82 = .ok (.imul, 1) := by decide +kernel
theorem dX8_takeWith_83 : decode cX8_takeWith 83 = .ok (.iload 5, 2) := by decide +kernel
theorem dX8_takeWith_85 : decode cX8_takeWith 85 = .ok (.iadd, 1) := by decide +kernel
theorem dX8_takeWith_86 : decode cX8_takeWith 86 = .ok (.iaload, 1) := by decide +kernel
theorem dX8_takeWith_87 : decode cX8_takeWith 87 = .ok (.iastore, 1) := by decide +kernel
theorem dX8_takeWith_88 : decode cX8_takeWith 88 = .ok (.iinc 5 1, 3) := by decide +kernel
theorem dX8_takeWith_91 : decode cX8_takeWith 91 = .ok (.iinc 6 1, 3) := by decide +kernel
theorem dX8_takeWith_94 : decode cX8_takeWith 94 = .ok (.goto (-73), 3) := by decide +kernel
theorem dX8_takeWith_97 : decode cX8_takeWith 97 = .ok (.return_, 1) := by decide +kernel
theorem dX8_lay_0 : decode cX8_lay 0 = .ok (.aload_n 0, 1) := by decide +kernel
theorem dX8_lay_1 : decode cX8_lay 1 = .ok (.getfield 43, 3) := by decide +kernel
theorem dX8_lay_4 : decode cX8_lay 4 = .ok (.bipush 96, 2) := by decide +kernel
theorem dX8_lay_6 : decode cX8_lay 6 = .ok (.iload_n 1, 1) := by decide +kernel
theorem dX8_lay_7 : decode cX8_lay 7 = .ok (.iadd, 1) := by decide +kernel
theorem dX8_lay_8 : decode cX8_lay 8 = .ok (.aload_n 0, 1) := by decide +kernel
theorem dX8_lay_9 : decode cX8_lay 9 = .ok (.getfield 82, 3) := by decide +kernel
theorem dX8_lay_12 : decode cX8_lay 12 = .ok (.iastore, 1) := by decide +kernel
theorem dX8_lay_13 : decode cX8_lay 13 = .ok (.iconst 0, 1) := by decide +kernel
theorem dX8_lay_14 : decode cX8_lay 14 = .ok (.istore_n 2, 1) := by decide +kernel
theorem dX8_lay_15 : decode cX8_lay 15 = .ok (.iload_n 2, 1) := by decide +kernel
theorem dX8_lay_16 : decode cX8_lay 16 = .ok (.aload_n 0, 1) := by decide +kernel
theorem dX8_lay_17 : decode cX8_lay 17 = .ok (.getfield 82, 3) := by decide +kernel
theorem dX8_lay_20 : decode cX8_lay 20 = .ok (.if_icmp .ge 26, 3) := by decide +kernel
theorem dX8_lay_23 : decode cX8_lay 23 = .ok (.aload_n 0, 1) := by decide +kernel
theorem dX8_lay_24 : decode cX8_lay 24 = .ok (.getfield 43, 3) := by decide +kernel
theorem dX8_lay_27 : decode cX8_lay 27 = .ok (.bipush 24, 2) := by decide +kernel
theorem dX8_lay_29 : decode cX8_lay 29 = .ok (.iload_n 1, 1) := by decide +kernel
theorem dX8_lay_30 : decode cX8_lay 30 = .ok (.imul, 1) := by decide +kernel
theorem dX8_lay_31 : decode cX8_lay 31 = .ok (.iload_n 2, 1) := by decide +kernel
theorem dX8_lay_32 : decode cX8_lay 32 = .ok (.iadd, 1) := by decide +kernel
theorem dX8_lay_33 : decode cX8_lay 33 = .ok (.aload_n 0, 1) := by decide +kernel
theorem dX8_lay_34 : decode cX8_lay 34 = .ok (.getfield 46, 3) := by decide +kernel
theorem dX8_lay_37 : decode cX8_lay 37 = .ok (.iload_n 2, 1) := by decide +kernel
theorem dX8_lay_38 : decode cX8_lay 38 = .ok (.iaload, 1) := by decide +kernel
theorem dX8_lay_39 : decode cX8_lay 39 = .ok (.iastore, 1) := by decide +kernel
theorem dX8_lay_40 : decode cX8_lay 40 = .ok (.iinc 2 1, 3) := by decide +kernel
theorem dX8_lay_43 : decode cX8_lay 43 = .ok (.goto (-28), 3) := by decide +kernel
theorem dX8_lay_46 : decode cX8_lay 46 = .ok (.return_, 1) := by decide +kernel
theorem dX8_findBest_0 : decode cX8_findBest 0 = .ok (.iconst 0, 1) := by decide +kernel
theorem dX8_findBest_1 : decode cX8_findBest 1 = .ok (.istore_n 3, 1) := by decide +kernel
theorem dX8_findBest_2 : decode cX8_findBest 2 = .ok (.aload_n 0, 1) := by decide +kernel
theorem dX8_findBest_3 : decode cX8_findBest 3 = .ok (.iload_n 2, 1) := by decide +kernel
theorem dX8_findBest_4 : decode cX8_findBest 4 = .ok (.invokevirtual 107, 3) := by decide +kernel
theorem dX8_findBest_7 : decode cX8_findBest 7 = .ok (.aload_n 0, 1) := by decide +kernel
theorem dX8_findBest_8 : decode cX8_findBest 8 = .ok (.iload_n 2, 1) := by decide +kernel
theorem dX8_findBest_9 : decode cX8_findBest 9 = .ok (.invokevirtual 126, 3) := by decide +kernel
theorem dX8_findBest_12 : decode cX8_findBest 12 = .ok (.istore 4, 2) := by decide +kernel
theorem dX8_findBest_14 : decode cX8_findBest 14 = .ok (.aload_n 0, 1) := by decide +kernel
theorem dX8_findBest_15 : decode cX8_findBest 15 = .ok (.getfield 82, 3) := by decide +kernel
theorem dX8_findBest_18 : decode cX8_findBest 18 = .ok (.istore 5, 2) := by decide +kernel
theorem dX8_findBest_20 : decode cX8_findBest 20 = .ok (.iconst 0, 1) := by decide +kernel
theorem dX8_findBest_21 : decode cX8_findBest 21 = .ok (.istore 6, 2) := by decide +kernel
theorem dX8_findBest_23 : decode cX8_findBest 23 = .ok (.iload 6, 2) := by decide +kernel
theorem dX8_findBest_25 : decode cX8_findBest 25 = .ok (.iload 5, 2) := by decide +kernel
theorem dX8_findBest_27 : decode cX8_findBest 27 = .ok (.if_icmp .gt 91, 3) := by decide +kernel
theorem dX8_findBest_30 : decode cX8_findBest 30 = .ok (.iload 6, 2) := by decide +kernel
theorem dX8_findBest_32 : decode cX8_findBest 32 = .ok (.iconst 1, 1) := by decide +kernel
theorem dX8_findBest_33 : decode cX8_findBest 33 = .ok (.iadd, 1) := by decide +kernel
theorem dX8_findBest_34 : decode cX8_findBest 34 = .ok (.istore 7, 2) := by decide +kernel
theorem dX8_findBest_36 : decode cX8_findBest 36 = .ok (.iload 7, 2) := by decide +kernel
theorem dX8_findBest_38 : decode cX8_findBest 38 = .ok (.iload 5, 2) := by decide +kernel
theorem dX8_findBest_40 : decode cX8_findBest 40 = .ok (.iconst 1, 1) := by decide +kernel
theorem dX8_findBest_41 : decode cX8_findBest 41 = .ok (.iadd, 1) := by decide +kernel
theorem dX8_findBest_42 : decode cX8_findBest 42 = .ok (.if_icmp .gt 70, 3) := by decide +kernel
theorem dX8_findBest_45 : decode cX8_findBest 45 = .ok (.aload_n 0, 1) := by decide +kernel
theorem dX8_findBest_46 : decode cX8_findBest 46 = .ok (.iload_n 2, 1) := by decide +kernel
theorem dX8_findBest_47 : decode cX8_findBest 47 = .ok (.iload_n 1, 1) := by decide +kernel
theorem dX8_findBest_48 : decode cX8_findBest 48 = .ok (.iload 6, 2) := by decide +kernel
theorem dX8_findBest_50 : decode cX8_findBest 50 = .ok (.iload 7, 2) := by decide +kernel
theorem dX8_findBest_52 : decode cX8_findBest 52 = .ok (.invokevirtual 141, 3) := by decide +kernel
theorem dX8_findBest_55 : decode cX8_findBest 55 = .ok (.aload_n 0, 1) := by decide +kernel
theorem dX8_findBest_56 : decode cX8_findBest 56 = .ok (.iload_n 2, 1) := by decide +kernel
theorem dX8_findBest_57 : decode cX8_findBest 57 = .ok (.invokevirtual 126, 3) := by decide +kernel
theorem dX8_findBest_60 : decode cX8_findBest 60 = .ok (.iload 4, 2) := by decide +kernel
theorem dX8_findBest_62 : decode cX8_findBest 62 = .ok (.isub, 1) := by decide +kernel
theorem dX8_findBest_63 : decode cX8_findBest 63 = .ok (.istore 8, 2) := by decide +kernel
theorem dX8_findBest_65 : decode cX8_findBest 65 = .ok (.iload_n 3, 1) := by decide +kernel
theorem dX8_findBest_66 : decode cX8_findBest 66 = .ok (.ifCond .eq 12, 3) := by decide +kernel
theorem dX8_findBest_69 : decode cX8_findBest 69 = .ok (.iload 8, 2) := by decide +kernel
theorem dX8_findBest_71 : decode cX8_findBest 71 = .ok (.aload_n 0, 1) := by decide +kernel
theorem dX8_findBest_72 : decode cX8_findBest 72 = .ok (.getfield 145, 3) := by decide +kernel
theorem dX8_findBest_75 : decode cX8_findBest 75 = .ok (.if_icmp .ge 31, 3) := by decide +kernel
theorem dX8_findBest_78 : decode cX8_findBest 78 = .ok (.aload_n 0, 1) := by decide +kernel
theorem dX8_findBest_79 : decode cX8_findBest 79 = .ok (.iload_n 2, 1) := by decide +kernel
theorem dX8_findBest_80 : decode cX8_findBest 80 = .ok (.invokevirtual 111, 3) := by decide +kernel
theorem dX8_findBest_83 : decode cX8_findBest 83 = .ok (.ifCond .eq 23, 3) := by decide +kernel
theorem dX8_findBest_86 : decode cX8_findBest 86 = .ok (.iconst 1, 1) := by decide +kernel
theorem dX8_findBest_87 : decode cX8_findBest 87 = .ok (.istore_n 3, 1) := by decide +kernel
theorem dX8_findBest_88 : decode cX8_findBest 88 = .ok (.aload_n 0, 1) := by decide +kernel
theorem dX8_findBest_89 : decode cX8_findBest 89 = .ok (.iload 6, 2) := by decide +kernel
theorem dX8_findBest_91 : decode cX8_findBest 91 = .ok (.putfield 148, 3) := by decide +kernel
theorem dX8_findBest_94 : decode cX8_findBest 94 = .ok (.aload_n 0, 1) := by decide +kernel
theorem dX8_findBest_95 : decode cX8_findBest 95 = .ok (.iload 7, 2) := by decide +kernel
theorem dX8_findBest_97 : decode cX8_findBest 97 = .ok (.putfield 151, 3) := by decide +kernel
theorem dX8_findBest_100 : decode cX8_findBest 100 = .ok (.aload_n 0, 1) := by decide +kernel
theorem dX8_findBest_101 : decode cX8_findBest 101 = .ok (.iload 8, 2) := by decide +kernel
theorem dX8_findBest_103 : decode cX8_findBest 103 = .ok (.putfield 145, 3) := by decide +kernel
theorem dX8_findBest_106 : decode cX8_findBest 106 = .ok (.iinc 7 1, 3) := by decide +kernel
theorem dX8_findBest_109 : decode cX8_findBest 109 = .ok (.goto (-73), 3) := by decide +kernel
theorem dX8_findBest_112 : decode cX8_findBest 112 = .ok (.iinc 6 1, 3) := by decide +kernel
theorem dX8_findBest_115 : decode cX8_findBest 115 = .ok (.goto (-92), 3) := by decide +kernel
theorem dX8_findBest_118 : decode cX8_findBest 118 = .ok (.iload_n 3, 1) := by decide +kernel
theorem dX8_findBest_119 : decode cX8_findBest 119 = .ok (.ireturn, 1) := by decide +kernel
theorem dX8_putBest_0 : decode cX8_putBest 0 = .ok (.aload_n 0, 1) := by decide +kernel
theorem dX8_putBest_1 : decode cX8_putBest 1 = .ok (.iload_n 1, 1) := by decide +kernel
theorem dX8_putBest_2 : decode cX8_putBest 2 = .ok (.iload_n 2, 1) := by decide +kernel
theorem dX8_putBest_3 : decode cX8_putBest 3 = .ok (.invokevirtual 154, 3) := by decide +kernel
theorem dX8_putBest_6 : decode cX8_putBest 6 = .ok (.istore_n 3, 1) := by decide +kernel
theorem dX8_putBest_7 : decode cX8_putBest 7 = .ok (.iload_n 3, 1) := by decide +kernel
theorem dX8_putBest_8 : decode cX8_putBest 8 = .ok (.ifCond .eq 22, 3) := by decide +kernel
theorem dX8_putBest_11 : decode cX8_putBest 11 = .ok (.aload_n 0, 1) := by decide +kernel
theorem dX8_putBest_12 : decode cX8_putBest 12 = .ok (.iload_n 2, 1) := by decide +kernel
theorem dX8_putBest_13 : decode cX8_putBest 13 = .ok (.iload_n 1, 1) := by decide +kernel
theorem dX8_putBest_14 : decode cX8_putBest 14 = .ok (.aload_n 0, 1) := by decide +kernel
theorem dX8_putBest_15 : decode cX8_putBest 15 = .ok (.getfield 148, 3) := by decide +kernel
theorem dX8_putBest_18 : decode cX8_putBest 18 = .ok (.aload_n 0, 1) := by decide +kernel
theorem dX8_putBest_19 : decode cX8_putBest 19 = .ok (.getfield 151, 3) := by decide +kernel
theorem dX8_putBest_22 : decode cX8_putBest 22 = .ok (.invokevirtual 141, 3) := by decide +kernel
theorem dX8_putBest_25 : decode cX8_putBest 25 = .ok (.aload_n 0, 1) := by decide +kernel
theorem dX8_putBest_26 : decode cX8_putBest 26 = .ok (.iload_n 2, 1) := by decide +kernel
theorem dX8_putBest_27 : decode cX8_putBest 27 = .ok (.invokevirtual 157, 3) := by decide +kernel
theorem dX8_putBest_30 : decode cX8_putBest 30 = .ok (.iload_n 3, 1) := by decide +kernel
theorem dX8_putBest_31 : decode cX8_putBest 31 = .ok (.ireturn, 1) := by decide +kernel
theorem dX8_putAnywhere_0 : decode cX8_putAnywhere 0 = .ok (.iconst (-1), 1) := by decide +kernel
theorem dX8_putAnywhere_1 : decode cX8_putAnywhere 1 = .ok (.istore_n 3, 1) := by decide +kernel
theorem dX8_putAnywhere_2 : decode cX8_putAnywhere 2 = .ok (.iconst 0, 1) := by decide +kernel
theorem dX8_putAnywhere_3 : decode cX8_putAnywhere 3 = .ok (.istore 4, 2) := by decide +kernel
theorem dX8_putAnywhere_5 : decode cX8_putAnywhere 5 = .ok (.iconst 0, 1) := by decide +kernel
theorem dX8_putAnywhere_6 : decode cX8_putAnywhere 6 = .ok (.istore 5, 2) := by decide +kernel
theorem dX8_putAnywhere_8 : decode cX8_putAnywhere 8 = .ok (.iload 5, 2) := by decide +kernel
theorem dX8_putAnywhere_10 : decode cX8_putAnywhere 10 = .ok (.aload_n 0, 1) := by decide +kernel
theorem dX8_putAnywhere_11 : decode cX8_putAnywhere 11 = .ok (.getfield 69, 3) := by decide +kernel
theorem dX8_putAnywhere_14 : decode cX8_putAnywhere 14 = .ok (.if_icmp .ge 47, 3) := by decide +kernel
theorem dX8_putAnywhere_17 : decode cX8_putAnywhere 17 = .ok (.iload 5, 2) := by decide +kernel
theorem dX8_putAnywhere_19 : decode cX8_putAnywhere 19 = .ok (.iload_n 2, 1) := by decide +kernel
theorem dX8_putAnywhere_20 : decode cX8_putAnywhere 20 = .ok (.if_icmp .eq 35, 3) := by decide +kernel
theorem dX8_putAnywhere_23 : decode cX8_putAnywhere 23 = .ok (.aload_n 0, 1) := by decide +kernel
theorem dX8_putAnywhere_24 : decode cX8_putAnywhere 24 = .ok (.iload_n 1, 1) := by decide +kernel
theorem dX8_putAnywhere_25 : decode cX8_putAnywhere 25 = .ok (.iload 5, 2) := by decide +kernel
theorem dX8_putAnywhere_27 : decode cX8_putAnywhere 27 = .ok (.invokevirtual 154, 3) := by decide +kernel
theorem dX8_putAnywhere_30 : decode cX8_putAnywhere 30 = .ok (.ifCond .eq 25, 3) := by decide +kernel
theorem dX8_putAnywhere_33 : decode cX8_putAnywhere 33 = .ok (.iload_n 3, 1) := by decide +kernel
theorem dX8_putAnywhere_34 : decode cX8_putAnywhere 34 = .ok (.ifCond .lt 12, 3) := by decide +kernel
theorem dX8_putAnywhere_37 : decode cX8_putAnywhere 37 = .ok (.aload_n 0, 1) := by decide +kernel
theorem dX8_putAnywhere_38 : decode cX8_putAnywhere 38 = .ok (.getfield 145, 3) := by decide +kernel
theorem dX8_putAnywhere_41 : decode cX8_putAnywhere 41 = .ok (.iload 4, 2) := by decide +kernel
theorem dX8_putAnywhere_43 : decode cX8_putAnywhere 43 = .ok (.if_icmp .ge 12, 3) := by decide +kernel
theorem dX8_putAnywhere_46 : decode cX8_putAnywhere 46 = .ok (.iload 5, 2) := by decide +kernel
theorem dX8_putAnywhere_48 : decode cX8_putAnywhere 48 = .ok (.istore_n 3, 1) := by decide +kernel
theorem dX8_putAnywhere_49 : decode cX8_putAnywhere 49 = .ok (.aload_n 0, 1) := by decide +kernel
theorem dX8_putAnywhere_50 : decode cX8_putAnywhere 50 = .ok (.getfield 145, 3) := by decide +kernel
theorem dX8_putAnywhere_53 : decode cX8_putAnywhere 53 = .ok (.istore 4, 2) := by decide +kernel
theorem dX8_putAnywhere_55 : decode cX8_putAnywhere 55 = .ok (.iinc 5 1, 3) := by decide +kernel
theorem dX8_putAnywhere_58 : decode cX8_putAnywhere 58 = .ok (.goto (-50), 3) := by decide +kernel
theorem dX8_putAnywhere_61 : decode cX8_putAnywhere 61 = .ok (.iload_n 3, 1) := by decide +kernel
theorem dX8_putAnywhere_62 : decode cX8_putAnywhere 62 = .ok (.ifCond .lt 10, 3) := by decide +kernel
theorem dX8_putAnywhere_65 : decode cX8_putAnywhere 65 = .ok (.aload_n 0, 1) := by decide +kernel
theorem dX8_putAnywhere_66 : decode cX8_putAnywhere 66 = .ok (.iload_n 1, 1) := by decide +kernel
theorem dX8_putAnywhere_67 : decode cX8_putAnywhere 67 = .ok (.iload_n 3, 1) := by decide +kernel
theorem dX8_putAnywhere_68 : decode cX8_putAnywhere 68 = .ok (.invokevirtual 160, 3) := by decide +kernel
theorem dX8_putAnywhere_71 : decode cX8_putAnywhere 71 = .ok (.pop, 1) := by decide +kernel
theorem dX8_putAnywhere_72 : decode cX8_putAnywhere 72 = .ok (.iload_n 3, 1) := by decide +kernel
theorem dX8_putAnywhere_73 : decode cX8_putAnywhere 73 = .ok (.ireturn, 1) := by decide +kernel
theorem dX8_takeOut_0 : decode cX8_takeOut 0 = .ok (.aload_n 0, 1) := by decide +kernel
theorem dX8_takeOut_1 : decode cX8_takeOut 1 = .ok (.iload_n 1, 1) := by decide +kernel
theorem dX8_takeOut_2 : decode cX8_takeOut 2 = .ok (.invokevirtual 114, 3) := by decide +kernel
theorem dX8_takeOut_5 : decode cX8_takeOut 5 = .ok (.istore_n 2, 1) := by decide +kernel
theorem dX8_takeOut_6 : decode cX8_takeOut 6 = .ok (.aload_n 0, 1) := by decide +kernel
theorem dX8_takeOut_7 : decode cX8_takeOut 7 = .ok (.iload_n 2, 1) := by decide +kernel
theorem dX8_takeOut_8 : decode cX8_takeOut 8 = .ok (.invokevirtual 107, 3) := by decide +kernel
theorem dX8_takeOut_11 : decode cX8_takeOut 11 = .ok (.iconst 0, 1) := by decide +kernel
theorem dX8_takeOut_12 : decode cX8_takeOut 12 = .ok (.istore_n 3, 1) := by decide +kernel
theorem dX8_takeOut_13 : decode cX8_takeOut 13 = .ok (.iconst 0, 1) := by decide +kernel
theorem dX8_takeOut_14 : decode cX8_takeOut 14 = .ok (.istore 4, 2) := by decide +kernel
theorem dX8_takeOut_16 : decode cX8_takeOut 16 = .ok (.iload 4, 2) := by decide +kernel
theorem dX8_takeOut_18 : decode cX8_takeOut 18 = .ok (.aload_n 0, 1) := by decide +kernel
theorem dX8_takeOut_19 : decode cX8_takeOut 19 = .ok (.getfield 82, 3) := by decide +kernel
theorem dX8_takeOut_22 : decode cX8_takeOut 22 = .ok (.if_icmp .ge 43, 3) := by decide +kernel
theorem dX8_takeOut_25 : decode cX8_takeOut 25 = .ok (.aload_n 0, 1) := by decide +kernel
theorem dX8_takeOut_26 : decode cX8_takeOut 26 = .ok (.getfield 46, 3) := by decide +kernel
theorem dX8_takeOut_29 : decode cX8_takeOut 29 = .ok (.iload_n 3, 1) := by decide +kernel
theorem dX8_takeOut_30 : decode cX8_takeOut 30 = .ok (.aload_n 0, 1) := by decide +kernel
theorem dX8_takeOut_31 : decode cX8_takeOut 31 = .ok (.getfield 46, 3) := by decide +kernel
theorem dX8_takeOut_34 : decode cX8_takeOut 34 = .ok (.iload 4, 2) := by decide +kernel
theorem dX8_takeOut_36 : decode cX8_takeOut 36 = .ok (.iaload, 1) := by decide +kernel
theorem dX8_takeOut_37 : decode cX8_takeOut 37 = .ok (.iastore, 1) := by decide +kernel
theorem dX8_takeOut_38 : decode cX8_takeOut 38 = .ok (.iload_n 3, 1) := by decide +kernel
theorem dX8_takeOut_39 : decode cX8_takeOut 39 = .ok (.aload_n 0, 1) := by decide +kernel
theorem dX8_takeOut_40 : decode cX8_takeOut 40 = .ok (.getfield 46, 3) := by decide +kernel
theorem dX8_takeOut_43 : decode cX8_takeOut 43 = .ok (.iload 4, 2) := by decide +kernel
theorem dX8_takeOut_45 : decode cX8_takeOut 45 = .ok (.iaload, 1) := by decide +kernel
theorem dX8_takeOut_46 : decode cX8_takeOut 46 = .ok (.iconst 2, 1) := by decide +kernel
theorem dX8_takeOut_47 : decode cX8_takeOut 47 = .ok (.idiv, 1) := by decide +kernel
theorem dX8_takeOut_48 : decode cX8_takeOut 48 = .ok (.iload_n 1, 1) := by decide +kernel
theorem dX8_takeOut_49 : decode cX8_takeOut 49 = .ok (.if_icmp .eq 7, 3) := by decide +kernel
theorem dX8_takeOut_52 : decode cX8_takeOut 52 = .ok (.iconst 1, 1) := by decide +kernel
theorem dX8_takeOut_53 : decode cX8_takeOut 53 = .ok (.goto 4, 3) := by decide +kernel
theorem dX8_takeOut_56 : decode cX8_takeOut 56 = .ok (.iconst 0, 1) := by decide +kernel
theorem dX8_takeOut_57 : decode cX8_takeOut 57 = .ok (.iadd, 1) := by decide +kernel
theorem dX8_takeOut_58 : decode cX8_takeOut 58 = .ok (.istore_n 3, 1) := by decide +kernel
theorem dX8_takeOut_59 : decode cX8_takeOut 59 = .ok (.iinc 4 1, 3) := by decide +kernel
theorem dX8_takeOut_62 : decode cX8_takeOut 62 = .ok (.goto (-46), 3) := by decide +kernel
theorem dX8_takeOut_65 : decode cX8_takeOut 65 = .ok (.aload_n 0, 1) := by decide +kernel
theorem dX8_takeOut_66 : decode cX8_takeOut 66 = .ok (.iload_n 3, 1) := by decide +kernel
theorem dX8_takeOut_67 : decode cX8_takeOut 67 = .ok (.putfield 82, 3) := by decide +kernel
theorem dX8_takeOut_70 : decode cX8_takeOut 70 = .ok (.aload_n 0, 1) := by decide +kernel
theorem dX8_takeOut_71 : decode cX8_takeOut 71 = .ok (.iload_n 2, 1) := by decide +kernel
theorem dX8_takeOut_72 : decode cX8_takeOut 72 = .ok (.invokevirtual 157, 3) := by decide +kernel
theorem dX8_takeOut_75 : decode cX8_takeOut 75 = .ok (.return_, 1) := by decide +kernel
theorem dX8_putAside_0 : decode cX8_putAside 0 = .ok (.iconst 0, 1) := by decide +kernel
theorem dX8_putAside_1 : decode cX8_putAside 1 = .ok (.istore_n 1, 1) := by decide +kernel
theorem dX8_putAside_2 : decode cX8_putAside 2 = .ok (.iload_n 1, 1) := by decide +kernel
theorem dX8_putAside_3 : decode cX8_putAside 3 = .ok (.bipush 100, 2) := by decide +kernel
theorem dX8_putAside_5 : decode cX8_putAside 5 = .ok (.if_icmp .ge 21, 3) := by decide +kernel
theorem dX8_putAside_8 : decode cX8_putAside 8 = .ok (.aload_n 0, 1) := by decide +kernel
theorem dX8_putAside_9 : decode cX8_putAside 9 = .ok (.getfield 58, 3) := by decide +kernel
theorem dX8_putAside_12 : decode cX8_putAside 12 = .ok (.iload_n 1, 1) := by decide +kernel
theorem dX8_putAside_13 : decode cX8_putAside 13 = .ok (.aload_n 0, 1) := by decide +kernel
theorem dX8_putAside_14 : decode cX8_putAside 14 = .ok (.getfield 43, 3) := by decide +kernel
theorem dX8_putAside_17 : decode cX8_putAside 17 = .ok (.iload_n 1, 1) := by decide +kernel
theorem dX8_putAside_18 : decode cX8_putAside 18 = .ok (.iaload, 1) := by decide +kernel
theorem dX8_putAside_19 : decode cX8_putAside 19 = .ok (.iastore, 1) := by decide +kernel
theorem dX8_putAside_20 : decode cX8_putAside 20 = .ok (.iinc 1 1, 3) := by decide +kernel
theorem dX8_putAside_23 : decode cX8_putAside 23 = .ok (.goto (-21), 3) := by decide +kernel
theorem dX8_putAside_26 : decode cX8_putAside 26 = .ok (.return_, 1) := by decide +kernel
theorem dX8_takeBack_0 : decode cX8_takeBack 0 = .ok (.iconst 0, 1) := by decide +kernel
theorem dX8_takeBack_1 : decode cX8_takeBack 1 = .ok (.istore_n 1, 1) := by decide +kernel
theorem dX8_takeBack_2 : decode cX8_takeBack 2 = .ok (.iload_n 1, 1) := by decide +kernel
theorem dX8_takeBack_3 : decode cX8_takeBack 3 = .ok (.bipush 100, 2) := by decide +kernel
theorem dX8_takeBack_5 : decode cX8_takeBack 5 = .ok (.if_icmp .ge 21, 3) := by decide +kernel
theorem dX8_takeBack_8 : decode cX8_takeBack 8 = .ok (.aload_n 0, 1) := by decide +kernel
theorem dX8_takeBack_9 : decode cX8_takeBack 9 = .ok (.getfield 43, 3) := by decide +kernel
theorem dX8_takeBack_12 : decode cX8_takeBack 12 = .ok (.iload_n 1, 1) := by decide +kernel
theorem dX8_takeBack_13 : decode cX8_takeBack 13 = .ok (.aload_n 0, 1) := by decide +kernel
theorem dX8_takeBack_14 : decode cX8_takeBack 14 = .ok (.getfield 58, 3) := by decide +kernel
theorem dX8_takeBack_17 : decode cX8_takeBack 17 = .ok (.iload_n 1, 1) := by decide +kernel
theorem dX8_takeBack_18 : decode cX8_takeBack 18 = .ok (.iaload, 1) := by decide +kernel
theorem dX8_takeBack_19 : decode cX8_takeBack 19 = .ok (.iastore, 1) := by decide +kernel
theorem dX8_takeBack_20 : decode cX8_takeBack 20 = .ok (.iinc 1 1, 3) := by decide +kernel
theorem dX8_takeBack_23 : decode cX8_takeBack 23 = .ok (.goto (-21), 3) := by decide +kernel
theorem dX8_takeBack_26 : decode cX8_takeBack 26 = .ok (.return_, 1) := by decide +kernel
theorem dX8_keep_0 : decode cX8_keep 0 = .ok (.aload_n 0, 1) := by decide +kernel
theorem dX8_keep_1 : decode cX8_keep 1 = .ok (.getfield 79, 3) := by decide +kernel
theorem dX8_keep_4 : decode cX8_keep 4 = .ok (.bipush 10, 2) := by decide +kernel
theorem dX8_keep_6 : decode cX8_keep 6 = .ok (.if_icmp .ne 47, 3) := by decide +kernel
theorem dX8_keep_9 : decode cX8_keep 9 = .ok (.aload_n 0, 1) := by decide +kernel
theorem dX8_keep_10 : decode cX8_keep 10 = .ok (.dup, 1) := by decide +kernel
theorem dX8_keep_11 : decode cX8_keep 11 = .ok (.getfield 79, 3) := by decide +kernel
theorem dX8_keep_14 : decode cX8_keep 14 = .ok (.iconst 1, 1) := by decide +kernel
theorem dX8_keep_15 : decode cX8_keep 15 = .ok (.isub, 1) := by decide +kernel
theorem dX8_keep_16 : decode cX8_keep 16 = .ok (.putfield 79, 3) := by decide +kernel
theorem dX8_keep_19 : decode cX8_keep 19 = .ok (.iconst 0, 1) := by decide +kernel
theorem dX8_keep_20 : decode cX8_keep 20 = .ok (.istore_n 1, 1) := by decide +kernel
theorem dX8_keep_21 : decode cX8_keep 21 = .ok (.iload_n 1, 1) := by decide +kernel
theorem dX8_keep_22 : decode cX8_keep 22 = .ok (.bipush 100, 2) := by decide +kernel
theorem dX8_keep_24 : decode cX8_keep 24 = .ok (.aload_n 0, 1) := by decide +kernel
theorem dX8_keep_25 : decode cX8_keep 25 = .ok (.getfield 79, 3) := by decide +kernel
theorem dX8_keep_28 : decode cX8_keep 28 = .ok (.imul, 1) := by decide +kernel
theorem dX8_keep_29 : decode cX8_keep 29 = .ok (.if_icmp .ge 24, 3) := by decide +kernel
theorem dX8_keep_32 : decode cX8_keep 32 = .ok (.aload_n 0, 1) := by decide +kernel
theorem dX8_keep_33 : decode cX8_keep 33 = .ok (.getfield 55, 3) := by decide +kernel
theorem dX8_keep_36 : decode cX8_keep 36 = .ok (.iload_n 1, 1) := by decide +kernel
theorem dX8_keep_37 : decode cX8_keep 37 = .ok (.aload_n 0, 1) := by decide +kernel
theorem dX8_keep_38 : decode cX8_keep 38 = .ok (.getfield 55, 3) := by decide +kernel
theorem dX8_keep_41 : decode cX8_keep 41 = .ok (.iload_n 1, 1) := by decide +kernel
theorem dX8_keep_42 : decode cX8_keep 42 = .ok (.bipush 100, 2) := by decide +kernel
theorem dX8_keep_44 : decode cX8_keep 44 = .ok (.iadd, 1) := by decide +kernel
theorem dX8_keep_45 : decode cX8_keep 45 = .ok (.iaload, 1) := by decide +kernel
theorem dX8_keep_46 : decode cX8_keep 46 = .ok (.iastore, 1) := by decide +kernel
theorem dX8_keep_47 : decode cX8_keep 47 = .ok (.iinc 1 1, 3) := by decide +kernel
theorem dX8_keep_50 : decode cX8_keep 50 = .ok (.goto (-29), 3) := by decide +kernel
theorem dX8_keep_53 : decode cX8_keep 53 = .ok (.iconst 0, 1) := by decide +kernel
theorem dX8_keep_54 : decode cX8_keep 54 = .ok (.istore_n 1, 1) := by decide +kernel
theorem dX8_keep_55 : decode cX8_keep 55 = .ok (.iload_n 1, 1) := by decide +kernel
theorem dX8_keep_56 : decode cX8_keep 56 = .ok (.bipush 100, 2) := by decide +kernel
theorem dX8_keep_58 : decode cX8_keep 58 = .ok (.if_icmp .ge 29, 3) := by decide +kernel
theorem dX8_keep_61 : decode cX8_keep 61 = .ok (.aload_n 0, 1) := by decide +kernel
theorem dX8_keep_62 : decode cX8_keep 62 = .ok (.getfield 55, 3) := by decide +kernel
theorem dX8_keep_65 : decode cX8_keep 65 = .ok (.bipush 100, 2) := by decide +kernel
theorem dX8_keep_67 : decode cX8_keep 67 = .ok (.aload_n 0, 1) := by decide +kernel
theorem dX8_keep_68 : decode cX8_keep 68 = .ok (.getfield 79, 3) := by decide +kernel
theorem dX8_keep_71 : decode cX8_keep 71 = .ok (.imul, 1) := by decide +kernel
theorem dX8_keep_72 : decode cX8_keep 72 = .ok (.iload_n 1, 1) := by decide +kernel
theorem dX8_keep_73 : decode cX8_keep 73 = .ok (.iadd, 1) := by decide +kernel
theorem dX8_keep_74 : decode cX8_keep 74 = .ok (.aload_n 0, 1) := by decide +kernel
theorem dX8_keep_75 : decode cX8_keep 75 = .ok (.getfield 58, 3) := by decide +kernel
theorem dX8_keep_78 : decode cX8_keep 78 = .ok (.iload_n 1, 1) := by decide +kernel
theorem dX8_keep_79 : decode cX8_keep 79 = .ok (.iaload, 1) := by decide +kernel
theorem dX8_keep_80 : decode cX8_keep 80 = .ok (.iastore, 1) := by decide +kernel
theorem dX8_keep_81 : decode cX8_keep 81 = .ok (.iinc 1 1, 3) := by decide +kernel
theorem dX8_keep_84 : decode cX8_keep 84 = .ok (.goto (-29), 3) := by decide +kernel
theorem dX8_keep_87 : decode cX8_keep 87 = .ok (.aload_n 0, 1) := by decide +kernel
theorem dX8_keep_88 : decode cX8_keep 88 = .ok (.dup, 1) := by decide +kernel
theorem dX8_keep_89 : decode cX8_keep 89 = .ok (.getfield 79, 3) := by decide +kernel
theorem dX8_keep_92 : decode cX8_keep 92 = .ok (.iconst 1, 1) := by decide +kernel
theorem dX8_keep_93 : decode cX8_keep 93 = .ok (.iadd, 1) := by decide +kernel
theorem dX8_keep_94 : decode cX8_keep 94 = .ok (.putfield 79, 3) := by decide +kernel
theorem dX8_keep_97 : decode cX8_keep 97 = .ok (.return_, 1) := by decide +kernel
theorem dX8_insertBarred_0 : decode cX8_insertBarred 0 = .ok (.aload_n 0, 1) := by decide +kernel
theorem dX8_insertBarred_1 : decode cX8_insertBarred 1 = .ok (.iload_n 1, 1) := by decide +kernel
theorem dX8_insertBarred_2 : decode cX8_insertBarred 2 = .ok (.invokevirtual 120, 3) := by decide +kernel
theorem dX8_insertBarred_5 : decode cX8_insertBarred 5 = .ok (.ifCond .ne 11, 3) := by decide +kernel
theorem dX8_insertBarred_8 : decode cX8_insertBarred 8 = .ok (.aload_n 0, 1) := by decide +kernel
theorem dX8_insertBarred_9 : decode cX8_insertBarred 9 = .ok (.iload_n 2, 1) := by decide +kernel
theorem dX8_insertBarred_10 : decode cX8_insertBarred 10 = .ok (.invokevirtual 132, 3) := by decide +kernel
theorem dX8_insertBarred_13 : decode cX8_insertBarred 13 = .ok (.ifCond .eq 7, 3) := by decide +kernel
theorem dX8_insertBarred_16 : decode cX8_insertBarred 16 = .ok (.sipush (-1001), 3) := by decide +kernel
theorem dX8_insertBarred_19 : decode cX8_insertBarred 19 = .ok (.ireturn, 1) := by decide +kernel
theorem dX8_insertBarred_20 : decode cX8_insertBarred 20 = .ok (.iload_n 3, 1) := by decide +kernel
theorem dX8_insertBarred_21 : decode cX8_insertBarred 21 = .ok (.iconst 0, 1) := by decide +kernel
theorem dX8_insertBarred_22 : decode cX8_insertBarred 22 = .ok (.aload_n 0, 1) := by decide +kernel
theorem dX8_insertBarred_23 : decode cX8_insertBarred 23 = .ok (.getfield 43, 3) := by decide +kernel
theorem dX8_insertBarred_26 : decode cX8_insertBarred 26 = .ok (.bipush 96, 2) := by decide +kernel
theorem dX8_insertBarred_28 : decode cX8_insertBarred 28 = .ok (.iload_n 2, 1) := by decide +kernel
theorem dX8_insertBarred_29 : decode cX8_insertBarred 29 = .ok (.iadd, 1) := by decide +kernel
theorem dX8_insertBarred_30 : decode cX8_insertBarred 30 = .ok (.iaload, 1) := by decide +kernel
theorem dX8_insertBarred_31 : decode cX8_insertBarred 31 = .ok (.invokestatic 65, 3) := by decide +kernel
theorem dX8_insertBarred_34 : decode cX8_insertBarred 34 = .ok (.ifCond .eq 25, 3) := by decide +kernel
theorem dX8_insertBarred_37 : decode cX8_insertBarred 37 = .ok (.iload 4, 2) := by decide +kernel
theorem dX8_insertBarred_39 : decode cX8_insertBarred 39 = .ok (.iload_n 3, 1) := by decide +kernel
theorem dX8_insertBarred_40 : decode cX8_insertBarred 40 = .ok (.iconst 1, 1) := by decide +kernel
theorem dX8_insertBarred_41 : decode cX8_insertBarred 41 = .ok (.iadd, 1) := by decide +kernel
theorem dX8_insertBarred_42 : decode cX8_insertBarred 42 = .ok (.aload_n 0, 1) := by decide +kernel
theorem dX8_insertBarred_43 : decode cX8_insertBarred 43 = .ok (.getfield 43, 3) := by decide +kernel
theorem dX8_insertBarred_46 : decode cX8_insertBarred 46 = .ok (.bipush 96, 2) := by decide +kernel
theorem dX8_insertBarred_48 : decode cX8_insertBarred 48 = .ok (.iload_n 2, 1) := by decide +kernel
theorem dX8_insertBarred_49 : decode cX8_insertBarred 49 = .ok (.iadd, 1) := by decide +kernel
theorem dX8_insertBarred_50 : decode cX8_insertBarred 50 = .ok (.iaload, 1) := by decide +kernel
theorem dX8_insertBarred_51 : decode cX8_insertBarred 51 = .ok (.iconst 1, 1) := by decide +kernel
theorem dX8_insertBarred_52 : decode cX8_insertBarred 52 = .ok (.iadd, 1) := by decide +kernel
theorem dX8_insertBarred_53 : decode cX8_insertBarred 53 = .ok (.invokestatic 65, 3) := by decide +kernel
theorem dX8_insertBarred_56 : decode cX8_insertBarred 56 = .ok (.ifCond .ne 7, 3) := by decide +kernel
theorem dX8_insertBarred_59 : decode cX8_insertBarred 59 = .ok (.sipush (-1002), 3) := by decide +kernel
theorem dX8_insertBarred_62 : decode cX8_insertBarred 62 = .ok (.ireturn, 1) := by decide +kernel
theorem dX8_insertBarred_63 : decode cX8_insertBarred 63 = .ok (.aload_n 0, 1) := by decide +kernel
theorem dX8_insertBarred_64 : decode cX8_insertBarred 64 = .ok (.iload_n 1, 1) := by decide +kernel
theorem dX8_insertBarred_65 : decode cX8_insertBarred 65 = .ok (.invokevirtual 114, 3) := by decide +kernel
theorem dX8_insertBarred_68 : decode cX8_insertBarred 68 = .ok (.ifCond .lt 7, 3) := by decide +kernel
theorem dX8_insertBarred_71 : decode cX8_insertBarred 71 = .ok (.sipush (-1003), 3) := by decide +kernel
theorem dX8_insertBarred_74 : decode cX8_insertBarred 74 = .ok (.ireturn, 1) := by decide +kernel
theorem dX8_insertBarred_75 : decode cX8_insertBarred 75 = .ok (.aload_n 0, 1) := by decide +kernel
theorem dX8_insertBarred_76 : decode cX8_insertBarred 76 = .ok (.iload_n 2, 1) := by decide +kernel
theorem dX8_insertBarred_77 : decode cX8_insertBarred 77 = .ok (.iload_n 1, 1) := by decide +kernel
theorem dX8_insertBarred_78 : decode cX8_insertBarred 78 = .ok (.iload_n 3, 1) := by decide +kernel
theorem dX8_insertBarred_79 : decode cX8_insertBarred 79 = .ok (.iload 4, 2) := by decide +kernel
theorem dX8_insertBarred_81 : decode cX8_insertBarred 81 = .ok (.invokevirtual 141, 3) := by decide +kernel
theorem dX8_insertBarred_84 : decode cX8_insertBarred 84 = .ok (.aload_n 0, 1) := by decide +kernel
theorem dX8_insertBarred_85 : decode cX8_insertBarred 85 = .ok (.iload_n 2, 1) := by decide +kernel
theorem dX8_insertBarred_86 : decode cX8_insertBarred 86 = .ok (.invokevirtual 111, 3) := by decide +kernel
theorem dX8_insertBarred_89 : decode cX8_insertBarred 89 = .ok (.ifCond .eq 7, 3) := by decide +kernel
theorem dX8_insertBarred_92 : decode cX8_insertBarred 92 = .ok (.iconst 0, 1) := by decide +kernel
theorem dX8_insertBarred_93 : decode cX8_insertBarred 93 = .ok (.goto 6, 3) := by decide +kernel
theorem dX8_insertBarred_96 : decode cX8_insertBarred 96 = .ok (.sipush (-1005), 3) := by decide +kernel
theorem dX8_insertBarred_99 : decode cX8_insertBarred 99 = .ok (.ireturn, 1) := by decide +kernel
theorem dX8_lengthOfRow_0 : decode cX8_lengthOfRow 0 = .ok (.aload_n 0, 1) := by decide +kernel
theorem dX8_lengthOfRow_1 : decode cX8_lengthOfRow 1 = .ok (.iload_n 1, 1) := by decide +kernel
theorem dX8_lengthOfRow_2 : decode cX8_lengthOfRow 2 = .ok (.invokevirtual 107, 3) := by decide +kernel
theorem dX8_lengthOfRow_5 : decode cX8_lengthOfRow 5 = .ok (.aload_n 0, 1) := by decide +kernel
theorem dX8_lengthOfRow_6 : decode cX8_lengthOfRow 6 = .ok (.iload_n 1, 1) := by decide +kernel
theorem dX8_lengthOfRow_7 : decode cX8_lengthOfRow 7 = .ok (.invokevirtual 126, 3) := by decide +kernel
theorem dX8_lengthOfRow_10 : decode cX8_lengthOfRow 10 = .ok (.ireturn, 1) := by decide +kernel
theorem dX8_cost_0 : decode cX8_cost 0 = .ok (.aload_n 0, 1) := by decide +kernel
theorem dX8_cost_1 : decode cX8_cost 1 = .ok (.iload_n 1, 1) := by decide +kernel
theorem dX8_cost_2 : decode cX8_cost 2 = .ok (.iload_n 2, 1) := by decide +kernel
theorem dX8_cost_3 : decode cX8_cost 3 = .ok (.iload_n 3, 1) := by decide +kernel
theorem dX8_cost_4 : decode cX8_cost 4 = .ok (.iload 4, 2) := by decide +kernel
theorem dX8_cost_6 : decode cX8_cost 6 = .ok (.invokevirtual 163, 3) := by decide +kernel
theorem dX8_cost_9 : decode cX8_cost 9 = .ok (.istore 5, 2) := by decide +kernel
theorem dX8_cost_11 : decode cX8_cost 11 = .ok (.iload 5, 2) := by decide +kernel
theorem dX8_cost_13 : decode cX8_cost 13 = .ok (.ifCond .ge 6, 3) := by decide +kernel
theorem dX8_cost_16 : decode cX8_cost 16 = .ok (.iload 5, 2) := by decide +kernel
theorem dX8_cost_18 : decode cX8_cost 18 = .ok (.ireturn, 1) := by decide +kernel
theorem dX8_cost_19 : decode cX8_cost 19 = .ok (.aload_n 0, 1) := by decide +kernel
theorem dX8_cost_20 : decode cX8_cost 20 = .ok (.iload_n 2, 1) := by decide +kernel
theorem dX8_cost_21 : decode cX8_cost 21 = .ok (.invokevirtual 126, 3) := by decide +kernel
theorem dX8_cost_24 : decode cX8_cost 24 = .ok (.istore 6, 2) := by decide +kernel
theorem dX8_cost_26 : decode cX8_cost 26 = .ok (.iload 6, 2) := by decide +kernel
theorem dX8_cost_28 : decode cX8_cost 28 = .ok (.aload_n 0, 1) := by decide +kernel
theorem dX8_cost_29 : decode cX8_cost 29 = .ok (.iload_n 2, 1) := by decide +kernel
theorem dX8_cost_30 : decode cX8_cost 30 = .ok (.invokevirtual 167, 3) := by decide +kernel
theorem dX8_cost_33 : decode cX8_cost 33 = .ok (.isub, 1) := by decide +kernel
theorem dX8_cost_34 : decode cX8_cost 34 = .ok (.ireturn, 1) := by decide +kernel
theorem dX8_insert_0 : decode cX8_insert 0 = .ok (.aload_n 0, 1) := by decide +kernel
theorem dX8_insert_1 : decode cX8_insert 1 = .ok (.iload_n 1, 1) := by decide +kernel
theorem dX8_insert_2 : decode cX8_insert 2 = .ok (.iload_n 2, 1) := by decide +kernel
theorem dX8_insert_3 : decode cX8_insert 3 = .ok (.iload_n 3, 1) := by decide +kernel
theorem dX8_insert_4 : decode cX8_insert 4 = .ok (.iload 4, 2) := by decide +kernel
theorem dX8_insert_6 : decode cX8_insert 6 = .ok (.invokevirtual 163, 3) := by decide +kernel
theorem dX8_insert_9 : decode cX8_insert 9 = .ok (.istore 5, 2) := by decide +kernel
theorem dX8_insert_11 : decode cX8_insert 11 = .ok (.iload 5, 2) := by decide +kernel
theorem dX8_insert_13 : decode cX8_insert 13 = .ok (.ifCond .ge 6, 3) := by decide +kernel
theorem dX8_insert_16 : decode cX8_insert 16 = .ok (.iload 5, 2) := by decide +kernel
theorem dX8_insert_18 : decode cX8_insert 18 = .ok (.ireturn, 1) := by decide +kernel
theorem dX8_insert_19 : decode cX8_insert 19 = .ok (.aload_n 0, 1) := by decide +kernel
theorem dX8_insert_20 : decode cX8_insert 20 = .ok (.iload_n 2, 1) := by decide +kernel
theorem dX8_insert_21 : decode cX8_insert 21 = .ok (.invokevirtual 167, 3) := by decide +kernel
theorem dX8_insert_24 : decode cX8_insert 24 = .ok (.istore 6, 2) := by decide +kernel
theorem dX8_insert_26 : decode cX8_insert 26 = .ok (.aload_n 0, 1) := by decide +kernel
theorem dX8_insert_27 : decode cX8_insert 27 = .ok (.invokevirtual 170, 3) := by decide +kernel
theorem dX8_insert_30 : decode cX8_insert 30 = .ok (.aload_n 0, 1) := by decide +kernel
theorem dX8_insert_31 : decode cX8_insert 31 = .ok (.invokevirtual 173, 3) := by decide +kernel
theorem dX8_insert_34 : decode cX8_insert 34 = .ok (.aload_n 0, 1) := by decide +kernel
theorem dX8_insert_35 : decode cX8_insert 35 = .ok (.iload_n 2, 1) := by decide +kernel
theorem dX8_insert_36 : decode cX8_insert 36 = .ok (.iload_n 1, 1) := by decide +kernel
theorem dX8_insert_37 : decode cX8_insert 37 = .ok (.iload_n 3, 1) := by decide +kernel
theorem dX8_insert_38 : decode cX8_insert 38 = .ok (.iload 4, 2) := by decide +kernel
theorem dX8_insert_40 : decode cX8_insert 40 = .ok (.invokevirtual 141, 3) := by decide +kernel
theorem dX8_insert_43 : decode cX8_insert 43 = .ok (.aload_n 0, 1) := by decide +kernel
theorem dX8_insert_44 : decode cX8_insert 44 = .ok (.iload_n 2, 1) := by decide +kernel
theorem dX8_insert_45 : decode cX8_insert 45 = .ok (.invokevirtual 157, 3) := by decide +kernel
theorem dX8_insert_48 : decode cX8_insert 48 = .ok (.aload_n 0, 1) := by decide +kernel
theorem dX8_insert_49 : decode cX8_insert 49 = .ok (.iload_n 2, 1) := by decide +kernel
theorem dX8_insert_50 : decode cX8_insert 50 = .ok (.invokevirtual 126, 3) := by decide +kernel
theorem dX8_insert_53 : decode cX8_insert 53 = .ok (.iload 6, 2) := by decide +kernel
theorem dX8_insert_55 : decode cX8_insert 55 = .ok (.isub, 1) := by decide +kernel
theorem dX8_insert_56 : decode cX8_insert 56 = .ok (.ireturn, 1) := by decide +kernel
theorem dX8_openBarred_0 : decode cX8_openBarred 0 = .ok (.aload_n 0, 1) := by decide +kernel
theorem dX8_openBarred_1 : decode cX8_openBarred 1 = .ok (.iload_n 1, 1) := by decide +kernel
theorem dX8_openBarred_2 : decode cX8_openBarred 2 = .ok (.invokevirtual 120, 3) := by decide +kernel
theorem dX8_openBarred_5 : decode cX8_openBarred 5 = .ok (.ifCond .eq 9, 3) := by decide +kernel
theorem dX8_openBarred_8 : decode cX8_openBarred 8 = .ok (.sipush (-1001), 3) := by decide +kernel
theorem dX8_openBarred_11 : decode cX8_openBarred 11 = .ok (.goto 18, 3) := by decide +kernel
theorem dX8_openBarred_14 : decode cX8_openBarred 14 = .ok (.aload_n 0, 1) := by decide +kernel
theorem dX8_openBarred_15 : decode cX8_openBarred 15 = .ok (.iload_n 1, 1) := by decide +kernel
theorem dX8_openBarred_16 : decode cX8_openBarred 16 = .ok (.invokevirtual 114, 3) := by decide +kernel
theorem dX8_openBarred_19 : decode cX8_openBarred 19 = .ok (.ifCond .lt 9, 3) := by decide +kernel
theorem dX8_openBarred_22 : decode cX8_openBarred 22 = .ok (.sipush (-1003), 3) := by decide +kernel
theorem dX8_openBarred_25 : decode cX8_openBarred 25 = .ok (.goto 4, 3) := by decide +kernel
theorem dX8_openBarred_28 : decode cX8_openBarred 28 = .ok (.iconst 0, 1) := by decide +kernel
theorem dX8_openBarred_29 : decode cX8_openBarred 29 = .ok (.ireturn, 1) := by decide +kernel
theorem dX8_best_0 : decode cX8_best 0 = .ok (.aload_n 0, 1) := by decide +kernel
theorem dX8_best_1 : decode cX8_best 1 = .ok (.iload_n 1, 1) := by decide +kernel
theorem dX8_best_2 : decode cX8_best 2 = .ok (.invokevirtual 120, 3) := by decide +kernel
theorem dX8_best_5 : decode cX8_best 5 = .ok (.ifCond .ne 11, 3) := by decide +kernel
theorem dX8_best_8 : decode cX8_best 8 = .ok (.aload_n 0, 1) := by decide +kernel
theorem dX8_best_9 : decode cX8_best 9 = .ok (.iload_n 2, 1) := by decide +kernel
theorem dX8_best_10 : decode cX8_best 10 = .ok (.invokevirtual 132, 3) := by decide +kernel
theorem dX8_best_13 : decode cX8_best 13 = .ok (.ifCond .eq 7, 3) := by decide +kernel
theorem dX8_best_16 : decode cX8_best 16 = .ok (.sipush (-1001), 3) := by decide +kernel
theorem dX8_best_19 : decode cX8_best 19 = .ok (.ireturn, 1) := by decide +kernel
theorem dX8_best_20 : decode cX8_best 20 = .ok (.aload_n 0, 1) := by decide +kernel
theorem dX8_best_21 : decode cX8_best 21 = .ok (.iload_n 1, 1) := by decide +kernel
theorem dX8_best_22 : decode cX8_best 22 = .ok (.invokevirtual 114, 3) := by decide +kernel
theorem dX8_best_25 : decode cX8_best 25 = .ok (.ifCond .lt 7, 3) := by decide +kernel
theorem dX8_best_28 : decode cX8_best 28 = .ok (.sipush (-1003), 3) := by decide +kernel
theorem dX8_best_31 : decode cX8_best 31 = .ok (.ireturn, 1) := by decide +kernel
theorem dX8_best_32 : decode cX8_best 32 = .ok (.aload_n 0, 1) := by decide +kernel
theorem dX8_best_33 : decode cX8_best 33 = .ok (.iload_n 1, 1) := by decide +kernel
theorem dX8_best_34 : decode cX8_best 34 = .ok (.iload_n 2, 1) := by decide +kernel
theorem dX8_best_35 : decode cX8_best 35 = .ok (.invokevirtual 154, 3) := by decide +kernel
theorem dX8_best_38 : decode cX8_best 38 = .ok (.ifCond .eq 18, 3) := by decide +kernel
theorem dX8_best_41 : decode cX8_best 41 = .ok (.bipush 100, 2) := by decide +kernel
theorem dX8_best_43 : decode cX8_best 43 = .ok (.aload_n 0, 1) := by decide +kernel
theorem dX8_best_44 : decode cX8_best 44 = .ok (.getfield 148, 3) := by decide +kernel
theorem dX8_best_47 : decode cX8_best 47 = .ok (.imul, 1) := by decide +kernel
theorem dX8_best_48 : decode cX8_best 48 = .ok (.aload_n 0, 1) := by decide +kernel
theorem dX8_best_49 : decode cX8_best 49 = .ok (.getfield 151, 3) := by decide +kernel
theorem dX8_best_52 : decode cX8_best 52 = .ok (.iadd, 1) := by decide +kernel
theorem dX8_best_53 : decode cX8_best 53 = .ok (.goto 6, 3) := by decide +kernel
theorem dX8_best_56 : decode cX8_best 56 = .ok (.sipush (-1007), 3) := by decide +kernel
theorem dX8_best_59 : decode cX8_best 59 = .ok (.ireturn, 1) := by decide +kernel
theorem dX8_assignTo_0 : decode cX8_assignTo 0 = .ok (.aload_n 0, 1) := by decide +kernel
theorem dX8_assignTo_1 : decode cX8_assignTo 1 = .ok (.iload_n 1, 1) := by decide +kernel
theorem dX8_assignTo_2 : decode cX8_assignTo 2 = .ok (.invokevirtual 120, 3) := by decide +kernel
theorem dX8_assignTo_5 : decode cX8_assignTo 5 = .ok (.ifCond .ne 11, 3) := by decide +kernel
theorem dX8_assignTo_8 : decode cX8_assignTo 8 = .ok (.aload_n 0, 1) := by decide +kernel
theorem dX8_assignTo_9 : decode cX8_assignTo 9 = .ok (.iload_n 2, 1) := by decide +kernel
theorem dX8_assignTo_10 : decode cX8_assignTo 10 = .ok (.invokevirtual 132, 3) := by decide +kernel
theorem dX8_assignTo_13 : decode cX8_assignTo 13 = .ok (.ifCond .eq 7, 3) := by decide +kernel
theorem dX8_assignTo_16 : decode cX8_assignTo 16 = .ok (.sipush (-1001), 3) := by decide +kernel
theorem dX8_assignTo_19 : decode cX8_assignTo 19 = .ok (.ireturn, 1) := by decide +kernel
theorem dX8_assignTo_20 : decode cX8_assignTo 20 = .ok (.aload_n 0, 1) := by decide +kernel
theorem dX8_assignTo_21 : decode cX8_assignTo 21 = .ok (.iload_n 1, 1) := by decide +kernel
theorem dX8_assignTo_22 : decode cX8_assignTo 22 = .ok (.invokevirtual 114, 3) := by decide +kernel
theorem dX8_assignTo_25 : decode cX8_assignTo 25 = .ok (.ifCond .lt 7, 3) := by decide +kernel
theorem dX8_assignTo_28 : decode cX8_assignTo 28 = .ok (.sipush (-1003), 3) := by decide +kernel
theorem dX8_assignTo_31 : decode cX8_assignTo 31 = .ok (.ireturn, 1) := by decide +kernel
theorem dX8_assignTo_32 : decode cX8_assignTo 32 = .ok (.aload_n 0, 1) := by decide +kernel
theorem dX8_assignTo_33 : decode cX8_assignTo 33 = .ok (.invokevirtual 170, 3) := by decide +kernel
theorem dX8_assignTo_36 : decode cX8_assignTo 36 = .ok (.aload_n 0, 1) := by decide +kernel
theorem dX8_assignTo_37 : decode cX8_assignTo 37 = .ok (.iload_n 1, 1) := by decide +kernel
theorem dX8_assignTo_38 : decode cX8_assignTo 38 = .ok (.iload_n 2, 1) := by decide +kernel
theorem dX8_assignTo_39 : decode cX8_assignTo 39 = .ok (.invokevirtual 160, 3) := by decide +kernel
theorem dX8_assignTo_42 : decode cX8_assignTo 42 = .ok (.ifCond .ne 7, 3) := by decide +kernel
theorem dX8_assignTo_45 : decode cX8_assignTo 45 = .ok (.sipush (-1005), 3) := by decide +kernel
theorem dX8_assignTo_48 : decode cX8_assignTo 48 = .ok (.ireturn, 1) := by decide +kernel
theorem dX8_assignTo_49 : decode cX8_assignTo 49 = .ok (.aload_n 0, 1) := by decide +kernel
theorem dX8_assignTo_50 : decode cX8_assignTo 50 = .ok (.invokevirtual 173, 3) := by decide +kernel
theorem dX8_assignTo_53 : decode cX8_assignTo 53 = .ok (.aload_n 0, 1) := by decide +kernel
theorem dX8_assignTo_54 : decode cX8_assignTo 54 = .ok (.getfield 145, 3) := by decide +kernel
theorem dX8_assignTo_57 : decode cX8_assignTo 57 = .ok (.ireturn, 1) := by decide +kernel
theorem dX8_assign_0 : decode cX8_assign 0 = .ok (.aload_n 0, 1) := by decide +kernel
theorem dX8_assign_1 : decode cX8_assign 1 = .ok (.iload_n 1, 1) := by decide +kernel
theorem dX8_assign_2 : decode cX8_assign 2 = .ok (.invokevirtual 176, 3) := by decide +kernel
theorem dX8_assign_5 : decode cX8_assign 5 = .ok (.istore_n 2, 1) := by decide +kernel
theorem dX8_assign_6 : decode cX8_assign 6 = .ok (.iload_n 2, 1) := by decide +kernel
theorem dX8_assign_7 : decode cX8_assign 7 = .ok (.ifCond .ge 5, 3) := by decide +kernel
theorem dX8_assign_10 : decode cX8_assign 10 = .ok (.iload_n 2, 1) := by decide +kernel
theorem dX8_assign_11 : decode cX8_assign 11 = .ok (.ireturn, 1) := by decide +kernel
theorem dX8_assign_12 : decode cX8_assign 12 = .ok (.aload_n 0, 1) := by decide +kernel
theorem dX8_assign_13 : decode cX8_assign 13 = .ok (.invokevirtual 170, 3) := by decide +kernel
theorem dX8_assign_16 : decode cX8_assign 16 = .ok (.aload_n 0, 1) := by decide +kernel
theorem dX8_assign_17 : decode cX8_assign 17 = .ok (.iload_n 1, 1) := by decide +kernel
theorem dX8_assign_18 : decode cX8_assign 18 = .ok (.iconst (-1), 1) := by decide +kernel
theorem dX8_assign_19 : decode cX8_assign 19 = .ok (.invokevirtual 179, 3) := by decide +kernel
theorem dX8_assign_22 : decode cX8_assign 22 = .ok (.istore_n 3, 1) := by decide +kernel
theorem dX8_assign_23 : decode cX8_assign 23 = .ok (.iload_n 3, 1) := by decide +kernel
theorem dX8_assign_24 : decode cX8_assign 24 = .ok (.ifCond .ge 7, 3) := by decide +kernel
theorem dX8_assign_27 : decode cX8_assign 27 = .ok (.sipush (-1005), 3) := by decide +kernel
theorem dX8_assign_30 : decode cX8_assign 30 = .ok (.ireturn, 1) := by decide +kernel
theorem dX8_assign_31 : decode cX8_assign 31 = .ok (.aload_n 0, 1) := by decide +kernel
theorem dX8_assign_32 : decode cX8_assign 32 = .ok (.invokevirtual 173, 3) := by decide +kernel
theorem dX8_assign_35 : decode cX8_assign 35 = .ok (.iload_n 3, 1) := by decide +kernel
theorem dX8_assign_36 : decode cX8_assign 36 = .ok (.ireturn, 1) := by decide +kernel
theorem dX8_remove_0 : decode cX8_remove 0 = .ok (.aload_n 0, 1) := by decide +kernel
theorem dX8_remove_1 : decode cX8_remove 1 = .ok (.iload_n 1, 1) := by decide +kernel
theorem dX8_remove_2 : decode cX8_remove 2 = .ok (.invokevirtual 120, 3) := by decide +kernel
theorem dX8_remove_5 : decode cX8_remove 5 = .ok (.ifCond .eq 7, 3) := by decide +kernel
theorem dX8_remove_8 : decode cX8_remove 8 = .ok (.sipush (-1001), 3) := by decide +kernel
theorem dX8_remove_11 : decode cX8_remove 11 = .ok (.ireturn, 1) := by decide +kernel
theorem dX8_remove_12 : decode cX8_remove 12 = .ok (.aload_n 0, 1) := by decide +kernel
theorem dX8_remove_13 : decode cX8_remove 13 = .ok (.iload_n 1, 1) := by decide +kernel
theorem dX8_remove_14 : decode cX8_remove 14 = .ok (.invokevirtual 114, 3) := by decide +kernel
theorem dX8_remove_17 : decode cX8_remove 17 = .ok (.istore_n 2, 1) := by decide +kernel
theorem dX8_remove_18 : decode cX8_remove 18 = .ok (.iload_n 2, 1) := by decide +kernel
theorem dX8_remove_19 : decode cX8_remove 19 = .ok (.ifCond .ge 7, 3) := by decide +kernel
theorem dX8_remove_22 : decode cX8_remove 22 = .ok (.sipush (-1004), 3) := by decide +kernel
theorem dX8_remove_25 : decode cX8_remove 25 = .ok (.ireturn, 1) := by decide +kernel
theorem dX8_remove_26 : decode cX8_remove 26 = .ok (.aload_n 0, 1) := by decide +kernel
theorem dX8_remove_27 : decode cX8_remove 27 = .ok (.iload_n 2, 1) := by decide +kernel
theorem dX8_remove_28 : decode cX8_remove 28 = .ok (.invokevirtual 167, 3) := by decide +kernel
theorem dX8_remove_31 : decode cX8_remove 31 = .ok (.istore_n 3, 1) := by decide +kernel
theorem dX8_remove_32 : decode cX8_remove 32 = .ok (.aload_n 0, 1) := by decide +kernel
theorem dX8_remove_33 : decode cX8_remove 33 = .ok (.invokevirtual 170, 3) := by decide +kernel
theorem dX8_remove_36 : decode cX8_remove 36 = .ok (.aload_n 0, 1) := by decide +kernel
theorem dX8_remove_37 : decode cX8_remove 37 = .ok (.invokevirtual 173, 3) := by decide +kernel
theorem dX8_remove_40 : decode cX8_remove 40 = .ok (.aload_n 0, 1) := by decide +kernel
theorem dX8_remove_41 : decode cX8_remove 41 = .ok (.iload_n 1, 1) := by decide +kernel
theorem dX8_remove_42 : decode cX8_remove 42 = .ok (.invokevirtual 182, 3) := by decide +kernel
theorem dX8_remove_45 : decode cX8_remove 45 = .ok (.iload_n 3, 1) := by decide +kernel
theorem dX8_remove_46 : decode cX8_remove 46 = .ok (.aload_n 0, 1) := by decide +kernel
theorem dX8_remove_47 : decode cX8_remove 47 = .ok (.iload_n 2, 1) := by decide +kernel
theorem dX8_remove_48 : decode cX8_remove 48 = .ok (.invokevirtual 167, 3) := by decide +kernel
theorem dX8_remove_51 : decode cX8_remove 51 = .ok (.isub, 1) := by decide +kernel
theorem dX8_remove_52 : decode cX8_remove 52 = .ok (.ireturn, 1) := by decide +kernel
theorem dX8_isShort_0 : decode cX8_isShort 0 = .ok (.aload_n 0, 1) := by decide +kernel
theorem dX8_isShort_1 : decode cX8_isShort 1 = .ok (.iload_n 2, 1) := by decide +kernel
theorem dX8_isShort_2 : decode cX8_isShort 2 = .ok (.invokevirtual 114, 3) := by decide +kernel
theorem dX8_isShort_5 : decode cX8_isShort 5 = .ok (.istore_n 3, 1) := by decide +kernel
theorem dX8_isShort_6 : decode cX8_isShort 6 = .ok (.iload_n 3, 1) := by decide +kernel
theorem dX8_isShort_7 : decode cX8_isShort 7 = .ok (.ifCond .ge 5, 3) := by decide +kernel
theorem dX8_isShort_10 : decode cX8_isShort 10 = .ok (.iconst 0, 1) := by decide +kernel
theorem dX8_isShort_11 : decode cX8_isShort 11 = .ok (.ireturn, 1) := by decide +kernel
theorem dX8_isShort_12 : decode cX8_isShort 12 = .ok (.aload_n 0, 1) := by decide +kernel
theorem dX8_isShort_13 : decode cX8_isShort 13 = .ok (.iload_n 2, 1) := by decide +kernel
theorem dX8_isShort_14 : decode cX8_isShort 14 = .ok (.invokevirtual 182, 3) := by decide +kernel
theorem dX8_isShort_17 : decode cX8_isShort 17 = .ok (.aload_n 0, 1) := by decide +kernel
theorem dX8_isShort_18 : decode cX8_isShort 18 = .ok (.iload_n 1, 1) := by decide +kernel
theorem dX8_isShort_19 : decode cX8_isShort 19 = .ok (.iload_n 3, 1) := by decide +kernel
theorem dX8_isShort_20 : decode cX8_isShort 20 = .ok (.invokevirtual 160, 3) := by decide +kernel
theorem dX8_isShort_23 : decode cX8_isShort 23 = .ok (.ifCond .eq 16, 3) := by decide +kernel
theorem dX8_isShort_26 : decode cX8_isShort 26 = .ok (.aload_n 0, 1) := by decide +kernel
theorem dX8_isShort_27 : decode cX8_isShort 27 = .ok (.iload_n 2, 1) := by decide +kernel
theorem dX8_isShort_28 : decode cX8_isShort 28 = .ok (.iload_n 3, 1) := by decide +kernel
theorem dX8_isShort_29 : decode cX8_isShort 29 = .ok (.invokevirtual 179, 3) := by decide +kernel
theorem dX8_isShort_32 : decode cX8_isShort 32 = .ok (.ifCond .lt 7, 3) := by decide +kernel
theorem dX8_isShort_35 : decode cX8_isShort 35 = .ok (.iconst 1, 1) := by decide +kernel
theorem dX8_isShort_36 : decode cX8_isShort 36 = .ok (.goto 4, 3) := by decide +kernel
theorem dX8_isShort_39 : decode cX8_isShort 39 = .ok (.iconst 0, 1) := by decide +kernel
theorem dX8_isShort_40 : decode cX8_isShort 40 = .ok (.ireturn, 1) := by decide +kernel
theorem dX8_isLong_0 : decode cX8_isLong 0 = .ok (.aload_n 0, 1) := by decide +kernel
theorem dX8_isLong_1 : decode cX8_isLong 1 = .ok (.iload_n 2, 1) := by decide +kernel
theorem dX8_isLong_2 : decode cX8_isLong 2 = .ok (.invokevirtual 114, 3) := by decide +kernel
theorem dX8_isLong_5 : decode cX8_isLong 5 = .ok (.istore 4, 2) := by decide +kernel
theorem dX8_isLong_7 : decode cX8_isLong 7 = .ok (.aload_n 0, 1) := by decide +kernel
theorem dX8_isLong_8 : decode cX8_isLong 8 = .ok (.iload_n 3, 1) := by decide +kernel
theorem dX8_isLong_9 : decode cX8_isLong 9 = .ok (.invokevirtual 114, 3) := by decide +kernel
theorem dX8_isLong_12 : decode cX8_isLong 12 = .ok (.istore 5, 2) := by decide +kernel
theorem dX8_isLong_14 : decode cX8_isLong 14 = .ok (.iload 4, 2) := by decide +kernel
theorem dX8_isLong_16 : decode cX8_isLong 16 = .ok (.ifCond .lt 15, 3) := by decide +kernel
theorem dX8_isLong_19 : decode cX8_isLong 19 = .ok (.iload 5, 2) := by decide +kernel
theorem dX8_isLong_21 : decode cX8_isLong 21 = .ok (.ifCond .lt 10, 3) := by decide +kernel
theorem dX8_isLong_24 : decode cX8_isLong 24 = .ok (.iload 4, 2) := by decide +kernel
theorem dX8_isLong_26 : decode cX8_isLong 26 = .ok (.iload 5, 2) := by decide +kernel
theorem dX8_isLong_28 : decode cX8_isLong 28 = .ok (.if_icmp .ne 5, 3) := by decide +kernel
theorem dX8_isLong_31 : decode cX8_isLong 31 = .ok (.iconst 0, 1) := by decide +kernel
theorem dX8_isLong_32 : decode cX8_isLong 32 = .ok (.ireturn, 1) := by decide +kernel
theorem dX8_isLong_33 : decode cX8_isLong 33 = .ok (.aload_n 0, 1) := by decide +kernel
theorem dX8_isLong_34 : decode cX8_isLong 34 = .ok (.iload_n 2, 1) := by decide +kernel
theorem dX8_isLong_35 : decode cX8_isLong 35 = .ok (.invokevirtual 182, 3) := by decide +kernel
theorem dX8_isLong_38 : decode cX8_isLong 38 = .ok (.aload_n 0, 1) := by decide +kernel
theorem dX8_isLong_39 : decode cX8_isLong 39 = .ok (.iload_n 1, 1) := by decide +kernel
theorem dX8_isLong_40 : decode cX8_isLong 40 = .ok (.iload 4, 2) := by decide +kernel
theorem dX8_isLong_42 : decode cX8_isLong 42 = .ok (.invokevirtual 160, 3) := by decide +kernel
theorem dX8_isLong_45 : decode cX8_isLong 45 = .ok (.ifCond .ne 5, 3) := by decide +kernel
theorem dX8_isLong_48 : decode cX8_isLong 48 = .ok (.iconst 0, 1) := by decide +kernel
theorem dX8_isLong_49 : decode cX8_isLong 49 = .ok (.ireturn, 1) := by decide +kernel
theorem dX8_isLong_50 : decode cX8_isLong 50 = .ok (.aload_n 0, 1) := by decide +kernel
theorem dX8_isLong_51 : decode cX8_isLong 51 = .ok (.iload_n 3, 1) := by decide +kernel
theorem dX8_isLong_52 : decode cX8_isLong 52 = .ok (.invokevirtual 182, 3) := by decide +kernel
theorem dX8_isLong_55 : decode cX8_isLong 55 = .ok (.aload_n 0, 1) := by decide +kernel
theorem dX8_isLong_56 : decode cX8_isLong 56 = .ok (.iload_n 2, 1) := by decide +kernel
theorem dX8_isLong_57 : decode cX8_isLong 57 = .ok (.iload 5, 2) := by decide +kernel
theorem dX8_isLong_59 : decode cX8_isLong 59 = .ok (.invokevirtual 160, 3) := by decide +kernel
theorem dX8_isLong_62 : decode cX8_isLong 62 = .ok (.ifCond .eq 17, 3) := by decide +kernel
theorem dX8_isLong_65 : decode cX8_isLong 65 = .ok (.aload_n 0, 1) := by decide +kernel
theorem dX8_isLong_66 : decode cX8_isLong 66 = .ok (.iload_n 3, 1) := by decide +kernel
theorem dX8_isLong_67 : decode cX8_isLong 67 = .ok (.iload 5, 2) := by decide +kernel
theorem dX8_isLong_69 : decode cX8_isLong 69 = .ok (.invokevirtual 179, 3) := by decide +kernel
theorem dX8_isLong_72 : decode cX8_isLong 72 = .ok (.ifCond .lt 7, 3) := by decide +kernel
theorem dX8_isLong_75 : decode cX8_isLong 75 = .ok (.iconst 1, 1) := by decide +kernel
theorem dX8_isLong_76 : decode cX8_isLong 76 = .ok (.goto 4, 3) := by decide +kernel
theorem dX8_isLong_79 : decode cX8_isLong 79 = .ok (.iconst 0, 1) := by decide +kernel
theorem dX8_isLong_80 : decode cX8_isLong 80 = .ok (.ireturn, 1) := by decide +kernel
theorem dX8_findChain_0 : decode cX8_findChain 0 = .ok (.aload_n 0, 1) := by decide +kernel
theorem dX8_findChain_1 : decode cX8_findChain 1 = .ok (.invokevirtual 170, 3) := by decide +kernel
theorem dX8_findChain_4 : decode cX8_findChain 4 = .ok (.iconst 0, 1) := by decide +kernel
theorem dX8_findChain_5 : decode cX8_findChain 5 = .ok (.istore_n 2, 1) := by decide +kernel
theorem dX8_findChain_6 : decode cX8_findChain 6 = .ok (.iconst 0, 1) := by decide +kernel
theorem dX8_findChain_7 : decode cX8_findChain 7 = .ok (.istore_n 3, 1) := by decide +kernel
theorem dX8_findChain_8 : decode cX8_findChain 8 = .ok (.iload_n 3, 1) := by decide +kernel
theorem dX8_findChain_9 : decode cX8_findChain 9 = .ok (.aload_n 0, 1) := by decide +kernel
theorem dX8_findChain_10 : decode cX8_findChain 10 = .ok (.getfield 72, 3) := by decide +kernel
theorem dX8_findChain_13 : decode cX8_findChain 13 = .ok (.if_icmp .ge 58, 3) := by decide +kernel
theorem dX8_findChain_16 : decode cX8_findChain 16 = .ok (.aload_n 0, 1) := by decide +kernel
theorem dX8_findChain_17 : decode cX8_findChain 17 = .ok (.iload_n 1, 1) := by decide +kernel
theorem dX8_findChain_18 : decode cX8_findChain 18 = .ok (.iload_n 3, 1) := by decide +kernel
theorem dX8_findChain_19 : decode cX8_findChain 19 = .ok (.invokevirtual 185, 3) := by decide +kernel
theorem dX8_findChain_22 : decode cX8_findChain 22 = .ok (.ifCond .eq 39, 3) := by decide +kernel
theorem dX8_findChain_25 : decode cX8_findChain 25 = .ok (.iload_n 2, 1) := by decide +kernel
theorem dX8_findChain_26 : decode cX8_findChain 26 = .ok (.ifCond .eq 14, 3) := by decide +kernel
theorem dX8_findChain_29 : decode cX8_findChain 29 = .ok (.aload_n 0, 1) := by decide +kernel
theorem dX8_findChain_30 : decode cX8_findChain 30 = .ok (.invokevirtual 129, 3) := by decide +kernel
theorem dX8_findChain_33 : decode cX8_findChain 33 = .ok (.aload_n 0, 1) := by decide +kernel
theorem dX8_findChain_34 : decode cX8_findChain 34 = .ok (.getfield 188, 3) := by decide +kernel
theorem dX8_findChain_37 : decode cX8_findChain 37 = .ok (.if_icmp .ge 24, 3) := by decide +kernel
theorem dX8_findChain_40 : decode cX8_findChain 40 = .ok (.iconst 1, 1) := by decide +kernel
theorem dX8_findChain_41 : decode cX8_findChain 41 = .ok (.istore_n 2, 1) := by decide +kernel
theorem dX8_findChain_42 : decode cX8_findChain 42 = .ok (.aload_n 0, 1) := by decide +kernel
theorem dX8_findChain_43 : decode cX8_findChain 43 = .ok (.iload_n 3, 1) := by decide +kernel
theorem dX8_findChain_44 : decode cX8_findChain 44 = .ok (.putfield 191, 3) := by decide +kernel
theorem dX8_findChain_47 : decode cX8_findChain 47 = .ok (.aload_n 0, 1) := by decide +kernel
theorem dX8_findChain_48 : decode cX8_findChain 48 = .ok (.bipush 99, 2) := by decide +kernel
theorem dX8_findChain_50 : decode cX8_findChain 50 = .ok (.putfield 194, 3) := by decide +kernel
theorem dX8_findChain_53 : decode cX8_findChain 53 = .ok (.aload_n 0, 1) := by decide +kernel
theorem dX8_findChain_54 : decode cX8_findChain 54 = .ok (.aload_n 0, 1) := by decide +kernel
theorem dX8_findChain_55 : decode cX8_findChain 55 = .ok (.invokevirtual 129, 3) := by decide +kernel
theorem dX8_findChain_58 : decode cX8_findChain 58 = .ok (.putfield 188, 3) := by decide +kernel
theorem dX8_findChain_61 : decode cX8_findChain 61 = .ok (.aload_n 0, 1) := by decide +kernel
theorem dX8_findChain_62 : decode cX8_findChain 62 = .ok (.invokevirtual 197, 3) := by decide +kernel
theorem dX8_findChain_65 : decode cX8_findChain 65 = .ok (.iinc 3 1, 3) := by decide +kernel
theorem dX8_findChain_68 : decode cX8_findChain 68 = .ok (.goto (-60), 3) := by decide +kernel
theorem dX8_findChain_71 : decode cX8_findChain 71 = .ok (.iload_n 2, 1) := by decide +kernel
theorem dX8_findChain_72 : decode cX8_findChain 72 = .ok (.istore_n 3, 1) := by decide +kernel
theorem dX8_findChain_73 : decode cX8_findChain 73 = .ok (.iconst 0, 1) := by decide +kernel
theorem dX8_findChain_74 : decode cX8_findChain 74 = .ok (.istore 4, 2) := by decide +kernel
theorem dX8_findChain_76 : decode cX8_findChain 76 = .ok (.iload 4, 2) := by decide +kernel
theorem dX8_findChain_78 : decode cX8_findChain 78 = .ok (.aload_n 0, 1) := by decide +kernel
theorem dX8_findChain_79 : decode cX8_findChain 79 = .ok (.getfield 72, 3) := by decide +kernel
theorem dX8_findChain_82 : decode cX8_findChain 82 = .ok (.aload_n 0, 1) := by decide +kernel
theorem dX8_findChain_83 : decode cX8_findChain 83 = .ok (.getfield 72, 3) := by decide +kernel
theorem dX8_findChain_86 : decode cX8_findChain 86 = .ok (.imul, 1) := by decide +kernel
theorem dX8_findChain_87 : decode cX8_findChain 87 = .ok (.if_icmp .ge 86, 3) := by decide +kernel
theorem dX8_findChain_90 : decode cX8_findChain 90 = .ok (.iload_n 3, 1) := by decide +kernel
theorem dX8_findChain_91 : decode cX8_findChain 91 = .ok (.ifCond .ne 82, 3) := by decide +kernel
theorem dX8_findChain_94 : decode cX8_findChain 94 = .ok (.aload_n 0, 1) := by decide +kernel
theorem dX8_findChain_95 : decode cX8_findChain 95 = .ok (.iload_n 1, 1) := by decide +kernel
theorem dX8_findChain_96 : decode cX8_findChain 96 = .ok (.iload 4, 2) := by decide +kernel
theorem dX8_findChain_98 : decode cX8_findChain 98 = .ok (.aload_n 0, 1) := by decide +kernel
theorem dX8_findChain_99 : decode cX8_findChain 99 = .ok (.getfield 72, 3) := by decide +kernel
theorem dX8_findChain_102 : decode cX8_findChain 102 = .ok (.idiv, 1) := by decide +kernel
theorem dX8_findChain_103 : decode cX8_findChain 103 = .ok (.iload 4, 2) := by decide +kernel
theorem dX8_findChain_105 : decode cX8_findChain 105 = .ok (.aload_n 0, 1) := by decide +kernel
theorem dX8_findChain_106 : decode cX8_findChain 106 = .ok (.getfield 72, 3) := by decide +kernel
theorem dX8_findChain_109 : decode cX8_findChain 109 = .ok (.irem, 1) := by decide +kernel
theorem dX8_findChain_110 : decode cX8_findChain 110 = .ok (.invokevirtual 200, 3) := by decide +kernel
theorem dX8_findChain_113 : decode cX8_findChain 113 = .ok (.ifCond .eq 50, 3) := by decide +kernel
theorem dX8_findChain_116 : decode cX8_findChain 116 = .ok (.iload_n 2, 1) := by decide +kernel
theorem dX8_findChain_117 : decode cX8_findChain 117 = .ok (.ifCond .eq 14, 3) := by decide +kernel
theorem dX8_findChain_120 : decode cX8_findChain 120 = .ok (.aload_n 0, 1) := by decide +kernel
theorem dX8_findChain_121 : decode cX8_findChain 121 = .ok (.invokevirtual 129, 3) := by decide +kernel
theorem dX8_findChain_124 : decode cX8_findChain 124 = .ok (.aload_n 0, 1) := by decide +kernel
theorem dX8_findChain_125 : decode cX8_findChain 125 = .ok (.getfield 188, 3) := by decide +kernel
theorem dX8_findChain_128 : decode cX8_findChain 128 = .ok (.if_icmp .ge 35, 3) := by decide +kernel
theorem dX8_findChain_131 : decode cX8_findChain 131 = .ok (.iconst 1, 1) := by decide +kernel
theorem dX8_findChain_132 : decode cX8_findChain 132 = .ok (.istore_n 2, 1) := by decide +kernel
theorem dX8_findChain_133 : decode cX8_findChain 133 = .ok (.aload_n 0, 1) := by decide +kernel
theorem dX8_findChain_134 : decode cX8_findChain 134 = .ok (.iload 4, 2) := by decide +kernel
theorem dX8_findChain_136 : decode cX8_findChain 136 = .ok (.aload_n 0, 1) := by decide +kernel
theorem dX8_findChain_137 : decode cX8_findChain 137 = .ok (.getfield 72, 3) := by decide +kernel
theorem dX8_findChain_140 : decode cX8_findChain 140 = .ok (.idiv, 1) := by decide +kernel
theorem dX8_findChain_141 : decode cX8_findChain 141 = .ok (.putfield 191, 3) := by decide +kernel
theorem dX8_findChain_144 : decode cX8_findChain 144 = .ok (.aload_n 0, 1) := by decide +kernel
theorem dX8_findChain_145 : decode cX8_findChain 145 = .ok (.iload 4, 2) := by decide +kernel
theorem dX8_findChain_147 : decode cX8_findChain 147 = .ok (.aload_n 0, 1) := by decide +kernel
theorem dX8_findChain_148 : decode cX8_findChain 148 = .ok (.getfield 72, 3) := by decide +kernel
theorem dX8_findChain_151 : decode cX8_findChain 151 = .ok (.irem, 1) := by decide +kernel
theorem dX8_findChain_152 : decode cX8_findChain 152 = .ok (.putfield 194, 3) := by decide +kernel
theorem dX8_findChain_155 : decode cX8_findChain 155 = .ok (.aload_n 0, 1) := by decide +kernel
theorem dX8_findChain_156 : decode cX8_findChain 156 = .ok (.aload_n 0, 1) := by decide +kernel
theorem dX8_findChain_157 : decode cX8_findChain 157 = .ok (.invokevirtual 129, 3) := by decide +kernel
theorem dX8_findChain_160 : decode cX8_findChain 160 = .ok (.putfield 188, 3) := by decide +kernel
theorem dX8_findChain_163 : decode cX8_findChain 163 = .ok (.aload_n 0, 1) := by decide +kernel
theorem dX8_findChain_164 : decode cX8_findChain 164 = .ok (.invokevirtual 197, 3) := by decide +kernel
theorem dX8_findChain_167 : decode cX8_findChain 167 = .ok (.iinc 4 1, 3) := by decide +kernel
theorem dX8_findChain_170 : decode cX8_findChain 170 = .ok (.goto (-94), 3) := by decide +kernel
theorem dX8_findChain_173 : decode cX8_findChain 173 = .ok (.iload_n 2, 1) := by decide +kernel
theorem dX8_findChain_174 : decode cX8_findChain 174 = .ok (.ireturn, 1) := by decide +kernel
theorem dX8_chainCost_0 : decode cX8_chainCost 0 = .ok (.aload_n 0, 1) := by decide +kernel
theorem dX8_chainCost_1 : decode cX8_chainCost 1 = .ok (.iload_n 1, 1) := by decide +kernel
theorem dX8_chainCost_2 : decode cX8_chainCost 2 = .ok (.invokevirtual 176, 3) := by decide +kernel
theorem dX8_chainCost_5 : decode cX8_chainCost 5 = .ok (.istore_n 2, 1) := by decide +kernel
theorem dX8_chainCost_6 : decode cX8_chainCost 6 = .ok (.iload_n 2, 1) := by decide +kernel
theorem dX8_chainCost_7 : decode cX8_chainCost 7 = .ok (.ifCond .ge 5, 3) := by decide +kernel
theorem dX8_chainCost_10 : decode cX8_chainCost 10 = .ok (.iload_n 2, 1) := by decide +kernel
theorem dX8_chainCost_11 : decode cX8_chainCost 11 = .ok (.ireturn, 1) := by decide +kernel
theorem dX8_chainCost_12 : decode cX8_chainCost 12 = .ok (.aload_n 0, 1) := by decide +kernel
theorem dX8_chainCost_13 : decode cX8_chainCost 13 = .ok (.iload_n 1, 1) := by decide +kernel
theorem dX8_chainCost_14 : decode cX8_chainCost 14 = .ok (.invokevirtual 203, 3) := by decide +kernel
theorem dX8_chainCost_17 : decode cX8_chainCost 17 = .ok (.ifCond .eq 19, 3) := by decide +kernel
theorem dX8_chainCost_20 : decode cX8_chainCost 20 = .ok (.sipush 10000, 3) := by decide +kernel
theorem dX8_chainCost_23 : decode cX8_chainCost 23 = .ok (.aload_n 0, 1) := by decide +kernel
theorem dX8_chainCost_24 : decode cX8_chainCost 24 = .ok (.getfield 188, 3) := by decide +kernel
theorem dX8_chainCost_27 : decode cX8_chainCost 27 = .ok (.iadd, 1) := by decide +kernel
theorem dX8_chainCost_28 : decode cX8_chainCost 28 = .ok (.aload_n 0, 1) := by decide +kernel
theorem dX8_chainCost_29 : decode cX8_chainCost 29 = .ok (.invokevirtual 129, 3) := by decide +kernel
theorem dX8_chainCost_32 : decode cX8_chainCost 32 = .ok (.isub, 1) := by decide +kernel
theorem dX8_chainCost_33 : decode cX8_chainCost 33 = .ok (.goto 6, 3) := by decide +kernel
theorem dX8_chainCost_36 : decode cX8_chainCost 36 = .ok (.sipush (-1005), 3) := by decide +kernel
theorem dX8_chainCost_39 : decode cX8_chainCost 39 = .ok (.ireturn, 1) := by decide +kernel
theorem dX8_chain_0 : decode cX8_chain 0 = .ok (.aload_n 0, 1) := by decide +kernel
theorem dX8_chain_1 : decode cX8_chain 1 = .ok (.iload_n 1, 1) := by decide +kernel
theorem dX8_chain_2 : decode cX8_chain 2 = .ok (.invokevirtual 176, 3) := by decide +kernel
theorem dX8_chain_5 : decode cX8_chain 5 = .ok (.istore_n 2, 1) := by decide +kernel
theorem dX8_chain_6 : decode cX8_chain 6 = .ok (.iload_n 2, 1) := by decide +kernel
theorem dX8_chain_7 : decode cX8_chain 7 = .ok (.ifCond .ge 5, 3) := by decide +kernel
theorem dX8_chain_10 : decode cX8_chain 10 = .ok (.iload_n 2, 1) := by decide +kernel
theorem dX8_chain_11 : decode cX8_chain 11 = .ok (.ireturn, 1) := by decide +kernel
theorem dX8_chain_12 : decode cX8_chain 12 = .ok (.aload_n 0, 1) := by decide +kernel
theorem dX8_chain_13 : decode cX8_chain 13 = .ok (.iload_n 1, 1) := by decide +kernel
theorem dX8_chain_14 : decode cX8_chain 14 = .ok (.invokevirtual 203, 3) := by decide +kernel
theorem dX8_chain_17 : decode cX8_chain 17 = .ok (.ifCond .ne 7, 3) := by decide +kernel
theorem dX8_chain_20 : decode cX8_chain 20 = .ok (.sipush (-1005), 3) := by decide +kernel
theorem dX8_chain_23 : decode cX8_chain 23 = .ok (.ireturn, 1) := by decide +kernel
theorem dX8_chain_24 : decode cX8_chain 24 = .ok (.aload_n 0, 1) := by decide +kernel
theorem dX8_chain_25 : decode cX8_chain 25 = .ok (.invokevirtual 173, 3) := by decide +kernel
theorem dX8_chain_28 : decode cX8_chain 28 = .ok (.aload_n 0, 1) := by decide +kernel
theorem dX8_chain_29 : decode cX8_chain 29 = .ok (.getfield 194, 3) := by decide +kernel
theorem dX8_chain_32 : decode cX8_chain 32 = .ok (.bipush 99, 2) := by decide +kernel
theorem dX8_chain_34 : decode cX8_chain 34 = .ok (.if_icmp .ne 15, 3) := by decide +kernel
theorem dX8_chain_37 : decode cX8_chain 37 = .ok (.aload_n 0, 1) := by decide +kernel
theorem dX8_chain_38 : decode cX8_chain 38 = .ok (.iload_n 1, 1) := by decide +kernel
theorem dX8_chain_39 : decode cX8_chain 39 = .ok (.aload_n 0, 1) := by decide +kernel
theorem dX8_chain_40 : decode cX8_chain 40 = .ok (.getfield 191, 3) := by decide +kernel
theorem dX8_chain_43 : decode cX8_chain 43 = .ok (.invokevirtual 185, 3) := by decide +kernel
theorem dX8_chain_46 : decode cX8_chain 46 = .ok (.goto 16, 3) := by decide +kernel
theorem dX8_chain_49 : decode cX8_chain 49 = .ok (.aload_n 0, 1) := by decide +kernel
theorem dX8_chain_50 : decode cX8_chain 50 = .ok (.iload_n 1, 1) := by decide +kernel
theorem dX8_chain_51 : decode cX8_chain 51 = .ok (.aload_n 0, 1) := by decide +kernel
theorem dX8_chain_52 : decode cX8_chain 52 = .ok (.getfield 191, 3) := by decide +kernel
theorem dX8_chain_55 : decode cX8_chain 55 = .ok (.aload_n 0, 1) := by decide +kernel
theorem dX8_chain_56 : decode cX8_chain 56 = .ok (.getfield 194, 3) := by decide +kernel
theorem dX8_chain_59 : decode cX8_chain 59 = .ok (.invokevirtual 200, 3) := by decide +kernel
theorem dX8_chain_62 : decode cX8_chain 62 = .ok (.istore_n 3, 1) := by decide +kernel
theorem dX8_chain_63 : decode cX8_chain 63 = .ok (.iload_n 3, 1) := by decide +kernel
theorem dX8_chain_64 : decode cX8_chain 64 = .ok (.ifCond .eq 18, 3) := by decide +kernel
theorem dX8_chain_67 : decode cX8_chain 67 = .ok (.bipush 100, 2) := by decide +kernel
theorem dX8_chain_69 : decode cX8_chain 69 = .ok (.aload_n 0, 1) := by decide +kernel
theorem dX8_chain_70 : decode cX8_chain 70 = .ok (.getfield 191, 3) := by decide +kernel
theorem dX8_chain_73 : decode cX8_chain 73 = .ok (.imul, 1) := by decide +kernel
theorem dX8_chain_74 : decode cX8_chain 74 = .ok (.aload_n 0, 1) := by decide +kernel
theorem dX8_chain_75 : decode cX8_chain 75 = .ok (.getfield 194, 3) := by decide +kernel
theorem dX8_chain_78 : decode cX8_chain 78 = .ok (.iadd, 1) := by decide +kernel
theorem dX8_chain_79 : decode cX8_chain 79 = .ok (.goto 6, 3) := by decide +kernel
theorem dX8_chain_82 : decode cX8_chain 82 = .ok (.sipush (-1005), 3) := by decide +kernel
theorem dX8_chain_85 : decode cX8_chain 85 = .ok (.ireturn, 1) := by decide +kernel
theorem dX8_improve_0 : decode cX8_improve 0 = .ok (.aload_n 0, 1) := by decide +kernel
theorem dX8_improve_1 : decode cX8_improve 1 = .ok (.invokevirtual 170, 3) := by decide +kernel
theorem dX8_improve_4 : decode cX8_improve 4 = .ok (.aload_n 0, 1) := by decide +kernel
theorem dX8_improve_5 : decode cX8_improve 5 = .ok (.invokevirtual 129, 3) := by decide +kernel
theorem dX8_improve_8 : decode cX8_improve 8 = .ok (.istore_n 1, 1) := by decide +kernel
theorem dX8_improve_9 : decode cX8_improve 9 = .ok (.iconst (-1), 1) := by decide +kernel
theorem dX8_improve_10 : decode cX8_improve 10 = .ok (.istore_n 2, 1) := by decide +kernel
theorem dX8_improve_11 : decode cX8_improve 11 = .ok (.iload_n 1, 1) := by decide +kernel
theorem dX8_improve_12 : decode cX8_improve 12 = .ok (.istore_n 3, 1) := by decide +kernel
theorem dX8_improve_13 : decode cX8_improve 13 = .ok (.iconst 0, 1) := by decide +kernel
theorem dX8_improve_14 : decode cX8_improve 14 = .ok (.istore 4, 2) := by decide +kernel
theorem dX8_improve_16 : decode cX8_improve 16 = .ok (.iload 4, 2) := by decide +kernel
theorem dX8_improve_18 : decode cX8_improve 18 = .ok (.aload_n 0, 1) := by decide +kernel
theorem dX8_improve_19 : decode cX8_improve 19 = .ok (.getfield 72, 3) := by decide +kernel
theorem dX8_improve_22 : decode cX8_improve 22 = .ok (.if_icmp .ge 54, 3) := by decide +kernel
theorem dX8_improve_25 : decode cX8_improve 25 = .ok (.aload_n 0, 1) := by decide +kernel
theorem dX8_improve_26 : decode cX8_improve 26 = .ok (.iload 4, 2) := by decide +kernel
theorem dX8_improve_28 : decode cX8_improve 28 = .ok (.invokevirtual 114, 3) := by decide +kernel
theorem dX8_improve_31 : decode cX8_improve 31 = .ok (.ifCond .lt 39, 3) := by decide +kernel
theorem dX8_improve_34 : decode cX8_improve 34 = .ok (.aload_n 0, 1) := by decide +kernel
theorem dX8_improve_35 : decode cX8_improve 35 = .ok (.iload 4, 2) := by decide +kernel
theorem dX8_improve_37 : decode cX8_improve 37 = .ok (.invokevirtual 182, 3) := by decide +kernel
theorem dX8_improve_40 : decode cX8_improve 40 = .ok (.aload_n 0, 1) := by decide +kernel
theorem dX8_improve_41 : decode cX8_improve 41 = .ok (.iload 4, 2) := by decide +kernel
theorem dX8_improve_43 : decode cX8_improve 43 = .ok (.iconst (-1), 1) := by decide +kernel
theorem dX8_improve_44 : decode cX8_improve 44 = .ok (.invokevirtual 179, 3) := by decide +kernel
theorem dX8_improve_47 : decode cX8_improve 47 = .ok (.pop, 1) := by decide +kernel
theorem dX8_improve_48 : decode cX8_improve 48 = .ok (.aload_n 0, 1) := by decide +kernel
theorem dX8_improve_49 : decode cX8_improve 49 = .ok (.invokevirtual 129, 3) := by decide +kernel
theorem dX8_improve_52 : decode cX8_improve 52 = .ok (.istore 5, 2) := by decide +kernel
theorem dX8_improve_54 : decode cX8_improve 54 = .ok (.iload 5, 2) := by decide +kernel
theorem dX8_improve_56 : decode cX8_improve 56 = .ok (.iload_n 3, 1) := by decide +kernel
theorem dX8_improve_57 : decode cX8_improve 57 = .ok (.if_icmp .ge 9, 3) := by decide +kernel
theorem dX8_improve_60 : decode cX8_improve 60 = .ok (.iload 4, 2) := by decide +kernel
theorem dX8_improve_62 : decode cX8_improve 62 = .ok (.istore_n 2, 1) := by decide +kernel
theorem dX8_improve_63 : decode cX8_improve 63 = .ok (.iload 5, 2) := by decide +kernel
theorem dX8_improve_65 : decode cX8_improve 65 = .ok (.istore_n 3, 1) := by decide +kernel
theorem dX8_improve_66 : decode cX8_improve 66 = .ok (.aload_n 0, 1) := by decide +kernel
theorem dX8_improve_67 : decode cX8_improve 67 = .ok (.invokevirtual 197, 3) := by decide +kernel
theorem dX8_improve_70 : decode cX8_improve 70 = .ok (.iinc 4 1, 3) := by decide +kernel
theorem dX8_improve_73 : decode cX8_improve 73 = .ok (.goto (-57), 3) := by decide +kernel
theorem dX8_improve_76 : decode cX8_improve 76 = .ok (.iload_n 2, 1) := by decide +kernel
theorem dX8_improve_77 : decode cX8_improve 77 = .ok (.ifCond .ge 7, 3) := by decide +kernel
theorem dX8_improve_80 : decode cX8_improve 80 = .ok (.sipush (-1007), 3) := by decide +kernel
theorem dX8_improve_83 : decode cX8_improve 83 = .ok (.ireturn, 1) := by decide +kernel
theorem dX8_improve_84 : decode cX8_improve 84 = .ok (.aload_n 0, 1) := by decide +kernel
theorem dX8_improve_85 : decode cX8_improve 85 = .ok (.invokevirtual 173, 3) := by decide +kernel
theorem dX8_improve_88 : decode cX8_improve 88 = .ok (.aload_n 0, 1) := by decide +kernel
theorem dX8_improve_89 : decode cX8_improve 89 = .ok (.iload_n 2, 1) := by decide +kernel
theorem dX8_improve_90 : decode cX8_improve 90 = .ok (.invokevirtual 182, 3) := by decide +kernel
theorem dX8_improve_93 : decode cX8_improve 93 = .ok (.aload_n 0, 1) := by decide +kernel
theorem dX8_improve_94 : decode cX8_improve 94 = .ok (.iload_n 2, 1) := by decide +kernel
theorem dX8_improve_95 : decode cX8_improve 95 = .ok (.iconst (-1), 1) := by decide +kernel
theorem dX8_improve_96 : decode cX8_improve 96 = .ok (.invokevirtual 179, 3) := by decide +kernel
theorem dX8_improve_99 : decode cX8_improve 99 = .ok (.pop, 1) := by decide +kernel
theorem dX8_improve_100 : decode cX8_improve 100 = .ok (.iload_n 1, 1) := by decide +kernel
theorem dX8_improve_101 : decode cX8_improve 101 = .ok (.iload_n 3, 1) := by decide +kernel
theorem dX8_improve_102 : decode cX8_improve 102 = .ok (.isub, 1) := by decide +kernel
theorem dX8_improve_103 : decode cX8_improve 103 = .ok (.ireturn, 1) := by decide +kernel
theorem dX8_undo_0 : decode cX8_undo 0 = .ok (.aload_n 0, 1) := by decide +kernel
theorem dX8_undo_1 : decode cX8_undo 1 = .ok (.getfield 79, 3) := by decide +kernel
theorem dX8_undo_4 : decode cX8_undo 4 = .ok (.ifCond .ne 7, 3) := by decide +kernel
theorem dX8_undo_7 : decode cX8_undo 7 = .ok (.sipush (-1007), 3) := by decide +kernel
theorem dX8_undo_10 : decode cX8_undo 10 = .ok (.ireturn, 1) := by decide +kernel
theorem dX8_undo_11 : decode cX8_undo 11 = .ok (.aload_n 0, 1) := by decide +kernel
theorem dX8_undo_12 : decode cX8_undo 12 = .ok (.dup, 1) := by decide +kernel
theorem dX8_undo_13 : decode cX8_undo 13 = .ok (.getfield 79, 3) := by decide +kernel
theorem dX8_undo_16 : decode cX8_undo 16 = .ok (.iconst 1, 1) := by decide +kernel
theorem dX8_undo_17 : decode cX8_undo 17 = .ok (.isub, 1) := by decide +kernel
theorem dX8_undo_18 : decode cX8_undo 18 = .ok (.putfield 79, 3) := by decide +kernel
theorem dX8_undo_21 : decode cX8_undo 21 = .ok (.iconst 0, 1) := by decide +kernel
theorem dX8_undo_22 : decode cX8_undo 22 = .ok (.istore_n 1, 1) := by decide +kernel
theorem dX8_undo_23 : decode cX8_undo 23 = .ok (.iload_n 1, 1) := by decide +kernel
theorem dX8_undo_24 : decode cX8_undo 24 = .ok (.bipush 100, 2) := by decide +kernel
theorem dX8_undo_26 : decode cX8_undo 26 = .ok (.if_icmp .ge 29, 3) := by decide +kernel
theorem dX8_undo_29 : decode cX8_undo 29 = .ok (.aload_n 0, 1) := by decide +kernel
theorem dX8_undo_30 : decode cX8_undo 30 = .ok (.getfield 43, 3) := by decide +kernel
theorem dX8_undo_33 : decode cX8_undo 33 = .ok (.iload_n 1, 1) := by decide +kernel
theorem dX8_undo_34 : decode cX8_undo 34 = .ok (.aload_n 0, 1) := by decide +kernel
theorem dX8_undo_35 : decode cX8_undo 35 = .ok (.getfield 55, 3) := by decide +kernel
theorem dX8_undo_38 : decode cX8_undo 38 = .ok (.bipush 100, 2) := by decide +kernel
theorem dX8_undo_40 : decode cX8_undo 40 = .ok (.aload_n 0, 1) := by decide +kernel
theorem dX8_undo_41 : decode cX8_undo 41 = .ok (.getfield 79, 3) := by decide +kernel
theorem dX8_undo_44 : decode cX8_undo 44 = .ok (.imul, 1) := by decide +kernel
theorem dX8_undo_45 : decode cX8_undo 45 = .ok (.iload_n 1, 1) := by decide +kernel
theorem dX8_undo_46 : decode cX8_undo 46 = .ok (.iadd, 1) := by decide +kernel
theorem dX8_undo_47 : decode cX8_undo 47 = .ok (.iaload, 1) := by decide +kernel
theorem dX8_undo_48 : decode cX8_undo 48 = .ok (.iastore, 1) := by decide +kernel
theorem dX8_undo_49 : decode cX8_undo 49 = .ok (.iinc 1 1, 3) := by decide +kernel
theorem dX8_undo_52 : decode cX8_undo 52 = .ok (.goto (-29), 3) := by decide +kernel
theorem dX8_undo_55 : decode cX8_undo 55 = .ok (.aload_n 0, 1) := by decide +kernel
theorem dX8_undo_56 : decode cX8_undo 56 = .ok (.getfield 79, 3) := by decide +kernel
theorem dX8_undo_59 : decode cX8_undo 59 = .ok (.ireturn, 1) := by decide +kernel
end
section
theorem dL_law_0 : decode cL_law 0 = .ok (.new 7, 3) := by decide +kernel
theorem dL_law_3 : decode cL_law 3 = .ok (.dup, 1) := by decide +kernel
theorem dL_law_4 : decode cL_law 4 = .ok (.invokespecial 9, 3) := by decide +kernel
theorem dL_law_7 : decode cL_law 7 = .ok (.astore_n 1, 1) := by decide +kernel
theorem dL_law_8 : decode cL_law 8 = .ok (.new 10, 3) := by decide +kernel
theorem dL_law_11 : decode cL_law 11 = .ok (.dup, 1) := by decide +kernel
theorem dL_law_12 : decode cL_law 12 = .ok (.invokespecial 12, 3) := by decide +kernel
theorem dL_law_15 : decode cL_law 15 = .ok (.astore_n 2, 1) := by decide +kernel
theorem dL_law_16 : decode cL_law 16 = .ok (.iconst 0, 1) := by decide +kernel
theorem dL_law_17 : decode cL_law 17 = .ok (.istore_n 3, 1) := by decide +kernel
theorem dL_law_18 : decode cL_law 18 = .ok (.iload_n 3, 1) := by decide +kernel
theorem dL_law_19 : decode cL_law 19 = .ok (.aload_n 0, 1) := by decide +kernel
theorem dL_law_20 : decode cL_law 20 = .ok (.arraylength, 1) := by decide +kernel
theorem dL_law_21 : decode cL_law 21 = .ok (.bipush 7, 2) := by decide +kernel
theorem dL_law_23 : decode cL_law 23 = .ok (.isub, 1) := by decide +kernel
theorem dL_law_24 : decode cL_law 24 = .ok (.if_icmp .gt 934, 3) := by decide +kernel
theorem dL_law_27 : decode cL_law 27 = .ok (.aload_n 0, 1) := by decide +kernel
theorem dL_law_28 : decode cL_law 28 = .ok (.iload_n 3, 1) := by decide +kernel
theorem dL_law_29 : decode cL_law 29 = .ok (.iaload, 1) := by decide +kernel
theorem dL_law_30 : decode cL_law 30 = .ok (.bipush 31, 2) := by decide +kernel
theorem dL_law_32 : decode cL_law 32 = .ok (.iand, 1) := by decide +kernel
theorem dL_law_33 : decode cL_law 33 = .ok (.tableswitch 919 0 21 #[103, 166, 241, 310, 343, 376, 399, 422, 455, 488, 531, 580, 629, 682, 735, 768, 801, 824, 847, 870, 893, 906], 103) := by decide +kernel
theorem dL_law_136 : decode cL_law 136 = .ok (.aload_n 1, 1) := by decide +kernel
theorem dL_law_137 : decode cL_law 137 = .ok (.aload_n 0, 1) := by decide +kernel
theorem dL_law_138 : decode cL_law 138 = .ok (.iload_n 3, 1) := by decide +kernel
theorem dL_law_139 : decode cL_law 139 = .ok (.iconst 1, 1) := by decide +kernel
theorem dL_law_140 : decode cL_law 140 = .ok (.iadd, 1) := by decide +kernel
theorem dL_law_141 : decode cL_law 141 = .ok (.iaload, 1) := by decide +kernel
theorem dL_law_142 : decode cL_law 142 = .ok (.aload_n 0, 1) := by decide +kernel
theorem dL_law_143 : decode cL_law 143 = .ok (.iload_n 3, 1) := by decide +kernel
theorem dL_law_144 : decode cL_law 144 = .ok (.iconst 2, 1) := by decide +kernel
theorem dL_law_145 : decode cL_law 145 = .ok (.iadd, 1) := by decide +kernel
theorem dL_law_146 : decode cL_law 146 = .ok (.iaload, 1) := by decide +kernel
theorem dL_law_147 : decode cL_law 147 = .ok (.aload_n 0, 1) := by decide +kernel
theorem dL_law_148 : decode cL_law 148 = .ok (.iload_n 3, 1) := by decide +kernel
theorem dL_law_149 : decode cL_law 149 = .ok (.iconst 3, 1) := by decide +kernel
theorem dL_law_150 : decode cL_law 150 = .ok (.iadd, 1) := by decide +kernel
theorem dL_law_151 : decode cL_law 151 = .ok (.iaload, 1) := by decide +kernel
theorem dL_law_152 : decode cL_law 152 = .ok (.aload_n 0, 1) := by decide +kernel
theorem dL_law_153 : decode cL_law 153 = .ok (.iload_n 3, 1) := by decide +kernel
theorem dL_law_154 : decode cL_law 154 = .ok (.iconst 4, 1) := by decide +kernel
theorem dL_law_155 : decode cL_law 155 = .ok (.iadd, 1) := by decide +kernel
theorem dL_law_156 : decode cL_law 156 = .ok (.iaload, 1) := by decide +kernel
theorem dL_law_157 : decode cL_law 157 = .ok (.aload_n 0, 1) := by decide +kernel
theorem dL_law_158 : decode cL_law 158 = .ok (.iload_n 3, 1) := by decide +kernel
theorem dL_law_159 : decode cL_law 159 = .ok (.iconst 5, 1) := by decide +kernel
theorem dL_law_160 : decode cL_law 160 = .ok (.iadd, 1) := by decide +kernel
theorem dL_law_161 : decode cL_law 161 = .ok (.iaload, 1) := by decide +kernel
theorem dL_law_162 : decode cL_law 162 = .ok (.invokevirtual 13, 3) := by decide +kernel
theorem dL_law_165 : decode cL_law 165 = .ok (.aload_n 2, 1) := by decide +kernel
theorem dL_law_166 : decode cL_law 166 = .ok (.aload_n 0, 1) := by decide +kernel
theorem dL_law_167 : decode cL_law 167 = .ok (.iload_n 3, 1) := by decide +kernel
theorem dL_law_168 : decode cL_law 168 = .ok (.iconst 1, 1) := by decide +kernel
theorem dL_law_169 : decode cL_law 169 = .ok (.iadd, 1) := by decide +kernel
theorem dL_law_170 : decode cL_law 170 = .ok (.iaload, 1) := by decide +kernel
theorem dL_law_171 : decode cL_law 171 = .ok (.aload_n 0, 1) := by decide +kernel
theorem dL_law_172 : decode cL_law 172 = .ok (.iload_n 3, 1) := by decide +kernel
theorem dL_law_173 : decode cL_law 173 = .ok (.iconst 2, 1) := by decide +kernel
theorem dL_law_174 : decode cL_law 174 = .ok (.iadd, 1) := by decide +kernel
theorem dL_law_175 : decode cL_law 175 = .ok (.iaload, 1) := by decide +kernel
theorem dL_law_176 : decode cL_law 176 = .ok (.aload_n 0, 1) := by decide +kernel
theorem dL_law_177 : decode cL_law 177 = .ok (.iload_n 3, 1) := by decide +kernel
theorem dL_law_178 : decode cL_law 178 = .ok (.iconst 3, 1) := by decide +kernel
theorem dL_law_179 : decode cL_law 179 = .ok (.iadd, 1) := by decide +kernel
theorem dL_law_180 : decode cL_law 180 = .ok (.iaload, 1) := by decide +kernel
theorem dL_law_181 : decode cL_law 181 = .ok (.aload_n 0, 1) := by decide +kernel
theorem dL_law_182 : decode cL_law 182 = .ok (.iload_n 3, 1) := by decide +kernel
theorem dL_law_183 : decode cL_law 183 = .ok (.iconst 4, 1) := by decide +kernel
theorem dL_law_184 : decode cL_law 184 = .ok (.iadd, 1) := by decide +kernel
theorem dL_law_185 : decode cL_law 185 = .ok (.iaload, 1) := by decide +kernel
theorem dL_law_186 : decode cL_law 186 = .ok (.aload_n 0, 1) := by decide +kernel
theorem dL_law_187 : decode cL_law 187 = .ok (.iload_n 3, 1) := by decide +kernel
theorem dL_law_188 : decode cL_law 188 = .ok (.iconst 5, 1) := by decide +kernel
theorem dL_law_189 : decode cL_law 189 = .ok (.iadd, 1) := by decide +kernel
theorem dL_law_190 : decode cL_law 190 = .ok (.iaload, 1) := by decide +kernel
theorem dL_law_191 : decode cL_law 191 = .ok (.invokevirtual 17, 3) := by decide +kernel
theorem dL_law_194 : decode cL_law 194 = .ok (.if_icmp .eq 758, 3) := by decide +kernel
theorem dL_law_197 : decode cL_law 197 = .ok (.iconst 0, 1) := by decide +kernel
theorem dL_law_198 : decode cL_law 198 = .ok (.ireturn, 1) := by decide +kernel
theorem dL_law_199 : decode cL_law 199 = .ok (.aload_n 1, 1) := by decide +kernel
theorem dL_law_200 : decode cL_law 200 = .ok (.aload_n 0, 1) := by decide +kernel
theorem dL_law_201 : decode cL_law 201 = .ok (.iload_n 3, 1) := by decide +kernel
theorem dL_law_202 : decode cL_law 202 = .ok (.iconst 1, 1) := by decide +kernel
theorem dL_law_203 : decode cL_law 203 = .ok (.iadd, 1) := by decide +kernel
theorem dL_law_204 : decode cL_law 204 = .ok (.iaload, 1) := by decide +kernel
theorem dL_law_205 : decode cL_law 205 = .ok (.aload_n 0, 1) := by decide +kernel
theorem dL_law_206 : decode cL_law 206 = .ok (.iload_n 3, 1) := by decide +kernel
theorem dL_law_207 : decode cL_law 207 = .ok (.iconst 2, 1) := by decide +kernel
theorem dL_law_208 : decode cL_law 208 = .ok (.iadd, 1) := by decide +kernel
theorem dL_law_209 : decode cL_law 209 = .ok (.iaload, 1) := by decide +kernel
theorem dL_law_210 : decode cL_law 210 = .ok (.aload_n 0, 1) := by decide +kernel
theorem dL_law_211 : decode cL_law 211 = .ok (.iload_n 3, 1) := by decide +kernel
theorem dL_law_212 : decode cL_law 212 = .ok (.iconst 3, 1) := by decide +kernel
theorem dL_law_213 : decode cL_law 213 = .ok (.iadd, 1) := by decide +kernel
theorem dL_law_214 : decode cL_law 214 = .ok (.iaload, 1) := by decide +kernel
theorem dL_law_215 : decode cL_law 215 = .ok (.aload_n 0, 1) := by decide +kernel
theorem dL_law_216 : decode cL_law 216 = .ok (.iload_n 3, 1) := by decide +kernel
theorem dL_law_217 : decode cL_law 217 = .ok (.iconst 4, 1) := by decide +kernel
theorem dL_law_218 : decode cL_law 218 = .ok (.iadd, 1) := by decide +kernel
theorem dL_law_219 : decode cL_law 219 = .ok (.iaload, 1) := by decide +kernel
theorem dL_law_220 : decode cL_law 220 = .ok (.aload_n 0, 1) := by decide +kernel
theorem dL_law_221 : decode cL_law 221 = .ok (.iload_n 3, 1) := by decide +kernel
theorem dL_law_222 : decode cL_law 222 = .ok (.iconst 5, 1) := by decide +kernel
theorem dL_law_223 : decode cL_law 223 = .ok (.iadd, 1) := by decide +kernel
theorem dL_law_224 : decode cL_law 224 = .ok (.iaload, 1) := by decide +kernel
theorem dL_law_225 : decode cL_law 225 = .ok (.aload_n 0, 1) := by decide +kernel
theorem dL_law_226 : decode cL_law 226 = .ok (.iload_n 3, 1) := by decide +kernel
theorem dL_law_227 : decode cL_law 227 = .ok (.bipush 6, 2) := by decide +kernel
theorem dL_law_229 : decode cL_law 229 = .ok (.iadd, 1) := by decide +kernel
theorem dL_law_230 : decode cL_law 230 = .ok (.iaload, 1) := by decide +kernel
theorem dL_law_231 : decode cL_law 231 = .ok (.invokevirtual 18, 3) := by decide +kernel
theorem dL_law_234 : decode cL_law 234 = .ok (.aload_n 2, 1) := by decide +kernel
theorem dL_law_235 : decode cL_law 235 = .ok (.aload_n 0, 1) := by decide +kernel
theorem dL_law_236 : decode cL_law 236 = .ok (.iload_n 3, 1) := by decide +kernel
theorem dL_law_237 : decode cL_law 237 = .ok (.iconst 1, 1) := by decide +kernel
theorem dL_law_238 : decode cL_law 238 = .ok (.iadd, 1) := by decide +kernel
theorem dL_law_239 : decode cL_law 239 = .ok (.iaload, 1) := by decide +kernel
theorem dL_law_240 : decode cL_law 240 = .ok (.aload_n 0, 1) := by decide +kernel
theorem dL_law_241 : decode cL_law 241 = .ok (.iload_n 3, 1) := by decide +kernel
theorem dL_law_242 : decode cL_law 242 = .ok (.iconst 2, 1) := by decide +kernel
theorem dL_law_243 : decode cL_law 243 = .ok (.iadd, 1) := by decide +kernel
theorem dL_law_244 : decode cL_law 244 = .ok (.iaload, 1) := by decide +kernel
theorem dL_law_245 : decode cL_law 245 = .ok (.aload_n 0, 1) := by decide +kernel
theorem dL_law_246 : decode cL_law 246 = .ok (.iload_n 3, 1) := by decide +kernel
theorem dL_law_247 : decode cL_law 247 = .ok (.iconst 3, 1) := by decide +kernel
theorem dL_law_248 : decode cL_law 248 = .ok (.iadd, 1) := by decide +kernel
theorem dL_law_249 : decode cL_law 249 = .ok (.iaload, 1) := by decide +kernel
theorem dL_law_250 : decode cL_law 250 = .ok (.aload_n 0, 1) := by decide +kernel
theorem dL_law_251 : decode cL_law 251 = .ok (.iload_n 3, 1) := by decide +kernel
theorem dL_law_252 : decode cL_law 252 = .ok (.iconst 4, 1) := by decide +kernel
theorem dL_law_253 : decode cL_law 253 = .ok (.iadd, 1) := by decide +kernel
theorem dL_law_254 : decode cL_law 254 = .ok (.iaload, 1) := by decide +kernel
theorem dL_law_255 : decode cL_law 255 = .ok (.aload_n 0, 1) := by decide +kernel
theorem dL_law_256 : decode cL_law 256 = .ok (.iload_n 3, 1) := by decide +kernel
theorem dL_law_257 : decode cL_law 257 = .ok (.iconst 5, 1) := by decide +kernel
theorem dL_law_258 : decode cL_law 258 = .ok (.iadd, 1) := by decide +kernel
theorem dL_law_259 : decode cL_law 259 = .ok (.iaload, 1) := by decide +kernel
theorem dL_law_260 : decode cL_law 260 = .ok (.aload_n 0, 1) := by decide +kernel
theorem dL_law_261 : decode cL_law 261 = .ok (.iload_n 3, 1) := by decide +kernel
theorem dL_law_262 : decode cL_law 262 = .ok (.bipush 6, 2) := by decide +kernel
theorem dL_law_264 : decode cL_law 264 = .ok (.iadd, 1) := by decide +kernel
theorem dL_law_265 : decode cL_law 265 = .ok (.iaload, 1) := by decide +kernel
theorem dL_law_266 : decode cL_law 266 = .ok (.invokevirtual 22, 3) := by decide +kernel
theorem dL_law_269 : decode cL_law 269 = .ok (.if_icmp .eq 683, 3) := by decide +kernel
theorem dL_law_272 : decode cL_law 272 = .ok (.iconst 0, 1) := by decide +kernel
theorem dL_law_273 : decode cL_law 273 = .ok (.ireturn, 1) := by decide +kernel
theorem dL_law_274 : decode cL_law 274 = .ok (.aload_n 1, 1) := by decide +kernel
theorem dL_law_275 : decode cL_law 275 = .ok (.aload_n 0, 1) := by decide +kernel
theorem dL_law_276 : decode cL_law 276 = .ok (.iload_n 3, 1) := by decide +kernel
theorem dL_law_277 : decode cL_law 277 = .ok (.iconst 1, 1) := by decide +kernel
theorem dL_law_278 : decode cL_law 278 = .ok (.iadd, 1) := by decide +kernel
theorem dL_law_279 : decode cL_law 279 = .ok (.iaload, 1) := by decide +kernel
theorem dL_law_280 : decode cL_law 280 = .ok (.aload_n 0, 1) := by decide +kernel
theorem dL_law_281 : decode cL_law 281 = .ok (.iload_n 3, 1) := by decide +kernel
theorem dL_law_282 : decode cL_law 282 = .ok (.iconst 2, 1) := by decide +kernel
theorem dL_law_283 : decode cL_law 283 = .ok (.iadd, 1) := by decide +kernel
theorem dL_law_284 : decode cL_law 284 = .ok (.iaload, 1) := by decide +kernel
theorem dL_law_285 : decode cL_law 285 = .ok (.ifCond .eq 7, 3) := by decide +kernel
theorem dL_law_288 : decode cL_law 288 = .ok (.iconst 1, 1) := by decide +kernel
theorem dL_law_289 : decode cL_law 289 = .ok (.goto 4, 3) := by decide +kernel
theorem dL_law_292 : decode cL_law 292 = .ok (.iconst 0, 1) := by decide +kernel
theorem dL_law_293 : decode cL_law 293 = .ok (.aload_n 0, 1) := by decide +kernel
theorem dL_law_294 : decode cL_law 294 = .ok (.iload_n 3, 1) := by decide +kernel
theorem dL_law_295 : decode cL_law 295 = .ok (.iconst 3, 1) := by decide +kernel
theorem dL_law_296 : decode cL_law 296 = .ok (.iadd, 1) := by decide +kernel
theorem dL_law_297 : decode cL_law 297 = .ok (.iaload, 1) := by decide +kernel
theorem dL_law_298 : decode cL_law 298 = .ok (.aload_n 0, 1) := by decide +kernel
theorem dL_law_299 : decode cL_law 299 = .ok (.iload_n 3, 1) := by decide +kernel
theorem dL_law_300 : decode cL_law 300 = .ok (.iconst 4, 1) := by decide +kernel
theorem dL_law_301 : decode cL_law 301 = .ok (.iadd, 1) := by decide +kernel
theorem dL_law_302 : decode cL_law 302 = .ok (.iaload, 1) := by decide +kernel
theorem dL_law_303 : decode cL_law 303 = .ok (.invokevirtual 23, 3) := by decide +kernel
theorem dL_law_306 : decode cL_law 306 = .ok (.aload_n 2, 1) := by decide +kernel
theorem dL_law_307 : decode cL_law 307 = .ok (.aload_n 0, 1) := by decide +kernel
theorem dL_law_308 : decode cL_law 308 = .ok (.iload_n 3, 1) := by decide +kernel
theorem dL_law_309 : decode cL_law 309 = .ok (.iconst 1, 1) := by decide +kernel
theorem dL_law_310 : decode cL_law 310 = .ok (.iadd, 1) := by decide +kernel
theorem dL_law_311 : decode cL_law 311 = .ok (.iaload, 1) := by decide +kernel
theorem dL_law_312 : decode cL_law 312 = .ok (.aload_n 0, 1) := by decide +kernel
theorem dL_law_313 : decode cL_law 313 = .ok (.iload_n 3, 1) := by decide +kernel
theorem dL_law_314 : decode cL_law 314 = .ok (.iconst 2, 1) := by decide +kernel
theorem dL_law_315 : decode cL_law 315 = .ok (.iadd, 1) := by decide +kernel
theorem dL_law_316 : decode cL_law 316 = .ok (.iaload, 1) := by decide +kernel
theorem dL_law_317 : decode cL_law 317 = .ok (.ifCond .eq 7, 3) := by decide +kernel
theorem dL_law_320 : decode cL_law 320 = .ok (.iconst 1, 1) := by decide +kernel
theorem dL_law_321 : decode cL_law 321 = .ok (.goto 4, 3) := by decide +kernel
theorem dL_law_324 : decode cL_law 324 = .ok (.iconst 0, 1) := by decide +kernel
theorem dL_law_325 : decode cL_law 325 = .ok (.aload_n 0, 1) := by decide +kernel
theorem dL_law_326 : decode cL_law 326 = .ok (.iload_n 3, 1) := by decide +kernel
theorem dL_law_327 : decode cL_law 327 = .ok (.iconst 3, 1) := by decide +kernel
theorem dL_law_328 : decode cL_law 328 = .ok (.iadd, 1) := by decide +kernel
theorem dL_law_329 : decode cL_law 329 = .ok (.iaload, 1) := by decide +kernel
theorem dL_law_330 : decode cL_law 330 = .ok (.aload_n 0, 1) := by decide +kernel
theorem dL_law_331 : decode cL_law 331 = .ok (.iload_n 3, 1) := by decide +kernel
theorem dL_law_332 : decode cL_law 332 = .ok (.iconst 4, 1) := by decide +kernel
theorem dL_law_333 : decode cL_law 333 = .ok (.iadd, 1) := by decide +kernel
theorem dL_law_334 : decode cL_law 334 = .ok (.iaload, 1) := by decide +kernel
theorem dL_law_335 : decode cL_law 335 = .ok (.invokevirtual 27, 3) := by decide +kernel
theorem dL_law_338 : decode cL_law 338 = .ok (.if_icmp .eq 614, 3) := by decide +kernel
theorem dL_law_341 : decode cL_law 341 = .ok (.iconst 0, 1) := by decide +kernel
theorem dL_law_342 : decode cL_law 342 = .ok (.ireturn, 1) := by decide +kernel
theorem dL_law_343 : decode cL_law 343 = .ok (.aload_n 1, 1) := by decide +kernel
theorem dL_law_344 : decode cL_law 344 = .ok (.aload_n 0, 1) := by decide +kernel
theorem dL_law_345 : decode cL_law 345 = .ok (.iload_n 3, 1) := by decide +kernel
theorem dL_law_346 : decode cL_law 346 = .ok (.iconst 1, 1) := by decide +kernel
theorem dL_law_347 : decode cL_law 347 = .ok (.iadd, 1) := by decide +kernel
theorem dL_law_348 : decode cL_law 348 = .ok (.iaload, 1) := by decide +kernel
theorem dL_law_349 : decode cL_law 349 = .ok (.aload_n 0, 1) := by decide +kernel
theorem dL_law_350 : decode cL_law 350 = .ok (.iload_n 3, 1) := by decide +kernel
theorem dL_law_351 : decode cL_law 351 = .ok (.iconst 2, 1) := by decide +kernel
theorem dL_law_352 : decode cL_law 352 = .ok (.iadd, 1) := by decide +kernel
theorem dL_law_353 : decode cL_law 353 = .ok (.iaload, 1) := by decide +kernel
theorem dL_law_354 : decode cL_law 354 = .ok (.invokevirtual 28, 3) := by decide +kernel
theorem dL_law_357 : decode cL_law 357 = .ok (.aload_n 2, 1) := by decide +kernel
theorem dL_law_358 : decode cL_law 358 = .ok (.aload_n 0, 1) := by decide +kernel
theorem dL_law_359 : decode cL_law 359 = .ok (.iload_n 3, 1) := by decide +kernel
theorem dL_law_360 : decode cL_law 360 = .ok (.iconst 1, 1) := by decide +kernel
theorem dL_law_361 : decode cL_law 361 = .ok (.iadd, 1) := by decide +kernel
theorem dL_law_362 : decode cL_law 362 = .ok (.iaload, 1) := by decide +kernel
theorem dL_law_363 : decode cL_law 363 = .ok (.aload_n 0, 1) := by decide +kernel
theorem dL_law_364 : decode cL_law 364 = .ok (.iload_n 3, 1) := by decide +kernel
theorem dL_law_365 : decode cL_law 365 = .ok (.iconst 2, 1) := by decide +kernel
theorem dL_law_366 : decode cL_law 366 = .ok (.iadd, 1) := by decide +kernel
theorem dL_law_367 : decode cL_law 367 = .ok (.iaload, 1) := by decide +kernel
theorem dL_law_368 : decode cL_law 368 = .ok (.invokevirtual 32, 3) := by decide +kernel
theorem dL_law_371 : decode cL_law 371 = .ok (.if_icmp .eq 581, 3) := by decide +kernel
theorem dL_law_374 : decode cL_law 374 = .ok (.iconst 0, 1) := by decide +kernel
theorem dL_law_375 : decode cL_law 375 = .ok (.ireturn, 1) := by decide +kernel
theorem dL_law_376 : decode cL_law 376 = .ok (.aload_n 1, 1) := by decide +kernel
theorem dL_law_377 : decode cL_law 377 = .ok (.aload_n 0, 1) := by decide +kernel
theorem dL_law_378 : decode cL_law 378 = .ok (.iload_n 3, 1) := by decide +kernel
theorem dL_law_379 : decode cL_law 379 = .ok (.iconst 1, 1) := by decide +kernel
theorem dL_law_380 : decode cL_law 380 = .ok (.iadd, 1) := by decide +kernel
theorem dL_law_381 : decode cL_law 381 = .ok (.iaload, 1) := by decide +kernel
theorem dL_law_382 : decode cL_law 382 = .ok (.aload_n 0, 1) := by decide +kernel
theorem dL_law_383 : decode cL_law 383 = .ok (.iload_n 3, 1) := by decide +kernel
theorem dL_law_384 : decode cL_law 384 = .ok (.iconst 2, 1) := by decide +kernel
theorem dL_law_385 : decode cL_law 385 = .ok (.iadd, 1) := by decide +kernel
theorem dL_law_386 : decode cL_law 386 = .ok (.iaload, 1) := by decide +kernel
theorem dL_law_387 : decode cL_law 387 = .ok (.invokevirtual 33, 3) := by decide +kernel
theorem dL_law_390 : decode cL_law 390 = .ok (.aload_n 2, 1) := by decide +kernel
theorem dL_law_391 : decode cL_law 391 = .ok (.aload_n 0, 1) := by decide +kernel
theorem dL_law_392 : decode cL_law 392 = .ok (.iload_n 3, 1) := by decide +kernel
theorem dL_law_393 : decode cL_law 393 = .ok (.iconst 1, 1) := by decide +kernel
theorem dL_law_394 : decode cL_law 394 = .ok (.iadd, 1) := by decide +kernel
theorem dL_law_395 : decode cL_law 395 = .ok (.iaload, 1) := by decide +kernel
theorem dL_law_396 : decode cL_law 396 = .ok (.aload_n 0, 1) := by decide +kernel
theorem dL_law_397 : decode cL_law 397 = .ok (.iload_n 3, 1) := by decide +kernel
theorem dL_law_398 : decode cL_law 398 = .ok (.iconst 2, 1) := by decide +kernel
theorem dL_law_399 : decode cL_law 399 = .ok (.iadd, 1) := by decide +kernel
theorem dL_law_400 : decode cL_law 400 = .ok (.iaload, 1) := by decide +kernel
theorem dL_law_401 : decode cL_law 401 = .ok (.invokevirtual 36, 3) := by decide +kernel
theorem dL_law_404 : decode cL_law 404 = .ok (.if_icmp .eq 548, 3) := by decide +kernel
theorem dL_law_407 : decode cL_law 407 = .ok (.iconst 0, 1) := by decide +kernel
theorem dL_law_408 : decode cL_law 408 = .ok (.ireturn, 1) := by decide +kernel
theorem dL_law_409 : decode cL_law 409 = .ok (.aload_n 1, 1) := by decide +kernel
theorem dL_law_410 : decode cL_law 410 = .ok (.aload_n 0, 1) := by decide +kernel
theorem dL_law_411 : decode cL_law 411 = .ok (.iload_n 3, 1) := by decide +kernel
theorem dL_law_412 : decode cL_law 412 = .ok (.iconst 1, 1) := by decide +kernel
theorem dL_law_413 : decode cL_law 413 = .ok (.iadd, 1) := by decide +kernel
theorem dL_law_414 : decode cL_law 414 = .ok (.iaload, 1) := by decide +kernel
theorem dL_law_415 : decode cL_law 415 = .ok (.invokevirtual 37, 3) := by decide +kernel
theorem dL_law_418 : decode cL_law 418 = .ok (.aload_n 2, 1) := by decide +kernel
theorem dL_law_419 : decode cL_law 419 = .ok (.aload_n 0, 1) := by decide +kernel
theorem dL_law_420 : decode cL_law 420 = .ok (.iload_n 3, 1) := by decide +kernel
theorem dL_law_421 : decode cL_law 421 = .ok (.iconst 1, 1) := by decide +kernel
theorem dL_law_422 : decode cL_law 422 = .ok (.iadd, 1) := by decide +kernel
theorem dL_law_423 : decode cL_law 423 = .ok (.iaload, 1) := by decide +kernel
theorem dL_law_424 : decode cL_law 424 = .ok (.invokevirtual 41, 3) := by decide +kernel
theorem dL_law_427 : decode cL_law 427 = .ok (.if_icmp .eq 525, 3) := by decide +kernel
theorem dL_law_430 : decode cL_law 430 = .ok (.iconst 0, 1) := by decide +kernel
theorem dL_law_431 : decode cL_law 431 = .ok (.ireturn, 1) := by decide +kernel
theorem dL_law_432 : decode cL_law 432 = .ok (.aload_n 1, 1) := by decide +kernel
theorem dL_law_433 : decode cL_law 433 = .ok (.aload_n 0, 1) := by decide +kernel
theorem dL_law_434 : decode cL_law 434 = .ok (.iload_n 3, 1) := by decide +kernel
theorem dL_law_435 : decode cL_law 435 = .ok (.iconst 1, 1) := by decide +kernel
theorem dL_law_436 : decode cL_law 436 = .ok (.iadd, 1) := by decide +kernel
theorem dL_law_437 : decode cL_law 437 = .ok (.iaload, 1) := by decide +kernel
theorem dL_law_438 : decode cL_law 438 = .ok (.invokevirtual 42, 3) := by decide +kernel
theorem dL_law_441 : decode cL_law 441 = .ok (.aload_n 2, 1) := by decide +kernel
theorem dL_law_442 : decode cL_law 442 = .ok (.aload_n 0, 1) := by decide +kernel
theorem dL_law_443 : decode cL_law 443 = .ok (.iload_n 3, 1) := by decide +kernel
theorem dL_law_444 : decode cL_law 444 = .ok (.iconst 1, 1) := by decide +kernel
theorem dL_law_445 : decode cL_law 445 = .ok (.iadd, 1) := by decide +kernel
theorem dL_law_446 : decode cL_law 446 = .ok (.iaload, 1) := by decide +kernel
theorem dL_law_447 : decode cL_law 447 = .ok (.invokevirtual 45, 3) := by decide +kernel
theorem dL_law_450 : decode cL_law 450 = .ok (.if_icmp .eq 502, 3) := by decide +kernel
theorem dL_law_453 : decode cL_law 453 = .ok (.iconst 0, 1) := by decide +kernel
theorem dL_law_454 : decode cL_law 454 = .ok (.ireturn, 1) := by decide +kernel
theorem dL_law_455 : decode cL_law 455 = .ok (.aload_n 1, 1) := by decide +kernel
theorem dL_law_456 : decode cL_law 456 = .ok (.aload_n 0, 1) := by decide +kernel
theorem dL_law_457 : decode cL_law 457 = .ok (.iload_n 3, 1) := by decide +kernel
theorem dL_law_458 : decode cL_law 458 = .ok (.iconst 1, 1) := by decide +kernel
theorem dL_law_459 : decode cL_law 459 = .ok (.iadd, 1) := by decide +kernel
theorem dL_law_460 : decode cL_law 460 = .ok (.iaload, 1) := by decide +kernel
theorem dL_law_461 : decode cL_law 461 = .ok (.aload_n 0, 1) := by decide +kernel
theorem dL_law_462 : decode cL_law 462 = .ok (.iload_n 3, 1) := by decide +kernel
theorem dL_law_463 : decode cL_law 463 = .ok (.iconst 2, 1) := by decide +kernel
theorem dL_law_464 : decode cL_law 464 = .ok (.iadd, 1) := by decide +kernel
theorem dL_law_465 : decode cL_law 465 = .ok (.iaload, 1) := by decide +kernel
theorem dL_law_466 : decode cL_law 466 = .ok (.invokevirtual 46, 3) := by decide +kernel
theorem dL_law_469 : decode cL_law 469 = .ok (.aload_n 2, 1) := by decide +kernel
theorem dL_law_470 : decode cL_law 470 = .ok (.aload_n 0, 1) := by decide +kernel
theorem dL_law_471 : decode cL_law 471 = .ok (.iload_n 3, 1) := by decide +kernel
theorem dL_law_472 : decode cL_law 472 = .ok (.iconst 1, 1) := by decide +kernel
theorem dL_law_473 : decode cL_law 473 = .ok (.iadd, 1) := by decide +kernel
theorem dL_law_474 : decode cL_law 474 = .ok (.iaload, 1) := by decide +kernel
theorem dL_law_475 : decode cL_law 475 = .ok (.aload_n 0, 1) := by decide +kernel
theorem dL_law_476 : decode cL_law 476 = .ok (.iload_n 3, 1) := by decide +kernel
theorem dL_law_477 : decode cL_law 477 = .ok (.iconst 2, 1) := by decide +kernel
theorem dL_law_478 : decode cL_law 478 = .ok (.iadd, 1) := by decide +kernel
theorem dL_law_479 : decode cL_law 479 = .ok (.iaload, 1) := by decide +kernel
theorem dL_law_480 : decode cL_law 480 = .ok (.invokevirtual 49, 3) := by decide +kernel
theorem dL_law_483 : decode cL_law 483 = .ok (.if_icmp .eq 469, 3) := by decide +kernel
theorem dL_law_486 : decode cL_law 486 = .ok (.iconst 0, 1) := by decide +kernel
theorem dL_law_487 : decode cL_law 487 = .ok (.ireturn, 1) := by decide +kernel
theorem dL_law_488 : decode cL_law 488 = .ok (.aload_n 1, 1) := by decide +kernel
theorem dL_law_489 : decode cL_law 489 = .ok (.aload_n 0, 1) := by decide +kernel
theorem dL_law_490 : decode cL_law 490 = .ok (.iload_n 3, 1) := by decide +kernel
theorem dL_law_491 : decode cL_law 491 = .ok (.iconst 1, 1) := by decide +kernel
theorem dL_law_492 : decode cL_law 492 = .ok (.iadd, 1) := by decide +kernel
theorem dL_law_493 : decode cL_law 493 = .ok (.iaload, 1) := by decide +kernel
theorem dL_law_494 : decode cL_law 494 = .ok (.aload_n 0, 1) := by decide +kernel
theorem dL_law_495 : decode cL_law 495 = .ok (.iload_n 3, 1) := by decide +kernel
theorem dL_law_496 : decode cL_law 496 = .ok (.iconst 2, 1) := by decide +kernel
theorem dL_law_497 : decode cL_law 497 = .ok (.iadd, 1) := by decide +kernel
theorem dL_law_498 : decode cL_law 498 = .ok (.iaload, 1) := by decide +kernel
theorem dL_law_499 : decode cL_law 499 = .ok (.invokevirtual 50, 3) := by decide +kernel
theorem dL_law_502 : decode cL_law 502 = .ok (.aload_n 2, 1) := by decide +kernel
theorem dL_law_503 : decode cL_law 503 = .ok (.aload_n 0, 1) := by decide +kernel
theorem dL_law_504 : decode cL_law 504 = .ok (.iload_n 3, 1) := by decide +kernel
theorem dL_law_505 : decode cL_law 505 = .ok (.iconst 1, 1) := by decide +kernel
theorem dL_law_506 : decode cL_law 506 = .ok (.iadd, 1) := by decide +kernel
theorem dL_law_507 : decode cL_law 507 = .ok (.iaload, 1) := by decide +kernel
theorem dL_law_508 : decode cL_law 508 = .ok (.aload_n 0, 1) := by decide +kernel
theorem dL_law_509 : decode cL_law 509 = .ok (.iload_n 3, 1) := by decide +kernel
theorem dL_law_510 : decode cL_law 510 = .ok (.iconst 2, 1) := by decide +kernel
theorem dL_law_511 : decode cL_law 511 = .ok (.iadd, 1) := by decide +kernel
theorem dL_law_512 : decode cL_law 512 = .ok (.iaload, 1) := by decide +kernel
theorem dL_law_513 : decode cL_law 513 = .ok (.invokevirtual 53, 3) := by decide +kernel
theorem dL_law_516 : decode cL_law 516 = .ok (.if_icmp .eq 436, 3) := by decide +kernel
theorem dL_law_519 : decode cL_law 519 = .ok (.iconst 0, 1) := by decide +kernel
theorem dL_law_520 : decode cL_law 520 = .ok (.ireturn, 1) := by decide +kernel
theorem dL_law_521 : decode cL_law 521 = .ok (.aload_n 1, 1) := by decide +kernel
theorem dL_law_522 : decode cL_law 522 = .ok (.aload_n 0, 1) := by decide +kernel
theorem dL_law_523 : decode cL_law 523 = .ok (.iload_n 3, 1) := by decide +kernel
theorem dL_law_524 : decode cL_law 524 = .ok (.iconst 1, 1) := by decide +kernel
theorem dL_law_525 : decode cL_law 525 = .ok (.iadd, 1) := by decide +kernel
theorem dL_law_526 : decode cL_law 526 = .ok (.iaload, 1) := by decide +kernel
theorem dL_law_527 : decode cL_law 527 = .ok (.aload_n 0, 1) := by decide +kernel
theorem dL_law_528 : decode cL_law 528 = .ok (.iload_n 3, 1) := by decide +kernel
theorem dL_law_529 : decode cL_law 529 = .ok (.iconst 2, 1) := by decide +kernel
theorem dL_law_530 : decode cL_law 530 = .ok (.iadd, 1) := by decide +kernel
theorem dL_law_531 : decode cL_law 531 = .ok (.iaload, 1) := by decide +kernel
theorem dL_law_532 : decode cL_law 532 = .ok (.aload_n 0, 1) := by decide +kernel
theorem dL_law_533 : decode cL_law 533 = .ok (.iload_n 3, 1) := by decide +kernel
theorem dL_law_534 : decode cL_law 534 = .ok (.iconst 3, 1) := by decide +kernel
theorem dL_law_535 : decode cL_law 535 = .ok (.iadd, 1) := by decide +kernel
theorem dL_law_536 : decode cL_law 536 = .ok (.iaload, 1) := by decide +kernel
theorem dL_law_537 : decode cL_law 537 = .ok (.invokevirtual 54, 3) := by decide +kernel
theorem dL_law_540 : decode cL_law 540 = .ok (.aload_n 2, 1) := by decide +kernel
theorem dL_law_541 : decode cL_law 541 = .ok (.aload_n 0, 1) := by decide +kernel
theorem dL_law_542 : decode cL_law 542 = .ok (.iload_n 3, 1) := by decide +kernel
theorem dL_law_543 : decode cL_law 543 = .ok (.iconst 1, 1) := by decide +kernel
theorem dL_law_544 : decode cL_law 544 = .ok (.iadd, 1) := by decide +kernel
theorem dL_law_545 : decode cL_law 545 = .ok (.iaload, 1) := by decide +kernel
theorem dL_law_546 : decode cL_law 546 = .ok (.aload_n 0, 1) := by decide +kernel
theorem dL_law_547 : decode cL_law 547 = .ok (.iload_n 3, 1) := by decide +kernel
theorem dL_law_548 : decode cL_law 548 = .ok (.iconst 2, 1) := by decide +kernel
theorem dL_law_549 : decode cL_law 549 = .ok (.iadd, 1) := by decide +kernel
theorem dL_law_550 : decode cL_law 550 = .ok (.iaload, 1) := by decide +kernel
theorem dL_law_551 : decode cL_law 551 = .ok (.aload_n 0, 1) := by decide +kernel
theorem dL_law_552 : decode cL_law 552 = .ok (.iload_n 3, 1) := by decide +kernel
theorem dL_law_553 : decode cL_law 553 = .ok (.iconst 3, 1) := by decide +kernel
theorem dL_law_554 : decode cL_law 554 = .ok (.iadd, 1) := by decide +kernel
theorem dL_law_555 : decode cL_law 555 = .ok (.iaload, 1) := by decide +kernel
theorem dL_law_556 : decode cL_law 556 = .ok (.invokevirtual 58, 3) := by decide +kernel
theorem dL_law_559 : decode cL_law 559 = .ok (.if_icmp .eq 393, 3) := by decide +kernel
theorem dL_law_562 : decode cL_law 562 = .ok (.iconst 0, 1) := by decide +kernel
theorem dL_law_563 : decode cL_law 563 = .ok (.ireturn, 1) := by decide +kernel
theorem dL_law_564 : decode cL_law 564 = .ok (.aload_n 1, 1) := by decide +kernel
theorem dL_law_565 : decode cL_law 565 = .ok (.aload_n 0, 1) := by decide +kernel
theorem dL_law_566 : decode cL_law 566 = .ok (.iload_n 3, 1) := by decide +kernel
theorem dL_law_567 : decode cL_law 567 = .ok (.iconst 1, 1) := by decide +kernel
theorem dL_law_568 : decode cL_law 568 = .ok (.iadd, 1) := by decide +kernel
theorem dL_law_569 : decode cL_law 569 = .ok (.iaload, 1) := by decide +kernel
theorem dL_law_570 : decode cL_law 570 = .ok (.aload_n 0, 1) := by decide +kernel
theorem dL_law_571 : decode cL_law 571 = .ok (.iload_n 3, 1) := by decide +kernel
theorem dL_law_572 : decode cL_law 572 = .ok (.iconst 2, 1) := by decide +kernel
theorem dL_law_573 : decode cL_law 573 = .ok (.iadd, 1) := by decide +kernel
theorem dL_law_574 : decode cL_law 574 = .ok (.iaload, 1) := by decide +kernel
theorem dL_law_575 : decode cL_law 575 = .ok (.ifCond .eq 7, 3) := by decide +kernel
theorem dL_law_578 : decode cL_law 578 = .ok (.iconst 1, 1) := by decide +kernel
theorem dL_law_579 : decode cL_law 579 = .ok (.goto 4, 3) := by decide +kernel
theorem dL_law_582 : decode cL_law 582 = .ok (.iconst 0, 1) := by decide +kernel
theorem dL_law_583 : decode cL_law 583 = .ok (.invokevirtual 59, 3) := by decide +kernel
theorem dL_law_586 : decode cL_law 586 = .ok (.aload_n 2, 1) := by decide +kernel
theorem dL_law_587 : decode cL_law 587 = .ok (.aload_n 0, 1) := by decide +kernel
theorem dL_law_588 : decode cL_law 588 = .ok (.iload_n 3, 1) := by decide +kernel
theorem dL_law_589 : decode cL_law 589 = .ok (.iconst 1, 1) := by decide +kernel
theorem dL_law_590 : decode cL_law 590 = .ok (.iadd, 1) := by decide +kernel
theorem dL_law_591 : decode cL_law 591 = .ok (.iaload, 1) := by decide +kernel
theorem dL_law_592 : decode cL_law 592 = .ok (.aload_n 0, 1) := by decide +kernel
theorem dL_law_593 : decode cL_law 593 = .ok (.iload_n 3, 1) := by decide +kernel
theorem dL_law_594 : decode cL_law 594 = .ok (.iconst 2, 1) := by decide +kernel
theorem dL_law_595 : decode cL_law 595 = .ok (.iadd, 1) := by decide +kernel
theorem dL_law_596 : decode cL_law 596 = .ok (.iaload, 1) := by decide +kernel
theorem dL_law_597 : decode cL_law 597 = .ok (.ifCond .eq 7, 3) := by decide +kernel
theorem dL_law_600 : decode cL_law 600 = .ok (.iconst 1, 1) := by decide +kernel
theorem dL_law_601 : decode cL_law 601 = .ok (.goto 4, 3) := by decide +kernel
theorem dL_law_604 : decode cL_law 604 = .ok (.iconst 0, 1) := by decide +kernel
theorem dL_law_605 : decode cL_law 605 = .ok (.invokevirtual 63, 3) := by decide +kernel
theorem dL_law_608 : decode cL_law 608 = .ok (.if_icmp .eq 344, 3) := by decide +kernel
theorem dL_law_611 : decode cL_law 611 = .ok (.iconst 0, 1) := by decide +kernel
theorem dL_law_612 : decode cL_law 612 = .ok (.ireturn, 1) := by decide +kernel
theorem dL_law_613 : decode cL_law 613 = .ok (.aload_n 1, 1) := by decide +kernel
theorem dL_law_614 : decode cL_law 614 = .ok (.aload_n 0, 1) := by decide +kernel
theorem dL_law_615 : decode cL_law 615 = .ok (.iload_n 3, 1) := by decide +kernel
theorem dL_law_616 : decode cL_law 616 = .ok (.iconst 1, 1) := by decide +kernel
theorem dL_law_617 : decode cL_law 617 = .ok (.iadd, 1) := by decide +kernel
theorem dL_law_618 : decode cL_law 618 = .ok (.iaload, 1) := by decide +kernel
theorem dL_law_619 : decode cL_law 619 = .ok (.aload_n 0, 1) := by decide +kernel
theorem dL_law_620 : decode cL_law 620 = .ok (.iload_n 3, 1) := by decide +kernel
theorem dL_law_621 : decode cL_law 621 = .ok (.iconst 2, 1) := by decide +kernel
theorem dL_law_622 : decode cL_law 622 = .ok (.iadd, 1) := by decide +kernel
theorem dL_law_623 : decode cL_law 623 = .ok (.iaload, 1) := by decide +kernel
theorem dL_law_624 : decode cL_law 624 = .ok (.ifCond .eq 7, 3) := by decide +kernel
theorem dL_law_627 : decode cL_law 627 = .ok (.iconst 1, 1) := by decide +kernel
theorem dL_law_628 : decode cL_law 628 = .ok (.goto 4, 3) := by decide +kernel
theorem dL_law_631 : decode cL_law 631 = .ok (.iconst 0, 1) := by decide +kernel
theorem dL_law_632 : decode cL_law 632 = .ok (.invokevirtual 64, 3) := by decide +kernel
theorem dL_law_635 : decode cL_law 635 = .ok (.aload_n 2, 1) := by decide +kernel
theorem dL_law_636 : decode cL_law 636 = .ok (.aload_n 0, 1) := by decide +kernel
theorem dL_law_637 : decode cL_law 637 = .ok (.iload_n 3, 1) := by decide +kernel
theorem dL_law_638 : decode cL_law 638 = .ok (.iconst 1, 1) := by decide +kernel
theorem dL_law_639 : decode cL_law 639 = .ok (.iadd, 1) := by decide +kernel
theorem dL_law_640 : decode cL_law 640 = .ok (.iaload, 1) := by decide +kernel
theorem dL_law_641 : decode cL_law 641 = .ok (.aload_n 0, 1) := by decide +kernel
theorem dL_law_642 : decode cL_law 642 = .ok (.iload_n 3, 1) := by decide +kernel
theorem dL_law_643 : decode cL_law 643 = .ok (.iconst 2, 1) := by decide +kernel
theorem dL_law_644 : decode cL_law 644 = .ok (.iadd, 1) := by decide +kernel
theorem dL_law_645 : decode cL_law 645 = .ok (.iaload, 1) := by decide +kernel
theorem dL_law_646 : decode cL_law 646 = .ok (.ifCond .eq 7, 3) := by decide +kernel
theorem dL_law_649 : decode cL_law 649 = .ok (.iconst 1, 1) := by decide +kernel
theorem dL_law_650 : decode cL_law 650 = .ok (.goto 4, 3) := by decide +kernel
theorem dL_law_653 : decode cL_law 653 = .ok (.iconst 0, 1) := by decide +kernel
theorem dL_law_654 : decode cL_law 654 = .ok (.invokevirtual 67, 3) := by decide +kernel
theorem dL_law_657 : decode cL_law 657 = .ok (.if_icmp .eq 295, 3) := by decide +kernel
theorem dL_law_660 : decode cL_law 660 = .ok (.iconst 0, 1) := by decide +kernel
theorem dL_law_661 : decode cL_law 661 = .ok (.ireturn, 1) := by decide +kernel
theorem dL_law_662 : decode cL_law 662 = .ok (.aload_n 1, 1) := by decide +kernel
theorem dL_law_663 : decode cL_law 663 = .ok (.aload_n 0, 1) := by decide +kernel
theorem dL_law_664 : decode cL_law 664 = .ok (.iload_n 3, 1) := by decide +kernel
theorem dL_law_665 : decode cL_law 665 = .ok (.iconst 1, 1) := by decide +kernel
theorem dL_law_666 : decode cL_law 666 = .ok (.iadd, 1) := by decide +kernel
theorem dL_law_667 : decode cL_law 667 = .ok (.iaload, 1) := by decide +kernel
theorem dL_law_668 : decode cL_law 668 = .ok (.aload_n 0, 1) := by decide +kernel
theorem dL_law_669 : decode cL_law 669 = .ok (.iload_n 3, 1) := by decide +kernel
theorem dL_law_670 : decode cL_law 670 = .ok (.iconst 2, 1) := by decide +kernel
theorem dL_law_671 : decode cL_law 671 = .ok (.iadd, 1) := by decide +kernel
theorem dL_law_672 : decode cL_law 672 = .ok (.iaload, 1) := by decide +kernel
theorem dL_law_673 : decode cL_law 673 = .ok (.aload_n 0, 1) := by decide +kernel
theorem dL_law_674 : decode cL_law 674 = .ok (.iload_n 3, 1) := by decide +kernel
theorem dL_law_675 : decode cL_law 675 = .ok (.iconst 3, 1) := by decide +kernel
theorem dL_law_676 : decode cL_law 676 = .ok (.iadd, 1) := by decide +kernel
theorem dL_law_677 : decode cL_law 677 = .ok (.iaload, 1) := by decide +kernel
theorem dL_law_678 : decode cL_law 678 = .ok (.aload_n 0, 1) := by decide +kernel
theorem dL_law_679 : decode cL_law 679 = .ok (.iload_n 3, 1) := by decide +kernel
theorem dL_law_680 : decode cL_law 680 = .ok (.iconst 4, 1) := by decide +kernel
theorem dL_law_681 : decode cL_law 681 = .ok (.iadd, 1) := by decide +kernel
theorem dL_law_682 : decode cL_law 682 = .ok (.iaload, 1) := by decide +kernel
theorem dL_law_683 : decode cL_law 683 = .ok (.invokevirtual 68, 3) := by decide +kernel
theorem dL_law_686 : decode cL_law 686 = .ok (.aload_n 2, 1) := by decide +kernel
theorem dL_law_687 : decode cL_law 687 = .ok (.aload_n 0, 1) := by decide +kernel
theorem dL_law_688 : decode cL_law 688 = .ok (.iload_n 3, 1) := by decide +kernel
theorem dL_law_689 : decode cL_law 689 = .ok (.iconst 1, 1) := by decide +kernel
theorem dL_law_690 : decode cL_law 690 = .ok (.iadd, 1) := by decide +kernel
theorem dL_law_691 : decode cL_law 691 = .ok (.iaload, 1) := by decide +kernel
theorem dL_law_692 : decode cL_law 692 = .ok (.aload_n 0, 1) := by decide +kernel
theorem dL_law_693 : decode cL_law 693 = .ok (.iload_n 3, 1) := by decide +kernel
theorem dL_law_694 : decode cL_law 694 = .ok (.iconst 2, 1) := by decide +kernel
theorem dL_law_695 : decode cL_law 695 = .ok (.iadd, 1) := by decide +kernel
theorem dL_law_696 : decode cL_law 696 = .ok (.iaload, 1) := by decide +kernel
theorem dL_law_697 : decode cL_law 697 = .ok (.aload_n 0, 1) := by decide +kernel
theorem dL_law_698 : decode cL_law 698 = .ok (.iload_n 3, 1) := by decide +kernel
theorem dL_law_699 : decode cL_law 699 = .ok (.iconst 3, 1) := by decide +kernel
theorem dL_law_700 : decode cL_law 700 = .ok (.iadd, 1) := by decide +kernel
theorem dL_law_701 : decode cL_law 701 = .ok (.iaload, 1) := by decide +kernel
theorem dL_law_702 : decode cL_law 702 = .ok (.aload_n 0, 1) := by decide +kernel
theorem dL_law_703 : decode cL_law 703 = .ok (.iload_n 3, 1) := by decide +kernel
theorem dL_law_704 : decode cL_law 704 = .ok (.iconst 4, 1) := by decide +kernel
theorem dL_law_705 : decode cL_law 705 = .ok (.iadd, 1) := by decide +kernel
theorem dL_law_706 : decode cL_law 706 = .ok (.iaload, 1) := by decide +kernel
theorem dL_law_707 : decode cL_law 707 = .ok (.invokevirtual 72, 3) := by decide +kernel
theorem dL_law_710 : decode cL_law 710 = .ok (.if_icmp .eq 242, 3) := by decide +kernel
theorem dL_law_713 : decode cL_law 713 = .ok (.iconst 0, 1) := by decide +kernel
theorem dL_law_714 : decode cL_law 714 = .ok (.ireturn, 1) := by decide +kernel
theorem dL_law_715 : decode cL_law 715 = .ok (.aload_n 1, 1) := by decide +kernel
theorem dL_law_716 : decode cL_law 716 = .ok (.aload_n 0, 1) := by decide +kernel
theorem dL_law_717 : decode cL_law 717 = .ok (.iload_n 3, 1) := by decide +kernel
theorem dL_law_718 : decode cL_law 718 = .ok (.iconst 1, 1) := by decide +kernel
theorem dL_law_719 : decode cL_law 719 = .ok (.iadd, 1) := by decide +kernel
theorem dL_law_720 : decode cL_law 720 = .ok (.iaload, 1) := by decide +kernel
theorem dL_law_721 : decode cL_law 721 = .ok (.aload_n 0, 1) := by decide +kernel
theorem dL_law_722 : decode cL_law 722 = .ok (.iload_n 3, 1) := by decide +kernel
theorem dL_law_723 : decode cL_law 723 = .ok (.iconst 2, 1) := by decide +kernel
theorem dL_law_724 : decode cL_law 724 = .ok (.iadd, 1) := by decide +kernel
theorem dL_law_725 : decode cL_law 725 = .ok (.iaload, 1) := by decide +kernel
theorem dL_law_726 : decode cL_law 726 = .ok (.aload_n 0, 1) := by decide +kernel
theorem dL_law_727 : decode cL_law 727 = .ok (.iload_n 3, 1) := by decide +kernel
theorem dL_law_728 : decode cL_law 728 = .ok (.iconst 3, 1) := by decide +kernel
theorem dL_law_729 : decode cL_law 729 = .ok (.iadd, 1) := by decide +kernel
theorem dL_law_730 : decode cL_law 730 = .ok (.iaload, 1) := by decide +kernel
theorem dL_law_731 : decode cL_law 731 = .ok (.aload_n 0, 1) := by decide +kernel
theorem dL_law_732 : decode cL_law 732 = .ok (.iload_n 3, 1) := by decide +kernel
theorem dL_law_733 : decode cL_law 733 = .ok (.iconst 4, 1) := by decide +kernel
theorem dL_law_734 : decode cL_law 734 = .ok (.iadd, 1) := by decide +kernel
theorem dL_law_735 : decode cL_law 735 = .ok (.iaload, 1) := by decide +kernel
theorem dL_law_736 : decode cL_law 736 = .ok (.invokevirtual 73, 3) := by decide +kernel
theorem dL_law_739 : decode cL_law 739 = .ok (.aload_n 2, 1) := by decide +kernel
theorem dL_law_740 : decode cL_law 740 = .ok (.aload_n 0, 1) := by decide +kernel
theorem dL_law_741 : decode cL_law 741 = .ok (.iload_n 3, 1) := by decide +kernel
theorem dL_law_742 : decode cL_law 742 = .ok (.iconst 1, 1) := by decide +kernel
theorem dL_law_743 : decode cL_law 743 = .ok (.iadd, 1) := by decide +kernel
theorem dL_law_744 : decode cL_law 744 = .ok (.iaload, 1) := by decide +kernel
theorem dL_law_745 : decode cL_law 745 = .ok (.aload_n 0, 1) := by decide +kernel
theorem dL_law_746 : decode cL_law 746 = .ok (.iload_n 3, 1) := by decide +kernel
theorem dL_law_747 : decode cL_law 747 = .ok (.iconst 2, 1) := by decide +kernel
theorem dL_law_748 : decode cL_law 748 = .ok (.iadd, 1) := by decide +kernel
theorem dL_law_749 : decode cL_law 749 = .ok (.iaload, 1) := by decide +kernel
theorem dL_law_750 : decode cL_law 750 = .ok (.aload_n 0, 1) := by decide +kernel
theorem dL_law_751 : decode cL_law 751 = .ok (.iload_n 3, 1) := by decide +kernel
theorem dL_law_752 : decode cL_law 752 = .ok (.iconst 3, 1) := by decide +kernel
theorem dL_law_753 : decode cL_law 753 = .ok (.iadd, 1) := by decide +kernel
theorem dL_law_754 : decode cL_law 754 = .ok (.iaload, 1) := by decide +kernel
theorem dL_law_755 : decode cL_law 755 = .ok (.aload_n 0, 1) := by decide +kernel
theorem dL_law_756 : decode cL_law 756 = .ok (.iload_n 3, 1) := by decide +kernel
theorem dL_law_757 : decode cL_law 757 = .ok (.iconst 4, 1) := by decide +kernel
theorem dL_law_758 : decode cL_law 758 = .ok (.iadd, 1) := by decide +kernel
theorem dL_law_759 : decode cL_law 759 = .ok (.iaload, 1) := by decide +kernel
theorem dL_law_760 : decode cL_law 760 = .ok (.invokevirtual 76, 3) := by decide +kernel
theorem dL_law_763 : decode cL_law 763 = .ok (.if_icmp .eq 189, 3) := by decide +kernel
theorem dL_law_766 : decode cL_law 766 = .ok (.iconst 0, 1) := by decide +kernel
theorem dL_law_767 : decode cL_law 767 = .ok (.ireturn, 1) := by decide +kernel
theorem dL_law_768 : decode cL_law 768 = .ok (.aload_n 1, 1) := by decide +kernel
theorem dL_law_769 : decode cL_law 769 = .ok (.aload_n 0, 1) := by decide +kernel
theorem dL_law_770 : decode cL_law 770 = .ok (.iload_n 3, 1) := by decide +kernel
theorem dL_law_771 : decode cL_law 771 = .ok (.iconst 1, 1) := by decide +kernel
theorem dL_law_772 : decode cL_law 772 = .ok (.iadd, 1) := by decide +kernel
theorem dL_law_773 : decode cL_law 773 = .ok (.iaload, 1) := by decide +kernel
theorem dL_law_774 : decode cL_law 774 = .ok (.aload_n 0, 1) := by decide +kernel
theorem dL_law_775 : decode cL_law 775 = .ok (.iload_n 3, 1) := by decide +kernel
theorem dL_law_776 : decode cL_law 776 = .ok (.iconst 2, 1) := by decide +kernel
theorem dL_law_777 : decode cL_law 777 = .ok (.iadd, 1) := by decide +kernel
theorem dL_law_778 : decode cL_law 778 = .ok (.iaload, 1) := by decide +kernel
theorem dL_law_779 : decode cL_law 779 = .ok (.invokevirtual 77, 3) := by decide +kernel
theorem dL_law_782 : decode cL_law 782 = .ok (.aload_n 2, 1) := by decide +kernel
theorem dL_law_783 : decode cL_law 783 = .ok (.aload_n 0, 1) := by decide +kernel
theorem dL_law_784 : decode cL_law 784 = .ok (.iload_n 3, 1) := by decide +kernel
theorem dL_law_785 : decode cL_law 785 = .ok (.iconst 1, 1) := by decide +kernel
theorem dL_law_786 : decode cL_law 786 = .ok (.iadd, 1) := by decide +kernel
theorem dL_law_787 : decode cL_law 787 = .ok (.iaload, 1) := by decide +kernel
theorem dL_law_788 : decode cL_law 788 = .ok (.aload_n 0, 1) := by decide +kernel
theorem dL_law_789 : decode cL_law 789 = .ok (.iload_n 3, 1) := by decide +kernel
theorem dL_law_790 : decode cL_law 790 = .ok (.iconst 2, 1) := by decide +kernel
theorem dL_law_791 : decode cL_law 791 = .ok (.iadd, 1) := by decide +kernel
theorem dL_law_792 : decode cL_law 792 = .ok (.iaload, 1) := by decide +kernel
theorem dL_law_793 : decode cL_law 793 = .ok (.invokevirtual 80, 3) := by decide +kernel
theorem dL_law_796 : decode cL_law 796 = .ok (.if_icmp .eq 156, 3) := by decide +kernel
theorem dL_law_799 : decode cL_law 799 = .ok (.iconst 0, 1) := by decide +kernel
theorem dL_law_800 : decode cL_law 800 = .ok (.ireturn, 1) := by decide +kernel
theorem dL_law_801 : decode cL_law 801 = .ok (.aload_n 1, 1) := by decide +kernel
theorem dL_law_802 : decode cL_law 802 = .ok (.aload_n 0, 1) := by decide +kernel
theorem dL_law_803 : decode cL_law 803 = .ok (.iload_n 3, 1) := by decide +kernel
theorem dL_law_804 : decode cL_law 804 = .ok (.iconst 1, 1) := by decide +kernel
theorem dL_law_805 : decode cL_law 805 = .ok (.iadd, 1) := by decide +kernel
theorem dL_law_806 : decode cL_law 806 = .ok (.iaload, 1) := by decide +kernel
theorem dL_law_807 : decode cL_law 807 = .ok (.aload_n 0, 1) := by decide +kernel
theorem dL_law_808 : decode cL_law 808 = .ok (.iload_n 3, 1) := by decide +kernel
theorem dL_law_809 : decode cL_law 809 = .ok (.iconst 2, 1) := by decide +kernel
theorem dL_law_810 : decode cL_law 810 = .ok (.iadd, 1) := by decide +kernel
theorem dL_law_811 : decode cL_law 811 = .ok (.iaload, 1) := by decide +kernel
theorem dL_law_812 : decode cL_law 812 = .ok (.invokevirtual 81, 3) := by decide +kernel
theorem dL_law_815 : decode cL_law 815 = .ok (.aload_n 2, 1) := by decide +kernel
theorem dL_law_816 : decode cL_law 816 = .ok (.aload_n 0, 1) := by decide +kernel
theorem dL_law_817 : decode cL_law 817 = .ok (.iload_n 3, 1) := by decide +kernel
theorem dL_law_818 : decode cL_law 818 = .ok (.iconst 1, 1) := by decide +kernel
theorem dL_law_819 : decode cL_law 819 = .ok (.iadd, 1) := by decide +kernel
theorem dL_law_820 : decode cL_law 820 = .ok (.iaload, 1) := by decide +kernel
theorem dL_law_821 : decode cL_law 821 = .ok (.aload_n 0, 1) := by decide +kernel
theorem dL_law_822 : decode cL_law 822 = .ok (.iload_n 3, 1) := by decide +kernel
theorem dL_law_823 : decode cL_law 823 = .ok (.iconst 2, 1) := by decide +kernel
theorem dL_law_824 : decode cL_law 824 = .ok (.iadd, 1) := by decide +kernel
theorem dL_law_825 : decode cL_law 825 = .ok (.iaload, 1) := by decide +kernel
theorem dL_law_826 : decode cL_law 826 = .ok (.invokevirtual 84, 3) := by decide +kernel
theorem dL_law_829 : decode cL_law 829 = .ok (.if_icmp .eq 123, 3) := by decide +kernel
theorem dL_law_832 : decode cL_law 832 = .ok (.iconst 0, 1) := by decide +kernel
theorem dL_law_833 : decode cL_law 833 = .ok (.ireturn, 1) := by decide +kernel
theorem dL_law_834 : decode cL_law 834 = .ok (.aload_n 1, 1) := by decide +kernel
theorem dL_law_835 : decode cL_law 835 = .ok (.aload_n 0, 1) := by decide +kernel
theorem dL_law_836 : decode cL_law 836 = .ok (.iload_n 3, 1) := by decide +kernel
theorem dL_law_837 : decode cL_law 837 = .ok (.iconst 1, 1) := by decide +kernel
theorem dL_law_838 : decode cL_law 838 = .ok (.iadd, 1) := by decide +kernel
theorem dL_law_839 : decode cL_law 839 = .ok (.iaload, 1) := by decide +kernel
theorem dL_law_840 : decode cL_law 840 = .ok (.invokevirtual 85, 3) := by decide +kernel
theorem dL_law_843 : decode cL_law 843 = .ok (.aload_n 2, 1) := by decide +kernel
theorem dL_law_844 : decode cL_law 844 = .ok (.aload_n 0, 1) := by decide +kernel
theorem dL_law_845 : decode cL_law 845 = .ok (.iload_n 3, 1) := by decide +kernel
theorem dL_law_846 : decode cL_law 846 = .ok (.iconst 1, 1) := by decide +kernel
theorem dL_law_847 : decode cL_law 847 = .ok (.iadd, 1) := by decide +kernel
theorem dL_law_848 : decode cL_law 848 = .ok (.iaload, 1) := by decide +kernel
theorem dL_law_849 : decode cL_law 849 = .ok (.invokevirtual 88, 3) := by decide +kernel
theorem dL_law_852 : decode cL_law 852 = .ok (.if_icmp .eq 100, 3) := by decide +kernel
theorem dL_law_855 : decode cL_law 855 = .ok (.iconst 0, 1) := by decide +kernel
theorem dL_law_856 : decode cL_law 856 = .ok (.ireturn, 1) := by decide +kernel
theorem dL_law_857 : decode cL_law 857 = .ok (.aload_n 1, 1) := by decide +kernel
theorem dL_law_858 : decode cL_law 858 = .ok (.aload_n 0, 1) := by decide +kernel
theorem dL_law_859 : decode cL_law 859 = .ok (.iload_n 3, 1) := by decide +kernel
theorem dL_law_860 : decode cL_law 860 = .ok (.iconst 1, 1) := by decide +kernel
theorem dL_law_861 : decode cL_law 861 = .ok (.iadd, 1) := by decide +kernel
theorem dL_law_862 : decode cL_law 862 = .ok (.iaload, 1) := by decide +kernel
theorem dL_law_863 : decode cL_law 863 = .ok (.invokevirtual 89, 3) := by decide +kernel
theorem dL_law_866 : decode cL_law 866 = .ok (.aload_n 2, 1) := by decide +kernel
theorem dL_law_867 : decode cL_law 867 = .ok (.aload_n 0, 1) := by decide +kernel
theorem dL_law_868 : decode cL_law 868 = .ok (.iload_n 3, 1) := by decide +kernel
theorem dL_law_869 : decode cL_law 869 = .ok (.iconst 1, 1) := by decide +kernel
theorem dL_law_870 : decode cL_law 870 = .ok (.iadd, 1) := by decide +kernel
theorem dL_law_871 : decode cL_law 871 = .ok (.iaload, 1) := by decide +kernel
theorem dL_law_872 : decode cL_law 872 = .ok (.invokevirtual 92, 3) := by decide +kernel
theorem dL_law_875 : decode cL_law 875 = .ok (.if_icmp .eq 77, 3) := by decide +kernel
theorem dL_law_878 : decode cL_law 878 = .ok (.iconst 0, 1) := by decide +kernel
theorem dL_law_879 : decode cL_law 879 = .ok (.ireturn, 1) := by decide +kernel
theorem dL_law_880 : decode cL_law 880 = .ok (.aload_n 1, 1) := by decide +kernel
theorem dL_law_881 : decode cL_law 881 = .ok (.aload_n 0, 1) := by decide +kernel
theorem dL_law_882 : decode cL_law 882 = .ok (.iload_n 3, 1) := by decide +kernel
theorem dL_law_883 : decode cL_law 883 = .ok (.iconst 1, 1) := by decide +kernel
theorem dL_law_884 : decode cL_law 884 = .ok (.iadd, 1) := by decide +kernel
theorem dL_law_885 : decode cL_law 885 = .ok (.iaload, 1) := by decide +kernel
theorem dL_law_886 : decode cL_law 886 = .ok (.invokevirtual 93, 3) := by decide +kernel
theorem dL_law_889 : decode cL_law 889 = .ok (.aload_n 2, 1) := by decide +kernel
theorem dL_law_890 : decode cL_law 890 = .ok (.aload_n 0, 1) := by decide +kernel
theorem dL_law_891 : decode cL_law 891 = .ok (.iload_n 3, 1) := by decide +kernel
theorem dL_law_892 : decode cL_law 892 = .ok (.iconst 1, 1) := by decide +kernel
theorem dL_law_893 : decode cL_law 893 = .ok (.iadd, 1) := by decide +kernel
theorem dL_law_894 : decode cL_law 894 = .ok (.iaload, 1) := by decide +kernel
theorem dL_law_895 : decode cL_law 895 = .ok (.invokevirtual 96, 3) := by decide +kernel
theorem dL_law_898 : decode cL_law 898 = .ok (.if_icmp .eq 54, 3) := by decide +kernel
theorem dL_law_901 : decode cL_law 901 = .ok (.iconst 0, 1) := by decide +kernel
theorem dL_law_902 : decode cL_law 902 = .ok (.ireturn, 1) := by decide +kernel
theorem dL_law_903 : decode cL_law 903 = .ok (.aload_n 1, 1) := by decide +kernel
theorem dL_law_904 : decode cL_law 904 = .ok (.aload_n 0, 1) := by decide +kernel
theorem dL_law_905 : decode cL_law 905 = .ok (.iload_n 3, 1) := by decide +kernel
theorem dL_law_906 : decode cL_law 906 = .ok (.iconst 1, 1) := by decide +kernel
theorem dL_law_907 : decode cL_law 907 = .ok (.iadd, 1) := by decide +kernel
theorem dL_law_908 : decode cL_law 908 = .ok (.iaload, 1) := by decide +kernel
theorem dL_law_909 : decode cL_law 909 = .ok (.invokevirtual 97, 3) := by decide +kernel
theorem dL_law_912 : decode cL_law 912 = .ok (.aload_n 2, 1) := by decide +kernel
theorem dL_law_913 : decode cL_law 913 = .ok (.aload_n 0, 1) := by decide +kernel
theorem dL_law_914 : decode cL_law 914 = .ok (.iload_n 3, 1) := by decide +kernel
theorem dL_law_915 : decode cL_law 915 = .ok (.iconst 1, 1) := by decide +kernel
theorem dL_law_916 : decode cL_law 916 = .ok (.iadd, 1) := by decide +kernel
theorem dL_law_917 : decode cL_law 917 = .ok (.iaload, 1) := by decide +kernel
theorem dL_law_918 : decode cL_law 918 = .ok (.invokevirtual 100, 3) := by decide +kernel
theorem dL_law_921 : decode cL_law 921 = .ok (.if_icmp .eq 31, 3) := by decide +kernel
theorem dL_law_924 : decode cL_law 924 = .ok (.iconst 0, 1) := by decide +kernel
theorem dL_law_925 : decode cL_law 925 = .ok (.ireturn, 1) := by decide +kernel
theorem dL_law_926 : decode cL_law 926 = .ok (.aload_n 1, 1) := by decide +kernel
theorem dL_law_927 : decode cL_law 927 = .ok (.invokevirtual 101, 3) := by decide +kernel
theorem dL_law_930 : decode cL_law 930 = .ok (.aload_n 2, 1) := by decide +kernel
theorem dL_law_931 : decode cL_law 931 = .ok (.invokevirtual 105, 3) := by decide +kernel
theorem dL_law_934 : decode cL_law 934 = .ok (.if_icmp .eq 18, 3) := by decide +kernel
theorem dL_law_937 : decode cL_law 937 = .ok (.iconst 0, 1) := by decide +kernel
theorem dL_law_938 : decode cL_law 938 = .ok (.ireturn, 1) := by decide +kernel
theorem dL_law_939 : decode cL_law 939 = .ok (.aload_n 1, 1) := by decide +kernel
theorem dL_law_940 : decode cL_law 940 = .ok (.invokevirtual 106, 3) := by decide +kernel
theorem dL_law_943 : decode cL_law 943 = .ok (.aload_n 2, 1) := by decide +kernel
theorem dL_law_944 : decode cL_law 944 = .ok (.invokevirtual 109, 3) := by decide +kernel
theorem dL_law_947 : decode cL_law 947 = .ok (.if_icmp .eq 5, 3) := by decide +kernel
theorem dL_law_950 : decode cL_law 950 = .ok (.iconst 0, 1) := by decide +kernel
theorem dL_law_951 : decode cL_law 951 = .ok (.ireturn, 1) := by decide +kernel
theorem dL_law_952 : decode cL_law 952 = .ok (.iinc 3 7, 3) := by decide +kernel
theorem dL_law_955 : decode cL_law 955 = .ok (.goto (-937), 3) := by decide +kernel
theorem dL_law_958 : decode cL_law 958 = .ok (.iconst 1, 1) := by decide +kernel
theorem dL_law_959 : decode cL_law 959 = .ok (.ireturn, 1) := by decide +kernel
end
section
/-! THE MINI MACHINE: the system's cells behind both constructors never change their shape: numbers alone change. A store says the numbers (cell, place); MWF says of a method's frame over a store what W says over the heap. -/
/-- the tables' words that a callee may be given -/
def tbG : List Cond := lw_tbl.filter goodWord
theorem tb_in (i : Nat) {w : Cond} (h : lw_tbl[i]? = some w) (g : goodWord w = true) : w ∈ tbG := List.mem_filter.mpr ⟨List.mem_of_getElem? h, g⟩
def va_AOA (ty : FieldType) (U : State) : Prop := (Cond.arrayOver (.array ty)).before #[] U = true
abbrev MV : Type := Int ⊕ Nat
abbrev vI (z : Int) : MV := Sum.inl z
abbrev vR (k : Nat) : MV := Sum.inr k
abbrev Sto : Type := Nat → Nat → Int
abbrev Sh : Type := Nat ⊕ ((Nat × List Nat) ⊕ (Nat × List (Option Nat)))
def cv (ad : Nat → Nat) (v : MV) : Value := match v with
  | .inl z => .int (Int32.ofInt z)
  | .inr k => .ref (ad k)
def cvp (ad : Nat → Nat) (q : Nat × MV) : Nat × Value := (q.1, cv ad q.2)
def okV (v : MV) : Prop := match v with
  | .inl z => -2147483648 ≤ z ∧ z ≤ 2147483647
  | .inr _ => True
def okL (l : List MV) : Prop := ∀ v ∈ l, okV v
def okS (σ : Sto) : Prop := ∀ k i, -2147483648 ≤ σ k i ∧ σ k i ≤ 2147483647
theorem okL_cons {v : MV} {l : List MV} (h : okV v) (hl : okL l) : okL (v :: l) := fun w hw => by
  rcases List.mem_cons.mp hw with rfl | hw
  · exact h
  · exact hl w hw
theorem okL_I {z : Int} {l : List MV} (h : -2147483648 ≤ z ∧ z ≤ 2147483647) (hl : okL l) : okL (vI z :: l) := okL_cons (v := vI z) h hl
theorem okL_R {k : Nat} {l : List MV} (hl : okL l) : okL (vR k :: l) := okL_cons (v := vR k) trivial hl
theorem okL_hd {v : MV} {l : List MV} (h : okL (v :: l)) : okV v := h v List.mem_cons_self
theorem okL_tl {v : MV} {l : List MV} (h : okL (v :: l)) : okL l := fun w hw => h w (List.mem_cons_of_mem _ hw)
theorem okL_nil : okL [] := fun _ h => by cases h
theorem okL_get {ls : List (Nat × MV)} (h : okL (ls.map (·.2))) {j i : Nat} {v : MV} (hj : ls[j]? = some (i, v)) : okV v :=
  h v (List.mem_map.mpr ⟨(i, v), List.mem_of_getElem? hj, rfl⟩)
def stS (σ : Sto) (k i : Nat) (x : Int) : Sto := fun k' i' => if k' = k ∧ i' = i then x else σ k' i'
def cpS (σ : Sto) (a b n : Nat) : Sto := fun k i => if k = b ∧ i < n then σ a i else σ k i
theorem okS_st {σ : Sto} (h : okS σ) {k i : Nat} {x : Int} (hx : okV (vI x)) : okS (stS σ k i x) := fun k' i' => by
  unfold stS
  split
  · exact hx
  · exact h k' i'
theorem okS_cp {σ : Sto} (h : okS σ) {a b n : Nat} : okS (cpS σ a b n) := fun k i => by
  unfold cpS
  split
  · exact h a i
  · exact h k i
def cF (ad : Nat → Nat) (f : Nat → Int) : Nat → List (Option Nat) → List Value
  | _, [] => []
  | j, none :: t => .int (Int32.ofInt (f j)) :: cF ad f (j + 1) t
  | j, some r :: t => .ref (ad r) :: cF ad f (j + 1) t
def cFv (ad : Nat → Nat) (f : Nat → Int) (j : Nat) (o : Option Nat) : Value := match o with
  | none => .int (Int32.ofInt (f j))
  | some r => .ref (ad r)
theorem cF_get (ad : Nat → Nat) (f : Nat → Int) : ∀ (fs : List (Option Nat)) (j0 j : Nat), (cF ad f j0 fs)[j]? = (fs[j]?).map (cFv ad f (j0 + j))
  | [], j0, j => by simp [cF]
  | none :: t, j0, 0 => by simp [cF, cFv]
  | some r :: t, j0, 0 => by simp [cF, cFv]
  | none :: t, j0, j + 1 => by
    rw [cF, List.getElem?_cons_succ, List.getElem?_cons_succ, cF_get ad f t (j0 + 1) j, show j0 + 1 + j = j0 + (j + 1) by omega]
  | some r :: t, j0, j + 1 => by
    rw [cF, List.getElem?_cons_succ, List.getElem?_cons_succ, cF_get ad f t (j0 + 1) j, show j0 + 1 + j = j0 + (j + 1) by omega]
theorem cF_len (ad : Nat → Nat) (f : Nat → Int) : ∀ (fs : List (Option Nat)) (j0 : Nat), (cF ad f j0 fs).length = fs.length
  | [], j0 => rfl
  | none :: t, j0 => by rw [cF, List.length_cons, List.length_cons, cF_len ad f t (j0 + 1)]
  | some r :: t, j0 => by rw [cF, List.length_cons, List.length_cons, cF_len ad f t (j0 + 1)]
theorem cF_set (ad : Nat → Nat) (f g : Nat → Int) (fs : List (Option Nat)) (j : Nat) (h : fs[j]? = some none) (ho : ∀ i, i ≠ j → g i = f i) : (cF ad f 0 fs).set j (.int (Int32.ofInt (g j))) = cF ad g 0 fs := by
  apply List.ext_getElem?
  intro i
  by_cases hi : i = j
  · subst hi
    have hl : i < (cF ad f 0 fs).length := by rw [cF_len]; exact (List.getElem?_eq_some_iff.mp h).1
    rw [List.getElem?_set_self hl, cF_get, h, Nat.zero_add]
    rfl
  · rw [List.getElem?_set_ne (Ne.symm hi), cF_get, cF_get, Nat.zero_add]
    cases fs[i]? with
    | none => rfl
    | some o =>
      cases o with
      | none => show some (Value.int _) = some (Value.int _); rw [ho i hi]
      | some r => rfl
def cE (ad : Nat → Nat) (cA : Nat → ClassId) (f : Nat → Int) (x : Sh) : va_E := match x with
  | .inl n => .inl (cA 0, n, .inl (fun j => Int32.ofInt (f j)))
  | .inr (.inl (t, l)) => .inl (cA t, l.length, .inr (.inr (.inr (.inr (fun j => (l[j]?).map ad)))))
  | .inr (.inr (ci, fs)) => .inr (ci, cF ad f 0 fs)
def shL : List Sh := [.inr (.inr (7, [some 1, some 74, some 53, some 40, some 50, some 52])), .inr (.inr (4, [none, none, none, some 2, some 3, some 4, some 5, some 6, some 7, some 8, some 9, some 10, some 11])), .inl 4, .inl 4, .inl 4, .inl 12,
  .inl 24, .inl 24, .inl 24, .inl 28, .inl 28, .inr (.inl (3, [12, 13, 14, 15, 16, 17, 18, 19, 20, 21, 22, 23, 24, 25, 26, 27, 28, 29, 30, 31, 32, 33, 34, 35, 36, 37, 38, 39])),
  .inl 28, .inl 28, .inl 28, .inl 28, .inl 28, .inl 28,
  .inl 28, .inl 28, .inl 28, .inl 28, .inl 28, .inl 28,
  .inl 28, .inl 28, .inl 28, .inl 28, .inl 28, .inl 28,
  .inl 28, .inl 28, .inl 28, .inl 28, .inl 28, .inl 28,
  .inl 28, .inl 28, .inl 28, .inl 28, .inr (.inr (6, [some 41, some 42, some 43, some 44, none, some 1, some 45, some 46, some 47, some 48, some 49, none, none])), .inl 24,
  .inl 24, .inl 24, .inl 25, .inl 24, .inl 24, .inl 24,
  .inl 24, .inl 24, .inr (.inr (1, [none, none, none, none, none, some 1, some 40, some 51])), .inr (.inr (5, [none, none, none, some 55])), .inr (.inr (2, [none, none, none, none, some 85, some 1, some 50, some 96, some 107, none])), .inr (.inr (0, [none, none, some 54])),
  .inr (.inl (2, [118, 129, 140, 151, 162, 173, 184, 195, 206, 217])), .inl 24, .inr (.inr (8, [none, none, some 57, some 58, some 59, some 60, some 61, none, some 62, some 63, some 64, some 65, some 66, some 67, some 68, none, some 69, some 70, some 71, none, none, none, none, some 72, some 73, none, none, none])), .inl 4, .inl 4, .inl 4,
  .inl 4, .inl 4, .inl 24, .inl 24, .inl 24, .inl 24,
  .inl 12, .inl 12, .inl 100, .inl 26, .inl 26, .inl 26,
  .inl 1000, .inl 100, .inr (.inr (3, [some 75, some 76])), .inr (.inl (1, [77, 78, 79, 80])), .inl 12, .inr (.inr (5, [none, none, none, some 81])),
  .inr (.inr (5, [none, none, none, some 82])), .inr (.inr (5, [none, none, none, some 83])), .inr (.inr (5, [none, none, none, some 84])), .inl 24, .inl 24, .inl 24,
  .inl 24, .inr (.inr (3, [some 86, some 87])), .inr (.inl (1, [88, 89, 90, 91])), .inl 12, .inr (.inr (5, [none, none, none, some 92])), .inr (.inr (5, [none, none, none, some 93])),
  .inr (.inr (5, [none, none, none, some 94])), .inr (.inr (5, [none, none, none, some 95])), .inl 24, .inl 24, .inl 24, .inl 24,
  .inr (.inr (3, [some 97, some 98])), .inr (.inl (1, [99, 100, 101, 102])), .inl 12, .inr (.inr (5, [none, none, none, some 103])), .inr (.inr (5, [none, none, none, some 104])), .inr (.inr (5, [none, none, none, some 105])),
  .inr (.inr (5, [none, none, none, some 106])), .inl 24, .inl 24, .inl 24, .inl 24, .inr (.inr (3, [some 108, some 109])),
  .inr (.inl (1, [110, 111, 112, 113])), .inl 12, .inr (.inr (5, [none, none, none, some 114])), .inr (.inr (5, [none, none, none, some 115])), .inr (.inr (5, [none, none, none, some 116])), .inr (.inr (5, [none, none, none, some 117])),
  .inl 24, .inl 24, .inl 24, .inl 24, .inr (.inr (3, [some 119, some 120])), .inr (.inl (1, [121, 122, 123, 124])),
  .inl 12, .inr (.inr (5, [none, none, none, some 125])), .inr (.inr (5, [none, none, none, some 126])), .inr (.inr (5, [none, none, none, some 127])), .inr (.inr (5, [none, none, none, some 128])), .inl 24,
  .inl 24, .inl 24, .inl 24, .inr (.inr (3, [some 130, some 131])), .inr (.inl (1, [132, 133, 134, 135])), .inl 12,
  .inr (.inr (5, [none, none, none, some 136])), .inr (.inr (5, [none, none, none, some 137])), .inr (.inr (5, [none, none, none, some 138])), .inr (.inr (5, [none, none, none, some 139])), .inl 24, .inl 24,
  .inl 24, .inl 24, .inr (.inr (3, [some 141, some 142])), .inr (.inl (1, [143, 144, 145, 146])), .inl 12, .inr (.inr (5, [none, none, none, some 147])),
  .inr (.inr (5, [none, none, none, some 148])), .inr (.inr (5, [none, none, none, some 149])), .inr (.inr (5, [none, none, none, some 150])), .inl 24, .inl 24, .inl 24,
  .inl 24, .inr (.inr (3, [some 152, some 153])), .inr (.inl (1, [154, 155, 156, 157])), .inl 12, .inr (.inr (5, [none, none, none, some 158])), .inr (.inr (5, [none, none, none, some 159])),
  .inr (.inr (5, [none, none, none, some 160])), .inr (.inr (5, [none, none, none, some 161])), .inl 24, .inl 24, .inl 24, .inl 24,
  .inr (.inr (3, [some 163, some 164])), .inr (.inl (1, [165, 166, 167, 168])), .inl 12, .inr (.inr (5, [none, none, none, some 169])), .inr (.inr (5, [none, none, none, some 170])), .inr (.inr (5, [none, none, none, some 171])),
  .inr (.inr (5, [none, none, none, some 172])), .inl 24, .inl 24, .inl 24, .inl 24, .inr (.inr (3, [some 174, some 175])),
  .inr (.inl (1, [176, 177, 178, 179])), .inl 12, .inr (.inr (5, [none, none, none, some 180])), .inr (.inr (5, [none, none, none, some 181])), .inr (.inr (5, [none, none, none, some 182])), .inr (.inr (5, [none, none, none, some 183])),
  .inl 24, .inl 24, .inl 24, .inl 24, .inr (.inr (3, [some 185, some 186])), .inr (.inl (1, [187, 188, 189, 190])),
  .inl 12, .inr (.inr (5, [none, none, none, some 191])), .inr (.inr (5, [none, none, none, some 192])), .inr (.inr (5, [none, none, none, some 193])), .inr (.inr (5, [none, none, none, some 194])), .inl 24,
  .inl 24, .inl 24, .inl 24, .inr (.inr (3, [some 196, some 197])), .inr (.inl (1, [198, 199, 200, 201])), .inl 12,
  .inr (.inr (5, [none, none, none, some 202])), .inr (.inr (5, [none, none, none, some 203])), .inr (.inr (5, [none, none, none, some 204])), .inr (.inr (5, [none, none, none, some 205])), .inl 24, .inl 24,
  .inl 24, .inl 24, .inr (.inr (3, [some 207, some 208])), .inr (.inl (1, [209, 210, 211, 212])), .inl 12, .inr (.inr (5, [none, none, none, some 213])),
  .inr (.inr (5, [none, none, none, some 214])), .inr (.inr (5, [none, none, none, some 215])), .inr (.inr (5, [none, none, none, some 216])), .inl 24, .inl 24, .inl 24,
  .inl 24, .inr (.inr (3, [some 218, some 219])), .inr (.inl (1, [220, 221, 222, 223])), .inl 12, .inr (.inr (5, [none, none, none, some 224])), .inr (.inr (5, [none, none, none, some 225])),
  .inr (.inr (5, [none, none, none, some 226])), .inr (.inr (5, [none, none, none, some 227])), .inl 24, .inl 24, .inl 24, .inl 24]
def NC : Nat := 228
def shN : Sh := .inr (.inl (99, []))
def shp (k : Nat) : Sh := shL.getD k shN
theorem shp_lt {k : Nat} {x : Sh} (h : shp k = x) (hx : x ≠ shN) : k < NC := by
  by_cases hk : k < NC
  · exact hk
  · exfalso
    apply hx
    rw [← h]
    unfold shp
    rw [List.getD_eq_getElem?_getD, List.getElem?_eq_none (by rw [show shL.length = 228 from by decide +kernel]; unfold NC at hk; omega)]
    rfl
theorem shp_lt_a {k n : Nat} (h : shp k = .inl n) : k < NC := shp_lt h (by intro q; cases q)
theorem shp_lt_o {k ci : Nat} {fs : List (Option Nat)} (h : shp k = .inr (.inr (ci, fs))) : k < NC := shp_lt h (by intro q; cases q)
theorem shp_lt_r {k t : Nat} {l : List Nat} (h : shp k = .inr (.inl (t, l))) (hl : l ≠ []) : k < NC := shp_lt h (by intro q; cases q; exact hl rfl)
/-- dC, dI, the cells' addresses, the array classes (int, Route, Plan, int[]) -/
abbrev GT : Type := (Nat → ClassId) × (Nat → Nat → Nat) × (Nat → Nat) × (Nat → ClassId)
/-- a method: name, code, locals, what it returns, its room's frames and locals -/
abbrev MI : Type := MethodName × ByteArray × Nat × Option FieldType × Nat × Nat
abbrev FT : Type := Program → Env → Room → State → MethodId → Array Value → List Frame → Method → Code → (Nat → Prop) → Heap → Nat → Nat → (State → Prop) → Prop
def wsC (G : GT) (σ : Sto) : va_W := (List.range NC).map (fun k => (G.2.2.1 k, cE G.2.2.1 G.2.2.2 (σ k) (shp k)))
def tyC (G : GT) : List (ClassId × FieldType) := [(G.2.2.2 0, .int), (G.2.2.2 1, .object "SharedRides$Route"), (G.2.2.2 2, .object "SharedRides$Plan"), (G.2.2.2 3, .array .int)]
def AC (G : GT) : Nat → Prop := fun q => ∃ k, k < NC ∧ q = G.2.2.1 k
theorem wsC_get (G : GT) (σ : Sto) {k : Nat} (h : k < NC) : (wsC G σ)[k]? = some (G.2.2.1 k, cE G.2.2.1 G.2.2.2 (σ k) (shp k)) := by
  unfold wsC
  rw [List.getElem?_map, List.getElem?_range h]
  rfl
theorem wsC_len (G : GT) (σ : Sto) : (wsC G σ).length = NC := by simp [wsC]
theorem wsC_inv (G : GT) (σ : Sto) {k : Nat} {q : Nat × va_E} (h : (wsC G σ)[k]? = some q) : k < NC ∧ q.1 = G.2.2.1 k := by
  have hk : k < NC := by
    have := (List.getElem?_eq_some_iff.mp h).1
    rwa [wsC_len] at this
  rw [wsC_get G σ hk] at h
  cases h
  exact ⟨hk, rfl⟩
theorem wsC_set (G : GT) (σ σ' : Sto) {k : Nat} (h : k < NC) (ho : ∀ k', k' ≠ k → σ' k' = σ k') : (wsC G σ).set k (G.2.2.1 k, cE G.2.2.1 G.2.2.2 (σ' k) (shp k)) = wsC G σ' := by
  apply List.ext_getElem?
  intro i
  by_cases hi : i = k
  · subst hi
    rw [List.getElem?_set_self (by rw [wsC_len]; exact h), wsC_get G σ' h]
  · rw [List.getElem?_set_ne (Ne.symm hi)]
    by_cases hl : i < NC
    · rw [wsC_get G σ hl, wsC_get G σ' hl, ho i hi]
    · rw [List.getElem?_eq_none (by rw [wsC_len]; omega), List.getElem?_eq_none (by rw [wsC_len]; omega)]
theorem wsC_D {G : GT} {A : Nat → Prop} {σ : Sto} (σ' : Sto) (h : va_D A (wsC G σ)) : va_D A (wsC G σ') := by
  have key : ∀ {k : Nat} {q : Nat × va_E}, (wsC G σ')[k]? = some q → (wsC G σ)[k]? = some (q.1, cE G.2.2.1 G.2.2.2 (σ k) (shp k)) := by
    intro k q hk
    obtain ⟨h1, h2⟩ := wsC_inv G σ' hk
    rw [wsC_get G σ h1, h2]
  exact ⟨fun i j x y hi hj hxy => h.1 i j _ _ (key hi) (key hj) hxy, fun k q hk => h.2 k (q.1, cE G.2.2.1 G.2.2.2 (σ k) (shp k)) (key hk)⟩
theorem wsC_A {G : GT} {A : Nat → Prop} {σ : Sto} (h : va_D A (wsC G σ)) : ∀ q, AC G q → A q := by
  rintro q ⟨k, hk, rfl⟩
  exact h.2 k _ (wsC_get G σ hk)
theorem wsC_self {G : GT} {A : Nat → Prop} {σ : Sto} (h : va_D A (wsC G σ)) : va_D (AC G) (wsC G σ) :=
  ⟨h.1, fun k q hk => by obtain ⟨h1, h2⟩ := wsC_inv G σ hk; exact ⟨k, h1, h2⟩⟩
def σ0 : Sto := fun _ _ => 0
def CX (G : GT) (M : MI) (p : Program) (R : Room) (s : State) (m : MethodId) (args : Array Value) (c : Code) (A : Nat → Prop) (cells slots : Nat) : Prop :=
  p.tables.exec = Jvm.exec ∧ c.code = M.2.1 ∧ c.maxLocals = M.2.2.1 ∧ s.vm.findClass M.1.cls = some m.cls ∧ (∀ w ∈ tbG, w.before args s = true) ∧ va_K (G.1, G.2.1) vwCl (tyC G) s ∧ va_D A (wsC G σ0) ∧ M.2.2.2.2.1 ≤ R.frames ∧ M.2.2.2.2.2 ≤ R.locals ∧ cells ≤ R.cells ∧ slots ≤ R.slots
def MWF (l : Launch) (G : GT) (M : MI) (F : FT) (pc : Nat) (ls : List (Nat × MV)) (st : List MV) (σ : Sto) : Prop :=
  okS σ → okL (ls.map (·.2)) → okL st → ∀ (p : Program) (e : Env) (R : Room) (s : State) (m : MethodId) (args : Array Value) (below : List Frame) (meth : Method) (c : Code) (A : Nat → Prop) (H0 : Heap) (cells slots : Nat) (Qf : State → Prop),
    F p e R s m args below meth c A H0 cells slots Qf → CX G M p R s m args c A cells slots → ∀ (H : Heap) (locs : List Loc) (lsA : Array Slot), va_P (G.1, G.2.1) vwCl (wsC G σ) H → va_S A H0 H locs → lv_has lsA M.2.2.1 (ls.map (cvp G.2.2.1)) →
      W p l e R s m args below meth c H locs cells slots Qf (F0 m pc lsA (st.map (cv G.2.2.1)))
section MROWS
variable {l : Launch} {G : GT} {M : MI} {F : FT} {pc : Nat} {ls : List (Nat × MV)} {st : List MV} {σ : Sto}
theorem MWF.go {pc' : Nat} {st' : List MV} (hok : okL (ls.map (·.2)) → okL st → okL st')
    (hw : ∀ {p : Program} {e : Env} {R : Room} {s : State} {m : MethodId} {args : Array Value} {below : List Frame} {meth : Method} {c : Code} {H : Heap} {locs : List Loc} {cells slots : Nat} {Qf : State → Prop} {lsA : Array Slot},
      okL st → p.tables.exec = Jvm.exec → c.code = M.2.1 → lv_has lsA M.2.2.1 (ls.map (cvp G.2.2.1)) → s.vm.findClass M.1.cls = some m.cls → (∀ w ∈ tbG, w.before args s = true) →
      W p l e R s m args below meth c H locs cells slots Qf (F0 m pc' lsA (st'.map (cv G.2.2.1))) → W p l e R s m args below meth c H locs cells slots Qf (F0 m pc lsA (st.map (cv G.2.2.1))))
    (k : MWF l G M F pc' ls st' σ) : MWF l G M F pc ls st σ := by
  intro hσ hl hs p e R s m args below meth c A H0 cells slots Qf hF hC H locs lsA hP hS hls
  exact hw hs hC.1 hC.2.1 hls hC.2.2.2.1 hC.2.2.2.2.1 (k hσ hl (hok hl hs) p e R s m args below meth c A H0 cells slots Qf hF hC H locs lsA hP hS hls)
theorem r_iconst {n : Int} (hd : decode M.2.1 pc = .ok (.iconst n, 1)) (hn : -2147483648 ≤ n ∧ n ≤ 2147483647) (k : MWF l G M F (pc + 1) ls (vI n :: st) σ) : MWF l G M F pc ls st σ :=
  MWF.go (fun _ h => okL_I hn h) (fun _ hx hb _ _ _ k => lv_iconst hx hb hd rfl k) k
theorem r_bipush {n : Int} (hd : decode M.2.1 pc = .ok (.bipush n, 2)) (hv : (Int8.ofInt n).toInt32 = Int32.ofInt n) (hn : -2147483648 ≤ n ∧ n ≤ 2147483647) (k : MWF l G M F (pc + 2) ls (vI n :: st) σ) : MWF l G M F pc ls st σ :=
  MWF.go (fun _ h => okL_I hn h) (fun _ hx hb _ _ _ k => lv_bipush hx hb hd hv k) k
theorem r_sipush {n : Int} (hd : decode M.2.1 pc = .ok (.sipush n, 3)) (hv : (Int16.ofInt n).toInt32 = Int32.ofInt n) (hn : -2147483648 ≤ n ∧ n ≤ 2147483647) (k : MWF l G M F (pc + 3) ls (vI n :: st) σ) : MWF l G M F pc ls st σ :=
  MWF.go (fun _ h => okL_I hn h) (fun _ hx hb _ _ _ k => lv_sipush hx hb hd hv k) k
theorem r_ldc {idx : Nat} {n : Int} (hd : decode M.2.1 pc = .ok (.ldc idx, 2)) (hw : Cond.constant M.1.cls idx (Int32.ofInt n) ∈ tbG) (hn : -2147483648 ≤ n ∧ n ≤ 2147483647) (k : MWF l G M F (pc + 2) ls (vI n :: st) σ) : MWF l G M F pc ls st σ :=
  MWF.go (fun _ h => okL_I hn h) (fun _ hx hb _ hown hts k => lv_ldc hx hb hown (hts _ hw) hd k) k
theorem ls_at {lsA : Array Slot} {ad : Nat → Nat} {nL : Nat} (h : lv_has lsA nL (ls.map (cvp ad))) {j i : Nat} {v : MV} (hj : ls[j]? = some (i, v)) : lsA[i]? = some (.val (cv ad v)) :=
  lv_at h j (by rw [List.getElem?_map, hj]; rfl)
theorem r_iload_n {k : Fin 4} {i : Nat} {x : Int} (j : Nat) (hd : decode M.2.1 pc = .ok (.iload_n k, 1)) (hi : (k : Nat) = i) (hj : ls[j]? = some (i, vI x)) (kk : MWF l G M F (pc + 1) ls (vI x :: st) σ) : MWF l G M F pc ls st σ :=
  MWF.go (fun hl h => okL_cons (okL_get hl hj) h) (fun _ hx hb hls _ _ k => lv_iload_n hx hb hd hi (ls_at hls hj) k) kk
theorem r_iload {i : Nat} {x : Int} (j : Nat) (hd : decode M.2.1 pc = .ok (.iload i, 2)) (hj : ls[j]? = some (i, vI x)) (kk : MWF l G M F (pc + 2) ls (vI x :: st) σ) : MWF l G M F pc ls st σ :=
  MWF.go (fun hl h => okL_cons (okL_get hl hj) h) (fun _ hx hb hls _ _ k => lv_iload hx hb hd (ls_at hls hj) k) kk
theorem r_aload_n {k : Fin 4} {i : Nat} {x : Nat} (j : Nat) (hd : decode M.2.1 pc = .ok (.aload_n k, 1)) (hi : (k : Nat) = i) (hj : ls[j]? = some (i, vR x)) (kk : MWF l G M F (pc + 1) ls (vR x :: st) σ) : MWF l G M F pc ls st σ :=
  MWF.go (fun hl h => okL_R h) (fun _ hx hb hls _ _ k => lv_aload_n hx hb hd hi (ls_at hls hj) k) kk
theorem r_aload {i : Nat} {x : Nat} (j : Nat) (hd : decode M.2.1 pc = .ok (.aload i, 2)) (hj : ls[j]? = some (i, vR x)) (kk : MWF l G M F (pc + 2) ls (vR x :: st) σ) : MWF l G M F pc ls st σ :=
  MWF.go (fun hl h => okL_R h) (fun _ hx hb hls _ _ k => lv_aload hx hb hd (ls_at hls hj) k) kk
theorem cv_cat (ad : Nat → Nat) (v : MV) : (cv ad v).category = 1 := by
  cases v <;> rfl
theorem flt (ad : Nat → Nat) (i : Nat) : ∀ ls : List (Nat × MV), (ls.map (cvp ad)).filter (fun q => !(q.1 == i) && !(q.1 + 1 == i && q.2.category == 2)) = (ls.filter (fun q => !(q.1 == i))).map (cvp ad)
  | [] => rfl
  | q :: t => by
    have h2 : (!((cvp ad q).1 == i) && !((cvp ad q).1 + 1 == i && (cvp ad q).2.category == 2)) = !(q.1 == i) := by
      show (!(q.1 == i) && !(q.1 + 1 == i && (cv ad q.2).category == 2)) = !(q.1 == i)
      rw [cv_cat]
      simp
    rw [List.map_cons, List.filter_cons, List.filter_cons, h2, flt ad i t]
    cases (!(q.1 == i)) <;> rfl
theorem okL_flt {i : Nat} {v : MV} (hv : okV v) (h : okL (ls.map (·.2))) : okL ((((i, v) :: ls.filter (fun q => !(q.1 == i)))).map (·.2)) := by
  intro w hw
  obtain ⟨q, hq, rfl⟩ := List.mem_map.mp hw
  rcases List.mem_cons.mp hq with rfl | hq
  · exact hv
  · exact h _ (List.mem_map.mpr ⟨q, (List.mem_filter.mp hq).1, rfl⟩)
theorem r_istore_n {k : Fin 4} {i : Nat} {x : Int} {ls' : List (Nat × MV)} (hd : decode M.2.1 pc = .ok (.istore_n k, 1)) (hi : (k : Nat) = i) (hn : i < M.2.2.1) (hl' : (i, vI x) :: ls.filter (fun q => !(q.1 == i)) = ls') (kk : MWF l G M F (pc + 1) ls' st σ) : MWF l G M F pc ls (vI x :: st) σ := by
  subst hl'
  intro hσ hl hs p e R s m args below meth c A H0 cells slots Qf hF hC H locs lsA hP hS hls
  exact lv_istore_n hC.1 hC.2.1 hd hi hls hn (lv' := ((i, vI x) :: ls.filter (fun q => !(q.1 == i))).map (cvp G.2.2.1)) (by rw [flt]; rfl) (fun ls2 h2 => kk hσ (okL_flt (okL_hd hs) hl) (okL_tl hs) p e R s m args below meth c A H0 cells slots Qf hF hC H locs ls2 hP hS h2)
theorem r_istore {i : Nat} {x : Int} {ls' : List (Nat × MV)} (hd : decode M.2.1 pc = .ok (.istore i, 2)) (hn : i < M.2.2.1) (hl' : (i, vI x) :: ls.filter (fun q => !(q.1 == i)) = ls') (kk : MWF l G M F (pc + 2) ls' st σ) : MWF l G M F pc ls (vI x :: st) σ := by
  subst hl'
  intro hσ hl hs p e R s m args below meth c A H0 cells slots Qf hF hC H locs lsA hP hS hls
  exact lv_istore hC.1 hC.2.1 hd hls hn (lv' := ((i, vI x) :: ls.filter (fun q => !(q.1 == i))).map (cvp G.2.2.1)) (by rw [flt]; rfl) (fun ls2 h2 => kk hσ (okL_flt (okL_hd hs) hl) (okL_tl hs) p e R s m args below meth c A H0 cells slots Qf hF hC H locs ls2 hP hS h2)
theorem r_astore_n {k : Fin 4} {i : Nat} {x : Nat} {ls' : List (Nat × MV)} (hd : decode M.2.1 pc = .ok (.astore_n k, 1)) (hi : (k : Nat) = i) (hn : i < M.2.2.1) (hl' : (i, vR x) :: ls.filter (fun q => !(q.1 == i)) = ls') (kk : MWF l G M F (pc + 1) ls' st σ) : MWF l G M F pc ls (vR x :: st) σ := by
  subst hl'
  intro hσ hl hs p e R s m args below meth c A H0 cells slots Qf hF hC H locs lsA hP hS hls
  exact lv_astore_n hC.1 hC.2.1 hd hi hls hn (lv' := ((i, vR x) :: ls.filter (fun q => !(q.1 == i))).map (cvp G.2.2.1)) (by rw [flt]; rfl) (fun ls2 h2 => kk hσ (okL_flt (okL_hd hs) hl) (okL_tl hs) p e R s m args below meth c A H0 cells slots Qf hF hC H locs ls2 hP hS h2)
theorem r_astore {i : Nat} {x : Nat} {ls' : List (Nat × MV)} (hd : decode M.2.1 pc = .ok (.astore i, 2)) (hn : i < M.2.2.1) (hl' : (i, vR x) :: ls.filter (fun q => !(q.1 == i)) = ls') (kk : MWF l G M F (pc + 2) ls' st σ) : MWF l G M F pc ls (vR x :: st) σ := by
  subst hl'
  intro hσ hl hs p e R s m args below meth c A H0 cells slots Qf hF hC H locs lsA hP hS hls
  exact lv_astore hC.1 hC.2.1 hd hls hn (lv' := ((i, vR x) :: ls.filter (fun q => !(q.1 == i))).map (cvp G.2.2.1)) (by rw [flt]; rfl) (fun ls2 h2 => kk hσ (okL_flt (okL_hd hs) hl) (okL_tl hs) p e R s m args below meth c A H0 cells slots Qf hF hC H locs ls2 hP hS h2)
theorem r_iinc {i : Nat} {n x : Int} {ls' : List (Nat × MV)} (j : Nat) (hd : decode M.2.1 pc = .ok (.iinc i n, 3)) (hj : ls[j]? = some (i, vI x)) (hn : i < M.2.2.1) (hr : -2147483648 ≤ x + n ∧ x + n ≤ 2147483647) (hl' : (i, vI (x + n)) :: ls.filter (fun q => !(q.1 == i)) = ls') (kk : MWF l G M F (pc + 3) ls' st σ) : MWF l G M F pc ls st σ := by
  subst hl'
  intro hσ hl hs p e R s m args below meth c A H0 cells slots Qf hF hC H locs lsA hP hS hls
  exact lv_iinc hC.1 hC.2.1 hd hls (k := j) (x := Int32.ofInt x) (v := Int32.ofInt (x + n)) (by rw [List.getElem?_map, hj]; rfl) (Int32.ofInt_add x n).symm hn (lv' := ((i, vI (x + n)) :: ls.filter (fun q => !(q.1 == i))).map (cvp G.2.2.1)) (by rw [flt]; rfl) (fun ls2 h2 => kk hσ (okL_flt hr hl) hs p e R s m args below meth c A H0 cells slots Qf hF hC H locs ls2 hP hS h2)
theorem r_iadd {x y : Int} (hd : decode M.2.1 pc = .ok (.iadd, 1)) (hr : -2147483648 ≤ x + y ∧ x + y ≤ 2147483647) (kk : MWF l G M F (pc + 1) ls (vI (x + y) :: st) σ) : MWF l G M F pc ls (vI y :: vI x :: st) σ :=
  MWF.go (fun _ h => okL_I hr (okL_tl (okL_tl h))) (fun _ hx hb _ _ _ k => lv_iadd hx hb hd (by rw [← Int32.ofInt_add]; exact k)) kk
theorem r_isub {x y : Int} (hd : decode M.2.1 pc = .ok (.isub, 1)) (hr : -2147483648 ≤ x - y ∧ x - y ≤ 2147483647) (kk : MWF l G M F (pc + 1) ls (vI (x - y) :: st) σ) : MWF l G M F pc ls (vI y :: vI x :: st) σ :=
  MWF.go (fun _ h => okL_I hr (okL_tl (okL_tl h))) (fun _ hx hb _ _ _ k => lv_isub hx hb hd (by rw [← Int32.ofInt_sub]; exact k)) kk
theorem r_imul {x y : Int} (hd : decode M.2.1 pc = .ok (.imul, 1)) (hr : -2147483648 ≤ x * y ∧ x * y ≤ 2147483647) (kk : MWF l G M F (pc + 1) ls (vI (x * y) :: st) σ) : MWF l G M F pc ls (vI y :: vI x :: st) σ :=
  MWF.go (fun _ h => okL_I hr (okL_tl (okL_tl h))) (fun _ hx hb _ _ _ k => lv_imul hx hb hd (by rw [← Int32.ofInt_mul]; exact k)) kk
theorem r_ineg {x : Int} (hd : decode M.2.1 pc = .ok (.ineg, 1)) (hr : -2147483648 ≤ -x ∧ -x ≤ 2147483647) (kk : MWF l G M F (pc + 1) ls (vI (-x) :: st) σ) : MWF l G M F pc ls (vI x :: st) σ :=
  MWF.go (fun _ h => okL_I hr (okL_tl h)) (fun _ hx hb _ _ _ k => lv_ineg hx hb hd (by rw [← Int32.ofInt_neg]; exact k)) kk
theorem oI_T {x : Int} (h : -2147483648 ≤ x ∧ x ≤ 2147483647) : (Int32.ofInt x).toInt = x := Int32.toInt_ofInt_of_le (by omega) (by omega)
theorem oI_N {x : Int} (h : -2147483648 ≤ x ∧ x ≤ 2147483647) : (Int32.ofInt x).toNatClampNeg = x.toNat := by rw [← Int32.toNat_toInt, oI_T h]
theorem oI_lt {x y : Int} (hx : okV (vI x)) (hy : okV (vI y)) : Int32.ofInt x < Int32.ofInt y ↔ x < y := by rw [Int32.lt_iff_toInt_lt, oI_T hx, oI_T hy]
theorem oI_le {x y : Int} (hx : okV (vI x)) (hy : okV (vI y)) : Int32.ofInt x ≤ Int32.ofInt y ↔ x ≤ y := by rw [Int32.le_iff_toInt_le, oI_T hx, oI_T hy]
theorem oI_eq {x y : Int} (hx : okV (vI x)) (hy : okV (vI y)) : Int32.ofInt x = Int32.ofInt y ↔ x = y := by rw [← Int32.toInt_inj, oI_T hx, oI_T hy]
theorem ok_0 : okV (vI 0) := ⟨by decide, by decide⟩
theorem oI_0 : (0 : Int32) = Int32.ofInt 0 := by decide
theorem oI_vp {i : Int} {n : Nat} (h : okV (vI i)) (h0 : 0 ≤ i) (hn : i < n) : vp_in (Int32.ofInt i) n := by
  rw [vp_in_iff, oI_T h]; exact ⟨h0, hn⟩
theorem r_idiv {x y : Int} (hd : decode M.2.1 pc = .ok (.idiv, 1)) (h0 : 0 ≤ x) (hy : 0 < y) (kk : MWF l G M F (pc + 1) ls (vI (x / y) :: st) σ) : MWF l G M F pc ls (vI y :: vI x :: st) σ := by
  have e : ∀ (hx' : okV (vI x)) (hy' : okV (vI y)), Int32.ofInt x / Int32.ofInt y = Int32.ofInt (x / y) := fun hx' hy' => by
    rw [← Int.tdiv_eq_ediv_of_nonneg h0]
    exact (Int32.ofInt_tdiv hx'.1 hx'.2 hy'.1 hy'.2).symm
  refine MWF.go (fun _ h => okL_I ?_ (okL_tl (okL_tl h))) (fun hs hx hb _ _ _ k => lv_idiv hx hb hd ?_ (by rw [e (okL_hd (okL_tl hs)) (okL_hd hs)]; exact k)) kk
  · have h1 : okV (vI x) := okL_hd (okL_tl h)
    have h2 : x / y ≤ x := Int.ediv_le_self y h0
    have h3 : 0 ≤ x / y := Int.ediv_nonneg h0 (by omega)
    exact ⟨by omega, by have := h1.2; omega⟩
  · rw [oI_0, oI_eq (okL_hd hs) ok_0]; omega
theorem r_irem {x y : Int} (hd : decode M.2.1 pc = .ok (.irem, 1)) (h0 : 0 ≤ x) (hy : 0 < y) (kk : MWF l G M F (pc + 1) ls (vI (x % y) :: st) σ) : MWF l G M F pc ls (vI y :: vI x :: st) σ := by
  have e : ∀ (hx' : okV (vI x)) (hy' : okV (vI y)), Int32.ofInt x - Int32.ofInt x / Int32.ofInt y * Int32.ofInt y = Int32.ofInt (x % y) := fun hx' hy' => by
    have e1 : Int32.ofInt x / Int32.ofInt y = Int32.ofInt (x / y) := by
      rw [← Int.tdiv_eq_ediv_of_nonneg h0]
      exact (Int32.ofInt_tdiv hx'.1 hx'.2 hy'.1 hy'.2).symm
    rw [e1, ← Int32.ofInt_mul, ← Int32.ofInt_sub, Int.emod_def, Int.mul_comm]
  refine MWF.go (fun _ h => okL_I ?_ (okL_tl (okL_tl h))) (fun hs hx hb _ _ _ k => lv_irem hx hb hd ?_ (by rw [e (okL_hd (okL_tl hs)) (okL_hd hs)]; exact k)) kk
  · have h1 : okV (vI y) := okL_hd h
    have h2 : x % y < y := Int.emod_lt_of_pos x hy
    have h3 : 0 ≤ x % y := Int.emod_nonneg x (by omega)
    exact ⟨by omega, by have := h1.2; omega⟩
  · rw [oI_0, oI_eq (okL_hd hs) ok_0]; omega
theorem r_goto {off : Int} {tgt : Nat} (hd : decode M.2.1 pc = .ok (.goto off, 3)) (ht : (pc : Int) + off = (tgt : Int)) (kk : MWF l G M F tgt ls st σ) : MWF l G M F pc ls st σ :=
  MWF.go (fun _ h => h) (fun _ hx hb _ _ _ k => lv_goto hx hb hd ht k) kk
theorem r_dup {v : MV} (hd : decode M.2.1 pc = .ok (.dup, 1)) (kk : MWF l G M F (pc + 1) ls (v :: v :: st) σ) : MWF l G M F pc ls (v :: st) σ :=
  MWF.go (fun _ h => okL_cons (okL_hd h) h) (fun _ hx hb _ _ _ k => lv_dup hx hb hd (cv_cat _ _) k) kk
theorem r_pop {v : MV} (hd : decode M.2.1 pc = .ok (.pop, 1)) (kk : MWF l G M F (pc + 1) ls st σ) : MWF l G M F pc ls (v :: st) σ :=
  MWF.go (fun _ h => okL_tl h) (fun _ hx hb _ _ _ k => lv_pop hx hb hd (cv_cat _ _) k) kk
theorem MWF.br2 {pt pf : Nat} {st' : List MV} {C : Prop} (hok : okL st → okL st')
    (hw : ∀ {p : Program} {e : Env} {R : Room} {s : State} {m : MethodId} {args : Array Value} {below : List Frame} {meth : Method} {c : Code} {H : Heap} {locs : List Loc} {cells slots : Nat} {Qf : State → Prop} {lsA : Array Slot},
      okL st → p.tables.exec = Jvm.exec → c.code = M.2.1 →
      (C → W p l e R s m args below meth c H locs cells slots Qf (F0 m pt lsA (st'.map (cv G.2.2.1)))) → (¬ C → W p l e R s m args below meth c H locs cells slots Qf (F0 m pf lsA (st'.map (cv G.2.2.1)))) → W p l e R s m args below meth c H locs cells slots Qf (F0 m pc lsA (st.map (cv G.2.2.1))))
    (kt : C → MWF l G M F pt ls st' σ) (kf : ¬ C → MWF l G M F pf ls st' σ) : MWF l G M F pc ls st σ := by
  intro hσ hl hs p e R s m args below meth c A H0 cells slots Qf hF hC H locs lsA hP hS hls
  exact hw hs hC.1 hC.2.1 (fun q => kt q hσ hl (hok hs) p e R s m args below meth c A H0 cells slots Qf hF hC H locs lsA hP hS hls) (fun q => kf q hσ hl (hok hs) p e R s m args below meth c A H0 cells slots Qf hF hC H locs lsA hP hS hls)
theorem r_if_eq {x : Int} {off : Int} {tgt : Nat} (hd : decode M.2.1 pc = .ok (.ifCond .eq off, 3)) (ht : (pc : Int) + off = (tgt : Int)) (kt : x = 0 → MWF l G M F tgt ls st σ) (kf : ¬ x = 0 → MWF l G M F (pc + 3) ls st σ) : MWF l G M F pc ls (vI x :: st) σ :=
  MWF.br2 (C := x = 0) okL_tl (fun hs hx hb kt kf => lv_if_eq hx hb hd ht (fun q => kt (by rw [oI_0, oI_eq (okL_hd hs) ok_0] at q; exact q)) (fun q => kf (by rw [oI_0, oI_eq (okL_hd hs) ok_0] at q; exact q))) kt kf
theorem r_if_ne {x : Int} {off : Int} {tgt : Nat} (hd : decode M.2.1 pc = .ok (.ifCond .ne off, 3)) (ht : (pc : Int) + off = (tgt : Int)) (kt : x = 0 → MWF l G M F (pc + 3) ls st σ) (kf : ¬ x = 0 → MWF l G M F tgt ls st σ) : MWF l G M F pc ls (vI x :: st) σ :=
  MWF.br2 (C := x = 0) okL_tl (fun hs hx hb kt kf => lv_if_ne hx hb hd ht (fun q => kf (by rw [oI_0, oI_eq (okL_hd hs) ok_0] at q; exact q)) (fun q => kt (by rw [oI_0, oI_eq (okL_hd hs) ok_0] at q; exact q))) kt kf
theorem r_if_lt {x : Int} {off : Int} {tgt : Nat} (hd : decode M.2.1 pc = .ok (.ifCond .lt off, 3)) (ht : (pc : Int) + off = (tgt : Int)) (kt : x < 0 → MWF l G M F tgt ls st σ) (kf : ¬ x < 0 → MWF l G M F (pc + 3) ls st σ) : MWF l G M F pc ls (vI x :: st) σ :=
  MWF.br2 (C := x < 0) okL_tl (fun hs hx hb kt kf => lv_if_lt hx hb hd ht (fun q => kt (by rw [oI_0, oI_lt (okL_hd hs) ok_0] at q; exact q)) (fun q => kf (by rw [oI_0, oI_lt (okL_hd hs) ok_0] at q; exact q))) kt kf
theorem r_if_ge {x : Int} {off : Int} {tgt : Nat} (hd : decode M.2.1 pc = .ok (.ifCond .ge off, 3)) (ht : (pc : Int) + off = (tgt : Int)) (kt : 0 ≤ x → MWF l G M F tgt ls st σ) (kf : ¬ 0 ≤ x → MWF l G M F (pc + 3) ls st σ) : MWF l G M F pc ls (vI x :: st) σ :=
  MWF.br2 (C := 0 ≤ x) okL_tl (fun hs hx hb kt kf => lv_if_ge hx hb hd ht (fun q => kt (by rw [oI_0, oI_le ok_0 (okL_hd hs)] at q; exact q)) (fun q => kf (by rw [oI_0, oI_le ok_0 (okL_hd hs)] at q; exact q))) kt kf
theorem r_if_gt {x : Int} {off : Int} {tgt : Nat} (hd : decode M.2.1 pc = .ok (.ifCond .gt off, 3)) (ht : (pc : Int) + off = (tgt : Int)) (kt : 0 < x → MWF l G M F tgt ls st σ) (kf : ¬ 0 < x → MWF l G M F (pc + 3) ls st σ) : MWF l G M F pc ls (vI x :: st) σ :=
  MWF.br2 (C := 0 < x) okL_tl (fun hs hx hb kt kf => lv_if_gt hx hb hd ht (fun q => kt (by rw [oI_0, oI_lt ok_0 (okL_hd hs)] at q; exact q)) (fun q => kf (by rw [oI_0, oI_lt ok_0 (okL_hd hs)] at q; exact q))) kt kf
theorem r_if_le {x : Int} {off : Int} {tgt : Nat} (hd : decode M.2.1 pc = .ok (.ifCond .le off, 3)) (ht : (pc : Int) + off = (tgt : Int)) (kt : x ≤ 0 → MWF l G M F tgt ls st σ) (kf : ¬ x ≤ 0 → MWF l G M F (pc + 3) ls st σ) : MWF l G M F pc ls (vI x :: st) σ :=
  MWF.br2 (C := x ≤ 0) okL_tl (fun hs hx hb kt kf => lv_if_le hx hb hd ht (fun q => kt (by rw [oI_0, oI_le (okL_hd hs) ok_0] at q; exact q)) (fun q => kf (by rw [oI_0, oI_le (okL_hd hs) ok_0] at q; exact q))) kt kf
theorem r_icmp_eq {x y : Int} {off : Int} {tgt : Nat} (hd : decode M.2.1 pc = .ok (.if_icmp .eq off, 3)) (ht : (pc : Int) + off = (tgt : Int)) (kt : x = y → MWF l G M F tgt ls st σ) (kf : ¬ x = y → MWF l G M F (pc + 3) ls st σ) : MWF l G M F pc ls (vI y :: vI x :: st) σ :=
  MWF.br2 (C := x = y) (fun h => okL_tl (okL_tl h)) (fun hs hx hb kt kf => lv_icmp_eq hx hb hd ht (fun q => kt (by rw [oI_eq (okL_hd (okL_tl hs)) (okL_hd hs)] at q; exact q)) (fun q => kf (by rw [oI_eq (okL_hd (okL_tl hs)) (okL_hd hs)] at q; exact q))) kt kf
theorem r_icmp_ne {x y : Int} {off : Int} {tgt : Nat} (hd : decode M.2.1 pc = .ok (.if_icmp .ne off, 3)) (ht : (pc : Int) + off = (tgt : Int)) (kt : x = y → MWF l G M F (pc + 3) ls st σ) (kf : ¬ x = y → MWF l G M F tgt ls st σ) : MWF l G M F pc ls (vI y :: vI x :: st) σ :=
  MWF.br2 (C := x = y) (fun h => okL_tl (okL_tl h)) (fun hs hx hb kt kf => lv_icmp_ne hx hb hd ht (fun q => kf (by rw [oI_eq (okL_hd (okL_tl hs)) (okL_hd hs)] at q; exact q)) (fun q => kt (by rw [oI_eq (okL_hd (okL_tl hs)) (okL_hd hs)] at q; exact q))) kt kf
theorem r_icmp_lt {x y : Int} {off : Int} {tgt : Nat} (hd : decode M.2.1 pc = .ok (.if_icmp .lt off, 3)) (ht : (pc : Int) + off = (tgt : Int)) (kt : x < y → MWF l G M F tgt ls st σ) (kf : ¬ x < y → MWF l G M F (pc + 3) ls st σ) : MWF l G M F pc ls (vI y :: vI x :: st) σ :=
  MWF.br2 (C := x < y) (fun h => okL_tl (okL_tl h)) (fun hs hx hb kt kf => lv_icmp_lt hx hb hd ht (fun q => kt (by rw [oI_lt (okL_hd (okL_tl hs)) (okL_hd hs)] at q; exact q)) (fun q => kf (by rw [oI_lt (okL_hd (okL_tl hs)) (okL_hd hs)] at q; exact q))) kt kf
theorem r_icmp_ge {x y : Int} {off : Int} {tgt : Nat} (hd : decode M.2.1 pc = .ok (.if_icmp .ge off, 3)) (ht : (pc : Int) + off = (tgt : Int)) (kt : y ≤ x → MWF l G M F tgt ls st σ) (kf : ¬ y ≤ x → MWF l G M F (pc + 3) ls st σ) : MWF l G M F pc ls (vI y :: vI x :: st) σ :=
  MWF.br2 (C := y ≤ x) (fun h => okL_tl (okL_tl h)) (fun hs hx hb kt kf => lv_icmp_ge hx hb hd ht (fun q => kt (by rw [oI_le (okL_hd hs) (okL_hd (okL_tl hs))] at q; exact q)) (fun q => kf (by rw [oI_le (okL_hd hs) (okL_hd (okL_tl hs))] at q; exact q))) kt kf
theorem r_icmp_gt {x y : Int} {off : Int} {tgt : Nat} (hd : decode M.2.1 pc = .ok (.if_icmp .gt off, 3)) (ht : (pc : Int) + off = (tgt : Int)) (kt : y < x → MWF l G M F tgt ls st σ) (kf : ¬ y < x → MWF l G M F (pc + 3) ls st σ) : MWF l G M F pc ls (vI y :: vI x :: st) σ :=
  MWF.br2 (C := y < x) (fun h => okL_tl (okL_tl h)) (fun hs hx hb kt kf => lv_icmp_gt hx hb hd ht (fun q => kt (by rw [oI_lt (okL_hd hs) (okL_hd (okL_tl hs))] at q; exact q)) (fun q => kf (by rw [oI_lt (okL_hd hs) (okL_hd (okL_tl hs))] at q; exact q))) kt kf
theorem r_icmp_le {x y : Int} {off : Int} {tgt : Nat} (hd : decode M.2.1 pc = .ok (.if_icmp .le off, 3)) (ht : (pc : Int) + off = (tgt : Int)) (kt : x ≤ y → MWF l G M F tgt ls st σ) (kf : ¬ x ≤ y → MWF l G M F (pc + 3) ls st σ) : MWF l G M F pc ls (vI y :: vI x :: st) σ :=
  MWF.br2 (C := x ≤ y) (fun h => okL_tl (okL_tl h)) (fun hs hx hb kt kf => lv_icmp_le hx hb hd ht (fun q => kt (by rw [oI_le (okL_hd (okL_tl hs)) (okL_hd hs)] at q; exact q)) (fun q => kf (by rw [oI_le (okL_hd (okL_tl hs)) (okL_hd hs)] at q; exact q))) kt kf
end MROWS
end
section
/-! the mini machine's rows over cells, calls, returns -/
def KC (ci : Nat) (C : String) (T : u_T) (N : Nat) : Prop := vwCl[ci]? = some (C, T, N) ∧ (∀ w ∈ u_ws C T N, w ∈ tbG) ∧ (∃ ty0 : Nat → FieldType, ∀ k, k < N → parseFieldDescriptor (T k).2.2.1 = some (ty0 k)) ∧ (∀ a, a < N → ∀ b, b < N → a ≠ b → (T a).2.1 ≠ (T b).2.1)
section MROWS2
variable {l : Launch} {G : GT} {M : MI} {F : FT} {pc : Nat} {ls : List (Nat × MV)} {st : List MV} {σ : Sto}
theorem r_getI {idx ci j k N : Nat} {C : String} {T : u_T} {fs : List (Option Nat)} (hd : decode M.2.1 pc = .ok (.getfield idx, 3)) (hsh : shp k = .inr (.inr (ci, fs))) (hfs : fs[j]? = some none) (hc : KC ci C T N) (hj : j < N) (hlk : Cond.fieldLink M.1.cls idx (T j).1 (T j).2.1 (T j).2.2.1 ∈ tbG) (kk : MWF l G M F (pc + 3) ls (vI (σ k j) :: st) σ) : MWF l G M F pc ls (vR k :: st) σ := by
  intro hσ hl hs p e R s m args below meth c A H0 cells slots Qf hF hC H locs lsA hP hS hls
  obtain ⟨hx, hb, hml, hown, hts, hK, hD, hfr, hlo, hce, hsl⟩ := id hC
  have hk := shp_lt_o hsh
  refine va_get (D := (G.1, G.2.1)) (ci := ci) (v := .int (Int32.ofInt (σ k j))) (C := C) (T := T) (N := N) hx hb hts hc.2.1 hown hK hP k (fs := cF G.2.2.1 (σ k) 0 fs) (by rw [wsC_get G σ hk, hsh]; rfl) hc.1 j hj (hts _ hlk) (fun _ h => h) (by rw [cF_get, hfs, Nat.zero_add]; rfl) hd ?_
  exact kk hσ hl (okL_I (hσ k j) (okL_tl hs)) p e R s m args below meth c A H0 cells slots Qf hF hC H locs lsA hP hS hls
theorem r_getR {idx ci j k N r : Nat} {C : String} {T : u_T} {fs : List (Option Nat)} (hd : decode M.2.1 pc = .ok (.getfield idx, 3)) (hsh : shp k = .inr (.inr (ci, fs))) (hfs : fs[j]? = some (some r)) (hc : KC ci C T N) (hj : j < N) (hlk : Cond.fieldLink M.1.cls idx (T j).1 (T j).2.1 (T j).2.2.1 ∈ tbG) (kk : MWF l G M F (pc + 3) ls (vR r :: st) σ) : MWF l G M F pc ls (vR k :: st) σ := by
  intro hσ hl hs p e R s m args below meth c A H0 cells slots Qf hF hC H locs lsA hP hS hls
  obtain ⟨hx, hb, hml, hown, hts, hK, hD, hfr, hlo, hce, hsl⟩ := id hC
  have hk := shp_lt_o hsh
  refine va_get (D := (G.1, G.2.1)) (ci := ci) (v := .ref (G.2.2.1 r)) (C := C) (T := T) (N := N) hx hb hts hc.2.1 hown hK hP k (fs := cF G.2.2.1 (σ k) 0 fs) (by rw [wsC_get G σ hk, hsh]; rfl) hc.1 j hj (hts _ hlk) (fun _ h => h) (by rw [cF_get, hfs]; rfl) hd ?_
  exact kk hσ hl (okL_R (okL_tl hs)) p e R s m args below meth c A H0 cells slots Qf hF hC H locs lsA hP hS hls
theorem set_o {k ci j : Nat} {x : Int} {fs : List (Option Nat)} (hsh : shp k = .inr (.inr (ci, fs))) (hfs : fs[j]? = some none) : (wsC G σ).set k (G.2.2.1 k, .inr (ci, (cF G.2.2.1 (σ k) 0 fs).set j (.int (Int32.ofInt x)))) = wsC G (stS σ k j x) := by
  rw [← wsC_set G σ (stS σ k j x) (shp_lt_o hsh) (fun k' h => by funext i; simp [stS, h]), hsh]
  show _ = (wsC G σ).set k (_, .inr (ci, cF G.2.2.1 (stS σ k j x k) 0 fs))
  rw [← cF_set G.2.2.1 (σ k) (stS σ k j x k) fs j hfs (fun i hi => by simp [stS, hi]), show stS σ k j x k j = x by simp [stS]]
theorem r_put {idx ci j k N : Nat} {x : Int} {ty : FieldType} {C : String} {T : u_T} {fs : List (Option Nat)} (hd : decode M.2.1 pc = .ok (.putfield idx, 3)) (hsh : shp k = .inr (.inr (ci, fs))) (hfs : fs[j]? = some none) (hc : KC ci C T N) (hj : j < N) (hlk : Cond.fieldLink M.1.cls idx (T j).1 (T j).2.1 (T j).2.2.1 ∈ tbG) (hfin : (T j).2.2.2 = false) (hty : parseFieldDescriptor (T j).2.2.1 = some ty) (hn : narrow ty (.int (Int32.ofInt x)) = .int (Int32.ofInt x)) (hfit : fits ty (.int (Int32.ofInt x)) = true)
    (kk : MWF l G M F (pc + 3) ls st (stS σ k j x)) : MWF l G M F pc ls (vI x :: vR k :: st) σ := by
  intro hσ hl hs p e R s m args below meth c A H0 cells slots Qf hF hC H locs lsA hP hS hls
  obtain ⟨hx, hb, hml, hown, hts, hK, hD, hfr, hlo, hce, hsl⟩ := id hC
  have hk := shp_lt_o hsh
  obtain ⟨ty0, hty0⟩ := hc.2.2.1
  refine va_put (D := (G.1, G.2.1)) (ci := ci) (v := .int (Int32.ofInt x)) (ty := ty) (C := C) (T := T) (N := N) hx hb hts hc.2.1 ty0 hty0 hc.2.2.2 hown hK hP (wsC_D σ hD) hS k (fs := cF G.2.2.1 (σ k) 0 fs) (by rw [wsC_get G σ hk, hsh]; rfl) hc.1 j hj (hts _ hlk) (fun _ h => h) hfin hty hn hfit (by rw [cF_len]; exact (List.getElem?_eq_some_iff.mp hfs).1) hd (fun H1 locs1 hP1 hD1 hS1 => ?_)
  rw [set_o hsh hfs] at hP1
  exact kk (okS_st hσ (okL_hd hs)) hl (okL_tl (okL_tl hs)) p e R s m args below meth c A H0 cells slots Qf hF hC H1 locs1 lsA hP1 hS1 hls
theorem r_putI {idx ci j k N : Nat} {x : Int} {C : String} {T : u_T} {fs : List (Option Nat)} (hd : decode M.2.1 pc = .ok (.putfield idx, 3)) (hsh : shp k = .inr (.inr (ci, fs))) (hfs : fs[j]? = some none) (hc : KC ci C T N) (hj : j < N) (hlk : Cond.fieldLink M.1.cls idx (T j).1 (T j).2.1 (T j).2.2.1 ∈ tbG) (hfin : (T j).2.2.2 = false) (hty : parseFieldDescriptor (T j).2.2.1 = some .int)
    (kk : MWF l G M F (pc + 3) ls st (stS σ k j x)) : MWF l G M F pc ls (vI x :: vR k :: st) σ := r_put hd hsh hfs hc hj hlk hfin hty rfl rfl kk
theorem r_putZ {idx ci j k N : Nat} {x : Int} {C : String} {T : u_T} {fs : List (Option Nat)} (hd : decode M.2.1 pc = .ok (.putfield idx, 3)) (hsh : shp k = .inr (.inr (ci, fs))) (hfs : fs[j]? = some none) (hc : KC ci C T N) (hj : j < N) (hlk : Cond.fieldLink M.1.cls idx (T j).1 (T j).2.1 (T j).2.2.1 ∈ tbG) (hfin : (T j).2.2.2 = false) (hty : parseFieldDescriptor (T j).2.2.1 = some .boolean) (h01 : x = 0 ∨ x = 1)
    (kk : MWF l G M F (pc + 3) ls st (stS σ k j x)) : MWF l G M F pc ls (vI x :: vR k :: st) σ := by
  refine r_put hd hsh hfs hc hj hlk hfin hty ?_ ?_ kk
  · rcases h01 with rfl | rfl <;> decide
  · rcases h01 with rfl | rfl <;> decide
theorem r_iald {k n : Nat} {i : Int} (hd : decode M.2.1 pc = .ok (.iaload, 1)) (hsh : shp k = .inl n) (h0 : 0 ≤ i) (hn : i < n) (kk : MWF l G M F (pc + 1) ls (vI (σ k i.toNat) :: st) σ) : MWF l G M F pc ls (vI i :: vR k :: st) σ := by
  intro hσ hl hs p e R s m args below meth c A H0 cells slots Qf hF hC H locs lsA hP hS hls
  obtain ⟨hx, hb, hml, hown, hts, hK, hD, hfr, hlo, hce, hsl⟩ := id hC
  refine va_iald (D := (G.1, G.2.1)) (n := n) (f := fun j => Int32.ofInt (σ k j)) (cA := G.2.2.2 0) hx hb hK hP k 0 (by rw [wsC_get G σ (shp_lt_a hsh), hsh]; rfl) rfl (oI_vp (okL_hd hs) h0 hn) hd ?_
  refine W.eq (g2 := F0 m (pc + 1) lsA (.int (Int32.ofInt (σ k i.toNat)) :: st.map (cv G.2.2.1))) (by rw [oI_N (okL_hd hs)]) ?_
  exact kk hσ hl (okL_I (hσ k i.toNat) (okL_tl (okL_tl hs))) p e R s m args below meth c A H0 cells slots Qf hF hC H locs lsA hP hS hls
theorem set_a {k n j : Nat} {x : Int} (hsh : shp k = .inl n) : (wsC G σ).set k (G.2.2.1 k, .inl (G.2.2.2 0, n, .inl (upd (fun i => Int32.ofInt (σ k i)) j (Int32.ofInt x)))) = wsC G (stS σ k j x) := by
  rw [← wsC_set G σ (stS σ k j x) (shp_lt_a hsh) (fun k' h => by funext i; simp [stS, h]), hsh]
  show _ = (wsC G σ).set k (_, .inl (G.2.2.2 0, n, .inl (fun i => Int32.ofInt (stS σ k j x k i))))
  have e : upd (fun i => Int32.ofInt (σ k i)) j (Int32.ofInt x) = (fun i => Int32.ofInt (stS σ k j x k i)) := by
    funext i
    by_cases h : i = j
    · subst h; simp [upd, stS]
    · simp [upd, stS, h]
  rw [e]
theorem r_iast {k n : Nat} {i x : Int} (hd : decode M.2.1 pc = .ok (.iastore, 1)) (hsh : shp k = .inl n) (h0 : 0 ≤ i) (hn : i < n) (kk : MWF l G M F (pc + 1) ls st (stS σ k i.toNat x)) : MWF l G M F pc ls (vI x :: vI i :: vR k :: st) σ := by
  intro hσ hl hs p e R s m args below meth c A H0 cells slots Qf hF hC H locs lsA hP hS hls
  obtain ⟨hx, hb, hml, hown, hts, hK, hD, hfr, hlo, hce, hsl⟩ := id hC
  have hi : okV (vI i) := okL_hd (okL_tl hs)
  refine va_iast (D := (G.1, G.2.1)) (n := n) (f := fun j => Int32.ofInt (σ k j)) (cA := G.2.2.2 0) hx hb hK hP (wsC_D σ hD) hS k 0 (by rw [wsC_get G σ (shp_lt_a hsh), hsh]; rfl) rfl (oI_vp hi h0 hn) hd (fun H1 locs1 hP1 hD1 hS1 => ?_)
  rw [oI_N hi, set_a hsh] at hP1
  exact kk (okS_st hσ (okL_hd hs)) hl (okL_tl (okL_tl (okL_tl hs))) p e R s m args below meth c A H0 cells slots Qf hF hC H1 locs1 lsA hP1 hS1 hls
theorem r_aald {k t r : Nat} {i : Int} {l' : List Nat} {ty : FieldType} (hd : decode M.2.1 pc = .ok (.aaload, 1)) (hsh : shp k = .inr (.inl (t, l'))) (ht : ∀ cA : Nat → ClassId, [(cA 0, FieldType.int), (cA 1, .object "SharedRides$Route"), (cA 2, .object "SharedRides$Plan"), (cA 3, .array .int)][t]? = some (cA t, ty)) (hty : ty.isReference = true) (h0 : 0 ≤ i) (hr : l'[i.toNat]? = some r) (kk : MWF l G M F (pc + 1) ls (vR r :: st) σ) : MWF l G M F pc ls (vI i :: vR k :: st) σ := by
  intro hσ hl hs p e R s m args below meth c A H0 cells slots Qf hF hC H locs lsA hP hS hls
  obtain ⟨hx, hb, hml, hown, hts, hK, hD, hfr, hlo, hce, hsl⟩ := id hC
  have hlt : i.toNat < l'.length := (List.getElem?_eq_some_iff.mp hr).1
  have hne : l' ≠ [] := fun q => by rw [q] at hlt; exact absurd hlt (Nat.not_lt_zero _)
  have hcell := hP k _ (show (wsC G σ)[k]? = some (G.2.2.1 k, .inl (G.2.2.2 t, l'.length, .inr (.inr (.inr (.inr (fun j => (l'[j]?).map G.2.2.1)))))) by rw [wsC_get G σ (shp_lt_r hsh hne), hsh]; rfl)
  have hlt2 : (Int32.ofInt i).toNatClampNeg < l'.length := by rw [oI_N (okL_hd hs)]; exact hlt
  refine W.aald (v := .ref (G.2.2.1 r)) (ty := ty) hx hb hcell ((hK.2 t _ (ht G.2.2.2)).1 l'.length (fun j => va_rf ((l'[j]?).map G.2.2.1))) hty (fun q => by cases q) (by show ¬ (Int32.ofInt i < 0 ∨ (arrV _ _ _).slots.size ≤ _); rw [arrV_size]; exact oI_vp (n := l'.length) (okL_hd hs) h0 (by omega)) (by show (arrV _ _ _).slots[_]? = _; rw [arrV_read _ _ hlt2, oI_N (okL_hd hs)]; show some (va_rf ((l'[i.toNat]?).map G.2.2.1)) = _; rw [hr]; rfl) rfl rfl hd ?_
  exact kk hσ hl (okL_R (okL_tl (okL_tl hs))) p e R s m args below meth c A H0 cells slots Qf hF hC H locs lsA hP hS hls
theorem MWF.sub {ls' : List (Nat × MV)} (ks : List Nat) (h : ks.filterMap (fun k => ls[k]?) = ls') (kk : MWF l G M F pc ls' st σ) : MWF l G M F pc ls st σ := by
  subst h
  intro hσ hl hs p e R s m args below meth c A H0 cells slots Qf hF hC H locs lsA hP hS hls
  refine kk hσ (fun v hv => ?_) hs p e R s m args below meth c A H0 cells slots Qf hF hC H locs lsA hP hS (lv_sub hls ks ?_)
  · obtain ⟨q, hq, rfl⟩ := List.mem_map.mp hv
    obtain ⟨j, -, hj⟩ := List.mem_filterMap.mp hq
    exact hl _ (List.mem_map.mpr ⟨q, List.mem_of_getElem? hj, rfl⟩)
  · unfold lv_pick
    rw [List.map_filterMap]
    congr 1
    funext k
    rw [List.getElem?_map]
def RM (M : MI) : Room := { frames := M.2.2.2.2.1, cells := 0, slots := 0, locals := M.2.2.2.2.2 }
def QcO (G : GT) (Q : Option MV → Sto → Prop) : Array Value → State → Outcome → State → Prop := fun _ st o t => (∃ (r : Option MV) (σ' : Sto), o = .returned (r.map (cv G.2.2.1)) ∧ Q r σ' ∧ (∀ v, r = some v → okV v) ∧ okS σ' ∧ va_P (G.1, G.2.1) vwCl (wsC G σ') t.heap) ∧ va_F (AC G) st t
def Fin (G : GT) (M : MI) (Q : Option MV → Sto → Prop) : FT := fun _ _ R s _ args below meth _ A H0 cells slots Qf => R = RM M ∧ meth.sig.returnType = M.2.2.2.1 ∧ meth.locks = false ∧ A = AC G ∧ H0 = s.heap ∧ cells = 0 ∧ slots = 0 ∧ Qf = MQ below (QcO G Q) args s 0 0 (AC G)
abbrev MW (l : Launch) (G : GT) (M : MI) (pc : Nat) (ls : List (Nat × MV)) (st : List MV) (σ : Sto) (Q : Option MV → Sto → Prop) : Prop := MWF l G M (Fin G M Q) pc ls st σ
def lsO : Nat → List MV → List (Nat × MV)
  | _, [] => []
  | i, v :: t => (i, v) :: lsO (i + 1) t
def CL (l : Launch) (G : GT) (M : MI) (args : List MV) (σ : Sto) (Q : Option MV → Sto → Prop) : Prop := MW l G M 0 (lsO 0 args) [] σ Q
theorem MQ_mono {Q Q' : Option MV → Sto → Prop} (h : ∀ r σ, Q r σ → Q' r σ) {below : List Frame} {a : Array Value} {s t : State} (k : MQ below (QcO G Q) a s 0 0 (AC G) t) : MQ below (QcO G Q') a s 0 0 (AC G) t := by
  obtain ⟨o, h1, h2, ⟨⟨r, σ', e1, e2, e3⟩, e4⟩, h3⟩ := k
  exact ⟨o, h1, h2, ⟨⟨r, σ', e1, h r σ' e2, e3⟩, e4⟩, h3⟩
theorem MW.mono {Q Q' : Option MV → Sto → Prop} (h : ∀ r σ, Q r σ → Q' r σ) (kk : MW l G M pc ls st σ Q) : MW l G M pc ls st σ Q' := by
  intro hσ hl hs p e R s m args below meth c A H0 cells slots Qf hF hC H locs lsA hP hS hls T hT X
  obtain ⟨rfl, hr, hlk, rfl, rfl, rfl, rfl, rfl⟩ := hF
  obtain ⟨t, a, b⟩ := kk hσ hl hs p e _ s m args below meth c _ _ 0 0 _ ⟨rfl, hr, hlk, rfl, rfl, rfl, rfl, rfl⟩ hC H locs lsA hP hS hls T hT X
  exact ⟨t, a, MQ_mono h b⟩
theorem CL.mono {args : List MV} {Q Q' : Option MV → Sto → Prop} (h : ∀ r σ, Q r σ → Q' r σ) (kk : CL l G M args σ Q) : CL l G M args σ Q' := MW.mono h kk
theorem r_iret0 {x : Int} {ty : FieldType} {Q : Option MV → Sto → Prop} (hd : decode M.2.1 pc = .ok (.ireturn, 1)) (hty : M.2.2.2.1 = some ty) (hn : narrow ty (.int (Int32.ofInt x)) = .int (Int32.ofInt x)) (h : Q (some (vI x)) σ) : MW l G M pc ls [vI x] σ Q := by
  intro hσ hl hs p e R s m args below meth c A H0 cells slots Qf hF hC H locs lsA hP hS hls
  obtain ⟨hx, hb, hml, hown, hts, hK, hD, hfr, hlo, hce, hsl⟩ := id hC
  obtain ⟨rfl, hr, hlk, rfl, rfl, rfl, rfl, rfl⟩ := hF
  exact W.zret hx hb (hr.trans hty) hn (fun t ht hW => ⟨⟨some (vI x), σ, rfl, h, fun v hv => by cases hv; exact okL_hd hs, hσ, by rw [ht]; exact hP⟩, hS.F ht⟩) (fun q hq => hS.2.2 q hq) hd hlk
theorem r_iret {x : Int} {Q : Option MV → Sto → Prop} (hd : decode M.2.1 pc = .ok (.ireturn, 1)) (hty : M.2.2.2.1 = some .int) (h : Q (some (vI x)) σ) : MW l G M pc ls [vI x] σ Q := r_iret0 hd hty rfl h
theorem r_zret {x : Int} {Q : Option MV → Sto → Prop} (hd : decode M.2.1 pc = .ok (.ireturn, 1)) (hty : M.2.2.2.1 = some .boolean) (h01 : x = 0 ∨ x = 1) (h : Q (some (vI x)) σ) : MW l G M pc ls [vI x] σ Q := r_iret0 hd hty (by rcases h01 with rfl | rfl <;> decide) h
theorem r_vret {Q : Option MV → Sto → Prop} (hd : decode M.2.1 pc = .ok (.return_, 1)) (hty : M.2.2.2.1 = none) (h : Q none σ) : MW l G M pc ls [] σ Q := by
  intro hσ hl hs p e R s m args below meth c A H0 cells slots Qf hF hC H locs lsA hP hS hls
  obtain ⟨hx, hb, hml, hown, hts, hK, hD, hfr, hlo, hce, hsl⟩ := id hC
  obtain ⟨rfl, hr, hlk, rfl, rfl, rfl, rfl, rfl⟩ := hF
  exact W.vret hx hb (hr.trans hty) (fun t ht hW => ⟨⟨none, σ, rfl, h, fun v hv => (by cases hv), hσ, by rw [ht]; exact hP⟩, hS.F ht⟩) (fun q hq => hS.2.2 q hq) hd hlk
theorem r_aret {k : Nat} {C : String} {Q : Option MV → Sto → Prop} (hd : decode M.2.1 pc = .ok (.areturn, 1)) (hty : M.2.2.2.1 = some (.object C)) (h : Q (some (vR k)) σ) : MW l G M pc ls [vR k] σ Q := by
  intro hσ hl hs p e R s m args below meth c A H0 cells slots Qf hF hC H locs lsA hP hS hls
  obtain ⟨hx, hb, hml, hown, hts, hK, hD, hfr, hlo, hce, hsl⟩ := id hC
  obtain ⟨rfl, hr, hlk, rfl, rfl, rfl, rfl, rfl⟩ := hF
  exact W.aret hx hb (hr.trans hty) (Or.inl ⟨C, rfl⟩) (Or.inr ⟨_, rfl⟩) (fun t ht hW => ⟨⟨some (vR k), σ, rfl, h, fun v hv => by cases hv; trivial, hσ, by rw [ht]; exact hP⟩, hS.F ht⟩) (fun q hq => hS.2.2 q hq) hd hlk
theorem lg_len (ad : Nat → Nat) : ∀ as : List MV, (lg_sl (as.map (cv ad))).length = as.length
  | [] => rfl
  | v :: t => by
    have h := lg_len ad t
    unfold lg_sl at h ⊢
    rw [List.map_cons, List.flatMap_cons, List.length_append, h, cv_cat]
    simp
    omega
theorem lsO_args (ad : Nat → Nat) : ∀ (as : List MV) (i : Nat), lv_args i (as.map (cv ad)) = (lsO i as).map (cvp ad)
  | [], _ => rfl
  | v :: t, i => by
    rw [List.map_cons, lv_args, cv_cat, if_neg (by decide), lsO_args ad t (i + 1)]
    rfl
theorem lsO_ok : ∀ (as : List MV) (i : Nat), (lsO i as).map (·.2) = as
  | [], _ => rfl
  | v :: t, i => by
    show v :: ((lsO (i + 1) t).map (·.2)) = v :: t
    rw [lsO_ok t (i + 1)]
def MOK (M : MI) (n : Nat) : Prop := plainName M.1.cls = true ∧ (M.1.cls ≠ "java/lang/invoke/MethodHandle" ∧ M.1.cls ≠ "java/lang/invoke/VarHandle") ∧ (parseMethodDescriptor M.1.desc).map (fun d => d.parameters.length) = some n ∧ Cond.code M.1 M.2.1 M.2.2.1 M.2.2.2.1 ∈ tbG ∧ Cond.initialized M.1.cls ∈ tbG
def wsM (M : MI) : List Cond := Cond.code M.1 M.2.1 M.2.2.1 M.2.2.2.1 :: tbG
theorem wsM_good {n : Nat} (h : MOK M n) : GoodIn tbG (wsM M) := fun w hw => by
  rcases List.mem_cons.mp hw with rfl | hw
  · exact ⟨h.2.2.2.1, good_of_word (List.mem_filter.mp h.2.2.2.1).2⟩
  · exact ⟨hw, good_of_word (List.mem_filter.mp hw).2⟩
def PcO (G : GT) (as : List MV) (σ : Sto) : Array Value → State → Prop := va_Pc (as.map (cv G.2.2.1)) (fun U => va_P (G.1, G.2.1) vwCl (wsC G σ) U.heap ∧ va_K (G.1, G.2.1) vwCl (tyC G) U)
theorem PcO_blind {as : List MV} : FrameBlind (PcO G as σ) := fun a U g mk q => by
  obtain ⟨q0, qP, qK⟩ := q
  exact ⟨q0, qP, va_K.moved (u := U) (U := U.calling g mk a) (Vm.Alike.refl U.vm) qK⟩
theorem met_of {n : Nat} {as : List MV} {Q : Option MV → Sto → Prop} (hM : MOK M n) (h : CL l G M as σ Q) (hσ : okS σ) (ha : okL as) (hlen : as.length ≤ M.2.2.1) (hD : va_D (AC G) (wsC G σ0)) : Met l M.1 (wsM M) (RM M) (PcO G as σ) (QcO G Q) 0 0 (AC G) := by
  refine Met.ofW (cc := M.2.1) (maxL := M.2.2.1) (ret := M.2.2.2.1) hM.1 rfl ?_
  intro p e s m av below meth c s₁ B hml hv
  obtain ⟨rfl, hP, hK⟩ := hv
  have hts : ∀ w ∈ tbG, w.before _ s = true := fun w hw => atoms_spec (ws := wsM M) B.pre w (List.mem_cons_of_mem _ hw)
  have hown : s.vm.findClass M.1.cls = some m.cls := findClass_of_methodNamed B.named
  rw [lg_entry_eq]
  have hl := lv_entry (as.map (cv G.2.2.1)) (n := M.2.2.1) (by rw [lg_len]; exact hlen)
  rw [lsO_args] at hl
  exact h hσ (by rw [lsO_ok]; exact ha) okL_nil p e (RM M) s m _ below meth c (AC G) s.heap 0 0 _ ⟨rfl, B.returns, B.notSynchronized, rfl, rfl, rfl, rfl, rfl⟩ ⟨B.exec, B.bytes, hml, hown, hts, hK, hD, Nat.le_refl _, Nat.le_refl _, Nat.le_refl _, Nat.le_refl _⟩ s.heap [] _ hP va_S.rf hl
theorem run_on {p : Program} {e : Env} {R : Room} {s : State} {m : MethodId} {args : Array Value} {below : List Frame} {meth : Method} {c : Code} {H : Heap} {locs : List Loc} {cells slots : Nat} {Qf : State → Prop} {lsA : Array Slot} {A : Nat → Prop} {H0 : Heap} {av : Array Value} {st0 rest : List Value} {Q' : Option MV → Sto → Prop}
    (hr : va_Run p l e R s m args below meth c H locs cells slots 0 0 (F0 m pc lsA st0) rest (QcO G Q' av) (AC G)) (hS : va_S A H0 H locs) (hA : ∀ q, AC G q → A q)
    (kk : ∀ (r : Option MV) (σ' : Sto) (H1 : Heap) (locs1 : List Loc), Q' r σ' → (∀ v, r = some v → okV v) → okS σ' → va_P (G.1, G.2.1) vwCl (wsC G σ') H1 → va_S A H0 H1 locs1 → W p l e R s m args below meth c H1 locs1 cells slots Qf (F0 m (pc + 3) lsA ((r.map (cv G.2.2.1)).toList ++ rest))) : W p l e R s m args below meth c H locs cells slots Qf (F0 m pc lsA st0) := by
  intro T hT X
  obtain ⟨v, st₀, t, T', L, h0, X', hL, e1, e2, ⟨⟨r, σ', hv, hq, hv2, hσ', hP'⟩, hz, hk⟩, st⟩ := hr T hT X
  cases hv
  rw [h0] at hz hk
  obtain ⟨t2, a1, b1⟩ := kk r σ' T'.heap (locs ++ L) hq hv2 hσ' (by rw [e1]; exact hP')
    ⟨Nat.le_trans hS.1 (by rw [e1]; exact hz), fun q h1 h2 => by rw [e1, hk q (Nat.lt_of_lt_of_le h1 hS.1) (fun z => h2 (hA q z))]; exact hS.2.1 q h1 h2, fun q hq => by
      rcases List.mem_append.mp hq with h | h
      · exact hS.2.2 q h
      · exact hA _ (hL q h)⟩ T' rfl X'
  exact ⟨t2, st t2 a1, b1⟩
theorem cat_sum (ad : Nat → Nat) : ∀ rest : List MV, ((rest.map (cv ad)).map fun v => v.category).sum = rest.length
  | [] => rfl
  | v :: t => by
    rw [List.map_cons, List.map_cons, List.sum_cons, cat_sum ad t, cv_cat, List.length_cons, Nat.add_comm]
theorem back_ok {r : Option MV} {rest : List MV} (h1 : ∀ v, r = some v → okV v) (h2 : okL rest) : okL (r.toList ++ rest) := by
  cases r with
  | none => exact h2
  | some v => exact okL_cons (h1 v rfl) h2
theorem back_map (ad : Nat → Nat) (r : Option MV) (rest : List MV) : (r.map (cv ad)).toList ++ rest.map (cv ad) = (r.toList ++ rest).map (cv ad) := by
  cases r <;> rfl
theorem r_callV {M' : MI} {n idx k ci N : Nat} {T : u_T} {fs : List (Option Nat)} (as rest : List MV) {Q' : Option MV → Sto → Prop} (hd : decode M.2.1 pc = .ok (.invokevirtual idx, 3)) (hM' : MOK M' n) (hiv : Cond.instanceMethod M'.1 ∈ tbG) (hse : Cond.selects M'.1.cls M'.1 M'.1 ∈ tbG) (hlk : Cond.methodLink M.1.cls idx M'.1 ∈ tbG) (hn : as.length = n) (hst : as.reverse ++ vR k :: rest = st)
    (hsh : shp k = .inr (.inr (ci, fs))) (hcl : vwCl[ci]? = some (M'.1.cls, T, N)) (hroom : as.length + 1 ≤ M'.2.2.1 ∧ M'.2.2.2.2.1 + 1 ≤ M.2.2.2.2.1 ∧ 8 + (M'.2.2.1 + 11) + M'.2.2.2.2.2 ≤ M.2.2.2.2.2 ∧ rest.length ≤ 8) (hc : CL l G M' (vR k :: as) σ Q')
    (kk : ∀ r σ', Q' r σ' → MWF l G M F (pc + 3) ls (r.toList ++ rest) σ') : MWF l G M F pc ls st σ := by
  subst hst
  intro hσ hl hs p e R s m args below meth c A H0 cells slots Qf hF hC H locs lsA hP hS hls
  obtain ⟨hx, hb, hml, hown, hts, hK, hD, hfr, hlo, hce, hsl⟩ := id hC
  have hok : okL (vR k :: as) := okL_R (fun v hv => hs v (List.mem_append_left _ (List.mem_reverse.mpr hv)))
  have hokr : okL rest := fun v hv => hs v (List.mem_append_right _ (List.mem_cons_of_mem _ hv))
  have hm := met_of hM' hc hσ hok (by rw [List.length_cons]; exact hroom.1) (wsC_self hD)
  have hg := wsM_good hM'
  have cw : CallW R s args M.1.cls M'.1.cls idx M'.1 M'.2.1 M'.2.2.1 M'.2.2.2.1 (wsM M') (RM M') 0 0 n :=
    ⟨⟨rfl, rfl, Nat.le_trans hroom.2.1 hfr, Nat.le_trans hroom.2.2.1 hlo, pay_in hts hg, List.mem_cons_self, hts _ hM'.2.2.2.1, hts _ hM'.2.2.2.2, hM'.2.1, fun sig h => by
      have h2 := hM'.2.2.1
      rw [h] at h2
      exact (Option.some.inj h2).symm, hts _ hlk⟩, hts _ hiv, hts _ hse⟩
  have hrv := va_recv (q0 := k) hK hP hcl (show (wsC G σ)[k]? = some (G.2.2.1 k, .inr (ci, cF G.2.2.1 (σ k) 0 fs)) by rw [wsC_get G σ (shp_lt_o hsh), hsh]; rfl)
  refine run_on (va_runV (As := as.map (cv G.2.2.1)) (rest := rest.map (cv G.2.2.1)) (b := G.2.2.1 k) ⟨hx, hb, hml, hown, hts⟩ hm cw ⟨PcO_blind, hrv, fun U hU hW => ⟨rfl, by rw [hU]; exact hP, va_K.moved hW.alike hK⟩⟩ rfl (by rw [List.length_map]; exact hn) hls.1 (by show List.map (cv G.2.2.1) (as.reverse ++ vR k :: rest) = _; rw [List.map_append, List.map_reverse]; rfl) (lv_room (by rw [cat_sum]; exact hroom.2.2.2)) hd ⟨hce, hsl⟩) hS (wsC_A hD) (fun r σ' H1 locs1 hq hv hσ' hP1 hS1 => ?_)
  rw [back_map]
  exact kk r σ' hq hσ' hl (back_ok hv hokr) p e R s m args below meth c A H0 cells slots Qf hF hC H1 locs1 lsA hP1 hS1 hls
theorem r_callS {M' : MI} {n idx : Nat} (as rest : List MV) {Q' : Option MV → Sto → Prop} (hd : decode M.2.1 pc = .ok (.invokestatic idx, 3)) (hM' : MOK M' n) (hsw : Cond.static M'.1 ∈ tbG) (hlk : Cond.methodLink M.1.cls idx M'.1 ∈ tbG) (hn : as.length = n) (hst : as.reverse ++ rest = st)
    (hroom : as.length ≤ M'.2.2.1 ∧ M'.2.2.2.2.1 + 1 ≤ M.2.2.2.2.1 ∧ 8 + (M'.2.2.1 + 11) + M'.2.2.2.2.2 ≤ M.2.2.2.2.2 ∧ rest.length ≤ 8) (hc : CL l G M' as σ Q')
    (kk : ∀ r σ', Q' r σ' → MWF l G M F (pc + 3) ls (r.toList ++ rest) σ') : MWF l G M F pc ls st σ := by
  subst hst
  intro hσ hl hs p e R s m args below meth c A H0 cells slots Qf hF hC H locs lsA hP hS hls
  obtain ⟨hx, hb, hml, hown, hts, hK, hD, hfr, hlo, hce, hsl⟩ := id hC
  have hok : okL as := fun v hv => hs v (List.mem_append_left _ (List.mem_reverse.mpr hv))
  have hokr : okL rest := fun v hv => hs v (List.mem_append_right _ hv)
  have hm := met_of hM' hc hσ hok hroom.1 (wsC_self hD)
  have hg := wsM_good hM'
  have cw : CallB R s args M.1.cls idx M'.1 M'.2.1 M'.2.2.1 M'.2.2.2.1 (wsM M') (RM M') 0 0 n ∧ (Cond.static M'.1).before args s = true :=
    ⟨⟨rfl, rfl, Nat.le_trans hroom.2.1 hfr, Nat.le_trans hroom.2.2.1 hlo, pay_in hts hg, List.mem_cons_self, hts _ hM'.2.2.2.1, hts _ hM'.2.2.2.2, hM'.2.1, fun sig h => by
      have h2 := hM'.2.2.1
      rw [h] at h2
      exact (Option.some.inj h2).symm, hts _ hlk⟩, hts _ hsw⟩
  refine run_on (va_runS (As := as.map (cv G.2.2.1)) (rest := rest.map (cv G.2.2.1)) ⟨hx, hb, hml, hown, hts⟩ hm cw ⟨PcO_blind, fun U hU hW => ⟨rfl, by rw [hU]; exact hP, va_K.moved hW.alike hK⟩⟩ rfl (by rw [List.length_map]; exact hn) hls.1 (by show List.map (cv G.2.2.1) (as.reverse ++ rest) = _; rw [List.map_append, List.map_reverse]) (lv_room (by rw [cat_sum]; exact hroom.2.2.2)) hd ⟨hce, hsl⟩) hS (wsC_A hD) (fun r σ' H1 locs1 hq hv hσ' hP1 hS1 => ?_)
  rw [back_map]
  exact kk r σ' hq hσ' hl (back_ok hv hokr) p e R s m args below meth c A H0 cells slots Qf hF hC H1 locs1 lsA hP1 hS1 hls
def CLi (l : Launch) (G : GT) (M : MI) (args : List MV) (σ : Sto) (Q : Int → Sto → Prop) : Prop := CL l G M args σ (fun r σ' => ∃ x, r = some (vI x) ∧ Q x σ')
def CLv (l : Launch) (G : GT) (M : MI) (args : List MV) (σ : Sto) (Q : Sto → Prop) : Prop := CL l G M args σ (fun r σ' => r = none ∧ Q σ')
def CLr (l : Launch) (G : GT) (M : MI) (args : List MV) (σ : Sto) (Q : Nat → Sto → Prop) : Prop := CL l G M args σ (fun r σ' => ∃ x, r = some (vR x) ∧ Q x σ')
theorem CLi.mono {args : List MV} {Q Q' : Int → Sto → Prop} (kk : CLi l G M args σ Q) (h : ∀ r σ, Q r σ → Q' r σ) : CLi l G M args σ Q' := CL.mono (fun _ _ ⟨x, e, q⟩ => ⟨x, e, h _ _ q⟩) kk
theorem CLv.mono {args : List MV} {Q Q' : Sto → Prop} (kk : CLv l G M args σ Q) (h : ∀ σ, Q σ → Q' σ) : CLv l G M args σ Q' := CL.mono (fun _ _ ⟨e, q⟩ => ⟨e, h _ q⟩) kk
theorem CLr.mono {args : List MV} {Q Q' : Nat → Sto → Prop} (kk : CLr l G M args σ Q) (h : ∀ r σ, Q r σ → Q' r σ) : CLr l G M args σ Q' := CL.mono (fun _ _ ⟨x, e, q⟩ => ⟨x, e, h _ _ q⟩) kk
theorem r_tableIn {dflt lo hi off : Int} {offs : Array Int} {len tgt : Nat} {x : Int} (hd : decode M.2.1 pc = .ok (.tableswitch dflt lo hi offs, len)) (h1 : lo ≤ x) (h2 : x ≤ hi) (ho : offs[(x - lo).toNat]? = some off) (ht : (pc : Int) + off = (tgt : Int)) (kk : MWF l G M F tgt ls st σ) : MWF l G M F pc ls (vI x :: st) σ :=
  MWF.go (fun _ h => okL_tl h) (fun hs hx hb _ _ _ k => lv_tableIn hx hb hd (by rw [oI_T (okL_hd hs)]; omega) (by rw [oI_T (okL_hd hs)]; omega) (by rw [oI_T (okL_hd hs)]; exact ho) ht k) kk
theorem r_tableOut {dflt lo hi : Int} {offs : Array Int} {len tgt : Nat} {x : Int} (hd : decode M.2.1 pc = .ok (.tableswitch dflt lo hi offs, len)) (h : x < lo ∨ hi < x) (ht : (pc : Int) + dflt = (tgt : Int)) (kk : MWF l G M F tgt ls st σ) : MWF l G M F pc ls (vI x :: st) σ :=
  MWF.go (fun _ h => okL_tl h) (fun hs hx hb _ _ _ k => lv_tableOut hx hb hd (by rw [oI_T (okL_hd hs)]; exact h) ht k) kk
theorem nn_of {z : Int} (h : okV (vI z)) (h0 : 0 ≤ z) : ¬ Int32.ofInt z < 0 := by rw [oI_0, oI_lt h ok_0]; omega
theorem r_copy {idx ks kd ns nd : Nat} {n : Int} (hd : decode M.2.1 pc = .ok (.invokestatic idx, 3)) (hlk : Cond.methodLink M.1.cls idx arraycopyName ∈ tbG) (hw : Cond.native arraycopyName ∈ tbG ∧ Cond.static arraycopyName ∈ tbG ∧ Cond.initialized "java/lang/System" ∈ tbG) (hss : shp ks = .inl ns) (hsd : shp kd = .inl nd) (h0 : 0 ≤ n) (h1 : n ≤ ns) (h2 : n ≤ nd) (hroom : 1 ≤ M.2.2.2.2.1 ∧ st.length + 18 ≤ M.2.2.2.2.2)
    (kk : MWF l G M F (pc + 3) ls st (cpS σ ks kd n.toNat)) : MWF l G M F pc ls (vI n :: vI 0 :: vR kd :: vI 0 :: vR ks :: st) σ := by
  intro hσ hl hs p e R s m args below meth c A H0 cells slots Qf hF hC H locs lsA hP hS hls
  obtain ⟨hx, hb, hml, hown, hts, hK, hD, hfr, hlo, hce, hsl⟩ := id hC
  have hz : (Int32.ofInt 0).toNatClampNeg = 0 := by decide
  have hn : okV (vI n) := okL_hd hs
  refine va_copyi (D := (G.1, G.2.1)) (ty := .int) (f := fun j => Int32.ofInt (σ ks j)) (g := fun j => Int32.ofInt (σ kd j)) hx hb (hml.trans hls.1.symm) hown (hts _ hlk) (hts _ hw.1) (hts _ hw.2.1) (hts _ hw.2.2) hK hP (wsC_D σ hD) hS ks kd 0 0 (c0 := G.2.2.2 0) (c1 := G.2.2.2 0) (n0 := ns) (n1 := nd) (by rw [wsC_get G σ (shp_lt_a hss), hss]; rfl) (by rw [wsC_get G σ (shp_lt_a hsd), hsd]; rfl) rfl rfl rfl (by decide) (by decide) (nn_of hn h0) (by rw [hz, oI_N hn]; omega) (by rw [hz, oI_N hn]; omega) (fun _ _ => rfl) (Nat.le_trans hroom.1 hfr) (by rw [cat_sum]; exact Nat.le_trans (by exact hroom.2) hlo) hd (fun H1 locs1 hP1 hD1 hS1 => ?_)
  rw [hz, oI_N hn] at hP1
  have eS : (wsC G σ).set kd (G.2.2.1 kd, .inl (G.2.2.2 0, nd, .inl (va_cpy (fun j => Int32.ofInt (σ ks j)) (fun j => Int32.ofInt (σ kd j)) 0 0 n.toNat))) = wsC G (cpS σ ks kd n.toNat) := by
    rw [← wsC_set G σ (cpS σ ks kd n.toNat) (shp_lt_a hsd) (fun k' h => by funext i; simp [cpS, h]), hsd]
    show _ = (wsC G σ).set kd (_, .inl (G.2.2.2 0, nd, .inl (fun i => Int32.ofInt (cpS σ ks kd n.toNat kd i))))
    have e : va_cpy (fun j => Int32.ofInt (σ ks j)) (fun j => Int32.ofInt (σ kd j)) 0 0 n.toNat = (fun i => Int32.ofInt (cpS σ ks kd n.toNat kd i)) := by
      funext i
      by_cases h : i < n.toNat
      · rw [pk_cpy_in (Nat.zero_le _) (by omega)]; simp [cpS, h]
      · rw [pk_cpy_out (Or.inr (by omega))]; simp [cpS, h]
    rw [e]
  rw [eS] at hP1
  exact kk (okS_cp hσ) hl (okL_tl (okL_tl (okL_tl (okL_tl (okL_tl hs))))) p e R s m args below meth c A H0 cells slots Qf hF hC H1 locs1 lsA hP1 hS1 hls
theorem r_abs {idx : Nat} {x : Int} (hd : decode M.2.1 pc = .ok (.invokestatic idx, 3)) (hlk : Cond.methodLink M.1.cls idx Lib.Math.abs.name ∈ tbG) (hw : Cond.static Lib.Math.abs.name ∈ tbG ∧ Cond.initialized "java/lang/Math" ∈ tbG ∧ Cond.code Lib.Math.abs.name Lib.Math.abs.code 1 (some .int) ∈ tbG) (hroom : 1 ≤ M.2.2.2.2.1 ∧ st.length + 13 ≤ M.2.2.2.2.2) (hr : -2147483648 ≤ 0 - x ∧ 0 - x ≤ 2147483647)
    (kk : MWF l G M F (pc + 3) ls (vI (if 0 ≤ x then x else 0 - x) :: st) σ) : MWF l G M F pc ls (vI x :: st) σ := by
  intro hσ hl hs p e R s m args below meth c A H0 cells slots Qf hF hC H locs lsA hP hS hls
  obtain ⟨hx, hb, hml, hown, hts, hK, hD, hfr, hlo, hce, hsl⟩ := id hC
  have h1 : okV (vI x) := okL_hd hs
  refine va_mabs hx hb (hml.trans hls.1.symm) hown (hts _ hlk) (hts _ hw.1) (hts _ hw.2.1) (hts _ hw.2.2) (Nat.le_trans hroom.1 hfr) (by rw [cat_sum]; exact Nat.le_trans hroom.2 hlo) hce hsl hd ?_
  have eA : (if 0 ≤ Int32.ofInt x then Int32.ofInt x else 0 - Int32.ofInt x) = Int32.ofInt (if 0 ≤ x then x else 0 - x) := by
    have hc : (0 ≤ Int32.ofInt x) ↔ 0 ≤ x := by rw [oI_0, oI_le ok_0 h1]
    by_cases h : 0 ≤ x
    · rw [if_pos h, if_pos (hc.mpr h)]
    · rw [if_neg h, if_neg (fun q => h (hc.mp q)), Int32.ofInt_sub]; rfl
  rw [eA]
  refine kk hσ hl (okL_I ?_ (okL_tl hs)) p e R s m args below meth c A H0 cells slots Qf hF hC H locs lsA hP hS hls
  split
  · exact h1
  · exact hr
end MROWS2
end
