-- ===== PART A: goes FIRST, ahead of the names: the tables' words, and 'selects' of the private methods out of them =====
/-- a private method of a class that the tables say can be made, by its rows of tables_1 -/
def lw_okq (q : MethodName × Nat) : Prop := (q.1.cls ≠ "java/lang/invoke/MethodHandle" ∧ q.1.cls ≠ "java/lang/invoke/VarHandle") ∧ Cond.instantiable q.1.cls q.2 ∈ tables_1 ∧ Cond.privateMethod q.1 ∈ tables_1 ∧ Cond.instanceMethod q.1 ∈ tables_1
theorem lw_p0 : lw_okq (⟨"OneMachine$Sets", "isOnTimeByDue", "(LOneMachine$Jobs;I)Z"⟩, 1) := ⟨⟨by decide +kernel, by decide +kernel⟩, List.mem_of_getElem? (i := 182) (by decide +kernel), List.mem_of_getElem? (i := 281) (by decide +kernel), List.mem_of_getElem? (i := 282) (by decide +kernel)⟩
theorem lw_p1 : lw_okq (⟨"java/lang/Throwable", "fillInStackTrace", "(I)Ljava/lang/Throwable;"⟩, 6) := ⟨⟨by decide +kernel, by decide +kernel⟩, List.mem_of_getElem? (i := 342) (by decide +kernel), List.mem_of_getElem? (i := 340) (by decide +kernel), List.mem_of_getElem? (i := 341) (by decide +kernel)⟩
theorem lw_p2 : lw_okq (⟨"OneMachine", "needJob", "(I)V"⟩, 7) := ⟨⟨by decide +kernel, by decide +kernel⟩, List.mem_of_getElem? (i := 25) (by decide +kernel), List.mem_of_getElem? (i := 404) (by decide +kernel), List.mem_of_getElem? (i := 405) (by decide +kernel)⟩
theorem lw_p3 : lw_okq (⟨"OneMachine", "needSomeJob", "()V"⟩, 7) := ⟨⟨by decide +kernel, by decide +kernel⟩, List.mem_of_getElem? (i := 25) (by decide +kernel), List.mem_of_getElem? (i := 452) (by decide +kernel), List.mem_of_getElem? (i := 453) (by decide +kernel)⟩
theorem lw_p4 : lw_okq (⟨"OneMachine$Rules", "putDroppedBehind", "(LOneMachine$Jobs;II)V"⟩, 5) := ⟨⟨by decide +kernel, by decide +kernel⟩, List.mem_of_getElem? (i := 123) (by decide +kernel), List.mem_of_getElem? (i := 531) (by decide +kernel), List.mem_of_getElem? (i := 532) (by decide +kernel)⟩
theorem lw_p5 : lw_okq (⟨"OneMachine$Rules", "fillLeastTardiness", "(LOneMachine$Jobs;)V"⟩, 5) := ⟨⟨by decide +kernel, by decide +kernel⟩, List.mem_of_getElem? (i := 123) (by decide +kernel), List.mem_of_getElem? (i := 561) (by decide +kernel), List.mem_of_getElem? (i := 562) (by decide +kernel)⟩
theorem lw_p6 : lw_okq (⟨"OneMachine$Rules", "tardinessBy", "(LOneMachine$Jobs;III)I"⟩, 5) := ⟨⟨by decide +kernel, by decide +kernel⟩, List.mem_of_getElem? (i := 123) (by decide +kernel), List.mem_of_getElem? (i := 567) (by decide +kernel), List.mem_of_getElem? (i := 568) (by decide +kernel)⟩
theorem lw_p7 : lw_okq (⟨"OneMachine$Rules", "fillMustBeDone", "(LOneMachine$Jobs;)V"⟩, 5) := ⟨⟨by decide +kernel, by decide +kernel⟩, List.mem_of_getElem? (i := 123) (by decide +kernel), List.mem_of_getElem? (i := 589) (by decide +kernel), List.mem_of_getElem? (i := 590) (by decide +kernel)⟩
theorem lw_p8 : lw_okq (⟨"OneMachine$Rules", "fillLeastLateness", "(LOneMachine$Jobs;)V"⟩, 5) := ⟨⟨by decide +kernel, by decide +kernel⟩, List.mem_of_getElem? (i := 123) (by decide +kernel), List.mem_of_getElem? (i := 593) (by decide +kernel), List.mem_of_getElem? (i := 594) (by decide +kernel)⟩
theorem lw_p9 : lw_okq (⟨"OneMachine$Rules", "keepsFamilyOrders", "(LOneMachine$Jobs;I)Z"⟩, 5) := ⟨⟨by decide +kernel, by decide +kernel⟩, List.mem_of_getElem? (i := 123) (by decide +kernel), List.mem_of_getElem? (i := 601) (by decide +kernel), List.mem_of_getElem? (i := 602) (by decide +kernel)⟩
theorem lw_p10 : lw_okq (⟨"OneMachine$Rules", "leastLatenessFrom", "(LOneMachine$Jobs;II)I"⟩, 5) := ⟨⟨by decide +kernel, by decide +kernel⟩, List.mem_of_getElem? (i := 123) (by decide +kernel), List.mem_of_getElem? (i := 605) (by decide +kernel), List.mem_of_getElem? (i := 606) (by decide +kernel)⟩
theorem lw_p11 : lw_okq (⟨"OneMachine$Rules", "isNext", "(LOneMachine$Jobs;II)Z"⟩, 5) := ⟨⟨by decide +kernel, by decide +kernel⟩, List.mem_of_getElem? (i := 123) (by decide +kernel), List.mem_of_getElem? (i := 609) (by decide +kernel), List.mem_of_getElem? (i := 610) (by decide +kernel)⟩
theorem lw_p12 : lw_okq (⟨"OneMachine$Rules", "latenessBy", "(LOneMachine$Jobs;III)I"⟩, 5) := ⟨⟨by decide +kernel, by decide +kernel⟩, List.mem_of_getElem? (i := 123) (by decide +kernel), List.mem_of_getElem? (i := 613) (by decide +kernel), List.mem_of_getElem? (i := 614) (by decide +kernel)⟩
theorem lw_p13 : lw_okq (⟨"OneMachine$Preemption", "shortestAt", "(LOneMachine$Jobs;I)I"⟩, 2) := ⟨⟨by decide +kernel, by decide +kernel⟩, List.mem_of_getElem? (i := 146) (by decide +kernel), List.mem_of_getElem? (i := 637) (by decide +kernel), List.mem_of_getElem? (i := 638) (by decide +kernel)⟩
theorem lw_p14 : lw_okq (⟨"OneMachine$Preemption", "isOpen", "(LOneMachine$Jobs;II)Z"⟩, 2) := ⟨⟨by decide +kernel, by decide +kernel⟩, List.mem_of_getElem? (i := 146) (by decide +kernel), List.mem_of_getElem? (i := 642) (by decide +kernel), List.mem_of_getElem? (i := 643) (by decide +kernel)⟩
theorem lw_p15 : lw_okq (⟨"OneMachine$Preemption", "firstByDateAt", "(LOneMachine$Jobs;I)I"⟩, 2) := ⟨⟨by decide +kernel, by decide +kernel⟩, List.mem_of_getElem? (i := 146) (by decide +kernel), List.mem_of_getElem? (i := 646) (by decide +kernel), List.mem_of_getElem? (i := 647) (by decide +kernel)⟩
def lw_privs_1 : List (MethodName × Nat) := [(⟨"OneMachine$Sets", "isOnTimeByDue", "(LOneMachine$Jobs;I)Z"⟩, 1), (⟨"java/lang/Throwable", "fillInStackTrace", "(I)Ljava/lang/Throwable;"⟩, 6), (⟨"OneMachine", "needJob", "(I)V"⟩, 7), (⟨"OneMachine", "needSomeJob", "()V"⟩, 7), (⟨"OneMachine$Rules", "putDroppedBehind", "(LOneMachine$Jobs;II)V"⟩, 5), (⟨"OneMachine$Rules", "fillLeastTardiness", "(LOneMachine$Jobs;)V"⟩, 5), (⟨"OneMachine$Rules", "tardinessBy", "(LOneMachine$Jobs;III)I"⟩, 5), (⟨"OneMachine$Rules", "fillMustBeDone", "(LOneMachine$Jobs;)V"⟩, 5), (⟨"OneMachine$Rules", "fillLeastLateness", "(LOneMachine$Jobs;)V"⟩, 5), (⟨"OneMachine$Rules", "keepsFamilyOrders", "(LOneMachine$Jobs;I)Z"⟩, 5), (⟨"OneMachine$Rules", "leastLatenessFrom", "(LOneMachine$Jobs;II)I"⟩, 5), (⟨"OneMachine$Rules", "isNext", "(LOneMachine$Jobs;II)Z"⟩, 5), (⟨"OneMachine$Rules", "latenessBy", "(LOneMachine$Jobs;III)I"⟩, 5), (⟨"OneMachine$Preemption", "shortestAt", "(LOneMachine$Jobs;I)I"⟩, 2), (⟨"OneMachine$Preemption", "isOpen", "(LOneMachine$Jobs;II)Z"⟩, 2), (⟨"OneMachine$Preemption", "firstByDateAt", "(LOneMachine$Jobs;I)I"⟩, 2)]
theorem lw_r1 : ∀ q ∈ lw_privs_1, lw_okq q := List.forall_mem_cons.mpr ⟨lw_p0, List.forall_mem_cons.mpr ⟨lw_p1, List.forall_mem_cons.mpr ⟨lw_p2, List.forall_mem_cons.mpr ⟨lw_p3, List.forall_mem_cons.mpr ⟨lw_p4, List.forall_mem_cons.mpr ⟨lw_p5, List.forall_mem_cons.mpr ⟨lw_p6, List.forall_mem_cons.mpr ⟨lw_p7, List.forall_mem_cons.mpr ⟨lw_p8, List.forall_mem_cons.mpr ⟨lw_p9, List.forall_mem_cons.mpr ⟨lw_p10, List.forall_mem_cons.mpr ⟨lw_p11, List.forall_mem_cons.mpr ⟨lw_p12, List.forall_mem_cons.mpr ⟨lw_p13, List.forall_mem_cons.mpr ⟨lw_p14, List.forall_mem_cons.mpr ⟨lw_p15, fun _ h => absurd h List.not_mem_nil⟩⟩⟩⟩⟩⟩⟩⟩⟩⟩⟩⟩⟩⟩⟩⟩
theorem lw_p16 : lw_okq (⟨"OneMachine", "needPiece", "(I)V"⟩, 7) := ⟨⟨by decide +kernel, by decide +kernel⟩, List.mem_of_getElem? (i := 25) (by decide +kernel), List.mem_of_getElem? (i := 671) (by decide +kernel), List.mem_of_getElem? (i := 672) (by decide +kernel)⟩
theorem lw_p17 : lw_okq (⟨"OneMachine", "needPlan", "()V"⟩, 7) := ⟨⟨by decide +kernel, by decide +kernel⟩, List.mem_of_getElem? (i := 25) (by decide +kernel), List.mem_of_getElem? (i := 704) (by decide +kernel), List.mem_of_getElem? (i := 705) (by decide +kernel)⟩
theorem lw_p18 : lw_okq (⟨"OneMachine", "needFewJobs", "()V"⟩, 7) := ⟨⟨by decide +kernel, by decide +kernel⟩, List.mem_of_getElem? (i := 25) (by decide +kernel), List.mem_of_getElem? (i := 760) (by decide +kernel), List.mem_of_getElem? (i := 761) (by decide +kernel)⟩
theorem lw_p19 : lw_okq (⟨"OneMachine$Orders", "endBehind", "(LOneMachine$Jobs;IIII)I"⟩, 4) := ⟨⟨by decide +kernel, by decide +kernel⟩, List.mem_of_getElem? (i := 159) (by decide +kernel), List.mem_of_getElem? (i := 780) (by decide +kernel), List.mem_of_getElem? (i := 781) (by decide +kernel)⟩
theorem lw_p20 : lw_okq (⟨"OneMachine$Orders", "endInGaps", "(LOneMachine$Jobs;II)I"⟩, 4) := ⟨⟨by decide +kernel, by decide +kernel⟩, List.mem_of_getElem? (i := 159) (by decide +kernel), List.mem_of_getElem? (i := 790) (by decide +kernel), List.mem_of_getElem? (i := 791) (by decide +kernel)⟩
theorem lw_p21 : lw_okq (⟨"OneMachine$Window", "tryWindow", "(LOneMachine$Jobs;ZII)V"⟩, 3) := ⟨⟨by decide +kernel, by decide +kernel⟩, List.mem_of_getElem? (i := 192) (by decide +kernel), List.mem_of_getElem? (i := 860) (by decide +kernel), List.mem_of_getElem? (i := 861) (by decide +kernel)⟩
theorem lw_p22 : lw_okq (⟨"OneMachine$Window", "isBetter", "(III)Z"⟩, 3) := ⟨⟨by decide +kernel, by decide +kernel⟩, List.mem_of_getElem? (i := 192) (by decide +kernel), List.mem_of_getElem? (i := 867) (by decide +kernel), List.mem_of_getElem? (i := 868) (by decide +kernel)⟩
theorem lw_p23 : lw_okq (⟨"OneMachineModel", "holds", "(I)Z"⟩, 20) := ⟨⟨by decide +kernel, by decide +kernel⟩, List.mem_of_getElem? (i := 885) (by decide +kernel), List.mem_of_getElem? (i := 967) (by decide +kernel), List.mem_of_getElem? (i := 968) (by decide +kernel)⟩
theorem lw_p24 : lw_okq (⟨"OneMachineModel", "lays", "(IIIIII)V"⟩, 20) := ⟨⟨by decide +kernel, by decide +kernel⟩, List.mem_of_getElem? (i := 885) (by decide +kernel), List.mem_of_getElem? (i := 971) (by decide +kernel), List.mem_of_getElem? (i := 972) (by decide +kernel)⟩
theorem lw_p25 : lw_okq (⟨"OneMachineModel", "drops", "()V"⟩, 20) := ⟨⟨by decide +kernel, by decide +kernel⟩, List.mem_of_getElem? (i := 885) (by decide +kernel), List.mem_of_getElem? (i := 975) (by decide +kernel), List.mem_of_getElem? (i := 976) (by decide +kernel)⟩
theorem lw_p26 : lw_okq (⟨"OneMachineModel", "isJob", "(I)Z"⟩, 20) := ⟨⟨by decide +kernel, by decide +kernel⟩, List.mem_of_getElem? (i := 885) (by decide +kernel), List.mem_of_getElem? (i := 983) (by decide +kernel), List.mem_of_getElem? (i := 984) (by decide +kernel)⟩
theorem lw_p27 : lw_okq (⟨"OneMachineModel", "hasJobs", "()Z"⟩, 20) := ⟨⟨by decide +kernel, by decide +kernel⟩, List.mem_of_getElem? (i := 885) (by decide +kernel), List.mem_of_getElem? (i := 1003) (by decide +kernel), List.mem_of_getElem? (i := 1004) (by decide +kernel)⟩
theorem lw_p28 : lw_okq (⟨"OneMachineModel", "laysOrder", "(Z)V"⟩, 20) := ⟨⟨by decide +kernel, by decide +kernel⟩, List.mem_of_getElem? (i := 885) (by decide +kernel), List.mem_of_getElem? (i := 1007) (by decide +kernel), List.mem_of_getElem? (i := 1008) (by decide +kernel)⟩
theorem lw_p29 : lw_okq (⟨"OneMachineModel", "comesByDue", "(II)Z"⟩, 20) := ⟨⟨by decide +kernel, by decide +kernel⟩, List.mem_of_getElem? (i := 885) (by decide +kernel), List.mem_of_getElem? (i := 1011) (by decide +kernel), List.mem_of_getElem? (i := 1012) (by decide +kernel)⟩
theorem lw_p30 : lw_okq (⟨"OneMachineModel", "comesByRatio", "(II)Z"⟩, 20) := ⟨⟨by decide +kernel, by decide +kernel⟩, List.mem_of_getElem? (i := 885) (by decide +kernel), List.mem_of_getElem? (i := 1015) (by decide +kernel), List.mem_of_getElem? (i := 1016) (by decide +kernel)⟩
theorem lw_p31 : lw_okq (⟨"OneMachineModel", "worksInOrder", "()V"⟩, 20) := ⟨⟨by decide +kernel, by decide +kernel⟩, List.mem_of_getElem? (i := 885) (by decide +kernel), List.mem_of_getElem? (i := 1019) (by decide +kernel), List.mem_of_getElem? (i := 1020) (by decide +kernel)⟩
def lw_privs_2 : List (MethodName × Nat) := [(⟨"OneMachine", "needPiece", "(I)V"⟩, 7), (⟨"OneMachine", "needPlan", "()V"⟩, 7), (⟨"OneMachine", "needFewJobs", "()V"⟩, 7), (⟨"OneMachine$Orders", "endBehind", "(LOneMachine$Jobs;IIII)I"⟩, 4), (⟨"OneMachine$Orders", "endInGaps", "(LOneMachine$Jobs;II)I"⟩, 4), (⟨"OneMachine$Window", "tryWindow", "(LOneMachine$Jobs;ZII)V"⟩, 3), (⟨"OneMachine$Window", "isBetter", "(III)Z"⟩, 3), (⟨"OneMachineModel", "holds", "(I)Z"⟩, 20), (⟨"OneMachineModel", "lays", "(IIIIII)V"⟩, 20), (⟨"OneMachineModel", "drops", "()V"⟩, 20), (⟨"OneMachineModel", "isJob", "(I)Z"⟩, 20), (⟨"OneMachineModel", "hasJobs", "()Z"⟩, 20), (⟨"OneMachineModel", "laysOrder", "(Z)V"⟩, 20), (⟨"OneMachineModel", "comesByDue", "(II)Z"⟩, 20), (⟨"OneMachineModel", "comesByRatio", "(II)Z"⟩, 20), (⟨"OneMachineModel", "worksInOrder", "()V"⟩, 20)]
theorem lw_r2 : ∀ q ∈ lw_privs_2, lw_okq q := List.forall_mem_cons.mpr ⟨lw_p16, List.forall_mem_cons.mpr ⟨lw_p17, List.forall_mem_cons.mpr ⟨lw_p18, List.forall_mem_cons.mpr ⟨lw_p19, List.forall_mem_cons.mpr ⟨lw_p20, List.forall_mem_cons.mpr ⟨lw_p21, List.forall_mem_cons.mpr ⟨lw_p22, List.forall_mem_cons.mpr ⟨lw_p23, List.forall_mem_cons.mpr ⟨lw_p24, List.forall_mem_cons.mpr ⟨lw_p25, List.forall_mem_cons.mpr ⟨lw_p26, List.forall_mem_cons.mpr ⟨lw_p27, List.forall_mem_cons.mpr ⟨lw_p28, List.forall_mem_cons.mpr ⟨lw_p29, List.forall_mem_cons.mpr ⟨lw_p30, List.forall_mem_cons.mpr ⟨lw_p31, fun _ h => absurd h List.not_mem_nil⟩⟩⟩⟩⟩⟩⟩⟩⟩⟩⟩⟩⟩⟩⟩⟩
theorem lw_p32 : lw_okq (⟨"OneMachineModel", "begins", "()V"⟩, 20) := ⟨⟨by decide +kernel, by decide +kernel⟩, List.mem_of_getElem? (i := 885) (by decide +kernel), List.mem_of_getElem? (i := 1023) (by decide +kernel), List.mem_of_getElem? (i := 1024) (by decide +kernel)⟩
theorem lw_p33 : lw_okq (⟨"OneMachineModel", "works", "(III)V"⟩, 20) := ⟨⟨by decide +kernel, by decide +kernel⟩, List.mem_of_getElem? (i := 885) (by decide +kernel), List.mem_of_getElem? (i := 1027) (by decide +kernel), List.mem_of_getElem? (i := 1028) (by decide +kernel)⟩
theorem lw_p34 : lw_okq (⟨"OneMachineModel", "now", "()I"⟩, 20) := ⟨⟨by decide +kernel, by decide +kernel⟩, List.mem_of_getElem? (i := 885) (by decide +kernel), List.mem_of_getElem? (i := 1031) (by decide +kernel), List.mem_of_getElem? (i := 1032) (by decide +kernel)⟩
theorem lw_p35 : lw_okq (⟨"OneMachineModel", "greatest", "()I"⟩, 20) := ⟨⟨by decide +kernel, by decide +kernel⟩, List.mem_of_getElem? (i := 885) (by decide +kernel), List.mem_of_getElem? (i := 1035) (by decide +kernel), List.mem_of_getElem? (i := 1036) (by decide +kernel)⟩
theorem lw_p36 : lw_okq (⟨"OneMachineModel", "lengthOf", "(I)I"⟩, 20) := ⟨⟨by decide +kernel, by decide +kernel⟩, List.mem_of_getElem? (i := 885) (by decide +kernel), List.mem_of_getElem? (i := 1044) (by decide +kernel), List.mem_of_getElem? (i := 1045) (by decide +kernel)⟩
theorem lw_p37 : lw_okq (⟨"OneMachineModel", "sum", "(I)I"⟩, 20) := ⟨⟨by decide +kernel, by decide +kernel⟩, List.mem_of_getElem? (i := 885) (by decide +kernel), List.mem_of_getElem? (i := 1052) (by decide +kernel), List.mem_of_getElem? (i := 1053) (by decide +kernel)⟩
theorem lw_p38 : lw_okq (⟨"OneMachineModel", "tardy", "(II)I"⟩, 20) := ⟨⟨by decide +kernel, by decide +kernel⟩, List.mem_of_getElem? (i := 885) (by decide +kernel), List.mem_of_getElem? (i := 1056) (by decide +kernel), List.mem_of_getElem? (i := 1057) (by decide +kernel)⟩
theorem lw_p39 : lw_okq (⟨"OneMachineModel", "costs", "(I)V"⟩, 20) := ⟨⟨by decide +kernel, by decide +kernel⟩, List.mem_of_getElem? (i := 885) (by decide +kernel), List.mem_of_getElem? (i := 1064) (by decide +kernel), List.mem_of_getElem? (i := 1065) (by decide +kernel)⟩
theorem lw_p40 : lw_okq (⟨"OneMachineModel", "joined", "(IIII)I"⟩, 20) := ⟨⟨by decide +kernel, by decide +kernel⟩, List.mem_of_getElem? (i := 885) (by decide +kernel), List.mem_of_getElem? (i := 1069) (by decide +kernel), List.mem_of_getElem? (i := 1070) (by decide +kernel)⟩
theorem lw_p41 : lw_okq (⟨"OneMachineModel", "costsBehind", "(Z)V"⟩, 20) := ⟨⟨by decide +kernel, by decide +kernel⟩, List.mem_of_getElem? (i := 885) (by decide +kernel), List.mem_of_getElem? (i := 1077) (by decide +kernel), List.mem_of_getElem? (i := 1078) (by decide +kernel)⟩
theorem lw_p42 : lw_okq (⟨"OneMachineModel", "isNext", "(II)Z"⟩, 20) := ⟨⟨by decide +kernel, by decide +kernel⟩, List.mem_of_getElem? (i := 885) (by decide +kernel), List.mem_of_getElem? (i := 1081) (by decide +kernel), List.mem_of_getElem? (i := 1082) (by decide +kernel)⟩
theorem lw_p43 : lw_okq (⟨"OneMachineModel", "taken", "(II)I"⟩, 20) := ⟨⟨by decide +kernel, by decide +kernel⟩, List.mem_of_getElem? (i := 885) (by decide +kernel), List.mem_of_getElem? (i := 1085) (by decide +kernel), List.mem_of_getElem? (i := 1086) (by decide +kernel)⟩
theorem lw_p44 : lw_okq (⟨"OneMachineModel", "worksByTime", "(Z)V"⟩, 20) := ⟨⟨by decide +kernel, by decide +kernel⟩, List.mem_of_getElem? (i := 885) (by decide +kernel), List.mem_of_getElem? (i := 1093) (by decide +kernel), List.mem_of_getElem? (i := 1094) (by decide +kernel)⟩
theorem lw_p45 : lw_okq (⟨"OneMachineModel", "worked", "(IZ)I"⟩, 20) := ⟨⟨by decide +kernel, by decide +kernel⟩, List.mem_of_getElem? (i := 885) (by decide +kernel), List.mem_of_getElem? (i := 1097) (by decide +kernel), List.mem_of_getElem? (i := 1098) (by decide +kernel)⟩
theorem lw_p46 : lw_okq (⟨"OneMachineModel", "isPiece", "(I)Z"⟩, 20) := ⟨⟨by decide +kernel, by decide +kernel⟩, List.mem_of_getElem? (i := 885) (by decide +kernel), List.mem_of_getElem? (i := 1117) (by decide +kernel), List.mem_of_getElem? (i := 1118) (by decide +kernel)⟩
theorem lw_p47 : lw_okq (⟨"OneMachineModel", "isPlanned", "(I)Z"⟩, 20) := ⟨⟨by decide +kernel, by decide +kernel⟩, List.mem_of_getElem? (i := 885) (by decide +kernel), List.mem_of_getElem? (i := 1137) (by decide +kernel), List.mem_of_getElem? (i := 1138) (by decide +kernel)⟩
def lw_privs_3 : List (MethodName × Nat) := [(⟨"OneMachineModel", "begins", "()V"⟩, 20), (⟨"OneMachineModel", "works", "(III)V"⟩, 20), (⟨"OneMachineModel", "now", "()I"⟩, 20), (⟨"OneMachineModel", "greatest", "()I"⟩, 20), (⟨"OneMachineModel", "lengthOf", "(I)I"⟩, 20), (⟨"OneMachineModel", "sum", "(I)I"⟩, 20), (⟨"OneMachineModel", "tardy", "(II)I"⟩, 20), (⟨"OneMachineModel", "costs", "(I)V"⟩, 20), (⟨"OneMachineModel", "joined", "(IIII)I"⟩, 20), (⟨"OneMachineModel", "costsBehind", "(Z)V"⟩, 20), (⟨"OneMachineModel", "isNext", "(II)Z"⟩, 20), (⟨"OneMachineModel", "taken", "(II)I"⟩, 20), (⟨"OneMachineModel", "worksByTime", "(Z)V"⟩, 20), (⟨"OneMachineModel", "worked", "(IZ)I"⟩, 20), (⟨"OneMachineModel", "isPiece", "(I)Z"⟩, 20), (⟨"OneMachineModel", "isPlanned", "(I)Z"⟩, 20)]
theorem lw_r3 : ∀ q ∈ lw_privs_3, lw_okq q := List.forall_mem_cons.mpr ⟨lw_p32, List.forall_mem_cons.mpr ⟨lw_p33, List.forall_mem_cons.mpr ⟨lw_p34, List.forall_mem_cons.mpr ⟨lw_p35, List.forall_mem_cons.mpr ⟨lw_p36, List.forall_mem_cons.mpr ⟨lw_p37, List.forall_mem_cons.mpr ⟨lw_p38, List.forall_mem_cons.mpr ⟨lw_p39, List.forall_mem_cons.mpr ⟨lw_p40, List.forall_mem_cons.mpr ⟨lw_p41, List.forall_mem_cons.mpr ⟨lw_p42, List.forall_mem_cons.mpr ⟨lw_p43, List.forall_mem_cons.mpr ⟨lw_p44, List.forall_mem_cons.mpr ⟨lw_p45, List.forall_mem_cons.mpr ⟨lw_p46, List.forall_mem_cons.mpr ⟨lw_p47, fun _ h => absurd h List.not_mem_nil⟩⟩⟩⟩⟩⟩⟩⟩⟩⟩⟩⟩⟩⟩⟩⟩
theorem lw_p48 : lw_okq (⟨"OneMachineModel", "areFew", "()Z"⟩, 20) := ⟨⟨by decide +kernel, by decide +kernel⟩, List.mem_of_getElem? (i := 885) (by decide +kernel), List.mem_of_getElem? (i := 1169) (by decide +kernel), List.mem_of_getElem? (i := 1170) (by decide +kernel)⟩
theorem lw_p49 : lw_okq (⟨"OneMachineModel", "leastBy", "(I)I"⟩, 20) := ⟨⟨by decide +kernel, by decide +kernel⟩, List.mem_of_getElem? (i := 885) (by decide +kernel), List.mem_of_getElem? (i := 1173) (by decide +kernel), List.mem_of_getElem? (i := 1174) (by decide +kernel)⟩
theorem lw_p50 : lw_okq (⟨"OneMachineModel", "leastOfPriorities", "(I)I"⟩, 20) := ⟨⟨by decide +kernel, by decide +kernel⟩, List.mem_of_getElem? (i := 885) (by decide +kernel), List.mem_of_getElem? (i := 1193) (by decide +kernel), List.mem_of_getElem? (i := 1194) (by decide +kernel)⟩
theorem lw_p51 : lw_okq (⟨"OneMachineModel", "worth", "(I)I"⟩, 20) := ⟨⟨by decide +kernel, by decide +kernel⟩, List.mem_of_getElem? (i := 885) (by decide +kernel), List.mem_of_getElem? (i := 1197) (by decide +kernel), List.mem_of_getElem? (i := 1198) (by decide +kernel)⟩
theorem lw_p52 : lw_okq (⟨"OneMachineModel", "takes", "(I)I"⟩, 20) := ⟨⟨by decide +kernel, by decide +kernel⟩, List.mem_of_getElem? (i := 885) (by decide +kernel), List.mem_of_getElem? (i := 1201) (by decide +kernel), List.mem_of_getElem? (i := 1202) (by decide +kernel)⟩
theorem lw_p53 : lw_okq (⟨"OneMachineModel", "bound", "(IIZ)I"⟩, 20) := ⟨⟨by decide +kernel, by decide +kernel⟩, List.mem_of_getElem? (i := 885) (by decide +kernel), List.mem_of_getElem? (i := 1221) (by decide +kernel), List.mem_of_getElem? (i := 1222) (by decide +kernel)⟩
theorem lw_p54 : lw_okq (⟨"OneMachineModel", "releaseOf", "(IZ)I"⟩, 20) := ⟨⟨by decide +kernel, by decide +kernel⟩, List.mem_of_getElem? (i := 885) (by decide +kernel), List.mem_of_getElem? (i := 1225) (by decide +kernel), List.mem_of_getElem? (i := 1226) (by decide +kernel)⟩
theorem lw_p55 : lw_okq (⟨"OneMachineModel", "windowJob", "(Z)I"⟩, 20) := ⟨⟨by decide +kernel, by decide +kernel⟩, List.mem_of_getElem? (i := 885) (by decide +kernel), List.mem_of_getElem? (i := 1233) (by decide +kernel), List.mem_of_getElem? (i := 1234) (by decide +kernel)⟩
def lw_privs_4 : List (MethodName × Nat) := [(⟨"OneMachineModel", "areFew", "()Z"⟩, 20), (⟨"OneMachineModel", "leastBy", "(I)I"⟩, 20), (⟨"OneMachineModel", "leastOfPriorities", "(I)I"⟩, 20), (⟨"OneMachineModel", "worth", "(I)I"⟩, 20), (⟨"OneMachineModel", "takes", "(I)I"⟩, 20), (⟨"OneMachineModel", "bound", "(IIZ)I"⟩, 20), (⟨"OneMachineModel", "releaseOf", "(IZ)I"⟩, 20), (⟨"OneMachineModel", "windowJob", "(Z)I"⟩, 20)]
theorem lw_r4 : ∀ q ∈ lw_privs_4, lw_okq q := List.forall_mem_cons.mpr ⟨lw_p48, List.forall_mem_cons.mpr ⟨lw_p49, List.forall_mem_cons.mpr ⟨lw_p50, List.forall_mem_cons.mpr ⟨lw_p51, List.forall_mem_cons.mpr ⟨lw_p52, List.forall_mem_cons.mpr ⟨lw_p53, List.forall_mem_cons.mpr ⟨lw_p54, List.forall_mem_cons.mpr ⟨lw_p55, fun _ h => absurd h List.not_mem_nil⟩⟩⟩⟩⟩⟩⟩⟩
def lw_privs : List (MethodName × Nat) := lw_privs_1 ++ (lw_privs_2 ++ (lw_privs_3 ++ (lw_privs_4)))
def lw_tbl : List Cond := k2_sels lw_privs ++ tables_1
theorem lw_privs_ok : ∀ q ∈ lw_privs, lw_okq q := by
  show ∀ q ∈ lw_privs_1 ++ (lw_privs_2 ++ (lw_privs_3 ++ (lw_privs_4))), lw_okq q
  exact List.forall_mem_append.mpr ⟨lw_r1, List.forall_mem_append.mpr ⟨lw_r2, List.forall_mem_append.mpr ⟨lw_r3, lw_r4⟩⟩⟩

/-! ===== BEGIN words of one list among another's, by their places ===== -/
theorem goodIn_r {big : List Cond} (ws : List Cond) (ps : List Nat) (hp : ws = ps.filterMap (fun i => big[i]?)) (h : ws.all goodWord = true) : GoodIn big ws := by
  intro w hw
  have h1 := List.all_eq_true.mp h w hw
  rw [hp] at hw
  obtain ⟨i, -, hi⟩ := List.mem_filterMap.mp hw
  have hm : w ∈ big := by first | exact List.mem_of_getElem? hi | exact List.getElem?_mem hi
  exact ⟨hm, good_of_word h1⟩
theorem goodIn_app {big a b : List Cond} (ha : GoodIn big a) (hb : GoodIn big b) : GoodIn big (a ++ b) := fun w h => (List.mem_append.mp h).elim (ha w) (hb w)
theorem goodIn_ca {big a b : List Cond} {c : Cond} (ha : GoodIn big (c :: a)) (hb : GoodIn big b) : GoodIn big (c :: (a ++ b)) := fun w h => (List.mem_cons.mp h).elim (fun e => ha w (List.mem_cons.mpr (Or.inl e))) (fun h => (List.mem_append.mp h).elim (fun h => ha w (List.mem_cons.mpr (Or.inr h))) (hb w))
theorem goodIn_sub {big ws : List Cond} (hm : ∀ w ∈ ws, w ∈ big) (h : ws.all goodWord = true) : GoodIn big ws := fun w hw => ⟨hm w hw, good_of_word (List.all_eq_true.mp h w hw)⟩
/-! ===== END ===== -/


def RX0 : String := "OneMachine$1"
def TX0 : u_T := fun k => match k with
  | _ => ("", "", "", false)
def tyX0 : Nat → FieldType := fun k => match k with
  | _ => .int
abbrev wsX00 : List Cond := u_ws RX0 TX0 0
theorem nmX0 : ∀ a, a < 0 → ∀ b, b < 0 → a ≠ b → (TX0 a).2.1 ≠ (TX0 b).2.1 := by decide +kernel
theorem tyX0_ok : ∀ k, k < 0 → parseFieldDescriptor (TX0 k).2.2.1 = some (tyX0 k) := by decide +kernel
def RX1 : String := "OneMachine$Cost"
def TX1 : u_T := fun k => match k with
  | _ => ("", "", "", false)
def tyX1 : Nat → FieldType := fun k => match k with
  | _ => .int
abbrev wsX10 : List Cond := u_ws RX1 TX1 0
theorem nmX1 : ∀ a, a < 0 → ∀ b, b < 0 → a ≠ b → (TX1 a).2.1 ≠ (TX1 b).2.1 := by decide +kernel
theorem tyX1_ok : ∀ k, k < 0 → parseFieldDescriptor (TX1 k).2.2.1 = some (tyX1 k) := by decide +kernel
abbrev cX1_ofNoJob : ByteArray := prog_3_method_4_code
def yX1_ofNoJob : MethodName := ⟨RX1, "ofNoJob", "()I"⟩
abbrev cX1_with : ByteArray := prog_3_method_5_code
def yX1_with : MethodName := ⟨RX1, "with", "(ILOneMachine$Jobs;II)I"⟩
def RX2 : String := "OneMachine$Jobs"
def TX2 : u_T := fun k => match k with
  | 0 => ("OneMachine$Jobs", "count", "I", false)
  | 1 => ("OneMachine$Jobs", "length", "[I", true)
  | 2 => ("OneMachine$Jobs", "due", "[I", true)
  | 3 => ("OneMachine$Jobs", "weight", "[I", true)
  | 4 => ("OneMachine$Jobs", "release", "[I", true)
  | 5 => ("OneMachine$Jobs", "family", "[I", true)
  | _ => ("OneMachine$Jobs", "setup", "[I", true)
def tyX2 : Nat → FieldType := fun k => match k with
  | 0 => .int
  | 1 => .array .int
  | 2 => .array .int
  | 3 => .array .int
  | 4 => .array .int
  | 5 => .array .int
  | _ => .array .int
abbrev wsX20 : List Cond := u_ws RX2 TX2 7
theorem nmX2 : ∀ a, a < 7 → ∀ b, b < 7 → a ≠ b → (TX2 a).2.1 ≠ (TX2 b).2.1 := by decide +kernel
theorem tyX2_ok : ∀ k, k < 7 → parseFieldDescriptor (TX2 k).2.2.1 = some (tyX2 k) := by decide +kernel
abbrev cX2_init : ByteArray := prog_4_method_1_code
def yX2_init : MethodName := ⟨RX2, "<init>", "()V"⟩
abbrev cX2_put : ByteArray := prog_4_method_2_code
def yX2_put : MethodName := ⟨RX2, "put", "(IIIIII)V"⟩
abbrev cX2_remove : ByteArray := prog_4_method_3_code
def yX2_remove : MethodName := ⟨RX2, "remove", "(I)V"⟩
abbrev cX2_all : ByteArray := prog_4_method_4_code
def yX2_all : MethodName := ⟨RX2, "all", "()I"⟩
abbrev cX2_isIn : ByteArray := prog_4_method_5_code
def yX2_isIn : MethodName := ⟨RX2, "isIn", "(II)Z"⟩
abbrev cX2_lengthOfSet : ByteArray := prog_4_method_6_code
def yX2_lengthOfSet : MethodName := ⟨RX2, "lengthOfSet", "(I)I"⟩
abbrev cX2_setupBehind : ByteArray := prog_4_method_7_code
def yX2_setupBehind : MethodName := ⟨RX2, "setupBehind", "(II)I"⟩
abbrev cX2_fillInOrder : ByteArray := prog_4_method_8_code
def yX2_fillInOrder : MethodName := ⟨RX2, "fillInOrder", "([ILOneMachine$Key;)V"⟩
def RX3 : String := "OneMachine$Key"
def TX3 : u_T := fun k => match k with
  | _ => ("", "", "", false)
def tyX3 : Nat → FieldType := fun k => match k with
  | _ => .int
abbrev wsX30 : List Cond := u_ws RX3 TX3 0
theorem nmX3 : ∀ a, a < 0 → ∀ b, b < 0 → a ≠ b → (TX3 a).2.1 ≠ (TX3 b).2.1 := by decide +kernel
theorem tyX3_ok : ∀ k, k < 0 → parseFieldDescriptor (TX3 k).2.2.1 = some (tyX3 k) := by decide +kernel
abbrev cX3_putsBehind : ByteArray := prog_5_method_4_code
def yX3_putsBehind : MethodName := ⟨RX3, "putsBehind", "(LOneMachine$Jobs;II)Z"⟩
def RX4 : String := "OneMachine$Orders"
def TX4 : u_T := fun k => match k with
  | 0 => ("OneMachine$Orders", "byRelease", "[I", true)
  | 1 => ("OneMachine$Orders", "way", "LOneMachine$Way;", false)
  | 2 => ("OneMachine$Orders", "cost", "LOneMachine$Cost;", false)
  | _ => ("OneMachine$Orders", "least", "I", false)
def tyX4 : Nat → FieldType := fun k => match k with
  | 0 => .array .int
  | 1 => .object "OneMachine$Way"
  | 2 => .object "OneMachine$Cost"
  | _ => .int
abbrev wsX40 : List Cond := u_ws RX4 TX4 4
theorem nmX4 : ∀ a, a < 4 → ∀ b, b < 4 → a ≠ b → (TX4 a).2.1 ≠ (TX4 b).2.1 := by decide +kernel
theorem tyX4_ok : ∀ k, k < 4 → parseFieldDescriptor (TX4 k).2.2.1 = some (tyX4 k) := by decide +kernel
abbrev cX4_init : ByteArray := prog_6_method_1_code
def yX4_init : MethodName := ⟨RX4, "<init>", "()V"⟩
abbrev cX4_least : ByteArray := prog_6_method_2_code
def yX4_least : MethodName := ⟨RX4, "least", "(LOneMachine$Jobs;LOneMachine$Way;LOneMachine$Cost;)I"⟩
abbrev cX4_tryAll : ByteArray := prog_6_method_3_code
def yX4_tryAll : MethodName := ⟨RX4, "tryAll", "(LOneMachine$Orders;LOneMachine$Jobs;IIIII)V"⟩
abbrev cX4_endBehind : ByteArray := prog_6_method_4_code
def yX4_endBehind : MethodName := ⟨RX4, "endBehind", "(LOneMachine$Jobs;IIII)I"⟩
abbrev cX4_endInGaps : ByteArray := prog_6_method_5_code
def yX4_endInGaps : MethodName := ⟨RX4, "endInGaps", "(LOneMachine$Jobs;II)I"⟩
def RX5 : String := "OneMachine$Plan"
def TX5 : u_T := fun k => match k with
  | 0 => ("OneMachine$Plan", "made", "Z", false)
  | 1 => ("OneMachine$Plan", "count", "I", false)
  | 2 => ("OneMachine$Plan", "kind", "[I", true)
  | 3 => ("OneMachine$Plan", "whose", "[I", true)
  | 4 => ("OneMachine$Plan", "end", "[I", true)
  | _ => ("OneMachine$Plan", "completion", "[I", true)
def tyX5 : Nat → FieldType := fun k => match k with
  | 0 => .boolean
  | 1 => .int
  | 2 => .array .int
  | 3 => .array .int
  | 4 => .array .int
  | _ => .array .int
abbrev wsX50 : List Cond := u_ws RX5 TX5 6
theorem nmX5 : ∀ a, a < 6 → ∀ b, b < 6 → a ≠ b → (TX5 a).2.1 ≠ (TX5 b).2.1 := by decide +kernel
theorem tyX5_ok : ∀ k, k < 6 → parseFieldDescriptor (TX5 k).2.2.1 = some (tyX5 k) := by decide +kernel
abbrev cX5_init : ByteArray := prog_7_method_1_code
def yX5_init : MethodName := ⟨RX5, "<init>", "()V"⟩
abbrev cX5_drop : ByteArray := prog_7_method_2_code
def yX5_drop : MethodName := ⟨RX5, "drop", "()V"⟩
abbrev cX5_begin : ByteArray := prog_7_method_3_code
def yX5_begin : MethodName := ⟨RX5, "begin", "()V"⟩
abbrev cX5_now : ByteArray := prog_7_method_4_code
def yX5_now : MethodName := ⟨RX5, "now", "()I"⟩
abbrev cX5_addWork : ByteArray := prog_7_method_5_code
def yX5_addWork : MethodName := ⟨RX5, "addWork", "(II)V"⟩
abbrev cX5_add : ByteArray := prog_7_method_6_code
def yX5_add : MethodName := ⟨RX5, "add", "(III)V"⟩
abbrev cX5_follow : ByteArray := prog_7_method_7_code
def yX5_follow : MethodName := ⟨RX5, "follow", "(LOneMachine$Jobs;[IZ)V"⟩
abbrev cX5_total : ByteArray := prog_7_method_8_code
def yX5_total : MethodName := ⟨RX5, "total", "(LOneMachine$Jobs;LOneMachine$Cost;)I"⟩
def RX6 : String := "OneMachine$Preemption"
def TX6 : u_T := fun k => match k with
  | 0 => ("OneMachine$Preemption", "byDue", "[I", true)
  | _ => ("OneMachine$Preemption", "remaining", "[I", true)
def tyX6 : Nat → FieldType := fun k => match k with
  | 0 => .array .int
  | _ => .array .int
abbrev wsX60 : List Cond := u_ws RX6 TX6 2
theorem nmX6 : ∀ a, a < 2 → ∀ b, b < 2 → a ≠ b → (TX6 a).2.1 ≠ (TX6 b).2.1 := by decide +kernel
theorem tyX6_ok : ∀ k, k < 2 → parseFieldDescriptor (TX6 k).2.2.1 = some (tyX6 k) := by decide +kernel
abbrev cX6_init : ByteArray := prog_8_method_1_code
def yX6_init : MethodName := ⟨RX6, "<init>", "()V"⟩
abbrev cX6_make : ByteArray := prog_8_method_2_code
def yX6_make : MethodName := ⟨RX6, "make", "(LOneMachine$Jobs;LOneMachine$Plan;Z)V"⟩
abbrev cX6_isOpen : ByteArray := prog_8_method_3_code
def yX6_isOpen : MethodName := ⟨RX6, "isOpen", "(LOneMachine$Jobs;II)Z"⟩
abbrev cX6_firstByDateAt : ByteArray := prog_8_method_4_code
def yX6_firstByDateAt : MethodName := ⟨RX6, "firstByDateAt", "(LOneMachine$Jobs;I)I"⟩
abbrev cX6_shortestAt : ByteArray := prog_8_method_5_code
def yX6_shortestAt : MethodName := ⟨RX6, "shortestAt", "(LOneMachine$Jobs;I)I"⟩
abbrev cX6_nextRelease : ByteArray := prog_8_method_6_code
def yX6_nextRelease : MethodName := ⟨RX6, "nextRelease", "(LOneMachine$Jobs;I)I"⟩
def RX7 : String := "OneMachine$Rules"
def TX7 : u_T := fun k => match k with
  | 0 => ("OneMachine$Rules", "order", "[I", true)
  | 1 => ("OneMachine$Rules", "byDue", "[I", true)
  | 2 => ("OneMachine$Rules", "dropped", "[I", true)
  | 3 => ("OneMachine$Rules", "mustBeDone", "[I", true)
  | _ => ("OneMachine$Rules", "rest", "[I", true)
def tyX7 : Nat → FieldType := fun k => match k with
  | 0 => .array .int
  | 1 => .array .int
  | 2 => .array .int
  | 3 => .array .int
  | _ => .array .int
abbrev wsX70 : List Cond := u_ws RX7 TX7 5
theorem nmX7 : ∀ a, a < 5 → ∀ b, b < 5 → a ≠ b → (TX7 a).2.1 ≠ (TX7 b).2.1 := by decide +kernel
theorem tyX7_ok : ∀ k, k < 5 → parseFieldDescriptor (TX7 k).2.2.1 = some (tyX7 k) := by decide +kernel
abbrev cX7_init : ByteArray := prog_9_method_1_code
def yX7_init : MethodName := ⟨RX7, "<init>", "()V"⟩
abbrev cX7_orderByDueDates : ByteArray := prog_9_method_2_code
def yX7_orderByDueDates : MethodName := ⟨RX7, "orderByDueDates", "(LOneMachine$Jobs;)V"⟩
abbrev cX7_orderByRatios : ByteArray := prog_9_method_3_code
def yX7_orderByRatios : MethodName := ⟨RX7, "orderByRatios", "(LOneMachine$Jobs;)V"⟩
abbrev cX7_orderWithFewestLate : ByteArray := prog_9_method_4_code
def yX7_orderWithFewestLate : MethodName := ⟨RX7, "orderWithFewestLate", "(LOneMachine$Jobs;)I"⟩
abbrev cX7_longestOf : ByteArray := prog_9_method_5_code
def yX7_longestOf : MethodName := ⟨RX7, "longestOf", "(LOneMachine$Jobs;I)I"⟩
abbrev cX7_putDroppedBehind : ByteArray := prog_9_method_6_code
def yX7_putDroppedBehind : MethodName := ⟨RX7, "putDroppedBehind", "(LOneMachine$Jobs;II)V"⟩
abbrev cX7_orderByTardiness : ByteArray := prog_9_method_7_code
def yX7_orderByTardiness : MethodName := ⟨RX7, "orderByTardiness", "(LOneMachine$Jobs;)V"⟩
abbrev cX7_fillLeastTardiness : ByteArray := prog_9_method_8_code
def yX7_fillLeastTardiness : MethodName := ⟨RX7, "fillLeastTardiness", "(LOneMachine$Jobs;)V"⟩
abbrev cX7_tardinessBy : ByteArray := prog_9_method_9_code
def yX7_tardinessBy : MethodName := ⟨RX7, "tardinessBy", "(LOneMachine$Jobs;III)I"⟩
abbrev cX7_orderByFamilies : ByteArray := prog_9_method_10_code
def yX7_orderByFamilies : MethodName := ⟨RX7, "orderByFamilies", "(LOneMachine$Jobs;)V"⟩
abbrev cX7_fillMustBeDone : ByteArray := prog_9_method_11_code
def yX7_fillMustBeDone : MethodName := ⟨RX7, "fillMustBeDone", "(LOneMachine$Jobs;)V"⟩
abbrev cX7_fillLeastLateness : ByteArray := prog_9_method_12_code
def yX7_fillLeastLateness : MethodName := ⟨RX7, "fillLeastLateness", "(LOneMachine$Jobs;)V"⟩
abbrev cX7_keepsFamilyOrders : ByteArray := prog_9_method_13_code
def yX7_keepsFamilyOrders : MethodName := ⟨RX7, "keepsFamilyOrders", "(LOneMachine$Jobs;I)Z"⟩
abbrev cX7_leastLatenessFrom : ByteArray := prog_9_method_14_code
def yX7_leastLatenessFrom : MethodName := ⟨RX7, "leastLatenessFrom", "(LOneMachine$Jobs;II)I"⟩
abbrev cX7_latenessBy : ByteArray := prog_9_method_15_code
def yX7_latenessBy : MethodName := ⟨RX7, "latenessBy", "(LOneMachine$Jobs;III)I"⟩
abbrev cX7_isNext : ByteArray := prog_9_method_16_code
def yX7_isNext : MethodName := ⟨RX7, "isNext", "(LOneMachine$Jobs;II)Z"⟩
abbrev cX7_state : ByteArray := prog_9_method_17_code
def yX7_state : MethodName := ⟨RX7, "state", "(II)I"⟩
def RX8 : String := "OneMachine$Sets"
def TX8 : u_T := fun k => match k with
  | _ => ("OneMachine$Sets", "byDue", "[I", true)
def tyX8 : Nat → FieldType := fun k => match k with
  | _ => .array .int
abbrev wsX80 : List Cond := u_ws RX8 TX8 1
theorem nmX8 : ∀ a, a < 1 → ∀ b, b < 1 → a ≠ b → (TX8 a).2.1 ≠ (TX8 b).2.1 := by decide +kernel
theorem tyX8_ok : ∀ k, k < 1 → parseFieldDescriptor (TX8 k).2.2.1 = some (tyX8 k) := by decide +kernel
abbrev cX8_init : ByteArray := prog_10_method_1_code
def yX8_init : MethodName := ⟨RX8, "<init>", "()V"⟩
abbrev cX8_isOnTime : ByteArray := prog_10_method_2_code
def yX8_isOnTime : MethodName := ⟨RX8, "isOnTime", "(LOneMachine$Jobs;I)Z"⟩
abbrev cX8_mostOnTime : ByteArray := prog_10_method_3_code
def yX8_mostOnTime : MethodName := ⟨RX8, "mostOnTime", "(LOneMachine$Jobs;)I"⟩
abbrev cX8_isOnTimeByDue : ByteArray := prog_10_method_4_code
def yX8_isOnTimeByDue : MethodName := ⟨RX8, "isOnTimeByDue", "(LOneMachine$Jobs;I)Z"⟩
def RX9 : String := "OneMachine$Way"
def TX9 : u_T := fun k => match k with
  | _ => ("", "", "", false)
def tyX9 : Nat → FieldType := fun k => match k with
  | _ => .int
abbrev wsX90 : List Cond := u_ws RX9 TX9 0
theorem nmX9 : ∀ a, a < 0 → ∀ b, b < 0 → a ≠ b → (TX9 a).2.1 ≠ (TX9 b).2.1 := by decide +kernel
theorem tyX9_ok : ∀ k, k < 0 → parseFieldDescriptor (TX9 k).2.2.1 = some (tyX9 k) := by decide +kernel
def RX10 : String := "OneMachine$Window"
def TX10 : u_T := fun k => match k with
  | 0 => ("OneMachine$Window", "bound", "I", false)
  | 1 => ("OneMachine$Window", "due", "I", false)
  | _ => ("OneMachine$Window", "release", "I", false)
def tyX10 : Nat → FieldType := fun k => match k with
  | 0 => .int
  | 1 => .int
  | _ => .int
abbrev wsX100 : List Cond := u_ws RX10 TX10 3
theorem nmX10 : ∀ a, a < 3 → ∀ b, b < 3 → a ≠ b → (TX10 a).2.1 ≠ (TX10 b).2.1 := by decide +kernel
theorem tyX10_ok : ∀ k, k < 3 → parseFieldDescriptor (TX10 k).2.2.1 = some (tyX10 k) := by decide +kernel
abbrev cX10_init : ByteArray := prog_12_method_1_code
def yX10_init : MethodName := ⟨RX10, "<init>", "()V"⟩
abbrev cX10_findGreatest : ByteArray := prog_12_method_2_code
def yX10_findGreatest : MethodName := ⟨RX10, "findGreatest", "(LOneMachine$Jobs;Z)V"⟩
abbrev cX10_tryWindow : ByteArray := prog_12_method_3_code
def yX10_tryWindow : MethodName := ⟨RX10, "tryWindow", "(LOneMachine$Jobs;ZII)V"⟩
abbrev cX10_isBetter : ByteArray := prog_12_method_4_code
def yX10_isBetter : MethodName := ⟨RX10, "isBetter", "(III)Z"⟩
abbrev cX10_lengthsWithin : ByteArray := prog_12_method_5_code
def yX10_lengthsWithin : MethodName := ⟨RX10, "lengthsWithin", "(LOneMachine$Jobs;ZII)I"⟩
def RX11 : String := "OneMachine"
def TX11 : u_T := fun k => match k with
  | 0 => ("OneMachine", "jobs", "LOneMachine$Jobs;", true)
  | 1 => ("OneMachine", "plan", "LOneMachine$Plan;", true)
  | 2 => ("OneMachine", "rules", "LOneMachine$Rules;", true)
  | 3 => ("OneMachine", "preemption", "LOneMachine$Preemption;", true)
  | 4 => ("OneMachine", "orders", "LOneMachine$Orders;", true)
  | 5 => ("OneMachine", "sets", "LOneMachine$Sets;", true)
  | _ => ("OneMachine", "window", "LOneMachine$Window;", true)
def tyX11 : Nat → FieldType := fun k => match k with
  | 0 => .object "OneMachine$Jobs"
  | 1 => .object "OneMachine$Plan"
  | 2 => .object "OneMachine$Rules"
  | 3 => .object "OneMachine$Preemption"
  | 4 => .object "OneMachine$Orders"
  | 5 => .object "OneMachine$Sets"
  | _ => .object "OneMachine$Window"
abbrev wsX110 : List Cond := u_ws RX11 TX11 7
theorem nmX11 : ∀ a, a < 7 → ∀ b, b < 7 → a ≠ b → (TX11 a).2.1 ≠ (TX11 b).2.1 := by decide +kernel
theorem tyX11_ok : ∀ k, k < 7 → parseFieldDescriptor (TX11 k).2.2.1 = some (tyX11 k) := by decide +kernel
abbrev cX11_init : ByteArray := prog_1_method_1_code
def yX11_init : MethodName := ⟨RX11, "<init>", "()V"⟩
abbrev cX11_addJob : ByteArray := prog_1_method_2_code
def yX11_addJob : MethodName := ⟨RX11, "addJob", "(IIIII)I"⟩
abbrev cX11_changeJob : ByteArray := prog_1_method_3_code
def yX11_changeJob : MethodName := ⟨RX11, "changeJob", "(IIIIII)V"⟩
abbrev cX11_removeJob : ByteArray := prog_1_method_4_code
def yX11_removeJob : MethodName := ⟨RX11, "removeJob", "(I)I"⟩
abbrev cX11_setSetup : ByteArray := prog_1_method_5_code
def yX11_setSetup : MethodName := ⟨RX11, "setSetup", "(II)I"⟩
abbrev cX11_jobs : ByteArray := prog_1_method_6_code
def yX11_jobs : MethodName := ⟨RX11, "jobs", "()I"⟩
abbrev cX11_planByDueDates : ByteArray := prog_1_method_7_code
def yX11_planByDueDates : MethodName := ⟨RX11, "planByDueDates", "()I"⟩
abbrev cX11_planFewestLate : ByteArray := prog_1_method_8_code
def yX11_planFewestLate : MethodName := ⟨RX11, "planFewestLate", "()I"⟩
abbrev cX11_planByRatios : ByteArray := prog_1_method_9_code
def yX11_planByRatios : MethodName := ⟨RX11, "planByRatios", "()I"⟩
abbrev cX11_planLeastTardiness : ByteArray := prog_1_method_10_code
def yX11_planLeastTardiness : MethodName := ⟨RX11, "planLeastTardiness", "()I"⟩
abbrev cX11_planByFamilies : ByteArray := prog_1_method_11_code
def yX11_planByFamilies : MethodName := ⟨RX11, "planByFamilies", "()I"⟩
abbrev cX11_planPreemptiveByDates : ByteArray := prog_1_method_12_code
def yX11_planPreemptiveByDates : MethodName := ⟨RX11, "planPreemptiveByDates", "()I"⟩
abbrev cX11_planPreemptiveShortest : ByteArray := prog_1_method_13_code
def yX11_planPreemptiveShortest : MethodName := ⟨RX11, "planPreemptiveShortest", "()I"⟩
abbrev cX11_hasPlan : ByteArray := prog_1_method_14_code
def yX11_hasPlan : MethodName := ⟨RX11, "hasPlan", "()Z"⟩
abbrev cX11_pieces : ByteArray := prog_1_method_15_code
def yX11_pieces : MethodName := ⟨RX11, "pieces", "()I"⟩
abbrev cX11_kindOf : ByteArray := prog_1_method_16_code
def yX11_kindOf : MethodName := ⟨RX11, "kindOf", "(I)I"⟩
abbrev cX11_whoseIs : ByteArray := prog_1_method_17_code
def yX11_whoseIs : MethodName := ⟨RX11, "whoseIs", "(I)I"⟩
abbrev cX11_startOf : ByteArray := prog_1_method_18_code
def yX11_startOf : MethodName := ⟨RX11, "startOf", "(I)I"⟩
abbrev cX11_endOf : ByteArray := prog_1_method_19_code
def yX11_endOf : MethodName := ⟨RX11, "endOf", "(I)I"⟩
abbrev cX11_completion : ByteArray := prog_1_method_20_code
def yX11_completion : MethodName := ⟨RX11, "completion", "(I)I"⟩
abbrev cX11_lateness : ByteArray := prog_1_method_21_code
def yX11_lateness : MethodName := ⟨RX11, "lateness", "(I)I"⟩
abbrev cX11_maxLateness : ByteArray := prog_1_method_22_code
def yX11_maxLateness : MethodName := ⟨RX11, "maxLateness", "()I"⟩
abbrev cX11_lateJobs : ByteArray := prog_1_method_23_code
def yX11_lateJobs : MethodName := ⟨RX11, "lateJobs", "()I"⟩
abbrev cX11_completions : ByteArray := prog_1_method_24_code
def yX11_completions : MethodName := ⟨RX11, "completions", "()I"⟩
abbrev cX11_weightedCompletions : ByteArray := prog_1_method_25_code
def yX11_weightedCompletions : MethodName := ⟨RX11, "weightedCompletions", "()I"⟩
abbrev cX11_weightedTardiness : ByteArray := prog_1_method_26_code
def yX11_weightedTardiness : MethodName := ⟨RX11, "weightedTardiness", "()I"⟩
abbrev cX11_leastLateness : ByteArray := prog_1_method_27_code
def yX11_leastLateness : MethodName := ⟨RX11, "leastLateness", "()I"⟩
abbrev cX11_leastCompletions : ByteArray := prog_1_method_28_code
def yX11_leastCompletions : MethodName := ⟨RX11, "leastCompletions", "()I"⟩
abbrev cX11_leastTardiness : ByteArray := prog_1_method_29_code
def yX11_leastTardiness : MethodName := ⟨RX11, "leastTardiness", "()I"⟩
abbrev cX11_leastWithSetups : ByteArray := prog_1_method_30_code
def yX11_leastWithSetups : MethodName := ⟨RX11, "leastWithSetups", "()I"⟩
abbrev cX11_leastPreemptiveLateness : ByteArray := prog_1_method_31_code
def yX11_leastPreemptiveLateness : MethodName := ⟨RX11, "leastPreemptiveLateness", "()I"⟩
abbrev cX11_leastPreemptiveCompletions : ByteArray := prog_1_method_32_code
def yX11_leastPreemptiveCompletions : MethodName := ⟨RX11, "leastPreemptiveCompletions", "()I"⟩
abbrev cX11_canBeOnTime : ByteArray := prog_1_method_33_code
def yX11_canBeOnTime : MethodName := ⟨RX11, "canBeOnTime", "(I)Z"⟩
abbrev cX11_fewestLateBySets : ByteArray := prog_1_method_34_code
def yX11_fewestLateBySets : MethodName := ⟨RX11, "fewestLateBySets", "()I"⟩
abbrev cX11_windowBound : ByteArray := prog_1_method_35_code
def yX11_windowBound : MethodName := ⟨RX11, "windowBound", "(Z)I"⟩
abbrev cX11_windowDue : ByteArray := prog_1_method_36_code
def yX11_windowDue : MethodName := ⟨RX11, "windowDue", "()I"⟩
abbrev cX11_windowRelease : ByteArray := prog_1_method_37_code
def yX11_windowRelease : MethodName := ⟨RX11, "windowRelease", "()I"⟩
abbrev cX11_isWithin : ByteArray := prog_1_method_38_code
def yX11_isWithin : MethodName := ⟨RX11, "isWithin", "(III)Z"⟩
abbrev cX11_needJobInRange : ByteArray := prog_1_method_39_code
def yX11_needJobInRange : MethodName := ⟨RX11, "needJobInRange", "(IIIII)V"⟩
abbrev cX11_needJob : ByteArray := prog_1_method_40_code
def yX11_needJob : MethodName := ⟨RX11, "needJob", "(I)V"⟩
abbrev cX11_needPiece : ByteArray := prog_1_method_41_code
def yX11_needPiece : MethodName := ⟨RX11, "needPiece", "(I)V"⟩
abbrev cX11_needPlan : ByteArray := prog_1_method_42_code
def yX11_needPlan : MethodName := ⟨RX11, "needPlan", "()V"⟩
abbrev cX11_needSomeJob : ByteArray := prog_1_method_43_code
def yX11_needSomeJob : MethodName := ⟨RX11, "needSomeJob", "()V"⟩
abbrev cX11_needFewJobs : ByteArray := prog_1_method_44_code
def yX11_needFewJobs : MethodName := ⟨RX11, "needFewJobs", "()V"⟩
def RX12 : String := "OneMachineModel"
def TX12 : u_T := fun k => match k with
  | 0 => ("OneMachineModel", "thrown", "I", false)
  | 1 => ("OneMachineModel", "jobs", "I", false)
  | 2 => ("OneMachineModel", "length", "[I", true)
  | 3 => ("OneMachineModel", "due", "[I", true)
  | 4 => ("OneMachineModel", "weight", "[I", true)
  | 5 => ("OneMachineModel", "release", "[I", true)
  | 6 => ("OneMachineModel", "family", "[I", true)
  | 7 => ("OneMachineModel", "setup", "[I", true)
  | 8 => ("OneMachineModel", "planned", "Z", false)
  | 9 => ("OneMachineModel", "pieces", "I", false)
  | 10 => ("OneMachineModel", "kind", "[I", true)
  | 11 => ("OneMachineModel", "whose", "[I", true)
  | 12 => ("OneMachineModel", "end", "[I", true)
  | 13 => ("OneMachineModel", "completion", "[I", true)
  | 14 => ("OneMachineModel", "order", "[I", true)
  | 15 => ("OneMachineModel", "left", "[I", true)
  | 16 => ("OneMachineModel", "cost", "[I", true)
  | 17 => ("OneMachineModel", "costBehind", "[I", true)
  | 18 => ("OneMachineModel", "least", "[I", true)
  | _ => ("OneMachineModel", "busy", "[Z", true)
def tyX12 : Nat → FieldType := fun k => match k with
  | 0 => .int
  | 1 => .int
  | 2 => .array .int
  | 3 => .array .int
  | 4 => .array .int
  | 5 => .array .int
  | 6 => .array .int
  | 7 => .array .int
  | 8 => .boolean
  | 9 => .int
  | 10 => .array .int
  | 11 => .array .int
  | 12 => .array .int
  | 13 => .array .int
  | 14 => .array .int
  | 15 => .array .int
  | 16 => .array .int
  | 17 => .array .int
  | 18 => .array .int
  | _ => .array .boolean
abbrev wsX120 : List Cond := u_ws RX12 TX12 20
theorem nmX12 : ∀ a, a < 20 → ∀ b, b < 20 → a ≠ b → (TX12 a).2.1 ≠ (TX12 b).2.1 := by decide +kernel
theorem tyX12_ok : ∀ k, k < 20 → parseFieldDescriptor (TX12 k).2.2.1 = some (tyX12 k) := by decide +kernel
abbrev cX12_init : ByteArray := prog_14_method_1_code
def yX12_init : MethodName := ⟨RX12, "<init>", "()V"⟩
abbrev cX12_thrown : ByteArray := prog_14_method_2_code
def yX12_thrown : MethodName := ⟨RX12, "thrown", "()I"⟩
abbrev cX12_holds : ByteArray := prog_14_method_3_code
def yX12_holds : MethodName := ⟨RX12, "holds", "(I)Z"⟩
abbrev cX12_isJob : ByteArray := prog_14_method_4_code
def yX12_isJob : MethodName := ⟨RX12, "isJob", "(I)Z"⟩
abbrev cX12_isIn : ByteArray := prog_14_method_5_code
def yX12_isIn : MethodName := ⟨RX12, "isIn", "(III)Z"⟩
abbrev cX12_areRight : ByteArray := prog_14_method_6_code
def yX12_areRight : MethodName := ⟨RX12, "areRight", "(IIIII)Z"⟩
abbrev cX12_drops : ByteArray := prog_14_method_7_code
def yX12_drops : MethodName := ⟨RX12, "drops", "()V"⟩
abbrev cX12_lays : ByteArray := prog_14_method_8_code
def yX12_lays : MethodName := ⟨RX12, "lays", "(IIIIII)V"⟩
abbrev cX12_addJob : ByteArray := prog_14_method_9_code
def yX12_addJob : MethodName := ⟨RX12, "addJob", "(IIIII)I"⟩
abbrev cX12_changeJob : ByteArray := prog_14_method_10_code
def yX12_changeJob : MethodName := ⟨RX12, "changeJob", "(IIIIII)V"⟩
abbrev cX12_removeJob : ByteArray := prog_14_method_11_code
def yX12_removeJob : MethodName := ⟨RX12, "removeJob", "(I)I"⟩
abbrev cX12_setSetup : ByteArray := prog_14_method_12_code
def yX12_setSetup : MethodName := ⟨RX12, "setSetup", "(II)I"⟩
abbrev cX12_jobs : ByteArray := prog_14_method_13_code
def yX12_jobs : MethodName := ⟨RX12, "jobs", "()I"⟩
abbrev cX12_comesByDue : ByteArray := prog_14_method_14_code
def yX12_comesByDue : MethodName := ⟨RX12, "comesByDue", "(II)Z"⟩
abbrev cX12_comesByRatio : ByteArray := prog_14_method_15_code
def yX12_comesByRatio : MethodName := ⟨RX12, "comesByRatio", "(II)Z"⟩
abbrev cX12_laysOrder : ByteArray := prog_14_method_16_code
def yX12_laysOrder : MethodName := ⟨RX12, "laysOrder", "(Z)V"⟩
abbrev cX12_lengthOf : ByteArray := prog_14_method_17_code
def yX12_lengthOf : MethodName := ⟨RX12, "lengthOf", "(I)I"⟩
abbrev cX12_tardy : ByteArray := prog_14_method_18_code
def yX12_tardy : MethodName := ⟨RX12, "tardy", "(II)I"⟩
abbrev cX12_joined : ByteArray := prog_14_method_19_code
def yX12_joined : MethodName := ⟨RX12, "joined", "(IIII)I"⟩
abbrev cX12_costs : ByteArray := prog_14_method_20_code
def yX12_costs : MethodName := ⟨RX12, "costs", "(I)V"⟩
abbrev cX12_isNext : ByteArray := prog_14_method_21_code
def yX12_isNext : MethodName := ⟨RX12, "isNext", "(II)Z"⟩
abbrev cX12_taken : ByteArray := prog_14_method_22_code
def yX12_taken : MethodName := ⟨RX12, "taken", "(II)I"⟩
abbrev cX12_costsBehind : ByteArray := prog_14_method_23_code
def yX12_costsBehind : MethodName := ⟨RX12, "costsBehind", "(Z)V"⟩
abbrev cX12_begins : ByteArray := prog_14_method_24_code
def yX12_begins : MethodName := ⟨RX12, "begins", "()V"⟩
abbrev cX12_now : ByteArray := prog_14_method_25_code
def yX12_now : MethodName := ⟨RX12, "now", "()I"⟩
abbrev cX12_works : ByteArray := prog_14_method_26_code
def yX12_works : MethodName := ⟨RX12, "works", "(III)V"⟩
abbrev cX12_worksInOrder : ByteArray := prog_14_method_27_code
def yX12_worksInOrder : MethodName := ⟨RX12, "worksInOrder", "()V"⟩
abbrev cX12_greatest : ByteArray := prog_14_method_28_code
def yX12_greatest : MethodName := ⟨RX12, "greatest", "()I"⟩
abbrev cX12_sum : ByteArray := prog_14_method_29_code
def yX12_sum : MethodName := ⟨RX12, "sum", "(I)I"⟩
abbrev cX12_worked : ByteArray := prog_14_method_30_code
def yX12_worked : MethodName := ⟨RX12, "worked", "(IZ)I"⟩
abbrev cX12_worksByTime : ByteArray := prog_14_method_31_code
def yX12_worksByTime : MethodName := ⟨RX12, "worksByTime", "(Z)V"⟩
abbrev cX12_hasJobs : ByteArray := prog_14_method_32_code
def yX12_hasJobs : MethodName := ⟨RX12, "hasJobs", "()Z"⟩
abbrev cX12_planByDueDates : ByteArray := prog_14_method_33_code
def yX12_planByDueDates : MethodName := ⟨RX12, "planByDueDates", "()I"⟩
abbrev cX12_planFewestLate : ByteArray := prog_14_method_34_code
def yX12_planFewestLate : MethodName := ⟨RX12, "planFewestLate", "()I"⟩
abbrev cX12_planByRatios : ByteArray := prog_14_method_35_code
def yX12_planByRatios : MethodName := ⟨RX12, "planByRatios", "()I"⟩
abbrev cX12_planLeastTardiness : ByteArray := prog_14_method_36_code
def yX12_planLeastTardiness : MethodName := ⟨RX12, "planLeastTardiness", "()I"⟩
abbrev cX12_planByFamilies : ByteArray := prog_14_method_37_code
def yX12_planByFamilies : MethodName := ⟨RX12, "planByFamilies", "()I"⟩
abbrev cX12_planPreemptiveByDates : ByteArray := prog_14_method_38_code
def yX12_planPreemptiveByDates : MethodName := ⟨RX12, "planPreemptiveByDates", "()I"⟩
abbrev cX12_planPreemptiveShortest : ByteArray := prog_14_method_39_code
def yX12_planPreemptiveShortest : MethodName := ⟨RX12, "planPreemptiveShortest", "()I"⟩
abbrev cX12_hasPlan : ByteArray := prog_14_method_40_code
def yX12_hasPlan : MethodName := ⟨RX12, "hasPlan", "()Z"⟩
abbrev cX12_pieces : ByteArray := prog_14_method_41_code
def yX12_pieces : MethodName := ⟨RX12, "pieces", "()I"⟩
abbrev cX12_isPiece : ByteArray := prog_14_method_42_code
def yX12_isPiece : MethodName := ⟨RX12, "isPiece", "(I)Z"⟩
abbrev cX12_kindOf : ByteArray := prog_14_method_43_code
def yX12_kindOf : MethodName := ⟨RX12, "kindOf", "(I)I"⟩
abbrev cX12_whoseIs : ByteArray := prog_14_method_44_code
def yX12_whoseIs : MethodName := ⟨RX12, "whoseIs", "(I)I"⟩
abbrev cX12_startOf : ByteArray := prog_14_method_45_code
def yX12_startOf : MethodName := ⟨RX12, "startOf", "(I)I"⟩
abbrev cX12_endOf : ByteArray := prog_14_method_46_code
def yX12_endOf : MethodName := ⟨RX12, "endOf", "(I)I"⟩
abbrev cX12_isPlanned : ByteArray := prog_14_method_47_code
def yX12_isPlanned : MethodName := ⟨RX12, "isPlanned", "(I)Z"⟩
abbrev cX12_completion : ByteArray := prog_14_method_48_code
def yX12_completion : MethodName := ⟨RX12, "completion", "(I)I"⟩
abbrev cX12_lateness : ByteArray := prog_14_method_49_code
def yX12_lateness : MethodName := ⟨RX12, "lateness", "(I)I"⟩
abbrev cX12_maxLateness : ByteArray := prog_14_method_50_code
def yX12_maxLateness : MethodName := ⟨RX12, "maxLateness", "()I"⟩
abbrev cX12_lateJobs : ByteArray := prog_14_method_51_code
def yX12_lateJobs : MethodName := ⟨RX12, "lateJobs", "()I"⟩
abbrev cX12_completions : ByteArray := prog_14_method_52_code
def yX12_completions : MethodName := ⟨RX12, "completions", "()I"⟩
abbrev cX12_weightedCompletions : ByteArray := prog_14_method_53_code
def yX12_weightedCompletions : MethodName := ⟨RX12, "weightedCompletions", "()I"⟩
abbrev cX12_weightedTardiness : ByteArray := prog_14_method_54_code
def yX12_weightedTardiness : MethodName := ⟨RX12, "weightedTardiness", "()I"⟩
abbrev cX12_areFew : ByteArray := prog_14_method_55_code
def yX12_areFew : MethodName := ⟨RX12, "areFew", "()Z"⟩
abbrev cX12_leastBy : ByteArray := prog_14_method_56_code
def yX12_leastBy : MethodName := ⟨RX12, "leastBy", "(I)I"⟩
abbrev cX12_leastLateness : ByteArray := prog_14_method_57_code
def yX12_leastLateness : MethodName := ⟨RX12, "leastLateness", "()I"⟩
abbrev cX12_leastCompletions : ByteArray := prog_14_method_58_code
def yX12_leastCompletions : MethodName := ⟨RX12, "leastCompletions", "()I"⟩
abbrev cX12_leastTardiness : ByteArray := prog_14_method_59_code
def yX12_leastTardiness : MethodName := ⟨RX12, "leastTardiness", "()I"⟩
abbrev cX12_leastWithSetups : ByteArray := prog_14_method_60_code
def yX12_leastWithSetups : MethodName := ⟨RX12, "leastWithSetups", "()I"⟩
abbrev cX12_takes : ByteArray := prog_14_method_61_code
def yX12_takes : MethodName := ⟨RX12, "takes", "(I)I"⟩
abbrev cX12_worth : ByteArray := prog_14_method_62_code
def yX12_worth : MethodName := ⟨RX12, "worth", "(I)I"⟩
abbrev cX12_leastOfPriorities : ByteArray := prog_14_method_63_code
def yX12_leastOfPriorities : MethodName := ⟨RX12, "leastOfPriorities", "(I)I"⟩
abbrev cX12_leastPreemptiveLateness : ByteArray := prog_14_method_64_code
def yX12_leastPreemptiveLateness : MethodName := ⟨RX12, "leastPreemptiveLateness", "()I"⟩
abbrev cX12_leastPreemptiveCompletions : ByteArray := prog_14_method_65_code
def yX12_leastPreemptiveCompletions : MethodName := ⟨RX12, "leastPreemptiveCompletions", "()I"⟩
abbrev cX12_canBeOnTime : ByteArray := prog_14_method_66_code
def yX12_canBeOnTime : MethodName := ⟨RX12, "canBeOnTime", "(I)Z"⟩
abbrev cX12_fewestLateBySets : ByteArray := prog_14_method_67_code
def yX12_fewestLateBySets : MethodName := ⟨RX12, "fewestLateBySets", "()I"⟩
abbrev cX12_releaseOf : ByteArray := prog_14_method_68_code
def yX12_releaseOf : MethodName := ⟨RX12, "releaseOf", "(IZ)I"⟩
abbrev cX12_bound : ByteArray := prog_14_method_69_code
def yX12_bound : MethodName := ⟨RX12, "bound", "(IIZ)I"⟩
abbrev cX12_windowBound : ByteArray := prog_14_method_70_code
def yX12_windowBound : MethodName := ⟨RX12, "windowBound", "(Z)I"⟩
abbrev cX12_windowJob : ByteArray := prog_14_method_71_code
def yX12_windowJob : MethodName := ⟨RX12, "windowJob", "(Z)I"⟩
abbrev cX12_windowDue : ByteArray := prog_14_method_72_code
def yX12_windowDue : MethodName := ⟨RX12, "windowDue", "()I"⟩
abbrev cX12_windowRelease : ByteArray := prog_14_method_73_code
def yX12_windowRelease : MethodName := ⟨RX12, "windowRelease", "()I"⟩
def RJx29ce0 : String := "java/lang/Enum"
def TJx29ce0 : u_T := fun k => match k with
  | _ => ("", "", "", false)
def tyJx29ce0 : Nat → FieldType := fun k => match k with
  | _ => .int
abbrev cJx29ce0_ordinal_8abf5 : ByteArray := prog_15_method_2_code
def yJx29ce0_ordinal_8abf5 : MethodName := ⟨RJx29ce0, "ordinal", "()I"⟩
def RJ6 : String := "java/lang/Integer"
def TJ6 : u_T := fun k => match k with
  | _ => ("", "", "", false)
def tyJ6 : Nat → FieldType := fun k => match k with
  | _ => .int
abbrev cJ6_bitCount_0f7a4 : ByteArray := prog_20_method_49_code
def yJ6_bitCount_0f7a4 : MethodName := ⟨RJ6, "bitCount", "(I)I"⟩
def RJ9 : String := "java/lang/Math"
def TJ9 : u_T := fun k => match k with
  | _ => ("", "", "", false)
def tyJ9 : Nat → FieldType := fun k => match k with
  | _ => .int
abbrev cJ9_max_7cf53 : ByteArray := prog_21_method_65_code
def yJ9_max_7cf53 : MethodName := ⟨RJ9, "max", "(II)I"⟩
abbrev cJ9_min_7cf53 : ByteArray := prog_21_method_69_code
def yJ9_min_7cf53 : MethodName := ⟨RJ9, "min", "(II)I"⟩
def RJ0 : String := "java/lang/String"
def TJ0 : u_T := fun k => match k with
  | _ => ("", "", "", false)
def tyJ0 : Nat → FieldType := fun k => match k with
  | _ => .int
def RJ10 : String := "java/lang/System"
def TJ10 : u_T := fun k => match k with
  | _ => ("", "", "", false)
def tyJ10 : Nat → FieldType := fun k => match k with
  | _ => .int
def RL : String := "OneMachineLaw"
abbrev cL_addJob : ByteArray := method_3_code
def yL_addJob : MethodName := ⟨RL, "addJob", "(LOneMachine;IIIII[J)I"⟩
abbrev cL_changeJob : ByteArray := method_4_code
def yL_changeJob : MethodName := ⟨RL, "changeJob", "(LOneMachine;IIIIII)I"⟩
abbrev cL_removeJob : ByteArray := method_5_code
def yL_removeJob : MethodName := ⟨RL, "removeJob", "(LOneMachine;I[J)I"⟩
abbrev cL_setSetup : ByteArray := method_6_code
def yL_setSetup : MethodName := ⟨RL, "setSetup", "(LOneMachine;II[J)I"⟩
abbrev cL_planByDueDates : ByteArray := method_7_code
def yL_planByDueDates : MethodName := ⟨RL, "planByDueDates", "(LOneMachine;[J)I"⟩
abbrev cL_planFewestLate : ByteArray := method_8_code
def yL_planFewestLate : MethodName := ⟨RL, "planFewestLate", "(LOneMachine;[J)I"⟩
abbrev cL_planByRatios : ByteArray := method_9_code
def yL_planByRatios : MethodName := ⟨RL, "planByRatios", "(LOneMachine;[J)I"⟩
abbrev cL_planLeastTardiness : ByteArray := method_10_code
def yL_planLeastTardiness : MethodName := ⟨RL, "planLeastTardiness", "(LOneMachine;[J)I"⟩
abbrev cL_planByFamilies : ByteArray := method_11_code
def yL_planByFamilies : MethodName := ⟨RL, "planByFamilies", "(LOneMachine;[J)I"⟩
abbrev cL_planPreemptiveByDates : ByteArray := method_12_code
def yL_planPreemptiveByDates : MethodName := ⟨RL, "planPreemptiveByDates", "(LOneMachine;[J)I"⟩
abbrev cL_planPreemptiveShortest : ByteArray := method_13_code
def yL_planPreemptiveShortest : MethodName := ⟨RL, "planPreemptiveShortest", "(LOneMachine;[J)I"⟩
abbrev cL_kindOf : ByteArray := method_14_code
def yL_kindOf : MethodName := ⟨RL, "kindOf", "(LOneMachine;I[J)I"⟩
abbrev cL_whoseIs : ByteArray := method_15_code
def yL_whoseIs : MethodName := ⟨RL, "whoseIs", "(LOneMachine;I[J)I"⟩
abbrev cL_startOf : ByteArray := method_16_code
def yL_startOf : MethodName := ⟨RL, "startOf", "(LOneMachine;I[J)I"⟩
abbrev cL_endOf : ByteArray := method_17_code
def yL_endOf : MethodName := ⟨RL, "endOf", "(LOneMachine;I[J)I"⟩
abbrev cL_completion : ByteArray := method_18_code
def yL_completion : MethodName := ⟨RL, "completion", "(LOneMachine;I[J)I"⟩
abbrev cL_lateness : ByteArray := method_19_code
def yL_lateness : MethodName := ⟨RL, "lateness", "(LOneMachine;I[J)I"⟩
abbrev cL_maxLateness : ByteArray := method_20_code
def yL_maxLateness : MethodName := ⟨RL, "maxLateness", "(LOneMachine;[J)I"⟩
abbrev cL_lateJobs : ByteArray := method_21_code
def yL_lateJobs : MethodName := ⟨RL, "lateJobs", "(LOneMachine;[J)I"⟩
abbrev cL_completions : ByteArray := method_22_code
def yL_completions : MethodName := ⟨RL, "completions", "(LOneMachine;[J)I"⟩
abbrev cL_weightedCompletions : ByteArray := method_23_code
def yL_weightedCompletions : MethodName := ⟨RL, "weightedCompletions", "(LOneMachine;[J)I"⟩
abbrev cL_weightedTardiness : ByteArray := method_24_code
def yL_weightedTardiness : MethodName := ⟨RL, "weightedTardiness", "(LOneMachine;[J)I"⟩
abbrev cL_leastLateness : ByteArray := method_25_code
def yL_leastLateness : MethodName := ⟨RL, "leastLateness", "(LOneMachine;[J)I"⟩
abbrev cL_leastCompletions : ByteArray := method_26_code
def yL_leastCompletions : MethodName := ⟨RL, "leastCompletions", "(LOneMachine;[J)I"⟩
abbrev cL_leastTardiness : ByteArray := method_27_code
def yL_leastTardiness : MethodName := ⟨RL, "leastTardiness", "(LOneMachine;[J)I"⟩
abbrev cL_leastWithSetups : ByteArray := method_28_code
def yL_leastWithSetups : MethodName := ⟨RL, "leastWithSetups", "(LOneMachine;[J)I"⟩
abbrev cL_leastPreemptiveLateness : ByteArray := method_29_code
def yL_leastPreemptiveLateness : MethodName := ⟨RL, "leastPreemptiveLateness", "(LOneMachine;[J)I"⟩
abbrev cL_leastPreemptiveCompletions : ByteArray := method_30_code
def yL_leastPreemptiveCompletions : MethodName := ⟨RL, "leastPreemptiveCompletions", "(LOneMachine;[J)I"⟩
abbrev cL_canBeOnTime : ByteArray := method_31_code
def yL_canBeOnTime : MethodName := ⟨RL, "canBeOnTime", "(LOneMachine;I[J)I"⟩
abbrev cL_windowBound : ByteArray := method_32_code
def yL_windowBound : MethodName := ⟨RL, "windowBound", "(LOneMachine;Z[J)I"⟩
abbrev cL_windowDue : ByteArray := method_33_code
def yL_windowDue : MethodName := ⟨RL, "windowDue", "(LOneMachine;[J)I"⟩
abbrev cL_windowRelease : ByteArray := method_34_code
def yL_windowRelease : MethodName := ⟨RL, "windowRelease", "(LOneMachine;[J)I"⟩
abbrev cL_law : ByteArray := code
def yL_law : MethodName := ⟨RL, "law", "([I)Z"⟩
abbrev vwCl : List vw_C := [(RX2, TX2, 7), (RX4, TX4, 4), (RX5, TX5, 6), (RX6, TX6, 2), (RX7, TX7, 5), (RX8, TX8, 1), (RX10, TX10, 3), (RX11, TX11, 7), (RX12, TX12, 20)]
