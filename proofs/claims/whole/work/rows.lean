section
-- ===== PART A: goes FIRST, ahead of the names: the tables' words, and 'selects' of the private methods out of them =====
/-- a private method of a class that the tables say can be made, by its rows of tables_1 -/
def lw_okq (q : MethodName × Nat) : Prop := (q.1.cls ≠ "java/lang/invoke/MethodHandle" ∧ q.1.cls ≠ "java/lang/invoke/VarHandle") ∧ Cond.instantiable q.1.cls q.2 ∈ tables_1 ∧ Cond.privateMethod q.1 ∈ tables_1 ∧ Cond.instanceMethod q.1 ∈ tables_1
theorem lw_p0 : lw_okq (⟨"OneMachine$Sets", "isOnTimeByDue", "(LOneMachine$Jobs;I)Z"⟩, 1) := ⟨⟨by decide +kernel, by decide +kernel⟩, List.mem_of_getElem? (i := 182) (by decide +kernel), List.mem_of_getElem? (i := 281) (by decide +kernel), List.mem_of_getElem? (i := 282) (by decide +kernel)⟩
theorem lw_p1 : lw_okq (⟨"java/lang/Throwable", "fillInStackTrace", "(I)Ljava/lang/Throwable;"⟩, 6) := ⟨⟨by decide +kernel, by decide +kernel⟩, List.mem_of_getElem? (i := 342) (by decide +kernel), List.mem_of_getElem? (i := 340) (by decide +kernel), List.mem_of_getElem? (i := 341) (by decide +kernel)⟩
theorem lw_p2 : lw_okq (⟨"OneMachine", "needJob", "(I)V"⟩, 7) := ⟨⟨by decide +kernel, by decide +kernel⟩, List.mem_of_getElem? (i := 25) (by decide +kernel), List.mem_of_getElem? (i := 404) (by decide +kernel), List.mem_of_getElem? (i := 405) (by decide +kernel)⟩
theorem lw_p3 : lw_okq (⟨"OneMachine", "needSomeJob", "()V"⟩, 7) := ⟨⟨by decide +kernel, by decide +kernel⟩, List.mem_of_getElem? (i := 25) (by decide +kernel), List.mem_of_getElem? (i := 452) (by decide +kernel), List.mem_of_getElem? (i := 453) (by decide +kernel)⟩
theorem lw_p4 : lw_okq (⟨"OneMachine$Rules", "putDroppedBehind", "(LOneMachine$Jobs;II)V"⟩, 5) := ⟨⟨by decide +kernel, by decide +kernel⟩, List.mem_of_getElem? (i := 123) (by decide +kernel), List.mem_of_getElem? (i := 531) (by decide +kernel), List.mem_of_getElem? (i := 532) (by decide +kernel)⟩
theorem lw_p5 : lw_okq (⟨"OneMachine$Rules", "fillLeastTardiness", "(LOneMachine$Jobs;)V"⟩, 5) := ⟨⟨by decide +kernel, by decide +kernel⟩, List.mem_of_getElem? (i := 123) (by decide +kernel), List.mem_of_getElem? (i := 561) (by decide +kernel), List.mem_of_getElem? (i := 562) (by decide +kernel)⟩
theorem lw_p6 : lw_okq (⟨"OneMachine$Rules", "tardinessBy", "(LOneMachine$Jobs;III)I"⟩, 5) := ⟨⟨by decide +kernel, by decide +kernel⟩, List.mem_of_getElem? (i := 123) (by decide +kernel), List.mem_of_getElem? (i := 567) (by decide +kernel), List.mem_of_getElem? (i := 568) (by decide +kernel)⟩
theorem lw_p7 : lw_okq (⟨"OneMachine$Rules", "fillMustBeDone", "(LOneMachine$Jobs;)V"⟩, 5) := ⟨⟨by decide +kernel, by decide +kernel⟩, List.mem_of_getElem? (i := 123) (by decide +kernel), List.mem_of_getElem? (i := 589) (by decide +kernel), List.mem_of_getElem? (i := 590) (by decide +kernel)⟩
theorem lw_p8 : lw_okq (⟨"OneMachine$Rules", "fillLeastLateness", "(LOneMachine$Jobs;)V"⟩, 5) := ⟨⟨by decide +kernel, by decide +kernel⟩, List.mem_of_getElem? (i := 123) (by decide +kernel), List.mem_of_getElem? (i := 593) (by decide +kernel), List.mem_of_getElem? (i := 594) (by decide +kernel)⟩
theorem lw_p9 : lw_okq (⟨"OneMachine$Rules", "keepsFamilyOrders", "(LOneMachine$Jobs;I)Z"⟩, 5) := ⟨⟨by decide +kernel, by decide +kernel⟩, List.mem_of_getElem? (i := 123) (by decide +kernel), List.mem_of_getElem? (i := 601) (by decide +kernel), List.mem_of_getElem? (i := 602) (by decide +kernel)⟩
theorem lw_p10 : lw_okq (⟨"OneMachine$Rules", "leastLatenessFrom", "(LOneMachine$Jobs;II)I"⟩, 5) := ⟨⟨by decide +kernel, by decide +kernel⟩, List.mem_of_getElem? (i := 123) (by decide +kernel), List.mem_of_getElem? (i := 605) (by decide +kernel), List.mem_of_getElem? (i := 606) (by decide +kernel)⟩
theorem lw_p11 : lw_okq (⟨"OneMachine$Rules", "isNext", "(LOneMachine$Jobs;II)Z"⟩, 5) := ⟨⟨by decide +kernel, by decide +kernel⟩, List.mem_of_getElem? (i := 123) (by decide +kernel), List.mem_of_getElem? (i := 609) (by decide +kernel), List.mem_of_getElem? (i := 610) (by decide +kernel)⟩
theorem lw_p12 : lw_okq (⟨"OneMachine$Rules", "latenessBy", "(LOneMachine$Jobs;III)I"⟩, 5) := ⟨⟨by decide +kernel, by decide +kernel⟩, List.mem_of_getElem? (i := 123) (by decide +kernel), List.mem_of_getElem? (i := 613) (by decide +kernel), List.mem_of_getElem? (i := 614) (by decide +kernel)⟩
theorem lw_p13 : lw_okq (⟨"OneMachine$Preemption", "shortestAt", "(LOneMachine$Jobs;I)I"⟩, 2) := ⟨⟨by decide +kernel, by decide +kernel⟩, List.mem_of_getElem? (i := 146) (by decide +kernel), List.mem_of_getElem? (i := 637) (by decide +kernel), List.mem_of_getElem? (i := 638) (by decide +kernel)⟩
theorem lw_p14 : lw_okq (⟨"OneMachine$Preemption", "isOpen", "(LOneMachine$Jobs;II)Z"⟩, 2) := ⟨⟨by decide +kernel, by decide +kernel⟩, List.mem_of_getElem? (i := 146) (by decide +kernel), List.mem_of_getElem? (i := 642) (by decide +kernel), List.mem_of_getElem? (i := 643) (by decide +kernel)⟩
theorem lw_p15 : lw_okq (⟨"OneMachine$Preemption", "firstByDateAt", "(LOneMachine$Jobs;I)I"⟩, 2) := ⟨⟨by decide +kernel, by decide +kernel⟩, List.mem_of_getElem? (i := 146) (by decide +kernel), List.mem_of_getElem? (i := 646) (by decide +kernel), List.mem_of_getElem? (i := 647) (by decide +kernel)⟩
def lw_privs_1 : List (MethodName × Nat) := [(⟨"OneMachine$Sets", "isOnTimeByDue", "(LOneMachine$Jobs;I)Z"⟩, 1), (⟨"java/lang/Throwable", "fillInStackTrace", "(I)Ljava/lang/Throwable;"⟩, 6), (⟨"OneMachine", "needJob", "(I)V"⟩, 7), (⟨"OneMachine", "needSomeJob", "()V"⟩, 7), (⟨"OneMachine$Rules", "putDroppedBehind", "(LOneMachine$Jobs;II)V"⟩, 5), (⟨"OneMachine$Rules", "fillLeastTardiness", "(LOneMachine$Jobs;)V"⟩, 5), (⟨"OneMachine$Rules", "tardinessBy", "(LOneMachine$Jobs;III)I"⟩, 5), (⟨"OneMachine$Rules", "fillMustBeDone", "(LOneMachine$Jobs;)V"⟩, 5), (⟨"OneMachine$Rules", "fillLeastLateness", "(LOneMachine$Jobs;)V"⟩, 5), (⟨"OneMachine$Rules", "keepsFamilyOrders", "(LOneMachine$Jobs;I)Z"⟩, 5), (⟨"OneMachine$Rules", "leastLatenessFrom", "(LOneMachine$Jobs;II)I"⟩, 5), (⟨"OneMachine$Rules", "isNext", "(LOneMachine$Jobs;II)Z"⟩, 5), (⟨"OneMachine$Rules", "latenessBy", "(LOneMachine$Jobs;III)I"⟩, 5), (⟨"OneMachine$Preemption", "shortestAt", "(LOneMachine$Jobs;I)I"⟩, 2), (⟨"OneMachine$Preemption", "isOpen", "(LOneMachine$Jobs;II)Z"⟩, 2), (⟨"OneMachine$Preemption", "firstByDateAt", "(LOneMachine$Jobs;I)I"⟩, 2)]
theorem lw_r1 : ∀ q ∈ lw_privs_1, lw_okq q := List.forall_mem_cons.mpr ⟨lw_p0, List.forall_mem_cons.mpr ⟨lw_p1, List.forall_mem_cons.mpr ⟨lw_p2, List.forall_mem_cons.mpr ⟨lw_p3, List.forall_mem_cons.mpr ⟨lw_p4, List.forall_mem_cons.mpr ⟨lw_p5, List.forall_mem_cons.mpr ⟨lw_p6, List.forall_mem_cons.mpr ⟨lw_p7, List.forall_mem_cons.mpr ⟨lw_p8, List.forall_mem_cons.mpr ⟨lw_p9, List.forall_mem_cons.mpr ⟨lw_p10, List.forall_mem_cons.mpr ⟨lw_p11, List.forall_mem_cons.mpr ⟨lw_p12, List.forall_mem_cons.mpr ⟨lw_p13, List.forall_mem_cons.mpr ⟨lw_p14, List.forall_mem_cons.mpr ⟨lw_p15, fun _ h => absurd h List.not_mem_nil⟩⟩⟩⟩⟩⟩⟩⟩⟩⟩⟩⟩⟩⟩⟩⟩
theorem lw_p16 : lw_okq (⟨"OneMachine", "needPiece", "(I)V"⟩, 7) := ⟨⟨by decide +kernel, by decide +kernel⟩, List.mem_of_getElem? (i := 25) (by decide +kernel), List.mem_of_getElem? (i := 671) (by decide +kernel), List.mem_of_getElem? (i := 672) (by decide +kernel)⟩
theorem lw_p17 : lw_okq (⟨"OneMachine", "needPlan", "()V"⟩, 7) := ⟨⟨by decide +kernel, by decide +kernel⟩, List.mem_of_getElem? (i := 25) (by decide +kernel), List.mem_of_getElem? (i := 704) (by decide +kernel), List.mem_of_getElem? (i := 705) (by decide +kernel)⟩
theorem lw_p18 : lw_okq (⟨"OneMachine", "needFewJobs", "()V"⟩, 7) := ⟨⟨by decide +kernel, by decide +kernel⟩, List.mem_of_getElem? (i := 25) (by decide +kernel), List.mem_of_getElem? (i := 760) (by decide +kernel), List.mem_of_getElem? (i := 761) (by decide +kernel)⟩
theorem lw_p19 : lw_okq (⟨"OneMachine$Orders", "endBehind", "(LOneMachine$Jobs;IIII)I"⟩, 4) := ⟨⟨by decide +kernel, by decide +kernel⟩, List.mem_of_getElem? (i := 159) (by decide +kernel), List.mem_of_getElem? (i := 780) (by decide +kernel), List.mem_of_getElem? (i := 781) (by decide +kernel)⟩
theorem lw_p20 : lw_okq (⟨"OneMachine$Orders", "endInGaps", "(LOneMachine$Jobs;II)I"⟩, 4) := ⟨⟨by decide +kernel, by decide +kernel⟩, List.mem_of_getElem? (i := 159) (by decide +kernel), List.mem_of_getElem? (i := 790) (by decide +kernel), List.mem_of_getElem? (i := 791) (by decide +kernel)⟩
theorem lw_p21 : lw_okq (⟨"OneMachine$Window", "tryWindow", "(LOneMachine$Jobs;ZII)V"⟩, 3) := ⟨⟨by decide +kernel, by decide +kernel⟩, List.mem_of_getElem? (i := 192) (by decide +kernel), List.mem_of_getElem? (i := 860) (by decide +kernel), List.mem_of_getElem? (i := 861) (by decide +kernel)⟩
theorem lw_p22 : lw_okq (⟨"OneMachine$Window", "isBetter", "(III)Z"⟩, 3) := ⟨⟨by decide +kernel, by decide +kernel⟩, List.mem_of_getElem? (i := 192) (by decide +kernel), List.mem_of_getElem? (i := 867) (by decide +kernel), List.mem_of_getElem? (i := 868) (by decide +kernel)⟩
theorem lw_p23 : lw_okq (⟨"OneMachineModel", "holds", "(I)Z"⟩, 20) := ⟨⟨by decide +kernel, by decide +kernel⟩, List.mem_of_getElem? (i := 885) (by decide +kernel), List.mem_of_getElem? (i := 967) (by decide +kernel), List.mem_of_getElem? (i := 968) (by decide +kernel)⟩
theorem lw_p24 : lw_okq (⟨"OneMachineModel", "lays", "(IIIIII)V"⟩, 20) := ⟨⟨by decide +kernel, by decide +kernel⟩, List.mem_of_getElem? (i := 885) (by decide +kernel), List.mem_of_getElem? (i := 971) (by decide +kernel), List.mem_of_getElem? (i := 972) (by decide +kernel)⟩
theorem lw_p25 : lw_okq (⟨"OneMachineModel", "drops", "()V"⟩, 20) := ⟨⟨by decide +kernel, by decide +kernel⟩, List.mem_of_getElem? (i := 885) (by decide +kernel), List.mem_of_getElem? (i := 975) (by decide +kernel), List.mem_of_getElem? (i := 976) (by decide +kernel)⟩
theorem lw_p26 : lw_okq (⟨"OneMachineModel", "isJob", "(I)Z"⟩, 20) := ⟨⟨by decide +kernel, by decide +kernel⟩, List.mem_of_getElem? (i := 885) (by decide +kernel), List.mem_of_getElem? (i := 983) (by decide +kernel), List.mem_of_getElem? (i := 984) (by decide +kernel)⟩
theorem lw_p27 : lw_okq (⟨"OneMachineModel", "hasJobs", "()Z"⟩, 20) := ⟨⟨by decide +kernel, by decide +kernel⟩, List.mem_of_getElem? (i := 885) (by decide +kernel), List.mem_of_getElem? (i := 1003) (by decide +kernel), List.mem_of_getElem? (i := 1004) (by decide +kernel)⟩
theorem lw_p28 : lw_okq (⟨"OneMachineModel", "laysOrder", "(Z)V"⟩, 20) := ⟨⟨by decide +kernel, by decide +kernel⟩, List.mem_of_getElem? (i := 885) (by decide +kernel), List.mem_of_getElem? (i := 1007) (by decide +kernel), List.mem_of_getElem? (i := 1008) (by decide +kernel)⟩
theorem lw_p29 : lw_okq (⟨"OneMachineModel", "comesByDue", "(II)Z"⟩, 20) := ⟨⟨by decide +kernel, by decide +kernel⟩, List.mem_of_getElem? (i := 885) (by decide +kernel), List.mem_of_getElem? (i := 1011) (by decide +kernel), List.mem_of_getElem? (i := 1012) (by decide +kernel)⟩
theorem lw_p30 : lw_okq (⟨"OneMachineModel", "comesByRatio", "(II)Z"⟩, 20) := ⟨⟨by decide +kernel, by decide +kernel⟩, List.mem_of_getElem? (i := 885) (by decide +kernel), List.mem_of_getElem? (i := 1015) (by decide +kernel), List.mem_of_getElem? (i := 1016) (by decide +kernel)⟩
theorem lw_p31 : lw_okq (⟨"OneMachineModel", "worksInOrder", "()V"⟩, 20) := ⟨⟨by decide +kernel, by decide +kernel⟩, List.mem_of_getElem? (i := 885) (by decide +kernel), List.mem_of_getElem? (i := 1019) (by decide +kernel), List.mem_of_getElem? (i := 1020) (by decide +kernel)⟩
def lw_privs_2 : List (MethodName × Nat) := [(⟨"OneMachine", "needPiece", "(I)V"⟩, 7), (⟨"OneMachine", "needPlan", "()V"⟩, 7), (⟨"OneMachine", "needFewJobs", "()V"⟩, 7), (⟨"OneMachine$Orders", "endBehind", "(LOneMachine$Jobs;IIII)I"⟩, 4), (⟨"OneMachine$Orders", "endInGaps", "(LOneMachine$Jobs;II)I"⟩, 4), (⟨"OneMachine$Window", "tryWindow", "(LOneMachine$Jobs;ZII)V"⟩, 3), (⟨"OneMachine$Window", "isBetter", "(III)Z"⟩, 3), (⟨"OneMachineModel", "holds", "(I)Z"⟩, 20), (⟨"OneMachineModel", "lays", "(IIIIII)V"⟩, 20), (⟨"OneMachineModel", "drops", "()V"⟩, 20), (⟨"OneMachineModel", "isJob", "(I)Z"⟩, 20), (⟨"OneMachineModel", "hasJobs", "()Z"⟩, 20), (⟨"OneMachineModel", "laysOrder", "(Z)V"⟩, 20), (⟨"OneMachineModel", "comesByDue", "(II)Z"⟩, 20), (⟨"OneMachineModel", "comesByRatio", "(II)Z"⟩, 20), (⟨"OneMachineModel", "worksInOrder", "()V"⟩, 20)]
theorem lw_r2 : ∀ q ∈ lw_privs_2, lw_okq q := List.forall_mem_cons.mpr ⟨lw_p16, List.forall_mem_cons.mpr ⟨lw_p17, List.forall_mem_cons.mpr ⟨lw_p18, List.forall_mem_cons.mpr ⟨lw_p19, List.forall_mem_cons.mpr ⟨lw_p20, List.forall_mem_cons.mpr ⟨lw_p21, List.forall_mem_cons.mpr ⟨lw_p22, List.forall_mem_cons.mpr ⟨lw_p23, List.forall_mem_cons.mpr ⟨lw_p24, List.forall_mem_cons.mpr ⟨lw_p25, List.forall_mem_cons.mpr ⟨lw_p26, List.forall_mem_cons.mpr ⟨lw_p27, List.forall_mem_cons.mpr ⟨lw_p28, List.forall_mem_cons.mpr ⟨lw_p29, List.forall_mem_cons.mpr ⟨lw_p30, List.forall_mem_cons.mpr ⟨lw_p31, fun _ h => absurd h List.not_mem_nil⟩⟩⟩⟩⟩⟩⟩⟩⟩⟩⟩⟩⟩⟩⟩⟩
theorem lw_p32 : lw_okq (⟨"OneMachineModel", "begins", "()V"⟩, 20) := ⟨⟨by decide +kernel, by decide +kernel⟩, List.mem_of_getElem? (i := 885) (by decide +kernel), List.mem_of_getElem? (i := 1023) (by decide +kernel), List.mem_of_getElem? (i := 1024) (by decide +kernel)⟩
theorem lw_p33 : lw_okq (⟨"OneMachineModel", "works", "(III)V"⟩, 20) := ⟨⟨by decide +kernel, by decide +kernel⟩, List.mem_of_getElem? (i := 885) (by decide +kernel), List.mem_of_getElem? (i := 1027) (by decide +kernel), List.mem_of_getElem? (i := 1028) (by decide +kernel)⟩
theorem lw_p34 : lw_okq (⟨"OneMachineModel", "now", "()I"⟩, 20) := ⟨⟨by decide +kernel, by decide +kernel⟩, List.mem_of_getElem? (i := 885) (by decide +kernel), List.mem_of_getElem? (i := 1031) (by decide +kernel), List.mem_of_getElem? (i := 1032) (by decide +kernel)⟩
theorem lw_p35 : lw_okq (⟨"OneMachineModel", "greatest", "()I"⟩, 20) := ⟨⟨by decide +kernel, by decide +kernel⟩, List.mem_of_getElem? (i := 885) (by decide +kernel), List.mem_of_getElem? (i := 1035) (by decide +kernel), List.mem_of_getElem? (i := 1036) (by decide +kernel)⟩
theorem lw_p36 : lw_okq (⟨"OneMachineModel", "lengthOf", "(I)I"⟩, 20) := ⟨⟨by decide +kernel, by decide +kernel⟩, List.mem_of_getElem? (i := 885) (by decide +kernel), List.mem_of_getElem? (i := 1044) (by decide +kernel), List.mem_of_getElem? (i := 1045) (by decide +kernel)⟩
theorem lw_p37 : lw_okq (⟨"OneMachineModel", "sum", "(I)I"⟩, 20) := ⟨⟨by decide +kernel, by decide +kernel⟩, List.mem_of_getElem? (i := 885) (by decide +kernel), List.mem_of_getElem? (i := 1052) (by decide +kernel), List.mem_of_getElem? (i := 1053) (by decide +kernel)⟩
theorem lw_p38 : lw_okq (⟨"OneMachineModel", "tardy", "(II)I"⟩, 20) := ⟨⟨by decide +kernel, by decide +kernel⟩, List.mem_of_getElem? (i := 885) (by decide +kernel), List.mem_of_getElem? (i := 1056) (by decide +kernel), List.mem_of_getElem? (i := 1057) (by decide +kernel)⟩
theorem lw_p39 : lw_okq (⟨"OneMachineModel", "costs", "(I)V"⟩, 20) := ⟨⟨by decide +kernel, by decide +kernel⟩, List.mem_of_getElem? (i := 885) (by decide +kernel), List.mem_of_getElem? (i := 1064) (by decide +kernel), List.mem_of_getElem? (i := 1065) (by decide +kernel)⟩
theorem lw_p40 : lw_okq (⟨"OneMachineModel", "joined", "(IIII)I"⟩, 20) := ⟨⟨by decide +kernel, by decide +kernel⟩, List.mem_of_getElem? (i := 885) (by decide +kernel), List.mem_of_getElem? (i := 1069) (by decide +kernel), List.mem_of_getElem? (i := 1070) (by decide +kernel)⟩
theorem lw_p41 : lw_okq (⟨"OneMachineModel", "costsBehind", "(Z)V"⟩, 20) := ⟨⟨by decide +kernel, by decide +kernel⟩, List.mem_of_getElem? (i := 885) (by decide +kernel), List.mem_of_getElem? (i := 1077) (by decide +kernel), List.mem_of_getElem? (i := 1078) (by decide +kernel)⟩
theorem lw_p42 : lw_okq (⟨"OneMachineModel", "isNext", "(II)Z"⟩, 20) := ⟨⟨by decide +kernel, by decide +kernel⟩, List.mem_of_getElem? (i := 885) (by decide +kernel), List.mem_of_getElem? (i := 1081) (by decide +kernel), List.mem_of_getElem? (i := 1082) (by decide +kernel)⟩
theorem lw_p43 : lw_okq (⟨"OneMachineModel", "taken", "(II)I"⟩, 20) := ⟨⟨by decide +kernel, by decide +kernel⟩, List.mem_of_getElem? (i := 885) (by decide +kernel), List.mem_of_getElem? (i := 1085) (by decide +kernel), List.mem_of_getElem? (i := 1086) (by decide +kernel)⟩
theorem lw_p44 : lw_okq (⟨"OneMachineModel", "worksByTime", "(Z)V"⟩, 20) := ⟨⟨by decide +kernel, by decide +kernel⟩, List.mem_of_getElem? (i := 885) (by decide +kernel), List.mem_of_getElem? (i := 1093) (by decide +kernel), List.mem_of_getElem? (i := 1094) (by decide +kernel)⟩
theorem lw_p45 : lw_okq (⟨"OneMachineModel", "worked", "(IZ)I"⟩, 20) := ⟨⟨by decide +kernel, by decide +kernel⟩, List.mem_of_getElem? (i := 885) (by decide +kernel), List.mem_of_getElem? (i := 1097) (by decide +kernel), List.mem_of_getElem? (i := 1098) (by decide +kernel)⟩
theorem lw_p46 : lw_okq (⟨"OneMachineModel", "isPiece", "(I)Z"⟩, 20) := ⟨⟨by decide +kernel, by decide +kernel⟩, List.mem_of_getElem? (i := 885) (by decide +kernel), List.mem_of_getElem? (i := 1117) (by decide +kernel), List.mem_of_getElem? (i := 1118) (by decide +kernel)⟩
theorem lw_p47 : lw_okq (⟨"OneMachineModel", "isPlanned", "(I)Z"⟩, 20) := ⟨⟨by decide +kernel, by decide +kernel⟩, List.mem_of_getElem? (i := 885) (by decide +kernel), List.mem_of_getElem? (i := 1137) (by decide +kernel), List.mem_of_getElem? (i := 1138) (by decide +kernel)⟩
def lw_privs_3 : List (MethodName × Nat) := [(⟨"OneMachineModel", "begins", "()V"⟩, 20), (⟨"OneMachineModel", "works", "(III)V"⟩, 20), (⟨"OneMachineModel", "now", "()I"⟩, 20), (⟨"OneMachineModel", "greatest", "()I"⟩, 20), (⟨"OneMachineModel", "lengthOf", "(I)I"⟩, 20), (⟨"OneMachineModel", "sum", "(I)I"⟩, 20), (⟨"OneMachineModel", "tardy", "(II)I"⟩, 20), (⟨"OneMachineModel", "costs", "(I)V"⟩, 20), (⟨"OneMachineModel", "joined", "(IIII)I"⟩, 20), (⟨"OneMachineModel", "costsBehind", "(Z)V"⟩, 20), (⟨"OneMachineModel", "isNext", "(II)Z"⟩, 20), (⟨"OneMachineModel", "taken", "(II)I"⟩, 20), (⟨"OneMachineModel", "worksByTime", "(Z)V"⟩, 20), (⟨"OneMachineModel", "worked", "(IZ)I"⟩, 20), (⟨"OneMachineModel", "isPiece", "(I)Z"⟩, 20), (⟨"OneMachineModel", "isPlanned", "(I)Z"⟩, 20)]
theorem lw_r3 : ∀ q ∈ lw_privs_3, lw_okq q := List.forall_mem_cons.mpr ⟨lw_p32, List.forall_mem_cons.mpr ⟨lw_p33, List.forall_mem_cons.mpr ⟨lw_p34, List.forall_mem_cons.mpr ⟨lw_p35, List.forall_mem_cons.mpr ⟨lw_p36, List.forall_mem_cons.mpr ⟨lw_p37, List.forall_mem_cons.mpr ⟨lw_p38, List.forall_mem_cons.mpr ⟨lw_p39, List.forall_mem_cons.mpr ⟨lw_p40, List.forall_mem_cons.mpr ⟨lw_p41, List.forall_mem_cons.mpr ⟨lw_p42, List.forall_mem_cons.mpr ⟨lw_p43, List.forall_mem_cons.mpr ⟨lw_p44, List.forall_mem_cons.mpr ⟨lw_p45, List.forall_mem_cons.mpr ⟨lw_p46, List.forall_mem_cons.mpr ⟨lw_p47, fun _ h => absurd h List.not_mem_nil⟩⟩⟩⟩⟩⟩⟩⟩⟩⟩⟩⟩⟩⟩⟩⟩
theorem lw_p48 : lw_okq (⟨"OneMachineModel", "areFew", "()Z"⟩, 20) := ⟨⟨by decide +kernel, by decide +kernel⟩, List.mem_of_getElem? (i := 885) (by decide +kernel), List.mem_of_getElem? (i := 1169) (by decide +kernel), List.mem_of_getElem? (i := 1170) (by decide +kernel)⟩
theorem lw_p49 : lw_okq (⟨"OneMachineModel", "leastBy", "(I)I"⟩, 20) := ⟨⟨by decide +kernel, by decide +kernel⟩, List.mem_of_getElem? (i := 885) (by decide +kernel), List.mem_of_getElem? (i := 1173) (by decide +kernel), List.mem_of_getElem? (i := 1174) (by decide +kernel)⟩
theorem lw_p50 : lw_okq (⟨"OneMachineModel", "leastOfPriorities", "(I)I"⟩, 20) := ⟨⟨by decide +kernel, by decide +kernel⟩, List.mem_of_getElem? (i := 885) (by decide +kernel), List.mem_of_getElem? (i := 1193) (by decide +kernel), List.mem_of_getElem? (i := 1194) (by decide +kernel)⟩
theorem lw_p51 : lw_okq (⟨"OneMachineModel", "worth", "(I)I"⟩, 20) := ⟨⟨by decide +kernel, by decide +kernel⟩, List.mem_of_getElem? (i := 885) (by decide +kernel), List.mem_of_getElem? (i := 1197) (by decide +kernel), List.mem_of_getElem? (i := 1198) (by decide +kernel)⟩
theorem lw_p52 : lw_okq (⟨"OneMachineModel", "takes", "(I)I"⟩, 20) := ⟨⟨by decide +kernel, by decide +kernel⟩, List.mem_of_getElem? (i := 885) (by decide +kernel), List.mem_of_getElem? (i := 1201) (by decide +kernel), List.mem_of_getElem? (i := 1202) (by decide +kernel)⟩
theorem lw_p53 : lw_okq (⟨"OneMachineModel", "bound", "(IIZ)I"⟩, 20) := ⟨⟨by decide +kernel, by decide +kernel⟩, List.mem_of_getElem? (i := 885) (by decide +kernel), List.mem_of_getElem? (i := 1221) (by decide +kernel), List.mem_of_getElem? (i := 1222) (by decide +kernel)⟩
theorem lw_p54 : lw_okq (⟨"OneMachineModel", "releaseOf", "(IZ)I"⟩, 20) := ⟨⟨by decide +kernel, by decide +kernel⟩, List.mem_of_getElem? (i := 885) (by decide +kernel), List.mem_of_getElem? (i := 1225) (by decide +kernel), List.mem_of_getElem? (i := 1226) (by decide +kernel)⟩
theorem lw_p55 : lw_okq (⟨"OneMachineModel", "windowJob", "(Z)I"⟩, 20) := ⟨⟨by decide +kernel, by decide +kernel⟩, List.mem_of_getElem? (i := 885) (by decide +kernel), List.mem_of_getElem? (i := 1233) (by decide +kernel), List.mem_of_getElem? (i := 1234) (by decide +kernel)⟩
def lw_privs_4 : List (MethodName × Nat) := [(⟨"OneMachineModel", "areFew", "()Z"⟩, 20), (⟨"OneMachineModel", "leastBy", "(I)I"⟩, 20), (⟨"OneMachineModel", "leastOfPriorities", "(I)I"⟩, 20), (⟨"OneMachineModel", "worth", "(I)I"⟩, 20), (⟨"OneMachineModel", "takes", "(I)I"⟩, 20), (⟨"OneMachineModel", "bound", "(IIZ)I"⟩, 20), (⟨"OneMachineModel", "releaseOf", "(IZ)I"⟩, 20), (⟨"OneMachineModel", "windowJob", "(Z)I"⟩, 20)]
theorem lw_r4 : ∀ q ∈ lw_privs_4, lw_okq q := List.forall_mem_cons.mpr ⟨lw_p48, List.forall_mem_cons.mpr ⟨lw_p49, List.forall_mem_cons.mpr ⟨lw_p50, List.forall_mem_cons.mpr ⟨lw_p51, List.forall_mem_cons.mpr ⟨lw_p52, List.forall_mem_cons.mpr ⟨lw_p53, List.forall_mem_cons.mpr ⟨lw_p54, List.forall_mem_cons.mpr ⟨lw_p55, fun _ h => absurd h List.not_mem_nil⟩⟩⟩⟩⟩⟩⟩⟩
def lw_privs : List (MethodName × Nat) := lw_privs_1 ++ (lw_privs_2 ++ (lw_privs_3 ++ (lw_privs_4)))
def lw_tbl : List Cond := k2_sels lw_privs ++ tables_1
theorem lw_privs_ok : ∀ q ∈ lw_privs, lw_okq q := by
  show ∀ q ∈ lw_privs_1 ++ (lw_privs_2 ++ (lw_privs_3 ++ (lw_privs_4))), lw_okq q
  exact List.forall_mem_append.mpr ⟨lw_r1, List.forall_mem_append.mpr ⟨lw_r2, List.forall_mem_append.mpr ⟨lw_r3, lw_r4⟩⟩⟩

/-! ===== BEGIN words of one list among another's, by their places ===== -/
theorem goodIn_r {big : List Cond} (ws : List Cond) (ps : List Nat) (hp : ws = ps.filterMap (fun i => big[i]?)) (h : ws.all goodWord = true) : GoodIn big ws := by
  intro w hw
  have h1 := List.all_eq_true.mp h w hw
  rw [hp] at hw
  obtain ⟨i, -, hi⟩ := List.mem_filterMap.mp hw
  have hm : w ∈ big := by first | exact List.mem_of_getElem? hi | exact List.getElem?_mem hi
  exact ⟨hm, good_of_word h1⟩
theorem goodIn_app {big a b : List Cond} (ha : GoodIn big a) (hb : GoodIn big b) : GoodIn big (a ++ b) := fun w h => (List.mem_append.mp h).elim (ha w) (hb w)
theorem goodIn_ca {big a b : List Cond} {c : Cond} (ha : GoodIn big (c :: a)) (hb : GoodIn big b) : GoodIn big (c :: (a ++ b)) := fun w h => (List.mem_cons.mp h).elim (fun e => ha w (List.mem_cons.mpr (Or.inl e))) (fun h => (List.mem_append.mp h).elim (fun h => ha w (List.mem_cons.mpr (Or.inr h))) (hb w))
theorem goodIn_sub {big ws : List Cond} (hm : ∀ w ∈ ws, w ∈ big) (h : ws.all goodWord = true) : GoodIn big ws := fun w hw => ⟨hm w hw, good_of_word (List.all_eq_true.mp h w hw)⟩
/-! ===== END ===== -/


def RX0 : String := "OneMachine$1"
def TX0 : u_T := fun k => match k with
  | _ => ("", "", "", false)
def tyX0 : Nat → FieldType := fun k => match k with
  | _ => .int
abbrev wsX00 : List Cond := u_ws RX0 TX0 0
theorem nmX0 : ∀ a, a < 0 → ∀ b, b < 0 → a ≠ b → (TX0 a).2.1 ≠ (TX0 b).2.1 := by decide +kernel
theorem tyX0_ok : ∀ k, k < 0 → parseFieldDescriptor (TX0 k).2.2.1 = some (tyX0 k) := by decide +kernel
def RX1 : String := "OneMachine$Cost"
def TX1 : u_T := fun k => match k with
  | _ => ("", "", "", false)
def tyX1 : Nat → FieldType := fun k => match k with
  | _ => .int
abbrev wsX10 : List Cond := u_ws RX1 TX1 0
theorem nmX1 : ∀ a, a < 0 → ∀ b, b < 0 → a ≠ b → (TX1 a).2.1 ≠ (TX1 b).2.1 := by decide +kernel
theorem tyX1_ok : ∀ k, k < 0 → parseFieldDescriptor (TX1 k).2.2.1 = some (tyX1 k) := by decide +kernel
abbrev cX1_ofNoJob : ByteArray := prog_3_method_4_code
def yX1_ofNoJob : MethodName := ⟨RX1, "ofNoJob", "()I"⟩
abbrev cX1_with : ByteArray := prog_3_method_5_code
def yX1_with : MethodName := ⟨RX1, "with", "(ILOneMachine$Jobs;II)I"⟩
def RX2 : String := "OneMachine$Jobs"
def TX2 : u_T := fun k => match k with
  | 0 => ("OneMachine$Jobs", "count", "I", false)
  | 1 => ("OneMachine$Jobs", "length", "[I", true)
  | 2 => ("OneMachine$Jobs", "due", "[I", true)
  | 3 => ("OneMachine$Jobs", "weight", "[I", true)
  | 4 => ("OneMachine$Jobs", "release", "[I", true)
  | 5 => ("OneMachine$Jobs", "family", "[I", true)
  | _ => ("OneMachine$Jobs", "setup", "[I", true)
def tyX2 : Nat → FieldType := fun k => match k with
  | 0 => .int
  | 1 => .array .int
  | 2 => .array .int
  | 3 => .array .int
  | 4 => .array .int
  | 5 => .array .int
  | _ => .array .int
abbrev wsX20 : List Cond := u_ws RX2 TX2 7
theorem nmX2 : ∀ a, a < 7 → ∀ b, b < 7 → a ≠ b → (TX2 a).2.1 ≠ (TX2 b).2.1 := by decide +kernel
theorem tyX2_ok : ∀ k, k < 7 → parseFieldDescriptor (TX2 k).2.2.1 = some (tyX2 k) := by decide +kernel
abbrev cX2_init : ByteArray := prog_4_method_1_code
def yX2_init : MethodName := ⟨RX2, "<init>", "()V"⟩
abbrev cX2_put : ByteArray := prog_4_method_2_code
def yX2_put : MethodName := ⟨RX2, "put", "(IIIIII)V"⟩
abbrev cX2_remove : ByteArray := prog_4_method_3_code
def yX2_remove : MethodName := ⟨RX2, "remove", "(I)V"⟩
abbrev cX2_all : ByteArray := prog_4_method_4_code
def yX2_all : MethodName := ⟨RX2, "all", "()I"⟩
abbrev cX2_isIn : ByteArray := prog_4_method_5_code
def yX2_isIn : MethodName := ⟨RX2, "isIn", "(II)Z"⟩
abbrev cX2_lengthOfSet : ByteArray := prog_4_method_6_code
def yX2_lengthOfSet : MethodName := ⟨RX2, "lengthOfSet", "(I)I"⟩
abbrev cX2_setupBehind : ByteArray := prog_4_method_7_code
def yX2_setupBehind : MethodName := ⟨RX2, "setupBehind", "(II)I"⟩
abbrev cX2_fillInOrder : ByteArray := prog_4_method_8_code
def yX2_fillInOrder : MethodName := ⟨RX2, "fillInOrder", "([ILOneMachine$Key;)V"⟩
def RX3 : String := "OneMachine$Key"
def TX3 : u_T := fun k => match k with
  | _ => ("", "", "", false)
def tyX3 : Nat → FieldType := fun k => match k with
  | _ => .int
abbrev wsX30 : List Cond := u_ws RX3 TX3 0
theorem nmX3 : ∀ a, a < 0 → ∀ b, b < 0 → a ≠ b → (TX3 a).2.1 ≠ (TX3 b).2.1 := by decide +kernel
theorem tyX3_ok : ∀ k, k < 0 → parseFieldDescriptor (TX3 k).2.2.1 = some (tyX3 k) := by decide +kernel
abbrev cX3_putsBehind : ByteArray := prog_5_method_4_code
def yX3_putsBehind : MethodName := ⟨RX3, "putsBehind", "(LOneMachine$Jobs;II)Z"⟩
def RX4 : String := "OneMachine$Orders"
def TX4 : u_T := fun k => match k with
  | 0 => ("OneMachine$Orders", "byRelease", "[I", true)
  | 1 => ("OneMachine$Orders", "way", "LOneMachine$Way;", false)
  | 2 => ("OneMachine$Orders", "cost", "LOneMachine$Cost;", false)
  | _ => ("OneMachine$Orders", "least", "I", false)
def tyX4 : Nat → FieldType := fun k => match k with
  | 0 => .array .int
  | 1 => .object "OneMachine$Way"
  | 2 => .object "OneMachine$Cost"
  | _ => .int
abbrev wsX40 : List Cond := u_ws RX4 TX4 4
theorem nmX4 : ∀ a, a < 4 → ∀ b, b < 4 → a ≠ b → (TX4 a).2.1 ≠ (TX4 b).2.1 := by decide +kernel
theorem tyX4_ok : ∀ k, k < 4 → parseFieldDescriptor (TX4 k).2.2.1 = some (tyX4 k) := by decide +kernel
abbrev cX4_init : ByteArray := prog_6_method_1_code
def yX4_init : MethodName := ⟨RX4, "<init>", "()V"⟩
abbrev cX4_least : ByteArray := prog_6_method_2_code
def yX4_least : MethodName := ⟨RX4, "least", "(LOneMachine$Jobs;LOneMachine$Way;LOneMachine$Cost;)I"⟩
abbrev cX4_tryAll : ByteArray := prog_6_method_3_code
def yX4_tryAll : MethodName := ⟨RX4, "tryAll", "(LOneMachine$Orders;LOneMachine$Jobs;IIIII)V"⟩
abbrev cX4_endBehind : ByteArray := prog_6_method_4_code
def yX4_endBehind : MethodName := ⟨RX4, "endBehind", "(LOneMachine$Jobs;IIII)I"⟩
abbrev cX4_endInGaps : ByteArray := prog_6_method_5_code
def yX4_endInGaps : MethodName := ⟨RX4, "endInGaps", "(LOneMachine$Jobs;II)I"⟩
def RX5 : String := "OneMachine$Plan"
def TX5 : u_T := fun k => match k with
  | 0 => ("OneMachine$Plan", "made", "Z", false)
  | 1 => ("OneMachine$Plan", "count", "I", false)
  | 2 => ("OneMachine$Plan", "kind", "[I", true)
  | 3 => ("OneMachine$Plan", "whose", "[I", true)
  | 4 => ("OneMachine$Plan", "end", "[I", true)
  | _ => ("OneMachine$Plan", "completion", "[I", true)
def tyX5 : Nat → FieldType := fun k => match k with
  | 0 => .boolean
  | 1 => .int
  | 2 => .array .int
  | 3 => .array .int
  | 4 => .array .int
  | _ => .array .int
abbrev wsX50 : List Cond := u_ws RX5 TX5 6
theorem nmX5 : ∀ a, a < 6 → ∀ b, b < 6 → a ≠ b → (TX5 a).2.1 ≠ (TX5 b).2.1 := by decide +kernel
theorem tyX5_ok : ∀ k, k < 6 → parseFieldDescriptor (TX5 k).2.2.1 = some (tyX5 k) := by decide +kernel
abbrev cX5_init : ByteArray := prog_7_method_1_code
def yX5_init : MethodName := ⟨RX5, "<init>", "()V"⟩
abbrev cX5_drop : ByteArray := prog_7_method_2_code
def yX5_drop : MethodName := ⟨RX5, "drop", "()V"⟩
abbrev cX5_begin : ByteArray := prog_7_method_3_code
def yX5_begin : MethodName := ⟨RX5, "begin", "()V"⟩
abbrev cX5_now : ByteArray := prog_7_method_4_code
def yX5_now : MethodName := ⟨RX5, "now", "()I"⟩
abbrev cX5_addWork : ByteArray := prog_7_method_5_code
def yX5_addWork : MethodName := ⟨RX5, "addWork", "(II)V"⟩
abbrev cX5_add : ByteArray := prog_7_method_6_code
def yX5_add : MethodName := ⟨RX5, "add", "(III)V"⟩
abbrev cX5_follow : ByteArray := prog_7_method_7_code
def yX5_follow : MethodName := ⟨RX5, "follow", "(LOneMachine$Jobs;[IZ)V"⟩
abbrev cX5_total : ByteArray := prog_7_method_8_code
def yX5_total : MethodName := ⟨RX5, "total", "(LOneMachine$Jobs;LOneMachine$Cost;)I"⟩
def RX6 : String := "OneMachine$Preemption"
def TX6 : u_T := fun k => match k with
  | 0 => ("OneMachine$Preemption", "byDue", "[I", true)
  | _ => ("OneMachine$Preemption", "remaining", "[I", true)
def tyX6 : Nat → FieldType := fun k => match k with
  | 0 => .array .int
  | _ => .array .int
abbrev wsX60 : List Cond := u_ws RX6 TX6 2
theorem nmX6 : ∀ a, a < 2 → ∀ b, b < 2 → a ≠ b → (TX6 a).2.1 ≠ (TX6 b).2.1 := by decide +kernel
theorem tyX6_ok : ∀ k, k < 2 → parseFieldDescriptor (TX6 k).2.2.1 = some (tyX6 k) := by decide +kernel
abbrev cX6_init : ByteArray := prog_8_method_1_code
def yX6_init : MethodName := ⟨RX6, "<init>", "()V"⟩
abbrev cX6_make : ByteArray := prog_8_method_2_code
def yX6_make : MethodName := ⟨RX6, "make", "(LOneMachine$Jobs;LOneMachine$Plan;Z)V"⟩
abbrev cX6_isOpen : ByteArray := prog_8_method_3_code
def yX6_isOpen : MethodName := ⟨RX6, "isOpen", "(LOneMachine$Jobs;II)Z"⟩
abbrev cX6_firstByDateAt : ByteArray := prog_8_method_4_code
def yX6_firstByDateAt : MethodName := ⟨RX6, "firstByDateAt", "(LOneMachine$Jobs;I)I"⟩
abbrev cX6_shortestAt : ByteArray := prog_8_method_5_code
def yX6_shortestAt : MethodName := ⟨RX6, "shortestAt", "(LOneMachine$Jobs;I)I"⟩
abbrev cX6_nextRelease : ByteArray := prog_8_method_6_code
def yX6_nextRelease : MethodName := ⟨RX6, "nextRelease", "(LOneMachine$Jobs;I)I"⟩
def RX7 : String := "OneMachine$Rules"
def TX7 : u_T := fun k => match k with
  | 0 => ("OneMachine$Rules", "order", "[I", true)
  | 1 => ("OneMachine$Rules", "byDue", "[I", true)
  | 2 => ("OneMachine$Rules", "dropped", "[I", true)
  | 3 => ("OneMachine$Rules", "mustBeDone", "[I", true)
  | _ => ("OneMachine$Rules", "rest", "[I", true)
def tyX7 : Nat → FieldType := fun k => match k with
  | 0 => .array .int
  | 1 => .array .int
  | 2 => .array .int
  | 3 => .array .int
  | _ => .array .int
abbrev wsX70 : List Cond := u_ws RX7 TX7 5
theorem nmX7 : ∀ a, a < 5 → ∀ b, b < 5 → a ≠ b → (TX7 a).2.1 ≠ (TX7 b).2.1 := by decide +kernel
theorem tyX7_ok : ∀ k, k < 5 → parseFieldDescriptor (TX7 k).2.2.1 = some (tyX7 k) := by decide +kernel
abbrev cX7_init : ByteArray := prog_9_method_1_code
def yX7_init : MethodName := ⟨RX7, "<init>", "()V"⟩
abbrev cX7_orderByDueDates : ByteArray := prog_9_method_2_code
def yX7_orderByDueDates : MethodName := ⟨RX7, "orderByDueDates", "(LOneMachine$Jobs;)V"⟩
abbrev cX7_orderByRatios : ByteArray := prog_9_method_3_code
def yX7_orderByRatios : MethodName := ⟨RX7, "orderByRatios", "(LOneMachine$Jobs;)V"⟩
abbrev cX7_orderWithFewestLate : ByteArray := prog_9_method_4_code
def yX7_orderWithFewestLate : MethodName := ⟨RX7, "orderWithFewestLate", "(LOneMachine$Jobs;)I"⟩
abbrev cX7_longestOf : ByteArray := prog_9_method_5_code
def yX7_longestOf : MethodName := ⟨RX7, "longestOf", "(LOneMachine$Jobs;I)I"⟩
abbrev cX7_putDroppedBehind : ByteArray := prog_9_method_6_code
def yX7_putDroppedBehind : MethodName := ⟨RX7, "putDroppedBehind", "(LOneMachine$Jobs;II)V"⟩
abbrev cX7_orderByTardiness : ByteArray := prog_9_method_7_code
def yX7_orderByTardiness : MethodName := ⟨RX7, "orderByTardiness", "(LOneMachine$Jobs;)V"⟩
abbrev cX7_fillLeastTardiness : ByteArray := prog_9_method_8_code
def yX7_fillLeastTardiness : MethodName := ⟨RX7, "fillLeastTardiness", "(LOneMachine$Jobs;)V"⟩
abbrev cX7_tardinessBy : ByteArray := prog_9_method_9_code
def yX7_tardinessBy : MethodName := ⟨RX7, "tardinessBy", "(LOneMachine$Jobs;III)I"⟩
abbrev cX7_orderByFamilies : ByteArray := prog_9_method_10_code
def yX7_orderByFamilies : MethodName := ⟨RX7, "orderByFamilies", "(LOneMachine$Jobs;)V"⟩
abbrev cX7_fillMustBeDone : ByteArray := prog_9_method_11_code
def yX7_fillMustBeDone : MethodName := ⟨RX7, "fillMustBeDone", "(LOneMachine$Jobs;)V"⟩
abbrev cX7_fillLeastLateness : ByteArray := prog_9_method_12_code
def yX7_fillLeastLateness : MethodName := ⟨RX7, "fillLeastLateness", "(LOneMachine$Jobs;)V"⟩
abbrev cX7_keepsFamilyOrders : ByteArray := prog_9_method_13_code
def yX7_keepsFamilyOrders : MethodName := ⟨RX7, "keepsFamilyOrders", "(LOneMachine$Jobs;I)Z"⟩
abbrev cX7_leastLatenessFrom : ByteArray := prog_9_method_14_code
def yX7_leastLatenessFrom : MethodName := ⟨RX7, "leastLatenessFrom", "(LOneMachine$Jobs;II)I"⟩
abbrev cX7_latenessBy : ByteArray := prog_9_method_15_code
def yX7_latenessBy : MethodName := ⟨RX7, "latenessBy", "(LOneMachine$Jobs;III)I"⟩
abbrev cX7_isNext : ByteArray := prog_9_method_16_code
def yX7_isNext : MethodName := ⟨RX7, "isNext", "(LOneMachine$Jobs;II)Z"⟩
abbrev cX7_state : ByteArray := prog_9_method_17_code
def yX7_state : MethodName := ⟨RX7, "state", "(II)I"⟩
def RX8 : String := "OneMachine$Sets"
def TX8 : u_T := fun k => match k with
  | _ => ("OneMachine$Sets", "byDue", "[I", true)
def tyX8 : Nat → FieldType := fun k => match k with
  | _ => .array .int
abbrev wsX80 : List Cond := u_ws RX8 TX8 1
theorem nmX8 : ∀ a, a < 1 → ∀ b, b < 1 → a ≠ b → (TX8 a).2.1 ≠ (TX8 b).2.1 := by decide +kernel
theorem tyX8_ok : ∀ k, k < 1 → parseFieldDescriptor (TX8 k).2.2.1 = some (tyX8 k) := by decide +kernel
abbrev cX8_init : ByteArray := prog_10_method_1_code
def yX8_init : MethodName := ⟨RX8, "<init>", "()V"⟩
abbrev cX8_isOnTime : ByteArray := prog_10_method_2_code
def yX8_isOnTime : MethodName := ⟨RX8, "isOnTime", "(LOneMachine$Jobs;I)Z"⟩
abbrev cX8_mostOnTime : ByteArray := prog_10_method_3_code
def yX8_mostOnTime : MethodName := ⟨RX8, "mostOnTime", "(LOneMachine$Jobs;)I"⟩
abbrev cX8_isOnTimeByDue : ByteArray := prog_10_method_4_code
def yX8_isOnTimeByDue : MethodName := ⟨RX8, "isOnTimeByDue", "(LOneMachine$Jobs;I)Z"⟩
def RX9 : String := "OneMachine$Way"
def TX9 : u_T := fun k => match k with
  | _ => ("", "", "", false)
def tyX9 : Nat → FieldType := fun k => match k with
  | _ => .int
abbrev wsX90 : List Cond := u_ws RX9 TX9 0
theorem nmX9 : ∀ a, a < 0 → ∀ b, b < 0 → a ≠ b → (TX9 a).2.1 ≠ (TX9 b).2.1 := by decide +kernel
theorem tyX9_ok : ∀ k, k < 0 → parseFieldDescriptor (TX9 k).2.2.1 = some (tyX9 k) := by decide +kernel
def RX10 : String := "OneMachine$Window"
def TX10 : u_T := fun k => match k with
  | 0 => ("OneMachine$Window", "bound", "I", false)
  | 1 => ("OneMachine$Window", "due", "I", false)
  | _ => ("OneMachine$Window", "release", "I", false)
def tyX10 : Nat → FieldType := fun k => match k with
  | 0 => .int
  | 1 => .int
  | _ => .int
abbrev wsX100 : List Cond := u_ws RX10 TX10 3
theorem nmX10 : ∀ a, a < 3 → ∀ b, b < 3 → a ≠ b → (TX10 a).2.1 ≠ (TX10 b).2.1 := by decide +kernel
theorem tyX10_ok : ∀ k, k < 3 → parseFieldDescriptor (TX10 k).2.2.1 = some (tyX10 k) := by decide +kernel
abbrev cX10_init : ByteArray := prog_12_method_1_code
def yX10_init : MethodName := ⟨RX10, "<init>", "()V"⟩
abbrev cX10_findGreatest : ByteArray := prog_12_method_2_code
def yX10_findGreatest : MethodName := ⟨RX10, "findGreatest", "(LOneMachine$Jobs;Z)V"⟩
abbrev cX10_tryWindow : ByteArray := prog_12_method_3_code
def yX10_tryWindow : MethodName := ⟨RX10, "tryWindow", "(LOneMachine$Jobs;ZII)V"⟩
abbrev cX10_isBetter : ByteArray := prog_12_method_4_code
def yX10_isBetter : MethodName := ⟨RX10, "isBetter", "(III)Z"⟩
abbrev cX10_lengthsWithin : ByteArray := prog_12_method_5_code
def yX10_lengthsWithin : MethodName := ⟨RX10, "lengthsWithin", "(LOneMachine$Jobs;ZII)I"⟩
def RX11 : String := "OneMachine"
def TX11 : u_T := fun k => match k with
  | 0 => ("OneMachine", "jobs", "LOneMachine$Jobs;", true)
  | 1 => ("OneMachine", "plan", "LOneMachine$Plan;", true)
  | 2 => ("OneMachine", "rules", "LOneMachine$Rules;", true)
  | 3 => ("OneMachine", "preemption", "LOneMachine$Preemption;", true)
  | 4 => ("OneMachine", "orders", "LOneMachine$Orders;", true)
  | 5 => ("OneMachine", "sets", "LOneMachine$Sets;", true)
  | _ => ("OneMachine", "window", "LOneMachine$Window;", true)
def tyX11 : Nat → FieldType := fun k => match k with
  | 0 => .object "OneMachine$Jobs"
  | 1 => .object "OneMachine$Plan"
  | 2 => .object "OneMachine$Rules"
  | 3 => .object "OneMachine$Preemption"
  | 4 => .object "OneMachine$Orders"
  | 5 => .object "OneMachine$Sets"
  | _ => .object "OneMachine$Window"
abbrev wsX110 : List Cond := u_ws RX11 TX11 7
theorem nmX11 : ∀ a, a < 7 → ∀ b, b < 7 → a ≠ b → (TX11 a).2.1 ≠ (TX11 b).2.1 := by decide +kernel
theorem tyX11_ok : ∀ k, k < 7 → parseFieldDescriptor (TX11 k).2.2.1 = some (tyX11 k) := by decide +kernel
abbrev cX11_init : ByteArray := prog_1_method_1_code
def yX11_init : MethodName := ⟨RX11, "<init>", "()V"⟩
abbrev cX11_addJob : ByteArray := prog_1_method_2_code
def yX11_addJob : MethodName := ⟨RX11, "addJob", "(IIIII)I"⟩
abbrev cX11_changeJob : ByteArray := prog_1_method_3_code
def yX11_changeJob : MethodName := ⟨RX11, "changeJob", "(IIIIII)V"⟩
abbrev cX11_removeJob : ByteArray := prog_1_method_4_code
def yX11_removeJob : MethodName := ⟨RX11, "removeJob", "(I)I"⟩
abbrev cX11_setSetup : ByteArray := prog_1_method_5_code
def yX11_setSetup : MethodName := ⟨RX11, "setSetup", "(II)I"⟩
abbrev cX11_jobs : ByteArray := prog_1_method_6_code
def yX11_jobs : MethodName := ⟨RX11, "jobs", "()I"⟩
abbrev cX11_planByDueDates : ByteArray := prog_1_method_7_code
def yX11_planByDueDates : MethodName := ⟨RX11, "planByDueDates", "()I"⟩
abbrev cX11_planFewestLate : ByteArray := prog_1_method_8_code
def yX11_planFewestLate : MethodName := ⟨RX11, "planFewestLate", "()I"⟩
abbrev cX11_planByRatios : ByteArray := prog_1_method_9_code
def yX11_planByRatios : MethodName := ⟨RX11, "planByRatios", "()I"⟩
abbrev cX11_planLeastTardiness : ByteArray := prog_1_method_10_code
def yX11_planLeastTardiness : MethodName := ⟨RX11, "planLeastTardiness", "()I"⟩
abbrev cX11_planByFamilies : ByteArray := prog_1_method_11_code
def yX11_planByFamilies : MethodName := ⟨RX11, "planByFamilies", "()I"⟩
abbrev cX11_planPreemptiveByDates : ByteArray := prog_1_method_12_code
def yX11_planPreemptiveByDates : MethodName := ⟨RX11, "planPreemptiveByDates", "()I"⟩
abbrev cX11_planPreemptiveShortest : ByteArray := prog_1_method_13_code
def yX11_planPreemptiveShortest : MethodName := ⟨RX11, "planPreemptiveShortest", "()I"⟩
abbrev cX11_hasPlan : ByteArray := prog_1_method_14_code
def yX11_hasPlan : MethodName := ⟨RX11, "hasPlan", "()Z"⟩
abbrev cX11_pieces : ByteArray := prog_1_method_15_code
def yX11_pieces : MethodName := ⟨RX11, "pieces", "()I"⟩
abbrev cX11_kindOf : ByteArray := prog_1_method_16_code
def yX11_kindOf : MethodName := ⟨RX11, "kindOf", "(I)I"⟩
abbrev cX11_whoseIs : ByteArray := prog_1_method_17_code
def yX11_whoseIs : MethodName := ⟨RX11, "whoseIs", "(I)I"⟩
abbrev cX11_startOf : ByteArray := prog_1_method_18_code
def yX11_startOf : MethodName := ⟨RX11, "startOf", "(I)I"⟩
abbrev cX11_endOf : ByteArray := prog_1_method_19_code
def yX11_endOf : MethodName := ⟨RX11, "endOf", "(I)I"⟩
abbrev cX11_completion : ByteArray := prog_1_method_20_code
def yX11_completion : MethodName := ⟨RX11, "completion", "(I)I"⟩
abbrev cX11_lateness : ByteArray := prog_1_method_21_code
def yX11_lateness : MethodName := ⟨RX11, "lateness", "(I)I"⟩
abbrev cX11_maxLateness : ByteArray := prog_1_method_22_code
def yX11_maxLateness : MethodName := ⟨RX11, "maxLateness", "()I"⟩
abbrev cX11_lateJobs : ByteArray := prog_1_method_23_code
def yX11_lateJobs : MethodName := ⟨RX11, "lateJobs", "()I"⟩
abbrev cX11_completions : ByteArray := prog_1_method_24_code
def yX11_completions : MethodName := ⟨RX11, "completions", "()I"⟩
abbrev cX11_weightedCompletions : ByteArray := prog_1_method_25_code
def yX11_weightedCompletions : MethodName := ⟨RX11, "weightedCompletions", "()I"⟩
abbrev cX11_weightedTardiness : ByteArray := prog_1_method_26_code
def yX11_weightedTardiness : MethodName := ⟨RX11, "weightedTardiness", "()I"⟩
abbrev cX11_leastLateness : ByteArray := prog_1_method_27_code
def yX11_leastLateness : MethodName := ⟨RX11, "leastLateness", "()I"⟩
abbrev cX11_leastCompletions : ByteArray := prog_1_method_28_code
def yX11_leastCompletions : MethodName := ⟨RX11, "leastCompletions", "()I"⟩
abbrev cX11_leastTardiness : ByteArray := prog_1_method_29_code
def yX11_leastTardiness : MethodName := ⟨RX11, "leastTardiness", "()I"⟩
abbrev cX11_leastWithSetups : ByteArray := prog_1_method_30_code
def yX11_leastWithSetups : MethodName := ⟨RX11, "leastWithSetups", "()I"⟩
abbrev cX11_leastPreemptiveLateness : ByteArray := prog_1_method_31_code
def yX11_leastPreemptiveLateness : MethodName := ⟨RX11, "leastPreemptiveLateness", "()I"⟩
abbrev cX11_leastPreemptiveCompletions : ByteArray := prog_1_method_32_code
def yX11_leastPreemptiveCompletions : MethodName := ⟨RX11, "leastPreemptiveCompletions", "()I"⟩
abbrev cX11_canBeOnTime : ByteArray := prog_1_method_33_code
def yX11_canBeOnTime : MethodName := ⟨RX11, "canBeOnTime", "(I)Z"⟩
abbrev cX11_fewestLateBySets : ByteArray := prog_1_method_34_code
def yX11_fewestLateBySets : MethodName := ⟨RX11, "fewestLateBySets", "()I"⟩
abbrev cX11_windowBound : ByteArray := prog_1_method_35_code
def yX11_windowBound : MethodName := ⟨RX11, "windowBound", "(Z)I"⟩
abbrev cX11_windowDue : ByteArray := prog_1_method_36_code
def yX11_windowDue : MethodName := ⟨RX11, "windowDue", "()I"⟩
abbrev cX11_windowRelease : ByteArray := prog_1_method_37_code
def yX11_windowRelease : MethodName := ⟨RX11, "windowRelease", "()I"⟩
abbrev cX11_isWithin : ByteArray := prog_1_method_38_code
def yX11_isWithin : MethodName := ⟨RX11, "isWithin", "(III)Z"⟩
abbrev cX11_needJobInRange : ByteArray := prog_1_method_39_code
def yX11_needJobInRange : MethodName := ⟨RX11, "needJobInRange", "(IIIII)V"⟩
abbrev cX11_needJob : ByteArray := prog_1_method_40_code
def yX11_needJob : MethodName := ⟨RX11, "needJob", "(I)V"⟩
abbrev cX11_needPiece : ByteArray := prog_1_method_41_code
def yX11_needPiece : MethodName := ⟨RX11, "needPiece", "(I)V"⟩
abbrev cX11_needPlan : ByteArray := prog_1_method_42_code
def yX11_needPlan : MethodName := ⟨RX11, "needPlan", "()V"⟩
abbrev cX11_needSomeJob : ByteArray := prog_1_method_43_code
def yX11_needSomeJob : MethodName := ⟨RX11, "needSomeJob", "()V"⟩
abbrev cX11_needFewJobs : ByteArray := prog_1_method_44_code
def yX11_needFewJobs : MethodName := ⟨RX11, "needFewJobs", "()V"⟩
def RX12 : String := "OneMachineModel"
def TX12 : u_T := fun k => match k with
  | 0 => ("OneMachineModel", "thrown", "I", false)
  | 1 => ("OneMachineModel", "jobs", "I", false)
  | 2 => ("OneMachineModel", "length", "[I", true)
  | 3 => ("OneMachineModel", "due", "[I", true)
  | 4 => ("OneMachineModel", "weight", "[I", true)
  | 5 => ("OneMachineModel", "release", "[I", true)
  | 6 => ("OneMachineModel", "family", "[I", true)
  | 7 => ("OneMachineModel", "setup", "[I", true)
  | 8 => ("OneMachineModel", "planned", "Z", false)
  | 9 => ("OneMachineModel", "pieces", "I", false)
  | 10 => ("OneMachineModel", "kind", "[I", true)
  | 11 => ("OneMachineModel", "whose", "[I", true)
  | 12 => ("OneMachineModel", "end", "[I", true)
  | 13 => ("OneMachineModel", "completion", "[I", true)
  | 14 => ("OneMachineModel", "order", "[I", true)
  | 15 => ("OneMachineModel", "left", "[I", true)
  | 16 => ("OneMachineModel", "cost", "[I", true)
  | 17 => ("OneMachineModel", "costBehind", "[I", true)
  | 18 => ("OneMachineModel", "least", "[I", true)
  | _ => ("OneMachineModel", "busy", "[Z", true)
def tyX12 : Nat → FieldType := fun k => match k with
  | 0 => .int
  | 1 => .int
  | 2 => .array .int
  | 3 => .array .int
  | 4 => .array .int
  | 5 => .array .int
  | 6 => .array .int
  | 7 => .array .int
  | 8 => .boolean
  | 9 => .int
  | 10 => .array .int
  | 11 => .array .int
  | 12 => .array .int
  | 13 => .array .int
  | 14 => .array .int
  | 15 => .array .int
  | 16 => .array .int
  | 17 => .array .int
  | 18 => .array .int
  | _ => .array .boolean
abbrev wsX120 : List Cond := u_ws RX12 TX12 20
theorem nmX12 : ∀ a, a < 20 → ∀ b, b < 20 → a ≠ b → (TX12 a).2.1 ≠ (TX12 b).2.1 := by decide +kernel
theorem tyX12_ok : ∀ k, k < 20 → parseFieldDescriptor (TX12 k).2.2.1 = some (tyX12 k) := by decide +kernel
abbrev cX12_init : ByteArray := prog_14_method_1_code
def yX12_init : MethodName := ⟨RX12, "<init>", "()V"⟩
abbrev cX12_thrown : ByteArray := prog_14_method_2_code
def yX12_thrown : MethodName := ⟨RX12, "thrown", "()I"⟩
abbrev cX12_holds : ByteArray := prog_14_method_3_code
def yX12_holds : MethodName := ⟨RX12, "holds", "(I)Z"⟩
abbrev cX12_isJob : ByteArray := prog_14_method_4_code
def yX12_isJob : MethodName := ⟨RX12, "isJob", "(I)Z"⟩
abbrev cX12_isIn : ByteArray := prog_14_method_5_code
def yX12_isIn : MethodName := ⟨RX12, "isIn", "(III)Z"⟩
abbrev cX12_areRight : ByteArray := prog_14_method_6_code
def yX12_areRight : MethodName := ⟨RX12, "areRight", "(IIIII)Z"⟩
abbrev cX12_drops : ByteArray := prog_14_method_7_code
def yX12_drops : MethodName := ⟨RX12, "drops", "()V"⟩
abbrev cX12_lays : ByteArray := prog_14_method_8_code
def yX12_lays : MethodName := ⟨RX12, "lays", "(IIIIII)V"⟩
abbrev cX12_addJob : ByteArray := prog_14_method_9_code
def yX12_addJob : MethodName := ⟨RX12, "addJob", "(IIIII)I"⟩
abbrev cX12_changeJob : ByteArray := prog_14_method_10_code
def yX12_changeJob : MethodName := ⟨RX12, "changeJob", "(IIIIII)V"⟩
abbrev cX12_removeJob : ByteArray := prog_14_method_11_code
def yX12_removeJob : MethodName := ⟨RX12, "removeJob", "(I)I"⟩
abbrev cX12_setSetup : ByteArray := prog_14_method_12_code
def yX12_setSetup : MethodName := ⟨RX12, "setSetup", "(II)I"⟩
abbrev cX12_jobs : ByteArray := prog_14_method_13_code
def yX12_jobs : MethodName := ⟨RX12, "jobs", "()I"⟩
abbrev cX12_comesByDue : ByteArray := prog_14_method_14_code
def yX12_comesByDue : MethodName := ⟨RX12, "comesByDue", "(II)Z"⟩
abbrev cX12_comesByRatio : ByteArray := prog_14_method_15_code
def yX12_comesByRatio : MethodName := ⟨RX12, "comesByRatio", "(II)Z"⟩
abbrev cX12_laysOrder : ByteArray := prog_14_method_16_code
def yX12_laysOrder : MethodName := ⟨RX12, "laysOrder", "(Z)V"⟩
abbrev cX12_lengthOf : ByteArray := prog_14_method_17_code
def yX12_lengthOf : MethodName := ⟨RX12, "lengthOf", "(I)I"⟩
abbrev cX12_tardy : ByteArray := prog_14_method_18_code
def yX12_tardy : MethodName := ⟨RX12, "tardy", "(II)I"⟩
abbrev cX12_joined : ByteArray := prog_14_method_19_code
def yX12_joined : MethodName := ⟨RX12, "joined", "(IIII)I"⟩
abbrev cX12_costs : ByteArray := prog_14_method_20_code
def yX12_costs : MethodName := ⟨RX12, "costs", "(I)V"⟩
abbrev cX12_isNext : ByteArray := prog_14_method_21_code
def yX12_isNext : MethodName := ⟨RX12, "isNext", "(II)Z"⟩
abbrev cX12_taken : ByteArray := prog_14_method_22_code
def yX12_taken : MethodName := ⟨RX12, "taken", "(II)I"⟩
abbrev cX12_costsBehind : ByteArray := prog_14_method_23_code
def yX12_costsBehind : MethodName := ⟨RX12, "costsBehind", "(Z)V"⟩
abbrev cX12_begins : ByteArray := prog_14_method_24_code
def yX12_begins : MethodName := ⟨RX12, "begins", "()V"⟩
abbrev cX12_now : ByteArray := prog_14_method_25_code
def yX12_now : MethodName := ⟨RX12, "now", "()I"⟩
abbrev cX12_works : ByteArray := prog_14_method_26_code
def yX12_works : MethodName := ⟨RX12, "works", "(III)V"⟩
abbrev cX12_worksInOrder : ByteArray := prog_14_method_27_code
def yX12_worksInOrder : MethodName := ⟨RX12, "worksInOrder", "()V"⟩
abbrev cX12_greatest : ByteArray := prog_14_method_28_code
def yX12_greatest : MethodName := ⟨RX12, "greatest", "()I"⟩
abbrev cX12_sum : ByteArray := prog_14_method_29_code
def yX12_sum : MethodName := ⟨RX12, "sum", "(I)I"⟩
abbrev cX12_worked : ByteArray := prog_14_method_30_code
def yX12_worked : MethodName := ⟨RX12, "worked", "(IZ)I"⟩
abbrev cX12_worksByTime : ByteArray := prog_14_method_31_code
def yX12_worksByTime : MethodName := ⟨RX12, "worksByTime", "(Z)V"⟩
abbrev cX12_hasJobs : ByteArray := prog_14_method_32_code
def yX12_hasJobs : MethodName := ⟨RX12, "hasJobs", "()Z"⟩
abbrev cX12_planByDueDates : ByteArray := prog_14_method_33_code
def yX12_planByDueDates : MethodName := ⟨RX12, "planByDueDates", "()I"⟩
abbrev cX12_planFewestLate : ByteArray := prog_14_method_34_code
def yX12_planFewestLate : MethodName := ⟨RX12, "planFewestLate", "()I"⟩
abbrev cX12_planByRatios : ByteArray := prog_14_method_35_code
def yX12_planByRatios : MethodName := ⟨RX12, "planByRatios", "()I"⟩
abbrev cX12_planLeastTardiness : ByteArray := prog_14_method_36_code
def yX12_planLeastTardiness : MethodName := ⟨RX12, "planLeastTardiness", "()I"⟩
abbrev cX12_planByFamilies : ByteArray := prog_14_method_37_code
def yX12_planByFamilies : MethodName := ⟨RX12, "planByFamilies", "()I"⟩
abbrev cX12_planPreemptiveByDates : ByteArray := prog_14_method_38_code
def yX12_planPreemptiveByDates : MethodName := ⟨RX12, "planPreemptiveByDates", "()I"⟩
abbrev cX12_planPreemptiveShortest : ByteArray := prog_14_method_39_code
def yX12_planPreemptiveShortest : MethodName := ⟨RX12, "planPreemptiveShortest", "()I"⟩
abbrev cX12_hasPlan : ByteArray := prog_14_method_40_code
def yX12_hasPlan : MethodName := ⟨RX12, "hasPlan", "()Z"⟩
abbrev cX12_pieces : ByteArray := prog_14_method_41_code
def yX12_pieces : MethodName := ⟨RX12, "pieces", "()I"⟩
abbrev cX12_isPiece : ByteArray := prog_14_method_42_code
def yX12_isPiece : MethodName := ⟨RX12, "isPiece", "(I)Z"⟩
abbrev cX12_kindOf : ByteArray := prog_14_method_43_code
def yX12_kindOf : MethodName := ⟨RX12, "kindOf", "(I)I"⟩
abbrev cX12_whoseIs : ByteArray := prog_14_method_44_code
def yX12_whoseIs : MethodName := ⟨RX12, "whoseIs", "(I)I"⟩
abbrev cX12_startOf : ByteArray := prog_14_method_45_code
def yX12_startOf : MethodName := ⟨RX12, "startOf", "(I)I"⟩
abbrev cX12_endOf : ByteArray := prog_14_method_46_code
def yX12_endOf : MethodName := ⟨RX12, "endOf", "(I)I"⟩
abbrev cX12_isPlanned : ByteArray := prog_14_method_47_code
def yX12_isPlanned : MethodName := ⟨RX12, "isPlanned", "(I)Z"⟩
abbrev cX12_completion : ByteArray := prog_14_method_48_code
def yX12_completion : MethodName := ⟨RX12, "completion", "(I)I"⟩
abbrev cX12_lateness : ByteArray := prog_14_method_49_code
def yX12_lateness : MethodName := ⟨RX12, "lateness", "(I)I"⟩
abbrev cX12_maxLateness : ByteArray := prog_14_method_50_code
def yX12_maxLateness : MethodName := ⟨RX12, "maxLateness", "()I"⟩
abbrev cX12_lateJobs : ByteArray := prog_14_method_51_code
def yX12_lateJobs : MethodName := ⟨RX12, "lateJobs", "()I"⟩
abbrev cX12_completions : ByteArray := prog_14_method_52_code
def yX12_completions : MethodName := ⟨RX12, "completions", "()I"⟩
abbrev cX12_weightedCompletions : ByteArray := prog_14_method_53_code
def yX12_weightedCompletions : MethodName := ⟨RX12, "weightedCompletions", "()I"⟩
abbrev cX12_weightedTardiness : ByteArray := prog_14_method_54_code
def yX12_weightedTardiness : MethodName := ⟨RX12, "weightedTardiness", "()I"⟩
abbrev cX12_areFew : ByteArray := prog_14_method_55_code
def yX12_areFew : MethodName := ⟨RX12, "areFew", "()Z"⟩
abbrev cX12_leastBy : ByteArray := prog_14_method_56_code
def yX12_leastBy : MethodName := ⟨RX12, "leastBy", "(I)I"⟩
abbrev cX12_leastLateness : ByteArray := prog_14_method_57_code
def yX12_leastLateness : MethodName := ⟨RX12, "leastLateness", "()I"⟩
abbrev cX12_leastCompletions : ByteArray := prog_14_method_58_code
def yX12_leastCompletions : MethodName := ⟨RX12, "leastCompletions", "()I"⟩
abbrev cX12_leastTardiness : ByteArray := prog_14_method_59_code
def yX12_leastTardiness : MethodName := ⟨RX12, "leastTardiness", "()I"⟩
abbrev cX12_leastWithSetups : ByteArray := prog_14_method_60_code
def yX12_leastWithSetups : MethodName := ⟨RX12, "leastWithSetups", "()I"⟩
abbrev cX12_takes : ByteArray := prog_14_method_61_code
def yX12_takes : MethodName := ⟨RX12, "takes", "(I)I"⟩
abbrev cX12_worth : ByteArray := prog_14_method_62_code
def yX12_worth : MethodName := ⟨RX12, "worth", "(I)I"⟩
abbrev cX12_leastOfPriorities : ByteArray := prog_14_method_63_code
def yX12_leastOfPriorities : MethodName := ⟨RX12, "leastOfPriorities", "(I)I"⟩
abbrev cX12_leastPreemptiveLateness : ByteArray := prog_14_method_64_code
def yX12_leastPreemptiveLateness : MethodName := ⟨RX12, "leastPreemptiveLateness", "()I"⟩
abbrev cX12_leastPreemptiveCompletions : ByteArray := prog_14_method_65_code
def yX12_leastPreemptiveCompletions : MethodName := ⟨RX12, "leastPreemptiveCompletions", "()I"⟩
abbrev cX12_canBeOnTime : ByteArray := prog_14_method_66_code
def yX12_canBeOnTime : MethodName := ⟨RX12, "canBeOnTime", "(I)Z"⟩
abbrev cX12_fewestLateBySets : ByteArray := prog_14_method_67_code
def yX12_fewestLateBySets : MethodName := ⟨RX12, "fewestLateBySets", "()I"⟩
abbrev cX12_releaseOf : ByteArray := prog_14_method_68_code
def yX12_releaseOf : MethodName := ⟨RX12, "releaseOf", "(IZ)I"⟩
abbrev cX12_bound : ByteArray := prog_14_method_69_code
def yX12_bound : MethodName := ⟨RX12, "bound", "(IIZ)I"⟩
abbrev cX12_windowBound : ByteArray := prog_14_method_70_code
def yX12_windowBound : MethodName := ⟨RX12, "windowBound", "(Z)I"⟩
abbrev cX12_windowJob : ByteArray := prog_14_method_71_code
def yX12_windowJob : MethodName := ⟨RX12, "windowJob", "(Z)I"⟩
abbrev cX12_windowDue : ByteArray := prog_14_method_72_code
def yX12_windowDue : MethodName := ⟨RX12, "windowDue", "()I"⟩
abbrev cX12_windowRelease : ByteArray := prog_14_method_73_code
def yX12_windowRelease : MethodName := ⟨RX12, "windowRelease", "()I"⟩
def RJx29ce0 : String := "java/lang/Enum"
def TJx29ce0 : u_T := fun k => match k with
  | _ => ("", "", "", false)
def tyJx29ce0 : Nat → FieldType := fun k => match k with
  | _ => .int
abbrev cJx29ce0_ordinal_8abf5 : ByteArray := prog_15_method_2_code
def yJx29ce0_ordinal_8abf5 : MethodName := ⟨RJx29ce0, "ordinal", "()I"⟩
def RJ6 : String := "java/lang/Integer"
def TJ6 : u_T := fun k => match k with
  | _ => ("", "", "", false)
def tyJ6 : Nat → FieldType := fun k => match k with
  | _ => .int
abbrev cJ6_bitCount_0f7a4 : ByteArray := prog_20_method_49_code
def yJ6_bitCount_0f7a4 : MethodName := ⟨RJ6, "bitCount", "(I)I"⟩
def RJ9 : String := "java/lang/Math"
def TJ9 : u_T := fun k => match k with
  | _ => ("", "", "", false)
def tyJ9 : Nat → FieldType := fun k => match k with
  | _ => .int
abbrev cJ9_max_7cf53 : ByteArray := prog_21_method_65_code
def yJ9_max_7cf53 : MethodName := ⟨RJ9, "max", "(II)I"⟩
abbrev cJ9_min_7cf53 : ByteArray := prog_21_method_69_code
def yJ9_min_7cf53 : MethodName := ⟨RJ9, "min", "(II)I"⟩
def RJ0 : String := "java/lang/String"
def TJ0 : u_T := fun k => match k with
  | _ => ("", "", "", false)
def tyJ0 : Nat → FieldType := fun k => match k with
  | _ => .int
def RJ10 : String := "java/lang/System"
def TJ10 : u_T := fun k => match k with
  | _ => ("", "", "", false)
def tyJ10 : Nat → FieldType := fun k => match k with
  | _ => .int
def RL : String := "OneMachineLaw"
abbrev cL_addJob : ByteArray := method_3_code
def yL_addJob : MethodName := ⟨RL, "addJob", "(LOneMachine;IIIII[J)I"⟩
abbrev cL_changeJob : ByteArray := method_4_code
def yL_changeJob : MethodName := ⟨RL, "changeJob", "(LOneMachine;IIIIII)I"⟩
abbrev cL_removeJob : ByteArray := method_5_code
def yL_removeJob : MethodName := ⟨RL, "removeJob", "(LOneMachine;I[J)I"⟩
abbrev cL_setSetup : ByteArray := method_6_code
def yL_setSetup : MethodName := ⟨RL, "setSetup", "(LOneMachine;II[J)I"⟩
abbrev cL_planByDueDates : ByteArray := method_7_code
def yL_planByDueDates : MethodName := ⟨RL, "planByDueDates", "(LOneMachine;[J)I"⟩
abbrev cL_planFewestLate : ByteArray := method_8_code
def yL_planFewestLate : MethodName := ⟨RL, "planFewestLate", "(LOneMachine;[J)I"⟩
abbrev cL_planByRatios : ByteArray := method_9_code
def yL_planByRatios : MethodName := ⟨RL, "planByRatios", "(LOneMachine;[J)I"⟩
abbrev cL_planLeastTardiness : ByteArray := method_10_code
def yL_planLeastTardiness : MethodName := ⟨RL, "planLeastTardiness", "(LOneMachine;[J)I"⟩
abbrev cL_planByFamilies : ByteArray := method_11_code
def yL_planByFamilies : MethodName := ⟨RL, "planByFamilies", "(LOneMachine;[J)I"⟩
abbrev cL_planPreemptiveByDates : ByteArray := method_12_code
def yL_planPreemptiveByDates : MethodName := ⟨RL, "planPreemptiveByDates", "(LOneMachine;[J)I"⟩
abbrev cL_planPreemptiveShortest : ByteArray := method_13_code
def yL_planPreemptiveShortest : MethodName := ⟨RL, "planPreemptiveShortest", "(LOneMachine;[J)I"⟩
abbrev cL_kindOf : ByteArray := method_14_code
def yL_kindOf : MethodName := ⟨RL, "kindOf", "(LOneMachine;I[J)I"⟩
abbrev cL_whoseIs : ByteArray := method_15_code
def yL_whoseIs : MethodName := ⟨RL, "whoseIs", "(LOneMachine;I[J)I"⟩
abbrev cL_startOf : ByteArray := method_16_code
def yL_startOf : MethodName := ⟨RL, "startOf", "(LOneMachine;I[J)I"⟩
abbrev cL_endOf : ByteArray := method_17_code
def yL_endOf : MethodName := ⟨RL, "endOf", "(LOneMachine;I[J)I"⟩
abbrev cL_completion : ByteArray := method_18_code
def yL_completion : MethodName := ⟨RL, "completion", "(LOneMachine;I[J)I"⟩
abbrev cL_lateness : ByteArray := method_19_code
def yL_lateness : MethodName := ⟨RL, "lateness", "(LOneMachine;I[J)I"⟩
abbrev cL_maxLateness : ByteArray := method_20_code
def yL_maxLateness : MethodName := ⟨RL, "maxLateness", "(LOneMachine;[J)I"⟩
abbrev cL_lateJobs : ByteArray := method_21_code
def yL_lateJobs : MethodName := ⟨RL, "lateJobs", "(LOneMachine;[J)I"⟩
abbrev cL_completions : ByteArray := method_22_code
def yL_completions : MethodName := ⟨RL, "completions", "(LOneMachine;[J)I"⟩
abbrev cL_weightedCompletions : ByteArray := method_23_code
def yL_weightedCompletions : MethodName := ⟨RL, "weightedCompletions", "(LOneMachine;[J)I"⟩
abbrev cL_weightedTardiness : ByteArray := method_24_code
def yL_weightedTardiness : MethodName := ⟨RL, "weightedTardiness", "(LOneMachine;[J)I"⟩
abbrev cL_leastLateness : ByteArray := method_25_code
def yL_leastLateness : MethodName := ⟨RL, "leastLateness", "(LOneMachine;[J)I"⟩
abbrev cL_leastCompletions : ByteArray := method_26_code
def yL_leastCompletions : MethodName := ⟨RL, "leastCompletions", "(LOneMachine;[J)I"⟩
abbrev cL_leastTardiness : ByteArray := method_27_code
def yL_leastTardiness : MethodName := ⟨RL, "leastTardiness", "(LOneMachine;[J)I"⟩
abbrev cL_leastWithSetups : ByteArray := method_28_code
def yL_leastWithSetups : MethodName := ⟨RL, "leastWithSetups", "(LOneMachine;[J)I"⟩
abbrev cL_leastPreemptiveLateness : ByteArray := method_29_code
def yL_leastPreemptiveLateness : MethodName := ⟨RL, "leastPreemptiveLateness", "(LOneMachine;[J)I"⟩
abbrev cL_leastPreemptiveCompletions : ByteArray := method_30_code
def yL_leastPreemptiveCompletions : MethodName := ⟨RL, "leastPreemptiveCompletions", "(LOneMachine;[J)I"⟩
abbrev cL_canBeOnTime : ByteArray := method_31_code
def yL_canBeOnTime : MethodName := ⟨RL, "canBeOnTime", "(LOneMachine;I[J)I"⟩
abbrev cL_windowBound : ByteArray := method_32_code
def yL_windowBound : MethodName := ⟨RL, "windowBound", "(LOneMachine;Z[J)I"⟩
abbrev cL_windowDue : ByteArray := method_33_code
def yL_windowDue : MethodName := ⟨RL, "windowDue", "(LOneMachine;[J)I"⟩
abbrev cL_windowRelease : ByteArray := method_34_code
def yL_windowRelease : MethodName := ⟨RL, "windowRelease", "(LOneMachine;[J)I"⟩
abbrev cL_law : ByteArray := code
def yL_law : MethodName := ⟨RL, "law", "([I)Z"⟩
abbrev vwCl : List vw_C := [(RX2, TX2, 7), (RX4, TX4, 4), (RX5, TX5, 6), (RX6, TX6, 2), (RX7, TX7, 5), (RX8, TX8, 1), (RX10, TX10, 3), (RX11, TX11, 7), (RX12, TX12, 20)]
end
section
/-! ===== BEGIN exceptions that leave a method, and their catching by the caller (launches without stack traces) ===== -/
section VXA
/-! The laws vx_back, vx_callV, vx_callS, vx_callSW, vx_throw0, vx_throwS follow proofs of the library, with one case more: JvmDerived/Free/Laws.lean (Back.of_free), Shelf42/LK1.lean (callV, callS), Shelf/KitTraced.lean (throwNew0V, throwNewS). -/
/-- where a method has thrown q: the class by its name, the cell, what was written, the world -/
def vx_T (XC : String → State → State → Prop) (st : State) (q : Addr) (t : State) (mc ms : Nat) (free : Addr → Prop) : Prop :=
  ∃ (E : String) (ce : Cell) (L : List Loc), XC E st t ∧ t.heap[q]? = some ce ∧ ce.vm = .none ∧ st.vm.findClass E = some ce.cls ∧ st.WarmedH t.vm ∧ st.sameButNew ({ t with vm := st.vm } : State) L mc ms ∧ ∀ z ∈ L, free z.base
def vx_Q (Qc : Array Value → State → Outcome → State → Prop) (XC : String → State → State → Prop) (mc ms : Nat) (free : Addr → Prop) : Array Value → State → Outcome → State → Prop := fun a st o t =>
  (Qc a st o t ∧ ∃ L, FrameEnd st o t L mc ms ∧ ∀ q ∈ L, free q.base) ∨ ∃ q, o = .threw q ∧ vx_T XC st q t mc ms free
/-- a callee that returns or throws -/
def vx_Met (l : Launch) (y : MethodName) (ws : List Cond) (rm : Room) (Pc : Array Value → State → Prop) (Qc : Array Value → State → Outcome → State → Prop) (XC : String → State → State → Prop) (mc ms : Nat) (free : Addr → Prop) : Prop :=
  MetFree l y (headSpec ws rm) Pc (fun _ _ _ _ _ => True) (vx_Q Qc XC mc ms free)
def vx_Post (XC : String → State → State → Prop) (mc ms : Nat) (free : Addr → Prop) : Pt → Array Value → Addr → Pt → Prop := fun A a q B =>
  ∃ (g : JFrame) (mk : MethodId) (t : State) (L : List Loc) (E : String) (ce : Cell), B.U.heap = t.heap ∧ B.U.vm = t.vm ∧ XC E (A.U.calling g mk a) t ∧ t.heap[q]? = some ce ∧ ce.vm = .none ∧ A.U.vm.findClass E = some ce.cls ∧ B.locs = A.locs ++ L ∧ (∀ z ∈ L, free z.base) ∧ B.cells = A.cells + mc ∧ B.slots = A.slots + ms
def vx_Back (l : Launch) (R : Room) (p : Program) (e : Env) (below : List Frame) (s : State) (sargs : Array Value) (y : MethodName) (len W9 : Nat)
    (Pre : Pt → Array Value → Prop) (Post : Pt → Array Value → Option Value → Pt → Prop) (PostX : Pt → Array Value → Addr → Pt → Prop) : Prop :=
  ∀ (m : MethodId) (meth : Method) (c : Code) (A : Pt) (g : JFrame) (ig : Instr) (mk : MethodId) (a : Array Value),
    Stand p l e R s m sargs below meth c A.U A.locs A.cells A.slots → g.method = m → g.locals.size = c.maxLocals → decode c.code g.pc = .ok (ig, len) →
    2 * g.monitorRoom + (g.stack.map fun v => v.category).sum ≤ W9 → A.U.methodNamed? y = some mk → Pre A a →
    (∃ (v : Option Value) (B : Pt), Stand p l e R s m sargs below meth c B.U B.locs B.cells B.slots ∧ Post A a v B ∧
      Steps p.tables e below (doInvoke e (A.U.setTop g) [] mk a).1 (B.U.setTop { g with pc := g.pc + len, stack := v.toList ++ g.stack })) ∨
    (∃ (q : Addr) (B : Pt), Stand p l e R s m sargs below meth c B.U B.locs B.cells B.slots ∧ PostX A a q B ∧
      Steps p.tables e below (doInvoke e (A.U.setTop g) [] mk a).1 ((B.U.setTop g).pushFrame (.throwing q)))
section Payer
variable {l : Launch} {R : Room} {p : Program} {e : Env} {below : List Frame} {s : State} {sargs : Array Value} {y : MethodName} {len W9 : Nat}
theorem vx_back {ws : List Cond} {rm : Room} {Pc : Array Value → State → Prop} {Qc : Array Value → State → Outcome → State → Prop} {XC : String → State → State → Prop} {mc ms : Nat} {free : Addr → Prop} {bytes : ByteArray} {maxL : Nat} {ret : Option FieldType}
    (hM : vx_Met l y ws rm Pc Qc XC mc ms free) (hblind : FrameBlind Pc) (hrc : rm.cells = mc) (hrs : rm.slots = ms)
    (hframes : rm.frames + 1 ≤ R.frames) (hlocals : W9 + (maxL + 11) + rm.locals ≤ R.locals)
    (hws : ∀ w ∈ ws, ∀ a' U, s.WarmedH U.vm → w.before a' U = true) (hcode : Cond.code y bytes maxL ret ∈ ws) (hinit : ∀ a' U, s.WarmedH U.vm → (Cond.initialized y.cls).before a' U = true) :
    vx_Back l R p e below s sargs y len W9 (PreOf R mc ms Pc) (PostOf Qc mc ms free) (vx_Post XC mc ms free) := by
  intro m meth c A g ig mk a X hg hsize hdg hW hn hp
  have h1 : (headSpec ws rm).pre.before a A.U = true := atoms_intro fun w hw => hws w hw _ _ X.warmed
  have h2 : (Cond.code y bytes maxL ret).before a A.U = true := hws _ hcode _ _ X.warmed
  have h3 : (Cond.initialized y.cls).before a A.U = true := hinit _ _ X.warmed
  have h4 : A.cells + (headSpec ws rm).room.cells ≤ R.cells := by rw [show (headSpec ws rm).room.cells = mc from hrc]; exact hp.1
  have h5 : A.slots + (headSpec ws rm).room.slots ≤ R.slots := by rw [show (headSpec ws rm).room.slots = ms from hrs]; exact hp.2.1
  have hPc : Pc a (A.U.calling g mk a) := hblind _ _ _ _ hp.2.2
  obtain ⟨U, Ls, c0, s0⟩ := A
  dsimp only [Pt.U, Pt.locs, Pt.cells, Pt.slots] at h1 h2 h3 h4 h5 X hn hPc ⊢
  obtain ⟨methY, cY, hmY, hcY, -, hlY, -, -, -, -⟩ := Cond.code_spec hn h2
  obtain ⟨kY, hkY, -⟩ := className_of_methodNamed hn
  have hinitY : kY.init = .initialized := Cond.initialized_spec (findClass_of_methodNamed hn) hkY h3
  have h : At U g.method c below := by rw [hg]; exact X.here
  have hlocals9 : W9 + (maxL + 11) + (headSpec ws rm).room.locals ≤ R.locals := hlocals
  have happ : (headSpec ws rm).appliesLoose y e.platform (U.calling g mk a) = true :=
    Spec.appliesLoose_calling (g := g) h hdg hn hkY hinitY
      (X.room_calling (g := g) (R' := (headSpec ws rm).room) hsize hmY hcY hframes (by rw [hlY]; omega) h4 h5) h1
  obtain ⟨mid, hmid⟩ := h.above
  have hfr : (U.setTop g).frames = (.java g :: mid) ++ below := by rw [State.frames_setTop' g h.top, hmid]; rfl
  obtain ⟨o, s₂, hsteps, -, hend, hq⟩ := Steps.callFree hM p X.admits X.cas X.clock (acts := []) hfr happ hPc trivial
  have hq' : vx_Q Qc XC mc ms free a (U.calling g mk a) o s₂ := hq
  rw [State.frames_setTop' g h.top] at hend
  obtain ⟨g₀, hg0⟩ := Option.isSome_iff_exists.mp h.top
  obtain ⟨r, hr⟩ := State.topJava?_eq_some.mp hg0
  have hr' : (({ U with heap := s₂.heap, slotsUsed := s₂.slotsUsed } : State).setVm s₂.vm).frames = .java g₀ :: r := hr
  rcases hq' with ⟨hqc, L, hfe, hL⟩ | ⟨q, rfl, E, ce, L, hx, hce, hcv, hcl, hW₂, hsm, hL⟩
  · obtain ⟨⟨v, rfl⟩, hW₂, e2, q2, q3, q4, q5, q6⟩ := id hfe
    have e3 : s₂ = ({ (U.calling g mk a).setFrames s₂.frames with heap := s₂.heap, slotsUsed := s₂.slotsUsed } : State).setVm s₂.vm := by
      have : s₂ = ({ s₂ with vm := (U.calling g mk a).vm } : State).setVm s₂.vm := rfl
      rw [e2] at this
      exact this
    obtain ⟨c₂, i₂, len₂, hc₂, hd₂, hf₂⟩ := hend
    have hW' : U.WarmedH s₂.vm := hW₂
    have hcc : c₂ = c := by
      have h1 : s₂.code? g.method = U.code? g.method := by
        rw [State.code?_eq, State.code?_eq, hW'.alike.method?]
      exact Option.some.inj (hc₂.symm.trans (h1.trans h.code))
    subst hcc
    have hlen : len₂ = len := by rw [hdg] at hd₂; cases hd₂; rfl
    subst hlen
    have hs₂ : s₂ = (({ U with heap := s₂.heap, slotsUsed := s₂.slotsUsed } : State).setVm s₂.vm).setTop { g with pc := g.pc + len₂, stack := v.toList ++ g.stack } := by
      refine e3.trans ?_
      rw [hf₂, State.calling_eq h.top, State.setFrames_setFrames, State.setTop_of_frames _ hr', hr]
      rfl
    have hsame : U.sameButNew ({ U with heap := s₂.heap, slotsUsed := s₂.slotsUsed } : State) L mc ms := by
      refine ⟨?_, q2, q3, q4, q5, q6⟩
      obtain ⟨t, ht, -⟩ := State.frames_cons hr
      show ({ U with heap := s₂.heap, slotsUsed := s₂.slotsUsed } : State) = { U.setFrames U.frames with heap := s₂.heap, slotsUsed := s₂.slotsUsed }
      rw [State.setFrames_self ht]
    subst hg
    refine Or.inl ⟨v, ⟨(({ U with heap := s₂.heap, slotsUsed := s₂.slotsUsed } : State).setVm s₂.vm), Ls ++ L, c0 + mc, s0 + ms⟩,
      ⟨X.admits, X.cas, X.clock, X.frames, X.room, X.hears, X.method, X.code, (X.here.setHeapUsed s₂.heap s₂.slotsUsed).setVm hW'.alike, X.tail, State.WarmedH.trans X.warmed hW', X.limits, X.bytes, X.same.trans (hsame.setVm s.vm)⟩,
      ⟨g, mk, s₂, L, rfl, rfl, hqc, rfl, hL, rfl, rfl⟩, ?_⟩
    show Steps p.tables e below _ ((({ U with heap := s₂.heap, slotsUsed := s₂.slotsUsed } : State).setVm s₂.vm).setTop { g with pc := g.pc + len₂, stack := v.toList ++ g.stack })
    rw [← hs₂]
    exact hsteps
  · obtain ⟨e2, q2, q3, q4, q5, q6⟩ := id hsm
    have e3 : s₂ = ({ (U.calling g mk a).setFrames s₂.frames with heap := s₂.heap, slotsUsed := s₂.slotsUsed } : State).setVm s₂.vm := by
      have : s₂ = ({ s₂ with vm := (U.calling g mk a).vm } : State).setVm s₂.vm := rfl
      rw [e2] at this
      exact this
    have hf₂ : s₂.frames = .throwing q :: .java g :: U.frames.tail := hend
    have hW' : U.WarmedH s₂.vm := hW₂
    have hs₂ : s₂ = ((({ U with heap := s₂.heap, slotsUsed := s₂.slotsUsed } : State).setVm s₂.vm).setTop g).pushFrame (.throwing q) := by
      refine e3.trans ?_
      rw [hf₂, State.calling_eq h.top, State.setFrames_setFrames, State.pushFrame, State.frames_setTop _ hr', State.setTop_of_frames _ hr', State.setFrames_setFrames, hr]
      rfl
    have hsame : U.sameButNew ({ U with heap := s₂.heap, slotsUsed := s₂.slotsUsed } : State) L mc ms := by
      refine ⟨?_, q2, q3, q4, q5, q6⟩
      obtain ⟨t, ht, -⟩ := State.frames_cons hr
      show ({ U with heap := s₂.heap, slotsUsed := s₂.slotsUsed } : State) = { U.setFrames U.frames with heap := s₂.heap, slotsUsed := s₂.slotsUsed }
      rw [State.setFrames_self ht]
    subst hg
    refine Or.inr ⟨q, ⟨(({ U with heap := s₂.heap, slotsUsed := s₂.slotsUsed } : State).setVm s₂.vm), Ls ++ L, c0 + mc, s0 + ms⟩,
      ⟨X.admits, X.cas, X.clock, X.frames, X.room, X.hears, X.method, X.code, (X.here.setHeapUsed s₂.heap s₂.slotsUsed).setVm hW'.alike, X.tail, State.WarmedH.trans X.warmed hW', X.limits, X.bytes, X.same.trans (hsame.setVm s.vm)⟩,
      ⟨g, mk, s₂, L, E, ce, rfl, rfl, hx, hce, hcv, hcl, rfl, hL, rfl, rfl⟩, ?_⟩
    show Steps p.tables e below _ (((({ U with heap := s₂.heap, slotsUsed := s₂.slotsUsed } : State).setVm s₂.vm).setTop g).pushFrame (.throwing q))
    rw [← hs₂]
    exact hsteps
end Payer
section Calls
variable {p : Program} {l : Launch} {e : Env} {R : Room} {s : State} {m : MethodId} {args : Array Value} {below : List Frame} {meth : Method} {c : Code} {T : State} {locs : List Loc} {cells slots : Nat}
theorem vx_callV (X : Stand p l e R s m args below meth c T locs cells slots) (hexec : p.tables.exec = Jvm.exec) {own C : String} {index : Nat} {y : MethodName} {bytes : ByteArray} {maxL : Nat} {ret : Option FieldType}
    (hown : s.vm.findClass own = some m.cls) (hlink : (Cond.methodLink own index y).before args s = true) (hinst : (Cond.instanceMethod y).before args s = true) (hsel : (Cond.selects C y y).before args s = true)
    (hcode : (Cond.code y bytes maxL ret).before args s = true) (hy : y.cls ≠ "java/lang/invoke/MethodHandle" ∧ y.cls ≠ "java/lang/invoke/VarHandle")
    {W9 : Nat} {Pre : Pt → Array Value → Prop} {Post : Pt → Array Value → Option Value → Pt → Prop} {PostX : Pt → Array Value → Addr → Pt → Prop} (hK : vx_Back l R p e below s args y 3 W9 Pre Post PostX)
    {b : Addr} {cellB : Cell} (hcell : T.heap[b]? = some cellB) (hobj : cellB.vm.isStatics = false) (hcls : s.vm.findClass C = some cellB.cls)
    {g : JFrame} (hg : g.method = m) (hsize : g.locals.size = c.maxLocals) {argsL rest : List Value} (hlen : ∀ sig, parseMethodDescriptor y.desc = some sig → argsL.length = sig.parameters.length)
    (hstack : g.stack = argsL.reverse ++ .ref b :: rest) (hW : 2 * g.monitorRoom + (rest.map fun v => v.category).sum ≤ W9) (hdg : decode c.code g.pc = .ok (.invokevirtual index, 3))
    (hpre : ∀ vm₁, s.WarmedH vm₁ → Pre ⟨T.setVm vm₁, locs, cells, slots⟩ (Value.ref b :: argsL).toArray) :
    (∃ (v : Option Value) (vm₁ : Vm) (B : Pt), s.WarmedH vm₁ ∧ Stand p l e R s m args below meth c B.U B.locs B.cells B.slots ∧ Post ⟨T.setVm vm₁, locs, cells, slots⟩ (Value.ref b :: argsL).toArray v B ∧
      ∀ target, Steps p.tables e below (B.U.setTop { g with pc := g.pc + 3, stack := v.toList ++ rest }) target → Steps p.tables e below (T.setTop g) target) ∨
    (∃ (q : Addr) (vm₁ : Vm) (B : Pt), s.WarmedH vm₁ ∧ Stand p l e R s m args below meth c B.U B.locs B.cells B.slots ∧ PostX ⟨T.setVm vm₁, locs, cells, slots⟩ (Value.ref b :: argsL).toArray q B ∧
      Steps p.tables e below (T.setTop g) ((B.U.setTop { g with stack := rest }).pushFrame (.throwing q))) := by
  obtain ⟨mk, methM, hnamed, hmethM, hstM, habM⟩ := Cond.instanceMethod_spec hinst
  obtain ⟨methM', cM, hmethM', -, -, -, -, -, -, hsigM⟩ := Cond.code_spec hnamed hcode
  cases hmethM.symm.trans hmethM'
  obtain ⟨c2, r2, m2, q1, q2, q3, q4, kP, hkP, hkPi⟩ := Cond.selects_spec hsel
  cases hcls.symm.trans q1
  cases (State.methodFound?_of_named hnamed hy).symm.trans q2
  cases hnamed.symm.trans q3
  have hselP : selectMethod e.platform s.vm cellB.cls mk = .method mk := by rw [Launch.admits_selectMethod X.admits]; exact q4
  obtain ⟨vm₁, X₁, hstep₁⟩ := X.invokevirtual hexec hown hlink hnamed hmethM hstM hkP hkPi hy (a := b) (cell := cellB) hcell
    (fun z h => by rw [h] at hobj; cases hobj) hselP hmethM habM hkP hkPi (g := g) hg (argsL := argsL) (rest := rest) (hlen _ hsigM) hstack hdg
  rcases hK m meth c ⟨T.setVm vm₁, locs, cells, slots⟩ { g with stack := rest } (.invokevirtual index) mk (Value.ref b :: argsL).toArray X₁ hg hsize hdg hW (X₁.named hnamed) (hpre vm₁ X₁.warmed) with ⟨v, B, X', hpost, hsteps⟩ | ⟨q, B, X', hpost, hsteps⟩
  · exact Or.inl ⟨v, vm₁, B, X₁.warmed, X', hpost, fun target h => hstep₁ _ fun acts => by rw [doInvoke_state]; exact hsteps.trans h⟩
  · exact Or.inr ⟨q, vm₁, B, X₁.warmed, X', hpost, hstep₁ _ fun acts => by rw [doInvoke_state]; exact hsteps⟩
theorem vx_callS (X : Stand p l e R s m args below meth c T locs cells slots) (hexec : p.tables.exec = Jvm.exec) {own : String} {index : Nat} {y : MethodName} {bytes : ByteArray} {maxL : Nat} {ret : Option FieldType}
    (hown : s.vm.findClass own = some m.cls) (hlink : (Cond.methodLink own index y).before args s = true) (hstat : (Cond.static y).before args s = true) (hinit : (Cond.initialized y.cls).before args s = true)
    (hcode : (Cond.code y bytes maxL ret).before args s = true) (hy : y.cls ≠ "java/lang/invoke/MethodHandle" ∧ y.cls ≠ "java/lang/invoke/VarHandle")
    {W9 : Nat} {Pre : Pt → Array Value → Prop} {Post : Pt → Array Value → Option Value → Pt → Prop} {PostX : Pt → Array Value → Addr → Pt → Prop} (hK : vx_Back l R p e below s args y 3 W9 Pre Post PostX)
    {g : JFrame} (hg : g.method = m) (hsize : g.locals.size = c.maxLocals) {argsL rest : List Value} (hlen : ∀ sig, parseMethodDescriptor y.desc = some sig → argsL.length = sig.parameters.length)
    (hstack : g.stack = argsL.reverse ++ rest) (hW : 2 * g.monitorRoom + (rest.map fun v => v.category).sum ≤ W9) (hdg : decode c.code g.pc = .ok (.invokestatic index, 3))
    (hpre : ∀ vm₁, s.WarmedH vm₁ → Pre ⟨T.setVm vm₁, locs, cells, slots⟩ argsL.toArray) :
    (∃ (v : Option Value) (vm₁ : Vm) (B : Pt), s.WarmedH vm₁ ∧ Stand p l e R s m args below meth c B.U B.locs B.cells B.slots ∧ Post ⟨T.setVm vm₁, locs, cells, slots⟩ argsL.toArray v B ∧
      ∀ target, Steps p.tables e below (B.U.setTop { g with pc := g.pc + 3, stack := v.toList ++ rest }) target → Steps p.tables e below (T.setTop g) target) ∨
    (∃ (q : Addr) (vm₁ : Vm) (B : Pt), s.WarmedH vm₁ ∧ Stand p l e R s m args below meth c B.U B.locs B.cells B.slots ∧ PostX ⟨T.setVm vm₁, locs, cells, slots⟩ argsL.toArray q B ∧
      Steps p.tables e below (T.setTop g) ((B.U.setTop { g with stack := rest }).pushFrame (.throwing q))) := by
  obtain ⟨mk, hnamed⟩ := Cond.code_named hcode
  obtain ⟨methM, cM, hmethM, -, -, -, -, -, -, hsigM⟩ := Cond.code_spec hnamed hcode
  have hstatic : methM.isStatic = true := Cond.static_spec hnamed hmethM hstat
  obtain ⟨kP, hkP, -⟩ := className_of_methodNamed hnamed
  have hinitP : kP.init = .initialized := Cond.initialized_spec (findClass_of_methodNamed hnamed) hkP hinit
  obtain ⟨vm₁, X₁, hstep₁⟩ := X.invokestatic hexec hown hlink hnamed hmethM hstatic hkP hinitP hy (g := g) hg (argsL := argsL) (rest := rest) (hlen _ hsigM) hstack hdg
  rcases hK m meth c ⟨T.setVm vm₁, locs, cells, slots⟩ { g with stack := rest } (.invokestatic index) mk argsL.toArray X₁ hg hsize hdg hW (X₁.named hnamed) (hpre vm₁ X₁.warmed) with ⟨v, B, X', hpost, hsteps⟩ | ⟨q, B, X', hpost, hsteps⟩
  · exact Or.inl ⟨v, vm₁, B, X₁.warmed, X', hpost, fun target h => hstep₁ _ fun acts => by rw [doInvoke_state]; exact hsteps.trans h⟩
  · exact Or.inr ⟨q, vm₁, B, X₁.warmed, X', hpost, hstep₁ _ fun acts => by rw [doInvoke_state]; exact hsteps⟩
end Calls
theorem vx_cls {s : State} {T : State} {vm₁ : Vm} {E : String} {k : ClassId} (hW : s.WarmedH vm₁) (h : (T.setVm vm₁).vm.findClass E = some k) : s.vm.findClass E = some k := by
  have h1 : vm₁.findClass E = some k := h
  rw [hW.alike.findClass] at h1
  exact h1
/-- the method's frame g, with q thrown over it -/
def vx_W (p : Program) (l : Launch) (e : Env) (R : Room) (s : State) (m : MethodId) (args : Array Value) (below : List Frame) (meth : Method) (c : Code) (H : Heap) (locs : List Loc) (cells slots : Nat) (Q : State → Prop) (g : JFrame) (q : Addr) : Prop :=
  ∀ T : State, T.heap = H → Stand p l e R s m args below meth c T locs cells slots → ∃ t, Steps p.tables e below ((T.setTop g).pushFrame (.throwing q)) t ∧ Q t
def vx_Run (p : Program) (l : Launch) (e : Env) (R : Room) (s : State) (m : MethodId) (args : Array Value) (below : List Frame) (meth : Method) (c : Code) (H : Heap) (locs : List Loc) (cells slots mc ms : Nat) (g : JFrame) (rest : List Value) (Qa : State → Outcome → State → Prop) (XC : String → State → State → Prop) (free : Addr → Prop) : Prop :=
  ∀ T : State, T.heap = H → Stand p l e R s m args below meth c T locs cells slots →
    (∃ (v : Option Value) (st₀ t T' : State) (L : List Loc), st₀.heap = H ∧ Stand p l e R s m args below meth c T' (locs ++ L) (cells + mc) (slots + ms) ∧ (∀ q ∈ L, free q.base) ∧ T'.heap = t.heap ∧ T'.vm = t.vm ∧ Qa st₀ (.returned v) t ∧
      Goes p e below T g T' { g with pc := g.pc + 3, stack := v.toList ++ rest }) ∨
    (∃ (q : Addr) (st₀ t T' : State) (L : List Loc) (E : String) (ce : Cell), st₀.heap = H ∧ Stand p l e R s m args below meth c T' (locs ++ L) (cells + mc) (slots + ms) ∧ (∀ z ∈ L, free z.base) ∧ T'.heap = t.heap ∧ T'.vm = t.vm ∧ XC E st₀ t ∧ t.heap[q]? = some ce ∧ ce.vm = .none ∧ s.vm.findClass E = some ce.cls ∧
      Steps p.tables e below (T.setTop g) ((T'.setTop { g with stack := rest }).pushFrame (.throwing q)))
def vx_X {S : Type} (px : S → Prop) (B : String → S → State → Prop) (A : Nat → Prop) : String → State → State → Prop := fun E st t => ∃ u : S, px u ∧ B E u t ∧ va_F A st t
section Runs
variable {p : Program} {l : Launch} {e : Env} {R : Room} {s : State} {m : MethodId} {args : Array Value} {below : List Frame} {meth : Method} {c : Code} {H : Heap} {locs : List Loc} {cells slots : Nat}
variable {y : MethodName} {bytes cc : ByteArray} {maxL nL mc ms n index : Nat} {ret : Option FieldType} {ws : List Cond} {rm : Room} {Pc : Array Value → State → Prop} {Qc : Array Value → State → Outcome → State → Prop} {XC : String → State → State → Prop} {free : Addr → Prop} {Ts : List Cond} {own C : String} {b : Addr} {As rest : List Value} {g : JFrame}
theorem vx_callBack (cb : CallB R s args own index y bytes maxL ret ws rm mc ms n) (hM : vx_Met l y ws rm Pc Qc XC mc ms free) (hbl : FrameBlind Pc) : vx_Back l R p e below s args y 3 8 (PreOf R mc ms Pc) (PostOf Qc mc ms free) (vx_Post XC mc ms free) := by
  obtain ⟨hrc, hrs, hfr, hlo, hws, hcw, -, hini, -⟩ := cb
  exact vx_back (bytes := bytes) (maxL := maxL) (ret := ret) hM hbl hrc hrs hfr hlo hws hcw (fun a' U hW => word_at hW (Or.inl (by first | rfl | simp [Cond.onTables, Cond.keeps, Cond.steady])) hini)
theorem vx_runV (S : CallFix p m c cc nL s args Ts own) (hM : vx_Met l y ws rm Pc Qc XC mc ms free) (cw : CallW R s args own C index y bytes maxL ret ws rm mc ms n) (hp : PreV s H C b Pc As)
    (hg : g.method = m) (hn : As.length = n) (hsize : g.locals.size = nL) (hstack : g.stack = As.reverse ++ .ref b :: rest) (hW : 2 * g.monitorRoom + (rest.map fun v => v.category).sum ≤ 8) (hdg : decode cc g.pc = .ok (.invokevirtual index, 3)) (hf : cells + mc ≤ R.cells ∧ slots + ms ≤ R.slots) :
    vx_Run p l e R s m args below meth c H locs cells slots mc ms g rest (Qc (Value.ref b :: As).toArray) XC free := by
  have hK : vx_Back l R p e below s args y 3 8 (PreOf R mc ms Pc) (PostOf Qc mc ms free) (vx_Post XC mc ms free) := vx_callBack cw.1 hM hp.1
  obtain ⟨⟨-, -, -, -, -, -, hcode, -, hy, hlen, hl⟩, hin, hse⟩ := cw
  obtain ⟨hx, hb, hml, ho, -⟩ := S
  obtain ⟨-, ⟨cellB, hcB, hoB, hclB⟩, hPc⟩ := hp
  intro T hT X
  rcases vx_callV X hx (C := C) (bytes := bytes) (maxL := maxL) (ret := ret) ho hl hin hse hcode hy hK (by rw [hT]; exact hcB) hoB hclB hg (hsize.trans hml.symm) (argsL := As) (rest := rest) (fun sig h => hn.trans (hlen sig h)) hstack hW (by rw [hb]; exact hdg)
    (fun vm₁ hW₁ => ⟨hf.1, hf.2, hPc (T.setVm vm₁) hT hW₁⟩) with ⟨v, vm₁, ⟨U', l2, c2, s2⟩, hW₁, X', ⟨g', mk, t, L, e1, e2, hq, h1, hL, h2, h3⟩, st⟩ | ⟨q, vm₁, ⟨U', l2, c2, s2⟩, hW₁, X', ⟨g', mk, t, L, E, ce, e1, e2, hq, hce, hcv, hcl, h1, hL, h2, h3⟩, st⟩
  · dsimp only [Pt.U, Pt.locs, Pt.cells, Pt.slots] at X' e1 e2 h1 h2 h3 st
    subst h1; subst h2; subst h3
    exact Or.inl ⟨v, (T.setVm vm₁).calling g' mk (Value.ref b :: As).toArray, t, U', L, hT, X', hL, e1, e2, hq, st⟩
  · dsimp only [Pt.U, Pt.locs, Pt.cells, Pt.slots] at X' e1 e2 h1 h2 h3 st hcl
    subst h1; subst h2; subst h3
    exact Or.inr ⟨q, (T.setVm vm₁).calling g' mk (Value.ref b :: As).toArray, t, U', L, E, ce, hT, X', hL, e1, e2, hq, hce, hcv, vx_cls hW₁ hcl, st⟩
theorem vx_runS (S : CallFix p m c cc nL s args Ts own) (hM : vx_Met l y ws rm Pc Qc XC mc ms free) (cw : CallB R s args own index y bytes maxL ret ws rm mc ms n ∧ (Cond.static y).before args s = true) (hp : PreS s H Pc As)
    (hg : g.method = m) (hn : As.length = n) (hsize : g.locals.size = nL) (hstack : g.stack = As.reverse ++ rest) (hW : 2 * g.monitorRoom + (rest.map fun v => v.category).sum ≤ 8) (hdg : decode cc g.pc = .ok (.invokestatic index, 3)) (hf : cells + mc ≤ R.cells ∧ slots + ms ≤ R.slots) :
    vx_Run p l e R s m args below meth c H locs cells slots mc ms g rest (Qc As.toArray) XC free := by
  have hK : vx_Back l R p e below s args y 3 8 (PreOf R mc ms Pc) (PostOf Qc mc ms free) (vx_Post XC mc ms free) := vx_callBack cw.1 hM hp.1
  obtain ⟨⟨-, -, -, -, -, -, hcode, hini, hy, hlen, hl⟩, hstt⟩ := cw
  obtain ⟨hx, hb, hml, ho, -⟩ := S
  intro T hT X
  rcases vx_callS X hx (bytes := bytes) (maxL := maxL) (ret := ret) ho hl hstt hini hcode hy hK hg (hsize.trans hml.symm) (argsL := As) (rest := rest) (fun sig h => hn.trans (hlen sig h)) hstack hW (by rw [hb]; exact hdg)
    (fun vm₁ hW₁ => ⟨hf.1, hf.2, hp.2 (T.setVm vm₁) hT hW₁⟩) with ⟨v, vm₁, ⟨U', l2, c2, s2⟩, hW₁, X', ⟨g', mk, t, L, e1, e2, hq, h1, hL, h2, h3⟩, st⟩ | ⟨q, vm₁, ⟨U', l2, c2, s2⟩, hW₁, X', ⟨g', mk, t, L, E, ce, e1, e2, hq, hce, hcv, hcl, h1, hL, h2, h3⟩, st⟩
  · dsimp only [Pt.U, Pt.locs, Pt.cells, Pt.slots] at X' e1 e2 h1 h2 h3 st
    subst h1; subst h2; subst h3
    exact Or.inl ⟨v, (T.setVm vm₁).calling g' mk As.toArray, t, U', L, hT, X', hL, e1, e2, hq, st⟩
  · dsimp only [Pt.U, Pt.locs, Pt.cells, Pt.slots] at X' e1 e2 h1 h2 h3 st hcl
    subst h1; subst h2; subst h3
    exact Or.inr ⟨q, (T.setVm vm₁).calling g' mk As.toArray, t, U', L, E, ce, hT, X', hL, e1, e2, hq, hce, hcv, vx_cls hW₁ hcl, st⟩
end Runs
section Rows
variable {p : Program} {l : Launch} {e : Env} {R : Room} {s : State} {m : MethodId} {args : Array Value} {below : List Frame} {meth : Method} {c : Code} {H : Heap} {locs : List Loc} {cells slots : Nat} {Q : State → Prop}
variable {mc ms : Nat} {free : Addr → Prop} {A0 A1 : Nat → Prop} {H0 : Heap} {a : Array Value} {pc : Nat} {ls : Array Slot} {st0 rest : List Value}
theorem vx_keep {st₀ t T' : State} {L : List Loc} (h0 : st₀.heap = H) (e1 : T'.heap = t.heap) (hS : va_S A0 H0 H locs) (hA : ∀ q, q < H.size → A1 q → A0 q) (hf : ∀ q, free q → A0 q) (hL : ∀ q ∈ L, free q.base) (hF : va_F A1 st₀ t) :
    H.size ≤ T'.heap.size ∧ (∀ q : Nat, q < H.size → ¬ A1 q → T'.heap[q]? = H[q]?) ∧ va_S A0 H0 T'.heap (locs ++ L) := by
  obtain ⟨hz, hk⟩ := hF
  rw [h0] at hz hk
  exact ⟨by rw [e1]; exact hz, fun q h1 h2 => by rw [e1]; exact hk q h1 h2,
    ⟨Nat.le_trans hS.1 (by rw [e1]; exact hz), fun q h1 h2 => by rw [e1, hk q (Nat.lt_of_lt_of_le h1 hS.1) (fun z => h2 (hA q (Nat.lt_of_lt_of_le h1 hS.1) z))]; exact hS.2.1 q h1 h2, fun q hq => by
      rcases List.mem_append.mp hq with h | h
      · exact hS.2.2 q h
      · exact hf _ (hL q h)⟩⟩
theorem vx_calli {S SX : Type} {post : Int32 → S → Prop} {px : SX → Prop} {B : S → State → Prop} {BX : String → SX → State → Prop} {AX : Nat → Prop} (hr : vx_Run p l e R s m args below meth c H locs cells slots mc ms (F0 m pc ls st0) rest (va_Qi post B A1 a) (vx_X px BX AX) free) (hS : va_S A0 H0 H locs) (hA : ∀ q, q < H.size → A1 q → A0 q) (hf : ∀ q, free q → A0 q) (hAX : ∀ q, q < H.size → AX q → A0 q)
    (kx : ∀ (E : String) (ce : Cell) (q9 : Addr) (u : SX) (t : State) (H1 : Heap) (locs1 : List Loc), t.heap = H1 → s.vm.Alike t.vm → px u → BX E u t → H.size ≤ H1.size → (∀ q : Nat, q < H.size → ¬ AX q → H1[q]? = H[q]?) → va_S A0 H0 H1 locs1 → H1[q9]? = some ce → ce.vm = .none → s.vm.findClass E = some ce.cls → vx_W p l e R s m args below meth c H1 locs1 (cells + mc) (slots + ms) Q (F0 m pc ls rest) q9)
    (kk : ∀ (r : Int32) (u : S) (t : State) (H1 : Heap) (locs1 : List Loc), t.heap = H1 → s.vm.Alike t.vm → post r u → B u t → H.size ≤ H1.size → (∀ q : Nat, q < H.size → ¬ A1 q → H1[q]? = H[q]?) → va_S A0 H0 H1 locs1 → W p l e R s m args below meth c H1 locs1 (cells + mc) (slots + ms) Q (F0 m (pc + 3) ls (.int r :: rest))) : W p l e R s m args below meth c H locs cells slots Q (F0 m pc ls st0) := by
  intro T hT X
  rcases hr T hT X with ⟨v, st₀, t, T', L, h0, X', hL, e1, e2, ⟨⟨r, u, hv, hp, hb⟩, hF⟩, st⟩ | ⟨q, st₀, t, T', L, E, ce, h0, X', hL, e1, e2, ⟨u, hp, hb, hF⟩, hce, hcv, hcl, st⟩
  · cases hv
    obtain ⟨k1, k2, k3⟩ := vx_keep h0 e1 hS hA hf hL hF
    obtain ⟨t2, a1, b1⟩ := kk r u t T'.heap (locs ++ L) e1.symm (by rw [← e2]; exact X'.warmed.alike) hp hb k1 k2 k3 T' rfl X'
    exact ⟨t2, st t2 a1, b1⟩
  · obtain ⟨k1, k2, k3⟩ := vx_keep h0 e1 hS hAX hf hL hF
    obtain ⟨t2, a1, b1⟩ := kx E ce q u t T'.heap (locs ++ L) e1.symm (by rw [← e2]; exact X'.warmed.alike) hp hb k1 k2 k3 (by rw [e1]; exact hce) hcv hcl T' rfl X'
    exact ⟨t2, st.trans a1, b1⟩
theorem vx_calll {S SX : Type} {post : Int64 → S → Prop} {px : SX → Prop} {B : S → State → Prop} {BX : String → SX → State → Prop} {AX : Nat → Prop} (hr : vx_Run p l e R s m args below meth c H locs cells slots mc ms (F0 m pc ls st0) rest (va_Ql post B A1 a) (vx_X px BX AX) free) (hS : va_S A0 H0 H locs) (hA : ∀ q, q < H.size → A1 q → A0 q) (hf : ∀ q, free q → A0 q) (hAX : ∀ q, q < H.size → AX q → A0 q)
    (kx : ∀ (E : String) (ce : Cell) (q9 : Addr) (u : SX) (t : State) (H1 : Heap) (locs1 : List Loc), t.heap = H1 → s.vm.Alike t.vm → px u → BX E u t → H.size ≤ H1.size → (∀ q : Nat, q < H.size → ¬ AX q → H1[q]? = H[q]?) → va_S A0 H0 H1 locs1 → H1[q9]? = some ce → ce.vm = .none → s.vm.findClass E = some ce.cls → vx_W p l e R s m args below meth c H1 locs1 (cells + mc) (slots + ms) Q (F0 m pc ls rest) q9)
    (kk : ∀ (r : Int64) (u : S) (t : State) (H1 : Heap) (locs1 : List Loc), t.heap = H1 → s.vm.Alike t.vm → post r u → B u t → H.size ≤ H1.size → (∀ q : Nat, q < H.size → ¬ A1 q → H1[q]? = H[q]?) → va_S A0 H0 H1 locs1 → W p l e R s m args below meth c H1 locs1 (cells + mc) (slots + ms) Q (F0 m (pc + 3) ls (.long r :: rest))) : W p l e R s m args below meth c H locs cells slots Q (F0 m pc ls st0) := by
  intro T hT X
  rcases hr T hT X with ⟨v, st₀, t, T', L, h0, X', hL, e1, e2, ⟨⟨r, u, hv, hp, hb⟩, hF⟩, st⟩ | ⟨q, st₀, t, T', L, E, ce, h0, X', hL, e1, e2, ⟨u, hp, hb, hF⟩, hce, hcv, hcl, st⟩
  · cases hv
    obtain ⟨k1, k2, k3⟩ := vx_keep h0 e1 hS hA hf hL hF
    obtain ⟨t2, a1, b1⟩ := kk r u t T'.heap (locs ++ L) e1.symm (by rw [← e2]; exact X'.warmed.alike) hp hb k1 k2 k3 T' rfl X'
    exact ⟨t2, st t2 a1, b1⟩
  · obtain ⟨k1, k2, k3⟩ := vx_keep h0 e1 hS hAX hf hL hF
    obtain ⟨t2, a1, b1⟩ := kx E ce q u t T'.heap (locs ++ L) e1.symm (by rw [← e2]; exact X'.warmed.alike) hp hb k1 k2 k3 (by rw [e1]; exact hce) hcv hcl T' rfl X'
    exact ⟨t2, st.trans a1, b1⟩
theorem vx_callf {S SX : Type} {post : UInt32 → S → Prop} {px : SX → Prop} {B : S → State → Prop} {BX : String → SX → State → Prop} {AX : Nat → Prop} (hr : vx_Run p l e R s m args below meth c H locs cells slots mc ms (F0 m pc ls st0) rest (va_Qf post B A1 a) (vx_X px BX AX) free) (hS : va_S A0 H0 H locs) (hA : ∀ q, q < H.size → A1 q → A0 q) (hf : ∀ q, free q → A0 q) (hAX : ∀ q, q < H.size → AX q → A0 q)
    (kx : ∀ (E : String) (ce : Cell) (q9 : Addr) (u : SX) (t : State) (H1 : Heap) (locs1 : List Loc), t.heap = H1 → s.vm.Alike t.vm → px u → BX E u t → H.size ≤ H1.size → (∀ q : Nat, q < H.size → ¬ AX q → H1[q]? = H[q]?) → va_S A0 H0 H1 locs1 → H1[q9]? = some ce → ce.vm = .none → s.vm.findClass E = some ce.cls → vx_W p l e R s m args below meth c H1 locs1 (cells + mc) (slots + ms) Q (F0 m pc ls rest) q9)
    (kk : ∀ (r : UInt32) (u : S) (t : State) (H1 : Heap) (locs1 : List Loc), t.heap = H1 → s.vm.Alike t.vm → post r u → B u t → H.size ≤ H1.size → (∀ q : Nat, q < H.size → ¬ A1 q → H1[q]? = H[q]?) → va_S A0 H0 H1 locs1 → W p l e R s m args below meth c H1 locs1 (cells + mc) (slots + ms) Q (F0 m (pc + 3) ls (.float r :: rest))) : W p l e R s m args below meth c H locs cells slots Q (F0 m pc ls st0) := by
  intro T hT X
  rcases hr T hT X with ⟨v, st₀, t, T', L, h0, X', hL, e1, e2, ⟨⟨r, u, hv, hp, hb⟩, hF⟩, st⟩ | ⟨q, st₀, t, T', L, E, ce, h0, X', hL, e1, e2, ⟨u, hp, hb, hF⟩, hce, hcv, hcl, st⟩
  · cases hv
    obtain ⟨k1, k2, k3⟩ := vx_keep h0 e1 hS hA hf hL hF
    obtain ⟨t2, a1, b1⟩ := kk r u t T'.heap (locs ++ L) e1.symm (by rw [← e2]; exact X'.warmed.alike) hp hb k1 k2 k3 T' rfl X'
    exact ⟨t2, st t2 a1, b1⟩
  · obtain ⟨k1, k2, k3⟩ := vx_keep h0 e1 hS hAX hf hL hF
    obtain ⟨t2, a1, b1⟩ := kx E ce q u t T'.heap (locs ++ L) e1.symm (by rw [← e2]; exact X'.warmed.alike) hp hb k1 k2 k3 (by rw [e1]; exact hce) hcv hcl T' rfl X'
    exact ⟨t2, st.trans a1, b1⟩
theorem vx_calld {S SX : Type} {post : UInt64 → S → Prop} {px : SX → Prop} {B : S → State → Prop} {BX : String → SX → State → Prop} {AX : Nat → Prop} (hr : vx_Run p l e R s m args below meth c H locs cells slots mc ms (F0 m pc ls st0) rest (va_Qd post B A1 a) (vx_X px BX AX) free) (hS : va_S A0 H0 H locs) (hA : ∀ q, q < H.size → A1 q → A0 q) (hf : ∀ q, free q → A0 q) (hAX : ∀ q, q < H.size → AX q → A0 q)
    (kx : ∀ (E : String) (ce : Cell) (q9 : Addr) (u : SX) (t : State) (H1 : Heap) (locs1 : List Loc), t.heap = H1 → s.vm.Alike t.vm → px u → BX E u t → H.size ≤ H1.size → (∀ q : Nat, q < H.size → ¬ AX q → H1[q]? = H[q]?) → va_S A0 H0 H1 locs1 → H1[q9]? = some ce → ce.vm = .none → s.vm.findClass E = some ce.cls → vx_W p l e R s m args below meth c H1 locs1 (cells + mc) (slots + ms) Q (F0 m pc ls rest) q9)
    (kk : ∀ (r : UInt64) (u : S) (t : State) (H1 : Heap) (locs1 : List Loc), t.heap = H1 → s.vm.Alike t.vm → post r u → B u t → H.size ≤ H1.size → (∀ q : Nat, q < H.size → ¬ A1 q → H1[q]? = H[q]?) → va_S A0 H0 H1 locs1 → W p l e R s m args below meth c H1 locs1 (cells + mc) (slots + ms) Q (F0 m (pc + 3) ls (.double r :: rest))) : W p l e R s m args below meth c H locs cells slots Q (F0 m pc ls st0) := by
  intro T hT X
  rcases hr T hT X with ⟨v, st₀, t, T', L, h0, X', hL, e1, e2, ⟨⟨r, u, hv, hp, hb⟩, hF⟩, st⟩ | ⟨q, st₀, t, T', L, E, ce, h0, X', hL, e1, e2, ⟨u, hp, hb, hF⟩, hce, hcv, hcl, st⟩
  · cases hv
    obtain ⟨k1, k2, k3⟩ := vx_keep h0 e1 hS hA hf hL hF
    obtain ⟨t2, a1, b1⟩ := kk r u t T'.heap (locs ++ L) e1.symm (by rw [← e2]; exact X'.warmed.alike) hp hb k1 k2 k3 T' rfl X'
    exact ⟨t2, st t2 a1, b1⟩
  · obtain ⟨k1, k2, k3⟩ := vx_keep h0 e1 hS hAX hf hL hF
    obtain ⟨t2, a1, b1⟩ := kx E ce q u t T'.heap (locs ++ L) e1.symm (by rw [← e2]; exact X'.warmed.alike) hp hb k1 k2 k3 (by rw [e1]; exact hce) hcv hcl T' rfl X'
    exact ⟨t2, st.trans a1, b1⟩
theorem vx_callv {S SX : Type} {post : S → Prop} {px : SX → Prop} {B : S → State → Prop} {BX : String → SX → State → Prop} {AX : Nat → Prop} (hr : vx_Run p l e R s m args below meth c H locs cells slots mc ms (F0 m pc ls st0) rest (va_Qv post B A1 a) (vx_X px BX AX) free) (hS : va_S A0 H0 H locs) (hA : ∀ q, q < H.size → A1 q → A0 q) (hf : ∀ q, free q → A0 q) (hAX : ∀ q, q < H.size → AX q → A0 q)
    (kx : ∀ (E : String) (ce : Cell) (q9 : Addr) (u : SX) (t : State) (H1 : Heap) (locs1 : List Loc), t.heap = H1 → s.vm.Alike t.vm → px u → BX E u t → H.size ≤ H1.size → (∀ q : Nat, q < H.size → ¬ AX q → H1[q]? = H[q]?) → va_S A0 H0 H1 locs1 → H1[q9]? = some ce → ce.vm = .none → s.vm.findClass E = some ce.cls → vx_W p l e R s m args below meth c H1 locs1 (cells + mc) (slots + ms) Q (F0 m pc ls rest) q9)
    (kk : ∀ (u : S) (t : State) (H1 : Heap) (locs1 : List Loc), t.heap = H1 → s.vm.Alike t.vm → post u → B u t → H.size ≤ H1.size → (∀ q : Nat, q < H.size → ¬ A1 q → H1[q]? = H[q]?) → va_S A0 H0 H1 locs1 → W p l e R s m args below meth c H1 locs1 (cells + mc) (slots + ms) Q (F0 m (pc + 3) ls (rest))) : W p l e R s m args below meth c H locs cells slots Q (F0 m pc ls st0) := by
  intro T hT X
  rcases hr T hT X with ⟨v, st₀, t, T', L, h0, X', hL, e1, e2, ⟨⟨u, hv, hp, hb⟩, hF⟩, st⟩ | ⟨q, st₀, t, T', L, E, ce, h0, X', hL, e1, e2, ⟨u, hp, hb, hF⟩, hce, hcv, hcl, st⟩
  · cases hv
    obtain ⟨k1, k2, k3⟩ := vx_keep h0 e1 hS hA hf hL hF
    obtain ⟨t2, a1, b1⟩ := kk u t T'.heap (locs ++ L) e1.symm (by rw [← e2]; exact X'.warmed.alike) hp hb k1 k2 k3 T' rfl X'
    exact ⟨t2, st t2 a1, b1⟩
  · obtain ⟨k1, k2, k3⟩ := vx_keep h0 e1 hS hAX hf hL hF
    obtain ⟨t2, a1, b1⟩ := kx E ce q u t T'.heap (locs ++ L) e1.symm (by rw [← e2]; exact X'.warmed.alike) hp hb k1 k2 k3 (by rw [e1]; exact hce) hcv hcl T' rfl X'
    exact ⟨t2, st.trans a1, b1⟩
/-- caught by the row x of this method's table; the rows ahead don't take it -/
theorem vx_catch {own name : String} {E : String} {ce : Cell} {q : Addr} (hown : s.vm.findClass own = some m.cls) (pre : List ExceptionTableEntry) (x : ExceptionTableEntry) (suf : List ExceptionTableEntry) (hsplit : c.exceptionTable.toList = pre ++ x :: suf)
    (hpass : ∀ z ∈ pre, covers z pc = false ∨ (z.catchType ≠ 0 ∧ ∃ nm : String, (Cond.classLink own z.catchType nm).before args s = true ∧ va_Nc E nm s)) (hx : covers x pc = true) (h0 : x.catchType ≠ 0)
    (hlink : (Cond.classLink own x.catchType name).before args s = true) (hcast : (Cond.castable E name).before args s = true) (hcell : H[q]? = some ce) (hv : ce.vm = .none) (hcl : s.vm.findClass E = some ce.cls)
    (kk : W p l e R s m args below meth c H locs cells slots Q (F0 m x.handlerPc ls [.ref q])) : vx_W p l e R s m args below meth c H locs cells slots Q (F0 m pc ls rest) q := by
  intro T hT X
  have hpl : e.platform.magicAccessors = ({} : Platform).magicAccessors := by rw [X.admits.platform]
  obtain ⟨c3, c4, hc3, hc4, hasg⟩ := Cond.castable_spec hcast
  cases Option.some.inj (hc3.symm.trans hcl)
  obtain ⟨c5, hc5, hcl5⟩ := Cond.classLink_spec hown hlink e.platform hpl
  cases Option.some.inj (hc4.symm.trans hc5)
  obtain ⟨vm', X', st⟩ := X.thenCaughtThrough q (g := F0 m pc ls rest) rfl (Steps.refl _) (by rw [hT]; exact hcell) (by rw [hv]; rfl) (by obtain ⟨k9, h9, -⟩ := Vm.findClass_spec hcl; exact ⟨k9, h9⟩) pre x suf hsplit
    (fun z hz => by
      rcases hpass z hz with h | ⟨hz0, nm, hl1, hn1⟩
      · exact Or.inl h
      · obtain ⟨c6, hc6, hcl6⟩ := Cond.classLink_spec hown hl1 e.platform hpl
        obtain ⟨a8, b8, h1, h2, h3⟩ := hn1
        cases Option.some.inj (h1.symm.trans hcl)
        cases Option.some.inj (h2.symm.trans hc6)
        exact Or.inr ⟨hz0, _, hcl6, h3⟩) hx (Or.inr ⟨h0, c4, hcl5, hasg⟩)
  obtain ⟨t, a1, b1⟩ := kk (T.setVm vm') hT X'
  exact ⟨t, st.trans a1, b1⟩
end Rows
section Ends
variable {p : Program} {l : Launch} {e : Env} {R : Room} {s : State} {m : MethodId} {args : Array Value} {below : List Frame} {meth : Method} {c : Code} {H : Heap} {locs : List Loc} {cells slots : Nat} {Q : State → Prop}
variable {mc ms : Nat} {free : Addr → Prop} {A0 A1 : Nat → Prop} {H0 : Heap} {a : Array Value} {ls : Array Slot} {st0 rest : List Value}
variable {Qc : Array Value → State → Outcome → State → Prop} {XC : String → State → State → Prop}
/-- what a body that may throw owes at its end -/
def vx_MQ (below : List Frame) (Qc : Array Value → State → Outcome → State → Prop) (XC : String → State → State → Prop) (a : Array Value) (s : State) (mc ms : Nat) (free : Addr → Prop) : State → Prop := fun t =>
  ∃ o, t.status = .running ∧ Ended t below o ∧ vx_Q Qc XC mc ms free a s o t
theorem vx_ret {g : JFrame} {mc ms : Nat} (k : W p l e R s m args below meth c H locs cells slots (MQ below Qc args s mc ms free) g) : W p l e R s m args below meth c H locs cells slots (vx_MQ below Qc XC args s mc ms free) g := by
  intro T hT X
  obtain ⟨t, a1, o, b1, b2, b3, b4⟩ := k T hT X
  exact ⟨t, a1, o, b1, b2, Or.inl ⟨b3, b4⟩⟩
/-- not caught here: it goes on to the caller -/
theorem vx_widen {g : JFrame} {q : Addr} {k n : Nat} (h1 : cells ≤ k) (h2 : slots ≤ n) (kk : vx_W p l e R s m args below meth c H locs k n Q g q) : vx_W p l e R s m args below meth c H locs cells slots Q g q := fun T hT X => kk T hT (stand_widen X h1 h2)
theorem vx_out {pc : Nat} {E : String} {ce : Cell} {q : Addr} {mc ms : Nat} (hout : ∀ x ∈ c.exceptionTable.toList, covers x pc = false) (hlocks : meth.locks = false) (hcell : H[q]? = some ce) (hv : ce.vm = .none) (hcl : s.vm.findClass E = some ce.cls)
    (hx : ∀ t : State, t.heap = H → s.vm.Alike t.vm → XC E s t) (hf : ∀ z ∈ locs, free z.base) (hc : cells ≤ mc) (hs : slots ≤ ms) :
    vx_W p l e R s m args below meth c H locs cells slots (vx_MQ below Qc XC args s mc ms free) (F0 m pc ls rest) q := by
  intro T hT X
  obtain ⟨st1, hrun, hend, hW, hsm⟩ := X.leaveThrown q (g := F0 m pc ls rest) rfl rfl rfl hout hlocks
  have hcell9 : (T.setFrames (.throwing q :: below)).heap[q]? = some ce := by
    show T.heap[q]? = some ce
    rw [hT]; exact hcell
  exact ⟨_, st1, .threw q, hrun, hend, Or.inr ⟨q, rfl, E, ce, locs, hx _ hT hW.alike, hcell9, hv, hcl, hW, hsm.mono hc hs, hf⟩⟩
theorem vx_frame {U : State} {k n : Nat} (h : s.sameButNew ({ U with vm := s.vm } : State) locs k n) : s.heap.size ≤ U.heap.size ∧ ∀ q : Nat, q < s.heap.size → (∀ z ∈ locs, z.base ≠ q) → U.heap[q]? = s.heap[q]? := by
  obtain ⟨-, h2, -, -, -, h6⟩ := h
  refine ⟨h2, fun q hq hz => ?_⟩
  obtain ⟨c9, e1, e2, e3, e4⟩ := h6 q _ (Array.getElem?_eq_getElem hq)
  have hs : c9.slots = (s.heap[q]).slots := Array.ext_getElem? fun i => e4 i fun hm => hz _ hm rfl
  have h9 : c9 = s.heap[q] := by
    rw [hs] at e2
    exact e2
  have e5 : U.heap[q]? = some c9 := e1
  rw [e5, h9, Array.getElem?_eq_getElem hq]
/-- the words of a throw but the four that speak of the heap -/
def vx_no (w : Cond) : Bool := decide (w ≠ .isRef (.static Bundle.tN "UNASSIGNED_STACK" Bundle.steD)) && decide (w ≠ .isRef (.static Bundle.tN "SUPPRESSED_SENTINEL" Bundle.listD)) && decide (w ≠ .laysStatic Bundle.tN "UNASSIGNED_STACK" Bundle.steD) && decide (w ≠ .laysStatic Bundle.tN "SUPPRESSED_SENTINEL" Bundle.listD)
def vx_at0 (own : String) (ic : Nat) (X : String) (names : List String) : List Cond := (Bundle.ownAtoms0 own ic X names).filter vx_no
def vx_atS (own : String) (ic : Nat) (X : String) (names : List String) : List Cond := (Bundle.ownAtoms own ic X names).filter vx_no
/-- a word that the tables alone decide, or a good one -/
def vx_ot (w : Cond) : Bool := w.onTables || goodWord w
theorem vx_ot_at {args a' : Array Value} {s U : State} {w : Cond} (hW : s.WarmedH U.vm) (hvm : s.vm = U.vm) (hg : vx_ot w = true) (h : w.before args s = true) : w.before a' U = true := by
  simp only [vx_ot, Bool.or_eq_true] at hg
  rcases hg with hg | hg
  · exact va_tabs hg hvm h
  · exact word_at hW (good_of_word hg) h
/-- a list's words: the good ones out of the method's own list, the others by premises of their own -/
theorem vx_hat {args : Array Value} {s : State} {L B : List Cond} (h1 : ∀ w ∈ L.filter goodWord, w.before args s = true) (h2 : ∀ w ∈ L.filter (fun w => !goodWord w), w ∈ B) (h3 : ∀ w ∈ B, w.before args s = true) : ∀ w ∈ L, w.before args s = true := by
  intro w hw
  by_cases g : goodWord w = true
  · exact h1 w (List.mem_filter.mpr ⟨hw, g⟩)
  · refine h3 w (h2 w (List.mem_filter.mpr ⟨hw, ?_⟩))
    show (!goodWord w) = true
    cases hgw : goodWord w
    · rfl
    · exact absurd hgw g
theorem vx_c {args : Array Value} {s : State} {w : Cond} {B : List Cond} (h : w.before args s = true) (t : ∀ w ∈ B, w.before args s = true) : ∀ w' ∈ w :: B, w'.before args s = true := fun w' h' => (List.mem_cons.mp h').elim (fun e => by rw [e]; exact h) (t w')
theorem vx_n {args : Array Value} {s : State} : ∀ w ∈ ([] : List Cond), w.before args s = true := fun _ h => nomatch h
theorem vx_own {args : Array Value} {s : State} {L : List Cond} (h1 : ∀ w ∈ L.filter vx_no, w.before args s = true)
    (hU : (Cond.isRef (.static Bundle.tN "UNASSIGNED_STACK" Bundle.steD)).before args s = true) (hN : (Cond.isRef (.static Bundle.tN "SUPPRESSED_SENTINEL" Bundle.listD)).before args s = true)
    (lU : (Cond.laysStatic Bundle.tN "UNASSIGNED_STACK" Bundle.steD).before args s = true) (lN : (Cond.laysStatic Bundle.tN "SUPPRESSED_SENTINEL" Bundle.listD).before args s = true) : ∀ w ∈ L, w.before args s = true := by
  intro w hw
  by_cases e1 : w = .isRef (.static Bundle.tN "UNASSIGNED_STACK" Bundle.steD)
  · rw [e1]; exact hU
  · by_cases e2 : w = .isRef (.static Bundle.tN "SUPPRESSED_SENTINEL" Bundle.listD)
    · rw [e2]; exact hN
    · by_cases e3 : w = .laysStatic Bundle.tN "UNASSIGNED_STACK" Bundle.steD
      · rw [e3]; exact lU
      · by_cases e4 : w = .laysStatic Bundle.tN "SUPPRESSED_SENTINEL" Bundle.listD
        · rw [e4]; exact lN
        · exact h1 w (List.mem_filter.mpr ⟨hw, by unfold vx_no; rw [decide_eq_true e1, decide_eq_true e2, decide_eq_true e3, decide_eq_true e4]; rfl⟩)
/-- where a static field lies, its class's statics cell in H -/
def vx_L (C n d : String) (A : Nat → Prop) (U : State) (H : Heap) : Prop := ∃ (c : ClassId) (k : Class) (i : Nat) (f : Field) (a : Nat) (cell : Cell), U.vm.findClass C = some c ∧ U.fieldFound? C n d = some (c, k, i, f) ∧ f.isStatic = true ∧ k.statics = some a ∧ H[a]? = some cell ∧ cell.vm.isStatics = true ∧ cell.cls = c ∧ f.slot < cell.slots.size ∧ k.staticTypes[f.slot]? = some f.type ∧ ¬ A a
theorem vx_L.moved {C n d : String} {A : Nat → Prop} {u U : State} {H : Heap} (hvm : u.vm.Alike U.vm) (h : vx_L C n d A u H) : vx_L C n d A U H := by
  obtain ⟨c, k, i, f, a, cell, h1, h2, h3, h4, h5, h6, h7, h8, h9, h10⟩ := h
  obtain ⟨k', hi', he⟩ := State.fieldFound?_setVm hvm h2
  exact ⟨c, k', i, f, a, cell, by rw [hvm.findClass]; exact h1, hi', h3, by rw [he]; exact h4, h5, h6, h7, h8, by rw [he]; exact h9, h10⟩
theorem vx_L.kept {C n d : String} {A : Nat → Prop} {U : State} {H H1 : Heap} (h : vx_L C n d A U H) (hq : ∀ a : Nat, a < H.size → ¬ A a → H1[a]? = H[a]?) : vx_L C n d A U H1 := by
  obtain ⟨c, k, i, f, a, cell, h1, h2, h3, h4, h5, h6, h7, h8, h9, h10⟩ := h
  exact ⟨c, k, i, f, a, cell, h1, h2, h3, h4, by rw [hq a (Array.getElem?_eq_some_iff.mp h5).1 h10]; exact h5, h6, h7, h8, h9, h10⟩
theorem vx_L.narrow {C n d : String} {A B : Nat → Prop} {U : State} {H : Heap} (h : vx_L C n d A U H) (hAB : ∀ q, B q → A q) : vx_L C n d B U H := by
  obtain ⟨c, k, i, f, a, cell, h1, h2, h3, h4, h5, h6, h7, h8, h9, h10⟩ := h
  exact ⟨c, k, i, f, a, cell, h1, h2, h3, h4, h5, h6, h7, h8, h9, fun z => h10 (hAB _ z)⟩
theorem vx_L.word {C n d : String} {A : Nat → Prop} {s : State} {args : Array Value} (h : vx_L C n d A s s.heap) : (Cond.laysStatic C n d).before args s = true := by
  obtain ⟨c, k, i, f, a, cell, h1, h2, h3, h4, h5, h6, h7, h8, h9, -⟩ := h
  show (Cond.laysStatic C n d).holds args s none s [] = true
  exact Cond.laysStatic_of h1 h2 h3 h4 h5 h6 h7 h8 h9
/-- .. and what it holds: null or some reference -/
def vx_Zq (C n d : String) (A : Nat → Prop) (U : State) (H : Heap) : Prop := va_Zq C n d A U H ∧ vx_L C n d A U H
theorem vx_Zq.moved {C n d : String} {A : Nat → Prop} {u U : State} {H : Heap} (hvm : u.vm.Alike U.vm) (h : vx_Zq C n d A u H) : vx_Zq C n d A U H := ⟨va_Zq.moved hvm h.1, vx_L.moved hvm h.2⟩
theorem vx_Zq.kept {C n d : String} {A : Nat → Prop} {U : State} {H H1 : Heap} (h : vx_Zq C n d A U H) (hq : ∀ a : Nat, a < H.size → ¬ A a → H1[a]? = H[a]?) : vx_Zq C n d A U H1 := ⟨va_Zq.kept h.1 hq, vx_L.kept h.2 hq⟩
theorem vx_Zq.narrow {C n d : String} {A B : Nat → Prop} {U : State} {H : Heap} (h : vx_Zq C n d A U H) (hAB : ∀ q, B q → A q) : vx_Zq C n d B U H := ⟨va_Zq.narrow h.1 hAB, vx_L.narrow h.2 hAB⟩
theorem vx_Zqof {args : Array Value} {s : State} {C n d : String} {A : Nat → Prop} (hl : (Cond.laysStatic C n d).before args s = true) (hini : (Cond.initialized C).before args s = true) (h : (Cond.isRef (.static C n d)).before args s = true) (hA : ∀ a : Nat, a < s.heap.size → ¬ A a) : vx_Zq C n d A s s.heap := by
  refine ⟨va_Zqof hl hini h hA, ?_⟩
  obtain ⟨c, k, i, f, a, cell, h1, h2, h3, h4, h5, h6, h7, h8, h9⟩ := Cond.laysStatic_spec hl
  exact ⟨c, k, i, f, a, cell, h1, h2, h3, h4, h5, h6, h7, h8, h9, hA a (Array.getElem?_eq_some_iff.mp h5).1⟩
theorem vx_isRef {C n d : String} {v : Value} {A : Nat → Prop} {s : State} {args : Array Value} (h : va_Z C n d v A s s.heap) (hv : v.isRef = true) : (Cond.isRef (.static C n d)).before args s = true := by
  obtain ⟨cf, kf, fi, f, a, cell, h1, h2, h3, h4, h5, h6, h7, -⟩ := h
  have he : (Term.static C n d).eval args s none [] s = some v := by
    simp [Term.eval, State.fieldNamed?, h1, h2, h4, h5, h6, h7]
  simp only [Cond.before, Cond.holds, Cond.value, he]
  cases v <;> simp_all [Value.isRef]
theorem vx_isRefq {C n d : String} {A : Nat → Prop} {s : State} {args : Array Value} (h : va_Zq C n d A s s.heap) : (Cond.isRef (.static C n d)).before args s = true := by
  rcases h with h | ⟨t, h⟩
  · exact vx_isRef h rfl
  · exact vx_isRef h rfl
/-- the same frame, seen from here: as if the method were called anew in this heap -/
theorem vx_rebase {T : State} (X : Stand p l e R s m args below meth c T locs cells slots) {R' : Room} (hf : R'.frames ≤ R.frames) (hl : R'.locals ≤ R.locals) (hc : cells + R'.cells ≤ R.cells) (hs : slots + R'.slots ≤ R.slots) :
    Stand p l e R' ((T.setVm s.vm).setFrames (.invoking m args :: below)) m args below meth c T [] 0 0 := by
  have htop : (T.setVm s.vm).topJava?.isSome := X.here.top
  have hF : ((T.setVm s.vm).setFrames (.invoking m args :: below)).frames = .invoking m args :: below := State.frames_setFrames _ (State.cur_lt_of_top htop)
  obtain ⟨g₀, hg0⟩ := Option.isSome_iff_exists.mp htop
  obtain ⟨r, hr⟩ := State.topJava?_eq_some.mp hg0
  have hl9 : e.platform.stackLimits (T.setVm s.vm).me = e.platform.stackLimits s.me := X.limits
  have hb9 : (T.setVm s.vm).me.stackBytes = s.me.stackBytes := X.bytes
  refine ⟨X.admits, X.cas, X.clock, hF, ?_, X.hears, X.method, X.code, X.here, X.tail, X.warmed, ?_, ?_, ?_⟩
  · have h := X.room
    have hU : ((T.setVm s.vm).setFrames (.invoking m args :: below)).localsInUse = s.localsInUse := by
      rw [State.localsInUse_invoking hF (meth := meth) (c := c) X.method X.code, State.localsInUse_invoking X.frames X.method X.code]
    simp only [State.hasRoom, Bool.and_eq_true, decide_eq_true_eq] at h ⊢
    obtain ⟨⟨⟨⟨h1, h2, h3, h4, h5, h6⟩, h7⟩, h8⟩, h9⟩ := h
    rw [X.frames, List.length_cons] at h2 h3
    have q1 := X.heapSize
    have q2 := X.used
    simp only [hF, hU, List.length_cons, State.stackLimits_setFrames, State.stackBytes_setFrames, hl9, hb9]
    refine ⟨⟨⟨⟨by omega, by omega, by omega, by omega, by omega, h6⟩, ?_⟩, ?_⟩, X.book⟩
    · show T.heap.size + R'.cells ≤ e.platform.maxCells
      omega
    · show T.slotsUsed + R'.slots ≤ e.platform.maxSlots
      omega
  · rw [State.stackLimits_setFrames]; rfl
  · rw [State.stackBytes_setFrames]; rfl
  · refine ⟨?_, Nat.le_refl _, Nat.le_refl _, ?_, ?_, fun a c9 h9 => ⟨c9, h9, rfl, rfl, fun _ _ => rfl⟩⟩
    · obtain ⟨t, ht, -⟩ := State.frames_cons hr
      show T.setVm s.vm = { ((T.setVm s.vm).setFrames (.invoking m args :: below)).setFrames (T.setVm s.vm).frames with heap := T.heap, slotsUsed := T.slotsUsed }
      rw [State.setFrames_setFrames, State.setFrames_self ht]
      rfl
    · show T.slotsUsed = T.slotsUsed + ((T.heap.toList.drop T.heap.size).map (·.slots.size)).sum
      rw [List.drop_eq_nil_of_le (Nat.le_of_eq Array.length_toList)]
      rfl
    · show ((T.heap.toList.drop T.heap.size).map (·.slots.size)).sum ≤ 0
      rw [List.drop_eq_nil_of_le (Nat.le_of_eq Array.length_toList)]
      exact Nat.le_refl _
/-- 'throw new E()': new; dup; invokespecial; athrow -/
theorem vx_throw0 {cc : ByteArray} {pc : Nat} (hexec : p.tables.exec = Jvm.exec) (hb : c.code = cc) (hl : l.stackTraces = false) {own cls : String} {names : List String} {ik ic mc ms : Nat} {A : Nat → Prop}
    (hown : s.vm.findClass own = some m.cls) (hcls : Bundle.fit cls = true) (hnames : ∀ n ∈ names, Bundle.fit n = true)
    (hk : (Cond.classLink own ik cls).before args s = true) (hini : (Cond.initialized cls).before args s = true) (hat : ∀ w ∈ vx_at0 own ic cls names, w.before args s = true)
    (hgood : ∀ w ∈ Cond.classLink own ik cls :: Cond.initialized cls :: vx_at0 own ic cls names, vx_ot w = true)
    (hU : vx_Zq Bundle.tN "UNASSIGNED_STACK" Bundle.steD A s s.heap) (hN : vx_Zq Bundle.tN "SUPPRESSED_SENTINEL" Bundle.listD A s s.heap) (hS : va_S A s.heap H locs) (hsize : ls.size = c.maxLocals)
    (d0 : decode cc pc = .ok (.new ik, 3)) (d3 : decode cc (pc + 3) = .ok (.dup, 1)) (d4 : decode cc (pc + 4) = .ok (.invokespecial ic, 3)) (d7 : decode cc (pc + 7) = .ok (.athrow, 1))
    (hout : ∀ x ∈ c.exceptionTable.toList, covers x (pc + 7) = false)
    (hRframes : names.length + 3 < R.frames) (hRlocals : (rest.map fun v => v.category).sum + (13 * (names.length + 1) + 42) ≤ R.locals) (hRcells : cells + 1 ≤ R.cells) (hRslots : slots + 6 ≤ R.slots) (hlocks : meth.locks = false)
    (hx : ∀ t : State, s.vm.Alike t.vm → H.size ≤ t.heap.size → (∀ q : Nat, q < H.size → t.heap[q]? = H[q]?) → XC cls s t)
    (hf : ∀ z ∈ locs, free z.base) (hc : cells + 1 ≤ mc) (hs : slots + 6 ≤ ms) :
    W p l e R s m args below meth c H locs cells slots (vx_MQ below Qc XC args s mc ms free) (F0 m pc ls rest) := by
  intro T hT X
  have htr : e.platform.stackTraces = false := (show e.platform.stackTraces = l.stackTraces by rw [X.admits.platform]).trans hl
  have Y := vx_rebase X (R' := { frames := R.frames, locals := R.locals, cells := 1, slots := 6 }) (Nat.le_refl _) (Nat.le_refl _) hRcells hRslots
  obtain ⟨s', hA⟩ : ∃ z, z = (T.setVm s.vm).setFrames (.invoking m args :: below) := ⟨_, rfl⟩
  rw [← hA] at Y
  have hvm : s'.vm = s.vm := by rw [hA]; rfl
  have hhp : s'.heap = H := by rw [hA]; exact hT
  have hW0 : s.WarmedH s'.vm := by rw [hvm]; exact State.WarmedH.refl s
  have hat' : ∀ w ∈ vx_at0 own ic cls names, w.before args s' = true := fun w hw => vx_ot_at hW0 hvm.symm (hgood w (List.mem_cons_of_mem _ (List.mem_cons_of_mem _ hw))) (hat w hw)
  have hk' : (Cond.classLink own ik cls).before args s' = true := vx_ot_at hW0 hvm.symm (hgood _ List.mem_cons_self) hk
  have hini' : (Cond.initialized cls).before args s' = true := vx_ot_at hW0 hvm.symm (hgood _ (List.mem_cons_of_mem _ List.mem_cons_self)) hini
  have hU' : vx_Zq Bundle.tN "UNASSIGNED_STACK" Bundle.steD A s' s'.heap := by rw [hhp]; exact vx_Zq.moved hW0.alike (hU.kept hS.2.1)
  have hN' : vx_Zq Bundle.tN "SUPPRESSED_SENTINEL" Bundle.listD A s' s'.heap := by rw [hhp]; exact vx_Zq.moved hW0.alike (hN.kept hS.2.1)
  have h : ∀ w ∈ Bundle.ownAtoms0 own ic cls names, w.before args s' = true := vx_own hat' (vx_isRefq hU'.1) (vx_isRefq hN'.1) hU'.2.word hN'.2.word
  have hown' : s'.vm.findClass own = some m.cls := by rw [hvm]; exact hown
  have hins : (Cond.instantiable cls 6).before args s' = true := h _ (by simp [Bundle.ownAtoms0])
  obtain ⟨vm₁, cX, kX, hfX, hkX, -, -, X₁, st1⟩ := Y.newCold hexec (own := own) (C := cls) (index := ik) (n := 6) hown' hk' hins hini'
    (g := F0 m pc ls rest) rfl (by rw [hb]; exact d0) (Nat.le_refl _) (Nat.le_refl _)
  generalize hT1 : (T.setVm vm₁).pushCell { cls := cX, slots := kX.instanceTypes.map defaultValue, vm := .none } = T1 at X₁ st1
  have hcat : (Value.ref T.heap.size).category = 1 := rfl
  have hcellA : T1.heap[T.heap.size]? = some (freshCell cX kX) := by rw [← hT1]; exact State.heap_pushCell_size _ _
  have d3' : decode c.code (pc + 3) = .ok (.dup, 1) := by rw [hb]; exact d3
  obtain ⟨U, hsteps, hrun, hend, hW, hsame, ce, hce, hO⟩ := X₁.ctorThrow0 hexec htr (own := own) (cls := cls) (names := names) (ic := ic) hown' hcls hnames h (fun x hx => nomatch hx) hfX hkX hcellA (by rw [hhp, hT]; exact Nat.le_refl _)
    (g := { method := m, pc := pc + 4, locals := ls, stack := .ref T.heap.size :: .ref T.heap.size :: rest, locked := none }) rfl hsize rfl rfl (rest := rest) rfl
    (by rw [hb]; exact d4) (by rw [hb]; exact d7) hout hRframes (by simp only [List.map_cons, List.sum_cons, hcat]; omega) hlocks
  obtain ⟨f1, f2⟩ := vx_frame hsame
  rw [hhp] at f1 f2
  have hWs : s.WarmedH U.vm := State.WarmedH.trans hW0 hW
  have hcl : s.vm.findClass cls = some ce.cls := by
    have h9 := hO.cls
    rw [hvm] at h9
    exact h9
  have hall : s.sameButNew ({ U with vm := s.vm } : State) locs mc ms := by
    subst hA
    obtain ⟨e1, e2⟩ := hsame
    rw [State.setFrames_setFrames] at e1
    have h2 : (T.setVm s.vm).sameButNew ({ U with vm := s.vm } : State) [] (0 + 1) (0 + 6) := ⟨e1, e2⟩
    have h3 := X.same.trans h2
    rw [List.append_nil] at h3
    exact h3.mono hc hs
  refine ⟨U, ?_, .threw T.heap.size, hrun, hend, Or.inr ⟨T.heap.size, rfl, cls, ce, locs, hx U hWs.alike f1 (fun q hq => f2 q hq (fun z hz => nomatch hz)), hce, hO.vm, hcl, hWs, hall, hf⟩⟩
  refine st1 _ ?_
  show Steps p.tables e below (T1.setTop { method := m, pc := pc + 3, locals := ls, stack := .ref T.heap.size :: rest, locked := none }) _
  jvm_step X₁.here [X₁.here.top, hexec, d3', Value.category]
  exact hsteps
/-- 'throw new E("text")': new; dup; ldc; invokespecial; athrow -/
theorem vx_throwS {cc : ByteArray} {pc : Nat} (hexec : p.tables.exec = Jvm.exec) (hb : c.code = cc) (hl : l.stackTraces = false) {own cls text : String} {names : List String} {ik is ic mc ms sa : Nat} {A : Nat → Prop}
    (hown : s.vm.findClass own = some m.cls) (hcls : Bundle.fit cls = true) (hnames : ∀ n ∈ names, Bundle.fit n = true)
    (hk : (Cond.classLink own ik cls).before args s = true) (hini : (Cond.initialized cls).before args s = true) (hstr : vk_R own is text sa s) (hat : ∀ w ∈ vx_atS own ic cls names, w.before args s = true)
    (hgood : ∀ w ∈ Cond.classLink own ik cls :: Cond.initialized cls :: vx_atS own ic cls names, vx_ot w = true)
    (hU : vx_Zq Bundle.tN "UNASSIGNED_STACK" Bundle.steD A s s.heap) (hN : vx_Zq Bundle.tN "SUPPRESSED_SENTINEL" Bundle.listD A s s.heap) (hS : va_S A s.heap H locs) (hsize : ls.size = c.maxLocals)
    (d0 : decode cc pc = .ok (.new ik, 3)) (d3 : decode cc (pc + 3) = .ok (.dup, 1)) (d4 : decode cc (pc + 4) = .ok (.ldc is, 2)) (d6 : decode cc (pc + 6) = .ok (.invokespecial ic, 3)) (d9 : decode cc (pc + 9) = .ok (.athrow, 1))
    (hout : ∀ x ∈ c.exceptionTable.toList, covers x (pc + 9) = false)
    (hRframes : names.length + 3 < R.frames) (hRlocals : (rest.map fun v => v.category).sum + (13 * (names.length + 1) + 43) ≤ R.locals) (hRcells : cells + 1 ≤ R.cells) (hRslots : slots + 6 ≤ R.slots) (hlocks : meth.locks = false)
    (hx : ∀ t : State, s.vm.Alike t.vm → H.size ≤ t.heap.size → (∀ q : Nat, q < H.size → t.heap[q]? = H[q]?) → XC cls s t)
    (hf : ∀ z ∈ locs, free z.base) (hc : cells + 1 ≤ mc) (hs : slots + 6 ≤ ms) :
    W p l e R s m args below meth c H locs cells slots (vx_MQ below Qc XC args s mc ms free) (F0 m pc ls rest) := by
  intro T hT X
  have htr : e.platform.stackTraces = false := (show e.platform.stackTraces = l.stackTraces by rw [X.admits.platform]).trans hl
  have Y := vx_rebase X (R' := { frames := R.frames, locals := R.locals, cells := 1, slots := 6 }) (Nat.le_refl _) (Nat.le_refl _) hRcells hRslots
  obtain ⟨s', hA⟩ : ∃ z, z = (T.setVm s.vm).setFrames (.invoking m args :: below) := ⟨_, rfl⟩
  rw [← hA] at Y
  have hvm : s'.vm = s.vm := by rw [hA]; rfl
  have hhp : s'.heap = H := by rw [hA]; exact hT
  have hW0 : s.WarmedH s'.vm := by rw [hvm]; exact State.WarmedH.refl s
  have hat' : ∀ w ∈ vx_atS own ic cls names, w.before args s' = true := fun w hw => vx_ot_at hW0 hvm.symm (hgood w (List.mem_cons_of_mem _ (List.mem_cons_of_mem _ hw))) (hat w hw)
  have hk' : (Cond.classLink own ik cls).before args s' = true := vx_ot_at hW0 hvm.symm (hgood _ List.mem_cons_self) hk
  have hini' : (Cond.initialized cls).before args s' = true := vx_ot_at hW0 hvm.symm (hgood _ (List.mem_cons_of_mem _ List.mem_cons_self)) hini
  have hU' : vx_Zq Bundle.tN "UNASSIGNED_STACK" Bundle.steD A s' s'.heap := by rw [hhp]; exact vx_Zq.moved hW0.alike (hU.kept hS.2.1)
  have hN' : vx_Zq Bundle.tN "SUPPRESSED_SENTINEL" Bundle.listD A s' s'.heap := by rw [hhp]; exact vx_Zq.moved hW0.alike (hN.kept hS.2.1)
  have h : ∀ w ∈ Bundle.ownAtoms own ic cls names, w.before args s' = true := vx_own hat' (vx_isRefq hU'.1) (vx_isRefq hN'.1) hU'.2.word hN'.2.word
  have hown' : s'.vm.findClass own = some m.cls := by rw [hvm]; exact hown
  have hins : (Cond.instantiable cls 6).before args s' = true := h _ (by simp [Bundle.ownAtoms])
  obtain ⟨vm₁, cX, kX, hfX, hkX, -, -, X₁, st1⟩ := Y.newCold hexec (own := own) (C := cls) (index := ik) (n := 6) hown' hk' hins hini'
    (g := F0 m pc ls rest) rfl (by rw [hb]; exact d0) (Nat.le_refl _) (Nat.le_refl _)
  generalize hT1 : (T.setVm vm₁).pushCell { cls := cX, slots := kX.instanceTypes.map defaultValue, vm := .none } = T1 at X₁ st1
  have hcat : (Value.ref T.heap.size).category = 1 := rfl
  have hcellA : T1.heap[T.heap.size]? = some (freshCell cX kX) := by rw [← hT1]; exact State.heap_pushCell_size _ _
  have d3' : decode c.code (pc + 3) = .ok (.dup, 1) := by rw [hb]; exact d3
  have d4' : decode c.code (pc + 4) = .ok (.ldc is, 2) := by rw [hb]; exact d4
  have hstr' : vk_R own is text sa s' := vk_R.warm hW0 hstr
  obtain ⟨U, hsteps, hrun, hend, hW, hsame, ce, hce, hO⟩ := X₁.ctorThrowS hexec htr (own := own) (cls := cls) (names := names) (ic := ic) hown' hcls hnames h (fun x hx => nomatch hx) hfX hkX hcellA (by rw [hhp, hT]; exact Nat.le_refl _) (msg := .ref sa) rfl
    (g := { method := m, pc := pc + 6, locals := ls, stack := .ref sa :: .ref T.heap.size :: .ref T.heap.size :: rest, locked := none }) rfl hsize rfl rfl (rest := rest) rfl
    (by rw [hb]; exact d6) (by rw [hb]; exact d9) hout hRframes (by simp only [List.map_cons, List.sum_cons, hcat]; omega) hlocks
  obtain ⟨f1, f2⟩ := vx_frame hsame
  rw [hhp] at f1 f2
  have hWs : s.WarmedH U.vm := State.WarmedH.trans hW0 hW
  have hcl : s.vm.findClass cls = some ce.cls := by
    have h9 := hO.cls
    rw [hvm] at h9
    exact h9
  have hall : s.sameButNew ({ U with vm := s.vm } : State) locs mc ms := by
    subst hA
    obtain ⟨e1, e2⟩ := hsame
    rw [State.setFrames_setFrames] at e1
    have h2 : (T.setVm s.vm).sameButNew ({ U with vm := s.vm } : State) [] (0 + 1) (0 + 6) := ⟨e1, e2⟩
    have h3 := X.same.trans h2
    rw [List.append_nil] at h3
    exact h3.mono hc hs
  refine ⟨U, ?_, .threw T.heap.size, hrun, hend, Or.inr ⟨T.heap.size, rfl, cls, ce, locs, hx U hWs.alike f1 (fun q hq => f2 q hq (fun z hz => nomatch hz)), hce, hO.vm, hcl, hWs, hall, hf⟩⟩
  refine st1 _ ?_
  show Steps p.tables e below (T1.setTop { method := m, pc := pc + 3, locals := ls, stack := .ref T.heap.size :: rest, locked := none }) _
  jvm_step X₁.here [X₁.here.top, hexec, d3', Value.category]
  exact X₁.ldcString hexec (own := own) (text := text) (index := is) (a := sa) hown' hstr'.1 hstr'.2
    (g := { method := m, pc := pc + 4, locals := ls, stack := .ref T.heap.size :: .ref T.heap.size :: rest, locked := none }) rfl d4' _ hsteps
/-- 'throw new E("text")', the text by a wide index -/
theorem vx_throwSW {cc : ByteArray} {pc : Nat} (hexec : p.tables.exec = Jvm.exec) (hb : c.code = cc) (hl : l.stackTraces = false) {own cls text : String} {names : List String} {ik is ic mc ms sa : Nat} {A : Nat → Prop}
    (hown : s.vm.findClass own = some m.cls) (hcls : Bundle.fit cls = true) (hnames : ∀ n ∈ names, Bundle.fit n = true)
    (hk : (Cond.classLink own ik cls).before args s = true) (hini : (Cond.initialized cls).before args s = true) (hstr : vk_R own is text sa s) (hat : ∀ w ∈ vx_atS own ic cls names, w.before args s = true)
    (hgood : ∀ w ∈ Cond.classLink own ik cls :: Cond.initialized cls :: vx_atS own ic cls names, vx_ot w = true)
    (hU : vx_Zq Bundle.tN "UNASSIGNED_STACK" Bundle.steD A s s.heap) (hN : vx_Zq Bundle.tN "SUPPRESSED_SENTINEL" Bundle.listD A s s.heap) (hS : va_S A s.heap H locs) (hsize : ls.size = c.maxLocals)
    (d0 : decode cc pc = .ok (.new ik, 3)) (d3 : decode cc (pc + 3) = .ok (.dup, 1)) (d4 : decode cc (pc + 4) = .ok (.ldc_w is, 3)) (d7 : decode cc (pc + 7) = .ok (.invokespecial ic, 3)) (d10 : decode cc (pc + 10) = .ok (.athrow, 1))
    (hout : ∀ x ∈ c.exceptionTable.toList, covers x (pc + 10) = false)
    (hRframes : names.length + 3 < R.frames) (hRlocals : (rest.map fun v => v.category).sum + (13 * (names.length + 1) + 43) ≤ R.locals) (hRcells : cells + 1 ≤ R.cells) (hRslots : slots + 6 ≤ R.slots) (hlocks : meth.locks = false)
    (hx : ∀ t : State, s.vm.Alike t.vm → H.size ≤ t.heap.size → (∀ q : Nat, q < H.size → t.heap[q]? = H[q]?) → XC cls s t)
    (hf : ∀ z ∈ locs, free z.base) (hc : cells + 1 ≤ mc) (hs : slots + 6 ≤ ms) :
    W p l e R s m args below meth c H locs cells slots (vx_MQ below Qc XC args s mc ms free) (F0 m pc ls rest) := by
  intro T hT X
  have htr : e.platform.stackTraces = false := (show e.platform.stackTraces = l.stackTraces by rw [X.admits.platform]).trans hl
  have Y := vx_rebase X (R' := { frames := R.frames, locals := R.locals, cells := 1, slots := 6 }) (Nat.le_refl _) (Nat.le_refl _) hRcells hRslots
  obtain ⟨s', hA⟩ : ∃ z, z = (T.setVm s.vm).setFrames (.invoking m args :: below) := ⟨_, rfl⟩
  rw [← hA] at Y
  have hvm : s'.vm = s.vm := by rw [hA]; rfl
  have hhp : s'.heap = H := by rw [hA]; exact hT
  have hW0 : s.WarmedH s'.vm := by rw [hvm]; exact State.WarmedH.refl s
  have hat' : ∀ w ∈ vx_atS own ic cls names, w.before args s' = true := fun w hw => vx_ot_at hW0 hvm.symm (hgood w (List.mem_cons_of_mem _ (List.mem_cons_of_mem _ hw))) (hat w hw)
  have hk' : (Cond.classLink own ik cls).before args s' = true := vx_ot_at hW0 hvm.symm (hgood _ List.mem_cons_self) hk
  have hini' : (Cond.initialized cls).before args s' = true := vx_ot_at hW0 hvm.symm (hgood _ (List.mem_cons_of_mem _ List.mem_cons_self)) hini
  have hU' : vx_Zq Bundle.tN "UNASSIGNED_STACK" Bundle.steD A s' s'.heap := by rw [hhp]; exact vx_Zq.moved hW0.alike (hU.kept hS.2.1)
  have hN' : vx_Zq Bundle.tN "SUPPRESSED_SENTINEL" Bundle.listD A s' s'.heap := by rw [hhp]; exact vx_Zq.moved hW0.alike (hN.kept hS.2.1)
  have h : ∀ w ∈ Bundle.ownAtoms own ic cls names, w.before args s' = true := vx_own hat' (vx_isRefq hU'.1) (vx_isRefq hN'.1) hU'.2.word hN'.2.word
  have hown' : s'.vm.findClass own = some m.cls := by rw [hvm]; exact hown
  have hins : (Cond.instantiable cls 6).before args s' = true := h _ (by simp [Bundle.ownAtoms])
  obtain ⟨vm₁, cX, kX, hfX, hkX, -, -, X₁, st1⟩ := Y.newCold hexec (own := own) (C := cls) (index := ik) (n := 6) hown' hk' hins hini'
    (g := F0 m pc ls rest) rfl (by rw [hb]; exact d0) (Nat.le_refl _) (Nat.le_refl _)
  generalize hT1 : (T.setVm vm₁).pushCell { cls := cX, slots := kX.instanceTypes.map defaultValue, vm := .none } = T1 at X₁ st1
  have hcat : (Value.ref T.heap.size).category = 1 := rfl
  have hcellA : T1.heap[T.heap.size]? = some (freshCell cX kX) := by rw [← hT1]; exact State.heap_pushCell_size _ _
  have d3' : decode c.code (pc + 3) = .ok (.dup, 1) := by rw [hb]; exact d3
  have d4' : decode c.code (pc + 4) = .ok (.ldc_w is, 3) := by rw [hb]; exact d4
  have hstr' : vk_R own is text sa s' := vk_R.warm hW0 hstr
  obtain ⟨U, hsteps, hrun, hend, hW, hsame, ce, hce, hO⟩ := X₁.ctorThrowS hexec htr (own := own) (cls := cls) (names := names) (ic := ic) hown' hcls hnames h (fun x hx => nomatch hx) hfX hkX hcellA (by rw [hhp, hT]; exact Nat.le_refl _) (msg := .ref sa) rfl
    (g := { method := m, pc := pc + 7, locals := ls, stack := .ref sa :: .ref T.heap.size :: .ref T.heap.size :: rest, locked := none }) rfl hsize rfl rfl (rest := rest) rfl
    (by rw [hb]; exact d7) (by rw [hb]; exact d10) hout hRframes (by simp only [List.map_cons, List.sum_cons, hcat]; omega) hlocks
  obtain ⟨f1, f2⟩ := vx_frame hsame
  rw [hhp] at f1 f2
  have hWs : s.WarmedH U.vm := State.WarmedH.trans hW0 hW
  have hcl : s.vm.findClass cls = some ce.cls := by
    have h9 := hO.cls
    rw [hvm] at h9
    exact h9
  have hall : s.sameButNew ({ U with vm := s.vm } : State) locs mc ms := by
    subst hA
    obtain ⟨e1, e2⟩ := hsame
    rw [State.setFrames_setFrames] at e1
    have h2 : (T.setVm s.vm).sameButNew ({ U with vm := s.vm } : State) [] (0 + 1) (0 + 6) := ⟨e1, e2⟩
    have h3 := X.same.trans h2
    rw [List.append_nil] at h3
    exact h3.mono hc hs
  refine ⟨U, ?_, .threw T.heap.size, hrun, hend, Or.inr ⟨T.heap.size, rfl, cls, ce, locs, hx U hWs.alike f1 (fun q hq => f2 q hq (fun z hz => nomatch hz)), hce, hO.vm, hcl, hWs, hall, hf⟩⟩
  refine st1 _ ?_
  show Steps p.tables e below (T1.setTop { method := m, pc := pc + 3, locals := ls, stack := .ref T.heap.size :: rest, locked := none }) _
  jvm_step X₁.here [X₁.here.top, hexec, d3', Value.category]
  exact X₁.ldcStringW hexec (own := own) (text := text) (index := is) (a := sa) hown' hstr'.1 hstr'.2
    (g := { method := m, pc := pc + 4, locals := ls, stack := .ref T.heap.size :: .ref T.heap.size :: rest, locked := none }) rfl d4' _ hsteps
end Ends
section Bodies
variable {l : Launch}
theorem vx_ofW {y : MethodName} {ws ws' : List Cond} {rm : Room} {Pc : Array Value → State → Prop} {Qc : Array Value → State → Outcome → State → Prop} {XC : String → State → State → Prop} {mc ms : Nat} {free : Addr → Prop} {cc : ByteArray} {maxL : Nat} {ret : Option FieldType}
    (hy : plainName y.cls = true) (hw : ws = Cond.code y cc maxL ret :: ws')
    (body : ∀ p e s m args below meth c s₁, BodyLoose p l y (headSpec ws rm) cc maxL ret e s m args below meth c s₁ → c.maxLocals = maxL → (∀ x ∈ c.exceptionTable.toList, False) → Pc args s →
      W p l e (headSpec ws rm).room s m args below meth c s.heap [] 0 0 (vx_MQ below Qc XC args s mc ms free) (entryFrame m args maxL)) : vx_Met l y ws rm Pc Qc XC mc ms free := by
  refine MetFree.of_bodyS (code := cc) (maxLocals := maxL) (ret := ret) hy ?_ ?_
  · intro args s m h hn
    obtain ⟨meth, c, h1, h2, h3, h4, h5, h6, -, -⟩ := Cond.code_spec hn (atoms_spec (ws := ws) h _ (by rw [hw]; exact List.mem_cons_self))
    exact ⟨meth, c, h1, h2, h3, h4, h5, h6⟩
  · intro p e s m args below meth c s₁ B hml hP _
    have hh0 : s₁.heap = s.heap := by rw [B.state]; rfl
    have ht : ∀ x ∈ c.exceptionTable.toList, False := by
      obtain ⟨meth9, c9, h1, h2, -, -, -, -, h7, -⟩ := Cond.code_spec B.named (atoms_spec (ws := ws) B.pre _ (by rw [hw]; exact List.mem_cons_self))
      cases Option.some.inj (h1.symm.trans B.method)
      cases Option.some.inj (h2.symm.trans (Stand.of_body B).code)
      intro x hx
      rw [Array.isEmpty_iff.mp h7] at hx
      cases hx
    obtain ⟨t, a1, o, b1, b2, b3⟩ := body p e s m args below meth c s₁ B hml ht hP s₁ hh0 (Stand.of_body B)
    exact ⟨t, o, a1, b1, b2, b3⟩
/-- the table of a body with handlers -/
theorem vx_table {p : Program} {x y : MethodName} {S : Spec} {cc bytes : ByteArray} {maxL maxL' : Nat} {ret ret' : Option FieldType} {e : Env} {s s₁ : State} {m : MethodId} {args : Array Value} {below : List Frame} {meth : Method} {c : Code} {hh : List (Nat × Nat × Nat × Nat)}
    (B : BodyLoose p l y S cc maxL ret e s m args below meth c s₁) (h : (Cond.codeWith y bytes maxL' ret' hh).before args s = true) : c.exceptionTable.toList = tableOf hh := by
  obtain ⟨m9, meth9, c9, hn9, h1, h2, -, -, h6, -⟩ := Cond.codeWith_spec h
  cases Option.some.inj (hn9.symm.trans B.named)
  cases Option.some.inj (h1.symm.trans B.method)
  cases Option.some.inj (h2.symm.trans (Stand.of_body B).code)
  rw [← h6, table_eq]
end Bodies
end VXA
/-! ===== END ===== -/
/-! ===== BEGIN a static call of a method with an exception table ===== -/
section VXS
variable {p : Program} {l : Launch} {e : Env} {R : Room} {s : State} {m : MethodId} {args : Array Value} {below : List Frame} {meth : Method} {c : Code} {T : State} {H : Heap} {locs : List Loc} {cells slots : Nat}
abbrev vx_CSW (R : Room) (s : State) (args : Array Value) (own : String) (index : Nat) (y : MethodName) (bytes : ByteArray) (maxL : Nat) (ret : Option FieldType) (hh : List (Nat × Nat × Nat × Nat)) (ws : List Cond) (rm : Room) (mc ms n : Nat) : Prop :=
  (rm.cells = mc ∧ rm.slots = ms ∧ rm.frames + 1 ≤ R.frames ∧ 8 + (maxL + 11) + rm.locals ≤ R.locals ∧ (∀ w ∈ ws, ∀ (a' : Array Value) (U : State), s.WarmedH U.vm → w.before a' U = true) ∧ Cond.codeWith y bytes maxL ret hh ∈ ws) ∧
  (Cond.codeWith y bytes maxL ret hh).before args s = true ∧ (Cond.initialized y.cls).before args s = true ∧ (y.cls ≠ "java/lang/invoke/MethodHandle" ∧ y.cls ≠ "java/lang/invoke/VarHandle") ∧
  (∀ sig, parseMethodDescriptor y.desc = some sig → n = sig.parameters.length) ∧ (Cond.methodLink own index y).before args s = true ∧ (Cond.static y).before args s = true
theorem vx_cwSW {own : String} {index maxL mc ms : Nat} {y : MethodName} {bytes : ByteArray} {ret : Option FieldType} {hh : List (Nat × Nat × Nat × Nat)} {Ts ws ws' : List Cond} {rm : Room} (n : Nat) (ht : ∀ w ∈ Ts, w.before args s = true) (hT : GoodIn Ts (va_wsS own index y ws)) (hw : ws = Cond.codeWith y bytes maxL ret hh :: ws') (hrc : rm.cells = mc) (hrs : rm.slots = ms)
    (hd : y.cls ≠ "java/lang/invoke/MethodHandle" ∧ y.cls ≠ "java/lang/invoke/VarHandle" ∧ (parseMethodDescriptor y.desc).map (fun d => d.parameters.length) = some n) (hR : rm.frames + 1 ≤ R.frames ∧ 8 + (maxL + 11) + rm.locals ≤ R.locals) :
    vx_CSW R s args own index y bytes maxL ret hh ws rm mc ms n := by
  have ok : ∀ w ∈ va_wsS own index y ws, w.before args s = true := fun w h => ht w (hT w h).1
  have hG : GoodIn Ts ws := fun w h => hT w (by unfold va_wsS; exact List.mem_append_right _ h)
  have hc : Cond.codeWith y bytes maxL ret hh ∈ ws := by rw [hw]; exact List.mem_cons_self
  refine ⟨⟨hrc, hrs, hR.1, hR.2, pay_in ht hG, hc⟩, ht _ (hG _ hc).1, ok _ (by simp [va_wsS]), ⟨hd.1, hd.2.1⟩, fun sig h => ?_, ok _ (by simp [va_wsS]), ok _ (by simp [va_wsS])⟩
  have h2 := hd.2.2
  rw [h] at h2
  exact (Option.some.inj h2).symm
theorem vx_callSW (X : Stand p l e R s m args below meth c T locs cells slots) (hexec : p.tables.exec = Jvm.exec) {own : String} {index : Nat} {y : MethodName} {bytes : ByteArray} {maxL : Nat} {ret : Option FieldType} {hh : List (Nat × Nat × Nat × Nat)}
    (hown : s.vm.findClass own = some m.cls) (hlink : (Cond.methodLink own index y).before args s = true) (hstat : (Cond.static y).before args s = true) (hinit : (Cond.initialized y.cls).before args s = true)
    (hcode : (Cond.codeWith y bytes maxL ret hh).before args s = true) (hy : y.cls ≠ "java/lang/invoke/MethodHandle" ∧ y.cls ≠ "java/lang/invoke/VarHandle")
    {W9 : Nat} {Pre : Pt → Array Value → Prop} {Post : Pt → Array Value → Option Value → Pt → Prop} (hK : Back l R p e below s args y 3 W9 Pre Post)
    {g : JFrame} (hg : g.method = m) (hsize : g.locals.size = c.maxLocals) {argsL rest : List Value} (hlen : ∀ sig, parseMethodDescriptor y.desc = some sig → argsL.length = sig.parameters.length)
    (hstack : g.stack = argsL.reverse ++ rest) (hW : 2 * g.monitorRoom + (rest.map fun v => v.category).sum ≤ W9) (hdg : decode c.code g.pc = .ok (.invokestatic index, 3))
    (hpre : ∀ vm₁, s.WarmedH vm₁ → Pre ⟨T.setVm vm₁, locs, cells, slots⟩ argsL.toArray) :
    ∃ (v : Option Value) (vm₁ : Vm) (B : Pt), s.WarmedH vm₁ ∧ Stand p l e R s m args below meth c B.U B.locs B.cells B.slots ∧ Post ⟨T.setVm vm₁, locs, cells, slots⟩ argsL.toArray v B ∧
      ∀ target, Steps p.tables e below (B.U.setTop { g with pc := g.pc + 3, stack := v.toList ++ rest }) target → Steps p.tables e below (T.setTop g) target := by
  obtain ⟨mk, methM, cM, hnamed, hmethM, -, -, -, -, -, -, hsigM⟩ := Cond.codeWith_spec hcode
  have hstatic : methM.isStatic = true := Cond.static_spec hnamed hmethM hstat
  obtain ⟨kP, hkP, -⟩ := className_of_methodNamed hnamed
  have hinitP : kP.init = .initialized := Cond.initialized_spec (findClass_of_methodNamed hnamed) hkP hinit
  obtain ⟨vm₁, X₁, hstep₁⟩ := X.invokestatic hexec hown hlink hnamed hmethM hstatic hkP hinitP hy (g := g) hg (argsL := argsL) (rest := rest) (hlen _ hsigM) hstack hdg
  obtain ⟨v, B, X', hpost, hsteps⟩ := hK m meth c ⟨T.setVm vm₁, locs, cells, slots⟩ { g with stack := rest } (.invokestatic index) mk argsL.toArray X₁ hg hsize hdg hW (X₁.named hnamed) (hpre vm₁ X₁.warmed)
  exact ⟨v, vm₁, B, X₁.warmed, X', hpost, fun target h => hstep₁ _ fun acts => by rw [doInvoke_state]; exact hsteps.trans h⟩
theorem vx_runSW {y : MethodName} {bytes cc : ByteArray} {maxL nL mc ms n index : Nat} {ret : Option FieldType} {hh : List (Nat × Nat × Nat × Nat)} {ws : List Cond} {rm : Room} {Pc : Array Value → State → Prop} {Qc : Array Value → State → Outcome → State → Prop} {free : Addr → Prop} {Ts : List Cond} {own : String} {As rest : List Value} {g : JFrame}
    (S : CallFix p m c cc nL s args Ts own) (hM : Met l y ws rm Pc Qc mc ms free) (cw : vx_CSW R s args own index y bytes maxL ret hh ws rm mc ms n) (hp : PreS s H Pc As)
    (hg : g.method = m) (hn : As.length = n) (hsize : g.locals.size = nL) (hstack : g.stack = As.reverse ++ rest) (hW : 2 * g.monitorRoom + (rest.map fun v => v.category).sum ≤ 8) (hdg : decode cc g.pc = .ok (.invokestatic index, 3)) (hf : cells + mc ≤ R.cells ∧ slots + ms ≤ R.slots) :
    va_Run p l e R s m args below meth c H locs cells slots mc ms g rest (Qc As.toArray) (free) := by
  obtain ⟨⟨hrc, hrs, hfr, hlo, hws, hcw⟩, hcode, hini, hy, hlen, hl, hstt⟩ := cw
  have hK : Back l R p e below s args y 3 8 (PreOf R mc ms Pc) (PostOf Qc mc ms free) := va_backW (hh := hh) (bytes := bytes) (maxL := maxL) (ret := ret) hM hp.1 hrc hrs hfr hlo hws hcw (fun a' U hW => word_at hW (Or.inl (by first | rfl | simp [Cond.onTables, Cond.keeps, Cond.steady])) hini)
  obtain ⟨hx, hb, hml, ho, -⟩ := S
  intro T hT X
  obtain ⟨v, vm₁, ⟨U', l2, c2, s2⟩, hW₁, X', ⟨g', mk, t, L, e1, e2, hq, h1, hL, h2, h3⟩, st⟩ := vx_callSW X hx (hh := hh) (bytes := bytes) (maxL := maxL) (ret := ret) ho hl hstt hini hcode hy hK hg (hsize.trans hml.symm) (argsL := As) (rest := rest) (fun sig h => hn.trans (hlen sig h)) hstack hW (by rw [hb]; exact hdg)
    (fun vm₁ hW₁ => ⟨hf.1, hf.2, hp.2 (T.setVm vm₁) hT hW₁⟩)
  dsimp only [Pt.U, Pt.locs, Pt.cells, Pt.slots] at X' e1 e2 h1 h2 h3 st
  subst h1; subst h2; subst h3
  exact ⟨v, (T.setVm vm₁).calling g' mk As.toArray, t, U', L, hT, X', hL, e1, e2, hq, st⟩
/-- not caught here, past rows that name other classes: it goes on to the caller -/
theorem vx_outP {p : Program} {l : Launch} {e : Env} {R : Room} {s : State} {m : MethodId} {args : Array Value} {below : List Frame} {meth : Method} {c : Code} {H : Heap} {locs : List Loc} {cells slots : Nat} {free : Addr → Prop} {ls : Array Slot} {rest : List Value} {Qc : Array Value → State → Outcome → State → Prop} {XC : String → State → State → Prop}
    {pc : Nat} {own E : String} {ce : Cell} {q : Addr} {mc ms : Nat} (hown : s.vm.findClass own = some m.cls) (hlocks : meth.locks = false)
    (hpass : ∀ z ∈ c.exceptionTable.toList, covers z pc = false ∨ (z.catchType ≠ 0 ∧ ∃ nm : String, (Cond.classLink own z.catchType nm).before args s = true ∧ va_Nc E nm s)) (hcell : H[q]? = some ce) (hv : ce.vm = .none) (hcl : s.vm.findClass E = some ce.cls)
    (hx : ∀ t : State, t.heap = H → s.vm.Alike t.vm → XC E s t) (hf : ∀ z ∈ locs, free z.base) (hc : cells ≤ mc) (hs : slots ≤ ms) :
    vx_W p l e R s m args below meth c H locs cells slots (vx_MQ below Qc XC args s mc ms free) (F0 m pc ls rest) q := by
  intro T hT X
  have hpl : e.platform.magicAccessors = ({} : Platform).magicAccessors := by rw [X.admits.platform]
  obtain ⟨vm', hW', X', st⟩ := X.outThrough hlocks q (g := F0 m pc ls rest) rfl rfl rfl (cell := ce) (by rw [hT]; exact hcell) (by rw [hv]; rfl)
    (by obtain ⟨k9, h9, -⟩ := Vm.findClass_spec hcl; exact ⟨k9, h9⟩) (fun z hz => by
      rcases hpass z hz with h | ⟨hz0, nm, hl1, hn1⟩
      · exact Or.inl h
      · obtain ⟨c6, hc6, hcl6⟩ := Cond.classLink_spec hown hl1 e.platform hpl
        obtain ⟨a8, b8, h1, h2, h3⟩ := hn1
        cases Option.some.inj (h1.symm.trans hcl)
        cases Option.some.inj (h2.symm.trans hc6)
        exact Or.inr ⟨hz0, _, hcl6, h3⟩)
  obtain ⟨g₀, hfr⟩ := X'.frames_eq
  have hcell9 : ((T.setVm vm').setFrames (.throwing q :: below)).heap[q]? = some ce := by
    show T.heap[q]? = some ce
    rw [hT]; exact hcell
  have hend : Ended ((T.setVm vm').setFrames (.throwing q :: below)) below (.threw q) := State.frames_setFrames _ (State.cur_lt_of_frames hfr)
  refine ⟨(T.setVm vm').setFrames (.throwing q :: below), ?_, .threw q, X'.here.running, hend, Or.inr ⟨q, rfl, E, ce, locs, hx _ hT (X'.ends _).1.alike, hcell9, hv, hcl, (X'.ends _).1, (X'.ends _).2.mono hc hs, hf⟩⟩
  rw [X.pushThrowing_eq]
  exact st
/-- a thing of a world lies in the heap -/
theorem vx_lt {D : va_G} {cl : List vw_C} {ws : va_W} {H1 : Heap} (h : va_P D cl ws H1) {k : Nat} {q : Nat × va_E} (hk : ws[k]? = some q) : q.1 < H1.size := (h k q hk).lt
end VXS
/-! ===== END ===== -/
/-! ===== BEGIN methods with a table of their own: called by a name, returning or throwing ===== -/
section VXH
/-! vx_backW, vx_callVX, vx_callSX, vx_callVW, vx_runVW, vx_runVX, vx_runSX, vx_ofWH follow the same proofs as their sisters above (Free/Laws.lean, Shelf42/LK1.lean); vx_outP calls Shelf42/NT130.lean (outThrough). -/
section
variable {l : Launch} {R : Room} {p : Program} {e : Env} {below : List Frame} {s : State} {sargs : Array Value} {y : MethodName} {len W9 : Nat}
theorem vx_backW {ws : List Cond} {rm : Room} {Pc : Array Value → State → Prop} {Qc : Array Value → State → Outcome → State → Prop} {XC : String → State → State → Prop} {mc ms : Nat} {free : Addr → Prop} {bytes : ByteArray} {maxL : Nat} {ret : Option FieldType} {hh : List (Nat × Nat × Nat × Nat)}
    (hM : vx_Met l y ws rm Pc Qc XC mc ms free) (hblind : FrameBlind Pc) (hrc : rm.cells = mc) (hrs : rm.slots = ms)
    (hframes : rm.frames + 1 ≤ R.frames) (hlocals : W9 + (maxL + 11) + rm.locals ≤ R.locals)
    (hws : ∀ w ∈ ws, ∀ a' U, s.WarmedH U.vm → w.before a' U = true) (hcode : Cond.codeWith y bytes maxL ret hh ∈ ws) (hinit : ∀ a' U, s.WarmedH U.vm → (Cond.initialized y.cls).before a' U = true) :
    vx_Back l R p e below s sargs y len W9 (PreOf R mc ms Pc) (PostOf Qc mc ms free) (vx_Post XC mc ms free) := by
  intro m meth c A g ig mk a X hg hsize hdg hW hn hp
  have h1 : (headSpec ws rm).pre.before a A.U = true := atoms_intro fun w hw => hws w hw _ _ X.warmed
  have h2 : (Cond.codeWith y bytes maxL ret hh).before a A.U = true := hws _ hcode _ _ X.warmed
  have h3 : (Cond.initialized y.cls).before a A.U = true := hinit _ _ X.warmed
  have h4 : A.cells + (headSpec ws rm).room.cells ≤ R.cells := by rw [show (headSpec ws rm).room.cells = mc from hrc]; exact hp.1
  have h5 : A.slots + (headSpec ws rm).room.slots ≤ R.slots := by rw [show (headSpec ws rm).room.slots = ms from hrs]; exact hp.2.1
  have hPc : Pc a (A.U.calling g mk a) := hblind _ _ _ _ hp.2.2
  obtain ⟨U, Ls, c0, s0⟩ := A
  dsimp only [Pt.U, Pt.locs, Pt.cells, Pt.slots] at h1 h2 h3 h4 h5 X hn hPc ⊢
  obtain ⟨m9, methY, cY, hn9, hmY, hcY, -, hlY, -⟩ := Cond.codeWith_spec h2
  cases Option.some.inj (hn9.symm.trans hn)
  obtain ⟨kY, hkY, -⟩ := className_of_methodNamed hn
  have hinitY : kY.init = .initialized := Cond.initialized_spec (findClass_of_methodNamed hn) hkY h3
  have h : At U g.method c below := by rw [hg]; exact X.here
  have hlocals9 : W9 + (maxL + 11) + (headSpec ws rm).room.locals ≤ R.locals := hlocals
  have happ : (headSpec ws rm).appliesLoose y e.platform (U.calling g mk a) = true :=
    Spec.appliesLoose_calling (g := g) h hdg hn hkY hinitY
      (X.room_calling (g := g) (R' := (headSpec ws rm).room) hsize hmY hcY hframes (by rw [hlY]; omega) h4 h5) h1
  obtain ⟨mid, hmid⟩ := h.above
  have hfr : (U.setTop g).frames = (.java g :: mid) ++ below := by rw [State.frames_setTop' g h.top, hmid]; rfl
  obtain ⟨o, s₂, hsteps, -, hend, hq⟩ := Steps.callFree hM p X.admits X.cas X.clock (acts := []) hfr happ hPc trivial
  have hq' : vx_Q Qc XC mc ms free a (U.calling g mk a) o s₂ := hq
  rw [State.frames_setTop' g h.top] at hend
  obtain ⟨g₀, hg0⟩ := Option.isSome_iff_exists.mp h.top
  obtain ⟨r, hr⟩ := State.topJava?_eq_some.mp hg0
  have hr' : (({ U with heap := s₂.heap, slotsUsed := s₂.slotsUsed } : State).setVm s₂.vm).frames = .java g₀ :: r := hr
  rcases hq' with ⟨hqc, L, hfe, hL⟩ | ⟨q, rfl, E, ce, L, hx, hce, hcv, hcl, hW₂, hsm, hL⟩
  · obtain ⟨⟨v, rfl⟩, hW₂, e2, q2, q3, q4, q5, q6⟩ := id hfe
    have e3 : s₂ = ({ (U.calling g mk a).setFrames s₂.frames with heap := s₂.heap, slotsUsed := s₂.slotsUsed } : State).setVm s₂.vm := by
      have : s₂ = ({ s₂ with vm := (U.calling g mk a).vm } : State).setVm s₂.vm := rfl
      rw [e2] at this
      exact this
    obtain ⟨c₂, i₂, len₂, hc₂, hd₂, hf₂⟩ := hend
    have hW' : U.WarmedH s₂.vm := hW₂
    have hcc : c₂ = c := by
      have h1 : s₂.code? g.method = U.code? g.method := by
        rw [State.code?_eq, State.code?_eq, hW'.alike.method?]
      exact Option.some.inj (hc₂.symm.trans (h1.trans h.code))
    subst hcc
    have hlen : len₂ = len := by rw [hdg] at hd₂; cases hd₂; rfl
    subst hlen
    have hs₂ : s₂ = (({ U with heap := s₂.heap, slotsUsed := s₂.slotsUsed } : State).setVm s₂.vm).setTop { g with pc := g.pc + len₂, stack := v.toList ++ g.stack } := by
      refine e3.trans ?_
      rw [hf₂, State.calling_eq h.top, State.setFrames_setFrames, State.setTop_of_frames _ hr', hr]
      rfl
    have hsame : U.sameButNew ({ U with heap := s₂.heap, slotsUsed := s₂.slotsUsed } : State) L mc ms := by
      refine ⟨?_, q2, q3, q4, q5, q6⟩
      obtain ⟨t, ht, -⟩ := State.frames_cons hr
      show ({ U with heap := s₂.heap, slotsUsed := s₂.slotsUsed } : State) = { U.setFrames U.frames with heap := s₂.heap, slotsUsed := s₂.slotsUsed }
      rw [State.setFrames_self ht]
    subst hg
    refine Or.inl ⟨v, ⟨(({ U with heap := s₂.heap, slotsUsed := s₂.slotsUsed } : State).setVm s₂.vm), Ls ++ L, c0 + mc, s0 + ms⟩,
      ⟨X.admits, X.cas, X.clock, X.frames, X.room, X.hears, X.method, X.code, (X.here.setHeapUsed s₂.heap s₂.slotsUsed).setVm hW'.alike, X.tail, State.WarmedH.trans X.warmed hW', X.limits, X.bytes, X.same.trans (hsame.setVm s.vm)⟩,
      ⟨g, mk, s₂, L, rfl, rfl, hqc, rfl, hL, rfl, rfl⟩, ?_⟩
    show Steps p.tables e below _ ((({ U with heap := s₂.heap, slotsUsed := s₂.slotsUsed } : State).setVm s₂.vm).setTop { g with pc := g.pc + len₂, stack := v.toList ++ g.stack })
    rw [← hs₂]
    exact hsteps
  · obtain ⟨e2, q2, q3, q4, q5, q6⟩ := id hsm
    have e3 : s₂ = ({ (U.calling g mk a).setFrames s₂.frames with heap := s₂.heap, slotsUsed := s₂.slotsUsed } : State).setVm s₂.vm := by
      have : s₂ = ({ s₂ with vm := (U.calling g mk a).vm } : State).setVm s₂.vm := rfl
      rw [e2] at this
      exact this
    have hf₂ : s₂.frames = .throwing q :: .java g :: U.frames.tail := hend
    have hW' : U.WarmedH s₂.vm := hW₂
    have hs₂ : s₂ = ((({ U with heap := s₂.heap, slotsUsed := s₂.slotsUsed } : State).setVm s₂.vm).setTop g).pushFrame (.throwing q) := by
      refine e3.trans ?_
      rw [hf₂, State.calling_eq h.top, State.setFrames_setFrames, State.pushFrame, State.frames_setTop _ hr', State.setTop_of_frames _ hr', State.setFrames_setFrames, hr]
      rfl
    have hsame : U.sameButNew ({ U with heap := s₂.heap, slotsUsed := s₂.slotsUsed } : State) L mc ms := by
      refine ⟨?_, q2, q3, q4, q5, q6⟩
      obtain ⟨t, ht, -⟩ := State.frames_cons hr
      show ({ U with heap := s₂.heap, slotsUsed := s₂.slotsUsed } : State) = { U.setFrames U.frames with heap := s₂.heap, slotsUsed := s₂.slotsUsed }
      rw [State.setFrames_self ht]
    subst hg
    refine Or.inr ⟨q, ⟨(({ U with heap := s₂.heap, slotsUsed := s₂.slotsUsed } : State).setVm s₂.vm), Ls ++ L, c0 + mc, s0 + ms⟩,
      ⟨X.admits, X.cas, X.clock, X.frames, X.room, X.hears, X.method, X.code, (X.here.setHeapUsed s₂.heap s₂.slotsUsed).setVm hW'.alike, X.tail, State.WarmedH.trans X.warmed hW', X.limits, X.bytes, X.same.trans (hsame.setVm s.vm)⟩,
      ⟨g, mk, s₂, L, E, ce, rfl, rfl, hx, hce, hcv, hcl, rfl, hL, rfl, rfl⟩, ?_⟩
    show Steps p.tables e below _ (((({ U with heap := s₂.heap, slotsUsed := s₂.slotsUsed } : State).setVm s₂.vm).setTop g).pushFrame (.throwing q))
    rw [← hs₂]
    exact hsteps
end
variable {p : Program} {l : Launch} {e : Env} {R : Room} {s : State} {m : MethodId} {args : Array Value} {below : List Frame} {meth : Method} {c : Code} {T : State} {H : Heap} {locs : List Loc} {cells slots : Nat}
theorem vx_callVX (X : Stand p l e R s m args below meth c T locs cells slots) (hexec : p.tables.exec = Jvm.exec) {own C : String} {index : Nat} {y : MethodName} {bytes : ByteArray} {maxL : Nat} {ret : Option FieldType} {hh : List (Nat × Nat × Nat × Nat)}
    (hown : s.vm.findClass own = some m.cls) (hlink : (Cond.methodLink own index y).before args s = true) (hinst : (Cond.instanceMethod y).before args s = true) (hsel : (Cond.selects C y y).before args s = true)
    (hcode : (Cond.codeWith y bytes maxL ret hh).before args s = true) (hy : y.cls ≠ "java/lang/invoke/MethodHandle" ∧ y.cls ≠ "java/lang/invoke/VarHandle")
    {W9 : Nat} {Pre : Pt → Array Value → Prop} {Post : Pt → Array Value → Option Value → Pt → Prop} {PostX : Pt → Array Value → Addr → Pt → Prop} (hK : vx_Back l R p e below s args y 3 W9 Pre Post PostX)
    {b : Addr} {cellB : Cell} (hcell : T.heap[b]? = some cellB) (hobj : cellB.vm.isStatics = false) (hcls : s.vm.findClass C = some cellB.cls)
    {g : JFrame} (hg : g.method = m) (hsize : g.locals.size = c.maxLocals) {argsL rest : List Value} (hlen : ∀ sig, parseMethodDescriptor y.desc = some sig → argsL.length = sig.parameters.length)
    (hstack : g.stack = argsL.reverse ++ .ref b :: rest) (hW : 2 * g.monitorRoom + (rest.map fun v => v.category).sum ≤ W9) (hdg : decode c.code g.pc = .ok (.invokevirtual index, 3))
    (hpre : ∀ vm₁, s.WarmedH vm₁ → Pre ⟨T.setVm vm₁, locs, cells, slots⟩ (Value.ref b :: argsL).toArray) :
    (∃ (v : Option Value) (vm₁ : Vm) (B : Pt), s.WarmedH vm₁ ∧ Stand p l e R s m args below meth c B.U B.locs B.cells B.slots ∧ Post ⟨T.setVm vm₁, locs, cells, slots⟩ (Value.ref b :: argsL).toArray v B ∧
      ∀ target, Steps p.tables e below (B.U.setTop { g with pc := g.pc + 3, stack := v.toList ++ rest }) target → Steps p.tables e below (T.setTop g) target) ∨
    (∃ (q : Addr) (vm₁ : Vm) (B : Pt), s.WarmedH vm₁ ∧ Stand p l e R s m args below meth c B.U B.locs B.cells B.slots ∧ PostX ⟨T.setVm vm₁, locs, cells, slots⟩ (Value.ref b :: argsL).toArray q B ∧
      Steps p.tables e below (T.setTop g) ((B.U.setTop { g with stack := rest }).pushFrame (.throwing q))) := by
  obtain ⟨mk, methM, hnamed, hmethM, hstM, habM⟩ := Cond.instanceMethod_spec hinst
  obtain ⟨m8, methM', cM, hn8, hmethM', -, -, -, -, -, -, hsigM⟩ := Cond.codeWith_spec hcode
  cases Option.some.inj (hn8.symm.trans hnamed)
  cases hmethM.symm.trans hmethM'
  obtain ⟨c2, r2, m2, q1, q2, q3, q4, kP, hkP, hkPi⟩ := Cond.selects_spec hsel
  cases hcls.symm.trans q1
  cases (State.methodFound?_of_named hnamed hy).symm.trans q2
  cases hnamed.symm.trans q3
  have hselP : selectMethod e.platform s.vm cellB.cls mk = .method mk := by rw [Launch.admits_selectMethod X.admits]; exact q4
  obtain ⟨vm₁, X₁, hstep₁⟩ := X.invokevirtual hexec hown hlink hnamed hmethM hstM hkP hkPi hy (a := b) (cell := cellB) hcell
    (fun z h => by rw [h] at hobj; cases hobj) hselP hmethM habM hkP hkPi (g := g) hg (argsL := argsL) (rest := rest) (hlen _ hsigM) hstack hdg
  rcases hK m meth c ⟨T.setVm vm₁, locs, cells, slots⟩ { g with stack := rest } (.invokevirtual index) mk (Value.ref b :: argsL).toArray X₁ hg hsize hdg hW (X₁.named hnamed) (hpre vm₁ X₁.warmed) with ⟨v, B, X', hpost, hsteps⟩ | ⟨q, B, X', hpost, hsteps⟩
  · exact Or.inl ⟨v, vm₁, B, X₁.warmed, X', hpost, fun target h => hstep₁ _ fun acts => by rw [doInvoke_state]; exact hsteps.trans h⟩
  · exact Or.inr ⟨q, vm₁, B, X₁.warmed, X', hpost, hstep₁ _ fun acts => by rw [doInvoke_state]; exact hsteps⟩
theorem vx_callSX (X : Stand p l e R s m args below meth c T locs cells slots) (hexec : p.tables.exec = Jvm.exec) {own : String} {index : Nat} {y : MethodName} {bytes : ByteArray} {maxL : Nat} {ret : Option FieldType} {hh : List (Nat × Nat × Nat × Nat)}
    (hown : s.vm.findClass own = some m.cls) (hlink : (Cond.methodLink own index y).before args s = true) (hstat : (Cond.static y).before args s = true) (hinit : (Cond.initialized y.cls).before args s = true)
    (hcode : (Cond.codeWith y bytes maxL ret hh).before args s = true) (hy : y.cls ≠ "java/lang/invoke/MethodHandle" ∧ y.cls ≠ "java/lang/invoke/VarHandle")
    {W9 : Nat} {Pre : Pt → Array Value → Prop} {Post : Pt → Array Value → Option Value → Pt → Prop} {PostX : Pt → Array Value → Addr → Pt → Prop} (hK : vx_Back l R p e below s args y 3 W9 Pre Post PostX)
    {g : JFrame} (hg : g.method = m) (hsize : g.locals.size = c.maxLocals) {argsL rest : List Value} (hlen : ∀ sig, parseMethodDescriptor y.desc = some sig → argsL.length = sig.parameters.length)
    (hstack : g.stack = argsL.reverse ++ rest) (hW : 2 * g.monitorRoom + (rest.map fun v => v.category).sum ≤ W9) (hdg : decode c.code g.pc = .ok (.invokestatic index, 3))
    (hpre : ∀ vm₁, s.WarmedH vm₁ → Pre ⟨T.setVm vm₁, locs, cells, slots⟩ argsL.toArray) :
    (∃ (v : Option Value) (vm₁ : Vm) (B : Pt), s.WarmedH vm₁ ∧ Stand p l e R s m args below meth c B.U B.locs B.cells B.slots ∧ Post ⟨T.setVm vm₁, locs, cells, slots⟩ argsL.toArray v B ∧
      ∀ target, Steps p.tables e below (B.U.setTop { g with pc := g.pc + 3, stack := v.toList ++ rest }) target → Steps p.tables e below (T.setTop g) target) ∨
    (∃ (q : Addr) (vm₁ : Vm) (B : Pt), s.WarmedH vm₁ ∧ Stand p l e R s m args below meth c B.U B.locs B.cells B.slots ∧ PostX ⟨T.setVm vm₁, locs, cells, slots⟩ argsL.toArray q B ∧
      Steps p.tables e below (T.setTop g) ((B.U.setTop { g with stack := rest }).pushFrame (.throwing q))) := by
  obtain ⟨mk, methM, cM, hnamed, hmethM, -, -, -, -, -, -, hsigM⟩ := Cond.codeWith_spec hcode
  have hstatic : methM.isStatic = true := Cond.static_spec hnamed hmethM hstat
  obtain ⟨kP, hkP, -⟩ := className_of_methodNamed hnamed
  have hinitP : kP.init = .initialized := Cond.initialized_spec (findClass_of_methodNamed hnamed) hkP hinit
  obtain ⟨vm₁, X₁, hstep₁⟩ := X.invokestatic hexec hown hlink hnamed hmethM hstatic hkP hinitP hy (g := g) hg (argsL := argsL) (rest := rest) (hlen _ hsigM) hstack hdg
  rcases hK m meth c ⟨T.setVm vm₁, locs, cells, slots⟩ { g with stack := rest } (.invokestatic index) mk argsL.toArray X₁ hg hsize hdg hW (X₁.named hnamed) (hpre vm₁ X₁.warmed) with ⟨v, B, X', hpost, hsteps⟩ | ⟨q, B, X', hpost, hsteps⟩
  · exact Or.inl ⟨v, vm₁, B, X₁.warmed, X', hpost, fun target h => hstep₁ _ fun acts => by rw [doInvoke_state]; exact hsteps.trans h⟩
  · exact Or.inr ⟨q, vm₁, B, X₁.warmed, X', hpost, hstep₁ _ fun acts => by rw [doInvoke_state]; exact hsteps⟩
theorem vx_callVW (X : Stand p l e R s m args below meth c T locs cells slots) (hexec : p.tables.exec = Jvm.exec) {own C : String} {index : Nat} {y : MethodName} {bytes : ByteArray} {maxL : Nat} {ret : Option FieldType} {hh : List (Nat × Nat × Nat × Nat)}
    (hown : s.vm.findClass own = some m.cls) (hlink : (Cond.methodLink own index y).before args s = true) (hinst : (Cond.instanceMethod y).before args s = true) (hsel : (Cond.selects C y y).before args s = true)
    (hcode : (Cond.codeWith y bytes maxL ret hh).before args s = true) (hy : y.cls ≠ "java/lang/invoke/MethodHandle" ∧ y.cls ≠ "java/lang/invoke/VarHandle")
    {W9 : Nat} {Pre : Pt → Array Value → Prop} {Post : Pt → Array Value → Option Value → Pt → Prop} (hK : Back l R p e below s args y 3 W9 Pre Post)
    {b : Addr} {cellB : Cell} (hcell : T.heap[b]? = some cellB) (hobj : cellB.vm.isStatics = false) (hcls : s.vm.findClass C = some cellB.cls)
    {g : JFrame} (hg : g.method = m) (hsize : g.locals.size = c.maxLocals) {argsL rest : List Value} (hlen : ∀ sig, parseMethodDescriptor y.desc = some sig → argsL.length = sig.parameters.length)
    (hstack : g.stack = argsL.reverse ++ .ref b :: rest) (hW : 2 * g.monitorRoom + (rest.map fun v => v.category).sum ≤ W9) (hdg : decode c.code g.pc = .ok (.invokevirtual index, 3))
    (hpre : ∀ vm₁, s.WarmedH vm₁ → Pre ⟨T.setVm vm₁, locs, cells, slots⟩ (Value.ref b :: argsL).toArray) :
    ∃ (v : Option Value) (vm₁ : Vm) (B : Pt), s.WarmedH vm₁ ∧ Stand p l e R s m args below meth c B.U B.locs B.cells B.slots ∧ Post ⟨T.setVm vm₁, locs, cells, slots⟩ (Value.ref b :: argsL).toArray v B ∧
      ∀ target, Steps p.tables e below (B.U.setTop { g with pc := g.pc + 3, stack := v.toList ++ rest }) target → Steps p.tables e below (T.setTop g) target := by
  obtain ⟨mk, methM, hnamed, hmethM, hstM, habM⟩ := Cond.instanceMethod_spec hinst
  obtain ⟨m8, methM', cM, hn8, hmethM', -, -, -, -, -, -, hsigM⟩ := Cond.codeWith_spec hcode
  cases Option.some.inj (hn8.symm.trans hnamed)
  cases hmethM.symm.trans hmethM'
  obtain ⟨c2, r2, m2, q1, q2, q3, q4, kP, hkP, hkPi⟩ := Cond.selects_spec hsel
  cases hcls.symm.trans q1
  cases (State.methodFound?_of_named hnamed hy).symm.trans q2
  cases hnamed.symm.trans q3
  have hselP : selectMethod e.platform s.vm cellB.cls mk = .method mk := by rw [Launch.admits_selectMethod X.admits]; exact q4
  obtain ⟨vm₁, X₁, hstep₁⟩ := X.invokevirtual hexec hown hlink hnamed hmethM hstM hkP hkPi hy (a := b) (cell := cellB) hcell
    (fun z h => by rw [h] at hobj; cases hobj) hselP hmethM habM hkP hkPi (g := g) hg (argsL := argsL) (rest := rest) (hlen _ hsigM) hstack hdg
  obtain ⟨v, B, X', hpost, hsteps⟩ := hK m meth c ⟨T.setVm vm₁, locs, cells, slots⟩ { g with stack := rest } (.invokevirtual index) mk (Value.ref b :: argsL).toArray X₁ hg hsize hdg hW (X₁.named hnamed) (hpre vm₁ X₁.warmed)
  exact ⟨v, vm₁, B, X₁.warmed, X', hpost, fun target h => hstep₁ _ fun acts => by rw [doInvoke_state]; exact hsteps.trans h⟩
abbrev vx_CVW (R : Room) (s : State) (args : Array Value) (own C : String) (index : Nat) (y : MethodName) (bytes : ByteArray) (maxL : Nat) (ret : Option FieldType) (hh : List (Nat × Nat × Nat × Nat)) (ws : List Cond) (rm : Room) (mc ms n : Nat) : Prop :=
  (rm.cells = mc ∧ rm.slots = ms ∧ rm.frames + 1 ≤ R.frames ∧ 8 + (maxL + 11) + rm.locals ≤ R.locals ∧ (∀ w ∈ ws, ∀ (a' : Array Value) (U : State), s.WarmedH U.vm → w.before a' U = true) ∧ Cond.codeWith y bytes maxL ret hh ∈ ws) ∧
  (Cond.codeWith y bytes maxL ret hh).before args s = true ∧ (Cond.initialized y.cls).before args s = true ∧ (y.cls ≠ "java/lang/invoke/MethodHandle" ∧ y.cls ≠ "java/lang/invoke/VarHandle") ∧
  (∀ sig, parseMethodDescriptor y.desc = some sig → n = sig.parameters.length) ∧ (Cond.methodLink own index y).before args s = true ∧ (Cond.instanceMethod y).before args s = true ∧ (Cond.selects C y y).before args s = true
theorem vx_cwVW {own C : String} {index maxL mc ms : Nat} {y : MethodName} {bytes : ByteArray} {ret : Option FieldType} {hh : List (Nat × Nat × Nat × Nat)} {Ts ws ws' : List Cond} {rm : Room} (n : Nat) (ht : ∀ w ∈ Ts, w.before args s = true) (hT : GoodIn Ts (wsV own index C y ws)) (hw : ws = Cond.codeWith y bytes maxL ret hh :: ws') (hrc : rm.cells = mc) (hrs : rm.slots = ms)
    (hd : y.cls = C ∧ y.cls ≠ "java/lang/invoke/MethodHandle" ∧ y.cls ≠ "java/lang/invoke/VarHandle" ∧ (parseMethodDescriptor y.desc).map (fun d => d.parameters.length) = some n) (hR : rm.frames + 1 ≤ R.frames ∧ 8 + (maxL + 11) + rm.locals ≤ R.locals) :
    vx_CVW R s args own C index y bytes maxL ret hh ws rm mc ms n := by
  obtain ⟨hC, hd⟩ := hd
  subst hC
  have ok : ∀ w ∈ wsV own index y.cls y ws, w.before args s = true := fun w h => ht w (hT w h).1
  have hG : GoodIn Ts ws := fun w h => hT w (by unfold wsV; exact List.mem_append_right _ h)
  have hc : Cond.codeWith y bytes maxL ret hh ∈ ws := by rw [hw]; exact List.mem_cons_self
  refine ⟨⟨hrc, hrs, hR.1, hR.2, pay_in ht hG, hc⟩, ht _ (hG _ hc).1, ok _ (by simp [wsV]), ⟨hd.1, hd.2.1⟩, fun sig h => ?_, ok _ (by simp [wsV]), ok _ (by simp [wsV]), ok _ (by simp [wsV])⟩
  have h2 := hd.2.2
  rw [h] at h2
  exact (Option.some.inj h2).symm
theorem vx_runVW {y : MethodName} {bytes cc : ByteArray} {maxL nL mc ms n index : Nat} {ret : Option FieldType} {hh : List (Nat × Nat × Nat × Nat)} {ws : List Cond} {rm : Room} {Pc : Array Value → State → Prop} {Qc : Array Value → State → Outcome → State → Prop} {free : Addr → Prop} {Ts : List Cond} {own C : String} {b : Addr} {As rest : List Value} {g : JFrame}
    (S : CallFix p m c cc nL s args Ts own) (hM : Met l y ws rm Pc Qc mc ms free) (cw : vx_CVW R s args own C index y bytes maxL ret hh ws rm mc ms n) (hp : PreV s H C b Pc As)
    (hg : g.method = m) (hn : As.length = n) (hsize : g.locals.size = nL) (hstack : g.stack = As.reverse ++ .ref b :: rest) (hW : 2 * g.monitorRoom + (rest.map fun v => v.category).sum ≤ 8) (hdg : decode cc g.pc = .ok (.invokevirtual index, 3)) (hf : cells + mc ≤ R.cells ∧ slots + ms ≤ R.slots) :
    va_Run p l e R s m args below meth c H locs cells slots mc ms g rest (Qc (Value.ref b :: As).toArray) free := by
  obtain ⟨⟨hrc, hrs, hfr, hlo, hws, hcw⟩, hcode, hini, hy, hlen, hl, hin, hse⟩ := cw
  have hK : Back l R p e below s args y 3 8 (PreOf R mc ms Pc) (PostOf Qc mc ms free) := va_backW (hh := hh) (bytes := bytes) (maxL := maxL) (ret := ret) hM hp.1 hrc hrs hfr hlo hws hcw (fun a' U hW => word_at hW (Or.inl (by first | rfl | simp [Cond.onTables, Cond.keeps, Cond.steady])) hini)
  obtain ⟨hx, hb, hml, ho, -⟩ := S
  obtain ⟨-, ⟨cellB, hcB, hoB, hclB⟩, hPc⟩ := hp
  intro T hT X
  obtain ⟨v, vm₁, ⟨U', l2, c2, s2⟩, hW₁, X', ⟨g', mk, t, L, e1, e2, hq, h1, hL, h2, h3⟩, st⟩ := vx_callVW X hx (C := C) (hh := hh) (bytes := bytes) (maxL := maxL) (ret := ret) ho hl hin hse hcode hy hK (by rw [hT]; exact hcB) hoB hclB hg (hsize.trans hml.symm) (argsL := As) (rest := rest) (fun sig h => hn.trans (hlen sig h)) hstack hW (by rw [hb]; exact hdg)
    (fun vm₁ hW₁ => ⟨hf.1, hf.2, hPc (T.setVm vm₁) hT hW₁⟩)
  dsimp only [Pt.U, Pt.locs, Pt.cells, Pt.slots] at X' e1 e2 h1 h2 h3 st
  subst h1; subst h2; subst h3
  exact ⟨v, (T.setVm vm₁).calling g' mk (Value.ref b :: As).toArray, t, U', L, hT, X', hL, e1, e2, hq, st⟩
section
variable {y : MethodName} {bytes cc : ByteArray} {maxL nL mc ms n index : Nat} {ret : Option FieldType} {ws : List Cond} {rm : Room} {Pc : Array Value → State → Prop} {Qc : Array Value → State → Outcome → State → Prop} {XC : String → State → State → Prop} {free : Addr → Prop} {Ts : List Cond} {own C : String} {b : Addr} {As rest : List Value} {g : JFrame}
theorem vx_runVX {hh : List (Nat × Nat × Nat × Nat)} (S : CallFix p m c cc nL s args Ts own) (hM : vx_Met l y ws rm Pc Qc XC mc ms free) (cw : vx_CVW R s args own C index y bytes maxL ret hh ws rm mc ms n) (hp : PreV s H C b Pc As)
    (hg : g.method = m) (hn : As.length = n) (hsize : g.locals.size = nL) (hstack : g.stack = As.reverse ++ .ref b :: rest) (hW : 2 * g.monitorRoom + (rest.map fun v => v.category).sum ≤ 8) (hdg : decode cc g.pc = .ok (.invokevirtual index, 3)) (hf : cells + mc ≤ R.cells ∧ slots + ms ≤ R.slots) :
    vx_Run p l e R s m args below meth c H locs cells slots mc ms g rest (Qc (Value.ref b :: As).toArray) XC free := by
  obtain ⟨⟨hrc, hrs, hfr, hlo, hws, hcw⟩, hcode, hini, hy, hlen, hl, hin, hse⟩ := cw
  have hK : vx_Back l R p e below s args y 3 8 (PreOf R mc ms Pc) (PostOf Qc mc ms free) (vx_Post XC mc ms free) := vx_backW (hh := hh) (bytes := bytes) (maxL := maxL) (ret := ret) hM hp.1 hrc hrs hfr hlo hws hcw (fun a' U hW => word_at hW (Or.inl (by first | rfl | simp [Cond.onTables, Cond.keeps, Cond.steady])) hini)
  obtain ⟨hx, hb, hml, ho, -⟩ := S
  obtain ⟨-, ⟨cellB, hcB, hoB, hclB⟩, hPc⟩ := hp
  intro T hT X
  rcases vx_callVX X hx (C := C) (hh := hh) (bytes := bytes) (maxL := maxL) (ret := ret) ho hl hin hse hcode hy hK (by rw [hT]; exact hcB) hoB hclB hg (hsize.trans hml.symm) (argsL := As) (rest := rest) (fun sig h => hn.trans (hlen sig h)) hstack hW (by rw [hb]; exact hdg)
    (fun vm₁ hW₁ => ⟨hf.1, hf.2, hPc (T.setVm vm₁) hT hW₁⟩) with ⟨v, vm₁, ⟨U', l2, c2, s2⟩, hW₁, X', ⟨g', mk, t, L, e1, e2, hq, h1, hL, h2, h3⟩, st⟩ | ⟨q, vm₁, ⟨U', l2, c2, s2⟩, hW₁, X', ⟨g', mk, t, L, E, ce, e1, e2, hq, hce, hcv, hcl, h1, hL, h2, h3⟩, st⟩
  · dsimp only [Pt.U, Pt.locs, Pt.cells, Pt.slots] at X' e1 e2 h1 h2 h3 st
    subst h1; subst h2; subst h3
    exact Or.inl ⟨v, (T.setVm vm₁).calling g' mk (Value.ref b :: As).toArray, t, U', L, hT, X', hL, e1, e2, hq, st⟩
  · dsimp only [Pt.U, Pt.locs, Pt.cells, Pt.slots] at X' e1 e2 h1 h2 h3 st hcl
    subst h1; subst h2; subst h3
    exact Or.inr ⟨q, (T.setVm vm₁).calling g' mk (Value.ref b :: As).toArray, t, U', L, E, ce, hT, X', hL, e1, e2, hq, hce, hcv, vx_cls hW₁ hcl, st⟩
theorem vx_runSX {hh : List (Nat × Nat × Nat × Nat)} (S : CallFix p m c cc nL s args Ts own) (hM : vx_Met l y ws rm Pc Qc XC mc ms free) (cw : vx_CSW R s args own index y bytes maxL ret hh ws rm mc ms n) (hp : PreS s H Pc As)
    (hg : g.method = m) (hn : As.length = n) (hsize : g.locals.size = nL) (hstack : g.stack = As.reverse ++ rest) (hW : 2 * g.monitorRoom + (rest.map fun v => v.category).sum ≤ 8) (hdg : decode cc g.pc = .ok (.invokestatic index, 3)) (hf : cells + mc ≤ R.cells ∧ slots + ms ≤ R.slots) :
    vx_Run p l e R s m args below meth c H locs cells slots mc ms g rest (Qc As.toArray) XC free := by
  obtain ⟨⟨hrc, hrs, hfr, hlo, hws, hcw⟩, hcode, hini, hy, hlen, hl, hstt⟩ := cw
  have hK : vx_Back l R p e below s args y 3 8 (PreOf R mc ms Pc) (PostOf Qc mc ms free) (vx_Post XC mc ms free) := vx_backW (hh := hh) (bytes := bytes) (maxL := maxL) (ret := ret) hM hp.1 hrc hrs hfr hlo hws hcw (fun a' U hW => word_at hW (Or.inl (by first | rfl | simp [Cond.onTables, Cond.keeps, Cond.steady])) hini)
  obtain ⟨hx, hb, hml, ho, -⟩ := S
  intro T hT X
  rcases vx_callSX X hx (hh := hh) (bytes := bytes) (maxL := maxL) (ret := ret) ho hl hstt hini hcode hy hK hg (hsize.trans hml.symm) (argsL := As) (rest := rest) (fun sig h => hn.trans (hlen sig h)) hstack hW (by rw [hb]; exact hdg)
    (fun vm₁ hW₁ => ⟨hf.1, hf.2, hp.2 (T.setVm vm₁) hT hW₁⟩) with ⟨v, vm₁, ⟨U', l2, c2, s2⟩, hW₁, X', ⟨g', mk, t, L, e1, e2, hq, h1, hL, h2, h3⟩, st⟩ | ⟨q, vm₁, ⟨U', l2, c2, s2⟩, hW₁, X', ⟨g', mk, t, L, E, ce, e1, e2, hq, hce, hcv, hcl, h1, hL, h2, h3⟩, st⟩
  · dsimp only [Pt.U, Pt.locs, Pt.cells, Pt.slots] at X' e1 e2 h1 h2 h3 st
    subst h1; subst h2; subst h3
    exact Or.inl ⟨v, (T.setVm vm₁).calling g' mk As.toArray, t, U', L, hT, X', hL, e1, e2, hq, st⟩
  · dsimp only [Pt.U, Pt.locs, Pt.cells, Pt.slots] at X' e1 e2 h1 h2 h3 st hcl
    subst h1; subst h2; subst h3
    exact Or.inr ⟨q, (T.setVm vm₁).calling g' mk As.toArray, t, U', L, E, ce, hT, X', hL, e1, e2, hq, hce, hcv, vx_cls hW₁ hcl, st⟩
end
end VXH
theorem vx_ofWH {l : Launch} {y : MethodName} {ws ws' : List Cond} {rm : Room} {Pc : Array Value → State → Prop} {Qc : Array Value → State → Outcome → State → Prop} {XC : String → State → State → Prop} {mc ms : Nat} {free : Addr → Prop} {cc : ByteArray} {maxL : Nat} {ret : Option FieldType} {hh : List (Nat × Nat × Nat × Nat)}
    (hy : plainName y.cls = true) (hw : ws = Cond.codeWith y cc maxL ret hh :: ws')
    (body : ∀ p e s m args below meth c s₁, BodyLoose p l y (headSpec ws rm) cc maxL ret e s m args below meth c s₁ → c.maxLocals = maxL → Pc args s →
      W p l e (headSpec ws rm).room s m args below meth c s.heap [] 0 0 (vx_MQ below Qc XC args s mc ms free) (entryFrame m args maxL)) : vx_Met l y ws rm Pc Qc XC mc ms free := by
  refine MetFree.of_bodyS (code := cc) (maxLocals := maxL) (ret := ret) hy ?_ ?_
  · intro args s m h hn
    obtain ⟨m9, meth, c, hn9, h1, h2, h3, h4, -, h5, h6, -⟩ := Cond.codeWith_spec (atoms_spec (ws := ws) h _ (by rw [hw]; exact List.mem_cons_self))
    cases hn.symm.trans hn9
    exact ⟨meth, c, h1, h2, h3, h4, h5, h6⟩
  · intro p e s m args below meth c s₁ B hml hP _
    have hh0 : s₁.heap = s.heap := by rw [B.state]; rfl
    obtain ⟨t, a1, o, b1, b2, b3⟩ := body p e s m args below meth c s₁ B hml hP s₁ hh0 (Stand.of_body B)
    exact ⟨t, o, a1, b1, b2, b3⟩
/-! ===== END ===== -/

/-! ===== BEGIN printed: names, fields, word lists, decode rows ===== -/
end
section
theorem dX1_ofNoJob_0 : decode cX1_ofNoJob 0 = .ok (.aload_n 0, 1) := by decide +kernel
theorem dX1_ofNoJob_1 : decode cX1_ofNoJob 1 = .ok (.getstatic 5, 3) := by decide +kernel
theorem dX1_ofNoJob_4 : decode cX1_ofNoJob 4 = .ok (.if_acmp .ne 8, 3) := by decide +kernel
theorem dX1_ofNoJob_7 : decode cX1_ofNoJob 7 = .ok (.ldc 40, 2) := by decide +kernel
theorem dX1_ofNoJob_9 : decode cX1_ofNoJob 9 = .ok (.goto 4, 3) := by decide +kernel
theorem dX1_ofNoJob_12 : decode cX1_ofNoJob 12 = .ok (.iconst 0, 1) := by decide +kernel
theorem dX1_ofNoJob_13 : decode cX1_ofNoJob 13 = .ok (.ireturn, 1) := by decide +kernel
theorem dX1_with_0 : decode cX1_with 0 = .ok (.iload 4, 2) := by decide +kernel
theorem dX1_with_2 : decode cX1_with 2 = .ok (.aload_n 2, 1) := by decide +kernel
theorem dX1_with_3 : decode cX1_with 3 = .ok (.getfield 41, 3) := by decide +kernel
theorem dX1_with_6 : decode cX1_with 6 = .ok (.iload_n 3, 1) := by decide +kernel
theorem dX1_with_7 : decode cX1_with 7 = .ok (.iaload, 1) := by decide +kernel
theorem dX1_with_8 : decode cX1_with 8 = .ok (.isub, 1) := by decide +kernel
theorem dX1_with_9 : decode cX1_with 9 = .ok (.istore 5, 2) := by decide +kernel
theorem dX1_with_11 : decode cX1_with 11 = .ok (.getstatic 47, 3) := by decide +kernel
theorem dX1_with_14 : decode cX1_with 14 = .ok (.aload_n 0, 1) := by decide +kernel
theorem dX1_with_15 : decode cX1_with 15 = .ok (.invokevirtual 52, 3) := by decide +kernel
theorem dX1_with_18 : decode cX1_with 18 = .ok (.iaload, 1) := by decide +kernel
theorem dX1_with_19 : decode cX1_with 19 = .ok (.tableswitch 70 1 5 #[33, 40, 53, 58, 70], 33) := by decide +kernel
theorem dX1_with_52 : decode cX1_with 52 = .ok (.iload_n 1, 1) := by decide +kernel
theorem dX1_with_53 : decode cX1_with 53 = .ok (.iload 5, 2) := by decide +kernel
theorem dX1_with_55 : decode cX1_with 55 = .ok (.invokestatic 56, 3) := by decide +kernel
theorem dX1_with_58 : decode cX1_with 58 = .ok (.ireturn, 1) := by decide +kernel
theorem dX1_with_59 : decode cX1_with 59 = .ok (.iload 5, 2) := by decide +kernel
theorem dX1_with_61 : decode cX1_with 61 = .ok (.ifCond .le 9, 3) := by decide +kernel
theorem dX1_with_64 : decode cX1_with 64 = .ok (.iload_n 1, 1) := by decide +kernel
theorem dX1_with_65 : decode cX1_with 65 = .ok (.iconst 1, 1) := by decide +kernel
theorem dX1_with_66 : decode cX1_with 66 = .ok (.iadd, 1) := by decide +kernel
theorem dX1_with_67 : decode cX1_with 67 = .ok (.goto 4, 3) := by decide +kernel
theorem dX1_with_70 : decode cX1_with 70 = .ok (.iload_n 1, 1) := by decide +kernel
theorem dX1_with_71 : decode cX1_with 71 = .ok (.ireturn, 1) := by decide +kernel
theorem dX1_with_72 : decode cX1_with 72 = .ok (.iload_n 1, 1) := by decide +kernel
theorem dX1_with_73 : decode cX1_with 73 = .ok (.iload 4, 2) := by decide +kernel
theorem dX1_with_75 : decode cX1_with 75 = .ok (.iadd, 1) := by decide +kernel
theorem dX1_with_76 : decode cX1_with 76 = .ok (.ireturn, 1) := by decide +kernel
theorem dX1_with_77 : decode cX1_with 77 = .ok (.iload_n 1, 1) := by decide +kernel
theorem dX1_with_78 : decode cX1_with 78 = .ok (.aload_n 2, 1) := by decide +kernel
theorem dX1_with_79 : decode cX1_with 79 = .ok (.getfield 62, 3) := by decide +kernel
theorem dX1_with_82 : decode cX1_with 82 = .ok (.iload_n 3, 1) := by decide +kernel
theorem dX1_with_83 : decode cX1_with 83 = .ok (.iaload, 1) := by decide +kernel
theorem dX1_with_84 : decode cX1_with 84 = .ok (.iload 4, 2) := by decide +kernel
theorem dX1_with_86 : decode cX1_with 86 = .ok (.imul, 1) := by decide +kernel
theorem dX1_with_87 : decode cX1_with 87 = .ok (.iadd, 1) := by decide +kernel
theorem dX1_with_88 : decode cX1_with 88 = .ok (.ireturn, 1) := by decide +kernel
theorem dX1_with_89 : decode cX1_with 89 = .ok (.iload_n 1, 1) := by decide +kernel
theorem dX1_with_90 : decode cX1_with 90 = .ok (.aload_n 2, 1) := by decide +kernel
theorem dX1_with_91 : decode cX1_with 91 = .ok (.getfield 62, 3) := by decide +kernel
theorem dX1_with_94 : decode cX1_with 94 = .ok (.iload_n 3, 1) := by decide +kernel
theorem dX1_with_95 : decode cX1_with 95 = .ok (.iaload, 1) := by decide +kernel
theorem dX1_with_96 : decode cX1_with 96 = .ok (.iconst 0, 1) := by decide +kernel
theorem dX1_with_97 : decode cX1_with 97 = .ok (.iload 5, 2) := by decide +kernel
theorem dX1_with_99 : decode cX1_with 99 = .ok (.invokestatic 56, 3) := by decide +kernel
theorem dX1_with_102 : decode cX1_with 102 = .ok (.imul, 1) := by decide +kernel
theorem dX1_with_103 : decode cX1_with 103 = .ok (.iadd, 1) := by decide +kernel
theorem dX1_with_104 : decode cX1_with 104 = .ok (.ireturn, 1) := by decide +kernel
theorem dX2_init_0 : decode cX2_init 0 = .ok (.aload_n 0, 1) := by decide +kernel
theorem dX2_init_1 : decode cX2_init 1 = .ok (.invokespecial 3, 3) := by decide +kernel
theorem dX2_init_4 : decode cX2_init 4 = .ok (.aload_n 0, 1) := by decide +kernel
theorem dX2_init_5 : decode cX2_init 5 = .ok (.bipush 10, 2) := by decide +kernel
theorem dX2_init_7 : decode cX2_init 7 = .ok (.newarray .int, 2) := by decide +kernel
theorem dX2_init_9 : decode cX2_init 9 = .ok (.putfield 9, 3) := by decide +kernel
theorem dX2_init_12 : decode cX2_init 12 = .ok (.aload_n 0, 1) := by decide +kernel
theorem dX2_init_13 : decode cX2_init 13 = .ok (.bipush 10, 2) := by decide +kernel
theorem dX2_init_15 : decode cX2_init 15 = .ok (.newarray .int, 2) := by decide +kernel
theorem dX2_init_17 : decode cX2_init 17 = .ok (.putfield 15, 3) := by decide +kernel
theorem dX2_init_20 : decode cX2_init 20 = .ok (.aload_n 0, 1) := by decide +kernel
theorem dX2_init_21 : decode cX2_init 21 = .ok (.bipush 10, 2) := by decide +kernel
theorem dX2_init_23 : decode cX2_init 23 = .ok (.newarray .int, 2) := by decide +kernel
theorem dX2_init_25 : decode cX2_init 25 = .ok (.putfield 18, 3) := by decide +kernel
theorem dX2_init_28 : decode cX2_init 28 = .ok (.aload_n 0, 1) := by decide +kernel
theorem dX2_init_29 : decode cX2_init 29 = .ok (.bipush 10, 2) := by decide +kernel
theorem dX2_init_31 : decode cX2_init 31 = .ok (.newarray .int, 2) := by decide +kernel
theorem dX2_init_33 : decode cX2_init 33 = .ok (.putfield 21, 3) := by decide +kernel
theorem dX2_init_36 : decode cX2_init 36 = .ok (.aload_n 0, 1) := by decide +kernel
theorem dX2_init_37 : decode cX2_init 37 = .ok (.bipush 10, 2) := by decide +kernel
theorem dX2_init_39 : decode cX2_init 39 = .ok (.newarray .int, 2) := by decide +kernel
theorem dX2_init_41 : decode cX2_init 41 = .ok (.putfield 24, 3) := by decide +kernel
theorem dX2_init_44 : decode cX2_init 44 = .ok (.aload_n 0, 1) := by decide +kernel
theorem dX2_init_45 : decode cX2_init 45 = .ok (.iconst 4, 1) := by decide +kernel
theorem dX2_init_46 : decode cX2_init 46 = .ok (.newarray .int, 2) := by decide +kernel
theorem dX2_init_48 : decode cX2_init 48 = .ok (.putfield 27, 3) := by decide +kernel
theorem dX2_init_51 : decode cX2_init 51 = .ok (.return_, 1) := by decide +kernel
theorem dX2_put_0 : decode cX2_put 0 = .ok (.aload_n 0, 1) := by decide +kernel
theorem dX2_put_1 : decode cX2_put 1 = .ok (.getfield 9, 3) := by decide +kernel
theorem dX2_put_4 : decode cX2_put 4 = .ok (.iload_n 1, 1) := by decide +kernel
theorem dX2_put_5 : decode cX2_put 5 = .ok (.iload_n 2, 1) := by decide +kernel
theorem dX2_put_6 : decode cX2_put 6 = .ok (.iastore, 1) := by decide +kernel
theorem dX2_put_7 : decode cX2_put 7 = .ok (.aload_n 0, 1) := by decide +kernel
theorem dX2_put_8 : decode cX2_put 8 = .ok (.getfield 15, 3) := by decide +kernel
theorem dX2_put_11 : decode cX2_put 11 = .ok (.iload_n 1, 1) := by decide +kernel
theorem dX2_put_12 : decode cX2_put 12 = .ok (.iload_n 3, 1) := by decide +kernel
theorem dX2_put_13 : decode cX2_put 13 = .ok (.iastore, 1) := by decide +kernel
theorem dX2_put_14 : decode cX2_put 14 = .ok (.aload_n 0, 1) := by decide +kernel
theorem dX2_put_15 : decode cX2_put 15 = .ok (.getfield 18, 3) := by decide +kernel
theorem dX2_put_18 : decode cX2_put 18 = .ok (.iload_n 1, 1) := by decide +kernel
theorem dX2_put_19 : decode cX2_put 19 = .ok (.iload 4, 2) := by decide +kernel
theorem dX2_put_21 : decode cX2_put 21 = .ok (.iastore, 1) := by decide +kernel
theorem dX2_put_22 : decode cX2_put 22 = .ok (.aload_n 0, 1) := by decide +kernel
theorem dX2_put_23 : decode cX2_put 23 = .ok (.getfield 21, 3) := by decide +kernel
theorem dX2_put_26 : decode cX2_put 26 = .ok (.iload_n 1, 1) := by decide +kernel
theorem dX2_put_27 : decode cX2_put 27 = .ok (.iload 5, 2) := by decide +kernel
theorem dX2_put_29 : decode cX2_put 29 = .ok (.iastore, 1) := by decide +kernel
theorem dX2_put_30 : decode cX2_put 30 = .ok (.aload_n 0, 1) := by decide +kernel
theorem dX2_put_31 : decode cX2_put 31 = .ok (.getfield 24, 3) := by decide +kernel
theorem dX2_put_34 : decode cX2_put 34 = .ok (.iload_n 1, 1) := by decide +kernel
theorem dX2_put_35 : decode cX2_put 35 = .ok (.iload 6, 2) := by decide +kernel
theorem dX2_put_37 : decode cX2_put 37 = .ok (.iastore, 1) := by decide +kernel
theorem dX2_put_38 : decode cX2_put 38 = .ok (.return_, 1) := by decide +kernel
theorem dX2_remove_0 : decode cX2_remove 0 = .ok (.iload_n 1, 1) := by decide +kernel
theorem dX2_remove_1 : decode cX2_remove 1 = .ok (.iconst 1, 1) := by decide +kernel
theorem dX2_remove_2 : decode cX2_remove 2 = .ok (.iadd, 1) := by decide +kernel
theorem dX2_remove_3 : decode cX2_remove 3 = .ok (.istore_n 2, 1) := by decide +kernel
theorem dX2_remove_4 : decode cX2_remove 4 = .ok (.iload_n 2, 1) := by decide +kernel
theorem dX2_remove_5 : decode cX2_remove 5 = .ok (.aload_n 0, 1) := by decide +kernel
theorem dX2_remove_6 : decode cX2_remove 6 = .ok (.getfield 30, 3) := by decide +kernel
theorem dX2_remove_9 : decode cX2_remove 9 = .ok (.if_icmp .ge 46, 3) := by decide +kernel
theorem dX2_remove_12 : decode cX2_remove 12 = .ok (.aload_n 0, 1) := by decide +kernel
theorem dX2_remove_13 : decode cX2_remove 13 = .ok (.iload_n 2, 1) := by decide +kernel
theorem dX2_remove_14 : decode cX2_remove 14 = .ok (.iconst 1, 1) := by decide +kernel
theorem dX2_remove_15 : decode cX2_remove 15 = .ok (.isub, 1) := by decide +kernel
theorem dX2_remove_16 : decode cX2_remove 16 = .ok (.aload_n 0, 1) := by decide +kernel
theorem dX2_remove_17 : decode cX2_remove 17 = .ok (.getfield 9, 3) := by decide +kernel
theorem dX2_remove_20 : decode cX2_remove 20 = .ok (.iload_n 2, 1) := by decide +kernel
theorem dX2_remove_21 : decode cX2_remove 21 = .ok (.iaload, 1) := by decide +kernel
theorem dX2_remove_22 : decode cX2_remove 22 = .ok (.aload_n 0, 1) := by decide +kernel
theorem dX2_remove_23 : decode cX2_remove 23 = .ok (.getfield 15, 3) := by decide +kernel
theorem dX2_remove_26 : decode cX2_remove 26 = .ok (.iload_n 2, 1) := by decide +kernel
theorem dX2_remove_27 : decode cX2_remove 27 = .ok (.iaload, 1) := by decide +kernel
theorem dX2_remove_28 : decode cX2_remove 28 = .ok (.aload_n 0, 1) := by decide +kernel
theorem dX2_remove_29 : decode cX2_remove 29 = .ok (.getfield 18, 3) := by decide +kernel
theorem dX2_remove_32 : decode cX2_remove 32 = .ok (.iload_n 2, 1) := by decide +kernel
theorem dX2_remove_33 : decode cX2_remove 33 = .ok (.iaload, 1) := by decide +kernel
theorem dX2_remove_34 : decode cX2_remove 34 = .ok (.aload_n 0, 1) := by decide +kernel
theorem dX2_remove_35 : decode cX2_remove 35 = .ok (.getfield 21, 3) := by decide +kernel
theorem dX2_remove_38 : decode cX2_remove 38 = .ok (.iload_n 2, 1) := by decide +kernel
theorem dX2_remove_39 : decode cX2_remove 39 = .ok (.iaload, 1) := by decide +kernel
theorem dX2_remove_40 : decode cX2_remove 40 = .ok (.aload_n 0, 1) := by decide +kernel
theorem dX2_remove_41 : decode cX2_remove 41 = .ok (.getfield 24, 3) := by decide +kernel
theorem dX2_remove_44 : decode cX2_remove 44 = .ok (.iload_n 2, 1) := by decide +kernel
theorem dX2_remove_45 : decode cX2_remove 45 = .ok (.iaload, 1) := by decide +kernel
theorem dX2_remove_46 : decode cX2_remove 46 = .ok (.invokevirtual 34, 3) := by decide +kernel
theorem dX2_remove_49 : decode cX2_remove 49 = .ok (.iinc 2 1, 3) := by decide +kernel
theorem dX2_remove_52 : decode cX2_remove 52 = .ok (.goto (-48), 3) := by decide +kernel
theorem dX2_remove_55 : decode cX2_remove 55 = .ok (.aload_n 0, 1) := by decide +kernel
theorem dX2_remove_56 : decode cX2_remove 56 = .ok (.dup, 1) := by decide +kernel
theorem dX2_remove_57 : decode cX2_remove 57 = .ok (.getfield 30, 3) := by decide +kernel
theorem dX2_remove_60 : decode cX2_remove 60 = .ok (.iconst 1, 1) := by decide +kernel
theorem dX2_remove_61 : decode cX2_remove 61 = .ok (.isub, 1) := by decide +kernel
theorem dX2_remove_62 : decode cX2_remove 62 = .ok (.putfield 30, 3) := by decide +kernel
theorem dX2_remove_65 : decode cX2_remove 65 = .ok (.return_, 1) := by decide +kernel
theorem dX2_all_0 : decode cX2_all 0 = .ok (.iconst 1, 1) := by decide +kernel
theorem dX2_all_1 : decode cX2_all 1 = .ok (.aload_n 0, 1) := by decide +kernel
theorem dX2_all_2 : decode cX2_all 2 = .ok (.getfield 30, 3) := by decide +kernel
theorem dX2_all_5 : decode cX2_all 5 = .ok (.ishl, 1) := by decide +kernel
theorem dX2_all_6 : decode cX2_all 6 = .ok (.iconst 1, 1) := by decide +kernel
theorem dX2_all_7 : decode cX2_all 7 = .ok (.isub, 1) := by decide +kernel
theorem dX2_all_8 : decode cX2_all 8 = .ok (.ireturn, 1) := by decide +kernel
theorem dX2_isIn_0 : decode cX2_isIn 0 = .ok (.iload_n 1, 1) := by decide +kernel
theorem dX2_isIn_1 : decode cX2_isIn 1 = .ok (.iload_n 2, 1) := by decide +kernel
theorem dX2_isIn_2 : decode cX2_isIn 2 = .ok (.ishr, 1) := by decide +kernel
theorem dX2_isIn_3 : decode cX2_isIn 3 = .ok (.iconst 1, 1) := by decide +kernel
theorem dX2_isIn_4 : decode cX2_isIn 4 = .ok (.iand, 1) := by decide +kernel
theorem dX2_isIn_5 : decode cX2_isIn 5 = .ok (.ifCond .eq 7, 3) := by decide +kernel
theorem dX2_isIn_8 : decode cX2_isIn 8 = .ok (.iconst 1, 1) := by decide +kernel
theorem dX2_isIn_9 : decode cX2_isIn 9 = .ok (.goto 4, 3) := by decide +kernel
theorem dX2_isIn_12 : decode cX2_isIn 12 = .ok (.iconst 0, 1) := by decide +kernel
theorem dX2_isIn_13 : decode cX2_isIn 13 = .ok (.ireturn, 1) := by decide +kernel
theorem dX2_lengthOfSet_0 : decode cX2_lengthOfSet 0 = .ok (.iconst 0, 1) := by decide +kernel
theorem dX2_lengthOfSet_1 : decode cX2_lengthOfSet 1 = .ok (.istore_n 2, 1) := by decide +kernel
theorem dX2_lengthOfSet_2 : decode cX2_lengthOfSet 2 = .ok (.iconst 0, 1) := by decide +kernel
theorem dX2_lengthOfSet_3 : decode cX2_lengthOfSet 3 = .ok (.istore_n 3, 1) := by decide +kernel
theorem dX2_lengthOfSet_4 : decode cX2_lengthOfSet 4 = .ok (.iload_n 3, 1) := by decide +kernel
theorem dX2_lengthOfSet_5 : decode cX2_lengthOfSet 5 = .ok (.aload_n 0, 1) := by decide +kernel
theorem dX2_lengthOfSet_6 : decode cX2_lengthOfSet 6 = .ok (.getfield 30, 3) := by decide +kernel
theorem dX2_lengthOfSet_9 : decode cX2_lengthOfSet 9 = .ok (.if_icmp .ge 27, 3) := by decide +kernel
theorem dX2_lengthOfSet_12 : decode cX2_lengthOfSet 12 = .ok (.aload_n 0, 1) := by decide +kernel
theorem dX2_lengthOfSet_13 : decode cX2_lengthOfSet 13 = .ok (.iload_n 1, 1) := by decide +kernel
theorem dX2_lengthOfSet_14 : decode cX2_lengthOfSet 14 = .ok (.iload_n 3, 1) := by decide +kernel
theorem dX2_lengthOfSet_15 : decode cX2_lengthOfSet 15 = .ok (.invokevirtual 38, 3) := by decide +kernel
theorem dX2_lengthOfSet_18 : decode cX2_lengthOfSet 18 = .ok (.ifCond .eq 12, 3) := by decide +kernel
theorem dX2_lengthOfSet_21 : decode cX2_lengthOfSet 21 = .ok (.iload_n 2, 1) := by decide +kernel
theorem dX2_lengthOfSet_22 : decode cX2_lengthOfSet 22 = .ok (.aload_n 0, 1) := by decide +kernel
theorem dX2_lengthOfSet_23 : decode cX2_lengthOfSet 23 = .ok (.getfield 9, 3) := by decide +kernel
theorem dX2_lengthOfSet_26 : decode cX2_lengthOfSet 26 = .ok (.iload_n 3, 1) := by decide +kernel
theorem dX2_lengthOfSet_27 : decode cX2_lengthOfSet 27 = .ok (.iaload, 1) := by decide +kernel
theorem dX2_lengthOfSet_28 : decode cX2_lengthOfSet 28 = .ok (.iadd, 1) := by decide +kernel
theorem dX2_lengthOfSet_29 : decode cX2_lengthOfSet 29 = .ok (.istore_n 2, 1) := by decide +kernel
theorem dX2_lengthOfSet_30 : decode cX2_lengthOfSet 30 = .ok (.iinc 3 1, 3) := by decide +kernel
theorem dX2_lengthOfSet_33 : decode cX2_lengthOfSet 33 = .ok (.goto (-29), 3) := by decide +kernel
theorem dX2_lengthOfSet_36 : decode cX2_lengthOfSet 36 = .ok (.iload_n 2, 1) := by decide +kernel
theorem dX2_lengthOfSet_37 : decode cX2_lengthOfSet 37 = .ok (.ireturn, 1) := by decide +kernel
theorem dX2_setupBehind_0 : decode cX2_setupBehind 0 = .ok (.aload_n 0, 1) := by decide +kernel
theorem dX2_setupBehind_1 : decode cX2_setupBehind 1 = .ok (.getfield 24, 3) := by decide +kernel
theorem dX2_setupBehind_4 : decode cX2_setupBehind 4 = .ok (.iload_n 2, 1) := by decide +kernel
theorem dX2_setupBehind_5 : decode cX2_setupBehind 5 = .ok (.iaload, 1) := by decide +kernel
theorem dX2_setupBehind_6 : decode cX2_setupBehind 6 = .ok (.iload_n 1, 1) := by decide +kernel
theorem dX2_setupBehind_7 : decode cX2_setupBehind 7 = .ok (.if_icmp .ne 7, 3) := by decide +kernel
theorem dX2_setupBehind_10 : decode cX2_setupBehind 10 = .ok (.iconst 0, 1) := by decide +kernel
theorem dX2_setupBehind_11 : decode cX2_setupBehind 11 = .ok (.goto 14, 3) := by decide +kernel
theorem dX2_setupBehind_14 : decode cX2_setupBehind 14 = .ok (.aload_n 0, 1) := by decide +kernel
theorem dX2_setupBehind_15 : decode cX2_setupBehind 15 = .ok (.getfield 27, 3) := by decide +kernel
theorem dX2_setupBehind_18 : decode cX2_setupBehind 18 = .ok (.aload_n 0, 1) := by decide +kernel
theorem dX2_setupBehind_19 : decode cX2_setupBehind 19 = .ok (.getfield 24, 3) := by decide +kernel
theorem dX2_setupBehind_22 : decode cX2_setupBehind 22 = .ok (.iload_n 2, 1) := by decide +kernel
theorem dX2_setupBehind_23 : decode cX2_setupBehind 23 = .ok (.iaload, 1) := by decide +kernel
theorem dX2_setupBehind_24 : decode cX2_setupBehind 24 = .ok (.iaload, 1) := by decide +kernel
theorem dX2_setupBehind_25 : decode cX2_setupBehind 25 = .ok (.ireturn, 1) := by decide +kernel
theorem dX2_fillInOrder_0 : decode cX2_fillInOrder 0 = .ok (.iconst 0, 1) := by decide +kernel
theorem dX2_fillInOrder_1 : decode cX2_fillInOrder 1 = .ok (.istore_n 3, 1) := by decide +kernel
theorem dX2_fillInOrder_2 : decode cX2_fillInOrder 2 = .ok (.iload_n 3, 1) := by decide +kernel
theorem dX2_fillInOrder_3 : decode cX2_fillInOrder 3 = .ok (.aload_n 0, 1) := by decide +kernel
theorem dX2_fillInOrder_4 : decode cX2_fillInOrder 4 = .ok (.getfield 30, 3) := by decide +kernel
theorem dX2_fillInOrder_7 : decode cX2_fillInOrder 7 = .ok (.if_icmp .ge 53, 3) := by decide +kernel
theorem dX2_fillInOrder_10 : decode cX2_fillInOrder 10 = .ok (.iload_n 3, 1) := by decide +kernel
theorem dX2_fillInOrder_11 : decode cX2_fillInOrder 11 = .ok (.istore 4, 2) := by decide +kernel
theorem dX2_fillInOrder_13 : decode cX2_fillInOrder 13 = .ok (.iload 4, 2) := by decide +kernel
theorem dX2_fillInOrder_15 : decode cX2_fillInOrder 15 = .ok (.ifCond .le 34, 3) := by decide +kernel
theorem dX2_fillInOrder_18 : decode cX2_fillInOrder 18 = .ok (.aload_n 2, 1) := by decide +kernel
theorem dX2_fillInOrder_19 : decode cX2_fillInOrder 19 = .ok (.aload_n 0, 1) := by decide +kernel
theorem dX2_fillInOrder_20 : decode cX2_fillInOrder 20 = .ok (.aload_n 1, 1) := by decide +kernel
theorem dX2_fillInOrder_21 : decode cX2_fillInOrder 21 = .ok (.iload 4, 2) := by decide +kernel
theorem dX2_fillInOrder_23 : decode cX2_fillInOrder 23 = .ok (.iconst 1, 1) := by decide +kernel
theorem dX2_fillInOrder_24 : decode cX2_fillInOrder 24 = .ok (.isub, 1) := by decide +kernel
theorem dX2_fillInOrder_25 : decode cX2_fillInOrder 25 = .ok (.iaload, 1) := by decide +kernel
theorem dX2_fillInOrder_26 : decode cX2_fillInOrder 26 = .ok (.iload_n 3, 1) := by decide +kernel
theorem dX2_fillInOrder_27 : decode cX2_fillInOrder 27 = .ok (.invokevirtual 42, 3) := by decide +kernel
theorem dX2_fillInOrder_30 : decode cX2_fillInOrder 30 = .ok (.ifCond .eq 19, 3) := by decide +kernel
theorem dX2_fillInOrder_33 : decode cX2_fillInOrder 33 = .ok (.aload_n 1, 1) := by decide +kernel
theorem dX2_fillInOrder_34 : decode cX2_fillInOrder 34 = .ok (.iload 4, 2) := by decide +kernel
theorem dX2_fillInOrder_36 : decode cX2_fillInOrder 36 = .ok (.aload_n 1, 1) := by decide +kernel
theorem dX2_fillInOrder_37 : decode cX2_fillInOrder 37 = .ok (.iload 4, 2) := by decide +kernel
theorem dX2_fillInOrder_39 : decode cX2_fillInOrder 39 = .ok (.iconst 1, 1) := by decide +kernel
theorem dX2_fillInOrder_40 : decode cX2_fillInOrder 40 = .ok (.isub, 1) := by decide +kernel
theorem dX2_fillInOrder_41 : decode cX2_fillInOrder 41 = .ok (.iaload, 1) := by decide +kernel
theorem dX2_fillInOrder_42 : decode cX2_fillInOrder 42 = .ok (.iastore, 1) := by decide +kernel
theorem dX2_fillInOrder_43 : decode cX2_fillInOrder 43 = .ok (.iinc 4 (-1), 3) := by decide +kernel
theorem dX2_fillInOrder_46 : decode cX2_fillInOrder 46 = .ok (.goto (-33), 3) := by decide +kernel
theorem dX2_fillInOrder_49 : decode cX2_fillInOrder 49 = .ok (.aload_n 1, 1) := by decide +kernel
theorem dX2_fillInOrder_50 : decode cX2_fillInOrder 50 = .ok (.iload 4, 2) := by decide +kernel
theorem dX2_fillInOrder_52 : decode cX2_fillInOrder 52 = .ok (.iload_n 3, 1) := by decide +kernel
theorem dX2_fillInOrder_53 : decode cX2_fillInOrder 53 = .ok (.iastore, 1) := by decide +kernel
theorem dX2_fillInOrder_54 : decode cX2_fillInOrder 54 = .ok (.iinc 3 1, 3) := by decide +kernel
theorem dX2_fillInOrder_57 : decode cX2_fillInOrder 57 = .ok (.goto (-55), 3) := by decide +kernel
theorem dX2_fillInOrder_60 : decode cX2_fillInOrder 60 = .ok (.return_, 1) := by decide +kernel
theorem dX3_putsBehind_0 : decode cX3_putsBehind 0 = .ok (.getstatic 32, 3) := by decide +kernel
theorem dX3_putsBehind_3 : decode cX3_putsBehind 3 = .ok (.aload_n 0, 1) := by decide +kernel
theorem dX3_putsBehind_4 : decode cX3_putsBehind 4 = .ok (.invokevirtual 38, 3) := by decide +kernel
theorem dX3_putsBehind_7 : decode cX3_putsBehind 7 = .ok (.iaload, 1) := by decide +kernel
theorem dX3_putsBehind_8 : decode cX3_putsBehind 8 = .ok (.tableswitch 70 1 3 #[28, 49, 70], 28) := by decide +kernel
theorem dX3_putsBehind_36 : decode cX3_putsBehind 36 = .ok (.aload_n 1, 1) := by decide +kernel
theorem dX3_putsBehind_37 : decode cX3_putsBehind 37 = .ok (.getfield 42, 3) := by decide +kernel
theorem dX3_putsBehind_40 : decode cX3_putsBehind 40 = .ok (.iload_n 2, 1) := by decide +kernel
theorem dX3_putsBehind_41 : decode cX3_putsBehind 41 = .ok (.iaload, 1) := by decide +kernel
theorem dX3_putsBehind_42 : decode cX3_putsBehind 42 = .ok (.aload_n 1, 1) := by decide +kernel
theorem dX3_putsBehind_43 : decode cX3_putsBehind 43 = .ok (.getfield 42, 3) := by decide +kernel
theorem dX3_putsBehind_46 : decode cX3_putsBehind 46 = .ok (.iload_n 3, 1) := by decide +kernel
theorem dX3_putsBehind_47 : decode cX3_putsBehind 47 = .ok (.iaload, 1) := by decide +kernel
theorem dX3_putsBehind_48 : decode cX3_putsBehind 48 = .ok (.if_icmp .le 7, 3) := by decide +kernel
theorem dX3_putsBehind_51 : decode cX3_putsBehind 51 = .ok (.iconst 1, 1) := by decide +kernel
theorem dX3_putsBehind_52 : decode cX3_putsBehind 52 = .ok (.goto 4, 3) := by decide +kernel
theorem dX3_putsBehind_55 : decode cX3_putsBehind 55 = .ok (.iconst 0, 1) := by decide +kernel
theorem dX3_putsBehind_56 : decode cX3_putsBehind 56 = .ok (.ireturn, 1) := by decide +kernel
theorem dX3_putsBehind_57 : decode cX3_putsBehind 57 = .ok (.aload_n 1, 1) := by decide +kernel
theorem dX3_putsBehind_58 : decode cX3_putsBehind 58 = .ok (.getfield 47, 3) := by decide +kernel
theorem dX3_putsBehind_61 : decode cX3_putsBehind 61 = .ok (.iload_n 2, 1) := by decide +kernel
theorem dX3_putsBehind_62 : decode cX3_putsBehind 62 = .ok (.iaload, 1) := by decide +kernel
theorem dX3_putsBehind_63 : decode cX3_putsBehind 63 = .ok (.aload_n 1, 1) := by decide +kernel
theorem dX3_putsBehind_64 : decode cX3_putsBehind 64 = .ok (.getfield 47, 3) := by decide +kernel
theorem dX3_putsBehind_67 : decode cX3_putsBehind 67 = .ok (.iload_n 3, 1) := by decide +kernel
theorem dX3_putsBehind_68 : decode cX3_putsBehind 68 = .ok (.iaload, 1) := by decide +kernel
theorem dX3_putsBehind_69 : decode cX3_putsBehind 69 = .ok (.if_icmp .le 7, 3) := by decide +kernel
theorem dX3_putsBehind_72 : decode cX3_putsBehind 72 = .ok (.iconst 1, 1) := by decide +kernel
theorem dX3_putsBehind_73 : decode cX3_putsBehind 73 = .ok (.goto 4, 3) := by decide +kernel
theorem dX3_putsBehind_76 : decode cX3_putsBehind 76 = .ok (.iconst 0, 1) := by decide +kernel
theorem dX3_putsBehind_77 : decode cX3_putsBehind 77 = .ok (.ireturn, 1) := by decide +kernel
theorem dX3_putsBehind_78 : decode cX3_putsBehind 78 = .ok (.aload_n 1, 1) := by decide +kernel
theorem dX3_putsBehind_79 : decode cX3_putsBehind 79 = .ok (.getfield 50, 3) := by decide +kernel
theorem dX3_putsBehind_82 : decode cX3_putsBehind 82 = .ok (.iload_n 2, 1) := by decide +kernel
theorem dX3_putsBehind_83 : decode cX3_putsBehind 83 = .ok (.iaload, 1) := by decide +kernel
theorem dX3_putsBehind_84 : decode cX3_putsBehind 84 = .ok (.aload_n 1, 1) := by decide +kernel
theorem dX3_putsBehind_85 : decode cX3_putsBehind 85 = .ok (.getfield 53, 3) := by decide +kernel
theorem dX3_putsBehind_88 : decode cX3_putsBehind 88 = .ok (.iload_n 3, 1) := by decide +kernel
theorem dX3_putsBehind_89 : decode cX3_putsBehind 89 = .ok (.iaload, 1) := by decide +kernel
theorem dX3_putsBehind_90 : decode cX3_putsBehind 90 = .ok (.imul, 1) := by decide +kernel
theorem dX3_putsBehind_91 : decode cX3_putsBehind 91 = .ok (.aload_n 1, 1) := by decide +kernel
theorem dX3_putsBehind_92 : decode cX3_putsBehind 92 = .ok (.getfield 50, 3) := by decide +kernel
theorem dX3_putsBehind_95 : decode cX3_putsBehind 95 = .ok (.iload_n 3, 1) := by decide +kernel
theorem dX3_putsBehind_96 : decode cX3_putsBehind 96 = .ok (.iaload, 1) := by decide +kernel
theorem dX3_putsBehind_97 : decode cX3_putsBehind 97 = .ok (.aload_n 1, 1) := by decide +kernel
theorem dX3_putsBehind_98 : decode cX3_putsBehind 98 = .ok (.getfield 53, 3) := by decide +kernel
theorem dX3_putsBehind_101 : decode cX3_putsBehind 101 = .ok (.iload_n 2, 1) := by decide +kernel
theorem dX3_putsBehind_102 : decode cX3_putsBehind 102 = .ok (.iaload, 1) := by decide +kernel
theorem dX3_putsBehind_103 : decode cX3_putsBehind 103 = .ok (.imul, 1) := by decide +kernel
theorem dX3_putsBehind_104 : decode cX3_putsBehind 104 = .ok (.if_icmp .ge 7, 3) := by decide +kernel
theorem dX3_putsBehind_107 : decode cX3_putsBehind 107 = .ok (.iconst 1, 1) := by decide +kernel
theorem dX3_putsBehind_108 : decode cX3_putsBehind 108 = .ok (.goto 4, 3) := by decide +kernel
theorem dX3_putsBehind_111 : decode cX3_putsBehind 111 = .ok (.iconst 0, 1) := by decide +kernel
theorem dX3_putsBehind_112 : decode cX3_putsBehind 112 = .ok (.ireturn, 1) := by decide +kernel
theorem dX4_init_0 : decode cX4_init 0 = .ok (.aload_n 0, 1) := by decide +kernel
theorem dX4_init_1 : decode cX4_init 1 = .ok (.invokespecial 3, 3) := by decide +kernel
theorem dX4_init_4 : decode cX4_init 4 = .ok (.aload_n 0, 1) := by decide +kernel
theorem dX4_init_5 : decode cX4_init 5 = .ok (.bipush 10, 2) := by decide +kernel
theorem dX4_init_7 : decode cX4_init 7 = .ok (.newarray .int, 2) := by decide +kernel
theorem dX4_init_9 : decode cX4_init 9 = .ok (.putfield 9, 3) := by decide +kernel
theorem dX4_init_12 : decode cX4_init 12 = .ok (.aload_n 0, 1) := by decide +kernel
theorem dX4_init_13 : decode cX4_init 13 = .ok (.getstatic 15, 3) := by decide +kernel
theorem dX4_init_16 : decode cX4_init 16 = .ok (.putfield 21, 3) := by decide +kernel
theorem dX4_init_19 : decode cX4_init 19 = .ok (.aload_n 0, 1) := by decide +kernel
theorem dX4_init_20 : decode cX4_init 20 = .ok (.getstatic 24, 3) := by decide +kernel
theorem dX4_init_23 : decode cX4_init 23 = .ok (.putfield 30, 3) := by decide +kernel
theorem dX4_init_26 : decode cX4_init 26 = .ok (.return_, 1) := by decide +kernel
theorem dX4_least_0 : decode cX4_least 0 = .ok (.aload_n 0, 1) := by decide +kernel
theorem dX4_least_1 : decode cX4_least 1 = .ok (.aload_n 2, 1) := by decide +kernel
theorem dX4_least_2 : decode cX4_least 2 = .ok (.putfield 21, 3) := by decide +kernel
theorem dX4_least_5 : decode cX4_least 5 = .ok (.aload_n 0, 1) := by decide +kernel
theorem dX4_least_6 : decode cX4_least 6 = .ok (.aload_n 3, 1) := by decide +kernel
theorem dX4_least_7 : decode cX4_least 7 = .ok (.putfield 30, 3) := by decide +kernel
theorem dX4_least_10 : decode cX4_least 10 = .ok (.aload_n 0, 1) := by decide +kernel
theorem dX4_least_11 : decode cX4_least 11 = .ok (.ldc 33, 2) := by decide +kernel
theorem dX4_least_13 : decode cX4_least 13 = .ok (.putfield 34, 3) := by decide +kernel
theorem dX4_least_16 : decode cX4_least 16 = .ok (.aload_n 1, 1) := by decide +kernel
theorem dX4_least_17 : decode cX4_least 17 = .ok (.aload_n 0, 1) := by decide +kernel
theorem dX4_least_18 : decode cX4_least 18 = .ok (.getfield 9, 3) := by decide +kernel
theorem dX4_least_21 : decode cX4_least 21 = .ok (.getstatic 38, 3) := by decide +kernel
theorem dX4_least_24 : decode cX4_least 24 = .ok (.invokevirtual 44, 3) := by decide +kernel
theorem dX4_least_27 : decode cX4_least 27 = .ok (.aload_n 0, 1) := by decide +kernel
theorem dX4_least_28 : decode cX4_least 28 = .ok (.aload_n 1, 1) := by decide +kernel
theorem dX4_least_29 : decode cX4_least 29 = .ok (.iconst 0, 1) := by decide +kernel
theorem dX4_least_30 : decode cX4_least 30 = .ok (.iconst 4, 1) := by decide +kernel
theorem dX4_least_31 : decode cX4_least 31 = .ok (.iconst 0, 1) := by decide +kernel
theorem dX4_least_32 : decode cX4_least 32 = .ok (.aload_n 3, 1) := by decide +kernel
theorem dX4_least_33 : decode cX4_least 33 = .ok (.invokevirtual 50, 3) := by decide +kernel
theorem dX4_least_36 : decode cX4_least 36 = .ok (.iconst 0, 1) := by decide +kernel
theorem dX4_least_37 : decode cX4_least 37 = .ok (.invokestatic 54, 3) := by decide +kernel
theorem dX4_least_40 : decode cX4_least 40 = .ok (.aload_n 0, 1) := by decide +kernel
theorem dX4_least_41 : decode cX4_least 41 = .ok (.getfield 34, 3) := by decide +kernel
theorem dX4_least_44 : decode cX4_least 44 = .ok (.ireturn, 1) := by decide +kernel
theorem dX4_tryAll_0 : decode cX4_tryAll 0 = .ok (.iload 5, 2) := by decide +kernel
theorem dX4_tryAll_2 : decode cX4_tryAll 2 = .ok (.aload_n 0, 1) := by decide +kernel
theorem dX4_tryAll_3 : decode cX4_tryAll 3 = .ok (.getfield 34, 3) := by decide +kernel
theorem dX4_tryAll_6 : decode cX4_tryAll 6 = .ok (.if_icmp .ge 10, 3) := by decide +kernel
theorem dX4_tryAll_9 : decode cX4_tryAll 9 = .ok (.iload 6, 2) := by decide +kernel
theorem dX4_tryAll_11 : decode cX4_tryAll 11 = .ok (.bipush 7, 2) := by decide +kernel
theorem dX4_tryAll_13 : decode cX4_tryAll 13 = .ok (.if_icmp .le 4, 3) := by decide +kernel
theorem dX4_tryAll_16 : decode cX4_tryAll 16 = .ok (.return_, 1) := by decide +kernel
theorem dX4_tryAll_17 : decode cX4_tryAll 17 = .ok (.iload_n 2, 1) := by decide +kernel
theorem dX4_tryAll_18 : decode cX4_tryAll 18 = .ok (.aload_n 1, 1) := by decide +kernel
theorem dX4_tryAll_19 : decode cX4_tryAll 19 = .ok (.invokevirtual 58, 3) := by decide +kernel
theorem dX4_tryAll_22 : decode cX4_tryAll 22 = .ok (.if_icmp .ne 10, 3) := by decide +kernel
theorem dX4_tryAll_25 : decode cX4_tryAll 25 = .ok (.aload_n 0, 1) := by decide +kernel
theorem dX4_tryAll_26 : decode cX4_tryAll 26 = .ok (.iload 5, 2) := by decide +kernel
theorem dX4_tryAll_28 : decode cX4_tryAll 28 = .ok (.putfield 34, 3) := by decide +kernel
theorem dX4_tryAll_31 : decode cX4_tryAll 31 = .ok (.return_, 1) := by decide +kernel
theorem dX4_tryAll_32 : decode cX4_tryAll 32 = .ok (.iconst 0, 1) := by decide +kernel
theorem dX4_tryAll_33 : decode cX4_tryAll 33 = .ok (.istore 7, 2) := by decide +kernel
theorem dX4_tryAll_35 : decode cX4_tryAll 35 = .ok (.iload 7, 2) := by decide +kernel
theorem dX4_tryAll_37 : decode cX4_tryAll 37 = .ok (.aload_n 1, 1) := by decide +kernel
theorem dX4_tryAll_38 : decode cX4_tryAll 38 = .ok (.getfield 61, 3) := by decide +kernel
theorem dX4_tryAll_41 : decode cX4_tryAll 41 = .ok (.if_icmp .ge 74, 3) := by decide +kernel
theorem dX4_tryAll_44 : decode cX4_tryAll 44 = .ok (.aload_n 1, 1) := by decide +kernel
theorem dX4_tryAll_45 : decode cX4_tryAll 45 = .ok (.iload_n 2, 1) := by decide +kernel
theorem dX4_tryAll_46 : decode cX4_tryAll 46 = .ok (.iload 7, 2) := by decide +kernel
theorem dX4_tryAll_48 : decode cX4_tryAll 48 = .ok (.invokevirtual 64, 3) := by decide +kernel
theorem dX4_tryAll_51 : decode cX4_tryAll 51 = .ok (.ifCond .ne 58, 3) := by decide +kernel
theorem dX4_tryAll_54 : decode cX4_tryAll 54 = .ok (.aload_n 0, 1) := by decide +kernel
theorem dX4_tryAll_55 : decode cX4_tryAll 55 = .ok (.aload_n 1, 1) := by decide +kernel
theorem dX4_tryAll_56 : decode cX4_tryAll 56 = .ok (.iload_n 2, 1) := by decide +kernel
theorem dX4_tryAll_57 : decode cX4_tryAll 57 = .ok (.iload_n 3, 1) := by decide +kernel
theorem dX4_tryAll_58 : decode cX4_tryAll 58 = .ok (.iload 4, 2) := by decide +kernel
theorem dX4_tryAll_60 : decode cX4_tryAll 60 = .ok (.iload 7, 2) := by decide +kernel
theorem dX4_tryAll_62 : decode cX4_tryAll 62 = .ok (.invokevirtual 68, 3) := by decide +kernel
theorem dX4_tryAll_65 : decode cX4_tryAll 65 = .ok (.istore 8, 2) := by decide +kernel
theorem dX4_tryAll_67 : decode cX4_tryAll 67 = .ok (.aload_n 0, 1) := by decide +kernel
theorem dX4_tryAll_68 : decode cX4_tryAll 68 = .ok (.getfield 30, 3) := by decide +kernel
theorem dX4_tryAll_71 : decode cX4_tryAll 71 = .ok (.iload 5, 2) := by decide +kernel
theorem dX4_tryAll_73 : decode cX4_tryAll 73 = .ok (.aload_n 1, 1) := by decide +kernel
theorem dX4_tryAll_74 : decode cX4_tryAll 74 = .ok (.iload 7, 2) := by decide +kernel
theorem dX4_tryAll_76 : decode cX4_tryAll 76 = .ok (.iload 8, 2) := by decide +kernel
theorem dX4_tryAll_78 : decode cX4_tryAll 78 = .ok (.invokevirtual 72, 3) := by decide +kernel
theorem dX4_tryAll_81 : decode cX4_tryAll 81 = .ok (.istore 9, 2) := by decide +kernel
theorem dX4_tryAll_83 : decode cX4_tryAll 83 = .ok (.aload_n 0, 1) := by decide +kernel
theorem dX4_tryAll_84 : decode cX4_tryAll 84 = .ok (.aload_n 1, 1) := by decide +kernel
theorem dX4_tryAll_85 : decode cX4_tryAll 85 = .ok (.iload_n 2, 1) := by decide +kernel
theorem dX4_tryAll_86 : decode cX4_tryAll 86 = .ok (.iconst 1, 1) := by decide +kernel
theorem dX4_tryAll_87 : decode cX4_tryAll 87 = .ok (.iload 7, 2) := by decide +kernel
theorem dX4_tryAll_89 : decode cX4_tryAll 89 = .ok (.ishl, 1) := by decide +kernel
theorem dX4_tryAll_90 : decode cX4_tryAll 90 = .ok (.ior, 1) := by decide +kernel
theorem dX4_tryAll_91 : decode cX4_tryAll 91 = .ok (.aload_n 1, 1) := by decide +kernel
theorem dX4_tryAll_92 : decode cX4_tryAll 92 = .ok (.getfield 76, 3) := by decide +kernel
theorem dX4_tryAll_95 : decode cX4_tryAll 95 = .ok (.iload 7, 2) := by decide +kernel
theorem dX4_tryAll_97 : decode cX4_tryAll 97 = .ok (.iaload, 1) := by decide +kernel
theorem dX4_tryAll_98 : decode cX4_tryAll 98 = .ok (.iload 8, 2) := by decide +kernel
theorem dX4_tryAll_100 : decode cX4_tryAll 100 = .ok (.iload 9, 2) := by decide +kernel
theorem dX4_tryAll_102 : decode cX4_tryAll 102 = .ok (.iload 6, 2) := by decide +kernel
theorem dX4_tryAll_104 : decode cX4_tryAll 104 = .ok (.iconst 1, 1) := by decide +kernel
theorem dX4_tryAll_105 : decode cX4_tryAll 105 = .ok (.iadd, 1) := by decide +kernel
theorem dX4_tryAll_106 : decode cX4_tryAll 106 = .ok (.invokestatic 54, 3) := by decide +kernel
theorem dX4_tryAll_109 : decode cX4_tryAll 109 = .ok (.iinc 7 1, 3) := by decide +kernel
theorem dX4_tryAll_112 : decode cX4_tryAll 112 = .ok (.goto (-77), 3) := by decide +kernel
theorem dX4_tryAll_115 : decode cX4_tryAll 115 = .ok (.return_, 1) := by decide +kernel
theorem dX4_endBehind_0 : decode cX4_endBehind 0 = .ok (.getstatic 79, 3) := by decide +kernel
theorem dX4_endBehind_3 : decode cX4_endBehind 3 = .ok (.aload_n 0, 1) := by decide +kernel
theorem dX4_endBehind_4 : decode cX4_endBehind 4 = .ok (.getfield 21, 3) := by decide +kernel
theorem dX4_endBehind_7 : decode cX4_endBehind 7 = .ok (.invokevirtual 84, 3) := by decide +kernel
theorem dX4_endBehind_10 : decode cX4_endBehind 10 = .ok (.iaload, 1) := by decide +kernel
theorem dX4_endBehind_11 : decode cX4_endBehind 11 = .ok (.tableswitch 55 1 3 #[25, 36, 55], 25) := by decide +kernel
theorem dX4_endBehind_36 : decode cX4_endBehind 36 = .ok (.iload 4, 2) := by decide +kernel
theorem dX4_endBehind_38 : decode cX4_endBehind 38 = .ok (.aload_n 1, 1) := by decide +kernel
theorem dX4_endBehind_39 : decode cX4_endBehind 39 = .ok (.getfield 87, 3) := by decide +kernel
theorem dX4_endBehind_42 : decode cX4_endBehind 42 = .ok (.iload 5, 2) := by decide +kernel
theorem dX4_endBehind_44 : decode cX4_endBehind 44 = .ok (.iaload, 1) := by decide +kernel
theorem dX4_endBehind_45 : decode cX4_endBehind 45 = .ok (.iadd, 1) := by decide +kernel
theorem dX4_endBehind_46 : decode cX4_endBehind 46 = .ok (.ireturn, 1) := by decide +kernel
theorem dX4_endBehind_47 : decode cX4_endBehind 47 = .ok (.iload 4, 2) := by decide +kernel
theorem dX4_endBehind_49 : decode cX4_endBehind 49 = .ok (.aload_n 1, 1) := by decide +kernel
theorem dX4_endBehind_50 : decode cX4_endBehind 50 = .ok (.iload_n 3, 1) := by decide +kernel
theorem dX4_endBehind_51 : decode cX4_endBehind 51 = .ok (.iload 5, 2) := by decide +kernel
theorem dX4_endBehind_53 : decode cX4_endBehind 53 = .ok (.invokevirtual 90, 3) := by decide +kernel
theorem dX4_endBehind_56 : decode cX4_endBehind 56 = .ok (.iadd, 1) := by decide +kernel
theorem dX4_endBehind_57 : decode cX4_endBehind 57 = .ok (.aload_n 1, 1) := by decide +kernel
theorem dX4_endBehind_58 : decode cX4_endBehind 58 = .ok (.getfield 87, 3) := by decide +kernel
theorem dX4_endBehind_61 : decode cX4_endBehind 61 = .ok (.iload 5, 2) := by decide +kernel
theorem dX4_endBehind_63 : decode cX4_endBehind 63 = .ok (.iaload, 1) := by decide +kernel
theorem dX4_endBehind_64 : decode cX4_endBehind 64 = .ok (.iadd, 1) := by decide +kernel
theorem dX4_endBehind_65 : decode cX4_endBehind 65 = .ok (.ireturn, 1) := by decide +kernel
theorem dX4_endBehind_66 : decode cX4_endBehind 66 = .ok (.aload_n 0, 1) := by decide +kernel
theorem dX4_endBehind_67 : decode cX4_endBehind 67 = .ok (.aload_n 1, 1) := by decide +kernel
theorem dX4_endBehind_68 : decode cX4_endBehind 68 = .ok (.iload_n 2, 1) := by decide +kernel
theorem dX4_endBehind_69 : decode cX4_endBehind 69 = .ok (.iload 5, 2) := by decide +kernel
theorem dX4_endBehind_71 : decode cX4_endBehind 71 = .ok (.invokevirtual 94, 3) := by decide +kernel
theorem dX4_endBehind_74 : decode cX4_endBehind 74 = .ok (.ireturn, 1) := by decide +kernel
theorem dX4_endInGaps_0 : decode cX4_endInGaps 0 = .ok (.aload_n 1, 1) := by decide +kernel
theorem dX4_endInGaps_1 : decode cX4_endInGaps 1 = .ok (.getfield 87, 3) := by decide +kernel
theorem dX4_endInGaps_4 : decode cX4_endInGaps 4 = .ok (.iload_n 3, 1) := by decide +kernel
theorem dX4_endInGaps_5 : decode cX4_endInGaps 5 = .ok (.iaload, 1) := by decide +kernel
theorem dX4_endInGaps_6 : decode cX4_endInGaps 6 = .ok (.istore 4, 2) := by decide +kernel
theorem dX4_endInGaps_8 : decode cX4_endInGaps 8 = .ok (.iconst 0, 1) := by decide +kernel
theorem dX4_endInGaps_9 : decode cX4_endInGaps 9 = .ok (.istore 5, 2) := by decide +kernel
theorem dX4_endInGaps_11 : decode cX4_endInGaps 11 = .ok (.iconst 0, 1) := by decide +kernel
theorem dX4_endInGaps_12 : decode cX4_endInGaps 12 = .ok (.istore 6, 2) := by decide +kernel
theorem dX4_endInGaps_14 : decode cX4_endInGaps 14 = .ok (.iload 6, 2) := by decide +kernel
theorem dX4_endInGaps_16 : decode cX4_endInGaps 16 = .ok (.aload_n 1, 1) := by decide +kernel
theorem dX4_endInGaps_17 : decode cX4_endInGaps 17 = .ok (.getfield 61, 3) := by decide +kernel
theorem dX4_endInGaps_20 : decode cX4_endInGaps 20 = .ok (.if_icmp .ge 99, 3) := by decide +kernel
theorem dX4_endInGaps_23 : decode cX4_endInGaps 23 = .ok (.aload_n 0, 1) := by decide +kernel
theorem dX4_endInGaps_24 : decode cX4_endInGaps 24 = .ok (.getfield 9, 3) := by decide +kernel
theorem dX4_endInGaps_27 : decode cX4_endInGaps 27 = .ok (.iload 6, 2) := by decide +kernel
theorem dX4_endInGaps_29 : decode cX4_endInGaps 29 = .ok (.iaload, 1) := by decide +kernel
theorem dX4_endInGaps_30 : decode cX4_endInGaps 30 = .ok (.istore 7, 2) := by decide +kernel
theorem dX4_endInGaps_32 : decode cX4_endInGaps 32 = .ok (.aload_n 1, 1) := by decide +kernel
theorem dX4_endInGaps_33 : decode cX4_endInGaps 33 = .ok (.iload_n 2, 1) := by decide +kernel
theorem dX4_endInGaps_34 : decode cX4_endInGaps 34 = .ok (.iload 7, 2) := by decide +kernel
theorem dX4_endInGaps_36 : decode cX4_endInGaps 36 = .ok (.invokevirtual 64, 3) := by decide +kernel
theorem dX4_endInGaps_39 : decode cX4_endInGaps 39 = .ok (.ifCond .eq 74, 3) := by decide +kernel
theorem dX4_endInGaps_42 : decode cX4_endInGaps 42 = .ok (.iload 5, 2) := by decide +kernel
theorem dX4_endInGaps_44 : decode cX4_endInGaps 44 = .ok (.aload_n 1, 1) := by decide +kernel
theorem dX4_endInGaps_45 : decode cX4_endInGaps 45 = .ok (.getfield 98, 3) := by decide +kernel
theorem dX4_endInGaps_48 : decode cX4_endInGaps 48 = .ok (.iload_n 3, 1) := by decide +kernel
theorem dX4_endInGaps_49 : decode cX4_endInGaps 49 = .ok (.iaload, 1) := by decide +kernel
theorem dX4_endInGaps_50 : decode cX4_endInGaps 50 = .ok (.invokestatic 101, 3) := by decide +kernel
theorem dX4_endInGaps_53 : decode cX4_endInGaps 53 = .ok (.istore 8, 2) := by decide +kernel
theorem dX4_endInGaps_55 : decode cX4_endInGaps 55 = .ok (.iconst 0, 1) := by decide +kernel
theorem dX4_endInGaps_56 : decode cX4_endInGaps 56 = .ok (.aload_n 1, 1) := by decide +kernel
theorem dX4_endInGaps_57 : decode cX4_endInGaps 57 = .ok (.getfield 98, 3) := by decide +kernel
theorem dX4_endInGaps_60 : decode cX4_endInGaps 60 = .ok (.iload 7, 2) := by decide +kernel
theorem dX4_endInGaps_62 : decode cX4_endInGaps 62 = .ok (.iaload, 1) := by decide +kernel
theorem dX4_endInGaps_63 : decode cX4_endInGaps 63 = .ok (.iload 8, 2) := by decide +kernel
theorem dX4_endInGaps_65 : decode cX4_endInGaps 65 = .ok (.isub, 1) := by decide +kernel
theorem dX4_endInGaps_66 : decode cX4_endInGaps 66 = .ok (.invokestatic 101, 3) := by decide +kernel
theorem dX4_endInGaps_69 : decode cX4_endInGaps 69 = .ok (.istore 9, 2) := by decide +kernel
theorem dX4_endInGaps_71 : decode cX4_endInGaps 71 = .ok (.iload 9, 2) := by decide +kernel
theorem dX4_endInGaps_73 : decode cX4_endInGaps 73 = .ok (.iload 4, 2) := by decide +kernel
theorem dX4_endInGaps_75 : decode cX4_endInGaps 75 = .ok (.if_icmp .lt 9, 3) := by decide +kernel
theorem dX4_endInGaps_78 : decode cX4_endInGaps 78 = .ok (.iload 8, 2) := by decide +kernel
theorem dX4_endInGaps_80 : decode cX4_endInGaps 80 = .ok (.iload 4, 2) := by decide +kernel
theorem dX4_endInGaps_82 : decode cX4_endInGaps 82 = .ok (.iadd, 1) := by decide +kernel
theorem dX4_endInGaps_83 : decode cX4_endInGaps 83 = .ok (.ireturn, 1) := by decide +kernel
theorem dX4_endInGaps_84 : decode cX4_endInGaps 84 = .ok (.iload 4, 2) := by decide +kernel
theorem dX4_endInGaps_86 : decode cX4_endInGaps 86 = .ok (.iload 9, 2) := by decide +kernel
theorem dX4_endInGaps_88 : decode cX4_endInGaps 88 = .ok (.isub, 1) := by decide +kernel
theorem dX4_endInGaps_89 : decode cX4_endInGaps 89 = .ok (.istore 4, 2) := by decide +kernel
theorem dX4_endInGaps_91 : decode cX4_endInGaps 91 = .ok (.iload 5, 2) := by decide +kernel
theorem dX4_endInGaps_93 : decode cX4_endInGaps 93 = .ok (.aload_n 1, 1) := by decide +kernel
theorem dX4_endInGaps_94 : decode cX4_endInGaps 94 = .ok (.getfield 98, 3) := by decide +kernel
theorem dX4_endInGaps_97 : decode cX4_endInGaps 97 = .ok (.iload 7, 2) := by decide +kernel
theorem dX4_endInGaps_99 : decode cX4_endInGaps 99 = .ok (.iaload, 1) := by decide +kernel
theorem dX4_endInGaps_100 : decode cX4_endInGaps 100 = .ok (.invokestatic 101, 3) := by decide +kernel
theorem dX4_endInGaps_103 : decode cX4_endInGaps 103 = .ok (.aload_n 1, 1) := by decide +kernel
theorem dX4_endInGaps_104 : decode cX4_endInGaps 104 = .ok (.getfield 87, 3) := by decide +kernel
theorem dX4_endInGaps_107 : decode cX4_endInGaps 107 = .ok (.iload 7, 2) := by decide +kernel
theorem dX4_endInGaps_109 : decode cX4_endInGaps 109 = .ok (.iaload, 1) := by decide +kernel
theorem dX4_endInGaps_110 : decode cX4_endInGaps 110 = .ok (.iadd, 1) := by decide +kernel
theorem dX4_endInGaps_111 : decode cX4_endInGaps 111 = .ok (.istore 5, 2) := by decide +kernel
theorem dX4_endInGaps_113 : decode cX4_endInGaps 113 = .ok (.iinc 6 1, 3) := by decide +kernel
theorem dX4_endInGaps_116 : decode cX4_endInGaps 116 = .ok (.goto (-102), 3) := by decide +kernel
theorem dX4_endInGaps_119 : decode cX4_endInGaps 119 = .ok (.iload 5, 2) := by decide +kernel
theorem dX4_endInGaps_121 : decode cX4_endInGaps 121 = .ok (.aload_n 1, 1) := by decide +kernel
theorem dX4_endInGaps_122 : decode cX4_endInGaps 122 = .ok (.getfield 98, 3) := by decide +kernel
theorem dX4_endInGaps_125 : decode cX4_endInGaps 125 = .ok (.iload_n 3, 1) := by decide +kernel
theorem dX4_endInGaps_126 : decode cX4_endInGaps 126 = .ok (.iaload, 1) := by decide +kernel
theorem dX4_endInGaps_127 : decode cX4_endInGaps 127 = .ok (.invokestatic 101, 3) := by decide +kernel
theorem dX4_endInGaps_130 : decode cX4_endInGaps 130 = .ok (.iload 4, 2) := by decide +kernel
theorem dX4_endInGaps_132 : decode cX4_endInGaps 132 = .ok (.iadd, 1) := by decide +kernel
theorem dX4_endInGaps_133 : decode cX4_endInGaps 133 = .ok (.ireturn, 1) := by decide +kernel
theorem dX5_init_0 : decode cX5_init 0 = .ok (.aload_n 0, 1) := by decide +kernel
theorem dX5_init_1 : decode cX5_init 1 = .ok (.invokespecial 3, 3) := by decide +kernel
theorem dX5_init_4 : decode cX5_init 4 = .ok (.aload_n 0, 1) := by decide +kernel
theorem dX5_init_5 : decode cX5_init 5 = .ok (.bipush 20, 2) := by decide +kernel
theorem dX5_init_7 : decode cX5_init 7 = .ok (.newarray .int, 2) := by decide +kernel
theorem dX5_init_9 : decode cX5_init 9 = .ok (.putfield 9, 3) := by decide +kernel
theorem dX5_init_12 : decode cX5_init 12 = .ok (.aload_n 0, 1) := by decide +kernel
theorem dX5_init_13 : decode cX5_init 13 = .ok (.bipush 20, 2) := by decide +kernel
theorem dX5_init_15 : decode cX5_init 15 = .ok (.newarray .int, 2) := by decide +kernel
theorem dX5_init_17 : decode cX5_init 17 = .ok (.putfield 15, 3) := by decide +kernel
theorem dX5_init_20 : decode cX5_init 20 = .ok (.aload_n 0, 1) := by decide +kernel
theorem dX5_init_21 : decode cX5_init 21 = .ok (.bipush 20, 2) := by decide +kernel
theorem dX5_init_23 : decode cX5_init 23 = .ok (.newarray .int, 2) := by decide +kernel
theorem dX5_init_25 : decode cX5_init 25 = .ok (.putfield 18, 3) := by decide +kernel
theorem dX5_init_28 : decode cX5_init 28 = .ok (.aload_n 0, 1) := by decide +kernel
theorem dX5_init_29 : decode cX5_init 29 = .ok (.bipush 10, 2) := by decide +kernel
theorem dX5_init_31 : decode cX5_init 31 = .ok (.newarray .int, 2) := by decide +kernel
theorem dX5_init_33 : decode cX5_init 33 = .ok (.putfield 21, 3) := by decide +kernel
theorem dX5_init_36 : decode cX5_init 36 = .ok (.return_, 1) := by decide +kernel
theorem dX5_drop_0 : decode cX5_drop 0 = .ok (.aload_n 0, 1) := by decide +kernel
theorem dX5_drop_1 : decode cX5_drop 1 = .ok (.iconst 0, 1) := by decide +kernel
theorem dX5_drop_2 : decode cX5_drop 2 = .ok (.putfield 24, 3) := by decide +kernel
theorem dX5_drop_5 : decode cX5_drop 5 = .ok (.aload_n 0, 1) := by decide +kernel
theorem dX5_drop_6 : decode cX5_drop 6 = .ok (.iconst 0, 1) := by decide +kernel
theorem dX5_drop_7 : decode cX5_drop 7 = .ok (.putfield 28, 3) := by decide +kernel
theorem dX5_drop_10 : decode cX5_drop 10 = .ok (.return_, 1) := by decide +kernel
theorem dX5_begin_0 : decode cX5_begin 0 = .ok (.aload_n 0, 1) := by decide +kernel
theorem dX5_begin_1 : decode cX5_begin 1 = .ok (.iconst 1, 1) := by decide +kernel
theorem dX5_begin_2 : decode cX5_begin 2 = .ok (.putfield 24, 3) := by decide +kernel
theorem dX5_begin_5 : decode cX5_begin 5 = .ok (.aload_n 0, 1) := by decide +kernel
theorem dX5_begin_6 : decode cX5_begin 6 = .ok (.iconst 0, 1) := by decide +kernel
theorem dX5_begin_7 : decode cX5_begin 7 = .ok (.putfield 28, 3) := by decide +kernel
theorem dX5_begin_10 : decode cX5_begin 10 = .ok (.return_, 1) := by decide +kernel
theorem dX5_now_0 : decode cX5_now 0 = .ok (.aload_n 0, 1) := by decide +kernel
theorem dX5_now_1 : decode cX5_now 1 = .ok (.getfield 28, 3) := by decide +kernel
theorem dX5_now_4 : decode cX5_now 4 = .ok (.ifCond .ne 7, 3) := by decide +kernel
theorem dX5_now_7 : decode cX5_now 7 = .ok (.iconst 0, 1) := by decide +kernel
theorem dX5_now_8 : decode cX5_now 8 = .ok (.goto 14, 3) := by decide +kernel
theorem dX5_now_11 : decode cX5_now 11 = .ok (.aload_n 0, 1) := by decide +kernel
theorem dX5_now_12 : decode cX5_now 12 = .ok (.getfield 18, 3) := by decide +kernel
theorem dX5_now_15 : decode cX5_now 15 = .ok (.aload_n 0, 1) := by decide +kernel
theorem dX5_now_16 : decode cX5_now 16 = .ok (.getfield 28, 3) := by decide +kernel
theorem dX5_now_19 : decode cX5_now 19 = .ok (.iconst 1, 1) := by decide +kernel
theorem dX5_now_20 : decode cX5_now 20 = .ok (.isub, 1) := by decide +kernel
theorem dX5_now_21 : decode cX5_now 21 = .ok (.iaload, 1) := by decide +kernel
theorem dX5_now_22 : decode cX5_now 22 = .ok (.ireturn, 1) := by decide +kernel
theorem dX5_addWork_0 : decode cX5_addWork 0 = .ok (.aload_n 0, 1) := by decide +kernel
theorem dX5_addWork_1 : decode cX5_addWork 1 = .ok (.iconst 0, 1) := by decide +kernel
theorem dX5_addWork_2 : decode cX5_addWork 2 = .ok (.iload_n 1, 1) := by decide +kernel
theorem dX5_addWork_3 : decode cX5_addWork 3 = .ok (.iload_n 2, 1) := by decide +kernel
theorem dX5_addWork_4 : decode cX5_addWork 4 = .ok (.invokevirtual 32, 3) := by decide +kernel
theorem dX5_addWork_7 : decode cX5_addWork 7 = .ok (.aload_n 0, 1) := by decide +kernel
theorem dX5_addWork_8 : decode cX5_addWork 8 = .ok (.getfield 21, 3) := by decide +kernel
theorem dX5_addWork_11 : decode cX5_addWork 11 = .ok (.iload_n 1, 1) := by decide +kernel
theorem dX5_addWork_12 : decode cX5_addWork 12 = .ok (.aload_n 0, 1) := by decide +kernel
theorem dX5_addWork_13 : decode cX5_addWork 13 = .ok (.invokevirtual 36, 3) := by decide +kernel
theorem dX5_addWork_16 : decode cX5_addWork 16 = .ok (.iastore, 1) := by decide +kernel
theorem dX5_addWork_17 : decode cX5_addWork 17 = .ok (.return_, 1) := by decide +kernel
theorem dX5_add_0 : decode cX5_add 0 = .ok (.aload_n 0, 1) := by decide +kernel
theorem dX5_add_1 : decode cX5_add 1 = .ok (.invokevirtual 36, 3) := by decide +kernel
theorem dX5_add_4 : decode cX5_add 4 = .ok (.iload_n 3, 1) := by decide +kernel
theorem dX5_add_5 : decode cX5_add 5 = .ok (.iadd, 1) := by decide +kernel
theorem dX5_add_6 : decode cX5_add 6 = .ok (.istore 4, 2) := by decide +kernel
theorem dX5_add_8 : decode cX5_add 8 = .ok (.aload_n 0, 1) := by decide +kernel
theorem dX5_add_9 : decode cX5_add 9 = .ok (.getfield 28, 3) := by decide +kernel
theorem dX5_add_12 : decode cX5_add 12 = .ok (.ifCond .le 37, 3) := by decide +kernel
theorem dX5_add_15 : decode cX5_add 15 = .ok (.aload_n 0, 1) := by decide +kernel
theorem dX5_add_16 : decode cX5_add 16 = .ok (.getfield 9, 3) := by decide +kernel
theorem dX5_add_19 : decode cX5_add 19 = .ok (.aload_n 0, 1) := by decide +kernel
theorem dX5_add_20 : decode cX5_add 20 = .ok (.getfield 28, 3) := by decide +kernel
theorem dX5_add_23 : decode cX5_add 23 = .ok (.iconst 1, 1) := by decide +kernel
theorem dX5_add_24 : decode cX5_add 24 = .ok (.isub, 1) := by decide +kernel
theorem dX5_add_25 : decode cX5_add 25 = .ok (.iaload, 1) := by decide +kernel
theorem dX5_add_26 : decode cX5_add 26 = .ok (.iload_n 1, 1) := by decide +kernel
theorem dX5_add_27 : decode cX5_add 27 = .ok (.if_icmp .ne 22, 3) := by decide +kernel
theorem dX5_add_30 : decode cX5_add 30 = .ok (.aload_n 0, 1) := by decide +kernel
theorem dX5_add_31 : decode cX5_add 31 = .ok (.getfield 15, 3) := by decide +kernel
theorem dX5_add_34 : decode cX5_add 34 = .ok (.aload_n 0, 1) := by decide +kernel
theorem dX5_add_35 : decode cX5_add 35 = .ok (.getfield 28, 3) := by decide +kernel
theorem dX5_add_38 : decode cX5_add 38 = .ok (.iconst 1, 1) := by decide +kernel
theorem dX5_add_39 : decode cX5_add 39 = .ok (.isub, 1) := by decide +kernel
theorem dX5_add_40 : decode cX5_add 40 = .ok (.iaload, 1) := by decide +kernel
theorem dX5_add_41 : decode cX5_add 41 = .ok (.iload_n 2, 1) := by decide +kernel
theorem dX5_add_42 : decode cX5_add 42 = .ok (.if_icmp .ne 7, 3) := by decide +kernel
theorem dX5_add_45 : decode cX5_add 45 = .ok (.iconst 1, 1) := by decide +kernel
theorem dX5_add_46 : decode cX5_add 46 = .ok (.goto 4, 3) := by decide +kernel
theorem dX5_add_49 : decode cX5_add 49 = .ok (.iconst 0, 1) := by decide +kernel
theorem dX5_add_50 : decode cX5_add 50 = .ok (.istore 5, 2) := by decide +kernel
theorem dX5_add_52 : decode cX5_add 52 = .ok (.iload 5, 2) := by decide +kernel
theorem dX5_add_54 : decode cX5_add 54 = .ok (.ifCond .eq 19, 3) := by decide +kernel
theorem dX5_add_57 : decode cX5_add 57 = .ok (.aload_n 0, 1) := by decide +kernel
theorem dX5_add_58 : decode cX5_add 58 = .ok (.getfield 18, 3) := by decide +kernel
theorem dX5_add_61 : decode cX5_add 61 = .ok (.aload_n 0, 1) := by decide +kernel
theorem dX5_add_62 : decode cX5_add 62 = .ok (.getfield 28, 3) := by decide +kernel
theorem dX5_add_65 : decode cX5_add 65 = .ok (.iconst 1, 1) := by decide +kernel
theorem dX5_add_66 : decode cX5_add 66 = .ok (.isub, 1) := by decide +kernel
theorem dX5_add_67 : decode cX5_add 67 = .ok (.iload 4, 2) := by decide +kernel
theorem dX5_add_69 : decode cX5_add 69 = .ok (.iastore, 1) := by decide +kernel
theorem dX5_add_70 : decode cX5_add 70 = .ok (.goto 57, 3) := by decide +kernel
theorem dX5_add_73 : decode cX5_add 73 = .ok (.iload_n 3, 1) := by decide +kernel
theorem dX5_add_74 : decode cX5_add 74 = .ok (.ifCond .le 53, 3) := by decide +kernel
theorem dX5_add_77 : decode cX5_add 77 = .ok (.aload_n 0, 1) := by decide +kernel
theorem dX5_add_78 : decode cX5_add 78 = .ok (.getfield 28, 3) := by decide +kernel
theorem dX5_add_81 : decode cX5_add 81 = .ok (.bipush 20, 2) := by decide +kernel
theorem dX5_add_83 : decode cX5_add 83 = .ok (.if_icmp .ge 44, 3) := by decide +kernel
theorem dX5_add_86 : decode cX5_add 86 = .ok (.aload_n 0, 1) := by decide +kernel
theorem dX5_add_87 : decode cX5_add 87 = .ok (.getfield 9, 3) := by decide +kernel
theorem dX5_add_90 : decode cX5_add 90 = .ok (.aload_n 0, 1) := by decide +kernel
theorem dX5_add_91 : decode cX5_add 91 = .ok (.getfield 28, 3) := by decide +kernel
theorem dX5_add_94 : decode cX5_add 94 = .ok (.iload_n 1, 1) := by decide +kernel
theorem dX5_add_95 : decode cX5_add 95 = .ok (.iastore, 1) := by decide +kernel
theorem dX5_add_96 : decode cX5_add 96 = .ok (.aload_n 0, 1) := by decide +kernel
theorem dX5_add_97 : decode cX5_add 97 = .ok (.getfield 15, 3) := by decide +kernel
theorem dX5_add_100 : decode cX5_add 100 = .ok (.aload_n 0, 1) := by decide +kernel
theorem dX5_add_101 : decode cX5_add 101 = .ok (.getfield 28, 3) := by decide +kernel
theorem dX5_add_104 : decode cX5_add 104 = .ok (.iload_n 2, 1) := by decide +kernel
theorem dX5_add_105 : decode cX5_add 105 = .ok (.iastore, 1) := by decide +kernel
theorem dX5_add_106 : decode cX5_add 106 = .ok (.aload_n 0, 1) := by decide +kernel
theorem dX5_add_107 : decode cX5_add 107 = .ok (.getfield 18, 3) := by decide +kernel
theorem dX5_add_110 : decode cX5_add 110 = .ok (.aload_n 0, 1) := by decide +kernel
theorem dX5_add_111 : decode cX5_add 111 = .ok (.getfield 28, 3) := by decide +kernel
theorem dX5_add_114 : decode cX5_add 114 = .ok (.iload 4, 2) := by decide +kernel
theorem dX5_add_116 : decode cX5_add 116 = .ok (.iastore, 1) := by decide +kernel
theorem dX5_add_117 : decode cX5_add 117 = .ok (.aload_n 0, 1) := by decide +kernel
theorem dX5_add_118 : decode cX5_add 118 = .ok (.dup, 1) := by decide +kernel
theorem dX5_add_119 : decode cX5_add 119 = .ok (.getfield 28, 3) := by decide +kernel
theorem dX5_add_122 : decode cX5_add 122 = .ok (.iconst 1, 1) := by decide +kernel
theorem dX5_add_123 : decode cX5_add 123 = .ok (.iadd, 1) := by decide +kernel
theorem dX5_add_124 : decode cX5_add 124 = .ok (.putfield 28, 3) := by decide +kernel
theorem dX5_add_127 : decode cX5_add 127 = .ok (.return_, 1) := by decide +kernel
theorem dX5_follow_0 : decode cX5_follow 0 = .ok (.aload_n 0, 1) := by decide +kernel
theorem dX5_follow_1 : decode cX5_follow 1 = .ok (.invokevirtual 40, 3) := by decide +kernel
theorem dX5_follow_4 : decode cX5_follow 4 = .ok (.iconst 4, 1) := by decide +kernel
theorem dX5_follow_5 : decode cX5_follow 5 = .ok (.istore 4, 2) := by decide +kernel
theorem dX5_follow_7 : decode cX5_follow 7 = .ok (.iconst 0, 1) := by decide +kernel
theorem dX5_follow_8 : decode cX5_follow 8 = .ok (.istore 5, 2) := by decide +kernel
theorem dX5_follow_10 : decode cX5_follow 10 = .ok (.iload 5, 2) := by decide +kernel
theorem dX5_follow_12 : decode cX5_follow 12 = .ok (.aload_n 1, 1) := by decide +kernel
theorem dX5_follow_13 : decode cX5_follow 13 = .ok (.getfield 43, 3) := by decide +kernel
theorem dX5_follow_16 : decode cX5_follow 16 = .ok (.if_icmp .ge 61, 3) := by decide +kernel
theorem dX5_follow_19 : decode cX5_follow 19 = .ok (.aload_n 2, 1) := by decide +kernel
theorem dX5_follow_20 : decode cX5_follow 20 = .ok (.iload 5, 2) := by decide +kernel
theorem dX5_follow_22 : decode cX5_follow 22 = .ok (.iaload, 1) := by decide +kernel
theorem dX5_follow_23 : decode cX5_follow 23 = .ok (.istore 6, 2) := by decide +kernel
theorem dX5_follow_25 : decode cX5_follow 25 = .ok (.iload_n 3, 1) := by decide +kernel
theorem dX5_follow_26 : decode cX5_follow 26 = .ok (.ifCond .eq 32, 3) := by decide +kernel
theorem dX5_follow_29 : decode cX5_follow 29 = .ok (.aload_n 0, 1) := by decide +kernel
theorem dX5_follow_30 : decode cX5_follow 30 = .ok (.iconst 1, 1) := by decide +kernel
theorem dX5_follow_31 : decode cX5_follow 31 = .ok (.aload_n 1, 1) := by decide +kernel
theorem dX5_follow_32 : decode cX5_follow 32 = .ok (.getfield 46, 3) := by decide +kernel
theorem dX5_follow_35 : decode cX5_follow 35 = .ok (.iload 6, 2) := by decide +kernel
theorem dX5_follow_37 : decode cX5_follow 37 = .ok (.iaload, 1) := by decide +kernel
theorem dX5_follow_38 : decode cX5_follow 38 = .ok (.aload_n 1, 1) := by decide +kernel
theorem dX5_follow_39 : decode cX5_follow 39 = .ok (.iload 4, 2) := by decide +kernel
theorem dX5_follow_41 : decode cX5_follow 41 = .ok (.iload 6, 2) := by decide +kernel
theorem dX5_follow_43 : decode cX5_follow 43 = .ok (.invokevirtual 49, 3) := by decide +kernel
theorem dX5_follow_46 : decode cX5_follow 46 = .ok (.invokevirtual 32, 3) := by decide +kernel
theorem dX5_follow_49 : decode cX5_follow 49 = .ok (.aload_n 1, 1) := by decide +kernel
theorem dX5_follow_50 : decode cX5_follow 50 = .ok (.getfield 46, 3) := by decide +kernel
theorem dX5_follow_53 : decode cX5_follow 53 = .ok (.iload 6, 2) := by decide +kernel
theorem dX5_follow_55 : decode cX5_follow 55 = .ok (.iaload, 1) := by decide +kernel
theorem dX5_follow_56 : decode cX5_follow 56 = .ok (.istore 4, 2) := by decide +kernel
theorem dX5_follow_58 : decode cX5_follow 58 = .ok (.aload_n 0, 1) := by decide +kernel
theorem dX5_follow_59 : decode cX5_follow 59 = .ok (.iload 6, 2) := by decide +kernel
theorem dX5_follow_61 : decode cX5_follow 61 = .ok (.aload_n 1, 1) := by decide +kernel
theorem dX5_follow_62 : decode cX5_follow 62 = .ok (.getfield 53, 3) := by decide +kernel
theorem dX5_follow_65 : decode cX5_follow 65 = .ok (.iload 6, 2) := by decide +kernel
theorem dX5_follow_67 : decode cX5_follow 67 = .ok (.iaload, 1) := by decide +kernel
theorem dX5_follow_68 : decode cX5_follow 68 = .ok (.invokevirtual 56, 3) := by decide +kernel
theorem dX5_follow_71 : decode cX5_follow 71 = .ok (.iinc 5 1, 3) := by decide +kernel
theorem dX5_follow_74 : decode cX5_follow 74 = .ok (.goto (-64), 3) := by decide +kernel
theorem dX5_follow_77 : decode cX5_follow 77 = .ok (.return_, 1) := by decide +kernel
theorem dX5_total_0 : decode cX5_total 0 = .ok (.aload_n 2, 1) := by decide +kernel
theorem dX5_total_1 : decode cX5_total 1 = .ok (.invokevirtual 60, 3) := by decide +kernel
theorem dX5_total_4 : decode cX5_total 4 = .ok (.istore_n 3, 1) := by decide +kernel
theorem dX5_total_5 : decode cX5_total 5 = .ok (.iconst 0, 1) := by decide +kernel
theorem dX5_total_6 : decode cX5_total 6 = .ok (.istore 4, 2) := by decide +kernel
theorem dX5_total_8 : decode cX5_total 8 = .ok (.iload 4, 2) := by decide +kernel
theorem dX5_total_10 : decode cX5_total 10 = .ok (.aload_n 1, 1) := by decide +kernel
theorem dX5_total_11 : decode cX5_total 11 = .ok (.getfield 43, 3) := by decide +kernel
theorem dX5_total_14 : decode cX5_total 14 = .ok (.if_icmp .ge 25, 3) := by decide +kernel
theorem dX5_total_17 : decode cX5_total 17 = .ok (.aload_n 2, 1) := by decide +kernel
theorem dX5_total_18 : decode cX5_total 18 = .ok (.iload_n 3, 1) := by decide +kernel
theorem dX5_total_19 : decode cX5_total 19 = .ok (.aload_n 1, 1) := by decide +kernel
theorem dX5_total_20 : decode cX5_total 20 = .ok (.iload 4, 2) := by decide +kernel
theorem dX5_total_22 : decode cX5_total 22 = .ok (.aload_n 0, 1) := by decide +kernel
theorem dX5_total_23 : decode cX5_total 23 = .ok (.getfield 21, 3) := by decide +kernel
theorem dX5_total_26 : decode cX5_total 26 = .ok (.iload 4, 2) := by decide +kernel
theorem dX5_total_28 : decode cX5_total 28 = .ok (.iaload, 1) := by decide +kernel
theorem dX5_total_29 : decode cX5_total 29 = .ok (.invokevirtual 65, 3) := by decide +kernel
theorem dX5_total_32 : decode cX5_total 32 = .ok (.istore_n 3, 1) := by decide +kernel
theorem dX5_total_33 : decode cX5_total 33 = .ok (.iinc 4 1, 3) := by decide +kernel
theorem dX5_total_36 : decode cX5_total 36 = .ok (.goto (-28), 3) := by decide +kernel
theorem dX5_total_39 : decode cX5_total 39 = .ok (.iload_n 3, 1) := by decide +kernel
theorem dX5_total_40 : decode cX5_total 40 = .ok (.ireturn, 1) := by decide +kernel
theorem dX6_init_0 : decode cX6_init 0 = .ok (.aload_n 0, 1) := by decide +kernel
theorem dX6_init_1 : decode cX6_init 1 = .ok (.invokespecial 3, 3) := by decide +kernel
theorem dX6_init_4 : decode cX6_init 4 = .ok (.aload_n 0, 1) := by decide +kernel
theorem dX6_init_5 : decode cX6_init 5 = .ok (.bipush 10, 2) := by decide +kernel
theorem dX6_init_7 : decode cX6_init 7 = .ok (.newarray .int, 2) := by decide +kernel
theorem dX6_init_9 : decode cX6_init 9 = .ok (.putfield 9, 3) := by decide +kernel
theorem dX6_init_12 : decode cX6_init 12 = .ok (.aload_n 0, 1) := by decide +kernel
theorem dX6_init_13 : decode cX6_init 13 = .ok (.bipush 10, 2) := by decide +kernel
theorem dX6_init_15 : decode cX6_init 15 = .ok (.newarray .int, 2) := by decide +kernel
theorem dX6_init_17 : decode cX6_init 17 = .ok (.putfield 15, 3) := by decide +kernel
theorem dX6_init_20 : decode cX6_init 20 = .ok (.return_, 1) := by decide +kernel
theorem dX6_make_0 : decode cX6_make 0 = .ok (.aload_n 1, 1) := by decide +kernel
theorem dX6_make_1 : decode cX6_make 1 = .ok (.aload_n 0, 1) := by decide +kernel
theorem dX6_make_2 : decode cX6_make 2 = .ok (.getfield 9, 3) := by decide +kernel
theorem dX6_make_5 : decode cX6_make 5 = .ok (.getstatic 18, 3) := by decide +kernel
theorem dX6_make_8 : decode cX6_make 8 = .ok (.invokevirtual 24, 3) := by decide +kernel
theorem dX6_make_11 : decode cX6_make 11 = .ok (.aload_n 1, 1) := by decide +kernel
theorem dX6_make_12 : decode cX6_make 12 = .ok (.getfield 30, 3) := by decide +kernel
theorem dX6_make_15 : decode cX6_make 15 = .ok (.iconst 0, 1) := by decide +kernel
theorem dX6_make_16 : decode cX6_make 16 = .ok (.aload_n 0, 1) := by decide +kernel
theorem dX6_make_17 : decode cX6_make 17 = .ok (.getfield 15, 3) := by decide +kernel
theorem dX6_make_20 : decode cX6_make 20 = .ok (.iconst 0, 1) := by decide +kernel
theorem dX6_make_21 : decode cX6_make 21 = .ok (.bipush 10, 2) := by decide +kernel
theorem dX6_make_23 : decode cX6_make 23 = .ok (.invokestatic 33, 3) := by decide +kernel
theorem dX6_make_26 : decode cX6_make 26 = .ok (.aload_n 2, 1) := by decide +kernel
theorem dX6_make_27 : decode cX6_make 27 = .ok (.invokevirtual 39, 3) := by decide +kernel
theorem dX6_make_30 : decode cX6_make 30 = .ok (.iconst 0, 1) := by decide +kernel
theorem dX6_make_31 : decode cX6_make 31 = .ok (.istore 4, 2) := by decide +kernel
theorem dX6_make_33 : decode cX6_make 33 = .ok (.iload 4, 2) := by decide +kernel
theorem dX6_make_35 : decode cX6_make 35 = .ok (.bipush 20, 2) := by decide +kernel
theorem dX6_make_37 : decode cX6_make 37 = .ok (.if_icmp .ge 110, 3) := by decide +kernel
theorem dX6_make_40 : decode cX6_make 40 = .ok (.aload_n 2, 1) := by decide +kernel
theorem dX6_make_41 : decode cX6_make 41 = .ok (.invokevirtual 44, 3) := by decide +kernel
theorem dX6_make_44 : decode cX6_make 44 = .ok (.istore 5, 2) := by decide +kernel
theorem dX6_make_46 : decode cX6_make 46 = .ok (.iload_n 3, 1) := by decide +kernel
theorem dX6_make_47 : decode cX6_make 47 = .ok (.ifCond .eq 13, 3) := by decide +kernel
theorem dX6_make_50 : decode cX6_make 50 = .ok (.aload_n 0, 1) := by decide +kernel
theorem dX6_make_51 : decode cX6_make 51 = .ok (.aload_n 1, 1) := by decide +kernel
theorem dX6_make_52 : decode cX6_make 52 = .ok (.iload 5, 2) := by decide +kernel
theorem dX6_make_54 : decode cX6_make 54 = .ok (.invokevirtual 48, 3) := by decide +kernel
theorem dX6_make_57 : decode cX6_make 57 = .ok (.goto 10, 3) := by decide +kernel
theorem dX6_make_60 : decode cX6_make 60 = .ok (.aload_n 0, 1) := by decide +kernel
theorem dX6_make_61 : decode cX6_make 61 = .ok (.aload_n 1, 1) := by decide +kernel
theorem dX6_make_62 : decode cX6_make 62 = .ok (.iload 5, 2) := by decide +kernel
theorem dX6_make_64 : decode cX6_make 64 = .ok (.invokevirtual 52, 3) := by decide +kernel
theorem dX6_make_67 : decode cX6_make 67 = .ok (.istore 6, 2) := by decide +kernel
theorem dX6_make_69 : decode cX6_make 69 = .ok (.aload_n 1, 1) := by decide +kernel
theorem dX6_make_70 : decode cX6_make 70 = .ok (.iload 5, 2) := by decide +kernel
theorem dX6_make_72 : decode cX6_make 72 = .ok (.invokestatic 55, 3) := by decide +kernel
theorem dX6_make_75 : decode cX6_make 75 = .ok (.iload 5, 2) := by decide +kernel
theorem dX6_make_77 : decode cX6_make 77 = .ok (.isub, 1) := by decide +kernel
theorem dX6_make_78 : decode cX6_make 78 = .ok (.istore 7, 2) := by decide +kernel
theorem dX6_make_80 : decode cX6_make 80 = .ok (.iload 6, 2) := by decide +kernel
theorem dX6_make_82 : decode cX6_make 82 = .ok (.iconst (-1), 1) := by decide +kernel
theorem dX6_make_83 : decode cX6_make 83 = .ok (.if_icmp .eq 40, 3) := by decide +kernel
theorem dX6_make_86 : decode cX6_make 86 = .ok (.iload 7, 2) := by decide +kernel
theorem dX6_make_88 : decode cX6_make 88 = .ok (.aload_n 0, 1) := by decide +kernel
theorem dX6_make_89 : decode cX6_make 89 = .ok (.getfield 15, 3) := by decide +kernel
theorem dX6_make_92 : decode cX6_make 92 = .ok (.iload 6, 2) := by decide +kernel
theorem dX6_make_94 : decode cX6_make 94 = .ok (.iaload, 1) := by decide +kernel
theorem dX6_make_95 : decode cX6_make 95 = .ok (.invokestatic 58, 3) := by decide +kernel
theorem dX6_make_98 : decode cX6_make 98 = .ok (.istore 8, 2) := by decide +kernel
theorem dX6_make_100 : decode cX6_make 100 = .ok (.aload_n 0, 1) := by decide +kernel
theorem dX6_make_101 : decode cX6_make 101 = .ok (.getfield 15, 3) := by decide +kernel
theorem dX6_make_104 : decode cX6_make 104 = .ok (.iload 6, 2) := by decide +kernel
theorem dX6_make_106 : decode cX6_make 106 = .ok (.dup2, 1) := by decide +kernel
theorem dX6_make_107 : decode cX6_make 107 = .ok (.iaload, 1) := by decide +kernel
theorem dX6_make_108 : decode cX6_make 108 = .ok (.iload 8, 2) := by decide +kernel
theorem dX6_make_110 : decode cX6_make 110 = .ok (.isub, 1) := by decide +kernel
theorem dX6_make_111 : decode cX6_make 111 = .ok (.iastore, 1) := by decide +kernel
theorem dX6_make_112 : decode cX6_make 112 = .ok (.aload_n 2, 1) := by decide +kernel
theorem dX6_make_113 : decode cX6_make 113 = .ok (.iload 6, 2) := by decide +kernel
theorem dX6_make_115 : decode cX6_make 115 = .ok (.iload 8, 2) := by decide +kernel
theorem dX6_make_117 : decode cX6_make 117 = .ok (.invokevirtual 64, 3) := by decide +kernel
theorem dX6_make_120 : decode cX6_make 120 = .ok (.goto 21, 3) := by decide +kernel
theorem dX6_make_123 : decode cX6_make 123 = .ok (.iload 5, 2) := by decide +kernel
theorem dX6_make_125 : decode cX6_make 125 = .ok (.iload 7, 2) := by decide +kernel
theorem dX6_make_127 : decode cX6_make 127 = .ok (.iadd, 1) := by decide +kernel
theorem dX6_make_128 : decode cX6_make 128 = .ok (.ldc 68, 2) := by decide +kernel
theorem dX6_make_130 : decode cX6_make 130 = .ok (.if_icmp .ge 17, 3) := by decide +kernel
theorem dX6_make_133 : decode cX6_make 133 = .ok (.aload_n 2, 1) := by decide +kernel
theorem dX6_make_134 : decode cX6_make 134 = .ok (.iconst 2, 1) := by decide +kernel
theorem dX6_make_135 : decode cX6_make 135 = .ok (.iconst (-1), 1) := by decide +kernel
theorem dX6_make_136 : decode cX6_make 136 = .ok (.iload 7, 2) := by decide +kernel
theorem dX6_make_138 : decode cX6_make 138 = .ok (.invokevirtual 69, 3) := by decide +kernel
theorem dX6_make_141 : decode cX6_make 141 = .ok (.iinc 4 1, 3) := by decide +kernel
theorem dX6_make_144 : decode cX6_make 144 = .ok (.goto (-111), 3) := by decide +kernel
theorem dX6_make_147 : decode cX6_make 147 = .ok (.return_, 1) := by decide +kernel
theorem dX6_isOpen_0 : decode cX6_isOpen 0 = .ok (.aload_n 0, 1) := by decide +kernel
theorem dX6_isOpen_1 : decode cX6_isOpen 1 = .ok (.getfield 15, 3) := by decide +kernel
theorem dX6_isOpen_4 : decode cX6_isOpen 4 = .ok (.iload_n 2, 1) := by decide +kernel
theorem dX6_isOpen_5 : decode cX6_isOpen 5 = .ok (.iaload, 1) := by decide +kernel
theorem dX6_isOpen_6 : decode cX6_isOpen 6 = .ok (.ifCond .le 17, 3) := by decide +kernel
theorem dX6_isOpen_9 : decode cX6_isOpen 9 = .ok (.aload_n 1, 1) := by decide +kernel
theorem dX6_isOpen_10 : decode cX6_isOpen 10 = .ok (.getfield 73, 3) := by decide +kernel
theorem dX6_isOpen_13 : decode cX6_isOpen 13 = .ok (.iload_n 2, 1) := by decide +kernel
theorem dX6_isOpen_14 : decode cX6_isOpen 14 = .ok (.iaload, 1) := by decide +kernel
theorem dX6_isOpen_15 : decode cX6_isOpen 15 = .ok (.iload_n 3, 1) := by decide +kernel
theorem dX6_isOpen_16 : decode cX6_isOpen 16 = .ok (.if_icmp .gt 7, 3) := by decide +kernel
theorem dX6_isOpen_19 : decode cX6_isOpen 19 = .ok (.iconst 1, 1) := by decide +kernel
theorem dX6_isOpen_20 : decode cX6_isOpen 20 = .ok (.goto 4, 3) := by decide +kernel
theorem dX6_isOpen_23 : decode cX6_isOpen 23 = .ok (.iconst 0, 1) := by decide +kernel
theorem dX6_isOpen_24 : decode cX6_isOpen 24 = .ok (.ireturn, 1) := by decide +kernel
theorem dX6_firstByDateAt_0 : decode cX6_firstByDateAt 0 = .ok (.iconst 0, 1) := by decide +kernel
theorem dX6_firstByDateAt_1 : decode cX6_firstByDateAt 1 = .ok (.istore_n 3, 1) := by decide +kernel
theorem dX6_firstByDateAt_2 : decode cX6_firstByDateAt 2 = .ok (.iload_n 3, 1) := by decide +kernel
theorem dX6_firstByDateAt_3 : decode cX6_firstByDateAt 3 = .ok (.aload_n 1, 1) := by decide +kernel
theorem dX6_firstByDateAt_4 : decode cX6_firstByDateAt 4 = .ok (.getfield 76, 3) := by decide +kernel
theorem dX6_firstByDateAt_7 : decode cX6_firstByDateAt 7 = .ok (.if_icmp .ge 31, 3) := by decide +kernel
theorem dX6_firstByDateAt_10 : decode cX6_firstByDateAt 10 = .ok (.aload_n 0, 1) := by decide +kernel
theorem dX6_firstByDateAt_11 : decode cX6_firstByDateAt 11 = .ok (.aload_n 1, 1) := by decide +kernel
theorem dX6_firstByDateAt_12 : decode cX6_firstByDateAt 12 = .ok (.aload_n 0, 1) := by decide +kernel
theorem dX6_firstByDateAt_13 : decode cX6_firstByDateAt 13 = .ok (.getfield 9, 3) := by decide +kernel
theorem dX6_firstByDateAt_16 : decode cX6_firstByDateAt 16 = .ok (.iload_n 3, 1) := by decide +kernel
theorem dX6_firstByDateAt_17 : decode cX6_firstByDateAt 17 = .ok (.iaload, 1) := by decide +kernel
theorem dX6_firstByDateAt_18 : decode cX6_firstByDateAt 18 = .ok (.iload_n 2, 1) := by decide +kernel
theorem dX6_firstByDateAt_19 : decode cX6_firstByDateAt 19 = .ok (.invokevirtual 80, 3) := by decide +kernel
theorem dX6_firstByDateAt_22 : decode cX6_firstByDateAt 22 = .ok (.ifCond .eq 10, 3) := by decide +kernel
theorem dX6_firstByDateAt_25 : decode cX6_firstByDateAt 25 = .ok (.aload_n 0, 1) := by decide +kernel
theorem dX6_firstByDateAt_26 : decode cX6_firstByDateAt 26 = .ok (.getfield 9, 3) := by decide +kernel
theorem dX6_firstByDateAt_29 : decode cX6_firstByDateAt 29 = .ok (.iload_n 3, 1) := by decide +kernel
theorem dX6_firstByDateAt_30 : decode cX6_firstByDateAt 30 = .ok (.iaload, 1) := by decide +kernel
theorem dX6_firstByDateAt_31 : decode cX6_firstByDateAt 31 = .ok (.ireturn, 1) := by decide +kernel
theorem dX6_firstByDateAt_32 : decode cX6_firstByDateAt 32 = .ok (.iinc 3 1, 3) := by decide +kernel
theorem dX6_firstByDateAt_35 : decode cX6_firstByDateAt 35 = .ok (.goto (-33), 3) := by decide +kernel
theorem dX6_firstByDateAt_38 : decode cX6_firstByDateAt 38 = .ok (.iconst (-1), 1) := by decide +kernel
theorem dX6_firstByDateAt_39 : decode cX6_firstByDateAt 39 = .ok (.ireturn, 1) := by decide +kernel
theorem dX6_shortestAt_0 : decode cX6_shortestAt 0 = .ok (.iconst (-1), 1) := by decide +kernel
theorem dX6_shortestAt_1 : decode cX6_shortestAt 1 = .ok (.istore_n 3, 1) := by decide +kernel
theorem dX6_shortestAt_2 : decode cX6_shortestAt 2 = .ok (.ldc 68, 2) := by decide +kernel
theorem dX6_shortestAt_4 : decode cX6_shortestAt 4 = .ok (.istore 4, 2) := by decide +kernel
theorem dX6_shortestAt_6 : decode cX6_shortestAt 6 = .ok (.iconst 0, 1) := by decide +kernel
theorem dX6_shortestAt_7 : decode cX6_shortestAt 7 = .ok (.istore 5, 2) := by decide +kernel
theorem dX6_shortestAt_9 : decode cX6_shortestAt 9 = .ok (.iload 5, 2) := by decide +kernel
theorem dX6_shortestAt_11 : decode cX6_shortestAt 11 = .ok (.aload_n 1, 1) := by decide +kernel
theorem dX6_shortestAt_12 : decode cX6_shortestAt 12 = .ok (.getfield 76, 3) := by decide +kernel
theorem dX6_shortestAt_15 : decode cX6_shortestAt 15 = .ok (.if_icmp .ge 44, 3) := by decide +kernel
theorem dX6_shortestAt_18 : decode cX6_shortestAt 18 = .ok (.aload_n 0, 1) := by decide +kernel
theorem dX6_shortestAt_19 : decode cX6_shortestAt 19 = .ok (.aload_n 1, 1) := by decide +kernel
theorem dX6_shortestAt_20 : decode cX6_shortestAt 20 = .ok (.iload 5, 2) := by decide +kernel
theorem dX6_shortestAt_22 : decode cX6_shortestAt 22 = .ok (.iload_n 2, 1) := by decide +kernel
theorem dX6_shortestAt_23 : decode cX6_shortestAt 23 = .ok (.invokevirtual 80, 3) := by decide +kernel
theorem dX6_shortestAt_26 : decode cX6_shortestAt 26 = .ok (.ifCond .eq 27, 3) := by decide +kernel
theorem dX6_shortestAt_29 : decode cX6_shortestAt 29 = .ok (.aload_n 0, 1) := by decide +kernel
theorem dX6_shortestAt_30 : decode cX6_shortestAt 30 = .ok (.getfield 15, 3) := by decide +kernel
theorem dX6_shortestAt_33 : decode cX6_shortestAt 33 = .ok (.iload 5, 2) := by decide +kernel
theorem dX6_shortestAt_35 : decode cX6_shortestAt 35 = .ok (.iaload, 1) := by decide +kernel
theorem dX6_shortestAt_36 : decode cX6_shortestAt 36 = .ok (.iload 4, 2) := by decide +kernel
theorem dX6_shortestAt_38 : decode cX6_shortestAt 38 = .ok (.if_icmp .ge 15, 3) := by decide +kernel
theorem dX6_shortestAt_41 : decode cX6_shortestAt 41 = .ok (.iload 5, 2) := by decide +kernel
theorem dX6_shortestAt_43 : decode cX6_shortestAt 43 = .ok (.istore_n 3, 1) := by decide +kernel
theorem dX6_shortestAt_44 : decode cX6_shortestAt 44 = .ok (.aload_n 0, 1) := by decide +kernel
theorem dX6_shortestAt_45 : decode cX6_shortestAt 45 = .ok (.getfield 15, 3) := by decide +kernel
theorem dX6_shortestAt_48 : decode cX6_shortestAt 48 = .ok (.iload 5, 2) := by decide +kernel
theorem dX6_shortestAt_50 : decode cX6_shortestAt 50 = .ok (.iaload, 1) := by decide +kernel
theorem dX6_shortestAt_51 : decode cX6_shortestAt 51 = .ok (.istore 4, 2) := by decide +kernel
theorem dX6_shortestAt_53 : decode cX6_shortestAt 53 = .ok (.iinc 5 1, 3) := by decide +kernel
theorem dX6_shortestAt_56 : decode cX6_shortestAt 56 = .ok (.goto (-47), 3) := by decide +kernel
theorem dX6_shortestAt_59 : decode cX6_shortestAt 59 = .ok (.iload_n 3, 1) := by decide +kernel
theorem dX6_shortestAt_60 : decode cX6_shortestAt 60 = .ok (.ireturn, 1) := by decide +kernel
theorem dX6_nextRelease_0 : decode cX6_nextRelease 0 = .ok (.ldc 68, 2) := by decide +kernel
theorem dX6_nextRelease_2 : decode cX6_nextRelease 2 = .ok (.istore_n 2, 1) := by decide +kernel
theorem dX6_nextRelease_3 : decode cX6_nextRelease 3 = .ok (.iconst 0, 1) := by decide +kernel
theorem dX6_nextRelease_4 : decode cX6_nextRelease 4 = .ok (.istore_n 3, 1) := by decide +kernel
theorem dX6_nextRelease_5 : decode cX6_nextRelease 5 = .ok (.iload_n 3, 1) := by decide +kernel
theorem dX6_nextRelease_6 : decode cX6_nextRelease 6 = .ok (.aload_n 0, 1) := by decide +kernel
theorem dX6_nextRelease_7 : decode cX6_nextRelease 7 = .ok (.getfield 76, 3) := by decide +kernel
theorem dX6_nextRelease_10 : decode cX6_nextRelease 10 = .ok (.if_icmp .ge 30, 3) := by decide +kernel
theorem dX6_nextRelease_13 : decode cX6_nextRelease 13 = .ok (.aload_n 0, 1) := by decide +kernel
theorem dX6_nextRelease_14 : decode cX6_nextRelease 14 = .ok (.getfield 73, 3) := by decide +kernel
theorem dX6_nextRelease_17 : decode cX6_nextRelease 17 = .ok (.iload_n 3, 1) := by decide +kernel
theorem dX6_nextRelease_18 : decode cX6_nextRelease 18 = .ok (.iaload, 1) := by decide +kernel
theorem dX6_nextRelease_19 : decode cX6_nextRelease 19 = .ok (.iload_n 1, 1) := by decide +kernel
theorem dX6_nextRelease_20 : decode cX6_nextRelease 20 = .ok (.if_icmp .le 14, 3) := by decide +kernel
theorem dX6_nextRelease_23 : decode cX6_nextRelease 23 = .ok (.iload_n 2, 1) := by decide +kernel
theorem dX6_nextRelease_24 : decode cX6_nextRelease 24 = .ok (.aload_n 0, 1) := by decide +kernel
theorem dX6_nextRelease_25 : decode cX6_nextRelease 25 = .ok (.getfield 73, 3) := by decide +kernel
theorem dX6_nextRelease_28 : decode cX6_nextRelease 28 = .ok (.iload_n 3, 1) := by decide +kernel
theorem dX6_nextRelease_29 : decode cX6_nextRelease 29 = .ok (.iaload, 1) := by decide +kernel
theorem dX6_nextRelease_30 : decode cX6_nextRelease 30 = .ok (.invokestatic 58, 3) := by decide +kernel
theorem dX6_nextRelease_33 : decode cX6_nextRelease 33 = .ok (.istore_n 2, 1) := by decide +kernel
theorem dX6_nextRelease_34 : decode cX6_nextRelease 34 = .ok (.iinc 3 1, 3) := by decide +kernel
theorem dX6_nextRelease_37 : decode cX6_nextRelease 37 = .ok (.goto (-32), 3) := by decide +kernel
theorem dX6_nextRelease_40 : decode cX6_nextRelease 40 = .ok (.iload_n 2, 1) := by decide +kernel
theorem dX6_nextRelease_41 : decode cX6_nextRelease 41 = .ok (.ireturn, 1) := by decide +kernel
theorem dX7_init_0 : decode cX7_init 0 = .ok (.aload_n 0, 1) := by decide +kernel
theorem dX7_init_1 : decode cX7_init 1 = .ok (.invokespecial 3, 3) := by decide +kernel
theorem dX7_init_4 : decode cX7_init 4 = .ok (.aload_n 0, 1) := by decide +kernel
theorem dX7_init_5 : decode cX7_init 5 = .ok (.bipush 10, 2) := by decide +kernel
theorem dX7_init_7 : decode cX7_init 7 = .ok (.newarray .int, 2) := by decide +kernel
theorem dX7_init_9 : decode cX7_init 9 = .ok (.putfield 9, 3) := by decide +kernel
theorem dX7_init_12 : decode cX7_init 12 = .ok (.aload_n 0, 1) := by decide +kernel
theorem dX7_init_13 : decode cX7_init 13 = .ok (.bipush 10, 2) := by decide +kernel
theorem dX7_init_15 : decode cX7_init 15 = .ok (.newarray .int, 2) := by decide +kernel
theorem dX7_init_17 : decode cX7_init 17 = .ok (.putfield 15, 3) := by decide +kernel
theorem dX7_init_20 : decode cX7_init 20 = .ok (.aload_n 0, 1) := by decide +kernel
theorem dX7_init_21 : decode cX7_init 21 = .ok (.bipush 10, 2) := by decide +kernel
theorem dX7_init_23 : decode cX7_init 23 = .ok (.newarray .int, 2) := by decide +kernel
theorem dX7_init_25 : decode cX7_init 25 = .ok (.putfield 18, 3) := by decide +kernel
theorem dX7_init_28 : decode cX7_init 28 = .ok (.aload_n 0, 1) := by decide +kernel
theorem dX7_init_29 : decode cX7_init 29 = .ok (.bipush 10, 2) := by decide +kernel
theorem dX7_init_31 : decode cX7_init 31 = .ok (.newarray .int, 2) := by decide +kernel
theorem dX7_init_33 : decode cX7_init 33 = .ok (.putfield 21, 3) := by decide +kernel
theorem dX7_init_36 : decode cX7_init 36 = .ok (.aload_n 0, 1) := by decide +kernel
theorem dX7_init_37 : decode cX7_init 37 = .ok (.sipush 5120, 3) := by decide +kernel
theorem dX7_init_40 : decode cX7_init 40 = .ok (.newarray .int, 2) := by decide +kernel
theorem dX7_init_42 : decode cX7_init 42 = .ok (.putfield 24, 3) := by decide +kernel
theorem dX7_init_45 : decode cX7_init 45 = .ok (.return_, 1) := by decide +kernel
theorem dX7_orderByDueDates_0 : decode cX7_orderByDueDates 0 = .ok (.aload_n 1, 1) := by decide +kernel
theorem dX7_orderByDueDates_1 : decode cX7_orderByDueDates 1 = .ok (.aload_n 0, 1) := by decide +kernel
theorem dX7_orderByDueDates_2 : decode cX7_orderByDueDates 2 = .ok (.getfield 9, 3) := by decide +kernel
theorem dX7_orderByDueDates_5 : decode cX7_orderByDueDates 5 = .ok (.getstatic 27, 3) := by decide +kernel
theorem dX7_orderByDueDates_8 : decode cX7_orderByDueDates 8 = .ok (.invokevirtual 33, 3) := by decide +kernel
theorem dX7_orderByDueDates_11 : decode cX7_orderByDueDates 11 = .ok (.return_, 1) := by decide +kernel
theorem dX7_orderByRatios_0 : decode cX7_orderByRatios 0 = .ok (.aload_n 1, 1) := by decide +kernel
theorem dX7_orderByRatios_1 : decode cX7_orderByRatios 1 = .ok (.aload_n 0, 1) := by decide +kernel
theorem dX7_orderByRatios_2 : decode cX7_orderByRatios 2 = .ok (.getfield 9, 3) := by decide +kernel
theorem dX7_orderByRatios_5 : decode cX7_orderByRatios 5 = .ok (.getstatic 39, 3) := by decide +kernel
theorem dX7_orderByRatios_8 : decode cX7_orderByRatios 8 = .ok (.invokevirtual 33, 3) := by decide +kernel
theorem dX7_orderByRatios_11 : decode cX7_orderByRatios 11 = .ok (.return_, 1) := by decide +kernel
theorem dX7_orderWithFewestLate_0 : decode cX7_orderWithFewestLate 0 = .ok (.aload_n 1, 1) := by decide +kernel
theorem dX7_orderWithFewestLate_1 : decode cX7_orderWithFewestLate 1 = .ok (.aload_n 0, 1) := by decide +kernel
theorem dX7_orderWithFewestLate_2 : decode cX7_orderWithFewestLate 2 = .ok (.getfield 15, 3) := by decide +kernel
theorem dX7_orderWithFewestLate_5 : decode cX7_orderWithFewestLate 5 = .ok (.getstatic 27, 3) := by decide +kernel
theorem dX7_orderWithFewestLate_8 : decode cX7_orderWithFewestLate 8 = .ok (.invokevirtual 33, 3) := by decide +kernel
theorem dX7_orderWithFewestLate_11 : decode cX7_orderWithFewestLate 11 = .ok (.iconst 0, 1) := by decide +kernel
theorem dX7_orderWithFewestLate_12 : decode cX7_orderWithFewestLate 12 = .ok (.istore_n 2, 1) := by decide +kernel
theorem dX7_orderWithFewestLate_13 : decode cX7_orderWithFewestLate 13 = .ok (.iconst 0, 1) := by decide +kernel
theorem dX7_orderWithFewestLate_14 : decode cX7_orderWithFewestLate 14 = .ok (.istore_n 3, 1) := by decide +kernel
theorem dX7_orderWithFewestLate_15 : decode cX7_orderWithFewestLate 15 = .ok (.iconst 0, 1) := by decide +kernel
theorem dX7_orderWithFewestLate_16 : decode cX7_orderWithFewestLate 16 = .ok (.istore 4, 2) := by decide +kernel
theorem dX7_orderWithFewestLate_18 : decode cX7_orderWithFewestLate 18 = .ok (.iload 4, 2) := by decide +kernel
theorem dX7_orderWithFewestLate_20 : decode cX7_orderWithFewestLate 20 = .ok (.aload_n 1, 1) := by decide +kernel
theorem dX7_orderWithFewestLate_21 : decode cX7_orderWithFewestLate 21 = .ok (.getfield 42, 3) := by decide +kernel
theorem dX7_orderWithFewestLate_24 : decode cX7_orderWithFewestLate 24 = .ok (.if_icmp .ge 67, 3) := by decide +kernel
theorem dX7_orderWithFewestLate_27 : decode cX7_orderWithFewestLate 27 = .ok (.aload_n 0, 1) := by decide +kernel
theorem dX7_orderWithFewestLate_28 : decode cX7_orderWithFewestLate 28 = .ok (.getfield 15, 3) := by decide +kernel
theorem dX7_orderWithFewestLate_31 : decode cX7_orderWithFewestLate 31 = .ok (.iload 4, 2) := by decide +kernel
theorem dX7_orderWithFewestLate_33 : decode cX7_orderWithFewestLate 33 = .ok (.iaload, 1) := by decide +kernel
theorem dX7_orderWithFewestLate_34 : decode cX7_orderWithFewestLate 34 = .ok (.istore 5, 2) := by decide +kernel
theorem dX7_orderWithFewestLate_36 : decode cX7_orderWithFewestLate 36 = .ok (.iload_n 2, 1) := by decide +kernel
theorem dX7_orderWithFewestLate_37 : decode cX7_orderWithFewestLate 37 = .ok (.iconst 1, 1) := by decide +kernel
theorem dX7_orderWithFewestLate_38 : decode cX7_orderWithFewestLate 38 = .ok (.iload 5, 2) := by decide +kernel
theorem dX7_orderWithFewestLate_40 : decode cX7_orderWithFewestLate 40 = .ok (.ishl, 1) := by decide +kernel
theorem dX7_orderWithFewestLate_41 : decode cX7_orderWithFewestLate 41 = .ok (.ior, 1) := by decide +kernel
theorem dX7_orderWithFewestLate_42 : decode cX7_orderWithFewestLate 42 = .ok (.istore_n 2, 1) := by decide +kernel
theorem dX7_orderWithFewestLate_43 : decode cX7_orderWithFewestLate 43 = .ok (.aload_n 1, 1) := by decide +kernel
theorem dX7_orderWithFewestLate_44 : decode cX7_orderWithFewestLate 44 = .ok (.iload_n 2, 1) := by decide +kernel
theorem dX7_orderWithFewestLate_45 : decode cX7_orderWithFewestLate 45 = .ok (.invokevirtual 46, 3) := by decide +kernel
theorem dX7_orderWithFewestLate_48 : decode cX7_orderWithFewestLate 48 = .ok (.aload_n 1, 1) := by decide +kernel
theorem dX7_orderWithFewestLate_49 : decode cX7_orderWithFewestLate 49 = .ok (.getfield 50, 3) := by decide +kernel
theorem dX7_orderWithFewestLate_52 : decode cX7_orderWithFewestLate 52 = .ok (.iload 5, 2) := by decide +kernel
theorem dX7_orderWithFewestLate_54 : decode cX7_orderWithFewestLate 54 = .ok (.iaload, 1) := by decide +kernel
theorem dX7_orderWithFewestLate_55 : decode cX7_orderWithFewestLate 55 = .ok (.if_icmp .le 30, 3) := by decide +kernel
theorem dX7_orderWithFewestLate_58 : decode cX7_orderWithFewestLate 58 = .ok (.aload_n 1, 1) := by decide +kernel
theorem dX7_orderWithFewestLate_59 : decode cX7_orderWithFewestLate 59 = .ok (.iload_n 2, 1) := by decide +kernel
theorem dX7_orderWithFewestLate_60 : decode cX7_orderWithFewestLate 60 = .ok (.invokestatic 53, 3) := by decide +kernel
theorem dX7_orderWithFewestLate_63 : decode cX7_orderWithFewestLate 63 = .ok (.istore 6, 2) := by decide +kernel
theorem dX7_orderWithFewestLate_65 : decode cX7_orderWithFewestLate 65 = .ok (.iload_n 2, 1) := by decide +kernel
theorem dX7_orderWithFewestLate_66 : decode cX7_orderWithFewestLate 66 = .ok (.iconst 1, 1) := by decide +kernel
theorem dX7_orderWithFewestLate_67 : decode cX7_orderWithFewestLate 67 = .ok (.iload 6, 2) := by decide +kernel
theorem dX7_orderWithFewestLate_69 : decode cX7_orderWithFewestLate 69 = .ok (.ishl, 1) := by decide +kernel
theorem dX7_orderWithFewestLate_70 : decode cX7_orderWithFewestLate 70 = .ok (.iconst (-1), 1) := by decide +kernel
theorem dX7_orderWithFewestLate_71 : decode cX7_orderWithFewestLate 71 = .ok (.ixor, 1) := by decide +kernel
theorem dX7_orderWithFewestLate_72 : decode cX7_orderWithFewestLate 72 = .ok (.iand, 1) := by decide +kernel
theorem dX7_orderWithFewestLate_73 : decode cX7_orderWithFewestLate 73 = .ok (.istore_n 2, 1) := by decide +kernel
theorem dX7_orderWithFewestLate_74 : decode cX7_orderWithFewestLate 74 = .ok (.aload_n 0, 1) := by decide +kernel
theorem dX7_orderWithFewestLate_75 : decode cX7_orderWithFewestLate 75 = .ok (.getfield 18, 3) := by decide +kernel
theorem dX7_orderWithFewestLate_78 : decode cX7_orderWithFewestLate 78 = .ok (.iload_n 3, 1) := by decide +kernel
theorem dX7_orderWithFewestLate_79 : decode cX7_orderWithFewestLate 79 = .ok (.iload 6, 2) := by decide +kernel
theorem dX7_orderWithFewestLate_81 : decode cX7_orderWithFewestLate 81 = .ok (.iastore, 1) := by decide +kernel
theorem dX7_orderWithFewestLate_82 : decode cX7_orderWithFewestLate 82 = .ok (.iinc 3 1, 3) := by decide +kernel
theorem dX7_orderWithFewestLate_85 : decode cX7_orderWithFewestLate 85 = .ok (.iinc 4 1, 3) := by decide +kernel
theorem dX7_orderWithFewestLate_88 : decode cX7_orderWithFewestLate 88 = .ok (.goto (-70), 3) := by decide +kernel
theorem dX7_orderWithFewestLate_91 : decode cX7_orderWithFewestLate 91 = .ok (.aload_n 0, 1) := by decide +kernel
theorem dX7_orderWithFewestLate_92 : decode cX7_orderWithFewestLate 92 = .ok (.aload_n 1, 1) := by decide +kernel
theorem dX7_orderWithFewestLate_93 : decode cX7_orderWithFewestLate 93 = .ok (.iload_n 2, 1) := by decide +kernel
theorem dX7_orderWithFewestLate_94 : decode cX7_orderWithFewestLate 94 = .ok (.iload_n 3, 1) := by decide +kernel
theorem dX7_orderWithFewestLate_95 : decode cX7_orderWithFewestLate 95 = .ok (.invokevirtual 57, 3) := by decide +kernel
theorem dX7_orderWithFewestLate_98 : decode cX7_orderWithFewestLate 98 = .ok (.iload_n 3, 1) := by decide +kernel
theorem dX7_orderWithFewestLate_99 : decode cX7_orderWithFewestLate 99 = .ok (.ireturn, 1) := by decide +kernel
theorem dX7_longestOf_0 : decode cX7_longestOf 0 = .ok (.iconst 0, 1) := by decide +kernel
theorem dX7_longestOf_1 : decode cX7_longestOf 1 = .ok (.istore_n 2, 1) := by decide +kernel
theorem dX7_longestOf_2 : decode cX7_longestOf 2 = .ok (.iconst 0, 1) := by decide +kernel
theorem dX7_longestOf_3 : decode cX7_longestOf 3 = .ok (.istore_n 3, 1) := by decide +kernel
theorem dX7_longestOf_4 : decode cX7_longestOf 4 = .ok (.iconst 0, 1) := by decide +kernel
theorem dX7_longestOf_5 : decode cX7_longestOf 5 = .ok (.istore 4, 2) := by decide +kernel
theorem dX7_longestOf_7 : decode cX7_longestOf 7 = .ok (.iload 4, 2) := by decide +kernel
theorem dX7_longestOf_9 : decode cX7_longestOf 9 = .ok (.aload_n 0, 1) := by decide +kernel
theorem dX7_longestOf_10 : decode cX7_longestOf 10 = .ok (.getfield 42, 3) := by decide +kernel
theorem dX7_longestOf_13 : decode cX7_longestOf 13 = .ok (.if_icmp .ge 41, 3) := by decide +kernel
theorem dX7_longestOf_16 : decode cX7_longestOf 16 = .ok (.aload_n 0, 1) := by decide +kernel
theorem dX7_longestOf_17 : decode cX7_longestOf 17 = .ok (.iload_n 1, 1) := by decide +kernel
theorem dX7_longestOf_18 : decode cX7_longestOf 18 = .ok (.iload 4, 2) := by decide +kernel
theorem dX7_longestOf_20 : decode cX7_longestOf 20 = .ok (.invokevirtual 61, 3) := by decide +kernel
theorem dX7_longestOf_23 : decode cX7_longestOf 23 = .ok (.ifCond .eq 25, 3) := by decide +kernel
theorem dX7_longestOf_26 : decode cX7_longestOf 26 = .ok (.aload_n 0, 1) := by decide +kernel
theorem dX7_longestOf_27 : decode cX7_longestOf 27 = .ok (.getfield 65, 3) := by decide +kernel
theorem dX7_longestOf_30 : decode cX7_longestOf 30 = .ok (.iload 4, 2) := by decide +kernel
theorem dX7_longestOf_32 : decode cX7_longestOf 32 = .ok (.iaload, 1) := by decide +kernel
theorem dX7_longestOf_33 : decode cX7_longestOf 33 = .ok (.iload_n 3, 1) := by decide +kernel
theorem dX7_longestOf_34 : decode cX7_longestOf 34 = .ok (.if_icmp .lt 14, 3) := by decide +kernel
theorem dX7_longestOf_37 : decode cX7_longestOf 37 = .ok (.iload 4, 2) := by decide +kernel
theorem dX7_longestOf_39 : decode cX7_longestOf 39 = .ok (.istore_n 2, 1) := by decide +kernel
theorem dX7_longestOf_40 : decode cX7_longestOf 40 = .ok (.aload_n 0, 1) := by decide +kernel
theorem dX7_longestOf_41 : decode cX7_longestOf 41 = .ok (.getfield 65, 3) := by decide +kernel
theorem dX7_longestOf_44 : decode cX7_longestOf 44 = .ok (.iload 4, 2) := by decide +kernel
theorem dX7_longestOf_46 : decode cX7_longestOf 46 = .ok (.iaload, 1) := by decide +kernel
theorem dX7_longestOf_47 : decode cX7_longestOf 47 = .ok (.istore_n 3, 1) := by decide +kernel
theorem dX7_longestOf_48 : decode cX7_longestOf 48 = .ok (.iinc 4 1, 3) := by decide +kernel
theorem dX7_longestOf_51 : decode cX7_longestOf 51 = .ok (.goto (-44), 3) := by decide +kernel
theorem dX7_longestOf_54 : decode cX7_longestOf 54 = .ok (.iload_n 2, 1) := by decide +kernel
theorem dX7_longestOf_55 : decode cX7_longestOf 55 = .ok (.ireturn, 1) := by decide +kernel
theorem dX7_putDroppedBehind_0 : decode cX7_putDroppedBehind 0 = .ok (.iconst 0, 1) := by decide +kernel
theorem dX7_putDroppedBehind_1 : decode cX7_putDroppedBehind 1 = .ok (.istore 4, 2) := by decide +kernel
theorem dX7_putDroppedBehind_3 : decode cX7_putDroppedBehind 3 = .ok (.iconst 0, 1) := by decide +kernel
theorem dX7_putDroppedBehind_4 : decode cX7_putDroppedBehind 4 = .ok (.istore 5, 2) := by decide +kernel
theorem dX7_putDroppedBehind_6 : decode cX7_putDroppedBehind 6 = .ok (.iload 5, 2) := by decide +kernel
theorem dX7_putDroppedBehind_8 : decode cX7_putDroppedBehind 8 = .ok (.aload_n 1, 1) := by decide +kernel
theorem dX7_putDroppedBehind_9 : decode cX7_putDroppedBehind 9 = .ok (.getfield 42, 3) := by decide +kernel
theorem dX7_putDroppedBehind_12 : decode cX7_putDroppedBehind 12 = .ok (.if_icmp .ge 41, 3) := by decide +kernel
theorem dX7_putDroppedBehind_15 : decode cX7_putDroppedBehind 15 = .ok (.aload_n 1, 1) := by decide +kernel
theorem dX7_putDroppedBehind_16 : decode cX7_putDroppedBehind 16 = .ok (.iload_n 2, 1) := by decide +kernel
theorem dX7_putDroppedBehind_17 : decode cX7_putDroppedBehind 17 = .ok (.aload_n 0, 1) := by decide +kernel
theorem dX7_putDroppedBehind_18 : decode cX7_putDroppedBehind 18 = .ok (.getfield 15, 3) := by decide +kernel
theorem dX7_putDroppedBehind_21 : decode cX7_putDroppedBehind 21 = .ok (.iload 5, 2) := by decide +kernel
theorem dX7_putDroppedBehind_23 : decode cX7_putDroppedBehind 23 = .ok (.iaload, 1) := by decide +kernel
theorem dX7_putDroppedBehind_24 : decode cX7_putDroppedBehind 24 = .ok (.invokevirtual 61, 3) := by decide +kernel
theorem dX7_putDroppedBehind_27 : decode cX7_putDroppedBehind 27 = .ok (.ifCond .eq 20, 3) := by decide +kernel
theorem dX7_putDroppedBehind_30 : decode cX7_putDroppedBehind 30 = .ok (.aload_n 0, 1) := by decide +kernel
theorem dX7_putDroppedBehind_31 : decode cX7_putDroppedBehind 31 = .ok (.getfield 9, 3) := by decide +kernel
theorem dX7_putDroppedBehind_34 : decode cX7_putDroppedBehind 34 = .ok (.iload 4, 2) := by decide +kernel
theorem dX7_putDroppedBehind_36 : decode cX7_putDroppedBehind 36 = .ok (.aload_n 0, 1) := by decide +kernel
theorem dX7_putDroppedBehind_37 : decode cX7_putDroppedBehind 37 = .ok (.getfield 15, 3) := by decide +kernel
theorem dX7_putDroppedBehind_40 : decode cX7_putDroppedBehind 40 = .ok (.iload 5, 2) := by decide +kernel
theorem dX7_putDroppedBehind_42 : decode cX7_putDroppedBehind 42 = .ok (.iaload, 1) := by decide +kernel
theorem dX7_putDroppedBehind_43 : decode cX7_putDroppedBehind 43 = .ok (.iastore, 1) := by decide +kernel
theorem dX7_putDroppedBehind_44 : decode cX7_putDroppedBehind 44 = .ok (.iinc 4 1, 3) := by decide +kernel
theorem dX7_putDroppedBehind_47 : decode cX7_putDroppedBehind 47 = .ok (.iinc 5 1, 3) := by decide +kernel
theorem dX7_putDroppedBehind_50 : decode cX7_putDroppedBehind 50 = .ok (.goto (-44), 3) := by decide +kernel
theorem dX7_putDroppedBehind_53 : decode cX7_putDroppedBehind 53 = .ok (.iconst 0, 1) := by decide +kernel
theorem dX7_putDroppedBehind_54 : decode cX7_putDroppedBehind 54 = .ok (.istore 5, 2) := by decide +kernel
theorem dX7_putDroppedBehind_56 : decode cX7_putDroppedBehind 56 = .ok (.iload 5, 2) := by decide +kernel
theorem dX7_putDroppedBehind_58 : decode cX7_putDroppedBehind 58 = .ok (.iload_n 3, 1) := by decide +kernel
theorem dX7_putDroppedBehind_59 : decode cX7_putDroppedBehind 59 = .ok (.if_icmp .ge 26, 3) := by decide +kernel
theorem dX7_putDroppedBehind_62 : decode cX7_putDroppedBehind 62 = .ok (.aload_n 0, 1) := by decide +kernel
theorem dX7_putDroppedBehind_63 : decode cX7_putDroppedBehind 63 = .ok (.getfield 9, 3) := by decide +kernel
theorem dX7_putDroppedBehind_66 : decode cX7_putDroppedBehind 66 = .ok (.iload 4, 2) := by decide +kernel
theorem dX7_putDroppedBehind_68 : decode cX7_putDroppedBehind 68 = .ok (.aload_n 0, 1) := by decide +kernel
theorem dX7_putDroppedBehind_69 : decode cX7_putDroppedBehind 69 = .ok (.getfield 18, 3) := by decide +kernel
theorem dX7_putDroppedBehind_72 : decode cX7_putDroppedBehind 72 = .ok (.iload 5, 2) := by decide +kernel
theorem dX7_putDroppedBehind_74 : decode cX7_putDroppedBehind 74 = .ok (.iaload, 1) := by decide +kernel
theorem dX7_putDroppedBehind_75 : decode cX7_putDroppedBehind 75 = .ok (.iastore, 1) := by decide +kernel
theorem dX7_putDroppedBehind_76 : decode cX7_putDroppedBehind 76 = .ok (.iinc 4 1, 3) := by decide +kernel
theorem dX7_putDroppedBehind_79 : decode cX7_putDroppedBehind 79 = .ok (.iinc 5 1, 3) := by decide +kernel
theorem dX7_putDroppedBehind_82 : decode cX7_putDroppedBehind 82 = .ok (.goto (-26), 3) := by decide +kernel
theorem dX7_putDroppedBehind_85 : decode cX7_putDroppedBehind 85 = .ok (.return_, 1) := by decide +kernel
theorem dX7_orderByTardiness_0 : decode cX7_orderByTardiness 0 = .ok (.aload_n 0, 1) := by decide +kernel
theorem dX7_orderByTardiness_1 : decode cX7_orderByTardiness 1 = .ok (.aload_n 1, 1) := by decide +kernel
theorem dX7_orderByTardiness_2 : decode cX7_orderByTardiness 2 = .ok (.invokevirtual 68, 3) := by decide +kernel
theorem dX7_orderByTardiness_5 : decode cX7_orderByTardiness 5 = .ok (.iconst 0, 1) := by decide +kernel
theorem dX7_orderByTardiness_6 : decode cX7_orderByTardiness 6 = .ok (.istore_n 2, 1) := by decide +kernel
theorem dX7_orderByTardiness_7 : decode cX7_orderByTardiness 7 = .ok (.iconst 0, 1) := by decide +kernel
theorem dX7_orderByTardiness_8 : decode cX7_orderByTardiness 8 = .ok (.istore_n 3, 1) := by decide +kernel
theorem dX7_orderByTardiness_9 : decode cX7_orderByTardiness 9 = .ok (.iload_n 3, 1) := by decide +kernel
theorem dX7_orderByTardiness_10 : decode cX7_orderByTardiness 10 = .ok (.aload_n 1, 1) := by decide +kernel
theorem dX7_orderByTardiness_11 : decode cX7_orderByTardiness 11 = .ok (.getfield 42, 3) := by decide +kernel
theorem dX7_orderByTardiness_14 : decode cX7_orderByTardiness 14 = .ok (.if_icmp .ge 81, 3) := by decide +kernel
theorem dX7_orderByTardiness_17 : decode cX7_orderByTardiness 17 = .ok (.aload_n 1, 1) := by decide +kernel
theorem dX7_orderByTardiness_18 : decode cX7_orderByTardiness 18 = .ok (.iload_n 2, 1) := by decide +kernel
theorem dX7_orderByTardiness_19 : decode cX7_orderByTardiness 19 = .ok (.invokevirtual 46, 3) := by decide +kernel
theorem dX7_orderByTardiness_22 : decode cX7_orderByTardiness 22 = .ok (.istore 4, 2) := by decide +kernel
theorem dX7_orderByTardiness_24 : decode cX7_orderByTardiness 24 = .ok (.iconst 0, 1) := by decide +kernel
theorem dX7_orderByTardiness_25 : decode cX7_orderByTardiness 25 = .ok (.istore 5, 2) := by decide +kernel
theorem dX7_orderByTardiness_27 : decode cX7_orderByTardiness 27 = .ok (.iload 5, 2) := by decide +kernel
theorem dX7_orderByTardiness_29 : decode cX7_orderByTardiness 29 = .ok (.aload_n 1, 1) := by decide +kernel
theorem dX7_orderByTardiness_30 : decode cX7_orderByTardiness 30 = .ok (.getfield 42, 3) := by decide +kernel
theorem dX7_orderByTardiness_33 : decode cX7_orderByTardiness 33 = .ok (.if_icmp .ge 56, 3) := by decide +kernel
theorem dX7_orderByTardiness_36 : decode cX7_orderByTardiness 36 = .ok (.aload_n 1, 1) := by decide +kernel
theorem dX7_orderByTardiness_37 : decode cX7_orderByTardiness 37 = .ok (.iload_n 2, 1) := by decide +kernel
theorem dX7_orderByTardiness_38 : decode cX7_orderByTardiness 38 = .ok (.iload 5, 2) := by decide +kernel
theorem dX7_orderByTardiness_40 : decode cX7_orderByTardiness 40 = .ok (.invokevirtual 61, 3) := by decide +kernel
theorem dX7_orderByTardiness_43 : decode cX7_orderByTardiness 43 = .ok (.ifCond .ne 40, 3) := by decide +kernel
theorem dX7_orderByTardiness_46 : decode cX7_orderByTardiness 46 = .ok (.aload_n 0, 1) := by decide +kernel
theorem dX7_orderByTardiness_47 : decode cX7_orderByTardiness 47 = .ok (.aload_n 1, 1) := by decide +kernel
theorem dX7_orderByTardiness_48 : decode cX7_orderByTardiness 48 = .ok (.iload_n 2, 1) := by decide +kernel
theorem dX7_orderByTardiness_49 : decode cX7_orderByTardiness 49 = .ok (.iload 4, 2) := by decide +kernel
theorem dX7_orderByTardiness_51 : decode cX7_orderByTardiness 51 = .ok (.iload 5, 2) := by decide +kernel
theorem dX7_orderByTardiness_53 : decode cX7_orderByTardiness 53 = .ok (.invokevirtual 72, 3) := by decide +kernel
theorem dX7_orderByTardiness_56 : decode cX7_orderByTardiness 56 = .ok (.aload_n 0, 1) := by decide +kernel
theorem dX7_orderByTardiness_57 : decode cX7_orderByTardiness 57 = .ok (.getfield 24, 3) := by decide +kernel
theorem dX7_orderByTardiness_60 : decode cX7_orderByTardiness 60 = .ok (.iload_n 2, 1) := by decide +kernel
theorem dX7_orderByTardiness_61 : decode cX7_orderByTardiness 61 = .ok (.iaload, 1) := by decide +kernel
theorem dX7_orderByTardiness_62 : decode cX7_orderByTardiness 62 = .ok (.if_icmp .ne 21, 3) := by decide +kernel
theorem dX7_orderByTardiness_65 : decode cX7_orderByTardiness 65 = .ok (.aload_n 0, 1) := by decide +kernel
theorem dX7_orderByTardiness_66 : decode cX7_orderByTardiness 66 = .ok (.getfield 9, 3) := by decide +kernel
theorem dX7_orderByTardiness_69 : decode cX7_orderByTardiness 69 = .ok (.iload_n 3, 1) := by decide +kernel
theorem dX7_orderByTardiness_70 : decode cX7_orderByTardiness 70 = .ok (.iload 5, 2) := by decide +kernel
theorem dX7_orderByTardiness_72 : decode cX7_orderByTardiness 72 = .ok (.iastore, 1) := by decide +kernel
theorem dX7_orderByTardiness_73 : decode cX7_orderByTardiness 73 = .ok (.iload_n 2, 1) := by decide +kernel
theorem dX7_orderByTardiness_74 : decode cX7_orderByTardiness 74 = .ok (.iconst 1, 1) := by decide +kernel
theorem dX7_orderByTardiness_75 : decode cX7_orderByTardiness 75 = .ok (.iload 5, 2) := by decide +kernel
theorem dX7_orderByTardiness_77 : decode cX7_orderByTardiness 77 = .ok (.ishl, 1) := by decide +kernel
theorem dX7_orderByTardiness_78 : decode cX7_orderByTardiness 78 = .ok (.ior, 1) := by decide +kernel
theorem dX7_orderByTardiness_79 : decode cX7_orderByTardiness 79 = .ok (.istore_n 2, 1) := by decide +kernel
theorem dX7_orderByTardiness_80 : decode cX7_orderByTardiness 80 = .ok (.goto 9, 3) := by decide +kernel
theorem dX7_orderByTardiness_83 : decode cX7_orderByTardiness 83 = .ok (.iinc 5 1, 3) := by decide +kernel
theorem dX7_orderByTardiness_86 : decode cX7_orderByTardiness 86 = .ok (.goto (-59), 3) := by decide +kernel
theorem dX7_orderByTardiness_89 : decode cX7_orderByTardiness 89 = .ok (.iinc 3 1, 3) := by decide +kernel
theorem dX7_orderByTardiness_92 : decode cX7_orderByTardiness 92 = .ok (.goto (-83), 3) := by decide +kernel
theorem dX7_orderByTardiness_95 : decode cX7_orderByTardiness 95 = .ok (.return_, 1) := by decide +kernel
theorem dX7_fillLeastTardiness_0 : decode cX7_fillLeastTardiness 0 = .ok (.aload_n 0, 1) := by decide +kernel
theorem dX7_fillLeastTardiness_1 : decode cX7_fillLeastTardiness 1 = .ok (.getfield 24, 3) := by decide +kernel
theorem dX7_fillLeastTardiness_4 : decode cX7_fillLeastTardiness 4 = .ok (.aload_n 1, 1) := by decide +kernel
theorem dX7_fillLeastTardiness_5 : decode cX7_fillLeastTardiness 5 = .ok (.invokevirtual 76, 3) := by decide +kernel
theorem dX7_fillLeastTardiness_8 : decode cX7_fillLeastTardiness 8 = .ok (.iconst 0, 1) := by decide +kernel
theorem dX7_fillLeastTardiness_9 : decode cX7_fillLeastTardiness 9 = .ok (.iastore, 1) := by decide +kernel
theorem dX7_fillLeastTardiness_10 : decode cX7_fillLeastTardiness 10 = .ok (.aload_n 1, 1) := by decide +kernel
theorem dX7_fillLeastTardiness_11 : decode cX7_fillLeastTardiness 11 = .ok (.invokevirtual 76, 3) := by decide +kernel
theorem dX7_fillLeastTardiness_14 : decode cX7_fillLeastTardiness 14 = .ok (.iconst 1, 1) := by decide +kernel
theorem dX7_fillLeastTardiness_15 : decode cX7_fillLeastTardiness 15 = .ok (.isub, 1) := by decide +kernel
theorem dX7_fillLeastTardiness_16 : decode cX7_fillLeastTardiness 16 = .ok (.istore_n 2, 1) := by decide +kernel
theorem dX7_fillLeastTardiness_17 : decode cX7_fillLeastTardiness 17 = .ok (.iload_n 2, 1) := by decide +kernel
theorem dX7_fillLeastTardiness_18 : decode cX7_fillLeastTardiness 18 = .ok (.ifCond .lt 75, 3) := by decide +kernel
theorem dX7_fillLeastTardiness_21 : decode cX7_fillLeastTardiness 21 = .ok (.aload_n 1, 1) := by decide +kernel
theorem dX7_fillLeastTardiness_22 : decode cX7_fillLeastTardiness 22 = .ok (.iload_n 2, 1) := by decide +kernel
theorem dX7_fillLeastTardiness_23 : decode cX7_fillLeastTardiness 23 = .ok (.invokevirtual 46, 3) := by decide +kernel
theorem dX7_fillLeastTardiness_26 : decode cX7_fillLeastTardiness 26 = .ok (.istore_n 3, 1) := by decide +kernel
theorem dX7_fillLeastTardiness_27 : decode cX7_fillLeastTardiness 27 = .ok (.aload_n 0, 1) := by decide +kernel
theorem dX7_fillLeastTardiness_28 : decode cX7_fillLeastTardiness 28 = .ok (.getfield 24, 3) := by decide +kernel
theorem dX7_fillLeastTardiness_31 : decode cX7_fillLeastTardiness 31 = .ok (.iload_n 2, 1) := by decide +kernel
theorem dX7_fillLeastTardiness_32 : decode cX7_fillLeastTardiness 32 = .ok (.ldc 80, 2) := by decide +kernel
theorem dX7_fillLeastTardiness_34 : decode cX7_fillLeastTardiness 34 = .ok (.iastore, 1) := by decide +kernel
theorem dX7_fillLeastTardiness_35 : decode cX7_fillLeastTardiness 35 = .ok (.iconst 0, 1) := by decide +kernel
theorem dX7_fillLeastTardiness_36 : decode cX7_fillLeastTardiness 36 = .ok (.istore 4, 2) := by decide +kernel
theorem dX7_fillLeastTardiness_38 : decode cX7_fillLeastTardiness 38 = .ok (.iload 4, 2) := by decide +kernel
theorem dX7_fillLeastTardiness_40 : decode cX7_fillLeastTardiness 40 = .ok (.aload_n 1, 1) := by decide +kernel
theorem dX7_fillLeastTardiness_41 : decode cX7_fillLeastTardiness 41 = .ok (.getfield 42, 3) := by decide +kernel
theorem dX7_fillLeastTardiness_44 : decode cX7_fillLeastTardiness 44 = .ok (.if_icmp .ge 43, 3) := by decide +kernel
theorem dX7_fillLeastTardiness_47 : decode cX7_fillLeastTardiness 47 = .ok (.aload_n 1, 1) := by decide +kernel
theorem dX7_fillLeastTardiness_48 : decode cX7_fillLeastTardiness 48 = .ok (.iload_n 2, 1) := by decide +kernel
theorem dX7_fillLeastTardiness_49 : decode cX7_fillLeastTardiness 49 = .ok (.iload 4, 2) := by decide +kernel
theorem dX7_fillLeastTardiness_51 : decode cX7_fillLeastTardiness 51 = .ok (.invokevirtual 61, 3) := by decide +kernel
theorem dX7_fillLeastTardiness_54 : decode cX7_fillLeastTardiness 54 = .ok (.ifCond .ne 27, 3) := by decide +kernel
theorem dX7_fillLeastTardiness_57 : decode cX7_fillLeastTardiness 57 = .ok (.aload_n 0, 1) := by decide +kernel
theorem dX7_fillLeastTardiness_58 : decode cX7_fillLeastTardiness 58 = .ok (.getfield 24, 3) := by decide +kernel
theorem dX7_fillLeastTardiness_61 : decode cX7_fillLeastTardiness 61 = .ok (.iload_n 2, 1) := by decide +kernel
theorem dX7_fillLeastTardiness_62 : decode cX7_fillLeastTardiness 62 = .ok (.aload_n 0, 1) := by decide +kernel
theorem dX7_fillLeastTardiness_63 : decode cX7_fillLeastTardiness 63 = .ok (.getfield 24, 3) := by decide +kernel
theorem dX7_fillLeastTardiness_66 : decode cX7_fillLeastTardiness 66 = .ok (.iload_n 2, 1) := by decide +kernel
theorem dX7_fillLeastTardiness_67 : decode cX7_fillLeastTardiness 67 = .ok (.iaload, 1) := by decide +kernel
theorem dX7_fillLeastTardiness_68 : decode cX7_fillLeastTardiness 68 = .ok (.aload_n 0, 1) := by decide +kernel
theorem dX7_fillLeastTardiness_69 : decode cX7_fillLeastTardiness 69 = .ok (.aload_n 1, 1) := by decide +kernel
theorem dX7_fillLeastTardiness_70 : decode cX7_fillLeastTardiness 70 = .ok (.iload_n 2, 1) := by decide +kernel
theorem dX7_fillLeastTardiness_71 : decode cX7_fillLeastTardiness 71 = .ok (.iload_n 3, 1) := by decide +kernel
theorem dX7_fillLeastTardiness_72 : decode cX7_fillLeastTardiness 72 = .ok (.iload 4, 2) := by decide +kernel
theorem dX7_fillLeastTardiness_74 : decode cX7_fillLeastTardiness 74 = .ok (.invokevirtual 72, 3) := by decide +kernel
theorem dX7_fillLeastTardiness_77 : decode cX7_fillLeastTardiness 77 = .ok (.invokestatic 81, 3) := by decide +kernel
theorem dX7_fillLeastTardiness_80 : decode cX7_fillLeastTardiness 80 = .ok (.iastore, 1) := by decide +kernel
theorem dX7_fillLeastTardiness_81 : decode cX7_fillLeastTardiness 81 = .ok (.iinc 4 1, 3) := by decide +kernel
theorem dX7_fillLeastTardiness_84 : decode cX7_fillLeastTardiness 84 = .ok (.goto (-46), 3) := by decide +kernel
theorem dX7_fillLeastTardiness_87 : decode cX7_fillLeastTardiness 87 = .ok (.iinc 2 (-1), 3) := by decide +kernel
theorem dX7_fillLeastTardiness_90 : decode cX7_fillLeastTardiness 90 = .ok (.goto (-73), 3) := by decide +kernel
theorem dX7_fillLeastTardiness_93 : decode cX7_fillLeastTardiness 93 = .ok (.return_, 1) := by decide +kernel
theorem dX7_tardinessBy_0 : decode cX7_tardinessBy 0 = .ok (.getstatic 87, 3) := by decide +kernel
theorem dX7_tardinessBy_3 : decode cX7_tardinessBy 3 = .ok (.aload_n 0, 1) := by decide +kernel
theorem dX7_tardinessBy_4 : decode cX7_tardinessBy 4 = .ok (.getfield 24, 3) := by decide +kernel
theorem dX7_tardinessBy_7 : decode cX7_tardinessBy 7 = .ok (.iload_n 2, 1) := by decide +kernel
theorem dX7_tardinessBy_8 : decode cX7_tardinessBy 8 = .ok (.iconst 1, 1) := by decide +kernel
theorem dX7_tardinessBy_9 : decode cX7_tardinessBy 9 = .ok (.iload 4, 2) := by decide +kernel
theorem dX7_tardinessBy_11 : decode cX7_tardinessBy 11 = .ok (.ishl, 1) := by decide +kernel
theorem dX7_tardinessBy_12 : decode cX7_tardinessBy 12 = .ok (.ior, 1) := by decide +kernel
theorem dX7_tardinessBy_13 : decode cX7_tardinessBy 13 = .ok (.iaload, 1) := by decide +kernel
theorem dX7_tardinessBy_14 : decode cX7_tardinessBy 14 = .ok (.aload_n 1, 1) := by decide +kernel
theorem dX7_tardinessBy_15 : decode cX7_tardinessBy 15 = .ok (.iload 4, 2) := by decide +kernel
theorem dX7_tardinessBy_17 : decode cX7_tardinessBy 17 = .ok (.iload_n 3, 1) := by decide +kernel
theorem dX7_tardinessBy_18 : decode cX7_tardinessBy 18 = .ok (.aload_n 1, 1) := by decide +kernel
theorem dX7_tardinessBy_19 : decode cX7_tardinessBy 19 = .ok (.getfield 65, 3) := by decide +kernel
theorem dX7_tardinessBy_22 : decode cX7_tardinessBy 22 = .ok (.iload 4, 2) := by decide +kernel
theorem dX7_tardinessBy_24 : decode cX7_tardinessBy 24 = .ok (.iaload, 1) := by decide +kernel
theorem dX7_tardinessBy_25 : decode cX7_tardinessBy 25 = .ok (.iadd, 1) := by decide +kernel
theorem dX7_tardinessBy_26 : decode cX7_tardinessBy 26 = .ok (.invokevirtual 93, 3) := by decide +kernel
theorem dX7_tardinessBy_29 : decode cX7_tardinessBy 29 = .ok (.ireturn, 1) := by decide +kernel
theorem dX7_orderByFamilies_0 : decode cX7_orderByFamilies 0 = .ok (.aload_n 0, 1) := by decide +kernel
theorem dX7_orderByFamilies_1 : decode cX7_orderByFamilies 1 = .ok (.aload_n 1, 1) := by decide +kernel
theorem dX7_orderByFamilies_2 : decode cX7_orderByFamilies 2 = .ok (.invokevirtual 97, 3) := by decide +kernel
theorem dX7_orderByFamilies_5 : decode cX7_orderByFamilies 5 = .ok (.aload_n 0, 1) := by decide +kernel
theorem dX7_orderByFamilies_6 : decode cX7_orderByFamilies 6 = .ok (.aload_n 1, 1) := by decide +kernel
theorem dX7_orderByFamilies_7 : decode cX7_orderByFamilies 7 = .ok (.invokevirtual 100, 3) := by decide +kernel
theorem dX7_orderByFamilies_10 : decode cX7_orderByFamilies 10 = .ok (.aload_n 0, 1) := by decide +kernel
theorem dX7_orderByFamilies_11 : decode cX7_orderByFamilies 11 = .ok (.getfield 24, 3) := by decide +kernel
theorem dX7_orderByFamilies_14 : decode cX7_orderByFamilies 14 = .ok (.iconst 0, 1) := by decide +kernel
theorem dX7_orderByFamilies_15 : decode cX7_orderByFamilies 15 = .ok (.iconst 4, 1) := by decide +kernel
theorem dX7_orderByFamilies_16 : decode cX7_orderByFamilies 16 = .ok (.invokestatic 103, 3) := by decide +kernel
theorem dX7_orderByFamilies_19 : decode cX7_orderByFamilies 19 = .ok (.iaload, 1) := by decide +kernel
theorem dX7_orderByFamilies_20 : decode cX7_orderByFamilies 20 = .ok (.istore_n 2, 1) := by decide +kernel
theorem dX7_orderByFamilies_21 : decode cX7_orderByFamilies 21 = .ok (.iconst 0, 1) := by decide +kernel
theorem dX7_orderByFamilies_22 : decode cX7_orderByFamilies 22 = .ok (.istore_n 3, 1) := by decide +kernel
theorem dX7_orderByFamilies_23 : decode cX7_orderByFamilies 23 = .ok (.iconst 4, 1) := by decide +kernel
theorem dX7_orderByFamilies_24 : decode cX7_orderByFamilies 24 = .ok (.istore 4, 2) := by decide +kernel
theorem dX7_orderByFamilies_26 : decode cX7_orderByFamilies 26 = .ok (.iconst 0, 1) := by decide +kernel
theorem dX7_orderByFamilies_27 : decode cX7_orderByFamilies 27 = .ok (.istore 5, 2) := by decide +kernel
theorem dX7_orderByFamilies_29 : decode cX7_orderByFamilies 29 = .ok (.iconst 0, 1) := by decide +kernel
theorem dX7_orderByFamilies_30 : decode cX7_orderByFamilies 30 = .ok (.istore 6, 2) := by decide +kernel
theorem dX7_orderByFamilies_32 : decode cX7_orderByFamilies 32 = .ok (.iload 6, 2) := by decide +kernel
theorem dX7_orderByFamilies_34 : decode cX7_orderByFamilies 34 = .ok (.aload_n 1, 1) := by decide +kernel
theorem dX7_orderByFamilies_35 : decode cX7_orderByFamilies 35 = .ok (.getfield 42, 3) := by decide +kernel
theorem dX7_orderByFamilies_38 : decode cX7_orderByFamilies 38 = .ok (.if_icmp .ge 104, 3) := by decide +kernel
theorem dX7_orderByFamilies_41 : decode cX7_orderByFamilies 41 = .ok (.iconst 0, 1) := by decide +kernel
theorem dX7_orderByFamilies_42 : decode cX7_orderByFamilies 42 = .ok (.istore 7, 2) := by decide +kernel
theorem dX7_orderByFamilies_44 : decode cX7_orderByFamilies 44 = .ok (.iload 7, 2) := by decide +kernel
theorem dX7_orderByFamilies_46 : decode cX7_orderByFamilies 46 = .ok (.aload_n 1, 1) := by decide +kernel
theorem dX7_orderByFamilies_47 : decode cX7_orderByFamilies 47 = .ok (.getfield 42, 3) := by decide +kernel
theorem dX7_orderByFamilies_50 : decode cX7_orderByFamilies 50 = .ok (.if_icmp .ge 86, 3) := by decide +kernel
theorem dX7_orderByFamilies_53 : decode cX7_orderByFamilies 53 = .ok (.aload_n 0, 1) := by decide +kernel
theorem dX7_orderByFamilies_54 : decode cX7_orderByFamilies 54 = .ok (.aload_n 1, 1) := by decide +kernel
theorem dX7_orderByFamilies_55 : decode cX7_orderByFamilies 55 = .ok (.iload_n 3, 1) := by decide +kernel
theorem dX7_orderByFamilies_56 : decode cX7_orderByFamilies 56 = .ok (.iload 7, 2) := by decide +kernel
theorem dX7_orderByFamilies_58 : decode cX7_orderByFamilies 58 = .ok (.invokevirtual 106, 3) := by decide +kernel
theorem dX7_orderByFamilies_61 : decode cX7_orderByFamilies 61 = .ok (.ifCond .eq 69, 3) := by decide +kernel
theorem dX7_orderByFamilies_64 : decode cX7_orderByFamilies 64 = .ok (.iload 5, 2) := by decide +kernel
theorem dX7_orderByFamilies_66 : decode cX7_orderByFamilies 66 = .ok (.aload_n 0, 1) := by decide +kernel
theorem dX7_orderByFamilies_67 : decode cX7_orderByFamilies 67 = .ok (.aload_n 1, 1) := by decide +kernel
theorem dX7_orderByFamilies_68 : decode cX7_orderByFamilies 68 = .ok (.iload_n 3, 1) := by decide +kernel
theorem dX7_orderByFamilies_69 : decode cX7_orderByFamilies 69 = .ok (.iload 4, 2) := by decide +kernel
theorem dX7_orderByFamilies_71 : decode cX7_orderByFamilies 71 = .ok (.iload 7, 2) := by decide +kernel
theorem dX7_orderByFamilies_73 : decode cX7_orderByFamilies 73 = .ok (.invokevirtual 110, 3) := by decide +kernel
theorem dX7_orderByFamilies_76 : decode cX7_orderByFamilies 76 = .ok (.iadd, 1) := by decide +kernel
theorem dX7_orderByFamilies_77 : decode cX7_orderByFamilies 77 = .ok (.iload_n 2, 1) := by decide +kernel
theorem dX7_orderByFamilies_78 : decode cX7_orderByFamilies 78 = .ok (.if_icmp .gt 52, 3) := by decide +kernel
theorem dX7_orderByFamilies_81 : decode cX7_orderByFamilies 81 = .ok (.aload_n 0, 1) := by decide +kernel
theorem dX7_orderByFamilies_82 : decode cX7_orderByFamilies 82 = .ok (.getfield 9, 3) := by decide +kernel
theorem dX7_orderByFamilies_85 : decode cX7_orderByFamilies 85 = .ok (.iload 6, 2) := by decide +kernel
theorem dX7_orderByFamilies_87 : decode cX7_orderByFamilies 87 = .ok (.iload 7, 2) := by decide +kernel
theorem dX7_orderByFamilies_89 : decode cX7_orderByFamilies 89 = .ok (.iastore, 1) := by decide +kernel
theorem dX7_orderByFamilies_90 : decode cX7_orderByFamilies 90 = .ok (.iload 5, 2) := by decide +kernel
theorem dX7_orderByFamilies_92 : decode cX7_orderByFamilies 92 = .ok (.aload_n 1, 1) := by decide +kernel
theorem dX7_orderByFamilies_93 : decode cX7_orderByFamilies 93 = .ok (.iload 4, 2) := by decide +kernel
theorem dX7_orderByFamilies_95 : decode cX7_orderByFamilies 95 = .ok (.iload 7, 2) := by decide +kernel
theorem dX7_orderByFamilies_97 : decode cX7_orderByFamilies 97 = .ok (.invokevirtual 113, 3) := by decide +kernel
theorem dX7_orderByFamilies_100 : decode cX7_orderByFamilies 100 = .ok (.aload_n 1, 1) := by decide +kernel
theorem dX7_orderByFamilies_101 : decode cX7_orderByFamilies 101 = .ok (.getfield 65, 3) := by decide +kernel
theorem dX7_orderByFamilies_104 : decode cX7_orderByFamilies 104 = .ok (.iload 7, 2) := by decide +kernel
theorem dX7_orderByFamilies_106 : decode cX7_orderByFamilies 106 = .ok (.iaload, 1) := by decide +kernel
theorem dX7_orderByFamilies_107 : decode cX7_orderByFamilies 107 = .ok (.iadd, 1) := by decide +kernel
theorem dX7_orderByFamilies_108 : decode cX7_orderByFamilies 108 = .ok (.iadd, 1) := by decide +kernel
theorem dX7_orderByFamilies_109 : decode cX7_orderByFamilies 109 = .ok (.istore 5, 2) := by decide +kernel
theorem dX7_orderByFamilies_111 : decode cX7_orderByFamilies 111 = .ok (.iload_n 3, 1) := by decide +kernel
theorem dX7_orderByFamilies_112 : decode cX7_orderByFamilies 112 = .ok (.iconst 1, 1) := by decide +kernel
theorem dX7_orderByFamilies_113 : decode cX7_orderByFamilies 113 = .ok (.iload 7, 2) := by decide +kernel
theorem dX7_orderByFamilies_115 : decode cX7_orderByFamilies 115 = .ok (.ishl, 1) := by decide +kernel
theorem dX7_orderByFamilies_116 : decode cX7_orderByFamilies 116 = .ok (.ior, 1) := by decide +kernel
theorem dX7_orderByFamilies_117 : decode cX7_orderByFamilies 117 = .ok (.istore_n 3, 1) := by decide +kernel
theorem dX7_orderByFamilies_118 : decode cX7_orderByFamilies 118 = .ok (.aload_n 1, 1) := by decide +kernel
theorem dX7_orderByFamilies_119 : decode cX7_orderByFamilies 119 = .ok (.getfield 116, 3) := by decide +kernel
theorem dX7_orderByFamilies_122 : decode cX7_orderByFamilies 122 = .ok (.iload 7, 2) := by decide +kernel
theorem dX7_orderByFamilies_124 : decode cX7_orderByFamilies 124 = .ok (.iaload, 1) := by decide +kernel
theorem dX7_orderByFamilies_125 : decode cX7_orderByFamilies 125 = .ok (.istore 4, 2) := by decide +kernel
theorem dX7_orderByFamilies_127 : decode cX7_orderByFamilies 127 = .ok (.goto 9, 3) := by decide +kernel
theorem dX7_orderByFamilies_130 : decode cX7_orderByFamilies 130 = .ok (.iinc 7 1, 3) := by decide +kernel
theorem dX7_orderByFamilies_133 : decode cX7_orderByFamilies 133 = .ok (.goto (-89), 3) := by decide +kernel
theorem dX7_orderByFamilies_136 : decode cX7_orderByFamilies 136 = .ok (.iinc 6 1, 3) := by decide +kernel
theorem dX7_orderByFamilies_139 : decode cX7_orderByFamilies 139 = .ok (.goto (-107), 3) := by decide +kernel
theorem dX7_orderByFamilies_142 : decode cX7_orderByFamilies 142 = .ok (.return_, 1) := by decide +kernel
theorem dX7_fillMustBeDone_0 : decode cX7_fillMustBeDone 0 = .ok (.aload_n 1, 1) := by decide +kernel
theorem dX7_fillMustBeDone_1 : decode cX7_fillMustBeDone 1 = .ok (.aload_n 0, 1) := by decide +kernel
theorem dX7_fillMustBeDone_2 : decode cX7_fillMustBeDone 2 = .ok (.getfield 15, 3) := by decide +kernel
theorem dX7_fillMustBeDone_5 : decode cX7_fillMustBeDone 5 = .ok (.getstatic 27, 3) := by decide +kernel
theorem dX7_fillMustBeDone_8 : decode cX7_fillMustBeDone 8 = .ok (.invokevirtual 33, 3) := by decide +kernel
theorem dX7_fillMustBeDone_11 : decode cX7_fillMustBeDone 11 = .ok (.iconst 0, 1) := by decide +kernel
theorem dX7_fillMustBeDone_12 : decode cX7_fillMustBeDone 12 = .ok (.istore_n 2, 1) := by decide +kernel
theorem dX7_fillMustBeDone_13 : decode cX7_fillMustBeDone 13 = .ok (.iload_n 2, 1) := by decide +kernel
theorem dX7_fillMustBeDone_14 : decode cX7_fillMustBeDone 14 = .ok (.aload_n 1, 1) := by decide +kernel
theorem dX7_fillMustBeDone_15 : decode cX7_fillMustBeDone 15 = .ok (.getfield 42, 3) := by decide +kernel
theorem dX7_fillMustBeDone_18 : decode cX7_fillMustBeDone 18 = .ok (.if_icmp .ge 77, 3) := by decide +kernel
theorem dX7_fillMustBeDone_21 : decode cX7_fillMustBeDone 21 = .ok (.aload_n 0, 1) := by decide +kernel
theorem dX7_fillMustBeDone_22 : decode cX7_fillMustBeDone 22 = .ok (.getfield 15, 3) := by decide +kernel
theorem dX7_fillMustBeDone_25 : decode cX7_fillMustBeDone 25 = .ok (.iload_n 2, 1) := by decide +kernel
theorem dX7_fillMustBeDone_26 : decode cX7_fillMustBeDone 26 = .ok (.iaload, 1) := by decide +kernel
theorem dX7_fillMustBeDone_27 : decode cX7_fillMustBeDone 27 = .ok (.istore_n 3, 1) := by decide +kernel
theorem dX7_fillMustBeDone_28 : decode cX7_fillMustBeDone 28 = .ok (.aload_n 0, 1) := by decide +kernel
theorem dX7_fillMustBeDone_29 : decode cX7_fillMustBeDone 29 = .ok (.getfield 21, 3) := by decide +kernel
theorem dX7_fillMustBeDone_32 : decode cX7_fillMustBeDone 32 = .ok (.iload_n 3, 1) := by decide +kernel
theorem dX7_fillMustBeDone_33 : decode cX7_fillMustBeDone 33 = .ok (.iconst 0, 1) := by decide +kernel
theorem dX7_fillMustBeDone_34 : decode cX7_fillMustBeDone 34 = .ok (.iastore, 1) := by decide +kernel
theorem dX7_fillMustBeDone_35 : decode cX7_fillMustBeDone 35 = .ok (.iconst 0, 1) := by decide +kernel
theorem dX7_fillMustBeDone_36 : decode cX7_fillMustBeDone 36 = .ok (.istore 4, 2) := by decide +kernel
theorem dX7_fillMustBeDone_38 : decode cX7_fillMustBeDone 38 = .ok (.iload 4, 2) := by decide +kernel
theorem dX7_fillMustBeDone_40 : decode cX7_fillMustBeDone 40 = .ok (.iload_n 2, 1) := by decide +kernel
theorem dX7_fillMustBeDone_41 : decode cX7_fillMustBeDone 41 = .ok (.if_icmp .ge 48, 3) := by decide +kernel
theorem dX7_fillMustBeDone_44 : decode cX7_fillMustBeDone 44 = .ok (.aload_n 1, 1) := by decide +kernel
theorem dX7_fillMustBeDone_45 : decode cX7_fillMustBeDone 45 = .ok (.getfield 116, 3) := by decide +kernel
theorem dX7_fillMustBeDone_48 : decode cX7_fillMustBeDone 48 = .ok (.aload_n 0, 1) := by decide +kernel
theorem dX7_fillMustBeDone_49 : decode cX7_fillMustBeDone 49 = .ok (.getfield 15, 3) := by decide +kernel
theorem dX7_fillMustBeDone_52 : decode cX7_fillMustBeDone 52 = .ok (.iload 4, 2) := by decide +kernel
theorem dX7_fillMustBeDone_54 : decode cX7_fillMustBeDone 54 = .ok (.iaload, 1) := by decide +kernel
theorem dX7_fillMustBeDone_55 : decode cX7_fillMustBeDone 55 = .ok (.iaload, 1) := by decide +kernel
theorem dX7_fillMustBeDone_56 : decode cX7_fillMustBeDone 56 = .ok (.aload_n 1, 1) := by decide +kernel
theorem dX7_fillMustBeDone_57 : decode cX7_fillMustBeDone 57 = .ok (.getfield 116, 3) := by decide +kernel
theorem dX7_fillMustBeDone_60 : decode cX7_fillMustBeDone 60 = .ok (.iload_n 3, 1) := by decide +kernel
theorem dX7_fillMustBeDone_61 : decode cX7_fillMustBeDone 61 = .ok (.iaload, 1) := by decide +kernel
theorem dX7_fillMustBeDone_62 : decode cX7_fillMustBeDone 62 = .ok (.if_icmp .ne 21, 3) := by decide +kernel
theorem dX7_fillMustBeDone_65 : decode cX7_fillMustBeDone 65 = .ok (.aload_n 0, 1) := by decide +kernel
theorem dX7_fillMustBeDone_66 : decode cX7_fillMustBeDone 66 = .ok (.getfield 21, 3) := by decide +kernel
theorem dX7_fillMustBeDone_69 : decode cX7_fillMustBeDone 69 = .ok (.iload_n 3, 1) := by decide +kernel
theorem dX7_fillMustBeDone_70 : decode cX7_fillMustBeDone 70 = .ok (.dup2, 1) := by decide +kernel
theorem dX7_fillMustBeDone_71 : decode cX7_fillMustBeDone 71 = .ok (.iaload, 1) := by decide +kernel
theorem dX7_fillMustBeDone_72 : decode cX7_fillMustBeDone 72 = .ok (.iconst 1, 1) := by decide +kernel
theorem dX7_fillMustBeDone_73 : decode cX7_fillMustBeDone 73 = .ok (.aload_n 0, 1) := by decide +kernel
theorem dX7_fillMustBeDone_74 : decode cX7_fillMustBeDone 74 = .ok (.getfield 15, 3) := by decide +kernel
theorem dX7_fillMustBeDone_77 : decode cX7_fillMustBeDone 77 = .ok (.iload 4, 2) := by decide +kernel
theorem dX7_fillMustBeDone_79 : decode cX7_fillMustBeDone 79 = .ok (.iaload, 1) := by decide +kernel
theorem dX7_fillMustBeDone_80 : decode cX7_fillMustBeDone 80 = .ok (.ishl, 1) := by decide +kernel
theorem dX7_fillMustBeDone_81 : decode cX7_fillMustBeDone 81 = .ok (.ior, 1) := by decide +kernel
theorem dX7_fillMustBeDone_82 : decode cX7_fillMustBeDone 82 = .ok (.iastore, 1) := by decide +kernel
theorem dX7_fillMustBeDone_83 : decode cX7_fillMustBeDone 83 = .ok (.iinc 4 1, 3) := by decide +kernel
theorem dX7_fillMustBeDone_86 : decode cX7_fillMustBeDone 86 = .ok (.goto (-48), 3) := by decide +kernel
theorem dX7_fillMustBeDone_89 : decode cX7_fillMustBeDone 89 = .ok (.iinc 2 1, 3) := by decide +kernel
theorem dX7_fillMustBeDone_92 : decode cX7_fillMustBeDone 92 = .ok (.goto (-79), 3) := by decide +kernel
theorem dX7_fillMustBeDone_95 : decode cX7_fillMustBeDone 95 = .ok (.return_, 1) := by decide +kernel
theorem dX7_fillLeastLateness_0 : decode cX7_fillLeastLateness 0 = .ok (.iconst 0, 1) := by decide +kernel
theorem dX7_fillLeastLateness_1 : decode cX7_fillLeastLateness 1 = .ok (.istore_n 2, 1) := by decide +kernel
theorem dX7_fillLeastLateness_2 : decode cX7_fillLeastLateness 2 = .ok (.iload_n 2, 1) := by decide +kernel
theorem dX7_fillLeastLateness_3 : decode cX7_fillLeastLateness 3 = .ok (.iconst 4, 1) := by decide +kernel
theorem dX7_fillLeastLateness_4 : decode cX7_fillLeastLateness 4 = .ok (.if_icmp .gt 24, 3) := by decide +kernel
theorem dX7_fillLeastLateness_7 : decode cX7_fillLeastLateness 7 = .ok (.aload_n 0, 1) := by decide +kernel
theorem dX7_fillLeastLateness_8 : decode cX7_fillLeastLateness 8 = .ok (.getfield 24, 3) := by decide +kernel
theorem dX7_fillLeastLateness_11 : decode cX7_fillLeastLateness 11 = .ok (.aload_n 1, 1) := by decide +kernel
theorem dX7_fillLeastLateness_12 : decode cX7_fillLeastLateness 12 = .ok (.invokevirtual 76, 3) := by decide +kernel
theorem dX7_fillLeastLateness_15 : decode cX7_fillLeastLateness 15 = .ok (.iload_n 2, 1) := by decide +kernel
theorem dX7_fillLeastLateness_16 : decode cX7_fillLeastLateness 16 = .ok (.invokestatic 103, 3) := by decide +kernel
theorem dX7_fillLeastLateness_19 : decode cX7_fillLeastLateness 19 = .ok (.ldc 119, 2) := by decide +kernel
theorem dX7_fillLeastLateness_21 : decode cX7_fillLeastLateness 21 = .ok (.iastore, 1) := by decide +kernel
theorem dX7_fillLeastLateness_22 : decode cX7_fillLeastLateness 22 = .ok (.iinc 2 1, 3) := by decide +kernel
theorem dX7_fillLeastLateness_25 : decode cX7_fillLeastLateness 25 = .ok (.goto (-23), 3) := by decide +kernel
theorem dX7_fillLeastLateness_28 : decode cX7_fillLeastLateness 28 = .ok (.aload_n 1, 1) := by decide +kernel
theorem dX7_fillLeastLateness_29 : decode cX7_fillLeastLateness 29 = .ok (.invokevirtual 76, 3) := by decide +kernel
theorem dX7_fillLeastLateness_32 : decode cX7_fillLeastLateness 32 = .ok (.iconst 1, 1) := by decide +kernel
theorem dX7_fillLeastLateness_33 : decode cX7_fillLeastLateness 33 = .ok (.isub, 1) := by decide +kernel
theorem dX7_fillLeastLateness_34 : decode cX7_fillLeastLateness 34 = .ok (.istore_n 2, 1) := by decide +kernel
theorem dX7_fillLeastLateness_35 : decode cX7_fillLeastLateness 35 = .ok (.iload_n 2, 1) := by decide +kernel
theorem dX7_fillLeastLateness_36 : decode cX7_fillLeastLateness 36 = .ok (.ifCond .lt 48, 3) := by decide +kernel
theorem dX7_fillLeastLateness_39 : decode cX7_fillLeastLateness 39 = .ok (.aload_n 0, 1) := by decide +kernel
theorem dX7_fillLeastLateness_40 : decode cX7_fillLeastLateness 40 = .ok (.aload_n 1, 1) := by decide +kernel
theorem dX7_fillLeastLateness_41 : decode cX7_fillLeastLateness 41 = .ok (.iload_n 2, 1) := by decide +kernel
theorem dX7_fillLeastLateness_42 : decode cX7_fillLeastLateness 42 = .ok (.invokevirtual 120, 3) := by decide +kernel
theorem dX7_fillLeastLateness_45 : decode cX7_fillLeastLateness 45 = .ok (.ifCond .eq 33, 3) := by decide +kernel
theorem dX7_fillLeastLateness_48 : decode cX7_fillLeastLateness 48 = .ok (.iconst 0, 1) := by decide +kernel
theorem dX7_fillLeastLateness_49 : decode cX7_fillLeastLateness 49 = .ok (.istore_n 3, 1) := by decide +kernel
theorem dX7_fillLeastLateness_50 : decode cX7_fillLeastLateness 50 = .ok (.iload_n 3, 1) := by decide +kernel
theorem dX7_fillLeastLateness_51 : decode cX7_fillLeastLateness 51 = .ok (.iconst 4, 1) := by decide +kernel
theorem dX7_fillLeastLateness_52 : decode cX7_fillLeastLateness 52 = .ok (.if_icmp .gt 26, 3) := by decide +kernel
theorem dX7_fillLeastLateness_55 : decode cX7_fillLeastLateness 55 = .ok (.aload_n 0, 1) := by decide +kernel
theorem dX7_fillLeastLateness_56 : decode cX7_fillLeastLateness 56 = .ok (.getfield 24, 3) := by decide +kernel
theorem dX7_fillLeastLateness_59 : decode cX7_fillLeastLateness 59 = .ok (.iload_n 2, 1) := by decide +kernel
theorem dX7_fillLeastLateness_60 : decode cX7_fillLeastLateness 60 = .ok (.iload_n 3, 1) := by decide +kernel
theorem dX7_fillLeastLateness_61 : decode cX7_fillLeastLateness 61 = .ok (.invokestatic 103, 3) := by decide +kernel
theorem dX7_fillLeastLateness_64 : decode cX7_fillLeastLateness 64 = .ok (.aload_n 0, 1) := by decide +kernel
theorem dX7_fillLeastLateness_65 : decode cX7_fillLeastLateness 65 = .ok (.aload_n 1, 1) := by decide +kernel
theorem dX7_fillLeastLateness_66 : decode cX7_fillLeastLateness 66 = .ok (.iload_n 2, 1) := by decide +kernel
theorem dX7_fillLeastLateness_67 : decode cX7_fillLeastLateness 67 = .ok (.iload_n 3, 1) := by decide +kernel
theorem dX7_fillLeastLateness_68 : decode cX7_fillLeastLateness 68 = .ok (.invokevirtual 124, 3) := by decide +kernel
theorem dX7_fillLeastLateness_71 : decode cX7_fillLeastLateness 71 = .ok (.iastore, 1) := by decide +kernel
theorem dX7_fillLeastLateness_72 : decode cX7_fillLeastLateness 72 = .ok (.iinc 3 1, 3) := by decide +kernel
theorem dX7_fillLeastLateness_75 : decode cX7_fillLeastLateness 75 = .ok (.goto (-25), 3) := by decide +kernel
theorem dX7_fillLeastLateness_78 : decode cX7_fillLeastLateness 78 = .ok (.iinc 2 (-1), 3) := by decide +kernel
theorem dX7_fillLeastLateness_81 : decode cX7_fillLeastLateness 81 = .ok (.goto (-46), 3) := by decide +kernel
theorem dX7_fillLeastLateness_84 : decode cX7_fillLeastLateness 84 = .ok (.return_, 1) := by decide +kernel
theorem dX7_keepsFamilyOrders_0 : decode cX7_keepsFamilyOrders 0 = .ok (.iconst 0, 1) := by decide +kernel
theorem dX7_keepsFamilyOrders_1 : decode cX7_keepsFamilyOrders 1 = .ok (.istore_n 3, 1) := by decide +kernel
theorem dX7_keepsFamilyOrders_2 : decode cX7_keepsFamilyOrders 2 = .ok (.iload_n 3, 1) := by decide +kernel
theorem dX7_keepsFamilyOrders_3 : decode cX7_keepsFamilyOrders 3 = .ok (.aload_n 1, 1) := by decide +kernel
theorem dX7_keepsFamilyOrders_4 : decode cX7_keepsFamilyOrders 4 = .ok (.getfield 42, 3) := by decide +kernel
theorem dX7_keepsFamilyOrders_7 : decode cX7_keepsFamilyOrders 7 = .ok (.if_icmp .ge 33, 3) := by decide +kernel
theorem dX7_keepsFamilyOrders_10 : decode cX7_keepsFamilyOrders 10 = .ok (.aload_n 1, 1) := by decide +kernel
theorem dX7_keepsFamilyOrders_11 : decode cX7_keepsFamilyOrders 11 = .ok (.iload_n 2, 1) := by decide +kernel
theorem dX7_keepsFamilyOrders_12 : decode cX7_keepsFamilyOrders 12 = .ok (.iload_n 3, 1) := by decide +kernel
theorem dX7_keepsFamilyOrders_13 : decode cX7_keepsFamilyOrders 13 = .ok (.invokevirtual 61, 3) := by decide +kernel
theorem dX7_keepsFamilyOrders_16 : decode cX7_keepsFamilyOrders 16 = .ok (.ifCond .eq 18, 3) := by decide +kernel
theorem dX7_keepsFamilyOrders_19 : decode cX7_keepsFamilyOrders 19 = .ok (.aload_n 0, 1) := by decide +kernel
theorem dX7_keepsFamilyOrders_20 : decode cX7_keepsFamilyOrders 20 = .ok (.getfield 21, 3) := by decide +kernel
theorem dX7_keepsFamilyOrders_23 : decode cX7_keepsFamilyOrders 23 = .ok (.iload_n 3, 1) := by decide +kernel
theorem dX7_keepsFamilyOrders_24 : decode cX7_keepsFamilyOrders 24 = .ok (.iaload, 1) := by decide +kernel
theorem dX7_keepsFamilyOrders_25 : decode cX7_keepsFamilyOrders 25 = .ok (.iload_n 2, 1) := by decide +kernel
theorem dX7_keepsFamilyOrders_26 : decode cX7_keepsFamilyOrders 26 = .ok (.iconst (-1), 1) := by decide +kernel
theorem dX7_keepsFamilyOrders_27 : decode cX7_keepsFamilyOrders 27 = .ok (.ixor, 1) := by decide +kernel
theorem dX7_keepsFamilyOrders_28 : decode cX7_keepsFamilyOrders 28 = .ok (.iand, 1) := by decide +kernel
theorem dX7_keepsFamilyOrders_29 : decode cX7_keepsFamilyOrders 29 = .ok (.ifCond .eq 5, 3) := by decide +kernel
theorem dX7_keepsFamilyOrders_32 : decode cX7_keepsFamilyOrders 32 = .ok (.iconst 0, 1) := by decide +kernel
theorem dX7_keepsFamilyOrders_33 : decode cX7_keepsFamilyOrders 33 = .ok (.ireturn, 1) := by decide +kernel
theorem dX7_keepsFamilyOrders_34 : decode cX7_keepsFamilyOrders 34 = .ok (.iinc 3 1, 3) := by decide +kernel
theorem dX7_keepsFamilyOrders_37 : decode cX7_keepsFamilyOrders 37 = .ok (.goto (-35), 3) := by decide +kernel
theorem dX7_keepsFamilyOrders_40 : decode cX7_keepsFamilyOrders 40 = .ok (.iconst 1, 1) := by decide +kernel
theorem dX7_keepsFamilyOrders_41 : decode cX7_keepsFamilyOrders 41 = .ok (.ireturn, 1) := by decide +kernel
theorem dX7_leastLatenessFrom_0 : decode cX7_leastLatenessFrom 0 = .ok (.ldc 80, 2) := by decide +kernel
theorem dX7_leastLatenessFrom_2 : decode cX7_leastLatenessFrom 2 = .ok (.istore 4, 2) := by decide +kernel
theorem dX7_leastLatenessFrom_4 : decode cX7_leastLatenessFrom 4 = .ok (.iconst 0, 1) := by decide +kernel
theorem dX7_leastLatenessFrom_5 : decode cX7_leastLatenessFrom 5 = .ok (.istore 5, 2) := by decide +kernel
theorem dX7_leastLatenessFrom_7 : decode cX7_leastLatenessFrom 7 = .ok (.iload 5, 2) := by decide +kernel
theorem dX7_leastLatenessFrom_9 : decode cX7_leastLatenessFrom 9 = .ok (.aload_n 1, 1) := by decide +kernel
theorem dX7_leastLatenessFrom_10 : decode cX7_leastLatenessFrom 10 = .ok (.getfield 42, 3) := by decide +kernel
theorem dX7_leastLatenessFrom_13 : decode cX7_leastLatenessFrom 13 = .ok (.if_icmp .ge 36, 3) := by decide +kernel
theorem dX7_leastLatenessFrom_16 : decode cX7_leastLatenessFrom 16 = .ok (.aload_n 0, 1) := by decide +kernel
theorem dX7_leastLatenessFrom_17 : decode cX7_leastLatenessFrom 17 = .ok (.aload_n 1, 1) := by decide +kernel
theorem dX7_leastLatenessFrom_18 : decode cX7_leastLatenessFrom 18 = .ok (.iload_n 2, 1) := by decide +kernel
theorem dX7_leastLatenessFrom_19 : decode cX7_leastLatenessFrom 19 = .ok (.iload 5, 2) := by decide +kernel
theorem dX7_leastLatenessFrom_21 : decode cX7_leastLatenessFrom 21 = .ok (.invokevirtual 106, 3) := by decide +kernel
theorem dX7_leastLatenessFrom_24 : decode cX7_leastLatenessFrom 24 = .ok (.ifCond .eq 19, 3) := by decide +kernel
theorem dX7_leastLatenessFrom_27 : decode cX7_leastLatenessFrom 27 = .ok (.iload 4, 2) := by decide +kernel
theorem dX7_leastLatenessFrom_29 : decode cX7_leastLatenessFrom 29 = .ok (.aload_n 0, 1) := by decide +kernel
theorem dX7_leastLatenessFrom_30 : decode cX7_leastLatenessFrom 30 = .ok (.aload_n 1, 1) := by decide +kernel
theorem dX7_leastLatenessFrom_31 : decode cX7_leastLatenessFrom 31 = .ok (.iload_n 2, 1) := by decide +kernel
theorem dX7_leastLatenessFrom_32 : decode cX7_leastLatenessFrom 32 = .ok (.iload_n 3, 1) := by decide +kernel
theorem dX7_leastLatenessFrom_33 : decode cX7_leastLatenessFrom 33 = .ok (.iload 5, 2) := by decide +kernel
theorem dX7_leastLatenessFrom_35 : decode cX7_leastLatenessFrom 35 = .ok (.invokevirtual 110, 3) := by decide +kernel
theorem dX7_leastLatenessFrom_38 : decode cX7_leastLatenessFrom 38 = .ok (.invokestatic 81, 3) := by decide +kernel
theorem dX7_leastLatenessFrom_41 : decode cX7_leastLatenessFrom 41 = .ok (.istore 4, 2) := by decide +kernel
theorem dX7_leastLatenessFrom_43 : decode cX7_leastLatenessFrom 43 = .ok (.iinc 5 1, 3) := by decide +kernel
theorem dX7_leastLatenessFrom_46 : decode cX7_leastLatenessFrom 46 = .ok (.goto (-39), 3) := by decide +kernel
theorem dX7_leastLatenessFrom_49 : decode cX7_leastLatenessFrom 49 = .ok (.iload 4, 2) := by decide +kernel
theorem dX7_leastLatenessFrom_51 : decode cX7_leastLatenessFrom 51 = .ok (.ireturn, 1) := by decide +kernel
theorem dX7_latenessBy_0 : decode cX7_latenessBy 0 = .ok (.aload_n 1, 1) := by decide +kernel
theorem dX7_latenessBy_1 : decode cX7_latenessBy 1 = .ok (.iload_n 3, 1) := by decide +kernel
theorem dX7_latenessBy_2 : decode cX7_latenessBy 2 = .ok (.iload 4, 2) := by decide +kernel
theorem dX7_latenessBy_4 : decode cX7_latenessBy 4 = .ok (.invokevirtual 113, 3) := by decide +kernel
theorem dX7_latenessBy_7 : decode cX7_latenessBy 7 = .ok (.aload_n 1, 1) := by decide +kernel
theorem dX7_latenessBy_8 : decode cX7_latenessBy 8 = .ok (.getfield 65, 3) := by decide +kernel
theorem dX7_latenessBy_11 : decode cX7_latenessBy 11 = .ok (.iload 4, 2) := by decide +kernel
theorem dX7_latenessBy_13 : decode cX7_latenessBy 13 = .ok (.iaload, 1) := by decide +kernel
theorem dX7_latenessBy_14 : decode cX7_latenessBy 14 = .ok (.iadd, 1) := by decide +kernel
theorem dX7_latenessBy_15 : decode cX7_latenessBy 15 = .ok (.istore 5, 2) := by decide +kernel
theorem dX7_latenessBy_17 : decode cX7_latenessBy 17 = .ok (.iload 5, 2) := by decide +kernel
theorem dX7_latenessBy_19 : decode cX7_latenessBy 19 = .ok (.aload_n 1, 1) := by decide +kernel
theorem dX7_latenessBy_20 : decode cX7_latenessBy 20 = .ok (.getfield 50, 3) := by decide +kernel
theorem dX7_latenessBy_23 : decode cX7_latenessBy 23 = .ok (.iload 4, 2) := by decide +kernel
theorem dX7_latenessBy_25 : decode cX7_latenessBy 25 = .ok (.iaload, 1) := by decide +kernel
theorem dX7_latenessBy_26 : decode cX7_latenessBy 26 = .ok (.ineg, 1) := by decide +kernel
theorem dX7_latenessBy_27 : decode cX7_latenessBy 27 = .ok (.aload_n 0, 1) := by decide +kernel
theorem dX7_latenessBy_28 : decode cX7_latenessBy 28 = .ok (.getfield 24, 3) := by decide +kernel
theorem dX7_latenessBy_31 : decode cX7_latenessBy 31 = .ok (.iload_n 2, 1) := by decide +kernel
theorem dX7_latenessBy_32 : decode cX7_latenessBy 32 = .ok (.iconst 1, 1) := by decide +kernel
theorem dX7_latenessBy_33 : decode cX7_latenessBy 33 = .ok (.iload 4, 2) := by decide +kernel
theorem dX7_latenessBy_35 : decode cX7_latenessBy 35 = .ok (.ishl, 1) := by decide +kernel
theorem dX7_latenessBy_36 : decode cX7_latenessBy 36 = .ok (.ior, 1) := by decide +kernel
theorem dX7_latenessBy_37 : decode cX7_latenessBy 37 = .ok (.aload_n 1, 1) := by decide +kernel
theorem dX7_latenessBy_38 : decode cX7_latenessBy 38 = .ok (.getfield 116, 3) := by decide +kernel
theorem dX7_latenessBy_41 : decode cX7_latenessBy 41 = .ok (.iload 4, 2) := by decide +kernel
theorem dX7_latenessBy_43 : decode cX7_latenessBy 43 = .ok (.iaload, 1) := by decide +kernel
theorem dX7_latenessBy_44 : decode cX7_latenessBy 44 = .ok (.invokestatic 103, 3) := by decide +kernel
theorem dX7_latenessBy_47 : decode cX7_latenessBy 47 = .ok (.iaload, 1) := by decide +kernel
theorem dX7_latenessBy_48 : decode cX7_latenessBy 48 = .ok (.invokestatic 128, 3) := by decide +kernel
theorem dX7_latenessBy_51 : decode cX7_latenessBy 51 = .ok (.iadd, 1) := by decide +kernel
theorem dX7_latenessBy_52 : decode cX7_latenessBy 52 = .ok (.ireturn, 1) := by decide +kernel
theorem dX7_isNext_0 : decode cX7_isNext 0 = .ok (.aload_n 1, 1) := by decide +kernel
theorem dX7_isNext_1 : decode cX7_isNext 1 = .ok (.iload_n 2, 1) := by decide +kernel
theorem dX7_isNext_2 : decode cX7_isNext 2 = .ok (.iload_n 3, 1) := by decide +kernel
theorem dX7_isNext_3 : decode cX7_isNext 3 = .ok (.invokevirtual 61, 3) := by decide +kernel
theorem dX7_isNext_6 : decode cX7_isNext 6 = .ok (.ifCond .ne 20, 3) := by decide +kernel
theorem dX7_isNext_9 : decode cX7_isNext 9 = .ok (.aload_n 0, 1) := by decide +kernel
theorem dX7_isNext_10 : decode cX7_isNext 10 = .ok (.getfield 21, 3) := by decide +kernel
theorem dX7_isNext_13 : decode cX7_isNext 13 = .ok (.iload_n 3, 1) := by decide +kernel
theorem dX7_isNext_14 : decode cX7_isNext 14 = .ok (.iaload, 1) := by decide +kernel
theorem dX7_isNext_15 : decode cX7_isNext 15 = .ok (.iload_n 2, 1) := by decide +kernel
theorem dX7_isNext_16 : decode cX7_isNext 16 = .ok (.iconst (-1), 1) := by decide +kernel
theorem dX7_isNext_17 : decode cX7_isNext 17 = .ok (.ixor, 1) := by decide +kernel
theorem dX7_isNext_18 : decode cX7_isNext 18 = .ok (.iand, 1) := by decide +kernel
theorem dX7_isNext_19 : decode cX7_isNext 19 = .ok (.ifCond .ne 7, 3) := by decide +kernel
theorem dX7_isNext_22 : decode cX7_isNext 22 = .ok (.iconst 1, 1) := by decide +kernel
theorem dX7_isNext_23 : decode cX7_isNext 23 = .ok (.goto 4, 3) := by decide +kernel
theorem dX7_isNext_26 : decode cX7_isNext 26 = .ok (.iconst 0, 1) := by decide +kernel
theorem dX7_isNext_27 : decode cX7_isNext 27 = .ok (.ireturn, 1) := by decide +kernel
theorem dX7_state_0 : decode cX7_state 0 = .ok (.iload_n 0, 1) := by decide +kernel
theorem dX7_state_1 : decode cX7_state 1 = .ok (.iconst 5, 1) := by decide +kernel
theorem dX7_state_2 : decode cX7_state 2 = .ok (.imul, 1) := by decide +kernel
theorem dX7_state_3 : decode cX7_state 3 = .ok (.iload_n 1, 1) := by decide +kernel
theorem dX7_state_4 : decode cX7_state 4 = .ok (.iadd, 1) := by decide +kernel
theorem dX7_state_5 : decode cX7_state 5 = .ok (.ireturn, 1) := by decide +kernel
theorem dX8_init_0 : decode cX8_init 0 = .ok (.aload_n 0, 1) := by decide +kernel
theorem dX8_init_1 : decode cX8_init 1 = .ok (.invokespecial 3, 3) := by decide +kernel
theorem dX8_init_4 : decode cX8_init 4 = .ok (.aload_n 0, 1) := by decide +kernel
theorem dX8_init_5 : decode cX8_init 5 = .ok (.bipush 10, 2) := by decide +kernel
theorem dX8_init_7 : decode cX8_init 7 = .ok (.newarray .int, 2) := by decide +kernel
theorem dX8_init_9 : decode cX8_init 9 = .ok (.putfield 9, 3) := by decide +kernel
theorem dX8_init_12 : decode cX8_init 12 = .ok (.return_, 1) := by decide +kernel
theorem dX8_isOnTime_0 : decode cX8_isOnTime 0 = .ok (.aload_n 1, 1) := by decide +kernel
theorem dX8_isOnTime_1 : decode cX8_isOnTime 1 = .ok (.aload_n 0, 1) := by decide +kernel
theorem dX8_isOnTime_2 : decode cX8_isOnTime 2 = .ok (.getfield 9, 3) := by decide +kernel
theorem dX8_isOnTime_5 : decode cX8_isOnTime 5 = .ok (.getstatic 15, 3) := by decide +kernel
theorem dX8_isOnTime_8 : decode cX8_isOnTime 8 = .ok (.invokevirtual 21, 3) := by decide +kernel
theorem dX8_isOnTime_11 : decode cX8_isOnTime 11 = .ok (.aload_n 0, 1) := by decide +kernel
theorem dX8_isOnTime_12 : decode cX8_isOnTime 12 = .ok (.aload_n 1, 1) := by decide +kernel
theorem dX8_isOnTime_13 : decode cX8_isOnTime 13 = .ok (.iload_n 2, 1) := by decide +kernel
theorem dX8_isOnTime_14 : decode cX8_isOnTime 14 = .ok (.invokevirtual 27, 3) := by decide +kernel
theorem dX8_isOnTime_17 : decode cX8_isOnTime 17 = .ok (.ireturn, 1) := by decide +kernel
theorem dX8_mostOnTime_0 : decode cX8_mostOnTime 0 = .ok (.aload_n 1, 1) := by decide +kernel
theorem dX8_mostOnTime_1 : decode cX8_mostOnTime 1 = .ok (.aload_n 0, 1) := by decide +kernel
theorem dX8_mostOnTime_2 : decode cX8_mostOnTime 2 = .ok (.getfield 9, 3) := by decide +kernel
theorem dX8_mostOnTime_5 : decode cX8_mostOnTime 5 = .ok (.getstatic 15, 3) := by decide +kernel
theorem dX8_mostOnTime_8 : decode cX8_mostOnTime 8 = .ok (.invokevirtual 21, 3) := by decide +kernel
theorem dX8_mostOnTime_11 : decode cX8_mostOnTime 11 = .ok (.iconst 0, 1) := by decide +kernel
theorem dX8_mostOnTime_12 : decode cX8_mostOnTime 12 = .ok (.istore_n 2, 1) := by decide +kernel
theorem dX8_mostOnTime_13 : decode cX8_mostOnTime 13 = .ok (.iconst 0, 1) := by decide +kernel
theorem dX8_mostOnTime_14 : decode cX8_mostOnTime 14 = .ok (.istore_n 3, 1) := by decide +kernel
theorem dX8_mostOnTime_15 : decode cX8_mostOnTime 15 = .ok (.iload_n 3, 1) := by decide +kernel
theorem dX8_mostOnTime_16 : decode cX8_mostOnTime 16 = .ok (.aload_n 1, 1) := by decide +kernel
theorem dX8_mostOnTime_17 : decode cX8_mostOnTime 17 = .ok (.invokevirtual 31, 3) := by decide +kernel
theorem dX8_mostOnTime_20 : decode cX8_mostOnTime 20 = .ok (.if_icmp .gt 31, 3) := by decide +kernel
theorem dX8_mostOnTime_23 : decode cX8_mostOnTime 23 = .ok (.iload_n 3, 1) := by decide +kernel
theorem dX8_mostOnTime_24 : decode cX8_mostOnTime 24 = .ok (.invokestatic 35, 3) := by decide +kernel
theorem dX8_mostOnTime_27 : decode cX8_mostOnTime 27 = .ok (.iload_n 2, 1) := by decide +kernel
theorem dX8_mostOnTime_28 : decode cX8_mostOnTime 28 = .ok (.if_icmp .le 17, 3) := by decide +kernel
theorem dX8_mostOnTime_31 : decode cX8_mostOnTime 31 = .ok (.aload_n 0, 1) := by decide +kernel
theorem dX8_mostOnTime_32 : decode cX8_mostOnTime 32 = .ok (.aload_n 1, 1) := by decide +kernel
theorem dX8_mostOnTime_33 : decode cX8_mostOnTime 33 = .ok (.iload_n 3, 1) := by decide +kernel
theorem dX8_mostOnTime_34 : decode cX8_mostOnTime 34 = .ok (.invokevirtual 27, 3) := by decide +kernel
theorem dX8_mostOnTime_37 : decode cX8_mostOnTime 37 = .ok (.ifCond .eq 8, 3) := by decide +kernel
theorem dX8_mostOnTime_40 : decode cX8_mostOnTime 40 = .ok (.iload_n 3, 1) := by decide +kernel
theorem dX8_mostOnTime_41 : decode cX8_mostOnTime 41 = .ok (.invokestatic 35, 3) := by decide +kernel
theorem dX8_mostOnTime_44 : decode cX8_mostOnTime 44 = .ok (.istore_n 2, 1) := by decide +kernel
theorem dX8_mostOnTime_45 : decode cX8_mostOnTime 45 = .ok (.iinc 3 1, 3) := by decide +kernel
theorem dX8_mostOnTime_48 : decode cX8_mostOnTime 48 = .ok (.goto (-33), 3) := by decide +kernel
theorem dX8_mostOnTime_51 : decode cX8_mostOnTime 51 = .ok (.iload_n 2, 1) := by decide +kernel
theorem dX8_mostOnTime_52 : decode cX8_mostOnTime 52 = .ok (.ireturn, 1) := by decide +kernel
theorem dX8_isOnTimeByDue_0 : decode cX8_isOnTimeByDue 0 = .ok (.iconst 0, 1) := by decide +kernel
theorem dX8_isOnTimeByDue_1 : decode cX8_isOnTimeByDue 1 = .ok (.istore_n 3, 1) := by decide +kernel
theorem dX8_isOnTimeByDue_2 : decode cX8_isOnTimeByDue 2 = .ok (.iconst 0, 1) := by decide +kernel
theorem dX8_isOnTimeByDue_3 : decode cX8_isOnTimeByDue 3 = .ok (.istore 4, 2) := by decide +kernel
theorem dX8_isOnTimeByDue_5 : decode cX8_isOnTimeByDue 5 = .ok (.iload 4, 2) := by decide +kernel
theorem dX8_isOnTimeByDue_7 : decode cX8_isOnTimeByDue 7 = .ok (.aload_n 1, 1) := by decide +kernel
theorem dX8_isOnTimeByDue_8 : decode cX8_isOnTimeByDue 8 = .ok (.getfield 41, 3) := by decide +kernel
theorem dX8_isOnTimeByDue_11 : decode cX8_isOnTimeByDue 11 = .ok (.if_icmp .ge 51, 3) := by decide +kernel
theorem dX8_isOnTimeByDue_14 : decode cX8_isOnTimeByDue 14 = .ok (.aload_n 0, 1) := by decide +kernel
theorem dX8_isOnTimeByDue_15 : decode cX8_isOnTimeByDue 15 = .ok (.getfield 9, 3) := by decide +kernel
theorem dX8_isOnTimeByDue_18 : decode cX8_isOnTimeByDue 18 = .ok (.iload 4, 2) := by decide +kernel
theorem dX8_isOnTimeByDue_20 : decode cX8_isOnTimeByDue 20 = .ok (.iaload, 1) := by decide +kernel
theorem dX8_isOnTimeByDue_21 : decode cX8_isOnTimeByDue 21 = .ok (.istore 5, 2) := by decide +kernel
theorem dX8_isOnTimeByDue_23 : decode cX8_isOnTimeByDue 23 = .ok (.aload_n 1, 1) := by decide +kernel
theorem dX8_isOnTimeByDue_24 : decode cX8_isOnTimeByDue 24 = .ok (.iload_n 2, 1) := by decide +kernel
theorem dX8_isOnTimeByDue_25 : decode cX8_isOnTimeByDue 25 = .ok (.iload 5, 2) := by decide +kernel
theorem dX8_isOnTimeByDue_27 : decode cX8_isOnTimeByDue 27 = .ok (.invokevirtual 45, 3) := by decide +kernel
theorem dX8_isOnTimeByDue_30 : decode cX8_isOnTimeByDue 30 = .ok (.ifCond .eq 26, 3) := by decide +kernel
theorem dX8_isOnTimeByDue_33 : decode cX8_isOnTimeByDue 33 = .ok (.iload_n 3, 1) := by decide +kernel
theorem dX8_isOnTimeByDue_34 : decode cX8_isOnTimeByDue 34 = .ok (.aload_n 1, 1) := by decide +kernel
theorem dX8_isOnTimeByDue_35 : decode cX8_isOnTimeByDue 35 = .ok (.getfield 49, 3) := by decide +kernel
theorem dX8_isOnTimeByDue_38 : decode cX8_isOnTimeByDue 38 = .ok (.iload 5, 2) := by decide +kernel
theorem dX8_isOnTimeByDue_40 : decode cX8_isOnTimeByDue 40 = .ok (.iaload, 1) := by decide +kernel
theorem dX8_isOnTimeByDue_41 : decode cX8_isOnTimeByDue 41 = .ok (.iadd, 1) := by decide +kernel
theorem dX8_isOnTimeByDue_42 : decode cX8_isOnTimeByDue 42 = .ok (.istore_n 3, 1) := by decide +kernel
theorem dX8_isOnTimeByDue_43 : decode cX8_isOnTimeByDue 43 = .ok (.iload_n 3, 1) := by decide +kernel
theorem dX8_isOnTimeByDue_44 : decode cX8_isOnTimeByDue 44 = .ok (.aload_n 1, 1) := by decide +kernel
theorem dX8_isOnTimeByDue_45 : decode cX8_isOnTimeByDue 45 = .ok (.getfield 52, 3) := by decide +kernel
theorem dX8_isOnTimeByDue_48 : decode cX8_isOnTimeByDue 48 = .ok (.iload 5, 2) := by decide +kernel
theorem dX8_isOnTimeByDue_50 : decode cX8_isOnTimeByDue 50 = .ok (.iaload, 1) := by decide +kernel
theorem dX8_isOnTimeByDue_51 : decode cX8_isOnTimeByDue 51 = .ok (.if_icmp .le 5, 3) := by decide +kernel
theorem dX8_isOnTimeByDue_54 : decode cX8_isOnTimeByDue 54 = .ok (.iconst 0, 1) := by decide +kernel
theorem dX8_isOnTimeByDue_55 : decode cX8_isOnTimeByDue 55 = .ok (.ireturn, 1) := by decide +kernel
theorem dX8_isOnTimeByDue_56 : decode cX8_isOnTimeByDue 56 = .ok (.iinc 4 1, 3) := by decide +kernel
theorem dX8_isOnTimeByDue_59 : decode cX8_isOnTimeByDue 59 = .ok (.goto (-54), 3) := by decide +kernel
theorem dX8_isOnTimeByDue_62 : decode cX8_isOnTimeByDue 62 = .ok (.iconst 1, 1) := by decide +kernel
theorem dX8_isOnTimeByDue_63 : decode cX8_isOnTimeByDue 63 = .ok (.ireturn, 1) := by decide +kernel
theorem dX10_init_0 : decode cX10_init 0 = .ok (.aload_n 0, 1) := by decide +kernel
theorem dX10_init_1 : decode cX10_init 1 = .ok (.invokespecial 3, 3) := by decide +kernel
theorem dX10_init_4 : decode cX10_init 4 = .ok (.return_, 1) := by decide +kernel
theorem dX10_findGreatest_0 : decode cX10_findGreatest 0 = .ok (.aload_n 0, 1) := by decide +kernel
theorem dX10_findGreatest_1 : decode cX10_findGreatest 1 = .ok (.ldc 9, 2) := by decide +kernel
theorem dX10_findGreatest_3 : decode cX10_findGreatest 3 = .ok (.putfield 10, 3) := by decide +kernel
theorem dX10_findGreatest_6 : decode cX10_findGreatest 6 = .ok (.iconst 0, 1) := by decide +kernel
theorem dX10_findGreatest_7 : decode cX10_findGreatest 7 = .ok (.istore_n 3, 1) := by decide +kernel
theorem dX10_findGreatest_8 : decode cX10_findGreatest 8 = .ok (.iload_n 3, 1) := by decide +kernel
theorem dX10_findGreatest_9 : decode cX10_findGreatest 9 = .ok (.aload_n 1, 1) := by decide +kernel
theorem dX10_findGreatest_10 : decode cX10_findGreatest 10 = .ok (.getfield 16, 3) := by decide +kernel
theorem dX10_findGreatest_13 : decode cX10_findGreatest 13 = .ok (.if_icmp .ge 54, 3) := by decide +kernel
theorem dX10_findGreatest_16 : decode cX10_findGreatest 16 = .ok (.iconst 0, 1) := by decide +kernel
theorem dX10_findGreatest_17 : decode cX10_findGreatest 17 = .ok (.istore 4, 2) := by decide +kernel
theorem dX10_findGreatest_19 : decode cX10_findGreatest 19 = .ok (.iload 4, 2) := by decide +kernel
theorem dX10_findGreatest_21 : decode cX10_findGreatest 21 = .ok (.aload_n 1, 1) := by decide +kernel
theorem dX10_findGreatest_22 : decode cX10_findGreatest 22 = .ok (.getfield 16, 3) := by decide +kernel
theorem dX10_findGreatest_25 : decode cX10_findGreatest 25 = .ok (.if_icmp .ge 36, 3) := by decide +kernel
theorem dX10_findGreatest_28 : decode cX10_findGreatest 28 = .ok (.aload_n 0, 1) := by decide +kernel
theorem dX10_findGreatest_29 : decode cX10_findGreatest 29 = .ok (.aload_n 1, 1) := by decide +kernel
theorem dX10_findGreatest_30 : decode cX10_findGreatest 30 = .ok (.iload_n 2, 1) := by decide +kernel
theorem dX10_findGreatest_31 : decode cX10_findGreatest 31 = .ok (.iload_n 2, 1) := by decide +kernel
theorem dX10_findGreatest_32 : decode cX10_findGreatest 32 = .ok (.ifCond .eq 12, 3) := by decide +kernel
theorem dX10_findGreatest_35 : decode cX10_findGreatest 35 = .ok (.aload_n 1, 1) := by decide +kernel
theorem dX10_findGreatest_36 : decode cX10_findGreatest 36 = .ok (.getfield 21, 3) := by decide +kernel
theorem dX10_findGreatest_39 : decode cX10_findGreatest 39 = .ok (.iload_n 3, 1) := by decide +kernel
theorem dX10_findGreatest_40 : decode cX10_findGreatest 40 = .ok (.iaload, 1) := by decide +kernel
theorem dX10_findGreatest_41 : decode cX10_findGreatest 41 = .ok (.goto 4, 3) := by decide +kernel
theorem dX10_findGreatest_44 : decode cX10_findGreatest 44 = .ok (.iconst 0, 1) := by decide +kernel
theorem dX10_findGreatest_45 : decode cX10_findGreatest 45 = .ok (.aload_n 1, 1) := by decide +kernel
theorem dX10_findGreatest_46 : decode cX10_findGreatest 46 = .ok (.getfield 25, 3) := by decide +kernel
theorem dX10_findGreatest_49 : decode cX10_findGreatest 49 = .ok (.iload 4, 2) := by decide +kernel
theorem dX10_findGreatest_51 : decode cX10_findGreatest 51 = .ok (.iaload, 1) := by decide +kernel
theorem dX10_findGreatest_52 : decode cX10_findGreatest 52 = .ok (.invokevirtual 28, 3) := by decide +kernel
theorem dX10_findGreatest_55 : decode cX10_findGreatest 55 = .ok (.iinc 4 1, 3) := by decide +kernel
theorem dX10_findGreatest_58 : decode cX10_findGreatest 58 = .ok (.goto (-39), 3) := by decide +kernel
theorem dX10_findGreatest_61 : decode cX10_findGreatest 61 = .ok (.iinc 3 1, 3) := by decide +kernel
theorem dX10_findGreatest_64 : decode cX10_findGreatest 64 = .ok (.goto (-56), 3) := by decide +kernel
theorem dX10_findGreatest_67 : decode cX10_findGreatest 67 = .ok (.return_, 1) := by decide +kernel
theorem dX10_tryWindow_0 : decode cX10_tryWindow 0 = .ok (.aload_n 1, 1) := by decide +kernel
theorem dX10_tryWindow_1 : decode cX10_tryWindow 1 = .ok (.iload_n 2, 1) := by decide +kernel
theorem dX10_tryWindow_2 : decode cX10_tryWindow 2 = .ok (.iload_n 3, 1) := by decide +kernel
theorem dX10_tryWindow_3 : decode cX10_tryWindow 3 = .ok (.iload 4, 2) := by decide +kernel
theorem dX10_tryWindow_5 : decode cX10_tryWindow 5 = .ok (.invokestatic 32, 3) := by decide +kernel
theorem dX10_tryWindow_8 : decode cX10_tryWindow 8 = .ok (.istore 5, 2) := by decide +kernel
theorem dX10_tryWindow_10 : decode cX10_tryWindow 10 = .ok (.iload_n 3, 1) := by decide +kernel
theorem dX10_tryWindow_11 : decode cX10_tryWindow 11 = .ok (.iload 5, 2) := by decide +kernel
theorem dX10_tryWindow_13 : decode cX10_tryWindow 13 = .ok (.iadd, 1) := by decide +kernel
theorem dX10_tryWindow_14 : decode cX10_tryWindow 14 = .ok (.iload 4, 2) := by decide +kernel
theorem dX10_tryWindow_16 : decode cX10_tryWindow 16 = .ok (.isub, 1) := by decide +kernel
theorem dX10_tryWindow_17 : decode cX10_tryWindow 17 = .ok (.istore 6, 2) := by decide +kernel
theorem dX10_tryWindow_19 : decode cX10_tryWindow 19 = .ok (.iload 5, 2) := by decide +kernel
theorem dX10_tryWindow_21 : decode cX10_tryWindow 21 = .ok (.ifCond .le 32, 3) := by decide +kernel
theorem dX10_tryWindow_24 : decode cX10_tryWindow 24 = .ok (.aload_n 0, 1) := by decide +kernel
theorem dX10_tryWindow_25 : decode cX10_tryWindow 25 = .ok (.iload 6, 2) := by decide +kernel
theorem dX10_tryWindow_27 : decode cX10_tryWindow 27 = .ok (.iload 4, 2) := by decide +kernel
theorem dX10_tryWindow_29 : decode cX10_tryWindow 29 = .ok (.iload_n 3, 1) := by decide +kernel
theorem dX10_tryWindow_30 : decode cX10_tryWindow 30 = .ok (.invokevirtual 36, 3) := by decide +kernel
theorem dX10_tryWindow_33 : decode cX10_tryWindow 33 = .ok (.ifCond .eq 20, 3) := by decide +kernel
theorem dX10_tryWindow_36 : decode cX10_tryWindow 36 = .ok (.aload_n 0, 1) := by decide +kernel
theorem dX10_tryWindow_37 : decode cX10_tryWindow 37 = .ok (.iload 6, 2) := by decide +kernel
theorem dX10_tryWindow_39 : decode cX10_tryWindow 39 = .ok (.putfield 10, 3) := by decide +kernel
theorem dX10_tryWindow_42 : decode cX10_tryWindow 42 = .ok (.aload_n 0, 1) := by decide +kernel
theorem dX10_tryWindow_43 : decode cX10_tryWindow 43 = .ok (.iload 4, 2) := by decide +kernel
theorem dX10_tryWindow_45 : decode cX10_tryWindow 45 = .ok (.putfield 40, 3) := by decide +kernel
theorem dX10_tryWindow_48 : decode cX10_tryWindow 48 = .ok (.aload_n 0, 1) := by decide +kernel
theorem dX10_tryWindow_49 : decode cX10_tryWindow 49 = .ok (.iload_n 3, 1) := by decide +kernel
theorem dX10_tryWindow_50 : decode cX10_tryWindow 50 = .ok (.putfield 42, 3) := by decide +kernel
theorem dX10_tryWindow_53 : decode cX10_tryWindow 53 = .ok (.return_, 1) := by decide +kernel
theorem dX10_isBetter_0 : decode cX10_isBetter 0 = .ok (.iload_n 1, 1) := by decide +kernel
theorem dX10_isBetter_1 : decode cX10_isBetter 1 = .ok (.aload_n 0, 1) := by decide +kernel
theorem dX10_isBetter_2 : decode cX10_isBetter 2 = .ok (.getfield 10, 3) := by decide +kernel
theorem dX10_isBetter_5 : decode cX10_isBetter 5 = .ok (.if_icmp .eq 17, 3) := by decide +kernel
theorem dX10_isBetter_8 : decode cX10_isBetter 8 = .ok (.iload_n 1, 1) := by decide +kernel
theorem dX10_isBetter_9 : decode cX10_isBetter 9 = .ok (.aload_n 0, 1) := by decide +kernel
theorem dX10_isBetter_10 : decode cX10_isBetter 10 = .ok (.getfield 10, 3) := by decide +kernel
theorem dX10_isBetter_13 : decode cX10_isBetter 13 = .ok (.if_icmp .le 7, 3) := by decide +kernel
theorem dX10_isBetter_16 : decode cX10_isBetter 16 = .ok (.iconst 1, 1) := by decide +kernel
theorem dX10_isBetter_17 : decode cX10_isBetter 17 = .ok (.goto 4, 3) := by decide +kernel
theorem dX10_isBetter_20 : decode cX10_isBetter 20 = .ok (.iconst 0, 1) := by decide +kernel
theorem dX10_isBetter_21 : decode cX10_isBetter 21 = .ok (.ireturn, 1) := by decide +kernel
theorem dX10_isBetter_22 : decode cX10_isBetter 22 = .ok (.iload_n 2, 1) := by decide +kernel
theorem dX10_isBetter_23 : decode cX10_isBetter 23 = .ok (.aload_n 0, 1) := by decide +kernel
theorem dX10_isBetter_24 : decode cX10_isBetter 24 = .ok (.getfield 40, 3) := by decide +kernel
theorem dX10_isBetter_27 : decode cX10_isBetter 27 = .ok (.if_icmp .eq 19, 3) := by decide +kernel
theorem dX10_isBetter_30 : decode cX10_isBetter 30 = .ok (.iload_n 2, 1) := by decide +kernel
theorem dX10_isBetter_31 : decode cX10_isBetter 31 = .ok (.aload_n 0, 1) := by decide +kernel
theorem dX10_isBetter_32 : decode cX10_isBetter 32 = .ok (.getfield 40, 3) := by decide +kernel
theorem dX10_isBetter_35 : decode cX10_isBetter 35 = .ok (.if_icmp .ge 7, 3) := by decide +kernel
theorem dX10_isBetter_38 : decode cX10_isBetter 38 = .ok (.iconst 1, 1) := by decide +kernel
theorem dX10_isBetter_39 : decode cX10_isBetter 39 = .ok (.goto 20, 3) := by decide +kernel
theorem dX10_isBetter_42 : decode cX10_isBetter 42 = .ok (.iconst 0, 1) := by decide +kernel
theorem dX10_isBetter_43 : decode cX10_isBetter 43 = .ok (.goto 16, 3) := by decide +kernel
theorem dX10_isBetter_46 : decode cX10_isBetter 46 = .ok (.iload_n 3, 1) := by decide +kernel
theorem dX10_isBetter_47 : decode cX10_isBetter 47 = .ok (.aload_n 0, 1) := by decide +kernel
theorem dX10_isBetter_48 : decode cX10_isBetter 48 = .ok (.getfield 42, 3) := by decide +kernel
theorem dX10_isBetter_51 : decode cX10_isBetter 51 = .ok (.if_icmp .ge 7, 3) := by decide +kernel
theorem dX10_isBetter_54 : decode cX10_isBetter 54 = .ok (.iconst 1, 1) := by decide +kernel
theorem dX10_isBetter_55 : decode cX10_isBetter 55 = .ok (.goto 4, 3) := by decide +kernel
theorem dX10_isBetter_58 : decode cX10_isBetter 58 = .ok (.iconst 0, 1) := by decide +kernel
theorem dX10_isBetter_59 : decode cX10_isBetter 59 = .ok (.ireturn, 1) := by decide +kernel
theorem dX10_lengthsWithin_0 : decode cX10_lengthsWithin 0 = .ok (.iconst 0, 1) := by decide +kernel
theorem dX10_lengthsWithin_1 : decode cX10_lengthsWithin 1 = .ok (.istore 4, 2) := by decide +kernel
theorem dX10_lengthsWithin_3 : decode cX10_lengthsWithin 3 = .ok (.iconst 0, 1) := by decide +kernel
theorem dX10_lengthsWithin_4 : decode cX10_lengthsWithin 4 = .ok (.istore 5, 2) := by decide +kernel
theorem dX10_lengthsWithin_6 : decode cX10_lengthsWithin 6 = .ok (.iload 5, 2) := by decide +kernel
theorem dX10_lengthsWithin_8 : decode cX10_lengthsWithin 8 = .ok (.aload_n 0, 1) := by decide +kernel
theorem dX10_lengthsWithin_9 : decode cX10_lengthsWithin 9 = .ok (.getfield 16, 3) := by decide +kernel
theorem dX10_lengthsWithin_12 : decode cX10_lengthsWithin 12 = .ok (.if_icmp .ge 59, 3) := by decide +kernel
theorem dX10_lengthsWithin_15 : decode cX10_lengthsWithin 15 = .ok (.iload_n 1, 1) := by decide +kernel
theorem dX10_lengthsWithin_16 : decode cX10_lengthsWithin 16 = .ok (.ifCond .eq 14, 3) := by decide +kernel
theorem dX10_lengthsWithin_19 : decode cX10_lengthsWithin 19 = .ok (.aload_n 0, 1) := by decide +kernel
theorem dX10_lengthsWithin_20 : decode cX10_lengthsWithin 20 = .ok (.getfield 21, 3) := by decide +kernel
theorem dX10_lengthsWithin_23 : decode cX10_lengthsWithin 23 = .ok (.iload 5, 2) := by decide +kernel
theorem dX10_lengthsWithin_25 : decode cX10_lengthsWithin 25 = .ok (.iaload, 1) := by decide +kernel
theorem dX10_lengthsWithin_26 : decode cX10_lengthsWithin 26 = .ok (.iload_n 2, 1) := by decide +kernel
theorem dX10_lengthsWithin_27 : decode cX10_lengthsWithin 27 = .ok (.if_icmp .lt 7, 3) := by decide +kernel
theorem dX10_lengthsWithin_30 : decode cX10_lengthsWithin 30 = .ok (.iconst 1, 1) := by decide +kernel
theorem dX10_lengthsWithin_31 : decode cX10_lengthsWithin 31 = .ok (.goto 4, 3) := by decide +kernel
theorem dX10_lengthsWithin_34 : decode cX10_lengthsWithin 34 = .ok (.iconst 0, 1) := by decide +kernel
theorem dX10_lengthsWithin_35 : decode cX10_lengthsWithin 35 = .ok (.istore 6, 2) := by decide +kernel
theorem dX10_lengthsWithin_37 : decode cX10_lengthsWithin 37 = .ok (.iload 6, 2) := by decide +kernel
theorem dX10_lengthsWithin_39 : decode cX10_lengthsWithin 39 = .ok (.ifCond .eq 26, 3) := by decide +kernel
theorem dX10_lengthsWithin_42 : decode cX10_lengthsWithin 42 = .ok (.aload_n 0, 1) := by decide +kernel
theorem dX10_lengthsWithin_43 : decode cX10_lengthsWithin 43 = .ok (.getfield 25, 3) := by decide +kernel
theorem dX10_lengthsWithin_46 : decode cX10_lengthsWithin 46 = .ok (.iload 5, 2) := by decide +kernel
theorem dX10_lengthsWithin_48 : decode cX10_lengthsWithin 48 = .ok (.iaload, 1) := by decide +kernel
theorem dX10_lengthsWithin_49 : decode cX10_lengthsWithin 49 = .ok (.iload_n 3, 1) := by decide +kernel
theorem dX10_lengthsWithin_50 : decode cX10_lengthsWithin 50 = .ok (.if_icmp .gt 15, 3) := by decide +kernel
theorem dX10_lengthsWithin_53 : decode cX10_lengthsWithin 53 = .ok (.iload 4, 2) := by decide +kernel
theorem dX10_lengthsWithin_55 : decode cX10_lengthsWithin 55 = .ok (.aload_n 0, 1) := by decide +kernel
theorem dX10_lengthsWithin_56 : decode cX10_lengthsWithin 56 = .ok (.getfield 44, 3) := by decide +kernel
theorem dX10_lengthsWithin_59 : decode cX10_lengthsWithin 59 = .ok (.iload 5, 2) := by decide +kernel
theorem dX10_lengthsWithin_61 : decode cX10_lengthsWithin 61 = .ok (.iaload, 1) := by decide +kernel
theorem dX10_lengthsWithin_62 : decode cX10_lengthsWithin 62 = .ok (.iadd, 1) := by decide +kernel
theorem dX10_lengthsWithin_63 : decode cX10_lengthsWithin 63 = .ok (.istore 4, 2) := by decide +kernel
theorem dX10_lengthsWithin_65 : decode cX10_lengthsWithin 65 = .ok (.iinc 5 1, 3) := by decide +kernel
theorem dX10_lengthsWithin_68 : decode cX10_lengthsWithin 68 = .ok (.goto (-62), 3) := by decide +kernel
theorem dX10_lengthsWithin_71 : decode cX10_lengthsWithin 71 = .ok (.iload 4, 2) := by decide +kernel
theorem dX10_lengthsWithin_73 : decode cX10_lengthsWithin 73 = .ok (.ireturn, 1) := by decide +kernel
theorem dX11_init_0 : decode cX11_init 0 = .ok (.aload_n 0, 1) := by decide +kernel
theorem dX11_init_1 : decode cX11_init 1 = .ok (.invokespecial 3, 3) := by decide +kernel
theorem dX11_init_4 : decode cX11_init 4 = .ok (.aload_n 0, 1) := by decide +kernel
theorem dX11_init_5 : decode cX11_init 5 = .ok (.new 9, 3) := by decide +kernel
theorem dX11_init_8 : decode cX11_init 8 = .ok (.dup, 1) := by decide +kernel
theorem dX11_init_9 : decode cX11_init 9 = .ok (.invokespecial 11, 3) := by decide +kernel
theorem dX11_init_12 : decode cX11_init 12 = .ok (.putfield 12, 3) := by decide +kernel
theorem dX11_init_15 : decode cX11_init 15 = .ok (.aload_n 0, 1) := by decide +kernel
theorem dX11_init_16 : decode cX11_init 16 = .ok (.new 16, 3) := by decide +kernel
theorem dX11_init_19 : decode cX11_init 19 = .ok (.dup, 1) := by decide +kernel
theorem dX11_init_20 : decode cX11_init 20 = .ok (.invokespecial 18, 3) := by decide +kernel
theorem dX11_init_23 : decode cX11_init 23 = .ok (.putfield 19, 3) := by decide +kernel
theorem dX11_init_26 : decode cX11_init 26 = .ok (.aload_n 0, 1) := by decide +kernel
theorem dX11_init_27 : decode cX11_init 27 = .ok (.new 23, 3) := by decide +kernel
theorem dX11_init_30 : decode cX11_init 30 = .ok (.dup, 1) := by decide +kernel
theorem dX11_init_31 : decode cX11_init 31 = .ok (.invokespecial 25, 3) := by decide +kernel
theorem dX11_init_34 : decode cX11_init 34 = .ok (.putfield 26, 3) := by decide +kernel
theorem dX11_init_37 : decode cX11_init 37 = .ok (.aload_n 0, 1) := by decide +kernel
theorem dX11_init_38 : decode cX11_init 38 = .ok (.new 30, 3) := by decide +kernel
theorem dX11_init_41 : decode cX11_init 41 = .ok (.dup, 1) := by decide +kernel
theorem dX11_init_42 : decode cX11_init 42 = .ok (.invokespecial 32, 3) := by decide +kernel
theorem dX11_init_45 : decode cX11_init 45 = .ok (.putfield 33, 3) := by decide +kernel
theorem dX11_init_48 : decode cX11_init 48 = .ok (.aload_n 0, 1) := by decide +kernel
theorem dX11_init_49 : decode cX11_init 49 = .ok (.new 37, 3) := by decide +kernel
theorem dX11_init_52 : decode cX11_init 52 = .ok (.dup, 1) := by decide +kernel
theorem dX11_init_53 : decode cX11_init 53 = .ok (.invokespecial 39, 3) := by decide +kernel
theorem dX11_init_56 : decode cX11_init 56 = .ok (.putfield 40, 3) := by decide +kernel
theorem dX11_init_59 : decode cX11_init 59 = .ok (.aload_n 0, 1) := by decide +kernel
theorem dX11_init_60 : decode cX11_init 60 = .ok (.new 44, 3) := by decide +kernel
theorem dX11_init_63 : decode cX11_init 63 = .ok (.dup, 1) := by decide +kernel
theorem dX11_init_64 : decode cX11_init 64 = .ok (.invokespecial 46, 3) := by decide +kernel
theorem dX11_init_67 : decode cX11_init 67 = .ok (.putfield 47, 3) := by decide +kernel
theorem dX11_init_70 : decode cX11_init 70 = .ok (.aload_n 0, 1) := by decide +kernel
theorem dX11_init_71 : decode cX11_init 71 = .ok (.new 51, 3) := by decide +kernel
theorem dX11_init_74 : decode cX11_init 74 = .ok (.dup, 1) := by decide +kernel
theorem dX11_init_75 : decode cX11_init 75 = .ok (.invokespecial 53, 3) := by decide +kernel
theorem dX11_init_78 : decode cX11_init 78 = .ok (.putfield 54, 3) := by decide +kernel
theorem dX11_init_81 : decode cX11_init 81 = .ok (.return_, 1) := by decide +kernel
theorem dX11_addJob_0 : decode cX11_addJob 0 = .ok (.iload_n 1, 1) := by decide +kernel
theorem dX11_addJob_1 : decode cX11_addJob 1 = .ok (.iload_n 2, 1) := by decide +kernel
theorem dX11_addJob_2 : decode cX11_addJob 2 = .ok (.iload_n 3, 1) := by decide +kernel
theorem dX11_addJob_3 : decode cX11_addJob 3 = .ok (.iload 4, 2) := by decide +kernel
theorem dX11_addJob_5 : decode cX11_addJob 5 = .ok (.iload 5, 2) := by decide +kernel
theorem dX11_addJob_7 : decode cX11_addJob 7 = .ok (.invokestatic 58, 3) := by decide +kernel
theorem dX11_addJob_10 : decode cX11_addJob 10 = .ok (.aload_n 0, 1) := by decide +kernel
theorem dX11_addJob_11 : decode cX11_addJob 11 = .ok (.getfield 12, 3) := by decide +kernel
theorem dX11_addJob_14 : decode cX11_addJob 14 = .ok (.getfield 62, 3) := by decide +kernel
theorem dX11_addJob_17 : decode cX11_addJob 17 = .ok (.bipush 10, 2) := by decide +kernel
theorem dX11_addJob_19 : decode cX11_addJob 19 = .ok (.if_icmp .lt 13, 3) := by decide +kernel
theorem dX11_addJob_22 : decode cX11_addJob 22 = .ok (.new 66, 3) := by decide +kernel
theorem dX11_addJob_25 : decode cX11_addJob 25 = .ok (.dup, 1) := by decide +kernel
theorem dX11_addJob_26 : decode cX11_addJob 26 = .ok (.ldc 68, 2) := by decide +kernel
theorem dX11_addJob_28 : decode cX11_addJob 28 = .ok (.invokespecial 70, 3) := by decide +kernel
theorem dX11_addJob_31 : decode cX11_addJob 31 = .ok (.athrow, 1) := by decide +kernel
theorem dX11_addJob_32 : decode cX11_addJob 32 = .ok (.aload_n 0, 1) := by decide +kernel
theorem dX11_addJob_33 : decode cX11_addJob 33 = .ok (.getfield 12, 3) := by decide +kernel
theorem dX11_addJob_36 : decode cX11_addJob 36 = .ok (.getfield 62, 3) := by decide +kernel
theorem dX11_addJob_39 : decode cX11_addJob 39 = .ok (.istore 6, 2) := by decide +kernel
theorem dX11_addJob_41 : decode cX11_addJob 41 = .ok (.aload_n 0, 1) := by decide +kernel
theorem dX11_addJob_42 : decode cX11_addJob 42 = .ok (.getfield 12, 3) := by decide +kernel
theorem dX11_addJob_45 : decode cX11_addJob 45 = .ok (.dup, 1) := by decide +kernel
theorem dX11_addJob_46 : decode cX11_addJob 46 = .ok (.getfield 62, 3) := by decide +kernel
theorem dX11_addJob_49 : decode cX11_addJob 49 = .ok (.iconst 1, 1) := by decide +kernel
theorem dX11_addJob_50 : decode cX11_addJob 50 = .ok (.iadd, 1) := by decide +kernel
theorem dX11_addJob_51 : decode cX11_addJob 51 = .ok (.putfield 62, 3) := by decide +kernel
theorem dX11_addJob_54 : decode cX11_addJob 54 = .ok (.aload_n 0, 1) := by decide +kernel
theorem dX11_addJob_55 : decode cX11_addJob 55 = .ok (.getfield 12, 3) := by decide +kernel
theorem dX11_addJob_58 : decode cX11_addJob 58 = .ok (.iload 6, 2) := by decide +kernel
theorem dX11_addJob_60 : decode cX11_addJob 60 = .ok (.iload_n 1, 1) := by decide +kernel
theorem dX11_addJob_61 : decode cX11_addJob 61 = .ok (.iload_n 2, 1) := by decide +kernel
theorem dX11_addJob_62 : decode cX11_addJob 62 = .ok (.iload_n 3, 1) := by decide +kernel
theorem dX11_addJob_63 : decode cX11_addJob 63 = .ok (.iload 4, 2) := by decide +kernel
theorem dX11_addJob_65 : decode cX11_addJob 65 = .ok (.iload 5, 2) := by decide +kernel
theorem dX11_addJob_67 : decode cX11_addJob 67 = .ok (.invokevirtual 73, 3) := by decide +kernel
theorem dX11_addJob_70 : decode cX11_addJob 70 = .ok (.aload_n 0, 1) := by decide +kernel
theorem dX11_addJob_71 : decode cX11_addJob 71 = .ok (.getfield 19, 3) := by decide +kernel
theorem dX11_addJob_74 : decode cX11_addJob 74 = .ok (.invokevirtual 77, 3) := by decide +kernel
theorem dX11_addJob_77 : decode cX11_addJob 77 = .ok (.iload 6, 2) := by decide +kernel
theorem dX11_addJob_79 : decode cX11_addJob 79 = .ok (.ireturn, 1) := by decide +kernel
theorem dX11_changeJob_0 : decode cX11_changeJob 0 = .ok (.aload_n 0, 1) := by decide +kernel
theorem dX11_changeJob_1 : decode cX11_changeJob 1 = .ok (.iload_n 1, 1) := by decide +kernel
theorem dX11_changeJob_2 : decode cX11_changeJob 2 = .ok (.invokevirtual 80, 3) := by decide +kernel
theorem dX11_changeJob_5 : decode cX11_changeJob 5 = .ok (.iload_n 2, 1) := by decide +kernel
theorem dX11_changeJob_6 : decode cX11_changeJob 6 = .ok (.iload_n 3, 1) := by decide +kernel
theorem dX11_changeJob_7 : decode cX11_changeJob 7 = .ok (.iload 4, 2) := by decide +kernel
theorem dX11_changeJob_9 : decode cX11_changeJob 9 = .ok (.iload 5, 2) := by decide +kernel
theorem dX11_changeJob_11 : decode cX11_changeJob 11 = .ok (.iload 6, 2) := by decide +kernel
theorem dX11_changeJob_13 : decode cX11_changeJob 13 = .ok (.invokestatic 58, 3) := by decide +kernel
theorem dX11_changeJob_16 : decode cX11_changeJob 16 = .ok (.aload_n 0, 1) := by decide +kernel
theorem dX11_changeJob_17 : decode cX11_changeJob 17 = .ok (.getfield 12, 3) := by decide +kernel
theorem dX11_changeJob_20 : decode cX11_changeJob 20 = .ok (.iload_n 1, 1) := by decide +kernel
theorem dX11_changeJob_21 : decode cX11_changeJob 21 = .ok (.iload_n 2, 1) := by decide +kernel
theorem dX11_changeJob_22 : decode cX11_changeJob 22 = .ok (.iload_n 3, 1) := by decide +kernel
theorem dX11_changeJob_23 : decode cX11_changeJob 23 = .ok (.iload 4, 2) := by decide +kernel
theorem dX11_changeJob_25 : decode cX11_changeJob 25 = .ok (.iload 5, 2) := by decide +kernel
theorem dX11_changeJob_27 : decode cX11_changeJob 27 = .ok (.iload 6, 2) := by decide +kernel
theorem dX11_changeJob_29 : decode cX11_changeJob 29 = .ok (.invokevirtual 73, 3) := by decide +kernel
theorem dX11_changeJob_32 : decode cX11_changeJob 32 = .ok (.aload_n 0, 1) := by decide +kernel
theorem dX11_changeJob_33 : decode cX11_changeJob 33 = .ok (.getfield 19, 3) := by decide +kernel
theorem dX11_changeJob_36 : decode cX11_changeJob 36 = .ok (.invokevirtual 77, 3) := by decide +kernel
theorem dX11_changeJob_39 : decode cX11_changeJob 39 = .ok (.return_, 1) := by decide +kernel
theorem dX11_removeJob_0 : decode cX11_removeJob 0 = .ok (.aload_n 0, 1) := by decide +kernel
theorem dX11_removeJob_1 : decode cX11_removeJob 1 = .ok (.iload_n 1, 1) := by decide +kernel
theorem dX11_removeJob_2 : decode cX11_removeJob 2 = .ok (.invokevirtual 80, 3) := by decide +kernel
theorem dX11_removeJob_5 : decode cX11_removeJob 5 = .ok (.aload_n 0, 1) := by decide +kernel
theorem dX11_removeJob_6 : decode cX11_removeJob 6 = .ok (.getfield 12, 3) := by decide +kernel
theorem dX11_removeJob_9 : decode cX11_removeJob 9 = .ok (.iload_n 1, 1) := by decide +kernel
theorem dX11_removeJob_10 : decode cX11_removeJob 10 = .ok (.invokevirtual 84, 3) := by decide +kernel
theorem dX11_removeJob_13 : decode cX11_removeJob 13 = .ok (.aload_n 0, 1) := by decide +kernel
theorem dX11_removeJob_14 : decode cX11_removeJob 14 = .ok (.getfield 19, 3) := by decide +kernel
theorem dX11_removeJob_17 : decode cX11_removeJob 17 = .ok (.invokevirtual 77, 3) := by decide +kernel
theorem dX11_removeJob_20 : decode cX11_removeJob 20 = .ok (.aload_n 0, 1) := by decide +kernel
theorem dX11_removeJob_21 : decode cX11_removeJob 21 = .ok (.getfield 12, 3) := by decide +kernel
theorem dX11_removeJob_24 : decode cX11_removeJob 24 = .ok (.getfield 62, 3) := by decide +kernel
theorem dX11_removeJob_27 : decode cX11_removeJob 27 = .ok (.ireturn, 1) := by decide +kernel
theorem dX11_setSetup_0 : decode cX11_setSetup 0 = .ok (.iload_n 1, 1) := by decide +kernel
theorem dX11_setSetup_1 : decode cX11_setSetup 1 = .ok (.iconst 0, 1) := by decide +kernel
theorem dX11_setSetup_2 : decode cX11_setSetup 2 = .ok (.iconst 3, 1) := by decide +kernel
theorem dX11_setSetup_3 : decode cX11_setSetup 3 = .ok (.invokestatic 87, 3) := by decide +kernel
theorem dX11_setSetup_6 : decode cX11_setSetup 6 = .ok (.ifCond .ne 13, 3) := by decide +kernel
theorem dX11_setSetup_9 : decode cX11_setSetup 9 = .ok (.new 91, 3) := by decide +kernel
theorem dX11_setSetup_12 : decode cX11_setSetup 12 = .ok (.dup, 1) := by decide +kernel
theorem dX11_setSetup_13 : decode cX11_setSetup 13 = .ok (.ldc 93, 2) := by decide +kernel
theorem dX11_setSetup_15 : decode cX11_setSetup 15 = .ok (.invokespecial 95, 3) := by decide +kernel
theorem dX11_setSetup_18 : decode cX11_setSetup 18 = .ok (.athrow, 1) := by decide +kernel
theorem dX11_setSetup_19 : decode cX11_setSetup 19 = .ok (.iload_n 2, 1) := by decide +kernel
theorem dX11_setSetup_20 : decode cX11_setSetup 20 = .ok (.iconst 0, 1) := by decide +kernel
theorem dX11_setSetup_21 : decode cX11_setSetup 21 = .ok (.bipush 20, 2) := by decide +kernel
theorem dX11_setSetup_23 : decode cX11_setSetup 23 = .ok (.invokestatic 87, 3) := by decide +kernel
theorem dX11_setSetup_26 : decode cX11_setSetup 26 = .ok (.ifCond .ne 13, 3) := by decide +kernel
theorem dX11_setSetup_29 : decode cX11_setSetup 29 = .ok (.new 96, 3) := by decide +kernel
theorem dX11_setSetup_32 : decode cX11_setSetup 32 = .ok (.dup, 1) := by decide +kernel
theorem dX11_setSetup_33 : decode cX11_setSetup 33 = .ok (.ldc 98, 2) := by decide +kernel
theorem dX11_setSetup_35 : decode cX11_setSetup 35 = .ok (.invokespecial 100, 3) := by decide +kernel
theorem dX11_setSetup_38 : decode cX11_setSetup 38 = .ok (.athrow, 1) := by decide +kernel
theorem dX11_setSetup_39 : decode cX11_setSetup 39 = .ok (.aload_n 0, 1) := by decide +kernel
theorem dX11_setSetup_40 : decode cX11_setSetup 40 = .ok (.getfield 12, 3) := by decide +kernel
theorem dX11_setSetup_43 : decode cX11_setSetup 43 = .ok (.getfield 101, 3) := by decide +kernel
theorem dX11_setSetup_46 : decode cX11_setSetup 46 = .ok (.iload_n 1, 1) := by decide +kernel
theorem dX11_setSetup_47 : decode cX11_setSetup 47 = .ok (.iaload, 1) := by decide +kernel
theorem dX11_setSetup_48 : decode cX11_setSetup 48 = .ok (.istore_n 3, 1) := by decide +kernel
theorem dX11_setSetup_49 : decode cX11_setSetup 49 = .ok (.aload_n 0, 1) := by decide +kernel
theorem dX11_setSetup_50 : decode cX11_setSetup 50 = .ok (.getfield 12, 3) := by decide +kernel
theorem dX11_setSetup_53 : decode cX11_setSetup 53 = .ok (.getfield 101, 3) := by decide +kernel
theorem dX11_setSetup_56 : decode cX11_setSetup 56 = .ok (.iload_n 1, 1) := by decide +kernel
theorem dX11_setSetup_57 : decode cX11_setSetup 57 = .ok (.iload_n 2, 1) := by decide +kernel
theorem dX11_setSetup_58 : decode cX11_setSetup 58 = .ok (.iastore, 1) := by decide +kernel
theorem dX11_setSetup_59 : decode cX11_setSetup 59 = .ok (.aload_n 0, 1) := by decide +kernel
theorem dX11_setSetup_60 : decode cX11_setSetup 60 = .ok (.getfield 19, 3) := by decide +kernel
theorem dX11_setSetup_63 : decode cX11_setSetup 63 = .ok (.invokevirtual 77, 3) := by decide +kernel
theorem dX11_setSetup_66 : decode cX11_setSetup 66 = .ok (.iload_n 3, 1) := by decide +kernel
theorem dX11_setSetup_67 : decode cX11_setSetup 67 = .ok (.ireturn, 1) := by decide +kernel
theorem dX11_jobs_0 : decode cX11_jobs 0 = .ok (.aload_n 0, 1) := by decide +kernel
theorem dX11_jobs_1 : decode cX11_jobs 1 = .ok (.getfield 12, 3) := by decide +kernel
theorem dX11_jobs_4 : decode cX11_jobs 4 = .ok (.getfield 62, 3) := by decide +kernel
theorem dX11_jobs_7 : decode cX11_jobs 7 = .ok (.ireturn, 1) := by decide +kernel
theorem dX11_planByDueDates_0 : decode cX11_planByDueDates 0 = .ok (.aload_n 0, 1) := by decide +kernel
theorem dX11_planByDueDates_1 : decode cX11_planByDueDates 1 = .ok (.invokevirtual 105, 3) := by decide +kernel
theorem dX11_planByDueDates_4 : decode cX11_planByDueDates 4 = .ok (.aload_n 0, 1) := by decide +kernel
theorem dX11_planByDueDates_5 : decode cX11_planByDueDates 5 = .ok (.getfield 26, 3) := by decide +kernel
theorem dX11_planByDueDates_8 : decode cX11_planByDueDates 8 = .ok (.aload_n 0, 1) := by decide +kernel
theorem dX11_planByDueDates_9 : decode cX11_planByDueDates 9 = .ok (.getfield 12, 3) := by decide +kernel
theorem dX11_planByDueDates_12 : decode cX11_planByDueDates 12 = .ok (.invokevirtual 108, 3) := by decide +kernel
theorem dX11_planByDueDates_15 : decode cX11_planByDueDates 15 = .ok (.aload_n 0, 1) := by decide +kernel
theorem dX11_planByDueDates_16 : decode cX11_planByDueDates 16 = .ok (.getfield 19, 3) := by decide +kernel
theorem dX11_planByDueDates_19 : decode cX11_planByDueDates 19 = .ok (.aload_n 0, 1) := by decide +kernel
theorem dX11_planByDueDates_20 : decode cX11_planByDueDates 20 = .ok (.getfield 12, 3) := by decide +kernel
theorem dX11_planByDueDates_23 : decode cX11_planByDueDates 23 = .ok (.aload_n 0, 1) := by decide +kernel
theorem dX11_planByDueDates_24 : decode cX11_planByDueDates 24 = .ok (.getfield 26, 3) := by decide +kernel
theorem dX11_planByDueDates_27 : decode cX11_planByDueDates 27 = .ok (.getfield 112, 3) := by decide +kernel
theorem dX11_planByDueDates_30 : decode cX11_planByDueDates 30 = .ok (.iconst 0, 1) := by decide +kernel
theorem dX11_planByDueDates_31 : decode cX11_planByDueDates 31 = .ok (.invokevirtual 115, 3) := by decide +kernel
theorem dX11_planByDueDates_34 : decode cX11_planByDueDates 34 = .ok (.aload_n 0, 1) := by decide +kernel
theorem dX11_planByDueDates_35 : decode cX11_planByDueDates 35 = .ok (.getfield 19, 3) := by decide +kernel
theorem dX11_planByDueDates_38 : decode cX11_planByDueDates 38 = .ok (.aload_n 0, 1) := by decide +kernel
theorem dX11_planByDueDates_39 : decode cX11_planByDueDates 39 = .ok (.getfield 12, 3) := by decide +kernel
theorem dX11_planByDueDates_42 : decode cX11_planByDueDates 42 = .ok (.getstatic 119, 3) := by decide +kernel
theorem dX11_planByDueDates_45 : decode cX11_planByDueDates 45 = .ok (.invokevirtual 125, 3) := by decide +kernel
theorem dX11_planByDueDates_48 : decode cX11_planByDueDates 48 = .ok (.ireturn, 1) := by decide +kernel
theorem dX11_planFewestLate_0 : decode cX11_planFewestLate 0 = .ok (.aload_n 0, 1) := by decide +kernel
theorem dX11_planFewestLate_1 : decode cX11_planFewestLate 1 = .ok (.invokevirtual 105, 3) := by decide +kernel
theorem dX11_planFewestLate_4 : decode cX11_planFewestLate 4 = .ok (.aload_n 0, 1) := by decide +kernel
theorem dX11_planFewestLate_5 : decode cX11_planFewestLate 5 = .ok (.getfield 26, 3) := by decide +kernel
theorem dX11_planFewestLate_8 : decode cX11_planFewestLate 8 = .ok (.aload_n 0, 1) := by decide +kernel
theorem dX11_planFewestLate_9 : decode cX11_planFewestLate 9 = .ok (.getfield 12, 3) := by decide +kernel
theorem dX11_planFewestLate_12 : decode cX11_planFewestLate 12 = .ok (.invokevirtual 129, 3) := by decide +kernel
theorem dX11_planFewestLate_15 : decode cX11_planFewestLate 15 = .ok (.istore_n 1, 1) := by decide +kernel
theorem dX11_planFewestLate_16 : decode cX11_planFewestLate 16 = .ok (.aload_n 0, 1) := by decide +kernel
theorem dX11_planFewestLate_17 : decode cX11_planFewestLate 17 = .ok (.getfield 19, 3) := by decide +kernel
theorem dX11_planFewestLate_20 : decode cX11_planFewestLate 20 = .ok (.aload_n 0, 1) := by decide +kernel
theorem dX11_planFewestLate_21 : decode cX11_planFewestLate 21 = .ok (.getfield 12, 3) := by decide +kernel
theorem dX11_planFewestLate_24 : decode cX11_planFewestLate 24 = .ok (.aload_n 0, 1) := by decide +kernel
theorem dX11_planFewestLate_25 : decode cX11_planFewestLate 25 = .ok (.getfield 26, 3) := by decide +kernel
theorem dX11_planFewestLate_28 : decode cX11_planFewestLate 28 = .ok (.getfield 112, 3) := by decide +kernel
theorem dX11_planFewestLate_31 : decode cX11_planFewestLate 31 = .ok (.iconst 0, 1) := by decide +kernel
theorem dX11_planFewestLate_32 : decode cX11_planFewestLate 32 = .ok (.invokevirtual 115, 3) := by decide +kernel
theorem dX11_planFewestLate_35 : decode cX11_planFewestLate 35 = .ok (.iload_n 1, 1) := by decide +kernel
theorem dX11_planFewestLate_36 : decode cX11_planFewestLate 36 = .ok (.ireturn, 1) := by decide +kernel
theorem dX11_planByRatios_0 : decode cX11_planByRatios 0 = .ok (.aload_n 0, 1) := by decide +kernel
theorem dX11_planByRatios_1 : decode cX11_planByRatios 1 = .ok (.invokevirtual 105, 3) := by decide +kernel
theorem dX11_planByRatios_4 : decode cX11_planByRatios 4 = .ok (.aload_n 0, 1) := by decide +kernel
theorem dX11_planByRatios_5 : decode cX11_planByRatios 5 = .ok (.getfield 26, 3) := by decide +kernel
theorem dX11_planByRatios_8 : decode cX11_planByRatios 8 = .ok (.aload_n 0, 1) := by decide +kernel
theorem dX11_planByRatios_9 : decode cX11_planByRatios 9 = .ok (.getfield 12, 3) := by decide +kernel
theorem dX11_planByRatios_12 : decode cX11_planByRatios 12 = .ok (.invokevirtual 133, 3) := by decide +kernel
theorem dX11_planByRatios_15 : decode cX11_planByRatios 15 = .ok (.aload_n 0, 1) := by decide +kernel
theorem dX11_planByRatios_16 : decode cX11_planByRatios 16 = .ok (.getfield 19, 3) := by decide +kernel
theorem dX11_planByRatios_19 : decode cX11_planByRatios 19 = .ok (.aload_n 0, 1) := by decide +kernel
theorem dX11_planByRatios_20 : decode cX11_planByRatios 20 = .ok (.getfield 12, 3) := by decide +kernel
theorem dX11_planByRatios_23 : decode cX11_planByRatios 23 = .ok (.aload_n 0, 1) := by decide +kernel
theorem dX11_planByRatios_24 : decode cX11_planByRatios 24 = .ok (.getfield 26, 3) := by decide +kernel
theorem dX11_planByRatios_27 : decode cX11_planByRatios 27 = .ok (.getfield 112, 3) := by decide +kernel
theorem dX11_planByRatios_30 : decode cX11_planByRatios 30 = .ok (.iconst 0, 1) := by decide +kernel
theorem dX11_planByRatios_31 : decode cX11_planByRatios 31 = .ok (.invokevirtual 115, 3) := by decide +kernel
theorem dX11_planByRatios_34 : decode cX11_planByRatios 34 = .ok (.aload_n 0, 1) := by decide +kernel
theorem dX11_planByRatios_35 : decode cX11_planByRatios 35 = .ok (.getfield 19, 3) := by decide +kernel
theorem dX11_planByRatios_38 : decode cX11_planByRatios 38 = .ok (.aload_n 0, 1) := by decide +kernel
theorem dX11_planByRatios_39 : decode cX11_planByRatios 39 = .ok (.getfield 12, 3) := by decide +kernel
theorem dX11_planByRatios_42 : decode cX11_planByRatios 42 = .ok (.getstatic 136, 3) := by decide +kernel
theorem dX11_planByRatios_45 : decode cX11_planByRatios 45 = .ok (.invokevirtual 125, 3) := by decide +kernel
theorem dX11_planByRatios_48 : decode cX11_planByRatios 48 = .ok (.ireturn, 1) := by decide +kernel
theorem dX11_planLeastTardiness_0 : decode cX11_planLeastTardiness 0 = .ok (.aload_n 0, 1) := by decide +kernel
theorem dX11_planLeastTardiness_1 : decode cX11_planLeastTardiness 1 = .ok (.invokevirtual 105, 3) := by decide +kernel
theorem dX11_planLeastTardiness_4 : decode cX11_planLeastTardiness 4 = .ok (.aload_n 0, 1) := by decide +kernel
theorem dX11_planLeastTardiness_5 : decode cX11_planLeastTardiness 5 = .ok (.getfield 26, 3) := by decide +kernel
theorem dX11_planLeastTardiness_8 : decode cX11_planLeastTardiness 8 = .ok (.aload_n 0, 1) := by decide +kernel
theorem dX11_planLeastTardiness_9 : decode cX11_planLeastTardiness 9 = .ok (.getfield 12, 3) := by decide +kernel
theorem dX11_planLeastTardiness_12 : decode cX11_planLeastTardiness 12 = .ok (.invokevirtual 139, 3) := by decide +kernel
theorem dX11_planLeastTardiness_15 : decode cX11_planLeastTardiness 15 = .ok (.aload_n 0, 1) := by decide +kernel
theorem dX11_planLeastTardiness_16 : decode cX11_planLeastTardiness 16 = .ok (.getfield 19, 3) := by decide +kernel
theorem dX11_planLeastTardiness_19 : decode cX11_planLeastTardiness 19 = .ok (.aload_n 0, 1) := by decide +kernel
theorem dX11_planLeastTardiness_20 : decode cX11_planLeastTardiness 20 = .ok (.getfield 12, 3) := by decide +kernel
theorem dX11_planLeastTardiness_23 : decode cX11_planLeastTardiness 23 = .ok (.aload_n 0, 1) := by decide +kernel
theorem dX11_planLeastTardiness_24 : decode cX11_planLeastTardiness 24 = .ok (.getfield 26, 3) := by decide +kernel
theorem dX11_planLeastTardiness_27 : decode cX11_planLeastTardiness 27 = .ok (.getfield 112, 3) := by decide +kernel
theorem dX11_planLeastTardiness_30 : decode cX11_planLeastTardiness 30 = .ok (.iconst 0, 1) := by decide +kernel
theorem dX11_planLeastTardiness_31 : decode cX11_planLeastTardiness 31 = .ok (.invokevirtual 115, 3) := by decide +kernel
theorem dX11_planLeastTardiness_34 : decode cX11_planLeastTardiness 34 = .ok (.aload_n 0, 1) := by decide +kernel
theorem dX11_planLeastTardiness_35 : decode cX11_planLeastTardiness 35 = .ok (.getfield 19, 3) := by decide +kernel
theorem dX11_planLeastTardiness_38 : decode cX11_planLeastTardiness 38 = .ok (.aload_n 0, 1) := by decide +kernel
theorem dX11_planLeastTardiness_39 : decode cX11_planLeastTardiness 39 = .ok (.getfield 12, 3) := by decide +kernel
theorem dX11_planLeastTardiness_42 : decode cX11_planLeastTardiness 42 = .ok (.getstatic 142, 3) := by decide +kernel
theorem dX11_planLeastTardiness_45 : decode cX11_planLeastTardiness 45 = .ok (.invokevirtual 125, 3) := by decide +kernel
theorem dX11_planLeastTardiness_48 : decode cX11_planLeastTardiness 48 = .ok (.ireturn, 1) := by decide +kernel
theorem dX11_planByFamilies_0 : decode cX11_planByFamilies 0 = .ok (.aload_n 0, 1) := by decide +kernel
theorem dX11_planByFamilies_1 : decode cX11_planByFamilies 1 = .ok (.invokevirtual 105, 3) := by decide +kernel
theorem dX11_planByFamilies_4 : decode cX11_planByFamilies 4 = .ok (.aload_n 0, 1) := by decide +kernel
theorem dX11_planByFamilies_5 : decode cX11_planByFamilies 5 = .ok (.getfield 26, 3) := by decide +kernel
theorem dX11_planByFamilies_8 : decode cX11_planByFamilies 8 = .ok (.aload_n 0, 1) := by decide +kernel
theorem dX11_planByFamilies_9 : decode cX11_planByFamilies 9 = .ok (.getfield 12, 3) := by decide +kernel
theorem dX11_planByFamilies_12 : decode cX11_planByFamilies 12 = .ok (.invokevirtual 145, 3) := by decide +kernel
theorem dX11_planByFamilies_15 : decode cX11_planByFamilies 15 = .ok (.aload_n 0, 1) := by decide +kernel
theorem dX11_planByFamilies_16 : decode cX11_planByFamilies 16 = .ok (.getfield 19, 3) := by decide +kernel
theorem dX11_planByFamilies_19 : decode cX11_planByFamilies 19 = .ok (.aload_n 0, 1) := by decide +kernel
theorem dX11_planByFamilies_20 : decode cX11_planByFamilies 20 = .ok (.getfield 12, 3) := by decide +kernel
theorem dX11_planByFamilies_23 : decode cX11_planByFamilies 23 = .ok (.aload_n 0, 1) := by decide +kernel
theorem dX11_planByFamilies_24 : decode cX11_planByFamilies 24 = .ok (.getfield 26, 3) := by decide +kernel
theorem dX11_planByFamilies_27 : decode cX11_planByFamilies 27 = .ok (.getfield 112, 3) := by decide +kernel
theorem dX11_planByFamilies_30 : decode cX11_planByFamilies 30 = .ok (.iconst 1, 1) := by decide +kernel
theorem dX11_planByFamilies_31 : decode cX11_planByFamilies 31 = .ok (.invokevirtual 115, 3) := by decide +kernel
theorem dX11_planByFamilies_34 : decode cX11_planByFamilies 34 = .ok (.aload_n 0, 1) := by decide +kernel
theorem dX11_planByFamilies_35 : decode cX11_planByFamilies 35 = .ok (.getfield 19, 3) := by decide +kernel
theorem dX11_planByFamilies_38 : decode cX11_planByFamilies 38 = .ok (.aload_n 0, 1) := by decide +kernel
theorem dX11_planByFamilies_39 : decode cX11_planByFamilies 39 = .ok (.getfield 12, 3) := by decide +kernel
theorem dX11_planByFamilies_42 : decode cX11_planByFamilies 42 = .ok (.getstatic 119, 3) := by decide +kernel
theorem dX11_planByFamilies_45 : decode cX11_planByFamilies 45 = .ok (.invokevirtual 125, 3) := by decide +kernel
theorem dX11_planByFamilies_48 : decode cX11_planByFamilies 48 = .ok (.ireturn, 1) := by decide +kernel
theorem dX11_planPreemptiveByDates_0 : decode cX11_planPreemptiveByDates 0 = .ok (.aload_n 0, 1) := by decide +kernel
theorem dX11_planPreemptiveByDates_1 : decode cX11_planPreemptiveByDates 1 = .ok (.invokevirtual 105, 3) := by decide +kernel
theorem dX11_planPreemptiveByDates_4 : decode cX11_planPreemptiveByDates 4 = .ok (.aload_n 0, 1) := by decide +kernel
theorem dX11_planPreemptiveByDates_5 : decode cX11_planPreemptiveByDates 5 = .ok (.getfield 33, 3) := by decide +kernel
theorem dX11_planPreemptiveByDates_8 : decode cX11_planPreemptiveByDates 8 = .ok (.aload_n 0, 1) := by decide +kernel
theorem dX11_planPreemptiveByDates_9 : decode cX11_planPreemptiveByDates 9 = .ok (.getfield 12, 3) := by decide +kernel
theorem dX11_planPreemptiveByDates_12 : decode cX11_planPreemptiveByDates 12 = .ok (.aload_n 0, 1) := by decide +kernel
theorem dX11_planPreemptiveByDates_13 : decode cX11_planPreemptiveByDates 13 = .ok (.getfield 19, 3) := by decide +kernel
theorem dX11_planPreemptiveByDates_16 : decode cX11_planPreemptiveByDates 16 = .ok (.iconst 0, 1) := by decide +kernel
theorem dX11_planPreemptiveByDates_17 : decode cX11_planPreemptiveByDates 17 = .ok (.invokevirtual 148, 3) := by decide +kernel
theorem dX11_planPreemptiveByDates_20 : decode cX11_planPreemptiveByDates 20 = .ok (.aload_n 0, 1) := by decide +kernel
theorem dX11_planPreemptiveByDates_21 : decode cX11_planPreemptiveByDates 21 = .ok (.getfield 19, 3) := by decide +kernel
theorem dX11_planPreemptiveByDates_24 : decode cX11_planPreemptiveByDates 24 = .ok (.aload_n 0, 1) := by decide +kernel
theorem dX11_planPreemptiveByDates_25 : decode cX11_planPreemptiveByDates 25 = .ok (.getfield 12, 3) := by decide +kernel
theorem dX11_planPreemptiveByDates_28 : decode cX11_planPreemptiveByDates 28 = .ok (.getstatic 119, 3) := by decide +kernel
theorem dX11_planPreemptiveByDates_31 : decode cX11_planPreemptiveByDates 31 = .ok (.invokevirtual 125, 3) := by decide +kernel
theorem dX11_planPreemptiveByDates_34 : decode cX11_planPreemptiveByDates 34 = .ok (.ireturn, 1) := by decide +kernel
theorem dX11_planPreemptiveShortest_0 : decode cX11_planPreemptiveShortest 0 = .ok (.aload_n 0, 1) := by decide +kernel
theorem dX11_planPreemptiveShortest_1 : decode cX11_planPreemptiveShortest 1 = .ok (.invokevirtual 105, 3) := by decide +kernel
theorem dX11_planPreemptiveShortest_4 : decode cX11_planPreemptiveShortest 4 = .ok (.aload_n 0, 1) := by decide +kernel
theorem dX11_planPreemptiveShortest_5 : decode cX11_planPreemptiveShortest 5 = .ok (.getfield 33, 3) := by decide +kernel
theorem dX11_planPreemptiveShortest_8 : decode cX11_planPreemptiveShortest 8 = .ok (.aload_n 0, 1) := by decide +kernel
theorem dX11_planPreemptiveShortest_9 : decode cX11_planPreemptiveShortest 9 = .ok (.getfield 12, 3) := by decide +kernel
theorem dX11_planPreemptiveShortest_12 : decode cX11_planPreemptiveShortest 12 = .ok (.aload_n 0, 1) := by decide +kernel
theorem dX11_planPreemptiveShortest_13 : decode cX11_planPreemptiveShortest 13 = .ok (.getfield 19, 3) := by decide +kernel
theorem dX11_planPreemptiveShortest_16 : decode cX11_planPreemptiveShortest 16 = .ok (.iconst 1, 1) := by decide +kernel
theorem dX11_planPreemptiveShortest_17 : decode cX11_planPreemptiveShortest 17 = .ok (.invokevirtual 148, 3) := by decide +kernel
theorem dX11_planPreemptiveShortest_20 : decode cX11_planPreemptiveShortest 20 = .ok (.aload_n 0, 1) := by decide +kernel
theorem dX11_planPreemptiveShortest_21 : decode cX11_planPreemptiveShortest 21 = .ok (.getfield 19, 3) := by decide +kernel
theorem dX11_planPreemptiveShortest_24 : decode cX11_planPreemptiveShortest 24 = .ok (.aload_n 0, 1) := by decide +kernel
theorem dX11_planPreemptiveShortest_25 : decode cX11_planPreemptiveShortest 25 = .ok (.getfield 12, 3) := by decide +kernel
theorem dX11_planPreemptiveShortest_28 : decode cX11_planPreemptiveShortest 28 = .ok (.getstatic 152, 3) := by decide +kernel
theorem dX11_planPreemptiveShortest_31 : decode cX11_planPreemptiveShortest 31 = .ok (.invokevirtual 125, 3) := by decide +kernel
theorem dX11_planPreemptiveShortest_34 : decode cX11_planPreemptiveShortest 34 = .ok (.ireturn, 1) := by decide +kernel
theorem dX11_hasPlan_0 : decode cX11_hasPlan 0 = .ok (.aload_n 0, 1) := by decide +kernel
theorem dX11_hasPlan_1 : decode cX11_hasPlan 1 = .ok (.getfield 19, 3) := by decide +kernel
theorem dX11_hasPlan_4 : decode cX11_hasPlan 4 = .ok (.getfield 155, 3) := by decide +kernel
theorem dX11_hasPlan_7 : decode cX11_hasPlan 7 = .ok (.ireturn, 1) := by decide +kernel
theorem dX11_pieces_0 : decode cX11_pieces 0 = .ok (.aload_n 0, 1) := by decide +kernel
theorem dX11_pieces_1 : decode cX11_pieces 1 = .ok (.getfield 19, 3) := by decide +kernel
theorem dX11_pieces_4 : decode cX11_pieces 4 = .ok (.getfield 159, 3) := by decide +kernel
theorem dX11_pieces_7 : decode cX11_pieces 7 = .ok (.ireturn, 1) := by decide +kernel
theorem dX11_kindOf_0 : decode cX11_kindOf 0 = .ok (.aload_n 0, 1) := by decide +kernel
theorem dX11_kindOf_1 : decode cX11_kindOf 1 = .ok (.iload_n 1, 1) := by decide +kernel
theorem dX11_kindOf_2 : decode cX11_kindOf 2 = .ok (.invokevirtual 160, 3) := by decide +kernel
theorem dX11_kindOf_5 : decode cX11_kindOf 5 = .ok (.aload_n 0, 1) := by decide +kernel
theorem dX11_kindOf_6 : decode cX11_kindOf 6 = .ok (.getfield 19, 3) := by decide +kernel
theorem dX11_kindOf_9 : decode cX11_kindOf 9 = .ok (.getfield 163, 3) := by decide +kernel
theorem dX11_kindOf_12 : decode cX11_kindOf 12 = .ok (.iload_n 1, 1) := by decide +kernel
theorem dX11_kindOf_13 : decode cX11_kindOf 13 = .ok (.iaload, 1) := by decide +kernel
theorem dX11_kindOf_14 : decode cX11_kindOf 14 = .ok (.ireturn, 1) := by decide +kernel
theorem dX11_whoseIs_0 : decode cX11_whoseIs 0 = .ok (.aload_n 0, 1) := by decide +kernel
theorem dX11_whoseIs_1 : decode cX11_whoseIs 1 = .ok (.iload_n 1, 1) := by decide +kernel
theorem dX11_whoseIs_2 : decode cX11_whoseIs 2 = .ok (.invokevirtual 160, 3) := by decide +kernel
theorem dX11_whoseIs_5 : decode cX11_whoseIs 5 = .ok (.aload_n 0, 1) := by decide +kernel
theorem dX11_whoseIs_6 : decode cX11_whoseIs 6 = .ok (.getfield 19, 3) := by decide +kernel
theorem dX11_whoseIs_9 : decode cX11_whoseIs 9 = .ok (.getfield 166, 3) := by decide +kernel
theorem dX11_whoseIs_12 : decode cX11_whoseIs 12 = .ok (.iload_n 1, 1) := by decide +kernel
theorem dX11_whoseIs_13 : decode cX11_whoseIs 13 = .ok (.iaload, 1) := by decide +kernel
theorem dX11_whoseIs_14 : decode cX11_whoseIs 14 = .ok (.ireturn, 1) := by decide +kernel
theorem dX11_startOf_0 : decode cX11_startOf 0 = .ok (.aload_n 0, 1) := by decide +kernel
theorem dX11_startOf_1 : decode cX11_startOf 1 = .ok (.iload_n 1, 1) := by decide +kernel
theorem dX11_startOf_2 : decode cX11_startOf 2 = .ok (.invokevirtual 160, 3) := by decide +kernel
theorem dX11_startOf_5 : decode cX11_startOf 5 = .ok (.iload_n 1, 1) := by decide +kernel
theorem dX11_startOf_6 : decode cX11_startOf 6 = .ok (.ifCond .ne 7, 3) := by decide +kernel
theorem dX11_startOf_9 : decode cX11_startOf 9 = .ok (.iconst 0, 1) := by decide +kernel
theorem dX11_startOf_10 : decode cX11_startOf 10 = .ok (.goto 14, 3) := by decide +kernel
theorem dX11_startOf_13 : decode cX11_startOf 13 = .ok (.aload_n 0, 1) := by decide +kernel
theorem dX11_startOf_14 : decode cX11_startOf 14 = .ok (.getfield 19, 3) := by decide +kernel
theorem dX11_startOf_17 : decode cX11_startOf 17 = .ok (.getfield 169, 3) := by decide +kernel
theorem dX11_startOf_20 : decode cX11_startOf 20 = .ok (.iload_n 1, 1) := by decide +kernel
theorem dX11_startOf_21 : decode cX11_startOf 21 = .ok (.iconst 1, 1) := by decide +kernel
theorem dX11_startOf_22 : decode cX11_startOf 22 = .ok (.isub, 1) := by decide +kernel
theorem dX11_startOf_23 : decode cX11_startOf 23 = .ok (.iaload, 1) := by decide +kernel
theorem dX11_startOf_24 : decode cX11_startOf 24 = .ok (.ireturn, 1) := by decide +kernel
theorem dX11_endOf_0 : decode cX11_endOf 0 = .ok (.aload_n 0, 1) := by decide +kernel
theorem dX11_endOf_1 : decode cX11_endOf 1 = .ok (.iload_n 1, 1) := by decide +kernel
theorem dX11_endOf_2 : decode cX11_endOf 2 = .ok (.invokevirtual 160, 3) := by decide +kernel
theorem dX11_endOf_5 : decode cX11_endOf 5 = .ok (.aload_n 0, 1) := by decide +kernel
theorem dX11_endOf_6 : decode cX11_endOf 6 = .ok (.getfield 19, 3) := by decide +kernel
theorem dX11_endOf_9 : decode cX11_endOf 9 = .ok (.getfield 169, 3) := by decide +kernel
theorem dX11_endOf_12 : decode cX11_endOf 12 = .ok (.iload_n 1, 1) := by decide +kernel
theorem dX11_endOf_13 : decode cX11_endOf 13 = .ok (.iaload, 1) := by decide +kernel
theorem dX11_endOf_14 : decode cX11_endOf 14 = .ok (.ireturn, 1) := by decide +kernel
theorem dX11_completion_0 : decode cX11_completion 0 = .ok (.aload_n 0, 1) := by decide +kernel
theorem dX11_completion_1 : decode cX11_completion 1 = .ok (.iload_n 1, 1) := by decide +kernel
theorem dX11_completion_2 : decode cX11_completion 2 = .ok (.invokevirtual 80, 3) := by decide +kernel
theorem dX11_completion_5 : decode cX11_completion 5 = .ok (.aload_n 0, 1) := by decide +kernel
theorem dX11_completion_6 : decode cX11_completion 6 = .ok (.invokevirtual 172, 3) := by decide +kernel
theorem dX11_completion_9 : decode cX11_completion 9 = .ok (.aload_n 0, 1) := by decide +kernel
theorem dX11_completion_10 : decode cX11_completion 10 = .ok (.getfield 19, 3) := by decide +kernel
theorem dX11_completion_13 : decode cX11_completion 13 = .ok (.getfield 175, 3) := by decide +kernel
theorem dX11_completion_16 : decode cX11_completion 16 = .ok (.iload_n 1, 1) := by decide +kernel
theorem dX11_completion_17 : decode cX11_completion 17 = .ok (.iaload, 1) := by decide +kernel
theorem dX11_completion_18 : decode cX11_completion 18 = .ok (.ireturn, 1) := by decide +kernel
theorem dX11_lateness_0 : decode cX11_lateness 0 = .ok (.aload_n 0, 1) := by decide +kernel
theorem dX11_lateness_1 : decode cX11_lateness 1 = .ok (.iload_n 1, 1) := by decide +kernel
theorem dX11_lateness_2 : decode cX11_lateness 2 = .ok (.invokevirtual 80, 3) := by decide +kernel
theorem dX11_lateness_5 : decode cX11_lateness 5 = .ok (.aload_n 0, 1) := by decide +kernel
theorem dX11_lateness_6 : decode cX11_lateness 6 = .ok (.invokevirtual 172, 3) := by decide +kernel
theorem dX11_lateness_9 : decode cX11_lateness 9 = .ok (.aload_n 0, 1) := by decide +kernel
theorem dX11_lateness_10 : decode cX11_lateness 10 = .ok (.getfield 19, 3) := by decide +kernel
theorem dX11_lateness_13 : decode cX11_lateness 13 = .ok (.getfield 175, 3) := by decide +kernel
theorem dX11_lateness_16 : decode cX11_lateness 16 = .ok (.iload_n 1, 1) := by decide +kernel
theorem dX11_lateness_17 : decode cX11_lateness 17 = .ok (.iaload, 1) := by decide +kernel
theorem dX11_lateness_18 : decode cX11_lateness 18 = .ok (.aload_n 0, 1) := by decide +kernel
theorem dX11_lateness_19 : decode cX11_lateness 19 = .ok (.getfield 12, 3) := by decide +kernel
theorem dX11_lateness_22 : decode cX11_lateness 22 = .ok (.getfield 178, 3) := by decide +kernel
theorem dX11_lateness_25 : decode cX11_lateness 25 = .ok (.iload_n 1, 1) := by decide +kernel
theorem dX11_lateness_26 : decode cX11_lateness 26 = .ok (.iaload, 1) := by decide +kernel
theorem dX11_lateness_27 : decode cX11_lateness 27 = .ok (.isub, 1) := by decide +kernel
theorem dX11_lateness_28 : decode cX11_lateness 28 = .ok (.ireturn, 1) := by decide +kernel
theorem dX11_maxLateness_0 : decode cX11_maxLateness 0 = .ok (.aload_n 0, 1) := by decide +kernel
theorem dX11_maxLateness_1 : decode cX11_maxLateness 1 = .ok (.invokevirtual 172, 3) := by decide +kernel
theorem dX11_maxLateness_4 : decode cX11_maxLateness 4 = .ok (.aload_n 0, 1) := by decide +kernel
theorem dX11_maxLateness_5 : decode cX11_maxLateness 5 = .ok (.getfield 19, 3) := by decide +kernel
theorem dX11_maxLateness_8 : decode cX11_maxLateness 8 = .ok (.aload_n 0, 1) := by decide +kernel
theorem dX11_maxLateness_9 : decode cX11_maxLateness 9 = .ok (.getfield 12, 3) := by decide +kernel
theorem dX11_maxLateness_12 : decode cX11_maxLateness 12 = .ok (.getstatic 119, 3) := by decide +kernel
theorem dX11_maxLateness_15 : decode cX11_maxLateness 15 = .ok (.invokevirtual 125, 3) := by decide +kernel
theorem dX11_maxLateness_18 : decode cX11_maxLateness 18 = .ok (.ireturn, 1) := by decide +kernel
theorem dX11_lateJobs_0 : decode cX11_lateJobs 0 = .ok (.aload_n 0, 1) := by decide +kernel
theorem dX11_lateJobs_1 : decode cX11_lateJobs 1 = .ok (.invokevirtual 172, 3) := by decide +kernel
theorem dX11_lateJobs_4 : decode cX11_lateJobs 4 = .ok (.aload_n 0, 1) := by decide +kernel
theorem dX11_lateJobs_5 : decode cX11_lateJobs 5 = .ok (.getfield 19, 3) := by decide +kernel
theorem dX11_lateJobs_8 : decode cX11_lateJobs 8 = .ok (.aload_n 0, 1) := by decide +kernel
theorem dX11_lateJobs_9 : decode cX11_lateJobs 9 = .ok (.getfield 12, 3) := by decide +kernel
theorem dX11_lateJobs_12 : decode cX11_lateJobs 12 = .ok (.getstatic 181, 3) := by decide +kernel
theorem dX11_lateJobs_15 : decode cX11_lateJobs 15 = .ok (.invokevirtual 125, 3) := by decide +kernel
theorem dX11_lateJobs_18 : decode cX11_lateJobs 18 = .ok (.ireturn, 1) := by decide +kernel
theorem dX11_completions_0 : decode cX11_completions 0 = .ok (.aload_n 0, 1) := by decide +kernel
theorem dX11_completions_1 : decode cX11_completions 1 = .ok (.invokevirtual 172, 3) := by decide +kernel
theorem dX11_completions_4 : decode cX11_completions 4 = .ok (.aload_n 0, 1) := by decide +kernel
theorem dX11_completions_5 : decode cX11_completions 5 = .ok (.getfield 19, 3) := by decide +kernel
theorem dX11_completions_8 : decode cX11_completions 8 = .ok (.aload_n 0, 1) := by decide +kernel
theorem dX11_completions_9 : decode cX11_completions 9 = .ok (.getfield 12, 3) := by decide +kernel
theorem dX11_completions_12 : decode cX11_completions 12 = .ok (.getstatic 152, 3) := by decide +kernel
theorem dX11_completions_15 : decode cX11_completions 15 = .ok (.invokevirtual 125, 3) := by decide +kernel
theorem dX11_completions_18 : decode cX11_completions 18 = .ok (.ireturn, 1) := by decide +kernel
theorem dX11_weightedCompletions_0 : decode cX11_weightedCompletions 0 = .ok (.aload_n 0, 1) := by decide +kernel
theorem dX11_weightedCompletions_1 : decode cX11_weightedCompletions 1 = .ok (.invokevirtual 172, 3) := by decide +kernel
theorem dX11_weightedCompletions_4 : decode cX11_weightedCompletions 4 = .ok (.aload_n 0, 1) := by decide +kernel
theorem dX11_weightedCompletions_5 : decode cX11_weightedCompletions 5 = .ok (.getfield 19, 3) := by decide +kernel
theorem dX11_weightedCompletions_8 : decode cX11_weightedCompletions 8 = .ok (.aload_n 0, 1) := by decide +kernel
theorem dX11_weightedCompletions_9 : decode cX11_weightedCompletions 9 = .ok (.getfield 12, 3) := by decide +kernel
theorem dX11_weightedCompletions_12 : decode cX11_weightedCompletions 12 = .ok (.getstatic 136, 3) := by decide +kernel
theorem dX11_weightedCompletions_15 : decode cX11_weightedCompletions 15 = .ok (.invokevirtual 125, 3) := by decide +kernel
theorem dX11_weightedCompletions_18 : decode cX11_weightedCompletions 18 = .ok (.ireturn, 1) := by decide +kernel
theorem dX11_weightedTardiness_0 : decode cX11_weightedTardiness 0 = .ok (.aload_n 0, 1) := by decide +kernel
theorem dX11_weightedTardiness_1 : decode cX11_weightedTardiness 1 = .ok (.invokevirtual 172, 3) := by decide +kernel
theorem dX11_weightedTardiness_4 : decode cX11_weightedTardiness 4 = .ok (.aload_n 0, 1) := by decide +kernel
theorem dX11_weightedTardiness_5 : decode cX11_weightedTardiness 5 = .ok (.getfield 19, 3) := by decide +kernel
theorem dX11_weightedTardiness_8 : decode cX11_weightedTardiness 8 = .ok (.aload_n 0, 1) := by decide +kernel
theorem dX11_weightedTardiness_9 : decode cX11_weightedTardiness 9 = .ok (.getfield 12, 3) := by decide +kernel
theorem dX11_weightedTardiness_12 : decode cX11_weightedTardiness 12 = .ok (.getstatic 142, 3) := by decide +kernel
theorem dX11_weightedTardiness_15 : decode cX11_weightedTardiness 15 = .ok (.invokevirtual 125, 3) := by decide +kernel
theorem dX11_weightedTardiness_18 : decode cX11_weightedTardiness 18 = .ok (.ireturn, 1) := by decide +kernel
theorem dX11_leastLateness_0 : decode cX11_leastLateness 0 = .ok (.aload_n 0, 1) := by decide +kernel
theorem dX11_leastLateness_1 : decode cX11_leastLateness 1 = .ok (.invokevirtual 184, 3) := by decide +kernel
theorem dX11_leastLateness_4 : decode cX11_leastLateness 4 = .ok (.aload_n 0, 1) := by decide +kernel
theorem dX11_leastLateness_5 : decode cX11_leastLateness 5 = .ok (.getfield 40, 3) := by decide +kernel
theorem dX11_leastLateness_8 : decode cX11_leastLateness 8 = .ok (.aload_n 0, 1) := by decide +kernel
theorem dX11_leastLateness_9 : decode cX11_leastLateness 9 = .ok (.getfield 12, 3) := by decide +kernel
theorem dX11_leastLateness_12 : decode cX11_leastLateness 12 = .ok (.getstatic 187, 3) := by decide +kernel
theorem dX11_leastLateness_15 : decode cX11_leastLateness 15 = .ok (.getstatic 119, 3) := by decide +kernel
theorem dX11_leastLateness_18 : decode cX11_leastLateness 18 = .ok (.invokevirtual 193, 3) := by decide +kernel
theorem dX11_leastLateness_21 : decode cX11_leastLateness 21 = .ok (.ireturn, 1) := by decide +kernel
theorem dX11_leastCompletions_0 : decode cX11_leastCompletions 0 = .ok (.aload_n 0, 1) := by decide +kernel
theorem dX11_leastCompletions_1 : decode cX11_leastCompletions 1 = .ok (.invokevirtual 184, 3) := by decide +kernel
theorem dX11_leastCompletions_4 : decode cX11_leastCompletions 4 = .ok (.aload_n 0, 1) := by decide +kernel
theorem dX11_leastCompletions_5 : decode cX11_leastCompletions 5 = .ok (.getfield 40, 3) := by decide +kernel
theorem dX11_leastCompletions_8 : decode cX11_leastCompletions 8 = .ok (.aload_n 0, 1) := by decide +kernel
theorem dX11_leastCompletions_9 : decode cX11_leastCompletions 9 = .ok (.getfield 12, 3) := by decide +kernel
theorem dX11_leastCompletions_12 : decode cX11_leastCompletions 12 = .ok (.getstatic 187, 3) := by decide +kernel
theorem dX11_leastCompletions_15 : decode cX11_leastCompletions 15 = .ok (.getstatic 136, 3) := by decide +kernel
theorem dX11_leastCompletions_18 : decode cX11_leastCompletions 18 = .ok (.invokevirtual 193, 3) := by decide +kernel
theorem dX11_leastCompletions_21 : decode cX11_leastCompletions 21 = .ok (.ireturn, 1) := by decide +kernel
theorem dX11_leastTardiness_0 : decode cX11_leastTardiness 0 = .ok (.aload_n 0, 1) := by decide +kernel
theorem dX11_leastTardiness_1 : decode cX11_leastTardiness 1 = .ok (.invokevirtual 184, 3) := by decide +kernel
theorem dX11_leastTardiness_4 : decode cX11_leastTardiness 4 = .ok (.aload_n 0, 1) := by decide +kernel
theorem dX11_leastTardiness_5 : decode cX11_leastTardiness 5 = .ok (.getfield 40, 3) := by decide +kernel
theorem dX11_leastTardiness_8 : decode cX11_leastTardiness 8 = .ok (.aload_n 0, 1) := by decide +kernel
theorem dX11_leastTardiness_9 : decode cX11_leastTardiness 9 = .ok (.getfield 12, 3) := by decide +kernel
theorem dX11_leastTardiness_12 : decode cX11_leastTardiness 12 = .ok (.getstatic 187, 3) := by decide +kernel
theorem dX11_leastTardiness_15 : decode cX11_leastTardiness 15 = .ok (.getstatic 142, 3) := by decide +kernel
theorem dX11_leastTardiness_18 : decode cX11_leastTardiness 18 = .ok (.invokevirtual 193, 3) := by decide +kernel
theorem dX11_leastTardiness_21 : decode cX11_leastTardiness 21 = .ok (.ireturn, 1) := by decide +kernel
theorem dX11_leastWithSetups_0 : decode cX11_leastWithSetups 0 = .ok (.aload_n 0, 1) := by decide +kernel
theorem dX11_leastWithSetups_1 : decode cX11_leastWithSetups 1 = .ok (.invokevirtual 184, 3) := by decide +kernel
theorem dX11_leastWithSetups_4 : decode cX11_leastWithSetups 4 = .ok (.aload_n 0, 1) := by decide +kernel
theorem dX11_leastWithSetups_5 : decode cX11_leastWithSetups 5 = .ok (.getfield 40, 3) := by decide +kernel
theorem dX11_leastWithSetups_8 : decode cX11_leastWithSetups 8 = .ok (.aload_n 0, 1) := by decide +kernel
theorem dX11_leastWithSetups_9 : decode cX11_leastWithSetups 9 = .ok (.getfield 12, 3) := by decide +kernel
theorem dX11_leastWithSetups_12 : decode cX11_leastWithSetups 12 = .ok (.getstatic 197, 3) := by decide +kernel
theorem dX11_leastWithSetups_15 : decode cX11_leastWithSetups 15 = .ok (.getstatic 119, 3) := by decide +kernel
theorem dX11_leastWithSetups_18 : decode cX11_leastWithSetups 18 = .ok (.invokevirtual 193, 3) := by decide +kernel
theorem dX11_leastWithSetups_21 : decode cX11_leastWithSetups 21 = .ok (.ireturn, 1) := by decide +kernel
theorem dX11_leastPreemptiveLateness_0 : decode cX11_leastPreemptiveLateness 0 = .ok (.aload_n 0, 1) := by decide +kernel
theorem dX11_leastPreemptiveLateness_1 : decode cX11_leastPreemptiveLateness 1 = .ok (.invokevirtual 184, 3) := by decide +kernel
theorem dX11_leastPreemptiveLateness_4 : decode cX11_leastPreemptiveLateness 4 = .ok (.aload_n 0, 1) := by decide +kernel
theorem dX11_leastPreemptiveLateness_5 : decode cX11_leastPreemptiveLateness 5 = .ok (.getfield 40, 3) := by decide +kernel
theorem dX11_leastPreemptiveLateness_8 : decode cX11_leastPreemptiveLateness 8 = .ok (.aload_n 0, 1) := by decide +kernel
theorem dX11_leastPreemptiveLateness_9 : decode cX11_leastPreemptiveLateness 9 = .ok (.getfield 12, 3) := by decide +kernel
theorem dX11_leastPreemptiveLateness_12 : decode cX11_leastPreemptiveLateness 12 = .ok (.getstatic 200, 3) := by decide +kernel
theorem dX11_leastPreemptiveLateness_15 : decode cX11_leastPreemptiveLateness 15 = .ok (.getstatic 119, 3) := by decide +kernel
theorem dX11_leastPreemptiveLateness_18 : decode cX11_leastPreemptiveLateness 18 = .ok (.invokevirtual 193, 3) := by decide +kernel
theorem dX11_leastPreemptiveLateness_21 : decode cX11_leastPreemptiveLateness 21 = .ok (.ireturn, 1) := by decide +kernel
theorem dX11_leastPreemptiveCompletions_0 : decode cX11_leastPreemptiveCompletions 0 = .ok (.aload_n 0, 1) := by decide +kernel
theorem dX11_leastPreemptiveCompletions_1 : decode cX11_leastPreemptiveCompletions 1 = .ok (.invokevirtual 184, 3) := by decide +kernel
theorem dX11_leastPreemptiveCompletions_4 : decode cX11_leastPreemptiveCompletions 4 = .ok (.aload_n 0, 1) := by decide +kernel
theorem dX11_leastPreemptiveCompletions_5 : decode cX11_leastPreemptiveCompletions 5 = .ok (.getfield 40, 3) := by decide +kernel
theorem dX11_leastPreemptiveCompletions_8 : decode cX11_leastPreemptiveCompletions 8 = .ok (.aload_n 0, 1) := by decide +kernel
theorem dX11_leastPreemptiveCompletions_9 : decode cX11_leastPreemptiveCompletions 9 = .ok (.getfield 12, 3) := by decide +kernel
theorem dX11_leastPreemptiveCompletions_12 : decode cX11_leastPreemptiveCompletions 12 = .ok (.getstatic 200, 3) := by decide +kernel
theorem dX11_leastPreemptiveCompletions_15 : decode cX11_leastPreemptiveCompletions 15 = .ok (.getstatic 152, 3) := by decide +kernel
theorem dX11_leastPreemptiveCompletions_18 : decode cX11_leastPreemptiveCompletions 18 = .ok (.invokevirtual 193, 3) := by decide +kernel
theorem dX11_leastPreemptiveCompletions_21 : decode cX11_leastPreemptiveCompletions 21 = .ok (.ireturn, 1) := by decide +kernel
theorem dX11_canBeOnTime_0 : decode cX11_canBeOnTime 0 = .ok (.iload_n 1, 1) := by decide +kernel
theorem dX11_canBeOnTime_1 : decode cX11_canBeOnTime 1 = .ok (.iconst 0, 1) := by decide +kernel
theorem dX11_canBeOnTime_2 : decode cX11_canBeOnTime 2 = .ok (.aload_n 0, 1) := by decide +kernel
theorem dX11_canBeOnTime_3 : decode cX11_canBeOnTime 3 = .ok (.getfield 12, 3) := by decide +kernel
theorem dX11_canBeOnTime_6 : decode cX11_canBeOnTime 6 = .ok (.invokevirtual 203, 3) := by decide +kernel
theorem dX11_canBeOnTime_9 : decode cX11_canBeOnTime 9 = .ok (.invokestatic 87, 3) := by decide +kernel
theorem dX11_canBeOnTime_12 : decode cX11_canBeOnTime 12 = .ok (.ifCond .ne 13, 3) := by decide +kernel
theorem dX11_canBeOnTime_15 : decode cX11_canBeOnTime 15 = .ok (.new 96, 3) := by decide +kernel
theorem dX11_canBeOnTime_18 : decode cX11_canBeOnTime 18 = .ok (.dup, 1) := by decide +kernel
theorem dX11_canBeOnTime_19 : decode cX11_canBeOnTime 19 = .ok (.ldc 207, 2) := by decide +kernel
theorem dX11_canBeOnTime_21 : decode cX11_canBeOnTime 21 = .ok (.invokespecial 100, 3) := by decide +kernel
theorem dX11_canBeOnTime_24 : decode cX11_canBeOnTime 24 = .ok (.athrow, 1) := by decide +kernel
theorem dX11_canBeOnTime_25 : decode cX11_canBeOnTime 25 = .ok (.aload_n 0, 1) := by decide +kernel
theorem dX11_canBeOnTime_26 : decode cX11_canBeOnTime 26 = .ok (.getfield 47, 3) := by decide +kernel
theorem dX11_canBeOnTime_29 : decode cX11_canBeOnTime 29 = .ok (.aload_n 0, 1) := by decide +kernel
theorem dX11_canBeOnTime_30 : decode cX11_canBeOnTime 30 = .ok (.getfield 12, 3) := by decide +kernel
theorem dX11_canBeOnTime_33 : decode cX11_canBeOnTime 33 = .ok (.iload_n 1, 1) := by decide +kernel
theorem dX11_canBeOnTime_34 : decode cX11_canBeOnTime 34 = .ok (.invokevirtual 209, 3) := by decide +kernel
theorem dX11_canBeOnTime_37 : decode cX11_canBeOnTime 37 = .ok (.ireturn, 1) := by decide +kernel
theorem dX11_fewestLateBySets_0 : decode cX11_fewestLateBySets 0 = .ok (.aload_n 0, 1) := by decide +kernel
theorem dX11_fewestLateBySets_1 : decode cX11_fewestLateBySets 1 = .ok (.getfield 12, 3) := by decide +kernel
theorem dX11_fewestLateBySets_4 : decode cX11_fewestLateBySets 4 = .ok (.getfield 62, 3) := by decide +kernel
theorem dX11_fewestLateBySets_7 : decode cX11_fewestLateBySets 7 = .ok (.aload_n 0, 1) := by decide +kernel
theorem dX11_fewestLateBySets_8 : decode cX11_fewestLateBySets 8 = .ok (.getfield 47, 3) := by decide +kernel
theorem dX11_fewestLateBySets_11 : decode cX11_fewestLateBySets 11 = .ok (.aload_n 0, 1) := by decide +kernel
theorem dX11_fewestLateBySets_12 : decode cX11_fewestLateBySets 12 = .ok (.getfield 12, 3) := by decide +kernel
theorem dX11_fewestLateBySets_15 : decode cX11_fewestLateBySets 15 = .ok (.invokevirtual 213, 3) := by decide +kernel
theorem dX11_fewestLateBySets_18 : decode cX11_fewestLateBySets 18 = .ok (.isub, 1) := by decide +kernel
theorem dX11_fewestLateBySets_19 : decode cX11_fewestLateBySets 19 = .ok (.ireturn, 1) := by decide +kernel
theorem dX11_windowBound_0 : decode cX11_windowBound 0 = .ok (.aload_n 0, 1) := by decide +kernel
theorem dX11_windowBound_1 : decode cX11_windowBound 1 = .ok (.invokevirtual 105, 3) := by decide +kernel
theorem dX11_windowBound_4 : decode cX11_windowBound 4 = .ok (.aload_n 0, 1) := by decide +kernel
theorem dX11_windowBound_5 : decode cX11_windowBound 5 = .ok (.getfield 54, 3) := by decide +kernel
theorem dX11_windowBound_8 : decode cX11_windowBound 8 = .ok (.aload_n 0, 1) := by decide +kernel
theorem dX11_windowBound_9 : decode cX11_windowBound 9 = .ok (.getfield 12, 3) := by decide +kernel
theorem dX11_windowBound_12 : decode cX11_windowBound 12 = .ok (.iload_n 1, 1) := by decide +kernel
theorem dX11_windowBound_13 : decode cX11_windowBound 13 = .ok (.invokevirtual 216, 3) := by decide +kernel
theorem dX11_windowBound_16 : decode cX11_windowBound 16 = .ok (.aload_n 0, 1) := by decide +kernel
theorem dX11_windowBound_17 : decode cX11_windowBound 17 = .ok (.getfield 54, 3) := by decide +kernel
theorem dX11_windowBound_20 : decode cX11_windowBound 20 = .ok (.getfield 220, 3) := by decide +kernel
theorem dX11_windowBound_23 : decode cX11_windowBound 23 = .ok (.ireturn, 1) := by decide +kernel
theorem dX11_windowDue_0 : decode cX11_windowDue 0 = .ok (.aload_n 0, 1) := by decide +kernel
theorem dX11_windowDue_1 : decode cX11_windowDue 1 = .ok (.invokevirtual 105, 3) := by decide +kernel
theorem dX11_windowDue_4 : decode cX11_windowDue 4 = .ok (.aload_n 0, 1) := by decide +kernel
theorem dX11_windowDue_5 : decode cX11_windowDue 5 = .ok (.getfield 54, 3) := by decide +kernel
theorem dX11_windowDue_8 : decode cX11_windowDue 8 = .ok (.aload_n 0, 1) := by decide +kernel
theorem dX11_windowDue_9 : decode cX11_windowDue 9 = .ok (.getfield 12, 3) := by decide +kernel
theorem dX11_windowDue_12 : decode cX11_windowDue 12 = .ok (.iconst 1, 1) := by decide +kernel
theorem dX11_windowDue_13 : decode cX11_windowDue 13 = .ok (.invokevirtual 216, 3) := by decide +kernel
theorem dX11_windowDue_16 : decode cX11_windowDue 16 = .ok (.aload_n 0, 1) := by decide +kernel
theorem dX11_windowDue_17 : decode cX11_windowDue 17 = .ok (.getfield 54, 3) := by decide +kernel
theorem dX11_windowDue_20 : decode cX11_windowDue 20 = .ok (.getfield 223, 3) := by decide +kernel
theorem dX11_windowDue_23 : decode cX11_windowDue 23 = .ok (.ireturn, 1) := by decide +kernel
theorem dX11_windowRelease_0 : decode cX11_windowRelease 0 = .ok (.aload_n 0, 1) := by decide +kernel
theorem dX11_windowRelease_1 : decode cX11_windowRelease 1 = .ok (.invokevirtual 105, 3) := by decide +kernel
theorem dX11_windowRelease_4 : decode cX11_windowRelease 4 = .ok (.aload_n 0, 1) := by decide +kernel
theorem dX11_windowRelease_5 : decode cX11_windowRelease 5 = .ok (.getfield 54, 3) := by decide +kernel
theorem dX11_windowRelease_8 : decode cX11_windowRelease 8 = .ok (.aload_n 0, 1) := by decide +kernel
theorem dX11_windowRelease_9 : decode cX11_windowRelease 9 = .ok (.getfield 12, 3) := by decide +kernel
theorem dX11_windowRelease_12 : decode cX11_windowRelease 12 = .ok (.iconst 1, 1) := by decide +kernel
theorem dX11_windowRelease_13 : decode cX11_windowRelease 13 = .ok (.invokevirtual 216, 3) := by decide +kernel
theorem dX11_windowRelease_16 : decode cX11_windowRelease 16 = .ok (.aload_n 0, 1) := by decide +kernel
theorem dX11_windowRelease_17 : decode cX11_windowRelease 17 = .ok (.getfield 54, 3) := by decide +kernel
theorem dX11_windowRelease_20 : decode cX11_windowRelease 20 = .ok (.getfield 225, 3) := by decide +kernel
theorem dX11_windowRelease_23 : decode cX11_windowRelease 23 = .ok (.ireturn, 1) := by decide +kernel
theorem dX11_isWithin_0 : decode cX11_isWithin 0 = .ok (.iload_n 0, 1) := by decide +kernel
theorem dX11_isWithin_1 : decode cX11_isWithin 1 = .ok (.iload_n 1, 1) := by decide +kernel
theorem dX11_isWithin_2 : decode cX11_isWithin 2 = .ok (.if_icmp .lt 12, 3) := by decide +kernel
theorem dX11_isWithin_5 : decode cX11_isWithin 5 = .ok (.iload_n 0, 1) := by decide +kernel
theorem dX11_isWithin_6 : decode cX11_isWithin 6 = .ok (.iload_n 2, 1) := by decide +kernel
theorem dX11_isWithin_7 : decode cX11_isWithin 7 = .ok (.if_icmp .gt 7, 3) := by decide +kernel
theorem dX11_isWithin_10 : decode cX11_isWithin 10 = .ok (.iconst 1, 1) := by decide +kernel
theorem dX11_isWithin_11 : decode cX11_isWithin 11 = .ok (.goto 4, 3) := by decide +kernel
theorem dX11_isWithin_14 : decode cX11_isWithin 14 = .ok (.iconst 0, 1) := by decide +kernel
theorem dX11_isWithin_15 : decode cX11_isWithin 15 = .ok (.ireturn, 1) := by decide +kernel
theorem dX11_needJobInRange_0 : decode cX11_needJobInRange 0 = .ok (.iload_n 0, 1) := by decide +kernel
theorem dX11_needJobInRange_1 : decode cX11_needJobInRange 1 = .ok (.iconst 1, 1) := by decide +kernel
theorem dX11_needJobInRange_2 : decode cX11_needJobInRange 2 = .ok (.bipush 30, 2) := by decide +kernel
theorem dX11_needJobInRange_4 : decode cX11_needJobInRange 4 = .ok (.invokestatic 87, 3) := by decide +kernel
theorem dX11_needJobInRange_7 : decode cX11_needJobInRange 7 = .ok (.ifCond .eq 44, 3) := by decide +kernel
theorem dX11_needJobInRange_10 : decode cX11_needJobInRange 10 = .ok (.iload_n 1, 1) := by decide +kernel
theorem dX11_needJobInRange_11 : decode cX11_needJobInRange 11 = .ok (.iconst 0, 1) := by decide +kernel
theorem dX11_needJobInRange_12 : decode cX11_needJobInRange 12 = .ok (.sipush 300, 3) := by decide +kernel
theorem dX11_needJobInRange_15 : decode cX11_needJobInRange 15 = .ok (.invokestatic 87, 3) := by decide +kernel
theorem dX11_needJobInRange_18 : decode cX11_needJobInRange 18 = .ok (.ifCond .eq 33, 3) := by decide +kernel
theorem dX11_needJobInRange_21 : decode cX11_needJobInRange 21 = .ok (.iload_n 2, 1) := by decide +kernel
theorem dX11_needJobInRange_22 : decode cX11_needJobInRange 22 = .ok (.iconst 1, 1) := by decide +kernel
theorem dX11_needJobInRange_23 : decode cX11_needJobInRange 23 = .ok (.bipush 20, 2) := by decide +kernel
theorem dX11_needJobInRange_25 : decode cX11_needJobInRange 25 = .ok (.invokestatic 87, 3) := by decide +kernel
theorem dX11_needJobInRange_28 : decode cX11_needJobInRange 28 = .ok (.ifCond .eq 23, 3) := by decide +kernel
theorem dX11_needJobInRange_31 : decode cX11_needJobInRange 31 = .ok (.iload_n 3, 1) := by decide +kernel
theorem dX11_needJobInRange_32 : decode cX11_needJobInRange 32 = .ok (.iconst 0, 1) := by decide +kernel
theorem dX11_needJobInRange_33 : decode cX11_needJobInRange 33 = .ok (.bipush 100, 2) := by decide +kernel
theorem dX11_needJobInRange_35 : decode cX11_needJobInRange 35 = .ok (.invokestatic 87, 3) := by decide +kernel
theorem dX11_needJobInRange_38 : decode cX11_needJobInRange 38 = .ok (.ifCond .eq 13, 3) := by decide +kernel
theorem dX11_needJobInRange_41 : decode cX11_needJobInRange 41 = .ok (.iload 4, 2) := by decide +kernel
theorem dX11_needJobInRange_43 : decode cX11_needJobInRange 43 = .ok (.iconst 0, 1) := by decide +kernel
theorem dX11_needJobInRange_44 : decode cX11_needJobInRange 44 = .ok (.iconst 3, 1) := by decide +kernel
theorem dX11_needJobInRange_45 : decode cX11_needJobInRange 45 = .ok (.invokestatic 87, 3) := by decide +kernel
theorem dX11_needJobInRange_48 : decode cX11_needJobInRange 48 = .ok (.ifCond .ne 13, 3) := by decide +kernel
theorem dX11_needJobInRange_51 : decode cX11_needJobInRange 51 = .ok (.new 96, 3) := by decide +kernel
theorem dX11_needJobInRange_54 : decode cX11_needJobInRange 54 = .ok (.dup, 1) := by decide +kernel
theorem dX11_needJobInRange_55 : decode cX11_needJobInRange 55 = .ok (.ldc 228, 2) := by decide +kernel
theorem dX11_needJobInRange_57 : decode cX11_needJobInRange 57 = .ok (.invokespecial 100, 3) := by decide +kernel
theorem dX11_needJobInRange_60 : decode cX11_needJobInRange 60 = .ok (.athrow, 1) := by decide +kernel
theorem dX11_needJobInRange_61 : decode cX11_needJobInRange 61 = .ok (.return_, 1) := by decide +kernel
theorem dX11_needJob_0 : decode cX11_needJob 0 = .ok (.iload_n 1, 1) := by decide +kernel
theorem dX11_needJob_1 : decode cX11_needJob 1 = .ok (.iconst 0, 1) := by decide +kernel
theorem dX11_needJob_2 : decode cX11_needJob 2 = .ok (.aload_n 0, 1) := by decide +kernel
theorem dX11_needJob_3 : decode cX11_needJob 3 = .ok (.getfield 12, 3) := by decide +kernel
theorem dX11_needJob_6 : decode cX11_needJob 6 = .ok (.getfield 62, 3) := by decide +kernel
theorem dX11_needJob_9 : decode cX11_needJob 9 = .ok (.iconst 1, 1) := by decide +kernel
theorem dX11_needJob_10 : decode cX11_needJob 10 = .ok (.isub, 1) := by decide +kernel
theorem dX11_needJob_11 : decode cX11_needJob 11 = .ok (.invokestatic 87, 3) := by decide +kernel
theorem dX11_needJob_14 : decode cX11_needJob 14 = .ok (.ifCond .ne 13, 3) := by decide +kernel
theorem dX11_needJob_17 : decode cX11_needJob 17 = .ok (.new 91, 3) := by decide +kernel
theorem dX11_needJob_20 : decode cX11_needJob 20 = .ok (.dup, 1) := by decide +kernel
theorem dX11_needJob_21 : decode cX11_needJob 21 = .ok (.ldc 230, 2) := by decide +kernel
theorem dX11_needJob_23 : decode cX11_needJob 23 = .ok (.invokespecial 95, 3) := by decide +kernel
theorem dX11_needJob_26 : decode cX11_needJob 26 = .ok (.athrow, 1) := by decide +kernel
theorem dX11_needJob_27 : decode cX11_needJob 27 = .ok (.return_, 1) := by decide +kernel
theorem dX11_needPiece_0 : decode cX11_needPiece 0 = .ok (.iload_n 1, 1) := by decide +kernel
theorem dX11_needPiece_1 : decode cX11_needPiece 1 = .ok (.iconst 0, 1) := by decide +kernel
theorem dX11_needPiece_2 : decode cX11_needPiece 2 = .ok (.aload_n 0, 1) := by decide +kernel
theorem dX11_needPiece_3 : decode cX11_needPiece 3 = .ok (.getfield 19, 3) := by decide +kernel
theorem dX11_needPiece_6 : decode cX11_needPiece 6 = .ok (.getfield 159, 3) := by decide +kernel
theorem dX11_needPiece_9 : decode cX11_needPiece 9 = .ok (.iconst 1, 1) := by decide +kernel
theorem dX11_needPiece_10 : decode cX11_needPiece 10 = .ok (.isub, 1) := by decide +kernel
theorem dX11_needPiece_11 : decode cX11_needPiece 11 = .ok (.invokestatic 87, 3) := by decide +kernel
theorem dX11_needPiece_14 : decode cX11_needPiece 14 = .ok (.ifCond .ne 13, 3) := by decide +kernel
theorem dX11_needPiece_17 : decode cX11_needPiece 17 = .ok (.new 91, 3) := by decide +kernel
theorem dX11_needPiece_20 : decode cX11_needPiece 20 = .ok (.dup, 1) := by decide +kernel
theorem dX11_needPiece_21 : decode cX11_needPiece 21 = .ok (.ldc 232, 2) := by decide +kernel
theorem dX11_needPiece_23 : decode cX11_needPiece 23 = .ok (.invokespecial 95, 3) := by decide +kernel
theorem dX11_needPiece_26 : decode cX11_needPiece 26 = .ok (.athrow, 1) := by decide +kernel
theorem dX11_needPiece_27 : decode cX11_needPiece 27 = .ok (.return_, 1) := by decide +kernel
theorem dX11_needPlan_0 : decode cX11_needPlan 0 = .ok (.aload_n 0, 1) := by decide +kernel
theorem dX11_needPlan_1 : decode cX11_needPlan 1 = .ok (.getfield 19, 3) := by decide +kernel
theorem dX11_needPlan_4 : decode cX11_needPlan 4 = .ok (.getfield 155, 3) := by decide +kernel
theorem dX11_needPlan_7 : decode cX11_needPlan 7 = .ok (.ifCond .ne 13, 3) := by decide +kernel
theorem dX11_needPlan_10 : decode cX11_needPlan 10 = .ok (.new 66, 3) := by decide +kernel
theorem dX11_needPlan_13 : decode cX11_needPlan 13 = .ok (.dup, 1) := by decide +kernel
theorem dX11_needPlan_14 : decode cX11_needPlan 14 = .ok (.ldc 234, 2) := by decide +kernel
theorem dX11_needPlan_16 : decode cX11_needPlan 16 = .ok (.invokespecial 70, 3) := by decide +kernel
theorem dX11_needPlan_19 : decode cX11_needPlan 19 = .ok (.athrow, 1) := by decide +kernel
theorem dX11_needPlan_20 : decode cX11_needPlan 20 = .ok (.return_, 1) := by decide +kernel
theorem dX11_needSomeJob_0 : decode cX11_needSomeJob 0 = .ok (.aload_n 0, 1) := by decide +kernel
theorem dX11_needSomeJob_1 : decode cX11_needSomeJob 1 = .ok (.getfield 12, 3) := by decide +kernel
theorem dX11_needSomeJob_4 : decode cX11_needSomeJob 4 = .ok (.getfield 62, 3) := by decide +kernel
theorem dX11_needSomeJob_7 : decode cX11_needSomeJob 7 = .ok (.ifCond .ne 13, 3) := by decide +kernel
theorem dX11_needSomeJob_10 : decode cX11_needSomeJob 10 = .ok (.new 66, 3) := by decide +kernel
theorem dX11_needSomeJob_13 : decode cX11_needSomeJob 13 = .ok (.dup, 1) := by decide +kernel
theorem dX11_needSomeJob_14 : decode cX11_needSomeJob 14 = .ok (.ldc 236, 2) := by decide +kernel
theorem dX11_needSomeJob_16 : decode cX11_needSomeJob 16 = .ok (.invokespecial 70, 3) := by decide +kernel
theorem dX11_needSomeJob_19 : decode cX11_needSomeJob 19 = .ok (.athrow, 1) := by decide +kernel
theorem dX11_needSomeJob_20 : decode cX11_needSomeJob 20 = .ok (.return_, 1) := by decide +kernel
theorem dX11_needFewJobs_0 : decode cX11_needFewJobs 0 = .ok (.aload_n 0, 1) := by decide +kernel
theorem dX11_needFewJobs_1 : decode cX11_needFewJobs 1 = .ok (.getfield 12, 3) := by decide +kernel
theorem dX11_needFewJobs_4 : decode cX11_needFewJobs 4 = .ok (.getfield 62, 3) := by decide +kernel
theorem dX11_needFewJobs_7 : decode cX11_needFewJobs 7 = .ok (.iconst 1, 1) := by decide +kernel
theorem dX11_needFewJobs_8 : decode cX11_needFewJobs 8 = .ok (.bipush 7, 2) := by decide +kernel
theorem dX11_needFewJobs_10 : decode cX11_needFewJobs 10 = .ok (.invokestatic 87, 3) := by decide +kernel
theorem dX11_needFewJobs_13 : decode cX11_needFewJobs 13 = .ok (.ifCond .ne 13, 3) := by decide +kernel
theorem dX11_needFewJobs_16 : decode cX11_needFewJobs 16 = .ok (.new 66, 3) := by decide +kernel
theorem dX11_needFewJobs_19 : decode cX11_needFewJobs 19 = .ok (.dup, 1) := by decide +kernel
theorem dX11_needFewJobs_20 : decode cX11_needFewJobs 20 = .ok (.ldc 238, 2) := by decide +kernel
theorem dX11_needFewJobs_22 : decode cX11_needFewJobs 22 = .ok (.invokespecial 70, 3) := by decide +kernel
theorem dX11_needFewJobs_25 : decode cX11_needFewJobs 25 = .ok (.athrow, 1) := by decide +kernel
theorem dX11_needFewJobs_26 : decode cX11_needFewJobs 26 = .ok (.return_, 1) := by decide +kernel
theorem dX12_init_0 : decode cX12_init 0 = .ok (.aload_n 0, 1) := by decide +kernel
theorem dX12_init_1 : decode cX12_init 1 = .ok (.invokespecial 1, 3) := by decide +kernel
theorem dX12_init_4 : decode cX12_init 4 = .ok (.aload_n 0, 1) := by decide +kernel
theorem dX12_init_5 : decode cX12_init 5 = .ok (.bipush 10, 2) := by decide +kernel
theorem dX12_init_7 : decode cX12_init 7 = .ok (.newarray .int, 2) := by decide +kernel
theorem dX12_init_9 : decode cX12_init 9 = .ok (.putfield 7, 3) := by decide +kernel
theorem dX12_init_12 : decode cX12_init 12 = .ok (.aload_n 0, 1) := by decide +kernel
theorem dX12_init_13 : decode cX12_init 13 = .ok (.bipush 10, 2) := by decide +kernel
theorem dX12_init_15 : decode cX12_init 15 = .ok (.newarray .int, 2) := by decide +kernel
theorem dX12_init_17 : decode cX12_init 17 = .ok (.putfield 13, 3) := by decide +kernel
theorem dX12_init_20 : decode cX12_init 20 = .ok (.aload_n 0, 1) := by decide +kernel
theorem dX12_init_21 : decode cX12_init 21 = .ok (.bipush 10, 2) := by decide +kernel
theorem dX12_init_23 : decode cX12_init 23 = .ok (.newarray .int, 2) := by decide +kernel
theorem dX12_init_25 : decode cX12_init 25 = .ok (.putfield 16, 3) := by decide +kernel
theorem dX12_init_28 : decode cX12_init 28 = .ok (.aload_n 0, 1) := by decide +kernel
theorem dX12_init_29 : decode cX12_init 29 = .ok (.bipush 10, 2) := by decide +kernel
theorem dX12_init_31 : decode cX12_init 31 = .ok (.newarray .int, 2) := by decide +kernel
theorem dX12_init_33 : decode cX12_init 33 = .ok (.putfield 19, 3) := by decide +kernel
theorem dX12_init_36 : decode cX12_init 36 = .ok (.aload_n 0, 1) := by decide +kernel
theorem dX12_init_37 : decode cX12_init 37 = .ok (.bipush 10, 2) := by decide +kernel
theorem dX12_init_39 : decode cX12_init 39 = .ok (.newarray .int, 2) := by decide +kernel
theorem dX12_init_41 : decode cX12_init 41 = .ok (.putfield 22, 3) := by decide +kernel
theorem dX12_init_44 : decode cX12_init 44 = .ok (.aload_n 0, 1) := by decide +kernel
theorem dX12_init_45 : decode cX12_init 45 = .ok (.iconst 4, 1) := by decide +kernel
theorem dX12_init_46 : decode cX12_init 46 = .ok (.newarray .int, 2) := by decide +kernel
theorem dX12_init_48 : decode cX12_init 48 = .ok (.putfield 25, 3) := by decide +kernel
theorem dX12_init_51 : decode cX12_init 51 = .ok (.aload_n 0, 1) := by decide +kernel
theorem dX12_init_52 : decode cX12_init 52 = .ok (.bipush 64, 2) := by decide +kernel
theorem dX12_init_54 : decode cX12_init 54 = .ok (.newarray .int, 2) := by decide +kernel
theorem dX12_init_56 : decode cX12_init 56 = .ok (.putfield 28, 3) := by decide +kernel
theorem dX12_init_59 : decode cX12_init 59 = .ok (.aload_n 0, 1) := by decide +kernel
theorem dX12_init_60 : decode cX12_init 60 = .ok (.bipush 64, 2) := by decide +kernel
theorem dX12_init_62 : decode cX12_init 62 = .ok (.newarray .int, 2) := by decide +kernel
theorem dX12_init_64 : decode cX12_init 64 = .ok (.putfield 31, 3) := by decide +kernel
theorem dX12_init_67 : decode cX12_init 67 = .ok (.aload_n 0, 1) := by decide +kernel
theorem dX12_init_68 : decode cX12_init 68 = .ok (.bipush 64, 2) := by decide +kernel
theorem dX12_init_70 : decode cX12_init 70 = .ok (.newarray .int, 2) := by decide +kernel
theorem dX12_init_72 : decode cX12_init 72 = .ok (.putfield 34, 3) := by decide +kernel
theorem dX12_init_75 : decode cX12_init 75 = .ok (.aload_n 0, 1) := by decide +kernel
theorem dX12_init_76 : decode cX12_init 76 = .ok (.bipush 10, 2) := by decide +kernel
theorem dX12_init_78 : decode cX12_init 78 = .ok (.newarray .int, 2) := by decide +kernel
theorem dX12_init_80 : decode cX12_init 80 = .ok (.putfield 37, 3) := by decide +kernel
theorem dX12_init_83 : decode cX12_init 83 = .ok (.aload_n 0, 1) := by decide +kernel
theorem dX12_init_84 : decode cX12_init 84 = .ok (.bipush 10, 2) := by decide +kernel
theorem dX12_init_86 : decode cX12_init 86 = .ok (.newarray .int, 2) := by decide +kernel
theorem dX12_init_88 : decode cX12_init 88 = .ok (.putfield 40, 3) := by decide +kernel
theorem dX12_init_91 : decode cX12_init 91 = .ok (.aload_n 0, 1) := by decide +kernel
theorem dX12_init_92 : decode cX12_init 92 = .ok (.bipush 10, 2) := by decide +kernel
theorem dX12_init_94 : decode cX12_init 94 = .ok (.newarray .int, 2) := by decide +kernel
theorem dX12_init_96 : decode cX12_init 96 = .ok (.putfield 43, 3) := by decide +kernel
theorem dX12_init_99 : decode cX12_init 99 = .ok (.aload_n 0, 1) := by decide +kernel
theorem dX12_init_100 : decode cX12_init 100 = .ok (.sipush 1024, 3) := by decide +kernel
theorem dX12_init_103 : decode cX12_init 103 = .ok (.newarray .int, 2) := by decide +kernel
theorem dX12_init_105 : decode cX12_init 105 = .ok (.putfield 46, 3) := by decide +kernel
theorem dX12_init_108 : decode cX12_init 108 = .ok (.aload_n 0, 1) := by decide +kernel
theorem dX12_init_109 : decode cX12_init 109 = .ok (.sipush 5120, 3) := by decide +kernel
theorem dX12_init_112 : decode cX12_init 112 = .ok (.newarray .int, 2) := by decide +kernel
theorem dX12_init_114 : decode cX12_init 114 = .ok (.putfield 49, 3) := by decide +kernel
theorem dX12_init_117 : decode cX12_init 117 = .ok (.aload_n 0, 1) := by decide +kernel
theorem dX12_init_118 : decode cX12_init 118 = .ok (.bipush 11, 2) := by decide +kernel
theorem dX12_init_120 : decode cX12_init 120 = .ok (.newarray .int, 2) := by decide +kernel
theorem dX12_init_122 : decode cX12_init 122 = .ok (.putfield 52, 3) := by decide +kernel
theorem dX12_init_125 : decode cX12_init 125 = .ok (.aload_n 0, 1) := by decide +kernel
theorem dX12_init_126 : decode cX12_init 126 = .ok (.sipush 512, 3) := by decide +kernel
theorem dX12_init_129 : decode cX12_init 129 = .ok (.newarray .boolean, 2) := by decide +kernel
theorem dX12_init_131 : decode cX12_init 131 = .ok (.putfield 55, 3) := by decide +kernel
theorem dX12_init_134 : decode cX12_init 134 = .ok (.return_, 1) := by decide +kernel
theorem dX12_thrown_0 : decode cX12_thrown 0 = .ok (.aload_n 0, 1) := by decide +kernel
theorem dX12_thrown_1 : decode cX12_thrown 1 = .ok (.getfield 59, 3) := by decide +kernel
theorem dX12_thrown_4 : decode cX12_thrown 4 = .ok (.ireturn, 1) := by decide +kernel
theorem dX12_holds_0 : decode cX12_holds 0 = .ok (.aload_n 0, 1) := by decide +kernel
theorem dX12_holds_1 : decode cX12_holds 1 = .ok (.iload_n 1, 1) := by decide +kernel
theorem dX12_holds_2 : decode cX12_holds 2 = .ok (.putfield 59, 3) := by decide +kernel
theorem dX12_holds_5 : decode cX12_holds 5 = .ok (.iload_n 1, 1) := by decide +kernel
theorem dX12_holds_6 : decode cX12_holds 6 = .ok (.ifCond .ne 7, 3) := by decide +kernel
theorem dX12_holds_9 : decode cX12_holds 9 = .ok (.iconst 1, 1) := by decide +kernel
theorem dX12_holds_10 : decode cX12_holds 10 = .ok (.goto 4, 3) := by decide +kernel
theorem dX12_holds_13 : decode cX12_holds 13 = .ok (.iconst 0, 1) := by decide +kernel
theorem dX12_holds_14 : decode cX12_holds 14 = .ok (.ireturn, 1) := by decide +kernel
theorem dX12_isJob_0 : decode cX12_isJob 0 = .ok (.iload_n 1, 1) := by decide +kernel
theorem dX12_isJob_1 : decode cX12_isJob 1 = .ok (.ifCond .lt 15, 3) := by decide +kernel
theorem dX12_isJob_4 : decode cX12_isJob 4 = .ok (.iload_n 1, 1) := by decide +kernel
theorem dX12_isJob_5 : decode cX12_isJob 5 = .ok (.aload_n 0, 1) := by decide +kernel
theorem dX12_isJob_6 : decode cX12_isJob 6 = .ok (.getfield 63, 3) := by decide +kernel
theorem dX12_isJob_9 : decode cX12_isJob 9 = .ok (.if_icmp .ge 7, 3) := by decide +kernel
theorem dX12_isJob_12 : decode cX12_isJob 12 = .ok (.iconst 1, 1) := by decide +kernel
theorem dX12_isJob_13 : decode cX12_isJob 13 = .ok (.goto 4, 3) := by decide +kernel
theorem dX12_isJob_16 : decode cX12_isJob 16 = .ok (.iconst 0, 1) := by decide +kernel
theorem dX12_isJob_17 : decode cX12_isJob 17 = .ok (.ireturn, 1) := by decide +kernel
theorem dX12_isIn_0 : decode cX12_isIn 0 = .ok (.iload_n 0, 1) := by decide +kernel
theorem dX12_isIn_1 : decode cX12_isIn 1 = .ok (.iload_n 1, 1) := by decide +kernel
theorem dX12_isIn_2 : decode cX12_isIn 2 = .ok (.if_icmp .lt 12, 3) := by decide +kernel
theorem dX12_isIn_5 : decode cX12_isIn 5 = .ok (.iload_n 0, 1) := by decide +kernel
theorem dX12_isIn_6 : decode cX12_isIn 6 = .ok (.iload_n 2, 1) := by decide +kernel
theorem dX12_isIn_7 : decode cX12_isIn 7 = .ok (.if_icmp .gt 7, 3) := by decide +kernel
theorem dX12_isIn_10 : decode cX12_isIn 10 = .ok (.iconst 1, 1) := by decide +kernel
theorem dX12_isIn_11 : decode cX12_isIn 11 = .ok (.goto 4, 3) := by decide +kernel
theorem dX12_isIn_14 : decode cX12_isIn 14 = .ok (.iconst 0, 1) := by decide +kernel
theorem dX12_isIn_15 : decode cX12_isIn 15 = .ok (.ireturn, 1) := by decide +kernel
theorem dX12_areRight_0 : decode cX12_areRight 0 = .ok (.iload_n 0, 1) := by decide +kernel
theorem dX12_areRight_1 : decode cX12_areRight 1 = .ok (.iconst 1, 1) := by decide +kernel
theorem dX12_areRight_2 : decode cX12_areRight 2 = .ok (.bipush 30, 2) := by decide +kernel
theorem dX12_areRight_4 : decode cX12_areRight 4 = .ok (.invokestatic 66, 3) := by decide +kernel
theorem dX12_areRight_7 : decode cX12_areRight 7 = .ok (.ifCond .eq 48, 3) := by decide +kernel
theorem dX12_areRight_10 : decode cX12_areRight 10 = .ok (.iload_n 1, 1) := by decide +kernel
theorem dX12_areRight_11 : decode cX12_areRight 11 = .ok (.iconst 0, 1) := by decide +kernel
theorem dX12_areRight_12 : decode cX12_areRight 12 = .ok (.sipush 300, 3) := by decide +kernel
theorem dX12_areRight_15 : decode cX12_areRight 15 = .ok (.invokestatic 66, 3) := by decide +kernel
theorem dX12_areRight_18 : decode cX12_areRight 18 = .ok (.ifCond .eq 37, 3) := by decide +kernel
theorem dX12_areRight_21 : decode cX12_areRight 21 = .ok (.iload_n 2, 1) := by decide +kernel
theorem dX12_areRight_22 : decode cX12_areRight 22 = .ok (.iconst 1, 1) := by decide +kernel
theorem dX12_areRight_23 : decode cX12_areRight 23 = .ok (.bipush 20, 2) := by decide +kernel
theorem dX12_areRight_25 : decode cX12_areRight 25 = .ok (.invokestatic 66, 3) := by decide +kernel
theorem dX12_areRight_28 : decode cX12_areRight 28 = .ok (.ifCond .eq 27, 3) := by decide +kernel
theorem dX12_areRight_31 : decode cX12_areRight 31 = .ok (.iload_n 3, 1) := by decide +kernel
theorem dX12_areRight_32 : decode cX12_areRight 32 = .ok (.iconst 0, 1) := by decide +kernel
theorem dX12_areRight_33 : decode cX12_areRight 33 = .ok (.bipush 100, 2) := by decide +kernel
theorem dX12_areRight_35 : decode cX12_areRight 35 = .ok (.invokestatic 66, 3) := by decide +kernel
theorem dX12_areRight_38 : decode cX12_areRight 38 = .ok (.ifCond .eq 17, 3) := by decide +kernel
theorem dX12_areRight_41 : decode cX12_areRight 41 = .ok (.iload 4, 2) := by decide +kernel
theorem dX12_areRight_43 : decode cX12_areRight 43 = .ok (.iconst 0, 1) := by decide +kernel
theorem dX12_areRight_44 : decode cX12_areRight 44 = .ok (.iconst 3, 1) := by decide +kernel
theorem dX12_areRight_45 : decode cX12_areRight 45 = .ok (.invokestatic 66, 3) := by decide +kernel
theorem dX12_areRight_48 : decode cX12_areRight 48 = .ok (.ifCond .eq 7, 3) := by decide +kernel
theorem dX12_areRight_51 : decode cX12_areRight 51 = .ok (.iconst 1, 1) := by decide +kernel
theorem dX12_areRight_52 : decode cX12_areRight 52 = .ok (.goto 4, 3) := by decide +kernel
theorem dX12_areRight_55 : decode cX12_areRight 55 = .ok (.iconst 0, 1) := by decide +kernel
theorem dX12_areRight_56 : decode cX12_areRight 56 = .ok (.ireturn, 1) := by decide +kernel
theorem dX12_drops_0 : decode cX12_drops 0 = .ok (.aload_n 0, 1) := by decide +kernel
theorem dX12_drops_1 : decode cX12_drops 1 = .ok (.iconst 0, 1) := by decide +kernel
theorem dX12_drops_2 : decode cX12_drops 2 = .ok (.putfield 70, 3) := by decide +kernel
theorem dX12_drops_5 : decode cX12_drops 5 = .ok (.aload_n 0, 1) := by decide +kernel
theorem dX12_drops_6 : decode cX12_drops 6 = .ok (.iconst 0, 1) := by decide +kernel
theorem dX12_drops_7 : decode cX12_drops 7 = .ok (.putfield 74, 3) := by decide +kernel
theorem dX12_drops_10 : decode cX12_drops 10 = .ok (.return_, 1) := by decide +kernel
theorem dX12_lays_0 : decode cX12_lays 0 = .ok (.aload_n 0, 1) := by decide +kernel
theorem dX12_lays_1 : decode cX12_lays 1 = .ok (.getfield 7, 3) := by decide +kernel
theorem dX12_lays_4 : decode cX12_lays 4 = .ok (.iload_n 1, 1) := by decide +kernel
theorem dX12_lays_5 : decode cX12_lays 5 = .ok (.iload_n 2, 1) := by decide +kernel
theorem dX12_lays_6 : decode cX12_lays 6 = .ok (.iastore, 1) := by decide +kernel
theorem dX12_lays_7 : decode cX12_lays 7 = .ok (.aload_n 0, 1) := by decide +kernel
theorem dX12_lays_8 : decode cX12_lays 8 = .ok (.getfield 13, 3) := by decide +kernel
theorem dX12_lays_11 : decode cX12_lays 11 = .ok (.iload_n 1, 1) := by decide +kernel
theorem dX12_lays_12 : decode cX12_lays 12 = .ok (.iload_n 3, 1) := by decide +kernel
theorem dX12_lays_13 : decode cX12_lays 13 = .ok (.iastore, 1) := by decide +kernel
theorem dX12_lays_14 : decode cX12_lays 14 = .ok (.aload_n 0, 1) := by decide +kernel
theorem dX12_lays_15 : decode cX12_lays 15 = .ok (.getfield 16, 3) := by decide +kernel
theorem dX12_lays_18 : decode cX12_lays 18 = .ok (.iload_n 1, 1) := by decide +kernel
theorem dX12_lays_19 : decode cX12_lays 19 = .ok (.iload 4, 2) := by decide +kernel
theorem dX12_lays_21 : decode cX12_lays 21 = .ok (.iastore, 1) := by decide +kernel
theorem dX12_lays_22 : decode cX12_lays 22 = .ok (.aload_n 0, 1) := by decide +kernel
theorem dX12_lays_23 : decode cX12_lays 23 = .ok (.getfield 19, 3) := by decide +kernel
theorem dX12_lays_26 : decode cX12_lays 26 = .ok (.iload_n 1, 1) := by decide +kernel
theorem dX12_lays_27 : decode cX12_lays 27 = .ok (.iload 5, 2) := by decide +kernel
theorem dX12_lays_29 : decode cX12_lays 29 = .ok (.iastore, 1) := by decide +kernel
theorem dX12_lays_30 : decode cX12_lays 30 = .ok (.aload_n 0, 1) := by decide +kernel
theorem dX12_lays_31 : decode cX12_lays 31 = .ok (.getfield 22, 3) := by decide +kernel
theorem dX12_lays_34 : decode cX12_lays 34 = .ok (.iload_n 1, 1) := by decide +kernel
theorem dX12_lays_35 : decode cX12_lays 35 = .ok (.iload 6, 2) := by decide +kernel
theorem dX12_lays_37 : decode cX12_lays 37 = .ok (.iastore, 1) := by decide +kernel
theorem dX12_lays_38 : decode cX12_lays 38 = .ok (.aload_n 0, 1) := by decide +kernel
theorem dX12_lays_39 : decode cX12_lays 39 = .ok (.invokevirtual 77, 3) := by decide +kernel
theorem dX12_lays_42 : decode cX12_lays 42 = .ok (.return_, 1) := by decide +kernel
theorem dX12_addJob_0 : decode cX12_addJob 0 = .ok (.aload_n 0, 1) := by decide +kernel
theorem dX12_addJob_1 : decode cX12_addJob 1 = .ok (.iload_n 1, 1) := by decide +kernel
theorem dX12_addJob_2 : decode cX12_addJob 2 = .ok (.iload_n 2, 1) := by decide +kernel
theorem dX12_addJob_3 : decode cX12_addJob 3 = .ok (.iload_n 3, 1) := by decide +kernel
theorem dX12_addJob_4 : decode cX12_addJob 4 = .ok (.iload 4, 2) := by decide +kernel
theorem dX12_addJob_6 : decode cX12_addJob 6 = .ok (.iload 5, 2) := by decide +kernel
theorem dX12_addJob_8 : decode cX12_addJob 8 = .ok (.invokestatic 80, 3) := by decide +kernel
theorem dX12_addJob_11 : decode cX12_addJob 11 = .ok (.ifCond .ne 7, 3) := by decide +kernel
theorem dX12_addJob_14 : decode cX12_addJob 14 = .ok (.iconst 1, 1) := by decide +kernel
theorem dX12_addJob_15 : decode cX12_addJob 15 = .ok (.goto 17, 3) := by decide +kernel
theorem dX12_addJob_18 : decode cX12_addJob 18 = .ok (.aload_n 0, 1) := by decide +kernel
theorem dX12_addJob_19 : decode cX12_addJob 19 = .ok (.getfield 63, 3) := by decide +kernel
theorem dX12_addJob_22 : decode cX12_addJob 22 = .ok (.bipush 10, 2) := by decide +kernel
theorem dX12_addJob_24 : decode cX12_addJob 24 = .ok (.if_icmp .ne 7, 3) := by decide +kernel
theorem dX12_addJob_27 : decode cX12_addJob 27 = .ok (.iconst 2, 1) := by decide +kernel
theorem dX12_addJob_28 : decode cX12_addJob 28 = .ok (.goto 4, 3) := by decide +kernel
theorem dX12_addJob_31 : decode cX12_addJob 31 = .ok (.iconst 0, 1) := by decide +kernel
theorem dX12_addJob_32 : decode cX12_addJob 32 = .ok (.invokevirtual 84, 3) := by decide +kernel
theorem dX12_addJob_35 : decode cX12_addJob 35 = .ok (.ifCond .ne 5, 3) := by decide +kernel
theorem dX12_addJob_38 : decode cX12_addJob 38 = .ok (.iconst 0, 1) := by decide +kernel
theorem dX12_addJob_39 : decode cX12_addJob 39 = .ok (.ireturn, 1) := by decide +kernel
theorem dX12_addJob_40 : decode cX12_addJob 40 = .ok (.aload_n 0, 1) := by decide +kernel
theorem dX12_addJob_41 : decode cX12_addJob 41 = .ok (.aload_n 0, 1) := by decide +kernel
theorem dX12_addJob_42 : decode cX12_addJob 42 = .ok (.getfield 63, 3) := by decide +kernel
theorem dX12_addJob_45 : decode cX12_addJob 45 = .ok (.iload_n 1, 1) := by decide +kernel
theorem dX12_addJob_46 : decode cX12_addJob 46 = .ok (.iload_n 2, 1) := by decide +kernel
theorem dX12_addJob_47 : decode cX12_addJob 47 = .ok (.iload_n 3, 1) := by decide +kernel
theorem dX12_addJob_48 : decode cX12_addJob 48 = .ok (.iload 4, 2) := by decide +kernel
theorem dX12_addJob_50 : decode cX12_addJob 50 = .ok (.iload 5, 2) := by decide +kernel
theorem dX12_addJob_52 : decode cX12_addJob 52 = .ok (.invokevirtual 88, 3) := by decide +kernel
theorem dX12_addJob_55 : decode cX12_addJob 55 = .ok (.aload_n 0, 1) := by decide +kernel
theorem dX12_addJob_56 : decode cX12_addJob 56 = .ok (.dup, 1) := by decide +kernel
theorem dX12_addJob_57 : decode cX12_addJob 57 = .ok (.getfield 63, 3) := by decide +kernel
theorem dX12_addJob_60 : decode cX12_addJob 60 = .ok (.iconst 1, 1) := by decide +kernel
theorem dX12_addJob_61 : decode cX12_addJob 61 = .ok (.iadd, 1) := by decide +kernel
theorem dX12_addJob_62 : decode cX12_addJob 62 = .ok (.putfield 63, 3) := by decide +kernel
theorem dX12_addJob_65 : decode cX12_addJob 65 = .ok (.aload_n 0, 1) := by decide +kernel
theorem dX12_addJob_66 : decode cX12_addJob 66 = .ok (.getfield 63, 3) := by decide +kernel
theorem dX12_addJob_69 : decode cX12_addJob 69 = .ok (.iconst 1, 1) := by decide +kernel
theorem dX12_addJob_70 : decode cX12_addJob 70 = .ok (.isub, 1) := by decide +kernel
theorem dX12_addJob_71 : decode cX12_addJob 71 = .ok (.ireturn, 1) := by decide +kernel
theorem dX12_changeJob_0 : decode cX12_changeJob 0 = .ok (.aload_n 0, 1) := by decide +kernel
theorem dX12_changeJob_1 : decode cX12_changeJob 1 = .ok (.aload_n 0, 1) := by decide +kernel
theorem dX12_changeJob_2 : decode cX12_changeJob 2 = .ok (.iload_n 1, 1) := by decide +kernel
theorem dX12_changeJob_3 : decode cX12_changeJob 3 = .ok (.invokevirtual 92, 3) := by decide +kernel
theorem dX12_changeJob_6 : decode cX12_changeJob 6 = .ok (.ifCond .ne 7, 3) := by decide +kernel
theorem dX12_changeJob_9 : decode cX12_changeJob 9 = .ok (.iconst 1, 1) := by decide +kernel
theorem dX12_changeJob_10 : decode cX12_changeJob 10 = .ok (.goto 22, 3) := by decide +kernel
theorem dX12_changeJob_13 : decode cX12_changeJob 13 = .ok (.iload_n 2, 1) := by decide +kernel
theorem dX12_changeJob_14 : decode cX12_changeJob 14 = .ok (.iload_n 3, 1) := by decide +kernel
theorem dX12_changeJob_15 : decode cX12_changeJob 15 = .ok (.iload 4, 2) := by decide +kernel
theorem dX12_changeJob_17 : decode cX12_changeJob 17 = .ok (.iload 5, 2) := by decide +kernel
theorem dX12_changeJob_19 : decode cX12_changeJob 19 = .ok (.iload 6, 2) := by decide +kernel
theorem dX12_changeJob_21 : decode cX12_changeJob 21 = .ok (.invokestatic 80, 3) := by decide +kernel
theorem dX12_changeJob_24 : decode cX12_changeJob 24 = .ok (.ifCond .eq 7, 3) := by decide +kernel
theorem dX12_changeJob_27 : decode cX12_changeJob 27 = .ok (.iconst 0, 1) := by decide +kernel
theorem dX12_changeJob_28 : decode cX12_changeJob 28 = .ok (.goto 4, 3) := by decide +kernel
theorem dX12_changeJob_31 : decode cX12_changeJob 31 = .ok (.iconst 2, 1) := by decide +kernel
theorem dX12_changeJob_32 : decode cX12_changeJob 32 = .ok (.invokevirtual 84, 3) := by decide +kernel
theorem dX12_changeJob_35 : decode cX12_changeJob 35 = .ok (.ifCond .eq 16, 3) := by decide +kernel
theorem dX12_changeJob_38 : decode cX12_changeJob 38 = .ok (.aload_n 0, 1) := by decide +kernel
theorem dX12_changeJob_39 : decode cX12_changeJob 39 = .ok (.iload_n 1, 1) := by decide +kernel
theorem dX12_changeJob_40 : decode cX12_changeJob 40 = .ok (.iload_n 2, 1) := by decide +kernel
theorem dX12_changeJob_41 : decode cX12_changeJob 41 = .ok (.iload_n 3, 1) := by decide +kernel
theorem dX12_changeJob_42 : decode cX12_changeJob 42 = .ok (.iload 4, 2) := by decide +kernel
theorem dX12_changeJob_44 : decode cX12_changeJob 44 = .ok (.iload 5, 2) := by decide +kernel
theorem dX12_changeJob_46 : decode cX12_changeJob 46 = .ok (.iload 6, 2) := by decide +kernel
theorem dX12_changeJob_48 : decode cX12_changeJob 48 = .ok (.invokevirtual 88, 3) := by decide +kernel
theorem dX12_changeJob_51 : decode cX12_changeJob 51 = .ok (.return_, 1) := by decide +kernel
theorem dX12_removeJob_0 : decode cX12_removeJob 0 = .ok (.aload_n 0, 1) := by decide +kernel
theorem dX12_removeJob_1 : decode cX12_removeJob 1 = .ok (.aload_n 0, 1) := by decide +kernel
theorem dX12_removeJob_2 : decode cX12_removeJob 2 = .ok (.iload_n 1, 1) := by decide +kernel
theorem dX12_removeJob_3 : decode cX12_removeJob 3 = .ok (.invokevirtual 92, 3) := by decide +kernel
theorem dX12_removeJob_6 : decode cX12_removeJob 6 = .ok (.ifCond .eq 7, 3) := by decide +kernel
theorem dX12_removeJob_9 : decode cX12_removeJob 9 = .ok (.iconst 0, 1) := by decide +kernel
theorem dX12_removeJob_10 : decode cX12_removeJob 10 = .ok (.goto 4, 3) := by decide +kernel
theorem dX12_removeJob_13 : decode cX12_removeJob 13 = .ok (.iconst 1, 1) := by decide +kernel
theorem dX12_removeJob_14 : decode cX12_removeJob 14 = .ok (.invokevirtual 84, 3) := by decide +kernel
theorem dX12_removeJob_17 : decode cX12_removeJob 17 = .ok (.ifCond .ne 5, 3) := by decide +kernel
theorem dX12_removeJob_20 : decode cX12_removeJob 20 = .ok (.iconst 0, 1) := by decide +kernel
theorem dX12_removeJob_21 : decode cX12_removeJob 21 = .ok (.ireturn, 1) := by decide +kernel
theorem dX12_removeJob_22 : decode cX12_removeJob 22 = .ok (.aload_n 0, 1) := by decide +kernel
theorem dX12_removeJob_23 : decode cX12_removeJob 23 = .ok (.invokevirtual 77, 3) := by decide +kernel
theorem dX12_removeJob_26 : decode cX12_removeJob 26 = .ok (.aload_n 0, 1) := by decide +kernel
theorem dX12_removeJob_27 : decode cX12_removeJob 27 = .ok (.dup, 1) := by decide +kernel
theorem dX12_removeJob_28 : decode cX12_removeJob 28 = .ok (.getfield 63, 3) := by decide +kernel
theorem dX12_removeJob_31 : decode cX12_removeJob 31 = .ok (.iconst 1, 1) := by decide +kernel
theorem dX12_removeJob_32 : decode cX12_removeJob 32 = .ok (.isub, 1) := by decide +kernel
theorem dX12_removeJob_33 : decode cX12_removeJob 33 = .ok (.putfield 63, 3) := by decide +kernel
theorem dX12_removeJob_36 : decode cX12_removeJob 36 = .ok (.iload_n 1, 1) := by decide +kernel
theorem dX12_removeJob_37 : decode cX12_removeJob 37 = .ok (.istore_n 2, 1) := by decide +kernel
theorem dX12_removeJob_38 : decode cX12_removeJob 38 = .ok (.iload_n 2, 1) := by decide +kernel
theorem dX12_removeJob_39 : decode cX12_removeJob 39 = .ok (.aload_n 0, 1) := by decide +kernel
theorem dX12_removeJob_40 : decode cX12_removeJob 40 = .ok (.getfield 63, 3) := by decide +kernel
theorem dX12_removeJob_43 : decode cX12_removeJob 43 = .ok (.if_icmp .ge 54, 3) := by decide +kernel
theorem dX12_removeJob_46 : decode cX12_removeJob 46 = .ok (.aload_n 0, 1) := by decide +kernel
theorem dX12_removeJob_47 : decode cX12_removeJob 47 = .ok (.iload_n 2, 1) := by decide +kernel
theorem dX12_removeJob_48 : decode cX12_removeJob 48 = .ok (.aload_n 0, 1) := by decide +kernel
theorem dX12_removeJob_49 : decode cX12_removeJob 49 = .ok (.getfield 7, 3) := by decide +kernel
theorem dX12_removeJob_52 : decode cX12_removeJob 52 = .ok (.iload_n 2, 1) := by decide +kernel
theorem dX12_removeJob_53 : decode cX12_removeJob 53 = .ok (.iconst 1, 1) := by decide +kernel
theorem dX12_removeJob_54 : decode cX12_removeJob 54 = .ok (.iadd, 1) := by decide +kernel
theorem dX12_removeJob_55 : decode cX12_removeJob 55 = .ok (.iaload, 1) := by decide +kernel
theorem dX12_removeJob_56 : decode cX12_removeJob 56 = .ok (.aload_n 0, 1) := by decide +kernel
theorem dX12_removeJob_57 : decode cX12_removeJob 57 = .ok (.getfield 13, 3) := by decide +kernel
theorem dX12_removeJob_60 : decode cX12_removeJob 60 = .ok (.iload_n 2, 1) := by decide +kernel
theorem dX12_removeJob_61 : decode cX12_removeJob 61 = .ok (.iconst 1, 1) := by decide +kernel
theorem dX12_removeJob_62 : decode cX12_removeJob 62 = .ok (.iadd, 1) := by decide +kernel
theorem dX12_removeJob_63 : decode cX12_removeJob 63 = .ok (.iaload, 1) := by decide +kernel
theorem dX12_removeJob_64 : decode cX12_removeJob 64 = .ok (.aload_n 0, 1) := by decide +kernel
theorem dX12_removeJob_65 : decode cX12_removeJob 65 = .ok (.getfield 16, 3) := by decide +kernel
theorem dX12_removeJob_68 : decode cX12_removeJob 68 = .ok (.iload_n 2, 1) := by decide +kernel
theorem dX12_removeJob_69 : decode cX12_removeJob 69 = .ok (.iconst 1, 1) := by decide +kernel
theorem dX12_removeJob_70 : decode cX12_removeJob 70 = .ok (.iadd, 1) := by decide +kernel
theorem dX12_removeJob_71 : decode cX12_removeJob 71 = .ok (.iaload, 1) := by decide +kernel
theorem dX12_removeJob_72 : decode cX12_removeJob 72 = .ok (.aload_n 0, 1) := by decide +kernel
theorem dX12_removeJob_73 : decode cX12_removeJob 73 = .ok (.getfield 19, 3) := by decide +kernel
theorem dX12_removeJob_76 : decode cX12_removeJob 76 = .ok (.iload_n 2, 1) := by decide +kernel
theorem dX12_removeJob_77 : decode cX12_removeJob 77 = .ok (.iconst 1, 1) := by decide +kernel
theorem dX12_removeJob_78 : decode cX12_removeJob 78 = .ok (.iadd, 1) := by decide +kernel
theorem dX12_removeJob_79 : decode cX12_removeJob 79 = .ok (.iaload, 1) := by decide +kernel
theorem dX12_removeJob_80 : decode cX12_removeJob 80 = .ok (.aload_n 0, 1) := by decide +kernel
theorem dX12_removeJob_81 : decode cX12_removeJob 81 = .ok (.getfield 22, 3) := by decide +kernel
theorem dX12_removeJob_84 : decode cX12_removeJob 84 = .ok (.iload_n 2, 1) := by decide +kernel
theorem dX12_removeJob_85 : decode cX12_removeJob 85 = .ok (.iconst 1, 1) := by decide +kernel
theorem dX12_removeJob_86 : decode cX12_removeJob 86 = .ok (.iadd, 1) := by decide +kernel
theorem dX12_removeJob_87 : decode cX12_removeJob 87 = .ok (.iaload, 1) := by decide +kernel
theorem dX12_removeJob_88 : decode cX12_removeJob 88 = .ok (.invokevirtual 88, 3) := by decide +kernel
theorem dX12_removeJob_91 : decode cX12_removeJob 91 = .ok (.iinc 2 1, 3) := by decide +kernel
theorem dX12_removeJob_94 : decode cX12_removeJob 94 = .ok (.goto (-56), 3) := by decide +kernel
theorem dX12_removeJob_97 : decode cX12_removeJob 97 = .ok (.aload_n 0, 1) := by decide +kernel
theorem dX12_removeJob_98 : decode cX12_removeJob 98 = .ok (.getfield 63, 3) := by decide +kernel
theorem dX12_removeJob_101 : decode cX12_removeJob 101 = .ok (.ireturn, 1) := by decide +kernel
theorem dX12_setSetup_0 : decode cX12_setSetup 0 = .ok (.aload_n 0, 1) := by decide +kernel
theorem dX12_setSetup_1 : decode cX12_setSetup 1 = .ok (.iload_n 1, 1) := by decide +kernel
theorem dX12_setSetup_2 : decode cX12_setSetup 2 = .ok (.iconst 0, 1) := by decide +kernel
theorem dX12_setSetup_3 : decode cX12_setSetup 3 = .ok (.iconst 3, 1) := by decide +kernel
theorem dX12_setSetup_4 : decode cX12_setSetup 4 = .ok (.invokestatic 66, 3) := by decide +kernel
theorem dX12_setSetup_7 : decode cX12_setSetup 7 = .ok (.ifCond .ne 7, 3) := by decide +kernel
theorem dX12_setSetup_10 : decode cX12_setSetup 10 = .ok (.iconst 1, 1) := by decide +kernel
theorem dX12_setSetup_11 : decode cX12_setSetup 11 = .ok (.goto 18, 3) := by decide +kernel
theorem dX12_setSetup_14 : decode cX12_setSetup 14 = .ok (.iload_n 2, 1) := by decide +kernel
theorem dX12_setSetup_15 : decode cX12_setSetup 15 = .ok (.iconst 0, 1) := by decide +kernel
theorem dX12_setSetup_16 : decode cX12_setSetup 16 = .ok (.bipush 20, 2) := by decide +kernel
theorem dX12_setSetup_18 : decode cX12_setSetup 18 = .ok (.invokestatic 66, 3) := by decide +kernel
theorem dX12_setSetup_21 : decode cX12_setSetup 21 = .ok (.ifCond .eq 7, 3) := by decide +kernel
theorem dX12_setSetup_24 : decode cX12_setSetup 24 = .ok (.iconst 0, 1) := by decide +kernel
theorem dX12_setSetup_25 : decode cX12_setSetup 25 = .ok (.goto 4, 3) := by decide +kernel
theorem dX12_setSetup_28 : decode cX12_setSetup 28 = .ok (.iconst 2, 1) := by decide +kernel
theorem dX12_setSetup_29 : decode cX12_setSetup 29 = .ok (.invokevirtual 84, 3) := by decide +kernel
theorem dX12_setSetup_32 : decode cX12_setSetup 32 = .ok (.ifCond .ne 5, 3) := by decide +kernel
theorem dX12_setSetup_35 : decode cX12_setSetup 35 = .ok (.iconst 0, 1) := by decide +kernel
theorem dX12_setSetup_36 : decode cX12_setSetup 36 = .ok (.ireturn, 1) := by decide +kernel
theorem dX12_setSetup_37 : decode cX12_setSetup 37 = .ok (.aload_n 0, 1) := by decide +kernel
theorem dX12_setSetup_38 : decode cX12_setSetup 38 = .ok (.getfield 25, 3) := by decide +kernel
theorem dX12_setSetup_41 : decode cX12_setSetup 41 = .ok (.iload_n 1, 1) := by decide +kernel
theorem dX12_setSetup_42 : decode cX12_setSetup 42 = .ok (.iaload, 1) := by decide +kernel
theorem dX12_setSetup_43 : decode cX12_setSetup 43 = .ok (.istore_n 3, 1) := by decide +kernel
theorem dX12_setSetup_44 : decode cX12_setSetup 44 = .ok (.aload_n 0, 1) := by decide +kernel
theorem dX12_setSetup_45 : decode cX12_setSetup 45 = .ok (.getfield 25, 3) := by decide +kernel
theorem dX12_setSetup_48 : decode cX12_setSetup 48 = .ok (.iload_n 1, 1) := by decide +kernel
theorem dX12_setSetup_49 : decode cX12_setSetup 49 = .ok (.iload_n 2, 1) := by decide +kernel
theorem dX12_setSetup_50 : decode cX12_setSetup 50 = .ok (.iastore, 1) := by decide +kernel
theorem dX12_setSetup_51 : decode cX12_setSetup 51 = .ok (.aload_n 0, 1) := by decide +kernel
theorem dX12_setSetup_52 : decode cX12_setSetup 52 = .ok (.invokevirtual 77, 3) := by decide +kernel
theorem dX12_setSetup_55 : decode cX12_setSetup 55 = .ok (.iload_n 3, 1) := by decide +kernel
theorem dX12_setSetup_56 : decode cX12_setSetup 56 = .ok (.ireturn, 1) := by decide +kernel
theorem dX12_jobs_0 : decode cX12_jobs 0 = .ok (.aload_n 0, 1) := by decide +kernel
theorem dX12_jobs_1 : decode cX12_jobs 1 = .ok (.iconst 0, 1) := by decide +kernel
theorem dX12_jobs_2 : decode cX12_jobs 2 = .ok (.putfield 59, 3) := by decide +kernel
theorem dX12_jobs_5 : decode cX12_jobs 5 = .ok (.aload_n 0, 1) := by decide +kernel
theorem dX12_jobs_6 : decode cX12_jobs 6 = .ok (.getfield 63, 3) := by decide +kernel
theorem dX12_jobs_9 : decode cX12_jobs 9 = .ok (.ireturn, 1) := by decide +kernel
theorem dX12_comesByDue_0 : decode cX12_comesByDue 0 = .ok (.aload_n 0, 1) := by decide +kernel
theorem dX12_comesByDue_1 : decode cX12_comesByDue 1 = .ok (.getfield 13, 3) := by decide +kernel
theorem dX12_comesByDue_4 : decode cX12_comesByDue 4 = .ok (.iload_n 1, 1) := by decide +kernel
theorem dX12_comesByDue_5 : decode cX12_comesByDue 5 = .ok (.iaload, 1) := by decide +kernel
theorem dX12_comesByDue_6 : decode cX12_comesByDue 6 = .ok (.aload_n 0, 1) := by decide +kernel
theorem dX12_comesByDue_7 : decode cX12_comesByDue 7 = .ok (.getfield 13, 3) := by decide +kernel
theorem dX12_comesByDue_10 : decode cX12_comesByDue 10 = .ok (.iload_n 2, 1) := by decide +kernel
theorem dX12_comesByDue_11 : decode cX12_comesByDue 11 = .ok (.iaload, 1) := by decide +kernel
theorem dX12_comesByDue_12 : decode cX12_comesByDue 12 = .ok (.if_icmp .lt 23, 3) := by decide +kernel
theorem dX12_comesByDue_15 : decode cX12_comesByDue 15 = .ok (.aload_n 0, 1) := by decide +kernel
theorem dX12_comesByDue_16 : decode cX12_comesByDue 16 = .ok (.getfield 13, 3) := by decide +kernel
theorem dX12_comesByDue_19 : decode cX12_comesByDue 19 = .ok (.iload_n 1, 1) := by decide +kernel
theorem dX12_comesByDue_20 : decode cX12_comesByDue 20 = .ok (.iaload, 1) := by decide +kernel
theorem dX12_comesByDue_21 : decode cX12_comesByDue 21 = .ok (.aload_n 0, 1) := by decide +kernel
theorem dX12_comesByDue_22 : decode cX12_comesByDue 22 = .ok (.getfield 13, 3) := by decide +kernel
theorem dX12_comesByDue_25 : decode cX12_comesByDue 25 = .ok (.iload_n 2, 1) := by decide +kernel
theorem dX12_comesByDue_26 : decode cX12_comesByDue 26 = .ok (.iaload, 1) := by decide +kernel
theorem dX12_comesByDue_27 : decode cX12_comesByDue 27 = .ok (.if_icmp .ne 12, 3) := by decide +kernel
theorem dX12_comesByDue_30 : decode cX12_comesByDue 30 = .ok (.iload_n 1, 1) := by decide +kernel
theorem dX12_comesByDue_31 : decode cX12_comesByDue 31 = .ok (.iload_n 2, 1) := by decide +kernel
theorem dX12_comesByDue_32 : decode cX12_comesByDue 32 = .ok (.if_icmp .ge 7, 3) := by decide +kernel
theorem dX12_comesByDue_35 : decode cX12_comesByDue 35 = .ok (.iconst 1, 1) := by decide +kernel
theorem dX12_comesByDue_36 : decode cX12_comesByDue 36 = .ok (.goto 4, 3) := by decide +kernel
theorem dX12_comesByDue_39 : decode cX12_comesByDue 39 = .ok (.iconst 0, 1) := by decide +kernel
theorem dX12_comesByDue_40 : decode cX12_comesByDue 40 = .ok (.ireturn, 1) := by decide +kernel
theorem dX12_comesByRatio_0 : decode cX12_comesByRatio 0 = .ok (.aload_n 0, 1) := by decide +kernel
theorem dX12_comesByRatio_1 : decode cX12_comesByRatio 1 = .ok (.getfield 16, 3) := by decide +kernel
theorem dX12_comesByRatio_4 : decode cX12_comesByRatio 4 = .ok (.iload_n 1, 1) := by decide +kernel
theorem dX12_comesByRatio_5 : decode cX12_comesByRatio 5 = .ok (.iaload, 1) := by decide +kernel
theorem dX12_comesByRatio_6 : decode cX12_comesByRatio 6 = .ok (.aload_n 0, 1) := by decide +kernel
theorem dX12_comesByRatio_7 : decode cX12_comesByRatio 7 = .ok (.getfield 7, 3) := by decide +kernel
theorem dX12_comesByRatio_10 : decode cX12_comesByRatio 10 = .ok (.iload_n 2, 1) := by decide +kernel
theorem dX12_comesByRatio_11 : decode cX12_comesByRatio 11 = .ok (.iaload, 1) := by decide +kernel
theorem dX12_comesByRatio_12 : decode cX12_comesByRatio 12 = .ok (.imul, 1) := by decide +kernel
theorem dX12_comesByRatio_13 : decode cX12_comesByRatio 13 = .ok (.istore_n 3, 1) := by decide +kernel
theorem dX12_comesByRatio_14 : decode cX12_comesByRatio 14 = .ok (.aload_n 0, 1) := by decide +kernel
theorem dX12_comesByRatio_15 : decode cX12_comesByRatio 15 = .ok (.getfield 16, 3) := by decide +kernel
theorem dX12_comesByRatio_18 : decode cX12_comesByRatio 18 = .ok (.iload_n 2, 1) := by decide +kernel
theorem dX12_comesByRatio_19 : decode cX12_comesByRatio 19 = .ok (.iaload, 1) := by decide +kernel
theorem dX12_comesByRatio_20 : decode cX12_comesByRatio 20 = .ok (.aload_n 0, 1) := by decide +kernel
theorem dX12_comesByRatio_21 : decode cX12_comesByRatio 21 = .ok (.getfield 7, 3) := by decide +kernel
theorem dX12_comesByRatio_24 : decode cX12_comesByRatio 24 = .ok (.iload_n 1, 1) := by decide +kernel
theorem dX12_comesByRatio_25 : decode cX12_comesByRatio 25 = .ok (.iaload, 1) := by decide +kernel
theorem dX12_comesByRatio_26 : decode cX12_comesByRatio 26 = .ok (.imul, 1) := by decide +kernel
theorem dX12_comesByRatio_27 : decode cX12_comesByRatio 27 = .ok (.istore 4, 2) := by decide +kernel
theorem dX12_comesByRatio_29 : decode cX12_comesByRatio 29 = .ok (.iload_n 3, 1) := by decide +kernel
theorem dX12_comesByRatio_30 : decode cX12_comesByRatio 30 = .ok (.iload 4, 2) := by decide +kernel
theorem dX12_comesByRatio_32 : decode cX12_comesByRatio 32 = .ok (.if_icmp .gt 14, 3) := by decide +kernel
theorem dX12_comesByRatio_35 : decode cX12_comesByRatio 35 = .ok (.iload_n 3, 1) := by decide +kernel
theorem dX12_comesByRatio_36 : decode cX12_comesByRatio 36 = .ok (.iload 4, 2) := by decide +kernel
theorem dX12_comesByRatio_38 : decode cX12_comesByRatio 38 = .ok (.if_icmp .ne 12, 3) := by decide +kernel
theorem dX12_comesByRatio_41 : decode cX12_comesByRatio 41 = .ok (.iload_n 1, 1) := by decide +kernel
theorem dX12_comesByRatio_42 : decode cX12_comesByRatio 42 = .ok (.iload_n 2, 1) := by decide +kernel
theorem dX12_comesByRatio_43 : decode cX12_comesByRatio 43 = .ok (.if_icmp .ge 7, 3) := by decide +kernel
theorem dX12_comesByRatio_46 : decode cX12_comesByRatio 46 = .ok (.iconst 1, 1) := by decide +kernel
theorem dX12_comesByRatio_47 : decode cX12_comesByRatio 47 = .ok (.goto 4, 3) := by decide +kernel
theorem dX12_comesByRatio_50 : decode cX12_comesByRatio 50 = .ok (.iconst 0, 1) := by decide +kernel
theorem dX12_comesByRatio_51 : decode cX12_comesByRatio 51 = .ok (.ireturn, 1) := by decide +kernel
theorem dX12_laysOrder_0 : decode cX12_laysOrder 0 = .ok (.iconst 0, 1) := by decide +kernel
theorem dX12_laysOrder_1 : decode cX12_laysOrder 1 = .ok (.istore_n 2, 1) := by decide +kernel
theorem dX12_laysOrder_2 : decode cX12_laysOrder 2 = .ok (.iload_n 2, 1) := by decide +kernel
theorem dX12_laysOrder_3 : decode cX12_laysOrder 3 = .ok (.aload_n 0, 1) := by decide +kernel
theorem dX12_laysOrder_4 : decode cX12_laysOrder 4 = .ok (.getfield 63, 3) := by decide +kernel
theorem dX12_laysOrder_7 : decode cX12_laysOrder 7 = .ok (.if_icmp .ge 78, 3) := by decide +kernel
theorem dX12_laysOrder_10 : decode cX12_laysOrder 10 = .ok (.iconst 0, 1) := by decide +kernel
theorem dX12_laysOrder_11 : decode cX12_laysOrder 11 = .ok (.istore_n 3, 1) := by decide +kernel
theorem dX12_laysOrder_12 : decode cX12_laysOrder 12 = .ok (.iconst 0, 1) := by decide +kernel
theorem dX12_laysOrder_13 : decode cX12_laysOrder 13 = .ok (.istore 4, 2) := by decide +kernel
theorem dX12_laysOrder_15 : decode cX12_laysOrder 15 = .ok (.iload 4, 2) := by decide +kernel
theorem dX12_laysOrder_17 : decode cX12_laysOrder 17 = .ok (.aload_n 0, 1) := by decide +kernel
theorem dX12_laysOrder_18 : decode cX12_laysOrder 18 = .ok (.getfield 63, 3) := by decide +kernel
theorem dX12_laysOrder_21 : decode cX12_laysOrder 21 = .ok (.if_icmp .ge 51, 3) := by decide +kernel
theorem dX12_laysOrder_24 : decode cX12_laysOrder 24 = .ok (.iload_n 1, 1) := by decide +kernel
theorem dX12_laysOrder_25 : decode cX12_laysOrder 25 = .ok (.ifCond .eq 13, 3) := by decide +kernel
theorem dX12_laysOrder_28 : decode cX12_laysOrder 28 = .ok (.aload_n 0, 1) := by decide +kernel
theorem dX12_laysOrder_29 : decode cX12_laysOrder 29 = .ok (.iload 4, 2) := by decide +kernel
theorem dX12_laysOrder_31 : decode cX12_laysOrder 31 = .ok (.iload_n 2, 1) := by decide +kernel
theorem dX12_laysOrder_32 : decode cX12_laysOrder 32 = .ok (.invokevirtual 95, 3) := by decide +kernel
theorem dX12_laysOrder_35 : decode cX12_laysOrder 35 = .ok (.goto 10, 3) := by decide +kernel
theorem dX12_laysOrder_38 : decode cX12_laysOrder 38 = .ok (.aload_n 0, 1) := by decide +kernel
theorem dX12_laysOrder_39 : decode cX12_laysOrder 39 = .ok (.iload 4, 2) := by decide +kernel
theorem dX12_laysOrder_41 : decode cX12_laysOrder 41 = .ok (.iload_n 2, 1) := by decide +kernel
theorem dX12_laysOrder_42 : decode cX12_laysOrder 42 = .ok (.invokevirtual 99, 3) := by decide +kernel
theorem dX12_laysOrder_45 : decode cX12_laysOrder 45 = .ok (.istore 5, 2) := by decide +kernel
theorem dX12_laysOrder_47 : decode cX12_laysOrder 47 = .ok (.iload_n 3, 1) := by decide +kernel
theorem dX12_laysOrder_48 : decode cX12_laysOrder 48 = .ok (.iload 4, 2) := by decide +kernel
theorem dX12_laysOrder_50 : decode cX12_laysOrder 50 = .ok (.iload_n 2, 1) := by decide +kernel
theorem dX12_laysOrder_51 : decode cX12_laysOrder 51 = .ok (.if_icmp .eq 12, 3) := by decide +kernel
theorem dX12_laysOrder_54 : decode cX12_laysOrder 54 = .ok (.iload 5, 2) := by decide +kernel
theorem dX12_laysOrder_56 : decode cX12_laysOrder 56 = .ok (.ifCond .eq 7, 3) := by decide +kernel
theorem dX12_laysOrder_59 : decode cX12_laysOrder 59 = .ok (.iconst 1, 1) := by decide +kernel
theorem dX12_laysOrder_60 : decode cX12_laysOrder 60 = .ok (.goto 4, 3) := by decide +kernel
theorem dX12_laysOrder_63 : decode cX12_laysOrder 63 = .ok (.iconst 0, 1) := by decide +kernel
theorem dX12_laysOrder_64 : decode cX12_laysOrder 64 = .ok (.iadd, 1) := by decide +kernel
theorem dX12_laysOrder_65 : decode cX12_laysOrder 65 = .ok (.istore_n 3, 1) := by decide +kernel
theorem dX12_laysOrder_66 : decode cX12_laysOrder 66 = .ok (.iinc 4 1, 3) := by decide +kernel
theorem dX12_laysOrder_69 : decode cX12_laysOrder 69 = .ok (.goto (-54), 3) := by decide +kernel
theorem dX12_laysOrder_72 : decode cX12_laysOrder 72 = .ok (.aload_n 0, 1) := by decide +kernel
theorem dX12_laysOrder_73 : decode cX12_laysOrder 73 = .ok (.getfield 40, 3) := by decide +kernel
theorem dX12_laysOrder_76 : decode cX12_laysOrder 76 = .ok (.iload_n 3, 1) := by decide +kernel
theorem dX12_laysOrder_77 : decode cX12_laysOrder 77 = .ok (.iload_n 2, 1) := by decide +kernel
theorem dX12_laysOrder_78 : decode cX12_laysOrder 78 = .ok (.iastore, 1) := by decide +kernel
theorem dX12_laysOrder_79 : decode cX12_laysOrder 79 = .ok (.iinc 2 1, 3) := by decide +kernel
theorem dX12_laysOrder_82 : decode cX12_laysOrder 82 = .ok (.goto (-80), 3) := by decide +kernel
theorem dX12_laysOrder_85 : decode cX12_laysOrder 85 = .ok (.return_, 1) := by decide +kernel
theorem dX12_lengthOf_0 : decode cX12_lengthOf 0 = .ok (.iconst 0, 1) := by decide +kernel
theorem dX12_lengthOf_1 : decode cX12_lengthOf 1 = .ok (.istore_n 2, 1) := by decide +kernel
theorem dX12_lengthOf_2 : decode cX12_lengthOf 2 = .ok (.iconst 0, 1) := by decide +kernel
theorem dX12_lengthOf_3 : decode cX12_lengthOf 3 = .ok (.istore_n 3, 1) := by decide +kernel
theorem dX12_lengthOf_4 : decode cX12_lengthOf 4 = .ok (.iload_n 3, 1) := by decide +kernel
theorem dX12_lengthOf_5 : decode cX12_lengthOf 5 = .ok (.aload_n 0, 1) := by decide +kernel
theorem dX12_lengthOf_6 : decode cX12_lengthOf 6 = .ok (.getfield 63, 3) := by decide +kernel
theorem dX12_lengthOf_9 : decode cX12_lengthOf 9 = .ok (.if_icmp .ge 31, 3) := by decide +kernel
theorem dX12_lengthOf_12 : decode cX12_lengthOf 12 = .ok (.iload_n 2, 1) := by decide +kernel
theorem dX12_lengthOf_13 : decode cX12_lengthOf 13 = .ok (.iload_n 1, 1) := by decide +kernel
theorem dX12_lengthOf_14 : decode cX12_lengthOf 14 = .ok (.iload_n 3, 1) := by decide +kernel
theorem dX12_lengthOf_15 : decode cX12_lengthOf 15 = .ok (.ishr, 1) := by decide +kernel
theorem dX12_lengthOf_16 : decode cX12_lengthOf 16 = .ok (.iconst 1, 1) := by decide +kernel
theorem dX12_lengthOf_17 : decode cX12_lengthOf 17 = .ok (.iand, 1) := by decide +kernel
theorem dX12_lengthOf_18 : decode cX12_lengthOf 18 = .ok (.iconst 1, 1) := by decide +kernel
theorem dX12_lengthOf_19 : decode cX12_lengthOf 19 = .ok (.if_icmp .ne 12, 3) := by decide +kernel
theorem dX12_lengthOf_22 : decode cX12_lengthOf 22 = .ok (.aload_n 0, 1) := by decide +kernel
theorem dX12_lengthOf_23 : decode cX12_lengthOf 23 = .ok (.getfield 7, 3) := by decide +kernel
theorem dX12_lengthOf_26 : decode cX12_lengthOf 26 = .ok (.iload_n 3, 1) := by decide +kernel
theorem dX12_lengthOf_27 : decode cX12_lengthOf 27 = .ok (.iaload, 1) := by decide +kernel
theorem dX12_lengthOf_28 : decode cX12_lengthOf 28 = .ok (.goto 4, 3) := by decide +kernel
theorem dX12_lengthOf_31 : decode cX12_lengthOf 31 = .ok (.iconst 0, 1) := by decide +kernel
theorem dX12_lengthOf_32 : decode cX12_lengthOf 32 = .ok (.iadd, 1) := by decide +kernel
theorem dX12_lengthOf_33 : decode cX12_lengthOf 33 = .ok (.istore_n 2, 1) := by decide +kernel
theorem dX12_lengthOf_34 : decode cX12_lengthOf 34 = .ok (.iinc 3 1, 3) := by decide +kernel
theorem dX12_lengthOf_37 : decode cX12_lengthOf 37 = .ok (.goto (-33), 3) := by decide +kernel
theorem dX12_lengthOf_40 : decode cX12_lengthOf 40 = .ok (.iload_n 2, 1) := by decide +kernel
theorem dX12_lengthOf_41 : decode cX12_lengthOf 41 = .ok (.ireturn, 1) := by decide +kernel
theorem dX12_tardy_0 : decode cX12_tardy 0 = .ok (.iload_n 2, 1) := by decide +kernel
theorem dX12_tardy_1 : decode cX12_tardy 1 = .ok (.aload_n 0, 1) := by decide +kernel
theorem dX12_tardy_2 : decode cX12_tardy 2 = .ok (.getfield 13, 3) := by decide +kernel
theorem dX12_tardy_5 : decode cX12_tardy 5 = .ok (.iload_n 1, 1) := by decide +kernel
theorem dX12_tardy_6 : decode cX12_tardy 6 = .ok (.iaload, 1) := by decide +kernel
theorem dX12_tardy_7 : decode cX12_tardy 7 = .ok (.if_icmp .le 21, 3) := by decide +kernel
theorem dX12_tardy_10 : decode cX12_tardy 10 = .ok (.aload_n 0, 1) := by decide +kernel
theorem dX12_tardy_11 : decode cX12_tardy 11 = .ok (.getfield 16, 3) := by decide +kernel
theorem dX12_tardy_14 : decode cX12_tardy 14 = .ok (.iload_n 1, 1) := by decide +kernel
theorem dX12_tardy_15 : decode cX12_tardy 15 = .ok (.iaload, 1) := by decide +kernel
theorem dX12_tardy_16 : decode cX12_tardy 16 = .ok (.iload_n 2, 1) := by decide +kernel
theorem dX12_tardy_17 : decode cX12_tardy 17 = .ok (.aload_n 0, 1) := by decide +kernel
theorem dX12_tardy_18 : decode cX12_tardy 18 = .ok (.getfield 13, 3) := by decide +kernel
theorem dX12_tardy_21 : decode cX12_tardy 21 = .ok (.iload_n 1, 1) := by decide +kernel
theorem dX12_tardy_22 : decode cX12_tardy 22 = .ok (.iaload, 1) := by decide +kernel
theorem dX12_tardy_23 : decode cX12_tardy 23 = .ok (.isub, 1) := by decide +kernel
theorem dX12_tardy_24 : decode cX12_tardy 24 = .ok (.imul, 1) := by decide +kernel
theorem dX12_tardy_25 : decode cX12_tardy 25 = .ok (.goto 4, 3) := by decide +kernel
theorem dX12_tardy_28 : decode cX12_tardy 28 = .ok (.iconst 0, 1) := by decide +kernel
theorem dX12_tardy_29 : decode cX12_tardy 29 = .ok (.ireturn, 1) := by decide +kernel
theorem dX12_joined_0 : decode cX12_joined 0 = .ok (.iload_n 3, 1) := by decide +kernel
theorem dX12_joined_1 : decode cX12_joined 1 = .ok (.aload_n 0, 1) := by decide +kernel
theorem dX12_joined_2 : decode cX12_joined 2 = .ok (.getfield 13, 3) := by decide +kernel
theorem dX12_joined_5 : decode cX12_joined 5 = .ok (.iload_n 2, 1) := by decide +kernel
theorem dX12_joined_6 : decode cX12_joined 6 = .ok (.iaload, 1) := by decide +kernel
theorem dX12_joined_7 : decode cX12_joined 7 = .ok (.isub, 1) := by decide +kernel
theorem dX12_joined_8 : decode cX12_joined 8 = .ok (.istore 5, 2) := by decide +kernel
theorem dX12_joined_10 : decode cX12_joined 10 = .ok (.iload_n 1, 1) := by decide +kernel
theorem dX12_joined_11 : decode cX12_joined 11 = .ok (.ifCond .ne 20, 3) := by decide +kernel
theorem dX12_joined_14 : decode cX12_joined 14 = .ok (.iload 5, 2) := by decide +kernel
theorem dX12_joined_16 : decode cX12_joined 16 = .ok (.iload 4, 2) := by decide +kernel
theorem dX12_joined_18 : decode cX12_joined 18 = .ok (.if_icmp .le 8, 3) := by decide +kernel
theorem dX12_joined_21 : decode cX12_joined 21 = .ok (.iload 5, 2) := by decide +kernel
theorem dX12_joined_23 : decode cX12_joined 23 = .ok (.goto 33, 3) := by decide +kernel
theorem dX12_joined_26 : decode cX12_joined 26 = .ok (.iload 4, 2) := by decide +kernel
theorem dX12_joined_28 : decode cX12_joined 28 = .ok (.goto 28, 3) := by decide +kernel
theorem dX12_joined_31 : decode cX12_joined 31 = .ok (.iload 4, 2) := by decide +kernel
theorem dX12_joined_33 : decode cX12_joined 33 = .ok (.iload_n 1, 1) := by decide +kernel
theorem dX12_joined_34 : decode cX12_joined 34 = .ok (.iconst 1, 1) := by decide +kernel
theorem dX12_joined_35 : decode cX12_joined 35 = .ok (.if_icmp .ne 14, 3) := by decide +kernel
theorem dX12_joined_38 : decode cX12_joined 38 = .ok (.aload_n 0, 1) := by decide +kernel
theorem dX12_joined_39 : decode cX12_joined 39 = .ok (.getfield 16, 3) := by decide +kernel
theorem dX12_joined_42 : decode cX12_joined 42 = .ok (.iload_n 2, 1) := by decide +kernel
theorem dX12_joined_43 : decode cX12_joined 43 = .ok (.iaload, 1) := by decide +kernel
theorem dX12_joined_44 : decode cX12_joined 44 = .ok (.iload_n 3, 1) := by decide +kernel
theorem dX12_joined_45 : decode cX12_joined 45 = .ok (.imul, 1) := by decide +kernel
theorem dX12_joined_46 : decode cX12_joined 46 = .ok (.goto 9, 3) := by decide +kernel
theorem dX12_joined_49 : decode cX12_joined 49 = .ok (.aload_n 0, 1) := by decide +kernel
theorem dX12_joined_50 : decode cX12_joined 50 = .ok (.iload_n 2, 1) := by decide +kernel
theorem dX12_joined_51 : decode cX12_joined 51 = .ok (.iload_n 3, 1) := by decide +kernel
theorem dX12_joined_52 : decode cX12_joined 52 = .ok (.invokevirtual 102, 3) := by decide +kernel
theorem dX12_joined_55 : decode cX12_joined 55 = .ok (.iadd, 1) := by decide +kernel
theorem dX12_joined_56 : decode cX12_joined 56 = .ok (.ireturn, 1) := by decide +kernel
theorem dX12_costs_0 : decode cX12_costs 0 = .ok (.iconst 1, 1) := by decide +kernel
theorem dX12_costs_1 : decode cX12_costs 1 = .ok (.aload_n 0, 1) := by decide +kernel
theorem dX12_costs_2 : decode cX12_costs 2 = .ok (.getfield 63, 3) := by decide +kernel
theorem dX12_costs_5 : decode cX12_costs 5 = .ok (.ishl, 1) := by decide +kernel
theorem dX12_costs_6 : decode cX12_costs 6 = .ok (.iconst 1, 1) := by decide +kernel
theorem dX12_costs_7 : decode cX12_costs 7 = .ok (.isub, 1) := by decide +kernel
theorem dX12_costs_8 : decode cX12_costs 8 = .ok (.istore_n 2, 1) := by decide +kernel
theorem dX12_costs_9 : decode cX12_costs 9 = .ok (.iload_n 2, 1) := by decide +kernel
theorem dX12_costs_10 : decode cX12_costs 10 = .ok (.istore_n 3, 1) := by decide +kernel
theorem dX12_costs_11 : decode cX12_costs 11 = .ok (.iload_n 3, 1) := by decide +kernel
theorem dX12_costs_12 : decode cX12_costs 12 = .ok (.ifCond .lt 127, 3) := by decide +kernel
theorem dX12_costs_15 : decode cX12_costs 15 = .ok (.aload_n 0, 1) := by decide +kernel
theorem dX12_costs_16 : decode cX12_costs 16 = .ok (.iload_n 3, 1) := by decide +kernel
theorem dX12_costs_17 : decode cX12_costs 17 = .ok (.invokevirtual 106, 3) := by decide +kernel
theorem dX12_costs_20 : decode cX12_costs 20 = .ok (.istore 4, 2) := by decide +kernel
theorem dX12_costs_22 : decode cX12_costs 22 = .ok (.aload_n 0, 1) := by decide +kernel
theorem dX12_costs_23 : decode cX12_costs 23 = .ok (.getfield 46, 3) := by decide +kernel
theorem dX12_costs_26 : decode cX12_costs 26 = .ok (.iload_n 3, 1) := by decide +kernel
theorem dX12_costs_27 : decode cX12_costs 27 = .ok (.iload_n 3, 1) := by decide +kernel
theorem dX12_costs_28 : decode cX12_costs 28 = .ok (.iload_n 2, 1) := by decide +kernel
theorem dX12_costs_29 : decode cX12_costs 29 = .ok (.if_icmp .ge 8, 3) := by decide +kernel
theorem dX12_costs_32 : decode cX12_costs 32 = .ok (.ldc 110, 2) := by decide +kernel
theorem dX12_costs_34 : decode cX12_costs 34 = .ok (.goto 13, 3) := by decide +kernel
theorem dX12_costs_37 : decode cX12_costs 37 = .ok (.iload_n 1, 1) := by decide +kernel
theorem dX12_costs_38 : decode cX12_costs 38 = .ok (.ifCond .ne 8, 3) := by decide +kernel
theorem dX12_costs_41 : decode cX12_costs 41 = .ok (.ldc 111, 2) := by decide +kernel
theorem dX12_costs_43 : decode cX12_costs 43 = .ok (.goto 4, 3) := by decide +kernel
theorem dX12_costs_46 : decode cX12_costs 46 = .ok (.iconst 0, 1) := by decide +kernel
theorem dX12_costs_47 : decode cX12_costs 47 = .ok (.iastore, 1) := by decide +kernel
theorem dX12_costs_48 : decode cX12_costs 48 = .ok (.iconst 0, 1) := by decide +kernel
theorem dX12_costs_49 : decode cX12_costs 49 = .ok (.istore 5, 2) := by decide +kernel
theorem dX12_costs_51 : decode cX12_costs 51 = .ok (.iload 5, 2) := by decide +kernel
theorem dX12_costs_53 : decode cX12_costs 53 = .ok (.aload_n 0, 1) := by decide +kernel
theorem dX12_costs_54 : decode cX12_costs 54 = .ok (.getfield 63, 3) := by decide +kernel
theorem dX12_costs_57 : decode cX12_costs 57 = .ok (.if_icmp .ge 76, 3) := by decide +kernel
theorem dX12_costs_60 : decode cX12_costs 60 = .ok (.iload_n 3, 1) := by decide +kernel
theorem dX12_costs_61 : decode cX12_costs 61 = .ok (.iload 5, 2) := by decide +kernel
theorem dX12_costs_63 : decode cX12_costs 63 = .ok (.ishr, 1) := by decide +kernel
theorem dX12_costs_64 : decode cX12_costs 64 = .ok (.iconst 1, 1) := by decide +kernel
theorem dX12_costs_65 : decode cX12_costs 65 = .ok (.iand, 1) := by decide +kernel
theorem dX12_costs_66 : decode cX12_costs 66 = .ok (.ifCond .ne 61, 3) := by decide +kernel
theorem dX12_costs_69 : decode cX12_costs 69 = .ok (.aload_n 0, 1) := by decide +kernel
theorem dX12_costs_70 : decode cX12_costs 70 = .ok (.iload_n 1, 1) := by decide +kernel
theorem dX12_costs_71 : decode cX12_costs 71 = .ok (.iload 5, 2) := by decide +kernel
theorem dX12_costs_73 : decode cX12_costs 73 = .ok (.iload 4, 2) := by decide +kernel
theorem dX12_costs_75 : decode cX12_costs 75 = .ok (.aload_n 0, 1) := by decide +kernel
theorem dX12_costs_76 : decode cX12_costs 76 = .ok (.getfield 7, 3) := by decide +kernel
theorem dX12_costs_79 : decode cX12_costs 79 = .ok (.iload 5, 2) := by decide +kernel
theorem dX12_costs_81 : decode cX12_costs 81 = .ok (.iaload, 1) := by decide +kernel
theorem dX12_costs_82 : decode cX12_costs 82 = .ok (.iadd, 1) := by decide +kernel
theorem dX12_costs_83 : decode cX12_costs 83 = .ok (.aload_n 0, 1) := by decide +kernel
theorem dX12_costs_84 : decode cX12_costs 84 = .ok (.getfield 46, 3) := by decide +kernel
theorem dX12_costs_87 : decode cX12_costs 87 = .ok (.iload_n 3, 1) := by decide +kernel
theorem dX12_costs_88 : decode cX12_costs 88 = .ok (.iconst 1, 1) := by decide +kernel
theorem dX12_costs_89 : decode cX12_costs 89 = .ok (.iload 5, 2) := by decide +kernel
theorem dX12_costs_91 : decode cX12_costs 91 = .ok (.ishl, 1) := by decide +kernel
theorem dX12_costs_92 : decode cX12_costs 92 = .ok (.ior, 1) := by decide +kernel
theorem dX12_costs_93 : decode cX12_costs 93 = .ok (.iaload, 1) := by decide +kernel
theorem dX12_costs_94 : decode cX12_costs 94 = .ok (.invokevirtual 112, 3) := by decide +kernel
theorem dX12_costs_97 : decode cX12_costs 97 = .ok (.istore 6, 2) := by decide +kernel
theorem dX12_costs_99 : decode cX12_costs 99 = .ok (.aload_n 0, 1) := by decide +kernel
theorem dX12_costs_100 : decode cX12_costs 100 = .ok (.getfield 46, 3) := by decide +kernel
theorem dX12_costs_103 : decode cX12_costs 103 = .ok (.iload_n 3, 1) := by decide +kernel
theorem dX12_costs_104 : decode cX12_costs 104 = .ok (.iload 6, 2) := by decide +kernel
theorem dX12_costs_106 : decode cX12_costs 106 = .ok (.aload_n 0, 1) := by decide +kernel
theorem dX12_costs_107 : decode cX12_costs 107 = .ok (.getfield 46, 3) := by decide +kernel
theorem dX12_costs_110 : decode cX12_costs 110 = .ok (.iload_n 3, 1) := by decide +kernel
theorem dX12_costs_111 : decode cX12_costs 111 = .ok (.iaload, 1) := by decide +kernel
theorem dX12_costs_112 : decode cX12_costs 112 = .ok (.if_icmp .ge 8, 3) := by decide +kernel
theorem dX12_costs_115 : decode cX12_costs 115 = .ok (.iload 6, 2) := by decide +kernel
theorem dX12_costs_117 : decode cX12_costs 117 = .ok (.goto 9, 3) := by decide +kernel
theorem dX12_costs_120 : decode cX12_costs 120 = .ok (.aload_n 0, 1) := by decide +kernel
theorem dX12_costs_121 : decode cX12_costs 121 = .ok (.getfield 46, 3) := by decide +kernel
theorem dX12_costs_124 : decode cX12_costs 124 = .ok (.iload_n 3, 1) := by decide +kernel
theorem dX12_costs_125 : decode cX12_costs 125 = .ok (.iaload, 1) := by decide +kernel
theorem dX12_costs_126 : decode cX12_costs 126 = .ok (.iastore, 1) := by decide +kernel
theorem dX12_costs_127 : decode cX12_costs 127 = .ok (.iinc 5 1, 3) := by decide +kernel
theorem dX12_costs_130 : decode cX12_costs 130 = .ok (.goto (-79), 3) := by decide +kernel
theorem dX12_costs_133 : decode cX12_costs 133 = .ok (.iinc 3 (-1), 3) := by decide +kernel
theorem dX12_costs_136 : decode cX12_costs 136 = .ok (.goto (-125), 3) := by decide +kernel
theorem dX12_costs_139 : decode cX12_costs 139 = .ok (.return_, 1) := by decide +kernel
theorem dX12_isNext_0 : decode cX12_isNext 0 = .ok (.iload_n 1, 1) := by decide +kernel
theorem dX12_isNext_1 : decode cX12_isNext 1 = .ok (.iload_n 2, 1) := by decide +kernel
theorem dX12_isNext_2 : decode cX12_isNext 2 = .ok (.ishr, 1) := by decide +kernel
theorem dX12_isNext_3 : decode cX12_isNext 3 = .ok (.iconst 1, 1) := by decide +kernel
theorem dX12_isNext_4 : decode cX12_isNext 4 = .ok (.iand, 1) := by decide +kernel
theorem dX12_isNext_5 : decode cX12_isNext 5 = .ok (.ifCond .ne 7, 3) := by decide +kernel
theorem dX12_isNext_8 : decode cX12_isNext 8 = .ok (.iconst 1, 1) := by decide +kernel
theorem dX12_isNext_9 : decode cX12_isNext 9 = .ok (.goto 4, 3) := by decide +kernel
theorem dX12_isNext_12 : decode cX12_isNext 12 = .ok (.iconst 0, 1) := by decide +kernel
theorem dX12_isNext_13 : decode cX12_isNext 13 = .ok (.istore_n 3, 1) := by decide +kernel
theorem dX12_isNext_14 : decode cX12_isNext 14 = .ok (.iconst 0, 1) := by decide +kernel
theorem dX12_isNext_15 : decode cX12_isNext 15 = .ok (.istore 4, 2) := by decide +kernel
theorem dX12_isNext_17 : decode cX12_isNext 17 = .ok (.iload 4, 2) := by decide +kernel
theorem dX12_isNext_19 : decode cX12_isNext 19 = .ok (.aload_n 0, 1) := by decide +kernel
theorem dX12_isNext_20 : decode cX12_isNext 20 = .ok (.getfield 63, 3) := by decide +kernel
theorem dX12_isNext_23 : decode cX12_isNext 23 = .ok (.if_icmp .ge 72, 3) := by decide +kernel
theorem dX12_isNext_26 : decode cX12_isNext 26 = .ok (.iload 4, 2) := by decide +kernel
theorem dX12_isNext_28 : decode cX12_isNext 28 = .ok (.iload_n 2, 1) := by decide +kernel
theorem dX12_isNext_29 : decode cX12_isNext 29 = .ok (.if_icmp .eq 42, 3) := by decide +kernel
theorem dX12_isNext_32 : decode cX12_isNext 32 = .ok (.aload_n 0, 1) := by decide +kernel
theorem dX12_isNext_33 : decode cX12_isNext 33 = .ok (.getfield 22, 3) := by decide +kernel
theorem dX12_isNext_36 : decode cX12_isNext 36 = .ok (.iload 4, 2) := by decide +kernel
theorem dX12_isNext_38 : decode cX12_isNext 38 = .ok (.iaload, 1) := by decide +kernel
theorem dX12_isNext_39 : decode cX12_isNext 39 = .ok (.aload_n 0, 1) := by decide +kernel
theorem dX12_isNext_40 : decode cX12_isNext 40 = .ok (.getfield 22, 3) := by decide +kernel
theorem dX12_isNext_43 : decode cX12_isNext 43 = .ok (.iload_n 2, 1) := by decide +kernel
theorem dX12_isNext_44 : decode cX12_isNext 44 = .ok (.iaload, 1) := by decide +kernel
theorem dX12_isNext_45 : decode cX12_isNext 45 = .ok (.if_icmp .ne 26, 3) := by decide +kernel
theorem dX12_isNext_48 : decode cX12_isNext 48 = .ok (.iload_n 1, 1) := by decide +kernel
theorem dX12_isNext_49 : decode cX12_isNext 49 = .ok (.iload 4, 2) := by decide +kernel
theorem dX12_isNext_51 : decode cX12_isNext 51 = .ok (.ishr, 1) := by decide +kernel
theorem dX12_isNext_52 : decode cX12_isNext 52 = .ok (.iconst 1, 1) := by decide +kernel
theorem dX12_isNext_53 : decode cX12_isNext 53 = .ok (.iand, 1) := by decide +kernel
theorem dX12_isNext_54 : decode cX12_isNext 54 = .ok (.ifCond .ne 17, 3) := by decide +kernel
theorem dX12_isNext_57 : decode cX12_isNext 57 = .ok (.aload_n 0, 1) := by decide +kernel
theorem dX12_isNext_58 : decode cX12_isNext 58 = .ok (.iload 4, 2) := by decide +kernel
theorem dX12_isNext_60 : decode cX12_isNext 60 = .ok (.iload_n 2, 1) := by decide +kernel
theorem dX12_isNext_61 : decode cX12_isNext 61 = .ok (.invokevirtual 95, 3) := by decide +kernel
theorem dX12_isNext_64 : decode cX12_isNext 64 = .ok (.ifCond .eq 7, 3) := by decide +kernel
theorem dX12_isNext_67 : decode cX12_isNext 67 = .ok (.iconst 1, 1) := by decide +kernel
theorem dX12_isNext_68 : decode cX12_isNext 68 = .ok (.goto 4, 3) := by decide +kernel
theorem dX12_isNext_71 : decode cX12_isNext 71 = .ok (.iconst 0, 1) := by decide +kernel
theorem dX12_isNext_72 : decode cX12_isNext 72 = .ok (.istore 5, 2) := by decide +kernel
theorem dX12_isNext_74 : decode cX12_isNext 74 = .ok (.iload_n 3, 1) := by decide +kernel
theorem dX12_isNext_75 : decode cX12_isNext 75 = .ok (.ifCond .eq 12, 3) := by decide +kernel
theorem dX12_isNext_78 : decode cX12_isNext 78 = .ok (.iload 5, 2) := by decide +kernel
theorem dX12_isNext_80 : decode cX12_isNext 80 = .ok (.ifCond .ne 7, 3) := by decide +kernel
theorem dX12_isNext_83 : decode cX12_isNext 83 = .ok (.iconst 1, 1) := by decide +kernel
theorem dX12_isNext_84 : decode cX12_isNext 84 = .ok (.goto 4, 3) := by decide +kernel
theorem dX12_isNext_87 : decode cX12_isNext 87 = .ok (.iconst 0, 1) := by decide +kernel
theorem dX12_isNext_88 : decode cX12_isNext 88 = .ok (.istore_n 3, 1) := by decide +kernel
theorem dX12_isNext_89 : decode cX12_isNext 89 = .ok (.iinc 4 1, 3) := by decide +kernel
theorem dX12_isNext_92 : decode cX12_isNext 92 = .ok (.goto (-75), 3) := by decide +kernel
theorem dX12_isNext_95 : decode cX12_isNext 95 = .ok (.iload_n 3, 1) := by decide +kernel
theorem dX12_isNext_96 : decode cX12_isNext 96 = .ok (.ireturn, 1) := by decide +kernel
theorem dX12_taken_0 : decode cX12_taken 0 = .ok (.aload_n 0, 1) := by decide +kernel
theorem dX12_taken_1 : decode cX12_taken 1 = .ok (.getfield 7, 3) := by decide +kernel
theorem dX12_taken_4 : decode cX12_taken 4 = .ok (.iload_n 1, 1) := by decide +kernel
theorem dX12_taken_5 : decode cX12_taken 5 = .ok (.iaload, 1) := by decide +kernel
theorem dX12_taken_6 : decode cX12_taken 6 = .ok (.aload_n 0, 1) := by decide +kernel
theorem dX12_taken_7 : decode cX12_taken 7 = .ok (.getfield 22, 3) := by decide +kernel
theorem dX12_taken_10 : decode cX12_taken 10 = .ok (.iload_n 1, 1) := by decide +kernel
theorem dX12_taken_11 : decode cX12_taken 11 = .ok (.iaload, 1) := by decide +kernel
theorem dX12_taken_12 : decode cX12_taken 12 = .ok (.iload_n 2, 1) := by decide +kernel
theorem dX12_taken_13 : decode cX12_taken 13 = .ok (.if_icmp .ne 7, 3) := by decide +kernel
theorem dX12_taken_16 : decode cX12_taken 16 = .ok (.iconst 0, 1) := by decide +kernel
theorem dX12_taken_17 : decode cX12_taken 17 = .ok (.goto 14, 3) := by decide +kernel
theorem dX12_taken_20 : decode cX12_taken 20 = .ok (.aload_n 0, 1) := by decide +kernel
theorem dX12_taken_21 : decode cX12_taken 21 = .ok (.getfield 25, 3) := by decide +kernel
theorem dX12_taken_24 : decode cX12_taken 24 = .ok (.aload_n 0, 1) := by decide +kernel
theorem dX12_taken_25 : decode cX12_taken 25 = .ok (.getfield 22, 3) := by decide +kernel
theorem dX12_taken_28 : decode cX12_taken 28 = .ok (.iload_n 1, 1) := by decide +kernel
theorem dX12_taken_29 : decode cX12_taken 29 = .ok (.iaload, 1) := by decide +kernel
theorem dX12_taken_30 : decode cX12_taken 30 = .ok (.iaload, 1) := by decide +kernel
theorem dX12_taken_31 : decode cX12_taken 31 = .ok (.iadd, 1) := by decide +kernel
theorem dX12_taken_32 : decode cX12_taken 32 = .ok (.ireturn, 1) := by decide +kernel
theorem dX12_costsBehind_0 : decode cX12_costsBehind 0 = .ok (.iconst 1, 1) := by decide +kernel
theorem dX12_costsBehind_1 : decode cX12_costsBehind 1 = .ok (.aload_n 0, 1) := by decide +kernel
theorem dX12_costsBehind_2 : decode cX12_costsBehind 2 = .ok (.getfield 63, 3) := by decide +kernel
theorem dX12_costsBehind_5 : decode cX12_costsBehind 5 = .ok (.ishl, 1) := by decide +kernel
theorem dX12_costsBehind_6 : decode cX12_costsBehind 6 = .ok (.iconst 1, 1) := by decide +kernel
theorem dX12_costsBehind_7 : decode cX12_costsBehind 7 = .ok (.isub, 1) := by decide +kernel
theorem dX12_costsBehind_8 : decode cX12_costsBehind 8 = .ok (.istore_n 2, 1) := by decide +kernel
theorem dX12_costsBehind_9 : decode cX12_costsBehind 9 = .ok (.iconst 5, 1) := by decide +kernel
theorem dX12_costsBehind_10 : decode cX12_costsBehind 10 = .ok (.iload_n 2, 1) := by decide +kernel
theorem dX12_costsBehind_11 : decode cX12_costsBehind 11 = .ok (.imul, 1) := by decide +kernel
theorem dX12_costsBehind_12 : decode cX12_costsBehind 12 = .ok (.iconst 4, 1) := by decide +kernel
theorem dX12_costsBehind_13 : decode cX12_costsBehind 13 = .ok (.iadd, 1) := by decide +kernel
theorem dX12_costsBehind_14 : decode cX12_costsBehind 14 = .ok (.istore_n 3, 1) := by decide +kernel
theorem dX12_costsBehind_15 : decode cX12_costsBehind 15 = .ok (.iload_n 3, 1) := by decide +kernel
theorem dX12_costsBehind_16 : decode cX12_costsBehind 16 = .ok (.ifCond .lt 174, 3) := by decide +kernel
theorem dX12_costsBehind_19 : decode cX12_costsBehind 19 = .ok (.iload_n 3, 1) := by decide +kernel
theorem dX12_costsBehind_20 : decode cX12_costsBehind 20 = .ok (.iconst 5, 1) := by decide +kernel
theorem dX12_costsBehind_21 : decode cX12_costsBehind 21 = .ok (.idiv, 1) := by decide +kernel
theorem dX12_costsBehind_22 : decode cX12_costsBehind 22 = .ok (.istore 4, 2) := by decide +kernel
theorem dX12_costsBehind_24 : decode cX12_costsBehind 24 = .ok (.aload_n 0, 1) := by decide +kernel
theorem dX12_costsBehind_25 : decode cX12_costsBehind 25 = .ok (.getfield 49, 3) := by decide +kernel
theorem dX12_costsBehind_28 : decode cX12_costsBehind 28 = .ok (.iload_n 3, 1) := by decide +kernel
theorem dX12_costsBehind_29 : decode cX12_costsBehind 29 = .ok (.iload 4, 2) := by decide +kernel
theorem dX12_costsBehind_31 : decode cX12_costsBehind 31 = .ok (.iload_n 2, 1) := by decide +kernel
theorem dX12_costsBehind_32 : decode cX12_costsBehind 32 = .ok (.if_icmp .ge 8, 3) := by decide +kernel
theorem dX12_costsBehind_35 : decode cX12_costsBehind 35 = .ok (.ldc 110, 2) := by decide +kernel
theorem dX12_costsBehind_37 : decode cX12_costsBehind 37 = .ok (.goto 5, 3) := by decide +kernel
theorem dX12_costsBehind_40 : decode cX12_costsBehind 40 = .ok (.ldc 111, 2) := by decide +kernel
theorem dX12_costsBehind_42 : decode cX12_costsBehind 42 = .ok (.iastore, 1) := by decide +kernel
theorem dX12_costsBehind_43 : decode cX12_costsBehind 43 = .ok (.iconst 0, 1) := by decide +kernel
theorem dX12_costsBehind_44 : decode cX12_costsBehind 44 = .ok (.istore 5, 2) := by decide +kernel
theorem dX12_costsBehind_46 : decode cX12_costsBehind 46 = .ok (.iload 5, 2) := by decide +kernel
theorem dX12_costsBehind_48 : decode cX12_costsBehind 48 = .ok (.aload_n 0, 1) := by decide +kernel
theorem dX12_costsBehind_49 : decode cX12_costsBehind 49 = .ok (.getfield 63, 3) := by decide +kernel
theorem dX12_costsBehind_52 : decode cX12_costsBehind 52 = .ok (.if_icmp .ge 132, 3) := by decide +kernel
theorem dX12_costsBehind_55 : decode cX12_costsBehind 55 = .ok (.iload 4, 2) := by decide +kernel
theorem dX12_costsBehind_57 : decode cX12_costsBehind 57 = .ok (.iload 5, 2) := by decide +kernel
theorem dX12_costsBehind_59 : decode cX12_costsBehind 59 = .ok (.ishr, 1) := by decide +kernel
theorem dX12_costsBehind_60 : decode cX12_costsBehind 60 = .ok (.iconst 1, 1) := by decide +kernel
theorem dX12_costsBehind_61 : decode cX12_costsBehind 61 = .ok (.iand, 1) := by decide +kernel
theorem dX12_costsBehind_62 : decode cX12_costsBehind 62 = .ok (.ifCond .ne 116, 3) := by decide +kernel
theorem dX12_costsBehind_65 : decode cX12_costsBehind 65 = .ok (.iload_n 1, 1) := by decide +kernel
theorem dX12_costsBehind_66 : decode cX12_costsBehind 66 = .ok (.ifCond .eq 14, 3) := by decide +kernel
theorem dX12_costsBehind_69 : decode cX12_costsBehind 69 = .ok (.aload_n 0, 1) := by decide +kernel
theorem dX12_costsBehind_70 : decode cX12_costsBehind 70 = .ok (.iload 4, 2) := by decide +kernel
theorem dX12_costsBehind_72 : decode cX12_costsBehind 72 = .ok (.iload 5, 2) := by decide +kernel
theorem dX12_costsBehind_74 : decode cX12_costsBehind 74 = .ok (.invokevirtual 116, 3) := by decide +kernel
theorem dX12_costsBehind_77 : decode cX12_costsBehind 77 = .ok (.ifCond .eq 101, 3) := by decide +kernel
theorem dX12_costsBehind_80 : decode cX12_costsBehind 80 = .ok (.aload_n 0, 1) := by decide +kernel
theorem dX12_costsBehind_81 : decode cX12_costsBehind 81 = .ok (.iload 5, 2) := by decide +kernel
theorem dX12_costsBehind_83 : decode cX12_costsBehind 83 = .ok (.iload_n 3, 1) := by decide +kernel
theorem dX12_costsBehind_84 : decode cX12_costsBehind 84 = .ok (.iconst 5, 1) := by decide +kernel
theorem dX12_costsBehind_85 : decode cX12_costsBehind 85 = .ok (.irem, 1) := by decide +kernel
theorem dX12_costsBehind_86 : decode cX12_costsBehind 86 = .ok (.invokevirtual 119, 3) := by decide +kernel
theorem dX12_costsBehind_89 : decode cX12_costsBehind 89 = .ok (.istore 6, 2) := by decide +kernel
theorem dX12_costsBehind_91 : decode cX12_costsBehind 91 = .ok (.iload 6, 2) := by decide +kernel
theorem dX12_costsBehind_93 : decode cX12_costsBehind 93 = .ok (.aload_n 0, 1) := by decide +kernel
theorem dX12_costsBehind_94 : decode cX12_costsBehind 94 = .ok (.getfield 49, 3) := by decide +kernel
theorem dX12_costsBehind_97 : decode cX12_costsBehind 97 = .ok (.iconst 5, 1) := by decide +kernel
theorem dX12_costsBehind_98 : decode cX12_costsBehind 98 = .ok (.iload 4, 2) := by decide +kernel
theorem dX12_costsBehind_100 : decode cX12_costsBehind 100 = .ok (.iconst 1, 1) := by decide +kernel
theorem dX12_costsBehind_101 : decode cX12_costsBehind 101 = .ok (.iload 5, 2) := by decide +kernel
theorem dX12_costsBehind_103 : decode cX12_costsBehind 103 = .ok (.ishl, 1) := by decide +kernel
theorem dX12_costsBehind_104 : decode cX12_costsBehind 104 = .ok (.ior, 1) := by decide +kernel
theorem dX12_costsBehind_105 : decode cX12_costsBehind 105 = .ok (.imul, 1) := by decide +kernel
theorem dX12_costsBehind_106 : decode cX12_costsBehind 106 = .ok (.aload_n 0, 1) := by decide +kernel
theorem dX12_costsBehind_107 : decode cX12_costsBehind 107 = .ok (.getfield 22, 3) := by decide +kernel
theorem dX12_costsBehind_110 : decode cX12_costsBehind 110 = .ok (.iload 5, 2) := by decide +kernel
theorem dX12_costsBehind_112 : decode cX12_costsBehind 112 = .ok (.iaload, 1) := by decide +kernel
theorem dX12_costsBehind_113 : decode cX12_costsBehind 113 = .ok (.iadd, 1) := by decide +kernel
theorem dX12_costsBehind_114 : decode cX12_costsBehind 114 = .ok (.iaload, 1) := by decide +kernel
theorem dX12_costsBehind_115 : decode cX12_costsBehind 115 = .ok (.iadd, 1) := by decide +kernel
theorem dX12_costsBehind_116 : decode cX12_costsBehind 116 = .ok (.istore 7, 2) := by decide +kernel
theorem dX12_costsBehind_118 : decode cX12_costsBehind 118 = .ok (.iload 7, 2) := by decide +kernel
theorem dX12_costsBehind_120 : decode cX12_costsBehind 120 = .ok (.iload 6, 2) := by decide +kernel
theorem dX12_costsBehind_122 : decode cX12_costsBehind 122 = .ok (.aload_n 0, 1) := by decide +kernel
theorem dX12_costsBehind_123 : decode cX12_costsBehind 123 = .ok (.getfield 13, 3) := by decide +kernel
theorem dX12_costsBehind_126 : decode cX12_costsBehind 126 = .ok (.iload 5, 2) := by decide +kernel
theorem dX12_costsBehind_128 : decode cX12_costsBehind 128 = .ok (.iaload, 1) := by decide +kernel
theorem dX12_costsBehind_129 : decode cX12_costsBehind 129 = .ok (.isub, 1) := by decide +kernel
theorem dX12_costsBehind_130 : decode cX12_costsBehind 130 = .ok (.if_icmp .le 8, 3) := by decide +kernel
theorem dX12_costsBehind_133 : decode cX12_costsBehind 133 = .ok (.iload 7, 2) := by decide +kernel
theorem dX12_costsBehind_135 : decode cX12_costsBehind 135 = .ok (.goto 13, 3) := by decide +kernel
theorem dX12_costsBehind_138 : decode cX12_costsBehind 138 = .ok (.iload 6, 2) := by decide +kernel
theorem dX12_costsBehind_140 : decode cX12_costsBehind 140 = .ok (.aload_n 0, 1) := by decide +kernel
theorem dX12_costsBehind_141 : decode cX12_costsBehind 141 = .ok (.getfield 13, 3) := by decide +kernel
theorem dX12_costsBehind_144 : decode cX12_costsBehind 144 = .ok (.iload 5, 2) := by decide +kernel
theorem dX12_costsBehind_146 : decode cX12_costsBehind 146 = .ok (.iaload, 1) := by decide +kernel
theorem dX12_costsBehind_147 : decode cX12_costsBehind 147 = .ok (.isub, 1) := by decide +kernel
theorem dX12_costsBehind_148 : decode cX12_costsBehind 148 = .ok (.istore 8, 2) := by decide +kernel
theorem dX12_costsBehind_150 : decode cX12_costsBehind 150 = .ok (.aload_n 0, 1) := by decide +kernel
theorem dX12_costsBehind_151 : decode cX12_costsBehind 151 = .ok (.getfield 49, 3) := by decide +kernel
theorem dX12_costsBehind_154 : decode cX12_costsBehind 154 = .ok (.iload_n 3, 1) := by decide +kernel
theorem dX12_costsBehind_155 : decode cX12_costsBehind 155 = .ok (.iload 8, 2) := by decide +kernel
theorem dX12_costsBehind_157 : decode cX12_costsBehind 157 = .ok (.aload_n 0, 1) := by decide +kernel
theorem dX12_costsBehind_158 : decode cX12_costsBehind 158 = .ok (.getfield 49, 3) := by decide +kernel
theorem dX12_costsBehind_161 : decode cX12_costsBehind 161 = .ok (.iload_n 3, 1) := by decide +kernel
theorem dX12_costsBehind_162 : decode cX12_costsBehind 162 = .ok (.iaload, 1) := by decide +kernel
theorem dX12_costsBehind_163 : decode cX12_costsBehind 163 = .ok (.if_icmp .ge 8, 3) := by decide +kernel
theorem dX12_costsBehind_166 : decode cX12_costsBehind 166 = .ok (.iload 8, 2) := by decide +kernel
theorem dX12_costsBehind_168 : decode cX12_costsBehind 168 = .ok (.goto 9, 3) := by decide +kernel
theorem dX12_costsBehind_171 : decode cX12_costsBehind 171 = .ok (.aload_n 0, 1) := by decide +kernel
theorem dX12_costsBehind_172 : decode cX12_costsBehind 172 = .ok (.getfield 49, 3) := by decide +kernel
theorem dX12_costsBehind_175 : decode cX12_costsBehind 175 = .ok (.iload_n 3, 1) := by decide +kernel
theorem dX12_costsBehind_176 : decode cX12_costsBehind 176 = .ok (.iaload, 1) := by decide +kernel
theorem dX12_costsBehind_177 : decode cX12_costsBehind 177 = .ok (.iastore, 1) := by decide +kernel
theorem dX12_costsBehind_178 : decode cX12_costsBehind 178 = .ok (.iinc 5 1, 3) := by decide +kernel
theorem dX12_costsBehind_181 : decode cX12_costsBehind 181 = .ok (.goto (-135), 3) := by decide +kernel
theorem dX12_costsBehind_184 : decode cX12_costsBehind 184 = .ok (.iinc 3 (-1), 3) := by decide +kernel
theorem dX12_costsBehind_187 : decode cX12_costsBehind 187 = .ok (.goto (-172), 3) := by decide +kernel
theorem dX12_costsBehind_190 : decode cX12_costsBehind 190 = .ok (.return_, 1) := by decide +kernel
theorem dX12_begins_0 : decode cX12_begins 0 = .ok (.aload_n 0, 1) := by decide +kernel
theorem dX12_begins_1 : decode cX12_begins 1 = .ok (.iconst 1, 1) := by decide +kernel
theorem dX12_begins_2 : decode cX12_begins 2 = .ok (.putfield 70, 3) := by decide +kernel
theorem dX12_begins_5 : decode cX12_begins 5 = .ok (.aload_n 0, 1) := by decide +kernel
theorem dX12_begins_6 : decode cX12_begins 6 = .ok (.iconst 0, 1) := by decide +kernel
theorem dX12_begins_7 : decode cX12_begins 7 = .ok (.putfield 74, 3) := by decide +kernel
theorem dX12_begins_10 : decode cX12_begins 10 = .ok (.return_, 1) := by decide +kernel
theorem dX12_now_0 : decode cX12_now 0 = .ok (.aload_n 0, 1) := by decide +kernel
theorem dX12_now_1 : decode cX12_now 1 = .ok (.getfield 74, 3) := by decide +kernel
theorem dX12_now_4 : decode cX12_now 4 = .ok (.ifCond .ne 7, 3) := by decide +kernel
theorem dX12_now_7 : decode cX12_now 7 = .ok (.iconst 0, 1) := by decide +kernel
theorem dX12_now_8 : decode cX12_now 8 = .ok (.goto 14, 3) := by decide +kernel
theorem dX12_now_11 : decode cX12_now 11 = .ok (.aload_n 0, 1) := by decide +kernel
theorem dX12_now_12 : decode cX12_now 12 = .ok (.getfield 34, 3) := by decide +kernel
theorem dX12_now_15 : decode cX12_now 15 = .ok (.aload_n 0, 1) := by decide +kernel
end
section
theorem dX12_now_16 : decode cX12_now 16 = .ok (.getfield 74, 3) := by decide +kernel
theorem dX12_now_19 : decode cX12_now 19 = .ok (.iconst 1, 1) := by decide +kernel
theorem dX12_now_20 : decode cX12_now 20 = .ok (.isub, 1) := by decide +kernel
theorem dX12_now_21 : decode cX12_now 21 = .ok (.iaload, 1) := by decide +kernel
theorem dX12_now_22 : decode cX12_now 22 = .ok (.ireturn, 1) := by decide +kernel
theorem dX12_works_0 : decode cX12_works 0 = .ok (.aload_n 0, 1) := by decide +kernel
theorem dX12_works_1 : decode cX12_works 1 = .ok (.invokevirtual 122, 3) := by decide +kernel
theorem dX12_works_4 : decode cX12_works 4 = .ok (.iload_n 3, 1) := by decide +kernel
theorem dX12_works_5 : decode cX12_works 5 = .ok (.iadd, 1) := by decide +kernel
theorem dX12_works_6 : decode cX12_works 6 = .ok (.istore 4, 2) := by decide +kernel
theorem dX12_works_8 : decode cX12_works 8 = .ok (.iload_n 3, 1) := by decide +kernel
theorem dX12_works_9 : decode cX12_works 9 = .ok (.ifCond .le 70, 3) := by decide +kernel
theorem dX12_works_12 : decode cX12_works 12 = .ok (.aload_n 0, 1) := by decide +kernel
theorem dX12_works_13 : decode cX12_works 13 = .ok (.getfield 74, 3) := by decide +kernel
theorem dX12_works_16 : decode cX12_works 16 = .ok (.ifCond .eq 33, 3) := by decide +kernel
theorem dX12_works_19 : decode cX12_works 19 = .ok (.aload_n 0, 1) := by decide +kernel
theorem dX12_works_20 : decode cX12_works 20 = .ok (.getfield 28, 3) := by decide +kernel
theorem dX12_works_23 : decode cX12_works 23 = .ok (.aload_n 0, 1) := by decide +kernel
theorem dX12_works_24 : decode cX12_works 24 = .ok (.getfield 74, 3) := by decide +kernel
theorem dX12_works_27 : decode cX12_works 27 = .ok (.iconst 1, 1) := by decide +kernel
theorem dX12_works_28 : decode cX12_works 28 = .ok (.isub, 1) := by decide +kernel
theorem dX12_works_29 : decode cX12_works 29 = .ok (.iaload, 1) := by decide +kernel
theorem dX12_works_30 : decode cX12_works 30 = .ok (.iload_n 1, 1) := by decide +kernel
theorem dX12_works_31 : decode cX12_works 31 = .ok (.if_icmp .ne 18, 3) := by decide +kernel
theorem dX12_works_34 : decode cX12_works 34 = .ok (.aload_n 0, 1) := by decide +kernel
theorem dX12_works_35 : decode cX12_works 35 = .ok (.getfield 31, 3) := by decide +kernel
theorem dX12_works_38 : decode cX12_works 38 = .ok (.aload_n 0, 1) := by decide +kernel
theorem dX12_works_39 : decode cX12_works 39 = .ok (.getfield 74, 3) := by decide +kernel
theorem dX12_works_42 : decode cX12_works 42 = .ok (.iconst 1, 1) := by decide +kernel
theorem dX12_works_43 : decode cX12_works 43 = .ok (.isub, 1) := by decide +kernel
theorem dX12_works_44 : decode cX12_works 44 = .ok (.iaload, 1) := by decide +kernel
theorem dX12_works_45 : decode cX12_works 45 = .ok (.iload_n 2, 1) := by decide +kernel
theorem dX12_works_46 : decode cX12_works 46 = .ok (.if_icmp .eq 33, 3) := by decide +kernel
theorem dX12_works_49 : decode cX12_works 49 = .ok (.aload_n 0, 1) := by decide +kernel
theorem dX12_works_50 : decode cX12_works 50 = .ok (.getfield 28, 3) := by decide +kernel
theorem dX12_works_53 : decode cX12_works 53 = .ok (.aload_n 0, 1) := by decide +kernel
theorem dX12_works_54 : decode cX12_works 54 = .ok (.getfield 74, 3) := by decide +kernel
theorem dX12_works_57 : decode cX12_works 57 = .ok (.iload_n 1, 1) := by decide +kernel
theorem dX12_works_58 : decode cX12_works 58 = .ok (.iastore, 1) := by decide +kernel
theorem dX12_works_59 : decode cX12_works 59 = .ok (.aload_n 0, 1) := by decide +kernel
theorem dX12_works_60 : decode cX12_works 60 = .ok (.getfield 31, 3) := by decide +kernel
theorem dX12_works_63 : decode cX12_works 63 = .ok (.aload_n 0, 1) := by decide +kernel
theorem dX12_works_64 : decode cX12_works 64 = .ok (.getfield 74, 3) := by decide +kernel
theorem dX12_works_67 : decode cX12_works 67 = .ok (.iload_n 2, 1) := by decide +kernel
theorem dX12_works_68 : decode cX12_works 68 = .ok (.iastore, 1) := by decide +kernel
theorem dX12_works_69 : decode cX12_works 69 = .ok (.aload_n 0, 1) := by decide +kernel
theorem dX12_works_70 : decode cX12_works 70 = .ok (.dup, 1) := by decide +kernel
theorem dX12_works_71 : decode cX12_works 71 = .ok (.getfield 74, 3) := by decide +kernel
theorem dX12_works_74 : decode cX12_works 74 = .ok (.iconst 1, 1) := by decide +kernel
theorem dX12_works_75 : decode cX12_works 75 = .ok (.iadd, 1) := by decide +kernel
theorem dX12_works_76 : decode cX12_works 76 = .ok (.putfield 74, 3) := by decide +kernel
theorem dX12_works_79 : decode cX12_works 79 = .ok (.iload_n 3, 1) := by decide +kernel
theorem dX12_works_80 : decode cX12_works 80 = .ok (.ifCond .le 16, 3) := by decide +kernel
theorem dX12_works_83 : decode cX12_works 83 = .ok (.aload_n 0, 1) := by decide +kernel
theorem dX12_works_84 : decode cX12_works 84 = .ok (.getfield 34, 3) := by decide +kernel
theorem dX12_works_87 : decode cX12_works 87 = .ok (.aload_n 0, 1) := by decide +kernel
theorem dX12_works_88 : decode cX12_works 88 = .ok (.getfield 74, 3) := by decide +kernel
theorem dX12_works_91 : decode cX12_works 91 = .ok (.iconst 1, 1) := by decide +kernel
theorem dX12_works_92 : decode cX12_works 92 = .ok (.isub, 1) := by decide +kernel
theorem dX12_works_93 : decode cX12_works 93 = .ok (.iload 4, 2) := by decide +kernel
theorem dX12_works_95 : decode cX12_works 95 = .ok (.iastore, 1) := by decide +kernel
theorem dX12_works_96 : decode cX12_works 96 = .ok (.iload_n 1, 1) := by decide +kernel
theorem dX12_works_97 : decode cX12_works 97 = .ok (.ifCond .ne 11, 3) := by decide +kernel
theorem dX12_works_100 : decode cX12_works 100 = .ok (.aload_n 0, 1) := by decide +kernel
theorem dX12_works_101 : decode cX12_works 101 = .ok (.getfield 37, 3) := by decide +kernel
theorem dX12_works_104 : decode cX12_works 104 = .ok (.iload_n 2, 1) := by decide +kernel
theorem dX12_works_105 : decode cX12_works 105 = .ok (.iload 4, 2) := by decide +kernel
theorem dX12_works_107 : decode cX12_works 107 = .ok (.iastore, 1) := by decide +kernel
theorem dX12_works_108 : decode cX12_works 108 = .ok (.return_, 1) := by decide +kernel
theorem dX12_worksInOrder_0 : decode cX12_worksInOrder 0 = .ok (.aload_n 0, 1) := by decide +kernel
theorem dX12_worksInOrder_1 : decode cX12_worksInOrder 1 = .ok (.invokevirtual 126, 3) := by decide +kernel
theorem dX12_worksInOrder_4 : decode cX12_worksInOrder 4 = .ok (.iconst 0, 1) := by decide +kernel
theorem dX12_worksInOrder_5 : decode cX12_worksInOrder 5 = .ok (.istore_n 1, 1) := by decide +kernel
theorem dX12_worksInOrder_6 : decode cX12_worksInOrder 6 = .ok (.iload_n 1, 1) := by decide +kernel
theorem dX12_worksInOrder_7 : decode cX12_worksInOrder 7 = .ok (.aload_n 0, 1) := by decide +kernel
theorem dX12_worksInOrder_8 : decode cX12_worksInOrder 8 = .ok (.getfield 63, 3) := by decide +kernel
theorem dX12_worksInOrder_11 : decode cX12_worksInOrder 11 = .ok (.if_icmp .ge 31, 3) := by decide +kernel
theorem dX12_worksInOrder_14 : decode cX12_worksInOrder 14 = .ok (.aload_n 0, 1) := by decide +kernel
theorem dX12_worksInOrder_15 : decode cX12_worksInOrder 15 = .ok (.iconst 0, 1) := by decide +kernel
theorem dX12_worksInOrder_16 : decode cX12_worksInOrder 16 = .ok (.aload_n 0, 1) := by decide +kernel
theorem dX12_worksInOrder_17 : decode cX12_worksInOrder 17 = .ok (.getfield 40, 3) := by decide +kernel
theorem dX12_worksInOrder_20 : decode cX12_worksInOrder 20 = .ok (.iload_n 1, 1) := by decide +kernel
theorem dX12_worksInOrder_21 : decode cX12_worksInOrder 21 = .ok (.iaload, 1) := by decide +kernel
theorem dX12_worksInOrder_22 : decode cX12_worksInOrder 22 = .ok (.aload_n 0, 1) := by decide +kernel
theorem dX12_worksInOrder_23 : decode cX12_worksInOrder 23 = .ok (.getfield 7, 3) := by decide +kernel
theorem dX12_worksInOrder_26 : decode cX12_worksInOrder 26 = .ok (.aload_n 0, 1) := by decide +kernel
theorem dX12_worksInOrder_27 : decode cX12_worksInOrder 27 = .ok (.getfield 40, 3) := by decide +kernel
theorem dX12_worksInOrder_30 : decode cX12_worksInOrder 30 = .ok (.iload_n 1, 1) := by decide +kernel
theorem dX12_worksInOrder_31 : decode cX12_worksInOrder 31 = .ok (.iaload, 1) := by decide +kernel
theorem dX12_worksInOrder_32 : decode cX12_worksInOrder 32 = .ok (.iaload, 1) := by decide +kernel
theorem dX12_worksInOrder_33 : decode cX12_worksInOrder 33 = .ok (.invokevirtual 129, 3) := by decide +kernel
theorem dX12_worksInOrder_36 : decode cX12_worksInOrder 36 = .ok (.iinc 1 1, 3) := by decide +kernel
theorem dX12_worksInOrder_39 : decode cX12_worksInOrder 39 = .ok (.goto (-33), 3) := by decide +kernel
theorem dX12_worksInOrder_42 : decode cX12_worksInOrder 42 = .ok (.return_, 1) := by decide +kernel
theorem dX12_greatest_0 : decode cX12_greatest 0 = .ok (.ldc 111, 2) := by decide +kernel
theorem dX12_greatest_2 : decode cX12_greatest 2 = .ok (.istore_n 1, 1) := by decide +kernel
theorem dX12_greatest_3 : decode cX12_greatest 3 = .ok (.iconst 0, 1) := by decide +kernel
theorem dX12_greatest_4 : decode cX12_greatest 4 = .ok (.istore_n 2, 1) := by decide +kernel
theorem dX12_greatest_5 : decode cX12_greatest 5 = .ok (.iload_n 2, 1) := by decide +kernel
theorem dX12_greatest_6 : decode cX12_greatest 6 = .ok (.aload_n 0, 1) := by decide +kernel
theorem dX12_greatest_7 : decode cX12_greatest 7 = .ok (.getfield 63, 3) := by decide +kernel
theorem dX12_greatest_10 : decode cX12_greatest 10 = .ok (.if_icmp .ge 34, 3) := by decide +kernel
theorem dX12_greatest_13 : decode cX12_greatest 13 = .ok (.aload_n 0, 1) := by decide +kernel
theorem dX12_greatest_14 : decode cX12_greatest 14 = .ok (.getfield 37, 3) := by decide +kernel
theorem dX12_greatest_17 : decode cX12_greatest 17 = .ok (.iload_n 2, 1) := by decide +kernel
theorem dX12_greatest_18 : decode cX12_greatest 18 = .ok (.iaload, 1) := by decide +kernel
theorem dX12_greatest_19 : decode cX12_greatest 19 = .ok (.aload_n 0, 1) := by decide +kernel
theorem dX12_greatest_20 : decode cX12_greatest 20 = .ok (.getfield 13, 3) := by decide +kernel
theorem dX12_greatest_23 : decode cX12_greatest 23 = .ok (.iload_n 2, 1) := by decide +kernel
theorem dX12_greatest_24 : decode cX12_greatest 24 = .ok (.iaload, 1) := by decide +kernel
theorem dX12_greatest_25 : decode cX12_greatest 25 = .ok (.isub, 1) := by decide +kernel
theorem dX12_greatest_26 : decode cX12_greatest 26 = .ok (.istore_n 3, 1) := by decide +kernel
theorem dX12_greatest_27 : decode cX12_greatest 27 = .ok (.iload_n 3, 1) := by decide +kernel
theorem dX12_greatest_28 : decode cX12_greatest 28 = .ok (.iload_n 1, 1) := by decide +kernel
theorem dX12_greatest_29 : decode cX12_greatest 29 = .ok (.if_icmp .le 7, 3) := by decide +kernel
theorem dX12_greatest_32 : decode cX12_greatest 32 = .ok (.iload_n 3, 1) := by decide +kernel
theorem dX12_greatest_33 : decode cX12_greatest 33 = .ok (.goto 4, 3) := by decide +kernel
theorem dX12_greatest_36 : decode cX12_greatest 36 = .ok (.iload_n 1, 1) := by decide +kernel
theorem dX12_greatest_37 : decode cX12_greatest 37 = .ok (.istore_n 1, 1) := by decide +kernel
theorem dX12_greatest_38 : decode cX12_greatest 38 = .ok (.iinc 2 1, 3) := by decide +kernel
theorem dX12_greatest_41 : decode cX12_greatest 41 = .ok (.goto (-36), 3) := by decide +kernel
theorem dX12_greatest_44 : decode cX12_greatest 44 = .ok (.iload_n 1, 1) := by decide +kernel
theorem dX12_greatest_45 : decode cX12_greatest 45 = .ok (.ireturn, 1) := by decide +kernel
theorem dX12_sum_0 : decode cX12_sum 0 = .ok (.iconst 0, 1) := by decide +kernel
theorem dX12_sum_1 : decode cX12_sum 1 = .ok (.istore_n 2, 1) := by decide +kernel
theorem dX12_sum_2 : decode cX12_sum 2 = .ok (.iconst 0, 1) := by decide +kernel
theorem dX12_sum_3 : decode cX12_sum 3 = .ok (.istore_n 3, 1) := by decide +kernel
theorem dX12_sum_4 : decode cX12_sum 4 = .ok (.iload_n 3, 1) := by decide +kernel
theorem dX12_sum_5 : decode cX12_sum 5 = .ok (.aload_n 0, 1) := by decide +kernel
theorem dX12_sum_6 : decode cX12_sum 6 = .ok (.getfield 63, 3) := by decide +kernel
theorem dX12_sum_9 : decode cX12_sum 9 = .ok (.if_icmp .ge 89, 3) := by decide +kernel
theorem dX12_sum_12 : decode cX12_sum 12 = .ok (.aload_n 0, 1) := by decide +kernel
theorem dX12_sum_13 : decode cX12_sum 13 = .ok (.getfield 37, 3) := by decide +kernel
theorem dX12_sum_16 : decode cX12_sum 16 = .ok (.iload_n 3, 1) := by decide +kernel
theorem dX12_sum_17 : decode cX12_sum 17 = .ok (.iaload, 1) := by decide +kernel
theorem dX12_sum_18 : decode cX12_sum 18 = .ok (.aload_n 0, 1) := by decide +kernel
theorem dX12_sum_19 : decode cX12_sum 19 = .ok (.getfield 13, 3) := by decide +kernel
theorem dX12_sum_22 : decode cX12_sum 22 = .ok (.iload_n 3, 1) := by decide +kernel
theorem dX12_sum_23 : decode cX12_sum 23 = .ok (.iaload, 1) := by decide +kernel
theorem dX12_sum_24 : decode cX12_sum 24 = .ok (.if_icmp .le 7, 3) := by decide +kernel
theorem dX12_sum_27 : decode cX12_sum 27 = .ok (.iconst 1, 1) := by decide +kernel
theorem dX12_sum_28 : decode cX12_sum 28 = .ok (.goto 4, 3) := by decide +kernel
theorem dX12_sum_31 : decode cX12_sum 31 = .ok (.iconst 0, 1) := by decide +kernel
theorem dX12_sum_32 : decode cX12_sum 32 = .ok (.istore 4, 2) := by decide +kernel
theorem dX12_sum_34 : decode cX12_sum 34 = .ok (.iload_n 2, 1) := by decide +kernel
theorem dX12_sum_35 : decode cX12_sum 35 = .ok (.iload_n 1, 1) := by decide +kernel
theorem dX12_sum_36 : decode cX12_sum 36 = .ok (.ifCond .ne 8, 3) := by decide +kernel
theorem dX12_sum_39 : decode cX12_sum 39 = .ok (.iload 4, 2) := by decide +kernel
theorem dX12_sum_41 : decode cX12_sum 41 = .ok (.goto 49, 3) := by decide +kernel
theorem dX12_sum_44 : decode cX12_sum 44 = .ok (.iload_n 1, 1) := by decide +kernel
theorem dX12_sum_45 : decode cX12_sum 45 = .ok (.iconst 1, 1) := by decide +kernel
theorem dX12_sum_46 : decode cX12_sum 46 = .ok (.if_icmp .ne 12, 3) := by decide +kernel
theorem dX12_sum_49 : decode cX12_sum 49 = .ok (.aload_n 0, 1) := by decide +kernel
theorem dX12_sum_50 : decode cX12_sum 50 = .ok (.getfield 37, 3) := by decide +kernel
theorem dX12_sum_53 : decode cX12_sum 53 = .ok (.iload_n 3, 1) := by decide +kernel
theorem dX12_sum_54 : decode cX12_sum 54 = .ok (.iaload, 1) := by decide +kernel
theorem dX12_sum_55 : decode cX12_sum 55 = .ok (.goto 35, 3) := by decide +kernel
theorem dX12_sum_58 : decode cX12_sum 58 = .ok (.iload_n 1, 1) := by decide +kernel
theorem dX12_sum_59 : decode cX12_sum 59 = .ok (.iconst 2, 1) := by decide +kernel
theorem dX12_sum_60 : decode cX12_sum 60 = .ok (.if_icmp .ne 19, 3) := by decide +kernel
theorem dX12_sum_63 : decode cX12_sum 63 = .ok (.aload_n 0, 1) := by decide +kernel
theorem dX12_sum_64 : decode cX12_sum 64 = .ok (.getfield 16, 3) := by decide +kernel
theorem dX12_sum_67 : decode cX12_sum 67 = .ok (.iload_n 3, 1) := by decide +kernel
theorem dX12_sum_68 : decode cX12_sum 68 = .ok (.iaload, 1) := by decide +kernel
theorem dX12_sum_69 : decode cX12_sum 69 = .ok (.aload_n 0, 1) := by decide +kernel
theorem dX12_sum_70 : decode cX12_sum 70 = .ok (.getfield 37, 3) := by decide +kernel
theorem dX12_sum_73 : decode cX12_sum 73 = .ok (.iload_n 3, 1) := by decide +kernel
theorem dX12_sum_74 : decode cX12_sum 74 = .ok (.iaload, 1) := by decide +kernel
theorem dX12_sum_75 : decode cX12_sum 75 = .ok (.imul, 1) := by decide +kernel
theorem dX12_sum_76 : decode cX12_sum 76 = .ok (.goto 14, 3) := by decide +kernel
theorem dX12_sum_79 : decode cX12_sum 79 = .ok (.aload_n 0, 1) := by decide +kernel
theorem dX12_sum_80 : decode cX12_sum 80 = .ok (.iload_n 3, 1) := by decide +kernel
theorem dX12_sum_81 : decode cX12_sum 81 = .ok (.aload_n 0, 1) := by decide +kernel
theorem dX12_sum_82 : decode cX12_sum 82 = .ok (.getfield 37, 3) := by decide +kernel
theorem dX12_sum_85 : decode cX12_sum 85 = .ok (.iload_n 3, 1) := by decide +kernel
theorem dX12_sum_86 : decode cX12_sum 86 = .ok (.iaload, 1) := by decide +kernel
theorem dX12_sum_87 : decode cX12_sum 87 = .ok (.invokevirtual 102, 3) := by decide +kernel
theorem dX12_sum_90 : decode cX12_sum 90 = .ok (.iadd, 1) := by decide +kernel
theorem dX12_sum_91 : decode cX12_sum 91 = .ok (.istore_n 2, 1) := by decide +kernel
theorem dX12_sum_92 : decode cX12_sum 92 = .ok (.iinc 3 1, 3) := by decide +kernel
theorem dX12_sum_95 : decode cX12_sum 95 = .ok (.goto (-91), 3) := by decide +kernel
theorem dX12_sum_98 : decode cX12_sum 98 = .ok (.iload_n 2, 1) := by decide +kernel
theorem dX12_sum_99 : decode cX12_sum 99 = .ok (.ireturn, 1) := by decide +kernel
theorem dX12_worked_0 : decode cX12_worked 0 = .ok (.iconst (-1), 1) := by decide +kernel
theorem dX12_worked_1 : decode cX12_worked 1 = .ok (.istore_n 3, 1) := by decide +kernel
theorem dX12_worked_2 : decode cX12_worked 2 = .ok (.iconst 0, 1) := by decide +kernel
theorem dX12_worked_3 : decode cX12_worked 3 = .ok (.istore 4, 2) := by decide +kernel
theorem dX12_worked_5 : decode cX12_worked 5 = .ok (.iload 4, 2) := by decide +kernel
theorem dX12_worked_7 : decode cX12_worked 7 = .ok (.aload_n 0, 1) := by decide +kernel
theorem dX12_worked_8 : decode cX12_worked 8 = .ok (.getfield 63, 3) := by decide +kernel
theorem dX12_worked_11 : decode cX12_worked 11 = .ok (.if_icmp .ge 99, 3) := by decide +kernel
theorem dX12_worked_14 : decode cX12_worked 14 = .ok (.aload_n 0, 1) := by decide +kernel
theorem dX12_worked_15 : decode cX12_worked 15 = .ok (.getfield 19, 3) := by decide +kernel
theorem dX12_worked_18 : decode cX12_worked 18 = .ok (.iload 4, 2) := by decide +kernel
theorem dX12_worked_20 : decode cX12_worked 20 = .ok (.iaload, 1) := by decide +kernel
theorem dX12_worked_21 : decode cX12_worked 21 = .ok (.iload_n 1, 1) := by decide +kernel
theorem dX12_worked_22 : decode cX12_worked 22 = .ok (.if_icmp .gt 17, 3) := by decide +kernel
theorem dX12_worked_25 : decode cX12_worked 25 = .ok (.aload_n 0, 1) := by decide +kernel
theorem dX12_worked_26 : decode cX12_worked 26 = .ok (.getfield 43, 3) := by decide +kernel
theorem dX12_worked_29 : decode cX12_worked 29 = .ok (.iload 4, 2) := by decide +kernel
theorem dX12_worked_31 : decode cX12_worked 31 = .ok (.iaload, 1) := by decide +kernel
theorem dX12_worked_32 : decode cX12_worked 32 = .ok (.ifCond .le 7, 3) := by decide +kernel
theorem dX12_worked_35 : decode cX12_worked 35 = .ok (.iconst 1, 1) := by decide +kernel
theorem dX12_worked_36 : decode cX12_worked 36 = .ok (.goto 4, 3) := by decide +kernel
theorem dX12_worked_39 : decode cX12_worked 39 = .ok (.iconst 0, 1) := by decide +kernel
theorem dX12_worked_40 : decode cX12_worked 40 = .ok (.istore 5, 2) := by decide +kernel
theorem dX12_worked_42 : decode cX12_worked 42 = .ok (.iload_n 3, 1) := by decide +kernel
theorem dX12_worked_43 : decode cX12_worked 43 = .ok (.iconst (-1), 1) := by decide +kernel
theorem dX12_worked_44 : decode cX12_worked 44 = .ok (.if_icmp .eq 36, 3) := by decide +kernel
theorem dX12_worked_47 : decode cX12_worked 47 = .ok (.iload_n 2, 1) := by decide +kernel
theorem dX12_worked_48 : decode cX12_worked 48 = .ok (.ifCond .eq 16, 3) := by decide +kernel
theorem dX12_worked_51 : decode cX12_worked 51 = .ok (.aload_n 0, 1) := by decide +kernel
theorem dX12_worked_52 : decode cX12_worked 52 = .ok (.iload 4, 2) := by decide +kernel
theorem dX12_worked_54 : decode cX12_worked 54 = .ok (.iload_n 3, 1) := by decide +kernel
theorem dX12_worked_55 : decode cX12_worked 55 = .ok (.invokevirtual 95, 3) := by decide +kernel
theorem dX12_worked_58 : decode cX12_worked 58 = .ok (.ifCond .eq 26, 3) := by decide +kernel
theorem dX12_worked_61 : decode cX12_worked 61 = .ok (.goto 19, 3) := by decide +kernel
theorem dX12_worked_64 : decode cX12_worked 64 = .ok (.aload_n 0, 1) := by decide +kernel
theorem dX12_worked_65 : decode cX12_worked 65 = .ok (.getfield 43, 3) := by decide +kernel
theorem dX12_worked_68 : decode cX12_worked 68 = .ok (.iload 4, 2) := by decide +kernel
theorem dX12_worked_70 : decode cX12_worked 70 = .ok (.iaload, 1) := by decide +kernel
theorem dX12_worked_71 : decode cX12_worked 71 = .ok (.aload_n 0, 1) := by decide +kernel
theorem dX12_worked_72 : decode cX12_worked 72 = .ok (.getfield 43, 3) := by decide +kernel
theorem dX12_worked_75 : decode cX12_worked 75 = .ok (.iload_n 3, 1) := by decide +kernel
theorem dX12_worked_76 : decode cX12_worked 76 = .ok (.iaload, 1) := by decide +kernel
theorem dX12_worked_77 : decode cX12_worked 77 = .ok (.if_icmp .ge 7, 3) := by decide +kernel
theorem dX12_worked_80 : decode cX12_worked 80 = .ok (.iconst 1, 1) := by decide +kernel
theorem dX12_worked_81 : decode cX12_worked 81 = .ok (.goto 4, 3) := by decide +kernel
theorem dX12_worked_84 : decode cX12_worked 84 = .ok (.iconst 0, 1) := by decide +kernel
theorem dX12_worked_85 : decode cX12_worked 85 = .ok (.istore 6, 2) := by decide +kernel
theorem dX12_worked_87 : decode cX12_worked 87 = .ok (.iload 5, 2) := by decide +kernel
theorem dX12_worked_89 : decode cX12_worked 89 = .ok (.ifCond .eq 13, 3) := by decide +kernel
theorem dX12_worked_92 : decode cX12_worked 92 = .ok (.iload 6, 2) := by decide +kernel
theorem dX12_worked_94 : decode cX12_worked 94 = .ok (.ifCond .eq 8, 3) := by decide +kernel
theorem dX12_worked_97 : decode cX12_worked 97 = .ok (.iload 4, 2) := by decide +kernel
theorem dX12_worked_99 : decode cX12_worked 99 = .ok (.goto 4, 3) := by decide +kernel
theorem dX12_worked_102 : decode cX12_worked 102 = .ok (.iload_n 3, 1) := by decide +kernel
theorem dX12_worked_103 : decode cX12_worked 103 = .ok (.istore_n 3, 1) := by decide +kernel
theorem dX12_worked_104 : decode cX12_worked 104 = .ok (.iinc 4 1, 3) := by decide +kernel
theorem dX12_worked_107 : decode cX12_worked 107 = .ok (.goto (-102), 3) := by decide +kernel
theorem dX12_worked_110 : decode cX12_worked 110 = .ok (.iload_n 3, 1) := by decide +kernel
theorem dX12_worked_111 : decode cX12_worked 111 = .ok (.ireturn, 1) := by decide +kernel
theorem dX12_worksByTime_0 : decode cX12_worksByTime 0 = .ok (.aload_n 0, 1) := by decide +kernel
theorem dX12_worksByTime_1 : decode cX12_worksByTime 1 = .ok (.invokevirtual 126, 3) := by decide +kernel
theorem dX12_worksByTime_4 : decode cX12_worksByTime 4 = .ok (.iconst 0, 1) := by decide +kernel
theorem dX12_worksByTime_5 : decode cX12_worksByTime 5 = .ok (.istore_n 2, 1) := by decide +kernel
theorem dX12_worksByTime_6 : decode cX12_worksByTime 6 = .ok (.iconst 0, 1) := by decide +kernel
theorem dX12_worksByTime_7 : decode cX12_worksByTime 7 = .ok (.istore_n 3, 1) := by decide +kernel
theorem dX12_worksByTime_8 : decode cX12_worksByTime 8 = .ok (.iload_n 3, 1) := by decide +kernel
theorem dX12_worksByTime_9 : decode cX12_worksByTime 9 = .ok (.aload_n 0, 1) := by decide +kernel
theorem dX12_worksByTime_10 : decode cX12_worksByTime 10 = .ok (.getfield 63, 3) := by decide +kernel
theorem dX12_worksByTime_13 : decode cX12_worksByTime 13 = .ok (.if_icmp .ge 30, 3) := by decide +kernel
theorem dX12_worksByTime_16 : decode cX12_worksByTime 16 = .ok (.aload_n 0, 1) := by decide +kernel
theorem dX12_worksByTime_17 : decode cX12_worksByTime 17 = .ok (.getfield 43, 3) := by decide +kernel
theorem dX12_worksByTime_20 : decode cX12_worksByTime 20 = .ok (.iload_n 3, 1) := by decide +kernel
theorem dX12_worksByTime_21 : decode cX12_worksByTime 21 = .ok (.aload_n 0, 1) := by decide +kernel
theorem dX12_worksByTime_22 : decode cX12_worksByTime 22 = .ok (.getfield 7, 3) := by decide +kernel
theorem dX12_worksByTime_25 : decode cX12_worksByTime 25 = .ok (.iload_n 3, 1) := by decide +kernel
theorem dX12_worksByTime_26 : decode cX12_worksByTime 26 = .ok (.iaload, 1) := by decide +kernel
theorem dX12_worksByTime_27 : decode cX12_worksByTime 27 = .ok (.iastore, 1) := by decide +kernel
theorem dX12_worksByTime_28 : decode cX12_worksByTime 28 = .ok (.iload_n 2, 1) := by decide +kernel
theorem dX12_worksByTime_29 : decode cX12_worksByTime 29 = .ok (.aload_n 0, 1) := by decide +kernel
theorem dX12_worksByTime_30 : decode cX12_worksByTime 30 = .ok (.getfield 7, 3) := by decide +kernel
theorem dX12_worksByTime_33 : decode cX12_worksByTime 33 = .ok (.iload_n 3, 1) := by decide +kernel
theorem dX12_worksByTime_34 : decode cX12_worksByTime 34 = .ok (.iaload, 1) := by decide +kernel
theorem dX12_worksByTime_35 : decode cX12_worksByTime 35 = .ok (.iadd, 1) := by decide +kernel
theorem dX12_worksByTime_36 : decode cX12_worksByTime 36 = .ok (.istore_n 2, 1) := by decide +kernel
theorem dX12_worksByTime_37 : decode cX12_worksByTime 37 = .ok (.iinc 3 1, 3) := by decide +kernel
theorem dX12_worksByTime_40 : decode cX12_worksByTime 40 = .ok (.goto (-32), 3) := by decide +kernel
theorem dX12_worksByTime_43 : decode cX12_worksByTime 43 = .ok (.iload_n 2, 1) := by decide +kernel
theorem dX12_worksByTime_44 : decode cX12_worksByTime 44 = .ok (.ifCond .le 50, 3) := by decide +kernel
theorem dX12_worksByTime_47 : decode cX12_worksByTime 47 = .ok (.aload_n 0, 1) := by decide +kernel
theorem dX12_worksByTime_48 : decode cX12_worksByTime 48 = .ok (.aload_n 0, 1) := by decide +kernel
theorem dX12_worksByTime_49 : decode cX12_worksByTime 49 = .ok (.invokevirtual 122, 3) := by decide +kernel
theorem dX12_worksByTime_52 : decode cX12_worksByTime 52 = .ok (.iload_n 1, 1) := by decide +kernel
theorem dX12_worksByTime_53 : decode cX12_worksByTime 53 = .ok (.invokevirtual 133, 3) := by decide +kernel
theorem dX12_worksByTime_56 : decode cX12_worksByTime 56 = .ok (.istore_n 3, 1) := by decide +kernel
theorem dX12_worksByTime_57 : decode cX12_worksByTime 57 = .ok (.aload_n 0, 1) := by decide +kernel
theorem dX12_worksByTime_58 : decode cX12_worksByTime 58 = .ok (.iload_n 3, 1) := by decide +kernel
theorem dX12_worksByTime_59 : decode cX12_worksByTime 59 = .ok (.iconst (-1), 1) := by decide +kernel
theorem dX12_worksByTime_60 : decode cX12_worksByTime 60 = .ok (.if_icmp .ne 7, 3) := by decide +kernel
theorem dX12_worksByTime_63 : decode cX12_worksByTime 63 = .ok (.iconst 2, 1) := by decide +kernel
theorem dX12_worksByTime_64 : decode cX12_worksByTime 64 = .ok (.goto 4, 3) := by decide +kernel
theorem dX12_worksByTime_67 : decode cX12_worksByTime 67 = .ok (.iconst 0, 1) := by decide +kernel
theorem dX12_worksByTime_68 : decode cX12_worksByTime 68 = .ok (.iload_n 3, 1) := by decide +kernel
theorem dX12_worksByTime_69 : decode cX12_worksByTime 69 = .ok (.iconst 1, 1) := by decide +kernel
theorem dX12_worksByTime_70 : decode cX12_worksByTime 70 = .ok (.invokevirtual 129, 3) := by decide +kernel
theorem dX12_worksByTime_73 : decode cX12_worksByTime 73 = .ok (.iload_n 3, 1) := by decide +kernel
theorem dX12_worksByTime_74 : decode cX12_worksByTime 74 = .ok (.iconst (-1), 1) := by decide +kernel
theorem dX12_worksByTime_75 : decode cX12_worksByTime 75 = .ok (.if_icmp .eq 16, 3) := by decide +kernel
theorem dX12_worksByTime_78 : decode cX12_worksByTime 78 = .ok (.aload_n 0, 1) := by decide +kernel
theorem dX12_worksByTime_79 : decode cX12_worksByTime 79 = .ok (.getfield 43, 3) := by decide +kernel
theorem dX12_worksByTime_82 : decode cX12_worksByTime 82 = .ok (.iload_n 3, 1) := by decide +kernel
theorem dX12_worksByTime_83 : decode cX12_worksByTime 83 = .ok (.dup2, 1) := by decide +kernel
theorem dX12_worksByTime_84 : decode cX12_worksByTime 84 = .ok (.iaload, 1) := by decide +kernel
theorem dX12_worksByTime_85 : decode cX12_worksByTime 85 = .ok (.iconst 1, 1) := by decide +kernel
theorem dX12_worksByTime_86 : decode cX12_worksByTime 86 = .ok (.isub, 1) := by decide +kernel
theorem dX12_worksByTime_87 : decode cX12_worksByTime 87 = .ok (.iastore, 1) := by decide +kernel
theorem dX12_worksByTime_88 : decode cX12_worksByTime 88 = .ok (.iinc 2 (-1), 3) := by decide +kernel
theorem dX12_worksByTime_91 : decode cX12_worksByTime 91 = .ok (.goto (-48), 3) := by decide +kernel
theorem dX12_worksByTime_94 : decode cX12_worksByTime 94 = .ok (.return_, 1) := by decide +kernel
theorem dX12_hasJobs_0 : decode cX12_hasJobs 0 = .ok (.aload_n 0, 1) := by decide +kernel
theorem dX12_hasJobs_1 : decode cX12_hasJobs 1 = .ok (.aload_n 0, 1) := by decide +kernel
theorem dX12_hasJobs_2 : decode cX12_hasJobs 2 = .ok (.getfield 63, 3) := by decide +kernel
theorem dX12_hasJobs_5 : decode cX12_hasJobs 5 = .ok (.ifCond .ne 7, 3) := by decide +kernel
theorem dX12_hasJobs_8 : decode cX12_hasJobs 8 = .ok (.iconst 1, 1) := by decide +kernel
theorem dX12_hasJobs_9 : decode cX12_hasJobs 9 = .ok (.goto 4, 3) := by decide +kernel
theorem dX12_hasJobs_12 : decode cX12_hasJobs 12 = .ok (.iconst 0, 1) := by decide +kernel
theorem dX12_hasJobs_13 : decode cX12_hasJobs 13 = .ok (.invokevirtual 84, 3) := by decide +kernel
theorem dX12_hasJobs_16 : decode cX12_hasJobs 16 = .ok (.ireturn, 1) := by decide +kernel
theorem dX12_planByDueDates_0 : decode cX12_planByDueDates 0 = .ok (.aload_n 0, 1) := by decide +kernel
theorem dX12_planByDueDates_1 : decode cX12_planByDueDates 1 = .ok (.invokevirtual 137, 3) := by decide +kernel
theorem dX12_planByDueDates_4 : decode cX12_planByDueDates 4 = .ok (.ifCond .ne 5, 3) := by decide +kernel
theorem dX12_planByDueDates_7 : decode cX12_planByDueDates 7 = .ok (.iconst 0, 1) := by decide +kernel
theorem dX12_planByDueDates_8 : decode cX12_planByDueDates 8 = .ok (.ireturn, 1) := by decide +kernel
theorem dX12_planByDueDates_9 : decode cX12_planByDueDates 9 = .ok (.aload_n 0, 1) := by decide +kernel
theorem dX12_planByDueDates_10 : decode cX12_planByDueDates 10 = .ok (.iconst 1, 1) := by decide +kernel
theorem dX12_planByDueDates_11 : decode cX12_planByDueDates 11 = .ok (.invokevirtual 141, 3) := by decide +kernel
theorem dX12_planByDueDates_14 : decode cX12_planByDueDates 14 = .ok (.aload_n 0, 1) := by decide +kernel
theorem dX12_planByDueDates_15 : decode cX12_planByDueDates 15 = .ok (.invokevirtual 145, 3) := by decide +kernel
theorem dX12_planByDueDates_18 : decode cX12_planByDueDates 18 = .ok (.aload_n 0, 1) := by decide +kernel
theorem dX12_planByDueDates_19 : decode cX12_planByDueDates 19 = .ok (.invokevirtual 148, 3) := by decide +kernel
theorem dX12_planByDueDates_22 : decode cX12_planByDueDates 22 = .ok (.ireturn, 1) := by decide +kernel
theorem dX12_planFewestLate_0 : decode cX12_planFewestLate 0 = .ok (.aload_n 0, 1) := by decide +kernel
theorem dX12_planFewestLate_1 : decode cX12_planFewestLate 1 = .ok (.invokevirtual 137, 3) := by decide +kernel
theorem dX12_planFewestLate_4 : decode cX12_planFewestLate 4 = .ok (.ifCond .ne 5, 3) := by decide +kernel
theorem dX12_planFewestLate_7 : decode cX12_planFewestLate 7 = .ok (.iconst 0, 1) := by decide +kernel
theorem dX12_planFewestLate_8 : decode cX12_planFewestLate 8 = .ok (.ireturn, 1) := by decide +kernel
theorem dX12_planFewestLate_9 : decode cX12_planFewestLate 9 = .ok (.aload_n 0, 1) := by decide +kernel
theorem dX12_planFewestLate_10 : decode cX12_planFewestLate 10 = .ok (.iconst 1, 1) := by decide +kernel
theorem dX12_planFewestLate_11 : decode cX12_planFewestLate 11 = .ok (.invokevirtual 141, 3) := by decide +kernel
theorem dX12_planFewestLate_14 : decode cX12_planFewestLate 14 = .ok (.aload_n 0, 1) := by decide +kernel
theorem dX12_planFewestLate_15 : decode cX12_planFewestLate 15 = .ok (.invokevirtual 126, 3) := by decide +kernel
theorem dX12_planFewestLate_18 : decode cX12_planFewestLate 18 = .ok (.iconst 0, 1) := by decide +kernel
theorem dX12_planFewestLate_19 : decode cX12_planFewestLate 19 = .ok (.istore_n 1, 1) := by decide +kernel
theorem dX12_planFewestLate_20 : decode cX12_planFewestLate 20 = .ok (.iconst 0, 1) := by decide +kernel
theorem dX12_planFewestLate_21 : decode cX12_planFewestLate 21 = .ok (.istore_n 2, 1) := by decide +kernel
theorem dX12_planFewestLate_22 : decode cX12_planFewestLate 22 = .ok (.iconst 0, 1) := by decide +kernel
theorem dX12_planFewestLate_23 : decode cX12_planFewestLate 23 = .ok (.istore_n 3, 1) := by decide +kernel
theorem dX12_planFewestLate_24 : decode cX12_planFewestLate 24 = .ok (.iload_n 3, 1) := by decide +kernel
theorem dX12_planFewestLate_25 : decode cX12_planFewestLate 25 = .ok (.aload_n 0, 1) := by decide +kernel
theorem dX12_planFewestLate_26 : decode cX12_planFewestLate 26 = .ok (.getfield 63, 3) := by decide +kernel
theorem dX12_planFewestLate_29 : decode cX12_planFewestLate 29 = .ok (.if_icmp .ge 122, 3) := by decide +kernel
theorem dX12_planFewestLate_32 : decode cX12_planFewestLate 32 = .ok (.aload_n 0, 1) := by decide +kernel
theorem dX12_planFewestLate_33 : decode cX12_planFewestLate 33 = .ok (.getfield 40, 3) := by decide +kernel
theorem dX12_planFewestLate_36 : decode cX12_planFewestLate 36 = .ok (.iload_n 3, 1) := by decide +kernel
theorem dX12_planFewestLate_37 : decode cX12_planFewestLate 37 = .ok (.iaload, 1) := by decide +kernel
theorem dX12_planFewestLate_38 : decode cX12_planFewestLate 38 = .ok (.istore 4, 2) := by decide +kernel
theorem dX12_planFewestLate_40 : decode cX12_planFewestLate 40 = .ok (.iload_n 1, 1) := by decide +kernel
theorem dX12_planFewestLate_41 : decode cX12_planFewestLate 41 = .ok (.iconst 1, 1) := by decide +kernel
theorem dX12_planFewestLate_42 : decode cX12_planFewestLate 42 = .ok (.iload 4, 2) := by decide +kernel
theorem dX12_planFewestLate_44 : decode cX12_planFewestLate 44 = .ok (.ishl, 1) := by decide +kernel
theorem dX12_planFewestLate_45 : decode cX12_planFewestLate 45 = .ok (.ior, 1) := by decide +kernel
theorem dX12_planFewestLate_46 : decode cX12_planFewestLate 46 = .ok (.istore_n 1, 1) := by decide +kernel
theorem dX12_planFewestLate_47 : decode cX12_planFewestLate 47 = .ok (.aload_n 0, 1) := by decide +kernel
theorem dX12_planFewestLate_48 : decode cX12_planFewestLate 48 = .ok (.iload_n 1, 1) := by decide +kernel
theorem dX12_planFewestLate_49 : decode cX12_planFewestLate 49 = .ok (.invokevirtual 106, 3) := by decide +kernel
theorem dX12_planFewestLate_52 : decode cX12_planFewestLate 52 = .ok (.aload_n 0, 1) := by decide +kernel
theorem dX12_planFewestLate_53 : decode cX12_planFewestLate 53 = .ok (.getfield 13, 3) := by decide +kernel
theorem dX12_planFewestLate_56 : decode cX12_planFewestLate 56 = .ok (.iload 4, 2) := by decide +kernel
theorem dX12_planFewestLate_58 : decode cX12_planFewestLate 58 = .ok (.iaload, 1) := by decide +kernel
theorem dX12_planFewestLate_59 : decode cX12_planFewestLate 59 = .ok (.if_icmp .le 86, 3) := by decide +kernel
theorem dX12_planFewestLate_62 : decode cX12_planFewestLate 62 = .ok (.iconst (-1), 1) := by decide +kernel
theorem dX12_planFewestLate_63 : decode cX12_planFewestLate 63 = .ok (.istore 5, 2) := by decide +kernel
theorem dX12_planFewestLate_65 : decode cX12_planFewestLate 65 = .ok (.iconst 0, 1) := by decide +kernel
theorem dX12_planFewestLate_66 : decode cX12_planFewestLate 66 = .ok (.istore 6, 2) := by decide +kernel
theorem dX12_planFewestLate_68 : decode cX12_planFewestLate 68 = .ok (.iload 6, 2) := by decide +kernel
theorem dX12_planFewestLate_70 : decode cX12_planFewestLate 70 = .ok (.aload_n 0, 1) := by decide +kernel
theorem dX12_planFewestLate_71 : decode cX12_planFewestLate 71 = .ok (.getfield 63, 3) := by decide +kernel
theorem dX12_planFewestLate_74 : decode cX12_planFewestLate 74 = .ok (.if_icmp .ge 51, 3) := by decide +kernel
theorem dX12_planFewestLate_77 : decode cX12_planFewestLate 77 = .ok (.iload_n 1, 1) := by decide +kernel
theorem dX12_planFewestLate_78 : decode cX12_planFewestLate 78 = .ok (.iload 6, 2) := by decide +kernel
theorem dX12_planFewestLate_80 : decode cX12_planFewestLate 80 = .ok (.ishr, 1) := by decide +kernel
theorem dX12_planFewestLate_81 : decode cX12_planFewestLate 81 = .ok (.iconst 1, 1) := by decide +kernel
theorem dX12_planFewestLate_82 : decode cX12_planFewestLate 82 = .ok (.iand, 1) := by decide +kernel
theorem dX12_planFewestLate_83 : decode cX12_planFewestLate 83 = .ok (.iconst 1, 1) := by decide +kernel
theorem dX12_planFewestLate_84 : decode cX12_planFewestLate 84 = .ok (.if_icmp .ne 31, 3) := by decide +kernel
theorem dX12_planFewestLate_87 : decode cX12_planFewestLate 87 = .ok (.iload 5, 2) := by decide +kernel
theorem dX12_planFewestLate_89 : decode cX12_planFewestLate 89 = .ok (.iconst (-1), 1) := by decide +kernel
theorem dX12_planFewestLate_90 : decode cX12_planFewestLate 90 = .ok (.if_icmp .eq 20, 3) := by decide +kernel
theorem dX12_planFewestLate_93 : decode cX12_planFewestLate 93 = .ok (.aload_n 0, 1) := by decide +kernel
theorem dX12_planFewestLate_94 : decode cX12_planFewestLate 94 = .ok (.getfield 7, 3) := by decide +kernel
theorem dX12_planFewestLate_97 : decode cX12_planFewestLate 97 = .ok (.iload 6, 2) := by decide +kernel
theorem dX12_planFewestLate_99 : decode cX12_planFewestLate 99 = .ok (.iaload, 1) := by decide +kernel
theorem dX12_planFewestLate_100 : decode cX12_planFewestLate 100 = .ok (.aload_n 0, 1) := by decide +kernel
theorem dX12_planFewestLate_101 : decode cX12_planFewestLate 101 = .ok (.getfield 7, 3) := by decide +kernel
theorem dX12_planFewestLate_104 : decode cX12_planFewestLate 104 = .ok (.iload 5, 2) := by decide +kernel
theorem dX12_planFewestLate_106 : decode cX12_planFewestLate 106 = .ok (.iaload, 1) := by decide +kernel
theorem dX12_planFewestLate_107 : decode cX12_planFewestLate 107 = .ok (.if_icmp .lt 8, 3) := by decide +kernel
theorem dX12_planFewestLate_110 : decode cX12_planFewestLate 110 = .ok (.iload 6, 2) := by decide +kernel
theorem dX12_planFewestLate_112 : decode cX12_planFewestLate 112 = .ok (.goto 5, 3) := by decide +kernel
theorem dX12_planFewestLate_115 : decode cX12_planFewestLate 115 = .ok (.iload 5, 2) := by decide +kernel
theorem dX12_planFewestLate_117 : decode cX12_planFewestLate 117 = .ok (.istore 5, 2) := by decide +kernel
theorem dX12_planFewestLate_119 : decode cX12_planFewestLate 119 = .ok (.iinc 6 1, 3) := by decide +kernel
theorem dX12_planFewestLate_122 : decode cX12_planFewestLate 122 = .ok (.goto (-54), 3) := by decide +kernel
theorem dX12_planFewestLate_125 : decode cX12_planFewestLate 125 = .ok (.iload_n 1, 1) := by decide +kernel
theorem dX12_planFewestLate_126 : decode cX12_planFewestLate 126 = .ok (.iconst 1, 1) := by decide +kernel
theorem dX12_planFewestLate_127 : decode cX12_planFewestLate 127 = .ok (.iload 5, 2) := by decide +kernel
theorem dX12_planFewestLate_129 : decode cX12_planFewestLate 129 = .ok (.ishl, 1) := by decide +kernel
theorem dX12_planFewestLate_130 : decode cX12_planFewestLate 130 = .ok (.iconst (-1), 1) := by decide +kernel
theorem dX12_planFewestLate_131 : decode cX12_planFewestLate 131 = .ok (.ixor, 1) := by decide +kernel
theorem dX12_planFewestLate_132 : decode cX12_planFewestLate 132 = .ok (.iand, 1) := by decide +kernel
theorem dX12_planFewestLate_133 : decode cX12_planFewestLate 133 = .ok (.istore_n 1, 1) := by decide +kernel
theorem dX12_planFewestLate_134 : decode cX12_planFewestLate 134 = .ok (.aload_n 0, 1) := by decide +kernel
theorem dX12_planFewestLate_135 : decode cX12_planFewestLate 135 = .ok (.getfield 43, 3) := by decide +kernel
theorem dX12_planFewestLate_138 : decode cX12_planFewestLate 138 = .ok (.iload_n 2, 1) := by decide +kernel
theorem dX12_planFewestLate_139 : decode cX12_planFewestLate 139 = .ok (.iload 5, 2) := by decide +kernel
theorem dX12_planFewestLate_141 : decode cX12_planFewestLate 141 = .ok (.iastore, 1) := by decide +kernel
theorem dX12_planFewestLate_142 : decode cX12_planFewestLate 142 = .ok (.iinc 2 1, 3) := by decide +kernel
theorem dX12_planFewestLate_145 : decode cX12_planFewestLate 145 = .ok (.iinc 3 1, 3) := by decide +kernel
theorem dX12_planFewestLate_148 : decode cX12_planFewestLate 148 = .ok (.goto (-124), 3) := by decide +kernel
theorem dX12_planFewestLate_151 : decode cX12_planFewestLate 151 = .ok (.iconst 0, 1) := by decide +kernel
theorem dX12_planFewestLate_152 : decode cX12_planFewestLate 152 = .ok (.istore_n 3, 1) := by decide +kernel
theorem dX12_planFewestLate_153 : decode cX12_planFewestLate 153 = .ok (.iload_n 3, 1) := by decide +kernel
theorem dX12_planFewestLate_154 : decode cX12_planFewestLate 154 = .ok (.aload_n 0, 1) := by decide +kernel
theorem dX12_planFewestLate_155 : decode cX12_planFewestLate 155 = .ok (.getfield 63, 3) := by decide +kernel
theorem dX12_planFewestLate_158 : decode cX12_planFewestLate 158 = .ok (.if_icmp .ge 45, 3) := by decide +kernel
theorem dX12_planFewestLate_161 : decode cX12_planFewestLate 161 = .ok (.iload_n 1, 1) := by decide +kernel
theorem dX12_planFewestLate_162 : decode cX12_planFewestLate 162 = .ok (.aload_n 0, 1) := by decide +kernel
theorem dX12_planFewestLate_163 : decode cX12_planFewestLate 163 = .ok (.getfield 40, 3) := by decide +kernel
theorem dX12_planFewestLate_166 : decode cX12_planFewestLate 166 = .ok (.iload_n 3, 1) := by decide +kernel
theorem dX12_planFewestLate_167 : decode cX12_planFewestLate 167 = .ok (.iaload, 1) := by decide +kernel
theorem dX12_planFewestLate_168 : decode cX12_planFewestLate 168 = .ok (.ishr, 1) := by decide +kernel
theorem dX12_planFewestLate_169 : decode cX12_planFewestLate 169 = .ok (.iconst 1, 1) := by decide +kernel
theorem dX12_planFewestLate_170 : decode cX12_planFewestLate 170 = .ok (.iand, 1) := by decide +kernel
theorem dX12_planFewestLate_171 : decode cX12_planFewestLate 171 = .ok (.iconst 1, 1) := by decide +kernel
theorem dX12_planFewestLate_172 : decode cX12_planFewestLate 172 = .ok (.if_icmp .ne 25, 3) := by decide +kernel
theorem dX12_planFewestLate_175 : decode cX12_planFewestLate 175 = .ok (.aload_n 0, 1) := by decide +kernel
theorem dX12_planFewestLate_176 : decode cX12_planFewestLate 176 = .ok (.iconst 0, 1) := by decide +kernel
theorem dX12_planFewestLate_177 : decode cX12_planFewestLate 177 = .ok (.aload_n 0, 1) := by decide +kernel
theorem dX12_planFewestLate_178 : decode cX12_planFewestLate 178 = .ok (.getfield 40, 3) := by decide +kernel
theorem dX12_planFewestLate_181 : decode cX12_planFewestLate 181 = .ok (.iload_n 3, 1) := by decide +kernel
theorem dX12_planFewestLate_182 : decode cX12_planFewestLate 182 = .ok (.iaload, 1) := by decide +kernel
theorem dX12_planFewestLate_183 : decode cX12_planFewestLate 183 = .ok (.aload_n 0, 1) := by decide +kernel
theorem dX12_planFewestLate_184 : decode cX12_planFewestLate 184 = .ok (.getfield 7, 3) := by decide +kernel
theorem dX12_planFewestLate_187 : decode cX12_planFewestLate 187 = .ok (.aload_n 0, 1) := by decide +kernel
theorem dX12_planFewestLate_188 : decode cX12_planFewestLate 188 = .ok (.getfield 40, 3) := by decide +kernel
theorem dX12_planFewestLate_191 : decode cX12_planFewestLate 191 = .ok (.iload_n 3, 1) := by decide +kernel
theorem dX12_planFewestLate_192 : decode cX12_planFewestLate 192 = .ok (.iaload, 1) := by decide +kernel
theorem dX12_planFewestLate_193 : decode cX12_planFewestLate 193 = .ok (.iaload, 1) := by decide +kernel
theorem dX12_planFewestLate_194 : decode cX12_planFewestLate 194 = .ok (.invokevirtual 129, 3) := by decide +kernel
theorem dX12_planFewestLate_197 : decode cX12_planFewestLate 197 = .ok (.iinc 3 1, 3) := by decide +kernel
theorem dX12_planFewestLate_200 : decode cX12_planFewestLate 200 = .ok (.goto (-47), 3) := by decide +kernel
theorem dX12_planFewestLate_203 : decode cX12_planFewestLate 203 = .ok (.iconst 0, 1) := by decide +kernel
theorem dX12_planFewestLate_204 : decode cX12_planFewestLate 204 = .ok (.istore_n 3, 1) := by decide +kernel
theorem dX12_planFewestLate_205 : decode cX12_planFewestLate 205 = .ok (.iload_n 3, 1) := by decide +kernel
theorem dX12_planFewestLate_206 : decode cX12_planFewestLate 206 = .ok (.iload_n 2, 1) := by decide +kernel
theorem dX12_planFewestLate_207 : decode cX12_planFewestLate 207 = .ok (.if_icmp .ge 31, 3) := by decide +kernel
theorem dX12_planFewestLate_210 : decode cX12_planFewestLate 210 = .ok (.aload_n 0, 1) := by decide +kernel
theorem dX12_planFewestLate_211 : decode cX12_planFewestLate 211 = .ok (.iconst 0, 1) := by decide +kernel
theorem dX12_planFewestLate_212 : decode cX12_planFewestLate 212 = .ok (.aload_n 0, 1) := by decide +kernel
theorem dX12_planFewestLate_213 : decode cX12_planFewestLate 213 = .ok (.getfield 43, 3) := by decide +kernel
theorem dX12_planFewestLate_216 : decode cX12_planFewestLate 216 = .ok (.iload_n 3, 1) := by decide +kernel
theorem dX12_planFewestLate_217 : decode cX12_planFewestLate 217 = .ok (.iaload, 1) := by decide +kernel
theorem dX12_planFewestLate_218 : decode cX12_planFewestLate 218 = .ok (.aload_n 0, 1) := by decide +kernel
theorem dX12_planFewestLate_219 : decode cX12_planFewestLate 219 = .ok (.getfield 7, 3) := by decide +kernel
theorem dX12_planFewestLate_222 : decode cX12_planFewestLate 222 = .ok (.aload_n 0, 1) := by decide +kernel
theorem dX12_planFewestLate_223 : decode cX12_planFewestLate 223 = .ok (.getfield 43, 3) := by decide +kernel
theorem dX12_planFewestLate_226 : decode cX12_planFewestLate 226 = .ok (.iload_n 3, 1) := by decide +kernel
theorem dX12_planFewestLate_227 : decode cX12_planFewestLate 227 = .ok (.iaload, 1) := by decide +kernel
theorem dX12_planFewestLate_228 : decode cX12_planFewestLate 228 = .ok (.iaload, 1) := by decide +kernel
theorem dX12_planFewestLate_229 : decode cX12_planFewestLate 229 = .ok (.invokevirtual 129, 3) := by decide +kernel
theorem dX12_planFewestLate_232 : decode cX12_planFewestLate 232 = .ok (.iinc 3 1, 3) := by decide +kernel
theorem dX12_planFewestLate_235 : decode cX12_planFewestLate 235 = .ok (.goto (-30), 3) := by decide +kernel
theorem dX12_planFewestLate_238 : decode cX12_planFewestLate 238 = .ok (.iload_n 2, 1) := by decide +kernel
theorem dX12_planFewestLate_239 : decode cX12_planFewestLate 239 = .ok (.ireturn, 1) := by decide +kernel
theorem dX12_planByRatios_0 : decode cX12_planByRatios 0 = .ok (.aload_n 0, 1) := by decide +kernel
theorem dX12_planByRatios_1 : decode cX12_planByRatios 1 = .ok (.invokevirtual 137, 3) := by decide +kernel
theorem dX12_planByRatios_4 : decode cX12_planByRatios 4 = .ok (.ifCond .ne 5, 3) := by decide +kernel
theorem dX12_planByRatios_7 : decode cX12_planByRatios 7 = .ok (.iconst 0, 1) := by decide +kernel
theorem dX12_planByRatios_8 : decode cX12_planByRatios 8 = .ok (.ireturn, 1) := by decide +kernel
theorem dX12_planByRatios_9 : decode cX12_planByRatios 9 = .ok (.aload_n 0, 1) := by decide +kernel
theorem dX12_planByRatios_10 : decode cX12_planByRatios 10 = .ok (.iconst 0, 1) := by decide +kernel
theorem dX12_planByRatios_11 : decode cX12_planByRatios 11 = .ok (.invokevirtual 141, 3) := by decide +kernel
theorem dX12_planByRatios_14 : decode cX12_planByRatios 14 = .ok (.aload_n 0, 1) := by decide +kernel
theorem dX12_planByRatios_15 : decode cX12_planByRatios 15 = .ok (.invokevirtual 145, 3) := by decide +kernel
theorem dX12_planByRatios_18 : decode cX12_planByRatios 18 = .ok (.aload_n 0, 1) := by decide +kernel
theorem dX12_planByRatios_19 : decode cX12_planByRatios 19 = .ok (.iconst 2, 1) := by decide +kernel
theorem dX12_planByRatios_20 : decode cX12_planByRatios 20 = .ok (.invokevirtual 151, 3) := by decide +kernel
theorem dX12_planByRatios_23 : decode cX12_planByRatios 23 = .ok (.ireturn, 1) := by decide +kernel
theorem dX12_planLeastTardiness_0 : decode cX12_planLeastTardiness 0 = .ok (.aload_n 0, 1) := by decide +kernel
theorem dX12_planLeastTardiness_1 : decode cX12_planLeastTardiness 1 = .ok (.invokevirtual 137, 3) := by decide +kernel
theorem dX12_planLeastTardiness_4 : decode cX12_planLeastTardiness 4 = .ok (.ifCond .ne 5, 3) := by decide +kernel
theorem dX12_planLeastTardiness_7 : decode cX12_planLeastTardiness 7 = .ok (.iconst 0, 1) := by decide +kernel
theorem dX12_planLeastTardiness_8 : decode cX12_planLeastTardiness 8 = .ok (.ireturn, 1) := by decide +kernel
theorem dX12_planLeastTardiness_9 : decode cX12_planLeastTardiness 9 = .ok (.aload_n 0, 1) := by decide +kernel
theorem dX12_planLeastTardiness_10 : decode cX12_planLeastTardiness 10 = .ok (.iconst 2, 1) := by decide +kernel
theorem dX12_planLeastTardiness_11 : decode cX12_planLeastTardiness 11 = .ok (.invokevirtual 154, 3) := by decide +kernel
theorem dX12_planLeastTardiness_14 : decode cX12_planLeastTardiness 14 = .ok (.iconst 0, 1) := by decide +kernel
theorem dX12_planLeastTardiness_15 : decode cX12_planLeastTardiness 15 = .ok (.istore_n 1, 1) := by decide +kernel
theorem dX12_planLeastTardiness_16 : decode cX12_planLeastTardiness 16 = .ok (.iconst 0, 1) := by decide +kernel
theorem dX12_planLeastTardiness_17 : decode cX12_planLeastTardiness 17 = .ok (.istore_n 2, 1) := by decide +kernel
theorem dX12_planLeastTardiness_18 : decode cX12_planLeastTardiness 18 = .ok (.iload_n 2, 1) := by decide +kernel
theorem dX12_planLeastTardiness_19 : decode cX12_planLeastTardiness 19 = .ok (.aload_n 0, 1) := by decide +kernel
theorem dX12_planLeastTardiness_20 : decode cX12_planLeastTardiness 20 = .ok (.getfield 63, 3) := by decide +kernel
theorem dX12_planLeastTardiness_23 : decode cX12_planLeastTardiness 23 = .ok (.if_icmp .ge 111, 3) := by decide +kernel
theorem dX12_planLeastTardiness_26 : decode cX12_planLeastTardiness 26 = .ok (.iconst (-1), 1) := by decide +kernel
theorem dX12_planLeastTardiness_27 : decode cX12_planLeastTardiness 27 = .ok (.istore_n 3, 1) := by decide +kernel
theorem dX12_planLeastTardiness_28 : decode cX12_planLeastTardiness 28 = .ok (.aload_n 0, 1) := by decide +kernel
theorem dX12_planLeastTardiness_29 : decode cX12_planLeastTardiness 29 = .ok (.getfield 63, 3) := by decide +kernel
theorem dX12_planLeastTardiness_32 : decode cX12_planLeastTardiness 32 = .ok (.iconst 1, 1) := by decide +kernel
theorem dX12_planLeastTardiness_33 : decode cX12_planLeastTardiness 33 = .ok (.isub, 1) := by decide +kernel
theorem dX12_planLeastTardiness_34 : decode cX12_planLeastTardiness 34 = .ok (.istore 4, 2) := by decide +kernel
theorem dX12_planLeastTardiness_36 : decode cX12_planLeastTardiness 36 = .ok (.iload 4, 2) := by decide +kernel
theorem dX12_planLeastTardiness_38 : decode cX12_planLeastTardiness 38 = .ok (.ifCond .lt 77, 3) := by decide +kernel
theorem dX12_planLeastTardiness_41 : decode cX12_planLeastTardiness 41 = .ok (.iload_n 1, 1) := by decide +kernel
theorem dX12_planLeastTardiness_42 : decode cX12_planLeastTardiness 42 = .ok (.iload 4, 2) := by decide +kernel
theorem dX12_planLeastTardiness_44 : decode cX12_planLeastTardiness 44 = .ok (.ishr, 1) := by decide +kernel
theorem dX12_planLeastTardiness_45 : decode cX12_planLeastTardiness 45 = .ok (.iconst 1, 1) := by decide +kernel
theorem dX12_planLeastTardiness_46 : decode cX12_planLeastTardiness 46 = .ok (.iand, 1) := by decide +kernel
theorem dX12_planLeastTardiness_47 : decode cX12_planLeastTardiness 47 = .ok (.ifCond .ne 47, 3) := by decide +kernel
theorem dX12_planLeastTardiness_50 : decode cX12_planLeastTardiness 50 = .ok (.aload_n 0, 1) := by decide +kernel
theorem dX12_planLeastTardiness_51 : decode cX12_planLeastTardiness 51 = .ok (.iconst 2, 1) := by decide +kernel
theorem dX12_planLeastTardiness_52 : decode cX12_planLeastTardiness 52 = .ok (.iload 4, 2) := by decide +kernel
theorem dX12_planLeastTardiness_54 : decode cX12_planLeastTardiness 54 = .ok (.aload_n 0, 1) := by decide +kernel
theorem dX12_planLeastTardiness_55 : decode cX12_planLeastTardiness 55 = .ok (.iload_n 1, 1) := by decide +kernel
theorem dX12_planLeastTardiness_56 : decode cX12_planLeastTardiness 56 = .ok (.invokevirtual 106, 3) := by decide +kernel
theorem dX12_planLeastTardiness_59 : decode cX12_planLeastTardiness 59 = .ok (.aload_n 0, 1) := by decide +kernel
theorem dX12_planLeastTardiness_60 : decode cX12_planLeastTardiness 60 = .ok (.getfield 7, 3) := by decide +kernel
theorem dX12_planLeastTardiness_63 : decode cX12_planLeastTardiness 63 = .ok (.iload 4, 2) := by decide +kernel
theorem dX12_planLeastTardiness_65 : decode cX12_planLeastTardiness 65 = .ok (.iaload, 1) := by decide +kernel
theorem dX12_planLeastTardiness_66 : decode cX12_planLeastTardiness 66 = .ok (.iadd, 1) := by decide +kernel
theorem dX12_planLeastTardiness_67 : decode cX12_planLeastTardiness 67 = .ok (.aload_n 0, 1) := by decide +kernel
theorem dX12_planLeastTardiness_68 : decode cX12_planLeastTardiness 68 = .ok (.getfield 46, 3) := by decide +kernel
theorem dX12_planLeastTardiness_71 : decode cX12_planLeastTardiness 71 = .ok (.iload_n 1, 1) := by decide +kernel
theorem dX12_planLeastTardiness_72 : decode cX12_planLeastTardiness 72 = .ok (.iconst 1, 1) := by decide +kernel
theorem dX12_planLeastTardiness_73 : decode cX12_planLeastTardiness 73 = .ok (.iload 4, 2) := by decide +kernel
theorem dX12_planLeastTardiness_75 : decode cX12_planLeastTardiness 75 = .ok (.ishl, 1) := by decide +kernel
theorem dX12_planLeastTardiness_76 : decode cX12_planLeastTardiness 76 = .ok (.ior, 1) := by decide +kernel
theorem dX12_planLeastTardiness_77 : decode cX12_planLeastTardiness 77 = .ok (.iaload, 1) := by decide +kernel
theorem dX12_planLeastTardiness_78 : decode cX12_planLeastTardiness 78 = .ok (.invokevirtual 112, 3) := by decide +kernel
theorem dX12_planLeastTardiness_81 : decode cX12_planLeastTardiness 81 = .ok (.aload_n 0, 1) := by decide +kernel
theorem dX12_planLeastTardiness_82 : decode cX12_planLeastTardiness 82 = .ok (.getfield 46, 3) := by decide +kernel
theorem dX12_planLeastTardiness_85 : decode cX12_planLeastTardiness 85 = .ok (.iload_n 1, 1) := by decide +kernel
theorem dX12_planLeastTardiness_86 : decode cX12_planLeastTardiness 86 = .ok (.iaload, 1) := by decide +kernel
theorem dX12_planLeastTardiness_87 : decode cX12_planLeastTardiness 87 = .ok (.if_icmp .ne 7, 3) := by decide +kernel
theorem dX12_planLeastTardiness_90 : decode cX12_planLeastTardiness 90 = .ok (.iconst 1, 1) := by decide +kernel
theorem dX12_planLeastTardiness_91 : decode cX12_planLeastTardiness 91 = .ok (.goto 4, 3) := by decide +kernel
theorem dX12_planLeastTardiness_94 : decode cX12_planLeastTardiness 94 = .ok (.iconst 0, 1) := by decide +kernel
theorem dX12_planLeastTardiness_95 : decode cX12_planLeastTardiness 95 = .ok (.istore 5, 2) := by decide +kernel
theorem dX12_planLeastTardiness_97 : decode cX12_planLeastTardiness 97 = .ok (.iload 5, 2) := by decide +kernel
theorem dX12_planLeastTardiness_99 : decode cX12_planLeastTardiness 99 = .ok (.ifCond .eq 8, 3) := by decide +kernel
theorem dX12_planLeastTardiness_102 : decode cX12_planLeastTardiness 102 = .ok (.iload 4, 2) := by decide +kernel
theorem dX12_planLeastTardiness_104 : decode cX12_planLeastTardiness 104 = .ok (.goto 4, 3) := by decide +kernel
theorem dX12_planLeastTardiness_107 : decode cX12_planLeastTardiness 107 = .ok (.iload_n 3, 1) := by decide +kernel
theorem dX12_planLeastTardiness_108 : decode cX12_planLeastTardiness 108 = .ok (.istore_n 3, 1) := by decide +kernel
theorem dX12_planLeastTardiness_109 : decode cX12_planLeastTardiness 109 = .ok (.iinc 4 (-1), 3) := by decide +kernel
theorem dX12_planLeastTardiness_112 : decode cX12_planLeastTardiness 112 = .ok (.goto (-76), 3) := by decide +kernel
theorem dX12_planLeastTardiness_115 : decode cX12_planLeastTardiness 115 = .ok (.aload_n 0, 1) := by decide +kernel
theorem dX12_planLeastTardiness_116 : decode cX12_planLeastTardiness 116 = .ok (.getfield 40, 3) := by decide +kernel
theorem dX12_planLeastTardiness_119 : decode cX12_planLeastTardiness 119 = .ok (.iload_n 2, 1) := by decide +kernel
theorem dX12_planLeastTardiness_120 : decode cX12_planLeastTardiness 120 = .ok (.iload_n 3, 1) := by decide +kernel
theorem dX12_planLeastTardiness_121 : decode cX12_planLeastTardiness 121 = .ok (.iastore, 1) := by decide +kernel
theorem dX12_planLeastTardiness_122 : decode cX12_planLeastTardiness 122 = .ok (.iload_n 1, 1) := by decide +kernel
theorem dX12_planLeastTardiness_123 : decode cX12_planLeastTardiness 123 = .ok (.iconst 1, 1) := by decide +kernel
theorem dX12_planLeastTardiness_124 : decode cX12_planLeastTardiness 124 = .ok (.iload_n 3, 1) := by decide +kernel
theorem dX12_planLeastTardiness_125 : decode cX12_planLeastTardiness 125 = .ok (.ishl, 1) := by decide +kernel
theorem dX12_planLeastTardiness_126 : decode cX12_planLeastTardiness 126 = .ok (.ior, 1) := by decide +kernel
theorem dX12_planLeastTardiness_127 : decode cX12_planLeastTardiness 127 = .ok (.istore_n 1, 1) := by decide +kernel
theorem dX12_planLeastTardiness_128 : decode cX12_planLeastTardiness 128 = .ok (.iinc 2 1, 3) := by decide +kernel
theorem dX12_planLeastTardiness_131 : decode cX12_planLeastTardiness 131 = .ok (.goto (-113), 3) := by decide +kernel
theorem dX12_planLeastTardiness_134 : decode cX12_planLeastTardiness 134 = .ok (.aload_n 0, 1) := by decide +kernel
theorem dX12_planLeastTardiness_135 : decode cX12_planLeastTardiness 135 = .ok (.invokevirtual 145, 3) := by decide +kernel
theorem dX12_planLeastTardiness_138 : decode cX12_planLeastTardiness 138 = .ok (.aload_n 0, 1) := by decide +kernel
theorem dX12_planLeastTardiness_139 : decode cX12_planLeastTardiness 139 = .ok (.iconst 3, 1) := by decide +kernel
theorem dX12_planLeastTardiness_140 : decode cX12_planLeastTardiness 140 = .ok (.invokevirtual 151, 3) := by decide +kernel
theorem dX12_planLeastTardiness_143 : decode cX12_planLeastTardiness 143 = .ok (.ireturn, 1) := by decide +kernel
theorem dX12_planByFamilies_0 : decode cX12_planByFamilies 0 = .ok (.aload_n 0, 1) := by decide +kernel
theorem dX12_planByFamilies_1 : decode cX12_planByFamilies 1 = .ok (.invokevirtual 137, 3) := by decide +kernel
theorem dX12_planByFamilies_4 : decode cX12_planByFamilies 4 = .ok (.ifCond .ne 5, 3) := by decide +kernel
theorem dX12_planByFamilies_7 : decode cX12_planByFamilies 7 = .ok (.iconst 0, 1) := by decide +kernel
theorem dX12_planByFamilies_8 : decode cX12_planByFamilies 8 = .ok (.ireturn, 1) := by decide +kernel
theorem dX12_planByFamilies_9 : decode cX12_planByFamilies 9 = .ok (.aload_n 0, 1) := by decide +kernel
theorem dX12_planByFamilies_10 : decode cX12_planByFamilies 10 = .ok (.iconst 1, 1) := by decide +kernel
theorem dX12_planByFamilies_11 : decode cX12_planByFamilies 11 = .ok (.invokevirtual 158, 3) := by decide +kernel
theorem dX12_planByFamilies_14 : decode cX12_planByFamilies 14 = .ok (.aload_n 0, 1) := by decide +kernel
theorem dX12_planByFamilies_15 : decode cX12_planByFamilies 15 = .ok (.getfield 49, 3) := by decide +kernel
theorem dX12_planByFamilies_18 : decode cX12_planByFamilies 18 = .ok (.iconst 4, 1) := by decide +kernel
theorem dX12_planByFamilies_19 : decode cX12_planByFamilies 19 = .ok (.iaload, 1) := by decide +kernel
theorem dX12_planByFamilies_20 : decode cX12_planByFamilies 20 = .ok (.istore_n 1, 1) := by decide +kernel
theorem dX12_planByFamilies_21 : decode cX12_planByFamilies 21 = .ok (.iconst 0, 1) := by decide +kernel
theorem dX12_planByFamilies_22 : decode cX12_planByFamilies 22 = .ok (.istore_n 2, 1) := by decide +kernel
theorem dX12_planByFamilies_23 : decode cX12_planByFamilies 23 = .ok (.iconst 4, 1) := by decide +kernel
theorem dX12_planByFamilies_24 : decode cX12_planByFamilies 24 = .ok (.istore_n 3, 1) := by decide +kernel
theorem dX12_planByFamilies_25 : decode cX12_planByFamilies 25 = .ok (.aload_n 0, 1) := by decide +kernel
theorem dX12_planByFamilies_26 : decode cX12_planByFamilies 26 = .ok (.invokevirtual 126, 3) := by decide +kernel
theorem dX12_planByFamilies_29 : decode cX12_planByFamilies 29 = .ok (.iconst 0, 1) := by decide +kernel
theorem dX12_planByFamilies_30 : decode cX12_planByFamilies 30 = .ok (.istore 4, 2) := by decide +kernel
theorem dX12_planByFamilies_32 : decode cX12_planByFamilies 32 = .ok (.iload 4, 2) := by decide +kernel
theorem dX12_planByFamilies_34 : decode cX12_planByFamilies 34 = .ok (.aload_n 0, 1) := by decide +kernel
theorem dX12_planByFamilies_35 : decode cX12_planByFamilies 35 = .ok (.getfield 63, 3) := by decide +kernel
theorem dX12_planByFamilies_38 : decode cX12_planByFamilies 38 = .ok (.if_icmp .ge 186, 3) := by decide +kernel
theorem dX12_planByFamilies_41 : decode cX12_planByFamilies 41 = .ok (.iconst (-1), 1) := by decide +kernel
theorem dX12_planByFamilies_42 : decode cX12_planByFamilies 42 = .ok (.istore 5, 2) := by decide +kernel
theorem dX12_planByFamilies_44 : decode cX12_planByFamilies 44 = .ok (.aload_n 0, 1) := by decide +kernel
theorem dX12_planByFamilies_45 : decode cX12_planByFamilies 45 = .ok (.getfield 63, 3) := by decide +kernel
theorem dX12_planByFamilies_48 : decode cX12_planByFamilies 48 = .ok (.iconst 1, 1) := by decide +kernel
theorem dX12_planByFamilies_49 : decode cX12_planByFamilies 49 = .ok (.isub, 1) := by decide +kernel
theorem dX12_planByFamilies_50 : decode cX12_planByFamilies 50 = .ok (.istore 6, 2) := by decide +kernel
theorem dX12_planByFamilies_52 : decode cX12_planByFamilies 52 = .ok (.iload 6, 2) := by decide +kernel
theorem dX12_planByFamilies_54 : decode cX12_planByFamilies 54 = .ok (.ifCond .lt 96, 3) := by decide +kernel
theorem dX12_planByFamilies_57 : decode cX12_planByFamilies 57 = .ok (.aload_n 0, 1) := by decide +kernel
theorem dX12_planByFamilies_58 : decode cX12_planByFamilies 58 = .ok (.invokevirtual 122, 3) := by decide +kernel
theorem dX12_planByFamilies_61 : decode cX12_planByFamilies 61 = .ok (.aload_n 0, 1) := by decide +kernel
theorem dX12_planByFamilies_62 : decode cX12_planByFamilies 62 = .ok (.iload 6, 2) := by decide +kernel
theorem dX12_planByFamilies_64 : decode cX12_planByFamilies 64 = .ok (.iload_n 3, 1) := by decide +kernel
theorem dX12_planByFamilies_65 : decode cX12_planByFamilies 65 = .ok (.invokevirtual 119, 3) := by decide +kernel
theorem dX12_planByFamilies_68 : decode cX12_planByFamilies 68 = .ok (.iadd, 1) := by decide +kernel
theorem dX12_planByFamilies_69 : decode cX12_planByFamilies 69 = .ok (.istore 7, 2) := by decide +kernel
theorem dX12_planByFamilies_71 : decode cX12_planByFamilies 71 = .ok (.aload_n 0, 1) := by decide +kernel
theorem dX12_planByFamilies_72 : decode cX12_planByFamilies 72 = .ok (.iload_n 2, 1) := by decide +kernel
theorem dX12_planByFamilies_73 : decode cX12_planByFamilies 73 = .ok (.iload 6, 2) := by decide +kernel
theorem dX12_planByFamilies_75 : decode cX12_planByFamilies 75 = .ok (.invokevirtual 116, 3) := by decide +kernel
theorem dX12_planByFamilies_78 : decode cX12_planByFamilies 78 = .ok (.ifCond .eq 49, 3) := by decide +kernel
theorem dX12_planByFamilies_81 : decode cX12_planByFamilies 81 = .ok (.iload 7, 2) := by decide +kernel
theorem dX12_planByFamilies_83 : decode cX12_planByFamilies 83 = .ok (.aload_n 0, 1) := by decide +kernel
theorem dX12_planByFamilies_84 : decode cX12_planByFamilies 84 = .ok (.getfield 13, 3) := by decide +kernel
theorem dX12_planByFamilies_87 : decode cX12_planByFamilies 87 = .ok (.iload 6, 2) := by decide +kernel
theorem dX12_planByFamilies_89 : decode cX12_planByFamilies 89 = .ok (.iaload, 1) := by decide +kernel
theorem dX12_planByFamilies_90 : decode cX12_planByFamilies 90 = .ok (.isub, 1) := by decide +kernel
theorem dX12_planByFamilies_91 : decode cX12_planByFamilies 91 = .ok (.iload_n 1, 1) := by decide +kernel
theorem dX12_planByFamilies_92 : decode cX12_planByFamilies 92 = .ok (.if_icmp .gt 35, 3) := by decide +kernel
theorem dX12_planByFamilies_95 : decode cX12_planByFamilies 95 = .ok (.iload 7, 2) := by decide +kernel
theorem dX12_planByFamilies_97 : decode cX12_planByFamilies 97 = .ok (.aload_n 0, 1) := by decide +kernel
theorem dX12_planByFamilies_98 : decode cX12_planByFamilies 98 = .ok (.getfield 49, 3) := by decide +kernel
theorem dX12_planByFamilies_101 : decode cX12_planByFamilies 101 = .ok (.iconst 5, 1) := by decide +kernel
theorem dX12_planByFamilies_102 : decode cX12_planByFamilies 102 = .ok (.iload_n 2, 1) := by decide +kernel
theorem dX12_planByFamilies_103 : decode cX12_planByFamilies 103 = .ok (.iconst 1, 1) := by decide +kernel
theorem dX12_planByFamilies_104 : decode cX12_planByFamilies 104 = .ok (.iload 6, 2) := by decide +kernel
theorem dX12_planByFamilies_106 : decode cX12_planByFamilies 106 = .ok (.ishl, 1) := by decide +kernel
theorem dX12_planByFamilies_107 : decode cX12_planByFamilies 107 = .ok (.ior, 1) := by decide +kernel
theorem dX12_planByFamilies_108 : decode cX12_planByFamilies 108 = .ok (.imul, 1) := by decide +kernel
theorem dX12_planByFamilies_109 : decode cX12_planByFamilies 109 = .ok (.aload_n 0, 1) := by decide +kernel
theorem dX12_planByFamilies_110 : decode cX12_planByFamilies 110 = .ok (.getfield 22, 3) := by decide +kernel
theorem dX12_planByFamilies_113 : decode cX12_planByFamilies 113 = .ok (.iload 6, 2) := by decide +kernel
theorem dX12_planByFamilies_115 : decode cX12_planByFamilies 115 = .ok (.iaload, 1) := by decide +kernel
theorem dX12_planByFamilies_116 : decode cX12_planByFamilies 116 = .ok (.iadd, 1) := by decide +kernel
theorem dX12_planByFamilies_117 : decode cX12_planByFamilies 117 = .ok (.iaload, 1) := by decide +kernel
theorem dX12_planByFamilies_118 : decode cX12_planByFamilies 118 = .ok (.iadd, 1) := by decide +kernel
theorem dX12_planByFamilies_119 : decode cX12_planByFamilies 119 = .ok (.iload_n 1, 1) := by decide +kernel
theorem dX12_planByFamilies_120 : decode cX12_planByFamilies 120 = .ok (.if_icmp .gt 7, 3) := by decide +kernel
theorem dX12_planByFamilies_123 : decode cX12_planByFamilies 123 = .ok (.iconst 1, 1) := by decide +kernel
theorem dX12_planByFamilies_124 : decode cX12_planByFamilies 124 = .ok (.goto 4, 3) := by decide +kernel
theorem dX12_planByFamilies_127 : decode cX12_planByFamilies 127 = .ok (.iconst 0, 1) := by decide +kernel
theorem dX12_planByFamilies_128 : decode cX12_planByFamilies 128 = .ok (.istore 8, 2) := by decide +kernel
theorem dX12_planByFamilies_130 : decode cX12_planByFamilies 130 = .ok (.iload 8, 2) := by decide +kernel
theorem dX12_planByFamilies_132 : decode cX12_planByFamilies 132 = .ok (.ifCond .eq 8, 3) := by decide +kernel
theorem dX12_planByFamilies_135 : decode cX12_planByFamilies 135 = .ok (.iload 6, 2) := by decide +kernel
theorem dX12_planByFamilies_137 : decode cX12_planByFamilies 137 = .ok (.goto 5, 3) := by decide +kernel
theorem dX12_planByFamilies_140 : decode cX12_planByFamilies 140 = .ok (.iload 5, 2) := by decide +kernel
theorem dX12_planByFamilies_142 : decode cX12_planByFamilies 142 = .ok (.istore 5, 2) := by decide +kernel
theorem dX12_planByFamilies_144 : decode cX12_planByFamilies 144 = .ok (.iinc 6 (-1), 3) := by decide +kernel
theorem dX12_planByFamilies_147 : decode cX12_planByFamilies 147 = .ok (.goto (-95), 3) := by decide +kernel
theorem dX12_planByFamilies_150 : decode cX12_planByFamilies 150 = .ok (.aload_n 0, 1) := by decide +kernel
theorem dX12_planByFamilies_151 : decode cX12_planByFamilies 151 = .ok (.iconst 1, 1) := by decide +kernel
theorem dX12_planByFamilies_152 : decode cX12_planByFamilies 152 = .ok (.aload_n 0, 1) := by decide +kernel
theorem dX12_planByFamilies_153 : decode cX12_planByFamilies 153 = .ok (.getfield 22, 3) := by decide +kernel
theorem dX12_planByFamilies_156 : decode cX12_planByFamilies 156 = .ok (.iload 5, 2) := by decide +kernel
theorem dX12_planByFamilies_158 : decode cX12_planByFamilies 158 = .ok (.iaload, 1) := by decide +kernel
theorem dX12_planByFamilies_159 : decode cX12_planByFamilies 159 = .ok (.aload_n 0, 1) := by decide +kernel
theorem dX12_planByFamilies_160 : decode cX12_planByFamilies 160 = .ok (.getfield 22, 3) := by decide +kernel
theorem dX12_planByFamilies_163 : decode cX12_planByFamilies 163 = .ok (.iload 5, 2) := by decide +kernel
theorem dX12_planByFamilies_165 : decode cX12_planByFamilies 165 = .ok (.iaload, 1) := by decide +kernel
theorem dX12_planByFamilies_166 : decode cX12_planByFamilies 166 = .ok (.iload_n 3, 1) := by decide +kernel
theorem dX12_planByFamilies_167 : decode cX12_planByFamilies 167 = .ok (.if_icmp .ne 7, 3) := by decide +kernel
theorem dX12_planByFamilies_170 : decode cX12_planByFamilies 170 = .ok (.iconst 0, 1) := by decide +kernel
theorem dX12_planByFamilies_171 : decode cX12_planByFamilies 171 = .ok (.goto 15, 3) := by decide +kernel
theorem dX12_planByFamilies_174 : decode cX12_planByFamilies 174 = .ok (.aload_n 0, 1) := by decide +kernel
theorem dX12_planByFamilies_175 : decode cX12_planByFamilies 175 = .ok (.getfield 25, 3) := by decide +kernel
theorem dX12_planByFamilies_178 : decode cX12_planByFamilies 178 = .ok (.aload_n 0, 1) := by decide +kernel
theorem dX12_planByFamilies_179 : decode cX12_planByFamilies 179 = .ok (.getfield 22, 3) := by decide +kernel
theorem dX12_planByFamilies_182 : decode cX12_planByFamilies 182 = .ok (.iload 5, 2) := by decide +kernel
theorem dX12_planByFamilies_184 : decode cX12_planByFamilies 184 = .ok (.iaload, 1) := by decide +kernel
theorem dX12_planByFamilies_185 : decode cX12_planByFamilies 185 = .ok (.iaload, 1) := by decide +kernel
theorem dX12_planByFamilies_186 : decode cX12_planByFamilies 186 = .ok (.invokevirtual 129, 3) := by decide +kernel
theorem dX12_planByFamilies_189 : decode cX12_planByFamilies 189 = .ok (.aload_n 0, 1) := by decide +kernel
theorem dX12_planByFamilies_190 : decode cX12_planByFamilies 190 = .ok (.iconst 0, 1) := by decide +kernel
theorem dX12_planByFamilies_191 : decode cX12_planByFamilies 191 = .ok (.iload 5, 2) := by decide +kernel
theorem dX12_planByFamilies_193 : decode cX12_planByFamilies 193 = .ok (.aload_n 0, 1) := by decide +kernel
theorem dX12_planByFamilies_194 : decode cX12_planByFamilies 194 = .ok (.getfield 7, 3) := by decide +kernel
theorem dX12_planByFamilies_197 : decode cX12_planByFamilies 197 = .ok (.iload 5, 2) := by decide +kernel
theorem dX12_planByFamilies_199 : decode cX12_planByFamilies 199 = .ok (.iaload, 1) := by decide +kernel
theorem dX12_planByFamilies_200 : decode cX12_planByFamilies 200 = .ok (.invokevirtual 129, 3) := by decide +kernel
theorem dX12_planByFamilies_203 : decode cX12_planByFamilies 203 = .ok (.iload_n 2, 1) := by decide +kernel
theorem dX12_planByFamilies_204 : decode cX12_planByFamilies 204 = .ok (.iconst 1, 1) := by decide +kernel
theorem dX12_planByFamilies_205 : decode cX12_planByFamilies 205 = .ok (.iload 5, 2) := by decide +kernel
theorem dX12_planByFamilies_207 : decode cX12_planByFamilies 207 = .ok (.ishl, 1) := by decide +kernel
theorem dX12_planByFamilies_208 : decode cX12_planByFamilies 208 = .ok (.ior, 1) := by decide +kernel
theorem dX12_planByFamilies_209 : decode cX12_planByFamilies 209 = .ok (.istore_n 2, 1) := by decide +kernel
theorem dX12_planByFamilies_210 : decode cX12_planByFamilies 210 = .ok (.aload_n 0, 1) := by decide +kernel
theorem dX12_planByFamilies_211 : decode cX12_planByFamilies 211 = .ok (.getfield 22, 3) := by decide +kernel
theorem dX12_planByFamilies_214 : decode cX12_planByFamilies 214 = .ok (.iload 5, 2) := by decide +kernel
theorem dX12_planByFamilies_216 : decode cX12_planByFamilies 216 = .ok (.iaload, 1) := by decide +kernel
theorem dX12_planByFamilies_217 : decode cX12_planByFamilies 217 = .ok (.istore_n 3, 1) := by decide +kernel
theorem dX12_planByFamilies_218 : decode cX12_planByFamilies 218 = .ok (.iinc 4 1, 3) := by decide +kernel
theorem dX12_planByFamilies_221 : decode cX12_planByFamilies 221 = .ok (.goto (-189), 3) := by decide +kernel
theorem dX12_planByFamilies_224 : decode cX12_planByFamilies 224 = .ok (.aload_n 0, 1) := by decide +kernel
theorem dX12_planByFamilies_225 : decode cX12_planByFamilies 225 = .ok (.invokevirtual 148, 3) := by decide +kernel
theorem dX12_planByFamilies_228 : decode cX12_planByFamilies 228 = .ok (.ireturn, 1) := by decide +kernel
theorem dX12_planPreemptiveByDates_0 : decode cX12_planPreemptiveByDates 0 = .ok (.aload_n 0, 1) := by decide +kernel
theorem dX12_planPreemptiveByDates_1 : decode cX12_planPreemptiveByDates 1 = .ok (.invokevirtual 137, 3) := by decide +kernel
theorem dX12_planPreemptiveByDates_4 : decode cX12_planPreemptiveByDates 4 = .ok (.ifCond .ne 5, 3) := by decide +kernel
theorem dX12_planPreemptiveByDates_7 : decode cX12_planPreemptiveByDates 7 = .ok (.iconst 0, 1) := by decide +kernel
theorem dX12_planPreemptiveByDates_8 : decode cX12_planPreemptiveByDates 8 = .ok (.ireturn, 1) := by decide +kernel
theorem dX12_planPreemptiveByDates_9 : decode cX12_planPreemptiveByDates 9 = .ok (.aload_n 0, 1) := by decide +kernel
theorem dX12_planPreemptiveByDates_10 : decode cX12_planPreemptiveByDates 10 = .ok (.iconst 1, 1) := by decide +kernel
theorem dX12_planPreemptiveByDates_11 : decode cX12_planPreemptiveByDates 11 = .ok (.invokevirtual 161, 3) := by decide +kernel
theorem dX12_planPreemptiveByDates_14 : decode cX12_planPreemptiveByDates 14 = .ok (.aload_n 0, 1) := by decide +kernel
theorem dX12_planPreemptiveByDates_15 : decode cX12_planPreemptiveByDates 15 = .ok (.invokevirtual 148, 3) := by decide +kernel
theorem dX12_planPreemptiveByDates_18 : decode cX12_planPreemptiveByDates 18 = .ok (.ireturn, 1) := by decide +kernel
theorem dX12_planPreemptiveShortest_0 : decode cX12_planPreemptiveShortest 0 = .ok (.aload_n 0, 1) := by decide +kernel
theorem dX12_planPreemptiveShortest_1 : decode cX12_planPreemptiveShortest 1 = .ok (.invokevirtual 137, 3) := by decide +kernel
theorem dX12_planPreemptiveShortest_4 : decode cX12_planPreemptiveShortest 4 = .ok (.ifCond .ne 5, 3) := by decide +kernel
theorem dX12_planPreemptiveShortest_7 : decode cX12_planPreemptiveShortest 7 = .ok (.iconst 0, 1) := by decide +kernel
theorem dX12_planPreemptiveShortest_8 : decode cX12_planPreemptiveShortest 8 = .ok (.ireturn, 1) := by decide +kernel
theorem dX12_planPreemptiveShortest_9 : decode cX12_planPreemptiveShortest 9 = .ok (.aload_n 0, 1) := by decide +kernel
theorem dX12_planPreemptiveShortest_10 : decode cX12_planPreemptiveShortest 10 = .ok (.iconst 0, 1) := by decide +kernel
theorem dX12_planPreemptiveShortest_11 : decode cX12_planPreemptiveShortest 11 = .ok (.invokevirtual 161, 3) := by decide +kernel
theorem dX12_planPreemptiveShortest_14 : decode cX12_planPreemptiveShortest 14 = .ok (.aload_n 0, 1) := by decide +kernel
theorem dX12_planPreemptiveShortest_15 : decode cX12_planPreemptiveShortest 15 = .ok (.iconst 1, 1) := by decide +kernel
theorem dX12_planPreemptiveShortest_16 : decode cX12_planPreemptiveShortest 16 = .ok (.invokevirtual 151, 3) := by decide +kernel
theorem dX12_planPreemptiveShortest_19 : decode cX12_planPreemptiveShortest 19 = .ok (.ireturn, 1) := by decide +kernel
theorem dX12_hasPlan_0 : decode cX12_hasPlan 0 = .ok (.aload_n 0, 1) := by decide +kernel
theorem dX12_hasPlan_1 : decode cX12_hasPlan 1 = .ok (.iconst 0, 1) := by decide +kernel
theorem dX12_hasPlan_2 : decode cX12_hasPlan 2 = .ok (.putfield 59, 3) := by decide +kernel
theorem dX12_hasPlan_5 : decode cX12_hasPlan 5 = .ok (.aload_n 0, 1) := by decide +kernel
theorem dX12_hasPlan_6 : decode cX12_hasPlan 6 = .ok (.getfield 70, 3) := by decide +kernel
theorem dX12_hasPlan_9 : decode cX12_hasPlan 9 = .ok (.ireturn, 1) := by decide +kernel
theorem dX12_pieces_0 : decode cX12_pieces 0 = .ok (.aload_n 0, 1) := by decide +kernel
theorem dX12_pieces_1 : decode cX12_pieces 1 = .ok (.iconst 0, 1) := by decide +kernel
theorem dX12_pieces_2 : decode cX12_pieces 2 = .ok (.putfield 59, 3) := by decide +kernel
theorem dX12_pieces_5 : decode cX12_pieces 5 = .ok (.aload_n 0, 1) := by decide +kernel
theorem dX12_pieces_6 : decode cX12_pieces 6 = .ok (.getfield 74, 3) := by decide +kernel
theorem dX12_pieces_9 : decode cX12_pieces 9 = .ok (.ireturn, 1) := by decide +kernel
theorem dX12_isPiece_0 : decode cX12_isPiece 0 = .ok (.aload_n 0, 1) := by decide +kernel
theorem dX12_isPiece_1 : decode cX12_isPiece 1 = .ok (.iload_n 1, 1) := by decide +kernel
theorem dX12_isPiece_2 : decode cX12_isPiece 2 = .ok (.ifCond .lt 15, 3) := by decide +kernel
theorem dX12_isPiece_5 : decode cX12_isPiece 5 = .ok (.iload_n 1, 1) := by decide +kernel
theorem dX12_isPiece_6 : decode cX12_isPiece 6 = .ok (.aload_n 0, 1) := by decide +kernel
theorem dX12_isPiece_7 : decode cX12_isPiece 7 = .ok (.getfield 74, 3) := by decide +kernel
theorem dX12_isPiece_10 : decode cX12_isPiece 10 = .ok (.if_icmp .ge 7, 3) := by decide +kernel
theorem dX12_isPiece_13 : decode cX12_isPiece 13 = .ok (.iconst 0, 1) := by decide +kernel
theorem dX12_isPiece_14 : decode cX12_isPiece 14 = .ok (.goto 4, 3) := by decide +kernel
theorem dX12_isPiece_17 : decode cX12_isPiece 17 = .ok (.iconst 1, 1) := by decide +kernel
theorem dX12_isPiece_18 : decode cX12_isPiece 18 = .ok (.invokevirtual 84, 3) := by decide +kernel
theorem dX12_isPiece_21 : decode cX12_isPiece 21 = .ok (.ireturn, 1) := by decide +kernel
theorem dX12_kindOf_0 : decode cX12_kindOf 0 = .ok (.aload_n 0, 1) := by decide +kernel
theorem dX12_kindOf_1 : decode cX12_kindOf 1 = .ok (.iload_n 1, 1) := by decide +kernel
theorem dX12_kindOf_2 : decode cX12_kindOf 2 = .ok (.invokevirtual 164, 3) := by decide +kernel
theorem dX12_kindOf_5 : decode cX12_kindOf 5 = .ok (.ifCond .eq 12, 3) := by decide +kernel
theorem dX12_kindOf_8 : decode cX12_kindOf 8 = .ok (.aload_n 0, 1) := by decide +kernel
theorem dX12_kindOf_9 : decode cX12_kindOf 9 = .ok (.getfield 28, 3) := by decide +kernel
theorem dX12_kindOf_12 : decode cX12_kindOf 12 = .ok (.iload_n 1, 1) := by decide +kernel
theorem dX12_kindOf_13 : decode cX12_kindOf 13 = .ok (.iaload, 1) := by decide +kernel
theorem dX12_kindOf_14 : decode cX12_kindOf 14 = .ok (.goto 4, 3) := by decide +kernel
theorem dX12_kindOf_17 : decode cX12_kindOf 17 = .ok (.iconst 0, 1) := by decide +kernel
theorem dX12_kindOf_18 : decode cX12_kindOf 18 = .ok (.ireturn, 1) := by decide +kernel
theorem dX12_whoseIs_0 : decode cX12_whoseIs 0 = .ok (.aload_n 0, 1) := by decide +kernel
theorem dX12_whoseIs_1 : decode cX12_whoseIs 1 = .ok (.iload_n 1, 1) := by decide +kernel
theorem dX12_whoseIs_2 : decode cX12_whoseIs 2 = .ok (.invokevirtual 164, 3) := by decide +kernel
theorem dX12_whoseIs_5 : decode cX12_whoseIs 5 = .ok (.ifCond .eq 12, 3) := by decide +kernel
theorem dX12_whoseIs_8 : decode cX12_whoseIs 8 = .ok (.aload_n 0, 1) := by decide +kernel
theorem dX12_whoseIs_9 : decode cX12_whoseIs 9 = .ok (.getfield 31, 3) := by decide +kernel
theorem dX12_whoseIs_12 : decode cX12_whoseIs 12 = .ok (.iload_n 1, 1) := by decide +kernel
theorem dX12_whoseIs_13 : decode cX12_whoseIs 13 = .ok (.iaload, 1) := by decide +kernel
theorem dX12_whoseIs_14 : decode cX12_whoseIs 14 = .ok (.goto 4, 3) := by decide +kernel
theorem dX12_whoseIs_17 : decode cX12_whoseIs 17 = .ok (.iconst 0, 1) := by decide +kernel
theorem dX12_whoseIs_18 : decode cX12_whoseIs 18 = .ok (.ireturn, 1) := by decide +kernel
theorem dX12_startOf_0 : decode cX12_startOf 0 = .ok (.aload_n 0, 1) := by decide +kernel
theorem dX12_startOf_1 : decode cX12_startOf 1 = .ok (.iload_n 1, 1) := by decide +kernel
theorem dX12_startOf_2 : decode cX12_startOf 2 = .ok (.invokevirtual 164, 3) := by decide +kernel
theorem dX12_startOf_5 : decode cX12_startOf 5 = .ok (.ifCond .eq 18, 3) := by decide +kernel
theorem dX12_startOf_8 : decode cX12_startOf 8 = .ok (.iload_n 1, 1) := by decide +kernel
theorem dX12_startOf_9 : decode cX12_startOf 9 = .ok (.ifCond .le 14, 3) := by decide +kernel
theorem dX12_startOf_12 : decode cX12_startOf 12 = .ok (.aload_n 0, 1) := by decide +kernel
theorem dX12_startOf_13 : decode cX12_startOf 13 = .ok (.getfield 34, 3) := by decide +kernel
theorem dX12_startOf_16 : decode cX12_startOf 16 = .ok (.iload_n 1, 1) := by decide +kernel
theorem dX12_startOf_17 : decode cX12_startOf 17 = .ok (.iconst 1, 1) := by decide +kernel
theorem dX12_startOf_18 : decode cX12_startOf 18 = .ok (.isub, 1) := by decide +kernel
theorem dX12_startOf_19 : decode cX12_startOf 19 = .ok (.iaload, 1) := by decide +kernel
theorem dX12_startOf_20 : decode cX12_startOf 20 = .ok (.goto 4, 3) := by decide +kernel
theorem dX12_startOf_23 : decode cX12_startOf 23 = .ok (.iconst 0, 1) := by decide +kernel
theorem dX12_startOf_24 : decode cX12_startOf 24 = .ok (.ireturn, 1) := by decide +kernel
theorem dX12_endOf_0 : decode cX12_endOf 0 = .ok (.aload_n 0, 1) := by decide +kernel
theorem dX12_endOf_1 : decode cX12_endOf 1 = .ok (.iload_n 1, 1) := by decide +kernel
theorem dX12_endOf_2 : decode cX12_endOf 2 = .ok (.invokevirtual 164, 3) := by decide +kernel
theorem dX12_endOf_5 : decode cX12_endOf 5 = .ok (.ifCond .eq 12, 3) := by decide +kernel
theorem dX12_endOf_8 : decode cX12_endOf 8 = .ok (.aload_n 0, 1) := by decide +kernel
theorem dX12_endOf_9 : decode cX12_endOf 9 = .ok (.getfield 34, 3) := by decide +kernel
theorem dX12_endOf_12 : decode cX12_endOf 12 = .ok (.iload_n 1, 1) := by decide +kernel
theorem dX12_endOf_13 : decode cX12_endOf 13 = .ok (.iaload, 1) := by decide +kernel
theorem dX12_endOf_14 : decode cX12_endOf 14 = .ok (.goto 4, 3) := by decide +kernel
theorem dX12_endOf_17 : decode cX12_endOf 17 = .ok (.iconst 0, 1) := by decide +kernel
theorem dX12_endOf_18 : decode cX12_endOf 18 = .ok (.ireturn, 1) := by decide +kernel
theorem dX12_isPlanned_0 : decode cX12_isPlanned 0 = .ok (.aload_n 0, 1) := by decide +kernel
theorem dX12_isPlanned_1 : decode cX12_isPlanned 1 = .ok (.aload_n 0, 1) := by decide +kernel
theorem dX12_isPlanned_2 : decode cX12_isPlanned 2 = .ok (.iload_n 1, 1) := by decide +kernel
theorem dX12_isPlanned_3 : decode cX12_isPlanned 3 = .ok (.invokevirtual 92, 3) := by decide +kernel
theorem dX12_isPlanned_6 : decode cX12_isPlanned 6 = .ok (.ifCond .ne 7, 3) := by decide +kernel
theorem dX12_isPlanned_9 : decode cX12_isPlanned 9 = .ok (.iconst 1, 1) := by decide +kernel
theorem dX12_isPlanned_10 : decode cX12_isPlanned 10 = .ok (.goto 15, 3) := by decide +kernel
theorem dX12_isPlanned_13 : decode cX12_isPlanned 13 = .ok (.aload_n 0, 1) := by decide +kernel
theorem dX12_isPlanned_14 : decode cX12_isPlanned 14 = .ok (.getfield 70, 3) := by decide +kernel
theorem dX12_isPlanned_17 : decode cX12_isPlanned 17 = .ok (.ifCond .eq 7, 3) := by decide +kernel
theorem dX12_isPlanned_20 : decode cX12_isPlanned 20 = .ok (.iconst 0, 1) := by decide +kernel
theorem dX12_isPlanned_21 : decode cX12_isPlanned 21 = .ok (.goto 4, 3) := by decide +kernel
theorem dX12_isPlanned_24 : decode cX12_isPlanned 24 = .ok (.iconst 2, 1) := by decide +kernel
theorem dX12_isPlanned_25 : decode cX12_isPlanned 25 = .ok (.invokevirtual 84, 3) := by decide +kernel
theorem dX12_isPlanned_28 : decode cX12_isPlanned 28 = .ok (.ireturn, 1) := by decide +kernel
theorem dX12_completion_0 : decode cX12_completion 0 = .ok (.aload_n 0, 1) := by decide +kernel
theorem dX12_completion_1 : decode cX12_completion 1 = .ok (.iload_n 1, 1) := by decide +kernel
theorem dX12_completion_2 : decode cX12_completion 2 = .ok (.invokevirtual 167, 3) := by decide +kernel
theorem dX12_completion_5 : decode cX12_completion 5 = .ok (.ifCond .eq 12, 3) := by decide +kernel
theorem dX12_completion_8 : decode cX12_completion 8 = .ok (.aload_n 0, 1) := by decide +kernel
theorem dX12_completion_9 : decode cX12_completion 9 = .ok (.getfield 37, 3) := by decide +kernel
theorem dX12_completion_12 : decode cX12_completion 12 = .ok (.iload_n 1, 1) := by decide +kernel
theorem dX12_completion_13 : decode cX12_completion 13 = .ok (.iaload, 1) := by decide +kernel
theorem dX12_completion_14 : decode cX12_completion 14 = .ok (.goto 4, 3) := by decide +kernel
theorem dX12_completion_17 : decode cX12_completion 17 = .ok (.iconst 0, 1) := by decide +kernel
theorem dX12_completion_18 : decode cX12_completion 18 = .ok (.ireturn, 1) := by decide +kernel
theorem dX12_lateness_0 : decode cX12_lateness 0 = .ok (.aload_n 0, 1) := by decide +kernel
theorem dX12_lateness_1 : decode cX12_lateness 1 = .ok (.iload_n 1, 1) := by decide +kernel
theorem dX12_lateness_2 : decode cX12_lateness 2 = .ok (.invokevirtual 167, 3) := by decide +kernel
theorem dX12_lateness_5 : decode cX12_lateness 5 = .ok (.ifCond .eq 19, 3) := by decide +kernel
theorem dX12_lateness_8 : decode cX12_lateness 8 = .ok (.aload_n 0, 1) := by decide +kernel
theorem dX12_lateness_9 : decode cX12_lateness 9 = .ok (.getfield 37, 3) := by decide +kernel
theorem dX12_lateness_12 : decode cX12_lateness 12 = .ok (.iload_n 1, 1) := by decide +kernel
theorem dX12_lateness_13 : decode cX12_lateness 13 = .ok (.iaload, 1) := by decide +kernel
theorem dX12_lateness_14 : decode cX12_lateness 14 = .ok (.aload_n 0, 1) := by decide +kernel
theorem dX12_lateness_15 : decode cX12_lateness 15 = .ok (.getfield 13, 3) := by decide +kernel
theorem dX12_lateness_18 : decode cX12_lateness 18 = .ok (.iload_n 1, 1) := by decide +kernel
theorem dX12_lateness_19 : decode cX12_lateness 19 = .ok (.iaload, 1) := by decide +kernel
theorem dX12_lateness_20 : decode cX12_lateness 20 = .ok (.isub, 1) := by decide +kernel
theorem dX12_lateness_21 : decode cX12_lateness 21 = .ok (.goto 4, 3) := by decide +kernel
theorem dX12_lateness_24 : decode cX12_lateness 24 = .ok (.iconst 0, 1) := by decide +kernel
theorem dX12_lateness_25 : decode cX12_lateness 25 = .ok (.ireturn, 1) := by decide +kernel
theorem dX12_maxLateness_0 : decode cX12_maxLateness 0 = .ok (.aload_n 0, 1) := by decide +kernel
theorem dX12_maxLateness_1 : decode cX12_maxLateness 1 = .ok (.aload_n 0, 1) := by decide +kernel
theorem dX12_maxLateness_2 : decode cX12_maxLateness 2 = .ok (.getfield 70, 3) := by decide +kernel
theorem dX12_maxLateness_5 : decode cX12_maxLateness 5 = .ok (.ifCond .eq 7, 3) := by decide +kernel
theorem dX12_maxLateness_8 : decode cX12_maxLateness 8 = .ok (.iconst 0, 1) := by decide +kernel
theorem dX12_maxLateness_9 : decode cX12_maxLateness 9 = .ok (.goto 4, 3) := by decide +kernel
theorem dX12_maxLateness_12 : decode cX12_maxLateness 12 = .ok (.iconst 1, 1) := by decide +kernel
theorem dX12_maxLateness_13 : decode cX12_maxLateness 13 = .ok (.invokevirtual 84, 3) := by decide +kernel
theorem dX12_maxLateness_16 : decode cX12_maxLateness 16 = .ok (.ifCond .eq 10, 3) := by decide +kernel
theorem dX12_maxLateness_19 : decode cX12_maxLateness 19 = .ok (.aload_n 0, 1) := by decide +kernel
theorem dX12_maxLateness_20 : decode cX12_maxLateness 20 = .ok (.invokevirtual 148, 3) := by decide +kernel
theorem dX12_maxLateness_23 : decode cX12_maxLateness 23 = .ok (.goto 4, 3) := by decide +kernel
theorem dX12_maxLateness_26 : decode cX12_maxLateness 26 = .ok (.iconst 0, 1) := by decide +kernel
theorem dX12_maxLateness_27 : decode cX12_maxLateness 27 = .ok (.ireturn, 1) := by decide +kernel
theorem dX12_lateJobs_0 : decode cX12_lateJobs 0 = .ok (.aload_n 0, 1) := by decide +kernel
theorem dX12_lateJobs_1 : decode cX12_lateJobs 1 = .ok (.aload_n 0, 1) := by decide +kernel
theorem dX12_lateJobs_2 : decode cX12_lateJobs 2 = .ok (.getfield 70, 3) := by decide +kernel
theorem dX12_lateJobs_5 : decode cX12_lateJobs 5 = .ok (.ifCond .eq 7, 3) := by decide +kernel
theorem dX12_lateJobs_8 : decode cX12_lateJobs 8 = .ok (.iconst 0, 1) := by decide +kernel
theorem dX12_lateJobs_9 : decode cX12_lateJobs 9 = .ok (.goto 4, 3) := by decide +kernel
theorem dX12_lateJobs_12 : decode cX12_lateJobs 12 = .ok (.iconst 1, 1) := by decide +kernel
theorem dX12_lateJobs_13 : decode cX12_lateJobs 13 = .ok (.invokevirtual 84, 3) := by decide +kernel
theorem dX12_lateJobs_16 : decode cX12_lateJobs 16 = .ok (.ifCond .eq 11, 3) := by decide +kernel
theorem dX12_lateJobs_19 : decode cX12_lateJobs 19 = .ok (.aload_n 0, 1) := by decide +kernel
theorem dX12_lateJobs_20 : decode cX12_lateJobs 20 = .ok (.iconst 0, 1) := by decide +kernel
theorem dX12_lateJobs_21 : decode cX12_lateJobs 21 = .ok (.invokevirtual 151, 3) := by decide +kernel
theorem dX12_lateJobs_24 : decode cX12_lateJobs 24 = .ok (.goto 4, 3) := by decide +kernel
theorem dX12_lateJobs_27 : decode cX12_lateJobs 27 = .ok (.iconst 0, 1) := by decide +kernel
theorem dX12_lateJobs_28 : decode cX12_lateJobs 28 = .ok (.ireturn, 1) := by decide +kernel
theorem dX12_completions_0 : decode cX12_completions 0 = .ok (.aload_n 0, 1) := by decide +kernel
theorem dX12_completions_1 : decode cX12_completions 1 = .ok (.aload_n 0, 1) := by decide +kernel
theorem dX12_completions_2 : decode cX12_completions 2 = .ok (.getfield 70, 3) := by decide +kernel
theorem dX12_completions_5 : decode cX12_completions 5 = .ok (.ifCond .eq 7, 3) := by decide +kernel
theorem dX12_completions_8 : decode cX12_completions 8 = .ok (.iconst 0, 1) := by decide +kernel
theorem dX12_completions_9 : decode cX12_completions 9 = .ok (.goto 4, 3) := by decide +kernel
theorem dX12_completions_12 : decode cX12_completions 12 = .ok (.iconst 1, 1) := by decide +kernel
theorem dX12_completions_13 : decode cX12_completions 13 = .ok (.invokevirtual 84, 3) := by decide +kernel
theorem dX12_completions_16 : decode cX12_completions 16 = .ok (.ifCond .eq 11, 3) := by decide +kernel
theorem dX12_completions_19 : decode cX12_completions 19 = .ok (.aload_n 0, 1) := by decide +kernel
theorem dX12_completions_20 : decode cX12_completions 20 = .ok (.iconst 1, 1) := by decide +kernel
theorem dX12_completions_21 : decode cX12_completions 21 = .ok (.invokevirtual 151, 3) := by decide +kernel
theorem dX12_completions_24 : decode cX12_completions 24 = .ok (.goto 4, 3) := by decide +kernel
theorem dX12_completions_27 : decode cX12_completions 27 = .ok (.iconst 0, 1) := by decide +kernel
theorem dX12_completions_28 : decode cX12_completions 28 = .ok (.ireturn, 1) := by decide +kernel
theorem dX12_weightedCompletions_0 : decode cX12_weightedCompletions 0 = .ok (.aload_n 0, 1) := by decide +kernel
theorem dX12_weightedCompletions_1 : decode cX12_weightedCompletions 1 = .ok (.aload_n 0, 1) := by decide +kernel
theorem dX12_weightedCompletions_2 : decode cX12_weightedCompletions 2 = .ok (.getfield 70, 3) := by decide +kernel
theorem dX12_weightedCompletions_5 : decode cX12_weightedCompletions 5 = .ok (.ifCond .eq 7, 3) := by decide +kernel
theorem dX12_weightedCompletions_8 : decode cX12_weightedCompletions 8 = .ok (.iconst 0, 1) := by decide +kernel
theorem dX12_weightedCompletions_9 : decode cX12_weightedCompletions 9 = .ok (.goto 4, 3) := by decide +kernel
theorem dX12_weightedCompletions_12 : decode cX12_weightedCompletions 12 = .ok (.iconst 1, 1) := by decide +kernel
theorem dX12_weightedCompletions_13 : decode cX12_weightedCompletions 13 = .ok (.invokevirtual 84, 3) := by decide +kernel
theorem dX12_weightedCompletions_16 : decode cX12_weightedCompletions 16 = .ok (.ifCond .eq 11, 3) := by decide +kernel
theorem dX12_weightedCompletions_19 : decode cX12_weightedCompletions 19 = .ok (.aload_n 0, 1) := by decide +kernel
theorem dX12_weightedCompletions_20 : decode cX12_weightedCompletions 20 = .ok (.iconst 2, 1) := by decide +kernel
theorem dX12_weightedCompletions_21 : decode cX12_weightedCompletions 21 = .ok (.invokevirtual 151, 3) := by decide +kernel
theorem dX12_weightedCompletions_24 : decode cX12_weightedCompletions 24 = .ok (.goto 4, 3) := by decide +kernel
theorem dX12_weightedCompletions_27 : decode cX12_weightedCompletions 27 = .ok (.iconst 0, 1) := by decide +kernel
theorem dX12_weightedCompletions_28 : decode cX12_weightedCompletions 28 = .ok (.ireturn, 1) := by decide +kernel
theorem dX12_weightedTardiness_0 : decode cX12_weightedTardiness 0 = .ok (.aload_n 0, 1) := by decide +kernel
theorem dX12_weightedTardiness_1 : decode cX12_weightedTardiness 1 = .ok (.aload_n 0, 1) := by decide +kernel
theorem dX12_weightedTardiness_2 : decode cX12_weightedTardiness 2 = .ok (.getfield 70, 3) := by decide +kernel
theorem dX12_weightedTardiness_5 : decode cX12_weightedTardiness 5 = .ok (.ifCond .eq 7, 3) := by decide +kernel
theorem dX12_weightedTardiness_8 : decode cX12_weightedTardiness 8 = .ok (.iconst 0, 1) := by decide +kernel
theorem dX12_weightedTardiness_9 : decode cX12_weightedTardiness 9 = .ok (.goto 4, 3) := by decide +kernel
theorem dX12_weightedTardiness_12 : decode cX12_weightedTardiness 12 = .ok (.iconst 1, 1) := by decide +kernel
theorem dX12_weightedTardiness_13 : decode cX12_weightedTardiness 13 = .ok (.invokevirtual 84, 3) := by decide +kernel
theorem dX12_weightedTardiness_16 : decode cX12_weightedTardiness 16 = .ok (.ifCond .eq 11, 3) := by decide +kernel
theorem dX12_weightedTardiness_19 : decode cX12_weightedTardiness 19 = .ok (.aload_n 0, 1) := by decide +kernel
theorem dX12_weightedTardiness_20 : decode cX12_weightedTardiness 20 = .ok (.iconst 3, 1) := by decide +kernel
theorem dX12_weightedTardiness_21 : decode cX12_weightedTardiness 21 = .ok (.invokevirtual 151, 3) := by decide +kernel
theorem dX12_weightedTardiness_24 : decode cX12_weightedTardiness 24 = .ok (.goto 4, 3) := by decide +kernel
theorem dX12_weightedTardiness_27 : decode cX12_weightedTardiness 27 = .ok (.iconst 0, 1) := by decide +kernel
theorem dX12_weightedTardiness_28 : decode cX12_weightedTardiness 28 = .ok (.ireturn, 1) := by decide +kernel
theorem dX12_areFew_0 : decode cX12_areFew 0 = .ok (.aload_n 0, 1) := by decide +kernel
theorem dX12_areFew_1 : decode cX12_areFew 1 = .ok (.aload_n 0, 1) := by decide +kernel
theorem dX12_areFew_2 : decode cX12_areFew 2 = .ok (.getfield 63, 3) := by decide +kernel
theorem dX12_areFew_5 : decode cX12_areFew 5 = .ok (.ifCond .eq 12, 3) := by decide +kernel
theorem dX12_areFew_8 : decode cX12_areFew 8 = .ok (.aload_n 0, 1) := by decide +kernel
theorem dX12_areFew_9 : decode cX12_areFew 9 = .ok (.getfield 63, 3) := by decide +kernel
theorem dX12_areFew_12 : decode cX12_areFew 12 = .ok (.bipush 7, 2) := by decide +kernel
theorem dX12_areFew_14 : decode cX12_areFew 14 = .ok (.if_icmp .le 7, 3) := by decide +kernel
theorem dX12_areFew_17 : decode cX12_areFew 17 = .ok (.iconst 1, 1) := by decide +kernel
theorem dX12_areFew_18 : decode cX12_areFew 18 = .ok (.goto 4, 3) := by decide +kernel
theorem dX12_areFew_21 : decode cX12_areFew 21 = .ok (.iconst 0, 1) := by decide +kernel
theorem dX12_areFew_22 : decode cX12_areFew 22 = .ok (.invokevirtual 84, 3) := by decide +kernel
theorem dX12_areFew_25 : decode cX12_areFew 25 = .ok (.ireturn, 1) := by decide +kernel
theorem dX12_leastBy_0 : decode cX12_leastBy 0 = .ok (.aload_n 0, 1) := by decide +kernel
theorem dX12_leastBy_1 : decode cX12_leastBy 1 = .ok (.iload_n 1, 1) := by decide +kernel
theorem dX12_leastBy_2 : decode cX12_leastBy 2 = .ok (.invokevirtual 154, 3) := by decide +kernel
theorem dX12_leastBy_5 : decode cX12_leastBy 5 = .ok (.aload_n 0, 1) := by decide +kernel
theorem dX12_leastBy_6 : decode cX12_leastBy 6 = .ok (.getfield 46, 3) := by decide +kernel
theorem dX12_leastBy_9 : decode cX12_leastBy 9 = .ok (.iconst 0, 1) := by decide +kernel
theorem dX12_leastBy_10 : decode cX12_leastBy 10 = .ok (.iaload, 1) := by decide +kernel
theorem dX12_leastBy_11 : decode cX12_leastBy 11 = .ok (.ireturn, 1) := by decide +kernel
theorem dX12_leastLateness_0 : decode cX12_leastLateness 0 = .ok (.aload_n 0, 1) := by decide +kernel
theorem dX12_leastLateness_1 : decode cX12_leastLateness 1 = .ok (.invokevirtual 170, 3) := by decide +kernel
theorem dX12_leastLateness_4 : decode cX12_leastLateness 4 = .ok (.ifCond .eq 11, 3) := by decide +kernel
theorem dX12_leastLateness_7 : decode cX12_leastLateness 7 = .ok (.aload_n 0, 1) := by decide +kernel
theorem dX12_leastLateness_8 : decode cX12_leastLateness 8 = .ok (.iconst 0, 1) := by decide +kernel
theorem dX12_leastLateness_9 : decode cX12_leastLateness 9 = .ok (.invokevirtual 173, 3) := by decide +kernel
theorem dX12_leastLateness_12 : decode cX12_leastLateness 12 = .ok (.goto 4, 3) := by decide +kernel
theorem dX12_leastLateness_15 : decode cX12_leastLateness 15 = .ok (.iconst 0, 1) := by decide +kernel
theorem dX12_leastLateness_16 : decode cX12_leastLateness 16 = .ok (.ireturn, 1) := by decide +kernel
theorem dX12_leastCompletions_0 : decode cX12_leastCompletions 0 = .ok (.aload_n 0, 1) := by decide +kernel
theorem dX12_leastCompletions_1 : decode cX12_leastCompletions 1 = .ok (.invokevirtual 170, 3) := by decide +kernel
theorem dX12_leastCompletions_4 : decode cX12_leastCompletions 4 = .ok (.ifCond .eq 11, 3) := by decide +kernel
theorem dX12_leastCompletions_7 : decode cX12_leastCompletions 7 = .ok (.aload_n 0, 1) := by decide +kernel
theorem dX12_leastCompletions_8 : decode cX12_leastCompletions 8 = .ok (.iconst 1, 1) := by decide +kernel
theorem dX12_leastCompletions_9 : decode cX12_leastCompletions 9 = .ok (.invokevirtual 173, 3) := by decide +kernel
theorem dX12_leastCompletions_12 : decode cX12_leastCompletions 12 = .ok (.goto 4, 3) := by decide +kernel
theorem dX12_leastCompletions_15 : decode cX12_leastCompletions 15 = .ok (.iconst 0, 1) := by decide +kernel
theorem dX12_leastCompletions_16 : decode cX12_leastCompletions 16 = .ok (.ireturn, 1) := by decide +kernel
theorem dX12_leastTardiness_0 : decode cX12_leastTardiness 0 = .ok (.aload_n 0, 1) := by decide +kernel
theorem dX12_leastTardiness_1 : decode cX12_leastTardiness 1 = .ok (.invokevirtual 170, 3) := by decide +kernel
theorem dX12_leastTardiness_4 : decode cX12_leastTardiness 4 = .ok (.ifCond .eq 11, 3) := by decide +kernel
theorem dX12_leastTardiness_7 : decode cX12_leastTardiness 7 = .ok (.aload_n 0, 1) := by decide +kernel
theorem dX12_leastTardiness_8 : decode cX12_leastTardiness 8 = .ok (.iconst 2, 1) := by decide +kernel
theorem dX12_leastTardiness_9 : decode cX12_leastTardiness 9 = .ok (.invokevirtual 173, 3) := by decide +kernel
theorem dX12_leastTardiness_12 : decode cX12_leastTardiness 12 = .ok (.goto 4, 3) := by decide +kernel
theorem dX12_leastTardiness_15 : decode cX12_leastTardiness 15 = .ok (.iconst 0, 1) := by decide +kernel
theorem dX12_leastTardiness_16 : decode cX12_leastTardiness 16 = .ok (.ireturn, 1) := by decide +kernel
theorem dX12_leastWithSetups_0 : decode cX12_leastWithSetups 0 = .ok (.aload_n 0, 1) := by decide +kernel
theorem dX12_leastWithSetups_1 : decode cX12_leastWithSetups 1 = .ok (.invokevirtual 170, 3) := by decide +kernel
theorem dX12_leastWithSetups_4 : decode cX12_leastWithSetups 4 = .ok (.ifCond .ne 5, 3) := by decide +kernel
theorem dX12_leastWithSetups_7 : decode cX12_leastWithSetups 7 = .ok (.iconst 0, 1) := by decide +kernel
theorem dX12_leastWithSetups_8 : decode cX12_leastWithSetups 8 = .ok (.ireturn, 1) := by decide +kernel
theorem dX12_leastWithSetups_9 : decode cX12_leastWithSetups 9 = .ok (.aload_n 0, 1) := by decide +kernel
theorem dX12_leastWithSetups_10 : decode cX12_leastWithSetups 10 = .ok (.iconst 0, 1) := by decide +kernel
theorem dX12_leastWithSetups_11 : decode cX12_leastWithSetups 11 = .ok (.invokevirtual 158, 3) := by decide +kernel
theorem dX12_leastWithSetups_14 : decode cX12_leastWithSetups 14 = .ok (.aload_n 0, 1) := by decide +kernel
theorem dX12_leastWithSetups_15 : decode cX12_leastWithSetups 15 = .ok (.getfield 49, 3) := by decide +kernel
theorem dX12_leastWithSetups_18 : decode cX12_leastWithSetups 18 = .ok (.iconst 4, 1) := by decide +kernel
theorem dX12_leastWithSetups_19 : decode cX12_leastWithSetups 19 = .ok (.iaload, 1) := by decide +kernel
theorem dX12_leastWithSetups_20 : decode cX12_leastWithSetups 20 = .ok (.ireturn, 1) := by decide +kernel
theorem dX12_takes_0 : decode cX12_takes 0 = .ok (.aload_n 0, 1) := by decide +kernel
theorem dX12_takes_1 : decode cX12_takes 1 = .ok (.getfield 19, 3) := by decide +kernel
theorem dX12_takes_4 : decode cX12_takes 4 = .ok (.iload_n 1, 1) := by decide +kernel
theorem dX12_takes_5 : decode cX12_takes 5 = .ok (.iaload, 1) := by decide +kernel
theorem dX12_takes_6 : decode cX12_takes 6 = .ok (.istore_n 2, 1) := by decide +kernel
theorem dX12_takes_7 : decode cX12_takes 7 = .ok (.aload_n 0, 1) := by decide +kernel
theorem dX12_takes_8 : decode cX12_takes 8 = .ok (.getfield 7, 3) := by decide +kernel
theorem dX12_takes_11 : decode cX12_takes 11 = .ok (.iload_n 1, 1) := by decide +kernel
theorem dX12_takes_12 : decode cX12_takes 12 = .ok (.iaload, 1) := by decide +kernel
theorem dX12_takes_13 : decode cX12_takes 13 = .ok (.istore_n 3, 1) := by decide +kernel
theorem dX12_takes_14 : decode cX12_takes 14 = .ok (.iload_n 3, 1) := by decide +kernel
theorem dX12_takes_15 : decode cX12_takes 15 = .ok (.ifCond .le 33, 3) := by decide +kernel
theorem dX12_takes_18 : decode cX12_takes 18 = .ok (.iload_n 3, 1) := by decide +kernel
theorem dX12_takes_19 : decode cX12_takes 19 = .ok (.aload_n 0, 1) := by decide +kernel
theorem dX12_takes_20 : decode cX12_takes 20 = .ok (.getfield 55, 3) := by decide +kernel
theorem dX12_takes_23 : decode cX12_takes 23 = .ok (.iload_n 2, 1) := by decide +kernel
theorem dX12_takes_24 : decode cX12_takes 24 = .ok (.baload, 1) := by decide +kernel
theorem dX12_takes_25 : decode cX12_takes 25 = .ok (.ifCond .eq 7, 3) := by decide +kernel
theorem dX12_takes_28 : decode cX12_takes 28 = .ok (.iconst 0, 1) := by decide +kernel
theorem dX12_takes_29 : decode cX12_takes 29 = .ok (.goto 4, 3) := by decide +kernel
theorem dX12_takes_32 : decode cX12_takes 32 = .ok (.iconst 1, 1) := by decide +kernel
theorem dX12_takes_33 : decode cX12_takes 33 = .ok (.isub, 1) := by decide +kernel
theorem dX12_takes_34 : decode cX12_takes 34 = .ok (.istore_n 3, 1) := by decide +kernel
theorem dX12_takes_35 : decode cX12_takes 35 = .ok (.aload_n 0, 1) := by decide +kernel
theorem dX12_takes_36 : decode cX12_takes 36 = .ok (.getfield 55, 3) := by decide +kernel
theorem dX12_takes_39 : decode cX12_takes 39 = .ok (.iload_n 2, 1) := by decide +kernel
theorem dX12_takes_40 : decode cX12_takes 40 = .ok (.iconst 1, 1) := by decide +kernel
theorem dX12_takes_41 : decode cX12_takes 41 = .ok (.bastore, 1) := by decide +kernel
theorem dX12_takes_42 : decode cX12_takes 42 = .ok (.iinc 2 1, 3) := by decide +kernel
theorem dX12_takes_45 : decode cX12_takes 45 = .ok (.goto (-31), 3) := by decide +kernel
theorem dX12_takes_48 : decode cX12_takes 48 = .ok (.iload_n 2, 1) := by decide +kernel
theorem dX12_takes_49 : decode cX12_takes 49 = .ok (.ireturn, 1) := by decide +kernel
theorem dX12_worth_0 : decode cX12_worth 0 = .ok (.iconst 0, 1) := by decide +kernel
theorem dX12_worth_1 : decode cX12_worth 1 = .ok (.istore_n 2, 1) := by decide +kernel
theorem dX12_worth_2 : decode cX12_worth 2 = .ok (.iload_n 2, 1) := by decide +kernel
theorem dX12_worth_3 : decode cX12_worth 3 = .ok (.sipush 512, 3) := by decide +kernel
theorem dX12_worth_6 : decode cX12_worth 6 = .ok (.if_icmp .ge 16, 3) := by decide +kernel
theorem dX12_worth_9 : decode cX12_worth 9 = .ok (.aload_n 0, 1) := by decide +kernel
theorem dX12_worth_10 : decode cX12_worth 10 = .ok (.getfield 55, 3) := by decide +kernel
theorem dX12_worth_13 : decode cX12_worth 13 = .ok (.iload_n 2, 1) := by decide +kernel
theorem dX12_worth_14 : decode cX12_worth 14 = .ok (.iconst 0, 1) := by decide +kernel
theorem dX12_worth_15 : decode cX12_worth 15 = .ok (.bastore, 1) := by decide +kernel
theorem dX12_worth_16 : decode cX12_worth 16 = .ok (.iinc 2 1, 3) := by decide +kernel
theorem dX12_worth_19 : decode cX12_worth 19 = .ok (.goto (-17), 3) := by decide +kernel
theorem dX12_worth_22 : decode cX12_worth 22 = .ok (.ldc 111, 2) := by decide +kernel
theorem dX12_worth_24 : decode cX12_worth 24 = .ok (.istore_n 2, 1) := by decide +kernel
theorem dX12_worth_25 : decode cX12_worth 25 = .ok (.iconst 0, 1) := by decide +kernel
theorem dX12_worth_26 : decode cX12_worth 26 = .ok (.istore_n 3, 1) := by decide +kernel
theorem dX12_worth_27 : decode cX12_worth 27 = .ok (.iconst 0, 1) := by decide +kernel
theorem dX12_worth_28 : decode cX12_worth 28 = .ok (.istore 4, 2) := by decide +kernel
theorem dX12_worth_30 : decode cX12_worth 30 = .ok (.iload 4, 2) := by decide +kernel
theorem dX12_worth_32 : decode cX12_worth 32 = .ok (.aload_n 0, 1) := by decide +kernel
theorem dX12_worth_33 : decode cX12_worth 33 = .ok (.getfield 63, 3) := by decide +kernel
theorem dX12_worth_36 : decode cX12_worth 36 = .ok (.if_icmp .ge 66, 3) := by decide +kernel
theorem dX12_worth_39 : decode cX12_worth 39 = .ok (.aload_n 0, 1) := by decide +kernel
theorem dX12_worth_40 : decode cX12_worth 40 = .ok (.aload_n 0, 1) := by decide +kernel
theorem dX12_worth_41 : decode cX12_worth 41 = .ok (.getfield 40, 3) := by decide +kernel
theorem dX12_worth_44 : decode cX12_worth 44 = .ok (.iload 4, 2) := by decide +kernel
theorem dX12_worth_46 : decode cX12_worth 46 = .ok (.iaload, 1) := by decide +kernel
theorem dX12_worth_47 : decode cX12_worth 47 = .ok (.invokevirtual 176, 3) := by decide +kernel
theorem dX12_worth_50 : decode cX12_worth 50 = .ok (.istore 5, 2) := by decide +kernel
theorem dX12_worth_52 : decode cX12_worth 52 = .ok (.iload 5, 2) := by decide +kernel
theorem dX12_worth_54 : decode cX12_worth 54 = .ok (.aload_n 0, 1) := by decide +kernel
theorem dX12_worth_55 : decode cX12_worth 55 = .ok (.getfield 13, 3) := by decide +kernel
theorem dX12_worth_58 : decode cX12_worth 58 = .ok (.aload_n 0, 1) := by decide +kernel
theorem dX12_worth_59 : decode cX12_worth 59 = .ok (.getfield 40, 3) := by decide +kernel
theorem dX12_worth_62 : decode cX12_worth 62 = .ok (.iload 4, 2) := by decide +kernel
theorem dX12_worth_64 : decode cX12_worth 64 = .ok (.iaload, 1) := by decide +kernel
theorem dX12_worth_65 : decode cX12_worth 65 = .ok (.iaload, 1) := by decide +kernel
theorem dX12_worth_66 : decode cX12_worth 66 = .ok (.isub, 1) := by decide +kernel
theorem dX12_worth_67 : decode cX12_worth 67 = .ok (.iload_n 2, 1) := by decide +kernel
theorem dX12_worth_68 : decode cX12_worth 68 = .ok (.if_icmp .le 21, 3) := by decide +kernel
theorem dX12_worth_71 : decode cX12_worth 71 = .ok (.iload 5, 2) := by decide +kernel
theorem dX12_worth_73 : decode cX12_worth 73 = .ok (.aload_n 0, 1) := by decide +kernel
theorem dX12_worth_74 : decode cX12_worth 74 = .ok (.getfield 13, 3) := by decide +kernel
theorem dX12_worth_77 : decode cX12_worth 77 = .ok (.aload_n 0, 1) := by decide +kernel
theorem dX12_worth_78 : decode cX12_worth 78 = .ok (.getfield 40, 3) := by decide +kernel
theorem dX12_worth_81 : decode cX12_worth 81 = .ok (.iload 4, 2) := by decide +kernel
theorem dX12_worth_83 : decode cX12_worth 83 = .ok (.iaload, 1) := by decide +kernel
theorem dX12_worth_84 : decode cX12_worth 84 = .ok (.iaload, 1) := by decide +kernel
theorem dX12_worth_85 : decode cX12_worth 85 = .ok (.isub, 1) := by decide +kernel
theorem dX12_worth_86 : decode cX12_worth 86 = .ok (.goto 4, 3) := by decide +kernel
theorem dX12_worth_89 : decode cX12_worth 89 = .ok (.iload_n 2, 1) := by decide +kernel
theorem dX12_worth_90 : decode cX12_worth 90 = .ok (.istore_n 2, 1) := by decide +kernel
theorem dX12_worth_91 : decode cX12_worth 91 = .ok (.iload_n 3, 1) := by decide +kernel
theorem dX12_worth_92 : decode cX12_worth 92 = .ok (.iload 5, 2) := by decide +kernel
theorem dX12_worth_94 : decode cX12_worth 94 = .ok (.iadd, 1) := by decide +kernel
theorem dX12_worth_95 : decode cX12_worth 95 = .ok (.istore_n 3, 1) := by decide +kernel
theorem dX12_worth_96 : decode cX12_worth 96 = .ok (.iinc 4 1, 3) := by decide +kernel
theorem dX12_worth_99 : decode cX12_worth 99 = .ok (.goto (-69), 3) := by decide +kernel
theorem dX12_worth_102 : decode cX12_worth 102 = .ok (.iload_n 1, 1) := by decide +kernel
theorem dX12_worth_103 : decode cX12_worth 103 = .ok (.ifCond .ne 7, 3) := by decide +kernel
theorem dX12_worth_106 : decode cX12_worth 106 = .ok (.iload_n 2, 1) := by decide +kernel
theorem dX12_worth_107 : decode cX12_worth 107 = .ok (.goto 4, 3) := by decide +kernel
theorem dX12_worth_110 : decode cX12_worth 110 = .ok (.iload_n 3, 1) := by decide +kernel
theorem dX12_worth_111 : decode cX12_worth 111 = .ok (.ireturn, 1) := by decide +kernel
theorem dX12_leastOfPriorities_0 : decode cX12_leastOfPriorities 0 = .ok (.iconst 1, 1) := by decide +kernel
theorem dX12_leastOfPriorities_1 : decode cX12_leastOfPriorities 1 = .ok (.istore_n 2, 1) := by decide +kernel
theorem dX12_leastOfPriorities_2 : decode cX12_leastOfPriorities 2 = .ok (.iconst 2, 1) := by decide +kernel
theorem dX12_leastOfPriorities_3 : decode cX12_leastOfPriorities 3 = .ok (.istore_n 3, 1) := by decide +kernel
theorem dX12_leastOfPriorities_4 : decode cX12_leastOfPriorities 4 = .ok (.iload_n 3, 1) := by decide +kernel
theorem dX12_leastOfPriorities_5 : decode cX12_leastOfPriorities 5 = .ok (.aload_n 0, 1) := by decide +kernel
theorem dX12_leastOfPriorities_6 : decode cX12_leastOfPriorities 6 = .ok (.getfield 63, 3) := by decide +kernel
theorem dX12_leastOfPriorities_9 : decode cX12_leastOfPriorities 9 = .ok (.if_icmp .gt 13, 3) := by decide +kernel
theorem dX12_leastOfPriorities_12 : decode cX12_leastOfPriorities 12 = .ok (.iload_n 2, 1) := by decide +kernel
theorem dX12_leastOfPriorities_13 : decode cX12_leastOfPriorities 13 = .ok (.iload_n 3, 1) := by decide +kernel
theorem dX12_leastOfPriorities_14 : decode cX12_leastOfPriorities 14 = .ok (.imul, 1) := by decide +kernel
theorem dX12_leastOfPriorities_15 : decode cX12_leastOfPriorities 15 = .ok (.istore_n 2, 1) := by decide +kernel
theorem dX12_leastOfPriorities_16 : decode cX12_leastOfPriorities 16 = .ok (.iinc 3 1, 3) := by decide +kernel
theorem dX12_leastOfPriorities_19 : decode cX12_leastOfPriorities 19 = .ok (.goto (-15), 3) := by decide +kernel
theorem dX12_leastOfPriorities_22 : decode cX12_leastOfPriorities 22 = .ok (.ldc 110, 2) := by decide +kernel
theorem dX12_leastOfPriorities_24 : decode cX12_leastOfPriorities 24 = .ok (.istore_n 3, 1) := by decide +kernel
theorem dX12_leastOfPriorities_25 : decode cX12_leastOfPriorities 25 = .ok (.iconst 0, 1) := by decide +kernel
theorem dX12_leastOfPriorities_26 : decode cX12_leastOfPriorities 26 = .ok (.istore 4, 2) := by decide +kernel
theorem dX12_leastOfPriorities_28 : decode cX12_leastOfPriorities 28 = .ok (.iload 4, 2) := by decide +kernel
theorem dX12_leastOfPriorities_30 : decode cX12_leastOfPriorities 30 = .ok (.iload_n 2, 1) := by decide +kernel
theorem dX12_leastOfPriorities_31 : decode cX12_leastOfPriorities 31 = .ok (.if_icmp .ge 142, 3) := by decide +kernel
theorem dX12_leastOfPriorities_34 : decode cX12_leastOfPriorities 34 = .ok (.iload 4, 2) := by decide +kernel
theorem dX12_leastOfPriorities_36 : decode cX12_leastOfPriorities 36 = .ok (.istore 5, 2) := by decide +kernel
theorem dX12_leastOfPriorities_38 : decode cX12_leastOfPriorities 38 = .ok (.iconst 0, 1) := by decide +kernel
theorem dX12_leastOfPriorities_39 : decode cX12_leastOfPriorities 39 = .ok (.istore 6, 2) := by decide +kernel
theorem dX12_leastOfPriorities_41 : decode cX12_leastOfPriorities 41 = .ok (.iconst 0, 1) := by decide +kernel
theorem dX12_leastOfPriorities_42 : decode cX12_leastOfPriorities 42 = .ok (.istore 7, 2) := by decide +kernel
theorem dX12_leastOfPriorities_44 : decode cX12_leastOfPriorities 44 = .ok (.iload 7, 2) := by decide +kernel
theorem dX12_leastOfPriorities_46 : decode cX12_leastOfPriorities 46 = .ok (.aload_n 0, 1) := by decide +kernel
theorem dX12_leastOfPriorities_47 : decode cX12_leastOfPriorities 47 = .ok (.getfield 63, 3) := by decide +kernel
theorem dX12_leastOfPriorities_50 : decode cX12_leastOfPriorities 50 = .ok (.if_icmp .ge 97, 3) := by decide +kernel
theorem dX12_leastOfPriorities_53 : decode cX12_leastOfPriorities 53 = .ok (.iload 5, 2) := by decide +kernel
theorem dX12_leastOfPriorities_55 : decode cX12_leastOfPriorities 55 = .ok (.aload_n 0, 1) := by decide +kernel
theorem dX12_leastOfPriorities_56 : decode cX12_leastOfPriorities 56 = .ok (.getfield 63, 3) := by decide +kernel
theorem dX12_leastOfPriorities_59 : decode cX12_leastOfPriorities 59 = .ok (.iload 7, 2) := by decide +kernel
theorem dX12_leastOfPriorities_61 : decode cX12_leastOfPriorities 61 = .ok (.isub, 1) := by decide +kernel
theorem dX12_leastOfPriorities_62 : decode cX12_leastOfPriorities 62 = .ok (.irem, 1) := by decide +kernel
theorem dX12_leastOfPriorities_63 : decode cX12_leastOfPriorities 63 = .ok (.istore 8, 2) := by decide +kernel
theorem dX12_leastOfPriorities_65 : decode cX12_leastOfPriorities 65 = .ok (.iload 5, 2) := by decide +kernel
theorem dX12_leastOfPriorities_67 : decode cX12_leastOfPriorities 67 = .ok (.aload_n 0, 1) := by decide +kernel
theorem dX12_leastOfPriorities_68 : decode cX12_leastOfPriorities 68 = .ok (.getfield 63, 3) := by decide +kernel
theorem dX12_leastOfPriorities_71 : decode cX12_leastOfPriorities 71 = .ok (.iload 7, 2) := by decide +kernel
theorem dX12_leastOfPriorities_73 : decode cX12_leastOfPriorities 73 = .ok (.isub, 1) := by decide +kernel
theorem dX12_leastOfPriorities_74 : decode cX12_leastOfPriorities 74 = .ok (.idiv, 1) := by decide +kernel
theorem dX12_leastOfPriorities_75 : decode cX12_leastOfPriorities 75 = .ok (.istore 5, 2) := by decide +kernel
theorem dX12_leastOfPriorities_77 : decode cX12_leastOfPriorities 77 = .ok (.iconst 0, 1) := by decide +kernel
theorem dX12_leastOfPriorities_78 : decode cX12_leastOfPriorities 78 = .ok (.istore 9, 2) := by decide +kernel
theorem dX12_leastOfPriorities_80 : decode cX12_leastOfPriorities 80 = .ok (.iload 6, 2) := by decide +kernel
theorem dX12_leastOfPriorities_82 : decode cX12_leastOfPriorities 82 = .ok (.iload 9, 2) := by decide +kernel
theorem dX12_leastOfPriorities_84 : decode cX12_leastOfPriorities 84 = .ok (.ishr, 1) := by decide +kernel
theorem dX12_leastOfPriorities_85 : decode cX12_leastOfPriorities 85 = .ok (.iconst 1, 1) := by decide +kernel
theorem dX12_leastOfPriorities_86 : decode cX12_leastOfPriorities 86 = .ok (.iand, 1) := by decide +kernel
theorem dX12_leastOfPriorities_87 : decode cX12_leastOfPriorities 87 = .ok (.iconst 1, 1) := by decide +kernel
theorem dX12_leastOfPriorities_88 : decode cX12_leastOfPriorities 88 = .ok (.if_icmp .eq 8, 3) := by decide +kernel
theorem dX12_leastOfPriorities_91 : decode cX12_leastOfPriorities 91 = .ok (.iload 8, 2) := by decide +kernel
theorem dX12_leastOfPriorities_93 : decode cX12_leastOfPriorities 93 = .ok (.ifCond .le 30, 3) := by decide +kernel
theorem dX12_leastOfPriorities_96 : decode cX12_leastOfPriorities 96 = .ok (.iload 8, 2) := by decide +kernel
theorem dX12_leastOfPriorities_98 : decode cX12_leastOfPriorities 98 = .ok (.iload 6, 2) := by decide +kernel
theorem dX12_leastOfPriorities_100 : decode cX12_leastOfPriorities 100 = .ok (.iload 9, 2) := by decide +kernel
theorem dX12_leastOfPriorities_102 : decode cX12_leastOfPriorities 102 = .ok (.ishr, 1) := by decide +kernel
theorem dX12_leastOfPriorities_103 : decode cX12_leastOfPriorities 103 = .ok (.iconst 1, 1) := by decide +kernel
theorem dX12_leastOfPriorities_104 : decode cX12_leastOfPriorities 104 = .ok (.iand, 1) := by decide +kernel
theorem dX12_leastOfPriorities_105 : decode cX12_leastOfPriorities 105 = .ok (.iconst 1, 1) := by decide +kernel
theorem dX12_leastOfPriorities_106 : decode cX12_leastOfPriorities 106 = .ok (.if_icmp .ne 7, 3) := by decide +kernel
theorem dX12_leastOfPriorities_109 : decode cX12_leastOfPriorities 109 = .ok (.iconst 0, 1) := by decide +kernel
theorem dX12_leastOfPriorities_110 : decode cX12_leastOfPriorities 110 = .ok (.goto 4, 3) := by decide +kernel
theorem dX12_leastOfPriorities_113 : decode cX12_leastOfPriorities 113 = .ok (.iconst 1, 1) := by decide +kernel
theorem dX12_leastOfPriorities_114 : decode cX12_leastOfPriorities 114 = .ok (.isub, 1) := by decide +kernel
theorem dX12_leastOfPriorities_115 : decode cX12_leastOfPriorities 115 = .ok (.istore 8, 2) := by decide +kernel
theorem dX12_leastOfPriorities_117 : decode cX12_leastOfPriorities 117 = .ok (.iinc 9 1, 3) := by decide +kernel
theorem dX12_leastOfPriorities_120 : decode cX12_leastOfPriorities 120 = .ok (.goto (-40), 3) := by decide +kernel
theorem dX12_leastOfPriorities_123 : decode cX12_leastOfPriorities 123 = .ok (.aload_n 0, 1) := by decide +kernel
theorem dX12_leastOfPriorities_124 : decode cX12_leastOfPriorities 124 = .ok (.getfield 40, 3) := by decide +kernel
theorem dX12_leastOfPriorities_127 : decode cX12_leastOfPriorities 127 = .ok (.iload 7, 2) := by decide +kernel
theorem dX12_leastOfPriorities_129 : decode cX12_leastOfPriorities 129 = .ok (.iload 9, 2) := by decide +kernel
theorem dX12_leastOfPriorities_131 : decode cX12_leastOfPriorities 131 = .ok (.iastore, 1) := by decide +kernel
theorem dX12_leastOfPriorities_132 : decode cX12_leastOfPriorities 132 = .ok (.iload 6, 2) := by decide +kernel
theorem dX12_leastOfPriorities_134 : decode cX12_leastOfPriorities 134 = .ok (.iconst 1, 1) := by decide +kernel
theorem dX12_leastOfPriorities_135 : decode cX12_leastOfPriorities 135 = .ok (.iload 9, 2) := by decide +kernel
theorem dX12_leastOfPriorities_137 : decode cX12_leastOfPriorities 137 = .ok (.ishl, 1) := by decide +kernel
theorem dX12_leastOfPriorities_138 : decode cX12_leastOfPriorities 138 = .ok (.ior, 1) := by decide +kernel
theorem dX12_leastOfPriorities_139 : decode cX12_leastOfPriorities 139 = .ok (.istore 6, 2) := by decide +kernel
theorem dX12_leastOfPriorities_141 : decode cX12_leastOfPriorities 141 = .ok (.iinc 7 1, 3) := by decide +kernel
theorem dX12_leastOfPriorities_144 : decode cX12_leastOfPriorities 144 = .ok (.goto (-100), 3) := by decide +kernel
theorem dX12_leastOfPriorities_147 : decode cX12_leastOfPriorities 147 = .ok (.aload_n 0, 1) := by decide +kernel
theorem dX12_leastOfPriorities_148 : decode cX12_leastOfPriorities 148 = .ok (.iload_n 1, 1) := by decide +kernel
theorem dX12_leastOfPriorities_149 : decode cX12_leastOfPriorities 149 = .ok (.invokevirtual 179, 3) := by decide +kernel
theorem dX12_leastOfPriorities_152 : decode cX12_leastOfPriorities 152 = .ok (.istore 7, 2) := by decide +kernel
theorem dX12_leastOfPriorities_154 : decode cX12_leastOfPriorities 154 = .ok (.iload 7, 2) := by decide +kernel
theorem dX12_leastOfPriorities_156 : decode cX12_leastOfPriorities 156 = .ok (.iload_n 3, 1) := by decide +kernel
theorem dX12_leastOfPriorities_157 : decode cX12_leastOfPriorities 157 = .ok (.if_icmp .ge 8, 3) := by decide +kernel
theorem dX12_leastOfPriorities_160 : decode cX12_leastOfPriorities 160 = .ok (.iload 7, 2) := by decide +kernel
theorem dX12_leastOfPriorities_162 : decode cX12_leastOfPriorities 162 = .ok (.goto 4, 3) := by decide +kernel
theorem dX12_leastOfPriorities_165 : decode cX12_leastOfPriorities 165 = .ok (.iload_n 3, 1) := by decide +kernel
theorem dX12_leastOfPriorities_166 : decode cX12_leastOfPriorities 166 = .ok (.istore_n 3, 1) := by decide +kernel
theorem dX12_leastOfPriorities_167 : decode cX12_leastOfPriorities 167 = .ok (.iinc 4 1, 3) := by decide +kernel
theorem dX12_leastOfPriorities_170 : decode cX12_leastOfPriorities 170 = .ok (.goto (-142), 3) := by decide +kernel
theorem dX12_leastOfPriorities_173 : decode cX12_leastOfPriorities 173 = .ok (.iload_n 3, 1) := by decide +kernel
theorem dX12_leastOfPriorities_174 : decode cX12_leastOfPriorities 174 = .ok (.ireturn, 1) := by decide +kernel
theorem dX12_leastPreemptiveLateness_0 : decode cX12_leastPreemptiveLateness 0 = .ok (.aload_n 0, 1) := by decide +kernel
theorem dX12_leastPreemptiveLateness_1 : decode cX12_leastPreemptiveLateness 1 = .ok (.invokevirtual 170, 3) := by decide +kernel
theorem dX12_leastPreemptiveLateness_4 : decode cX12_leastPreemptiveLateness 4 = .ok (.ifCond .eq 11, 3) := by decide +kernel
theorem dX12_leastPreemptiveLateness_7 : decode cX12_leastPreemptiveLateness 7 = .ok (.aload_n 0, 1) := by decide +kernel
theorem dX12_leastPreemptiveLateness_8 : decode cX12_leastPreemptiveLateness 8 = .ok (.iconst 0, 1) := by decide +kernel
theorem dX12_leastPreemptiveLateness_9 : decode cX12_leastPreemptiveLateness 9 = .ok (.invokevirtual 182, 3) := by decide +kernel
theorem dX12_leastPreemptiveLateness_12 : decode cX12_leastPreemptiveLateness 12 = .ok (.goto 4, 3) := by decide +kernel
theorem dX12_leastPreemptiveLateness_15 : decode cX12_leastPreemptiveLateness 15 = .ok (.iconst 0, 1) := by decide +kernel
theorem dX12_leastPreemptiveLateness_16 : decode cX12_leastPreemptiveLateness 16 = .ok (.ireturn, 1) := by decide +kernel
theorem dX12_leastPreemptiveCompletions_0 : decode cX12_leastPreemptiveCompletions 0 = .ok (.aload_n 0, 1) := by decide +kernel
theorem dX12_leastPreemptiveCompletions_1 : decode cX12_leastPreemptiveCompletions 1 = .ok (.invokevirtual 170, 3) := by decide +kernel
theorem dX12_leastPreemptiveCompletions_4 : decode cX12_leastPreemptiveCompletions 4 = .ok (.ifCond .eq 11, 3) := by decide +kernel
theorem dX12_leastPreemptiveCompletions_7 : decode cX12_leastPreemptiveCompletions 7 = .ok (.aload_n 0, 1) := by decide +kernel
theorem dX12_leastPreemptiveCompletions_8 : decode cX12_leastPreemptiveCompletions 8 = .ok (.iconst 1, 1) := by decide +kernel
theorem dX12_leastPreemptiveCompletions_9 : decode cX12_leastPreemptiveCompletions 9 = .ok (.invokevirtual 182, 3) := by decide +kernel
theorem dX12_leastPreemptiveCompletions_12 : decode cX12_leastPreemptiveCompletions 12 = .ok (.goto 4, 3) := by decide +kernel
theorem dX12_leastPreemptiveCompletions_15 : decode cX12_leastPreemptiveCompletions 15 = .ok (.iconst 0, 1) := by decide +kernel
theorem dX12_leastPreemptiveCompletions_16 : decode cX12_leastPreemptiveCompletions 16 = .ok (.ireturn, 1) := by decide +kernel
theorem dX12_canBeOnTime_0 : decode cX12_canBeOnTime 0 = .ok (.aload_n 0, 1) := by decide +kernel
theorem dX12_canBeOnTime_1 : decode cX12_canBeOnTime 1 = .ok (.iload_n 1, 1) := by decide +kernel
theorem dX12_canBeOnTime_2 : decode cX12_canBeOnTime 2 = .ok (.ifCond .lt 16, 3) := by decide +kernel
theorem dX12_canBeOnTime_5 : decode cX12_canBeOnTime 5 = .ok (.iload_n 1, 1) := by decide +kernel
theorem dX12_canBeOnTime_6 : decode cX12_canBeOnTime 6 = .ok (.aload_n 0, 1) := by decide +kernel
theorem dX12_canBeOnTime_7 : decode cX12_canBeOnTime 7 = .ok (.getfield 63, 3) := by decide +kernel
theorem dX12_canBeOnTime_10 : decode cX12_canBeOnTime 10 = .ok (.ishr, 1) := by decide +kernel
theorem dX12_canBeOnTime_11 : decode cX12_canBeOnTime 11 = .ok (.ifCond .ne 7, 3) := by decide +kernel
theorem dX12_canBeOnTime_14 : decode cX12_canBeOnTime 14 = .ok (.iconst 0, 1) := by decide +kernel
theorem dX12_canBeOnTime_15 : decode cX12_canBeOnTime 15 = .ok (.goto 4, 3) := by decide +kernel
theorem dX12_canBeOnTime_18 : decode cX12_canBeOnTime 18 = .ok (.iconst 1, 1) := by decide +kernel
theorem dX12_canBeOnTime_19 : decode cX12_canBeOnTime 19 = .ok (.invokevirtual 84, 3) := by decide +kernel
theorem dX12_canBeOnTime_22 : decode cX12_canBeOnTime 22 = .ok (.ifCond .ne 5, 3) := by decide +kernel
theorem dX12_canBeOnTime_25 : decode cX12_canBeOnTime 25 = .ok (.iconst 0, 1) := by decide +kernel
theorem dX12_canBeOnTime_26 : decode cX12_canBeOnTime 26 = .ok (.ireturn, 1) := by decide +kernel
theorem dX12_canBeOnTime_27 : decode cX12_canBeOnTime 27 = .ok (.iconst 1, 1) := by decide +kernel
theorem dX12_canBeOnTime_28 : decode cX12_canBeOnTime 28 = .ok (.istore_n 2, 1) := by decide +kernel
theorem dX12_canBeOnTime_29 : decode cX12_canBeOnTime 29 = .ok (.iconst 0, 1) := by decide +kernel
theorem dX12_canBeOnTime_30 : decode cX12_canBeOnTime 30 = .ok (.istore_n 3, 1) := by decide +kernel
theorem dX12_canBeOnTime_31 : decode cX12_canBeOnTime 31 = .ok (.iload_n 3, 1) := by decide +kernel
theorem dX12_canBeOnTime_32 : decode cX12_canBeOnTime 32 = .ok (.aload_n 0, 1) := by decide +kernel
theorem dX12_canBeOnTime_33 : decode cX12_canBeOnTime 33 = .ok (.getfield 63, 3) := by decide +kernel
theorem dX12_canBeOnTime_36 : decode cX12_canBeOnTime 36 = .ok (.if_icmp .ge 106, 3) := by decide +kernel
theorem dX12_canBeOnTime_39 : decode cX12_canBeOnTime 39 = .ok (.aload_n 0, 1) := by decide +kernel
theorem dX12_canBeOnTime_40 : decode cX12_canBeOnTime 40 = .ok (.getfield 7, 3) := by decide +kernel
theorem dX12_canBeOnTime_43 : decode cX12_canBeOnTime 43 = .ok (.iload_n 3, 1) := by decide +kernel
theorem dX12_canBeOnTime_44 : decode cX12_canBeOnTime 44 = .ok (.iaload, 1) := by decide +kernel
theorem dX12_canBeOnTime_45 : decode cX12_canBeOnTime 45 = .ok (.istore 4, 2) := by decide +kernel
theorem dX12_canBeOnTime_47 : decode cX12_canBeOnTime 47 = .ok (.iconst 0, 1) := by decide +kernel
theorem dX12_canBeOnTime_48 : decode cX12_canBeOnTime 48 = .ok (.istore 5, 2) := by decide +kernel
theorem dX12_canBeOnTime_50 : decode cX12_canBeOnTime 50 = .ok (.iload 5, 2) := by decide +kernel
theorem dX12_canBeOnTime_52 : decode cX12_canBeOnTime 52 = .ok (.aload_n 0, 1) := by decide +kernel
theorem dX12_canBeOnTime_53 : decode cX12_canBeOnTime 53 = .ok (.getfield 63, 3) := by decide +kernel
theorem dX12_canBeOnTime_56 : decode cX12_canBeOnTime 56 = .ok (.if_icmp .ge 51, 3) := by decide +kernel
theorem dX12_canBeOnTime_59 : decode cX12_canBeOnTime 59 = .ok (.iload 4, 2) := by decide +kernel
theorem dX12_canBeOnTime_61 : decode cX12_canBeOnTime 61 = .ok (.iload_n 1, 1) := by decide +kernel
theorem dX12_canBeOnTime_62 : decode cX12_canBeOnTime 62 = .ok (.iload 5, 2) := by decide +kernel
theorem dX12_canBeOnTime_64 : decode cX12_canBeOnTime 64 = .ok (.ishr, 1) := by decide +kernel
theorem dX12_canBeOnTime_65 : decode cX12_canBeOnTime 65 = .ok (.iconst 1, 1) := by decide +kernel
theorem dX12_canBeOnTime_66 : decode cX12_canBeOnTime 66 = .ok (.iand, 1) := by decide +kernel
theorem dX12_canBeOnTime_67 : decode cX12_canBeOnTime 67 = .ok (.iconst 1, 1) := by decide +kernel
theorem dX12_canBeOnTime_68 : decode cX12_canBeOnTime 68 = .ok (.if_icmp .ne 29, 3) := by decide +kernel
theorem dX12_canBeOnTime_71 : decode cX12_canBeOnTime 71 = .ok (.iload 5, 2) := by decide +kernel
theorem dX12_canBeOnTime_73 : decode cX12_canBeOnTime 73 = .ok (.iload_n 3, 1) := by decide +kernel
theorem dX12_canBeOnTime_74 : decode cX12_canBeOnTime 74 = .ok (.if_icmp .eq 23, 3) := by decide +kernel
theorem dX12_canBeOnTime_77 : decode cX12_canBeOnTime 77 = .ok (.aload_n 0, 1) := by decide +kernel
theorem dX12_canBeOnTime_78 : decode cX12_canBeOnTime 78 = .ok (.iload 5, 2) := by decide +kernel
theorem dX12_canBeOnTime_80 : decode cX12_canBeOnTime 80 = .ok (.iload_n 3, 1) := by decide +kernel
theorem dX12_canBeOnTime_81 : decode cX12_canBeOnTime 81 = .ok (.invokevirtual 95, 3) := by decide +kernel
theorem dX12_canBeOnTime_84 : decode cX12_canBeOnTime 84 = .ok (.ifCond .eq 13, 3) := by decide +kernel
theorem dX12_canBeOnTime_87 : decode cX12_canBeOnTime 87 = .ok (.aload_n 0, 1) := by decide +kernel
theorem dX12_canBeOnTime_88 : decode cX12_canBeOnTime 88 = .ok (.getfield 7, 3) := by decide +kernel
theorem dX12_canBeOnTime_91 : decode cX12_canBeOnTime 91 = .ok (.iload 5, 2) := by decide +kernel
theorem dX12_canBeOnTime_93 : decode cX12_canBeOnTime 93 = .ok (.iaload, 1) := by decide +kernel
theorem dX12_canBeOnTime_94 : decode cX12_canBeOnTime 94 = .ok (.goto 4, 3) := by decide +kernel
theorem dX12_canBeOnTime_97 : decode cX12_canBeOnTime 97 = .ok (.iconst 0, 1) := by decide +kernel
theorem dX12_canBeOnTime_98 : decode cX12_canBeOnTime 98 = .ok (.iadd, 1) := by decide +kernel
theorem dX12_canBeOnTime_99 : decode cX12_canBeOnTime 99 = .ok (.istore 4, 2) := by decide +kernel
theorem dX12_canBeOnTime_101 : decode cX12_canBeOnTime 101 = .ok (.iinc 5 1, 3) := by decide +kernel
theorem dX12_canBeOnTime_104 : decode cX12_canBeOnTime 104 = .ok (.goto (-54), 3) := by decide +kernel
theorem dX12_canBeOnTime_107 : decode cX12_canBeOnTime 107 = .ok (.iload_n 2, 1) := by decide +kernel
theorem dX12_canBeOnTime_108 : decode cX12_canBeOnTime 108 = .ok (.ifCond .eq 26, 3) := by decide +kernel
theorem dX12_canBeOnTime_111 : decode cX12_canBeOnTime 111 = .ok (.iload_n 1, 1) := by decide +kernel
theorem dX12_canBeOnTime_112 : decode cX12_canBeOnTime 112 = .ok (.iload_n 3, 1) := by decide +kernel
theorem dX12_canBeOnTime_113 : decode cX12_canBeOnTime 113 = .ok (.ishr, 1) := by decide +kernel
theorem dX12_canBeOnTime_114 : decode cX12_canBeOnTime 114 = .ok (.iconst 1, 1) := by decide +kernel
theorem dX12_canBeOnTime_115 : decode cX12_canBeOnTime 115 = .ok (.iand, 1) := by decide +kernel
theorem dX12_canBeOnTime_116 : decode cX12_canBeOnTime 116 = .ok (.ifCond .eq 14, 3) := by decide +kernel
theorem dX12_canBeOnTime_119 : decode cX12_canBeOnTime 119 = .ok (.iload 4, 2) := by decide +kernel
theorem dX12_canBeOnTime_121 : decode cX12_canBeOnTime 121 = .ok (.aload_n 0, 1) := by decide +kernel
theorem dX12_canBeOnTime_122 : decode cX12_canBeOnTime 122 = .ok (.getfield 13, 3) := by decide +kernel
theorem dX12_canBeOnTime_125 : decode cX12_canBeOnTime 125 = .ok (.iload_n 3, 1) := by decide +kernel
theorem dX12_canBeOnTime_126 : decode cX12_canBeOnTime 126 = .ok (.iaload, 1) := by decide +kernel
theorem dX12_canBeOnTime_127 : decode cX12_canBeOnTime 127 = .ok (.if_icmp .gt 7, 3) := by decide +kernel
theorem dX12_canBeOnTime_130 : decode cX12_canBeOnTime 130 = .ok (.iconst 1, 1) := by decide +kernel
theorem dX12_canBeOnTime_131 : decode cX12_canBeOnTime 131 = .ok (.goto 4, 3) := by decide +kernel
theorem dX12_canBeOnTime_134 : decode cX12_canBeOnTime 134 = .ok (.iconst 0, 1) := by decide +kernel
theorem dX12_canBeOnTime_135 : decode cX12_canBeOnTime 135 = .ok (.istore_n 2, 1) := by decide +kernel
theorem dX12_canBeOnTime_136 : decode cX12_canBeOnTime 136 = .ok (.iinc 3 1, 3) := by decide +kernel
theorem dX12_canBeOnTime_139 : decode cX12_canBeOnTime 139 = .ok (.goto (-108), 3) := by decide +kernel
theorem dX12_canBeOnTime_142 : decode cX12_canBeOnTime 142 = .ok (.iload_n 2, 1) := by decide +kernel
theorem dX12_canBeOnTime_143 : decode cX12_canBeOnTime 143 = .ok (.ireturn, 1) := by decide +kernel
theorem dX12_fewestLateBySets_0 : decode cX12_fewestLateBySets 0 = .ok (.aload_n 0, 1) := by decide +kernel
theorem dX12_fewestLateBySets_1 : decode cX12_fewestLateBySets 1 = .ok (.iconst 0, 1) := by decide +kernel
theorem dX12_fewestLateBySets_2 : decode cX12_fewestLateBySets 2 = .ok (.putfield 59, 3) := by decide +kernel
theorem dX12_fewestLateBySets_5 : decode cX12_fewestLateBySets 5 = .ok (.aload_n 0, 1) := by decide +kernel
theorem dX12_fewestLateBySets_6 : decode cX12_fewestLateBySets 6 = .ok (.iconst 1, 1) := by decide +kernel
theorem dX12_fewestLateBySets_7 : decode cX12_fewestLateBySets 7 = .ok (.invokevirtual 141, 3) := by decide +kernel
theorem dX12_fewestLateBySets_10 : decode cX12_fewestLateBySets 10 = .ok (.iconst 0, 1) := by decide +kernel
theorem dX12_fewestLateBySets_11 : decode cX12_fewestLateBySets 11 = .ok (.istore_n 1, 1) := by decide +kernel
theorem dX12_fewestLateBySets_12 : decode cX12_fewestLateBySets 12 = .ok (.iload_n 1, 1) := by decide +kernel
theorem dX12_fewestLateBySets_13 : decode cX12_fewestLateBySets 13 = .ok (.aload_n 0, 1) := by decide +kernel
theorem dX12_fewestLateBySets_14 : decode cX12_fewestLateBySets 14 = .ok (.getfield 63, 3) := by decide +kernel
theorem dX12_fewestLateBySets_17 : decode cX12_fewestLateBySets 17 = .ok (.if_icmp .gt 25, 3) := by decide +kernel
theorem dX12_fewestLateBySets_20 : decode cX12_fewestLateBySets 20 = .ok (.aload_n 0, 1) := by decide +kernel
theorem dX12_fewestLateBySets_21 : decode cX12_fewestLateBySets 21 = .ok (.getfield 52, 3) := by decide +kernel
theorem dX12_fewestLateBySets_24 : decode cX12_fewestLateBySets 24 = .ok (.iload_n 1, 1) := by decide +kernel
theorem dX12_fewestLateBySets_25 : decode cX12_fewestLateBySets 25 = .ok (.iload_n 1, 1) := by decide +kernel
theorem dX12_fewestLateBySets_26 : decode cX12_fewestLateBySets 26 = .ok (.ifCond .ne 7, 3) := by decide +kernel
theorem dX12_fewestLateBySets_29 : decode cX12_fewestLateBySets 29 = .ok (.iconst 0, 1) := by decide +kernel
theorem dX12_fewestLateBySets_30 : decode cX12_fewestLateBySets 30 = .ok (.goto 5, 3) := by decide +kernel
theorem dX12_fewestLateBySets_33 : decode cX12_fewestLateBySets 33 = .ok (.ldc 110, 2) := by decide +kernel
theorem dX12_fewestLateBySets_35 : decode cX12_fewestLateBySets 35 = .ok (.iastore, 1) := by decide +kernel
theorem dX12_fewestLateBySets_36 : decode cX12_fewestLateBySets 36 = .ok (.iinc 1 1, 3) := by decide +kernel
theorem dX12_fewestLateBySets_39 : decode cX12_fewestLateBySets 39 = .ok (.goto (-27), 3) := by decide +kernel
theorem dX12_fewestLateBySets_42 : decode cX12_fewestLateBySets 42 = .ok (.iconst 0, 1) := by decide +kernel
theorem dX12_fewestLateBySets_43 : decode cX12_fewestLateBySets 43 = .ok (.istore_n 1, 1) := by decide +kernel
theorem dX12_fewestLateBySets_44 : decode cX12_fewestLateBySets 44 = .ok (.iload_n 1, 1) := by decide +kernel
theorem dX12_fewestLateBySets_45 : decode cX12_fewestLateBySets 45 = .ok (.aload_n 0, 1) := by decide +kernel
theorem dX12_fewestLateBySets_46 : decode cX12_fewestLateBySets 46 = .ok (.getfield 63, 3) := by decide +kernel
theorem dX12_fewestLateBySets_49 : decode cX12_fewestLateBySets 49 = .ok (.if_icmp .ge 87, 3) := by decide +kernel
theorem dX12_fewestLateBySets_52 : decode cX12_fewestLateBySets 52 = .ok (.aload_n 0, 1) := by decide +kernel
theorem dX12_fewestLateBySets_53 : decode cX12_fewestLateBySets 53 = .ok (.getfield 40, 3) := by decide +kernel
theorem dX12_fewestLateBySets_56 : decode cX12_fewestLateBySets 56 = .ok (.iload_n 1, 1) := by decide +kernel
theorem dX12_fewestLateBySets_57 : decode cX12_fewestLateBySets 57 = .ok (.iaload, 1) := by decide +kernel
theorem dX12_fewestLateBySets_58 : decode cX12_fewestLateBySets 58 = .ok (.istore_n 2, 1) := by decide +kernel
theorem dX12_fewestLateBySets_59 : decode cX12_fewestLateBySets 59 = .ok (.aload_n 0, 1) := by decide +kernel
theorem dX12_fewestLateBySets_60 : decode cX12_fewestLateBySets 60 = .ok (.getfield 63, 3) := by decide +kernel
theorem dX12_fewestLateBySets_63 : decode cX12_fewestLateBySets 63 = .ok (.istore_n 3, 1) := by decide +kernel
theorem dX12_fewestLateBySets_64 : decode cX12_fewestLateBySets 64 = .ok (.iload_n 3, 1) := by decide +kernel
theorem dX12_fewestLateBySets_65 : decode cX12_fewestLateBySets 65 = .ok (.ifCond .le 65, 3) := by decide +kernel
theorem dX12_fewestLateBySets_68 : decode cX12_fewestLateBySets 68 = .ok (.aload_n 0, 1) := by decide +kernel
theorem dX12_fewestLateBySets_69 : decode cX12_fewestLateBySets 69 = .ok (.getfield 52, 3) := by decide +kernel
theorem dX12_fewestLateBySets_72 : decode cX12_fewestLateBySets 72 = .ok (.iload_n 3, 1) := by decide +kernel
theorem dX12_fewestLateBySets_73 : decode cX12_fewestLateBySets 73 = .ok (.iconst 1, 1) := by decide +kernel
theorem dX12_fewestLateBySets_74 : decode cX12_fewestLateBySets 74 = .ok (.isub, 1) := by decide +kernel
theorem dX12_fewestLateBySets_75 : decode cX12_fewestLateBySets 75 = .ok (.iaload, 1) := by decide +kernel
theorem dX12_fewestLateBySets_76 : decode cX12_fewestLateBySets 76 = .ok (.aload_n 0, 1) := by decide +kernel
theorem dX12_fewestLateBySets_77 : decode cX12_fewestLateBySets 77 = .ok (.getfield 7, 3) := by decide +kernel
theorem dX12_fewestLateBySets_80 : decode cX12_fewestLateBySets 80 = .ok (.iload_n 2, 1) := by decide +kernel
theorem dX12_fewestLateBySets_81 : decode cX12_fewestLateBySets 81 = .ok (.iaload, 1) := by decide +kernel
theorem dX12_fewestLateBySets_82 : decode cX12_fewestLateBySets 82 = .ok (.iadd, 1) := by decide +kernel
theorem dX12_fewestLateBySets_83 : decode cX12_fewestLateBySets 83 = .ok (.istore 4, 2) := by decide +kernel
theorem dX12_fewestLateBySets_85 : decode cX12_fewestLateBySets 85 = .ok (.aload_n 0, 1) := by decide +kernel
theorem dX12_fewestLateBySets_86 : decode cX12_fewestLateBySets 86 = .ok (.getfield 52, 3) := by decide +kernel
theorem dX12_fewestLateBySets_89 : decode cX12_fewestLateBySets 89 = .ok (.iload_n 3, 1) := by decide +kernel
theorem dX12_fewestLateBySets_90 : decode cX12_fewestLateBySets 90 = .ok (.iload 4, 2) := by decide +kernel
theorem dX12_fewestLateBySets_92 : decode cX12_fewestLateBySets 92 = .ok (.aload_n 0, 1) := by decide +kernel
theorem dX12_fewestLateBySets_93 : decode cX12_fewestLateBySets 93 = .ok (.getfield 13, 3) := by decide +kernel
theorem dX12_fewestLateBySets_96 : decode cX12_fewestLateBySets 96 = .ok (.iload_n 2, 1) := by decide +kernel
theorem dX12_fewestLateBySets_97 : decode cX12_fewestLateBySets 97 = .ok (.iaload, 1) := by decide +kernel
theorem dX12_fewestLateBySets_98 : decode cX12_fewestLateBySets 98 = .ok (.if_icmp .gt 19, 3) := by decide +kernel
theorem dX12_fewestLateBySets_101 : decode cX12_fewestLateBySets 101 = .ok (.iload 4, 2) := by decide +kernel
theorem dX12_fewestLateBySets_103 : decode cX12_fewestLateBySets 103 = .ok (.aload_n 0, 1) := by decide +kernel
theorem dX12_fewestLateBySets_104 : decode cX12_fewestLateBySets 104 = .ok (.getfield 52, 3) := by decide +kernel
theorem dX12_fewestLateBySets_107 : decode cX12_fewestLateBySets 107 = .ok (.iload_n 3, 1) := by decide +kernel
theorem dX12_fewestLateBySets_108 : decode cX12_fewestLateBySets 108 = .ok (.iaload, 1) := by decide +kernel
theorem dX12_fewestLateBySets_109 : decode cX12_fewestLateBySets 109 = .ok (.if_icmp .ge 8, 3) := by decide +kernel
theorem dX12_fewestLateBySets_112 : decode cX12_fewestLateBySets 112 = .ok (.iload 4, 2) := by decide +kernel
theorem dX12_fewestLateBySets_114 : decode cX12_fewestLateBySets 114 = .ok (.goto 9, 3) := by decide +kernel
theorem dX12_fewestLateBySets_117 : decode cX12_fewestLateBySets 117 = .ok (.aload_n 0, 1) := by decide +kernel
theorem dX12_fewestLateBySets_118 : decode cX12_fewestLateBySets 118 = .ok (.getfield 52, 3) := by decide +kernel
theorem dX12_fewestLateBySets_121 : decode cX12_fewestLateBySets 121 = .ok (.iload_n 3, 1) := by decide +kernel
theorem dX12_fewestLateBySets_122 : decode cX12_fewestLateBySets 122 = .ok (.iaload, 1) := by decide +kernel
theorem dX12_fewestLateBySets_123 : decode cX12_fewestLateBySets 123 = .ok (.iastore, 1) := by decide +kernel
theorem dX12_fewestLateBySets_124 : decode cX12_fewestLateBySets 124 = .ok (.iinc 3 (-1), 3) := by decide +kernel
theorem dX12_fewestLateBySets_127 : decode cX12_fewestLateBySets 127 = .ok (.goto (-63), 3) := by decide +kernel
theorem dX12_fewestLateBySets_130 : decode cX12_fewestLateBySets 130 = .ok (.iinc 1 1, 3) := by decide +kernel
theorem dX12_fewestLateBySets_133 : decode cX12_fewestLateBySets 133 = .ok (.goto (-89), 3) := by decide +kernel
theorem dX12_fewestLateBySets_136 : decode cX12_fewestLateBySets 136 = .ok (.iconst 0, 1) := by decide +kernel
theorem dX12_fewestLateBySets_137 : decode cX12_fewestLateBySets 137 = .ok (.istore_n 1, 1) := by decide +kernel
theorem dX12_fewestLateBySets_138 : decode cX12_fewestLateBySets 138 = .ok (.iconst 0, 1) := by decide +kernel
theorem dX12_fewestLateBySets_139 : decode cX12_fewestLateBySets 139 = .ok (.istore_n 2, 1) := by decide +kernel
theorem dX12_fewestLateBySets_140 : decode cX12_fewestLateBySets 140 = .ok (.iload_n 2, 1) := by decide +kernel
theorem dX12_fewestLateBySets_141 : decode cX12_fewestLateBySets 141 = .ok (.aload_n 0, 1) := by decide +kernel
theorem dX12_fewestLateBySets_142 : decode cX12_fewestLateBySets 142 = .ok (.getfield 63, 3) := by decide +kernel
theorem dX12_fewestLateBySets_145 : decode cX12_fewestLateBySets 145 = .ok (.if_icmp .gt 26, 3) := by decide +kernel
theorem dX12_fewestLateBySets_148 : decode cX12_fewestLateBySets 148 = .ok (.aload_n 0, 1) := by decide +kernel
theorem dX12_fewestLateBySets_149 : decode cX12_fewestLateBySets 149 = .ok (.getfield 52, 3) := by decide +kernel
theorem dX12_fewestLateBySets_152 : decode cX12_fewestLateBySets 152 = .ok (.iload_n 2, 1) := by decide +kernel
theorem dX12_fewestLateBySets_153 : decode cX12_fewestLateBySets 153 = .ok (.iaload, 1) := by decide +kernel
theorem dX12_fewestLateBySets_154 : decode cX12_fewestLateBySets 154 = .ok (.ldc 110, 2) := by decide +kernel
theorem dX12_fewestLateBySets_156 : decode cX12_fewestLateBySets 156 = .ok (.if_icmp .ge 7, 3) := by decide +kernel
theorem dX12_fewestLateBySets_159 : decode cX12_fewestLateBySets 159 = .ok (.iload_n 2, 1) := by decide +kernel
theorem dX12_fewestLateBySets_160 : decode cX12_fewestLateBySets 160 = .ok (.goto 4, 3) := by decide +kernel
theorem dX12_fewestLateBySets_163 : decode cX12_fewestLateBySets 163 = .ok (.iload_n 1, 1) := by decide +kernel
theorem dX12_fewestLateBySets_164 : decode cX12_fewestLateBySets 164 = .ok (.istore_n 1, 1) := by decide +kernel
theorem dX12_fewestLateBySets_165 : decode cX12_fewestLateBySets 165 = .ok (.iinc 2 1, 3) := by decide +kernel
theorem dX12_fewestLateBySets_168 : decode cX12_fewestLateBySets 168 = .ok (.goto (-28), 3) := by decide +kernel
theorem dX12_fewestLateBySets_171 : decode cX12_fewestLateBySets 171 = .ok (.aload_n 0, 1) := by decide +kernel
theorem dX12_fewestLateBySets_172 : decode cX12_fewestLateBySets 172 = .ok (.getfield 63, 3) := by decide +kernel
theorem dX12_fewestLateBySets_175 : decode cX12_fewestLateBySets 175 = .ok (.iload_n 1, 1) := by decide +kernel
theorem dX12_fewestLateBySets_176 : decode cX12_fewestLateBySets 176 = .ok (.isub, 1) := by decide +kernel
theorem dX12_fewestLateBySets_177 : decode cX12_fewestLateBySets 177 = .ok (.ireturn, 1) := by decide +kernel
theorem dX12_releaseOf_0 : decode cX12_releaseOf 0 = .ok (.iload_n 2, 1) := by decide +kernel
theorem dX12_releaseOf_1 : decode cX12_releaseOf 1 = .ok (.ifCond .eq 12, 3) := by decide +kernel
theorem dX12_releaseOf_4 : decode cX12_releaseOf 4 = .ok (.aload_n 0, 1) := by decide +kernel
theorem dX12_releaseOf_5 : decode cX12_releaseOf 5 = .ok (.getfield 19, 3) := by decide +kernel
theorem dX12_releaseOf_8 : decode cX12_releaseOf 8 = .ok (.iload_n 1, 1) := by decide +kernel
theorem dX12_releaseOf_9 : decode cX12_releaseOf 9 = .ok (.iaload, 1) := by decide +kernel
theorem dX12_releaseOf_10 : decode cX12_releaseOf 10 = .ok (.goto 4, 3) := by decide +kernel
theorem dX12_releaseOf_13 : decode cX12_releaseOf 13 = .ok (.iconst 0, 1) := by decide +kernel
theorem dX12_releaseOf_14 : decode cX12_releaseOf 14 = .ok (.ireturn, 1) := by decide +kernel
theorem dX12_bound_0 : decode cX12_bound 0 = .ok (.iconst 0, 1) := by decide +kernel
theorem dX12_bound_1 : decode cX12_bound 1 = .ok (.istore 4, 2) := by decide +kernel
theorem dX12_bound_3 : decode cX12_bound 3 = .ok (.iconst 0, 1) := by decide +kernel
theorem dX12_bound_4 : decode cX12_bound 4 = .ok (.istore 5, 2) := by decide +kernel
theorem dX12_bound_6 : decode cX12_bound 6 = .ok (.iload 5, 2) := by decide +kernel
theorem dX12_bound_8 : decode cX12_bound 8 = .ok (.aload_n 0, 1) := by decide +kernel
theorem dX12_bound_9 : decode cX12_bound 9 = .ok (.getfield 63, 3) := by decide +kernel
theorem dX12_bound_12 : decode cX12_bound 12 = .ok (.if_icmp .ge 69, 3) := by decide +kernel
theorem dX12_bound_15 : decode cX12_bound 15 = .ok (.aload_n 0, 1) := by decide +kernel
theorem dX12_bound_16 : decode cX12_bound 16 = .ok (.iload 5, 2) := by decide +kernel
theorem dX12_bound_18 : decode cX12_bound 18 = .ok (.iload_n 3, 1) := by decide +kernel
theorem dX12_bound_19 : decode cX12_bound 19 = .ok (.invokevirtual 185, 3) := by decide +kernel
theorem dX12_bound_22 : decode cX12_bound 22 = .ok (.aload_n 0, 1) := by decide +kernel
theorem dX12_bound_23 : decode cX12_bound 23 = .ok (.iload_n 1, 1) := by decide +kernel
theorem dX12_bound_24 : decode cX12_bound 24 = .ok (.iload_n 3, 1) := by decide +kernel
theorem dX12_bound_25 : decode cX12_bound 25 = .ok (.invokevirtual 185, 3) := by decide +kernel
theorem dX12_bound_28 : decode cX12_bound 28 = .ok (.if_icmp .lt 23, 3) := by decide +kernel
theorem dX12_bound_31 : decode cX12_bound 31 = .ok (.aload_n 0, 1) := by decide +kernel
theorem dX12_bound_32 : decode cX12_bound 32 = .ok (.getfield 13, 3) := by decide +kernel
theorem dX12_bound_35 : decode cX12_bound 35 = .ok (.iload 5, 2) := by decide +kernel
theorem dX12_bound_37 : decode cX12_bound 37 = .ok (.iaload, 1) := by decide +kernel
theorem dX12_bound_38 : decode cX12_bound 38 = .ok (.aload_n 0, 1) := by decide +kernel
theorem dX12_bound_39 : decode cX12_bound 39 = .ok (.getfield 13, 3) := by decide +kernel
theorem dX12_bound_42 : decode cX12_bound 42 = .ok (.iload_n 2, 1) := by decide +kernel
theorem dX12_bound_43 : decode cX12_bound 43 = .ok (.iaload, 1) := by decide +kernel
theorem dX12_bound_44 : decode cX12_bound 44 = .ok (.if_icmp .gt 7, 3) := by decide +kernel
theorem dX12_bound_47 : decode cX12_bound 47 = .ok (.iconst 1, 1) := by decide +kernel
theorem dX12_bound_48 : decode cX12_bound 48 = .ok (.goto 4, 3) := by decide +kernel
theorem dX12_bound_51 : decode cX12_bound 51 = .ok (.iconst 0, 1) := by decide +kernel
theorem dX12_bound_52 : decode cX12_bound 52 = .ok (.istore 6, 2) := by decide +kernel
theorem dX12_bound_54 : decode cX12_bound 54 = .ok (.iload 4, 2) := by decide +kernel
theorem dX12_bound_56 : decode cX12_bound 56 = .ok (.iload 6, 2) := by decide +kernel
theorem dX12_bound_58 : decode cX12_bound 58 = .ok (.ifCond .eq 13, 3) := by decide +kernel
theorem dX12_bound_61 : decode cX12_bound 61 = .ok (.aload_n 0, 1) := by decide +kernel
theorem dX12_bound_62 : decode cX12_bound 62 = .ok (.getfield 7, 3) := by decide +kernel
theorem dX12_bound_65 : decode cX12_bound 65 = .ok (.iload 5, 2) := by decide +kernel
theorem dX12_bound_67 : decode cX12_bound 67 = .ok (.iaload, 1) := by decide +kernel
theorem dX12_bound_68 : decode cX12_bound 68 = .ok (.goto 4, 3) := by decide +kernel
theorem dX12_bound_71 : decode cX12_bound 71 = .ok (.iconst 0, 1) := by decide +kernel
theorem dX12_bound_72 : decode cX12_bound 72 = .ok (.iadd, 1) := by decide +kernel
theorem dX12_bound_73 : decode cX12_bound 73 = .ok (.istore 4, 2) := by decide +kernel
theorem dX12_bound_75 : decode cX12_bound 75 = .ok (.iinc 5 1, 3) := by decide +kernel
theorem dX12_bound_78 : decode cX12_bound 78 = .ok (.goto (-72), 3) := by decide +kernel
theorem dX12_bound_81 : decode cX12_bound 81 = .ok (.iload 4, 2) := by decide +kernel
theorem dX12_bound_83 : decode cX12_bound 83 = .ok (.ifCond .ne 8, 3) := by decide +kernel
theorem dX12_bound_86 : decode cX12_bound 86 = .ok (.ldc 111, 2) := by decide +kernel
theorem dX12_bound_88 : decode cX12_bound 88 = .ok (.goto 19, 3) := by decide +kernel
theorem dX12_bound_91 : decode cX12_bound 91 = .ok (.aload_n 0, 1) := by decide +kernel
theorem dX12_bound_92 : decode cX12_bound 92 = .ok (.iload_n 1, 1) := by decide +kernel
theorem dX12_bound_93 : decode cX12_bound 93 = .ok (.iload_n 3, 1) := by decide +kernel
theorem dX12_bound_94 : decode cX12_bound 94 = .ok (.invokevirtual 185, 3) := by decide +kernel
theorem dX12_bound_97 : decode cX12_bound 97 = .ok (.iload 4, 2) := by decide +kernel
theorem dX12_bound_99 : decode cX12_bound 99 = .ok (.iadd, 1) := by decide +kernel
theorem dX12_bound_100 : decode cX12_bound 100 = .ok (.aload_n 0, 1) := by decide +kernel
theorem dX12_bound_101 : decode cX12_bound 101 = .ok (.getfield 13, 3) := by decide +kernel
theorem dX12_bound_104 : decode cX12_bound 104 = .ok (.iload_n 2, 1) := by decide +kernel
theorem dX12_bound_105 : decode cX12_bound 105 = .ok (.iaload, 1) := by decide +kernel
theorem dX12_bound_106 : decode cX12_bound 106 = .ok (.isub, 1) := by decide +kernel
theorem dX12_bound_107 : decode cX12_bound 107 = .ok (.ireturn, 1) := by decide +kernel
theorem dX12_windowBound_0 : decode cX12_windowBound 0 = .ok (.aload_n 0, 1) := by decide +kernel
theorem dX12_windowBound_1 : decode cX12_windowBound 1 = .ok (.invokevirtual 137, 3) := by decide +kernel
theorem dX12_windowBound_4 : decode cX12_windowBound 4 = .ok (.ifCond .ne 5, 3) := by decide +kernel
theorem dX12_windowBound_7 : decode cX12_windowBound 7 = .ok (.iconst 0, 1) := by decide +kernel
theorem dX12_windowBound_8 : decode cX12_windowBound 8 = .ok (.ireturn, 1) := by decide +kernel
theorem dX12_windowBound_9 : decode cX12_windowBound 9 = .ok (.ldc 111, 2) := by decide +kernel
theorem dX12_windowBound_11 : decode cX12_windowBound 11 = .ok (.istore_n 2, 1) := by decide +kernel
theorem dX12_windowBound_12 : decode cX12_windowBound 12 = .ok (.iconst 0, 1) := by decide +kernel
theorem dX12_windowBound_13 : decode cX12_windowBound 13 = .ok (.istore_n 3, 1) := by decide +kernel
theorem dX12_windowBound_14 : decode cX12_windowBound 14 = .ok (.iload_n 3, 1) := by decide +kernel
theorem dX12_windowBound_15 : decode cX12_windowBound 15 = .ok (.aload_n 0, 1) := by decide +kernel
theorem dX12_windowBound_16 : decode cX12_windowBound 16 = .ok (.getfield 63, 3) := by decide +kernel
theorem dX12_windowBound_19 : decode cX12_windowBound 19 = .ok (.aload_n 0, 1) := by decide +kernel
theorem dX12_windowBound_20 : decode cX12_windowBound 20 = .ok (.getfield 63, 3) := by decide +kernel
theorem dX12_windowBound_23 : decode cX12_windowBound 23 = .ok (.imul, 1) := by decide +kernel
theorem dX12_windowBound_24 : decode cX12_windowBound 24 = .ok (.if_icmp .ge 41, 3) := by decide +kernel
theorem dX12_windowBound_27 : decode cX12_windowBound 27 = .ok (.aload_n 0, 1) := by decide +kernel
theorem dX12_windowBound_28 : decode cX12_windowBound 28 = .ok (.iload_n 3, 1) := by decide +kernel
theorem dX12_windowBound_29 : decode cX12_windowBound 29 = .ok (.aload_n 0, 1) := by decide +kernel
theorem dX12_windowBound_30 : decode cX12_windowBound 30 = .ok (.getfield 63, 3) := by decide +kernel
theorem dX12_windowBound_33 : decode cX12_windowBound 33 = .ok (.idiv, 1) := by decide +kernel
theorem dX12_windowBound_34 : decode cX12_windowBound 34 = .ok (.iload_n 3, 1) := by decide +kernel
theorem dX12_windowBound_35 : decode cX12_windowBound 35 = .ok (.aload_n 0, 1) := by decide +kernel
theorem dX12_windowBound_36 : decode cX12_windowBound 36 = .ok (.getfield 63, 3) := by decide +kernel
theorem dX12_windowBound_39 : decode cX12_windowBound 39 = .ok (.irem, 1) := by decide +kernel
theorem dX12_windowBound_40 : decode cX12_windowBound 40 = .ok (.iload_n 1, 1) := by decide +kernel
theorem dX12_windowBound_41 : decode cX12_windowBound 41 = .ok (.invokevirtual 188, 3) := by decide +kernel
theorem dX12_windowBound_44 : decode cX12_windowBound 44 = .ok (.istore 4, 2) := by decide +kernel
theorem dX12_windowBound_46 : decode cX12_windowBound 46 = .ok (.iload 4, 2) := by decide +kernel
theorem dX12_windowBound_48 : decode cX12_windowBound 48 = .ok (.iload_n 2, 1) := by decide +kernel
theorem dX12_windowBound_49 : decode cX12_windowBound 49 = .ok (.if_icmp .le 8, 3) := by decide +kernel
theorem dX12_windowBound_52 : decode cX12_windowBound 52 = .ok (.iload 4, 2) := by decide +kernel
theorem dX12_windowBound_54 : decode cX12_windowBound 54 = .ok (.goto 4, 3) := by decide +kernel
theorem dX12_windowBound_57 : decode cX12_windowBound 57 = .ok (.iload_n 2, 1) := by decide +kernel
theorem dX12_windowBound_58 : decode cX12_windowBound 58 = .ok (.istore_n 2, 1) := by decide +kernel
theorem dX12_windowBound_59 : decode cX12_windowBound 59 = .ok (.iinc 3 1, 3) := by decide +kernel
theorem dX12_windowBound_62 : decode cX12_windowBound 62 = .ok (.goto (-48), 3) := by decide +kernel
theorem dX12_windowBound_65 : decode cX12_windowBound 65 = .ok (.iload_n 2, 1) := by decide +kernel
theorem dX12_windowBound_66 : decode cX12_windowBound 66 = .ok (.ireturn, 1) := by decide +kernel
theorem dX12_windowJob_0 : decode cX12_windowJob 0 = .ok (.iconst 0, 1) := by decide +kernel
theorem dX12_windowJob_1 : decode cX12_windowJob 1 = .ok (.istore_n 2, 1) := by decide +kernel
theorem dX12_windowJob_2 : decode cX12_windowJob 2 = .ok (.iconst 1, 1) := by decide +kernel
theorem dX12_windowJob_3 : decode cX12_windowJob 3 = .ok (.istore_n 3, 1) := by decide +kernel
theorem dX12_windowJob_4 : decode cX12_windowJob 4 = .ok (.iload_n 3, 1) := by decide +kernel
theorem dX12_windowJob_5 : decode cX12_windowJob 5 = .ok (.aload_n 0, 1) := by decide +kernel
theorem dX12_windowJob_6 : decode cX12_windowJob 6 = .ok (.getfield 63, 3) := by decide +kernel
theorem dX12_windowJob_9 : decode cX12_windowJob 9 = .ok (.aload_n 0, 1) := by decide +kernel
theorem dX12_windowJob_10 : decode cX12_windowJob 10 = .ok (.getfield 63, 3) := by decide +kernel
theorem dX12_windowJob_13 : decode cX12_windowJob 13 = .ok (.imul, 1) := by decide +kernel
theorem dX12_windowJob_14 : decode cX12_windowJob 14 = .ok (.if_icmp .ge 144, 3) := by decide +kernel
theorem dX12_windowJob_17 : decode cX12_windowJob 17 = .ok (.aload_n 0, 1) := by decide +kernel
theorem dX12_windowJob_18 : decode cX12_windowJob 18 = .ok (.iload_n 3, 1) := by decide +kernel
theorem dX12_windowJob_19 : decode cX12_windowJob 19 = .ok (.aload_n 0, 1) := by decide +kernel
theorem dX12_windowJob_20 : decode cX12_windowJob 20 = .ok (.getfield 63, 3) := by decide +kernel
theorem dX12_windowJob_23 : decode cX12_windowJob 23 = .ok (.idiv, 1) := by decide +kernel
theorem dX12_windowJob_24 : decode cX12_windowJob 24 = .ok (.iload_n 3, 1) := by decide +kernel
theorem dX12_windowJob_25 : decode cX12_windowJob 25 = .ok (.aload_n 0, 1) := by decide +kernel
theorem dX12_windowJob_26 : decode cX12_windowJob 26 = .ok (.getfield 63, 3) := by decide +kernel
theorem dX12_windowJob_29 : decode cX12_windowJob 29 = .ok (.irem, 1) := by decide +kernel
theorem dX12_windowJob_30 : decode cX12_windowJob 30 = .ok (.iconst 1, 1) := by decide +kernel
theorem dX12_windowJob_31 : decode cX12_windowJob 31 = .ok (.invokevirtual 188, 3) := by decide +kernel
theorem dX12_windowJob_34 : decode cX12_windowJob 34 = .ok (.istore 4, 2) := by decide +kernel
theorem dX12_windowJob_36 : decode cX12_windowJob 36 = .ok (.aload_n 0, 1) := by decide +kernel
theorem dX12_windowJob_37 : decode cX12_windowJob 37 = .ok (.iload_n 2, 1) := by decide +kernel
theorem dX12_windowJob_38 : decode cX12_windowJob 38 = .ok (.aload_n 0, 1) := by decide +kernel
theorem dX12_windowJob_39 : decode cX12_windowJob 39 = .ok (.getfield 63, 3) := by decide +kernel
theorem dX12_windowJob_42 : decode cX12_windowJob 42 = .ok (.idiv, 1) := by decide +kernel
theorem dX12_windowJob_43 : decode cX12_windowJob 43 = .ok (.iload_n 2, 1) := by decide +kernel
theorem dX12_windowJob_44 : decode cX12_windowJob 44 = .ok (.aload_n 0, 1) := by decide +kernel
theorem dX12_windowJob_45 : decode cX12_windowJob 45 = .ok (.getfield 63, 3) := by decide +kernel
theorem dX12_windowJob_48 : decode cX12_windowJob 48 = .ok (.irem, 1) := by decide +kernel
theorem dX12_windowJob_49 : decode cX12_windowJob 49 = .ok (.iconst 1, 1) := by decide +kernel
theorem dX12_windowJob_50 : decode cX12_windowJob 50 = .ok (.invokevirtual 188, 3) := by decide +kernel
theorem dX12_windowJob_53 : decode cX12_windowJob 53 = .ok (.istore 5, 2) := by decide +kernel
theorem dX12_windowJob_55 : decode cX12_windowJob 55 = .ok (.aload_n 0, 1) := by decide +kernel
theorem dX12_windowJob_56 : decode cX12_windowJob 56 = .ok (.getfield 13, 3) := by decide +kernel
theorem dX12_windowJob_59 : decode cX12_windowJob 59 = .ok (.iload_n 3, 1) := by decide +kernel
theorem dX12_windowJob_60 : decode cX12_windowJob 60 = .ok (.aload_n 0, 1) := by decide +kernel
theorem dX12_windowJob_61 : decode cX12_windowJob 61 = .ok (.getfield 63, 3) := by decide +kernel
theorem dX12_windowJob_64 : decode cX12_windowJob 64 = .ok (.irem, 1) := by decide +kernel
theorem dX12_windowJob_65 : decode cX12_windowJob 65 = .ok (.iaload, 1) := by decide +kernel
theorem dX12_windowJob_66 : decode cX12_windowJob 66 = .ok (.aload_n 0, 1) := by decide +kernel
theorem dX12_windowJob_67 : decode cX12_windowJob 67 = .ok (.getfield 13, 3) := by decide +kernel
theorem dX12_windowJob_70 : decode cX12_windowJob 70 = .ok (.iload_n 2, 1) := by decide +kernel
theorem dX12_windowJob_71 : decode cX12_windowJob 71 = .ok (.aload_n 0, 1) := by decide +kernel
theorem dX12_windowJob_72 : decode cX12_windowJob 72 = .ok (.getfield 63, 3) := by decide +kernel
theorem dX12_windowJob_75 : decode cX12_windowJob 75 = .ok (.irem, 1) := by decide +kernel
theorem dX12_windowJob_76 : decode cX12_windowJob 76 = .ok (.iaload, 1) := by decide +kernel
theorem dX12_windowJob_77 : decode cX12_windowJob 77 = .ok (.isub, 1) := by decide +kernel
theorem dX12_windowJob_78 : decode cX12_windowJob 78 = .ok (.istore 6, 2) := by decide +kernel
theorem dX12_windowJob_80 : decode cX12_windowJob 80 = .ok (.aload_n 0, 1) := by decide +kernel
theorem dX12_windowJob_81 : decode cX12_windowJob 81 = .ok (.getfield 19, 3) := by decide +kernel
theorem dX12_windowJob_84 : decode cX12_windowJob 84 = .ok (.iload_n 3, 1) := by decide +kernel
theorem dX12_windowJob_85 : decode cX12_windowJob 85 = .ok (.aload_n 0, 1) := by decide +kernel
theorem dX12_windowJob_86 : decode cX12_windowJob 86 = .ok (.getfield 63, 3) := by decide +kernel
theorem dX12_windowJob_89 : decode cX12_windowJob 89 = .ok (.idiv, 1) := by decide +kernel
theorem dX12_windowJob_90 : decode cX12_windowJob 90 = .ok (.iaload, 1) := by decide +kernel
theorem dX12_windowJob_91 : decode cX12_windowJob 91 = .ok (.aload_n 0, 1) := by decide +kernel
theorem dX12_windowJob_92 : decode cX12_windowJob 92 = .ok (.getfield 19, 3) := by decide +kernel
theorem dX12_windowJob_95 : decode cX12_windowJob 95 = .ok (.iload_n 2, 1) := by decide +kernel
theorem dX12_windowJob_96 : decode cX12_windowJob 96 = .ok (.aload_n 0, 1) := by decide +kernel
theorem dX12_windowJob_97 : decode cX12_windowJob 97 = .ok (.getfield 63, 3) := by decide +kernel
theorem dX12_windowJob_100 : decode cX12_windowJob 100 = .ok (.idiv, 1) := by decide +kernel
theorem dX12_windowJob_101 : decode cX12_windowJob 101 = .ok (.iaload, 1) := by decide +kernel
theorem dX12_windowJob_102 : decode cX12_windowJob 102 = .ok (.isub, 1) := by decide +kernel
theorem dX12_windowJob_103 : decode cX12_windowJob 103 = .ok (.istore 7, 2) := by decide +kernel
theorem dX12_windowJob_105 : decode cX12_windowJob 105 = .ok (.iload 4, 2) := by decide +kernel
theorem dX12_windowJob_107 : decode cX12_windowJob 107 = .ok (.iload 5, 2) := by decide +kernel
theorem dX12_windowJob_109 : decode cX12_windowJob 109 = .ok (.if_icmp .gt 25, 3) := by decide +kernel
theorem dX12_windowJob_112 : decode cX12_windowJob 112 = .ok (.iload 4, 2) := by decide +kernel
theorem dX12_windowJob_114 : decode cX12_windowJob 114 = .ok (.iload 5, 2) := by decide +kernel
theorem dX12_windowJob_116 : decode cX12_windowJob 116 = .ok (.if_icmp .ne 22, 3) := by decide +kernel
theorem dX12_windowJob_119 : decode cX12_windowJob 119 = .ok (.iload 6, 2) := by decide +kernel
theorem dX12_windowJob_121 : decode cX12_windowJob 121 = .ok (.ifCond .lt 13, 3) := by decide +kernel
theorem dX12_windowJob_124 : decode cX12_windowJob 124 = .ok (.iload 6, 2) := by decide +kernel
theorem dX12_windowJob_126 : decode cX12_windowJob 126 = .ok (.ifCond .ne 12, 3) := by decide +kernel
theorem dX12_windowJob_129 : decode cX12_windowJob 129 = .ok (.iload 7, 2) := by decide +kernel
theorem dX12_windowJob_131 : decode cX12_windowJob 131 = .ok (.ifCond .ge 7, 3) := by decide +kernel
theorem dX12_windowJob_134 : decode cX12_windowJob 134 = .ok (.iconst 1, 1) := by decide +kernel
theorem dX12_windowJob_135 : decode cX12_windowJob 135 = .ok (.goto 4, 3) := by decide +kernel
theorem dX12_windowJob_138 : decode cX12_windowJob 138 = .ok (.iconst 0, 1) := by decide +kernel
theorem dX12_windowJob_139 : decode cX12_windowJob 139 = .ok (.istore 8, 2) := by decide +kernel
theorem dX12_windowJob_141 : decode cX12_windowJob 141 = .ok (.iload 8, 2) := by decide +kernel
theorem dX12_windowJob_143 : decode cX12_windowJob 143 = .ok (.ifCond .eq 7, 3) := by decide +kernel
theorem dX12_windowJob_146 : decode cX12_windowJob 146 = .ok (.iload_n 3, 1) := by decide +kernel
theorem dX12_windowJob_147 : decode cX12_windowJob 147 = .ok (.goto 4, 3) := by decide +kernel
theorem dX12_windowJob_150 : decode cX12_windowJob 150 = .ok (.iload_n 2, 1) := by decide +kernel
theorem dX12_windowJob_151 : decode cX12_windowJob 151 = .ok (.istore_n 2, 1) := by decide +kernel
theorem dX12_windowJob_152 : decode cX12_windowJob 152 = .ok (.iinc 3 1, 3) := by decide +kernel
theorem dX12_windowJob_155 : decode cX12_windowJob 155 = .ok (.goto (-151), 3) := by decide +kernel
theorem dX12_windowJob_158 : decode cX12_windowJob 158 = .ok (.iload_n 1, 1) := by decide +kernel
theorem dX12_windowJob_159 : decode cX12_windowJob 159 = .ok (.ifCond .eq 12, 3) := by decide +kernel
theorem dX12_windowJob_162 : decode cX12_windowJob 162 = .ok (.iload_n 2, 1) := by decide +kernel
theorem dX12_windowJob_163 : decode cX12_windowJob 163 = .ok (.aload_n 0, 1) := by decide +kernel
theorem dX12_windowJob_164 : decode cX12_windowJob 164 = .ok (.getfield 63, 3) := by decide +kernel
theorem dX12_windowJob_167 : decode cX12_windowJob 167 = .ok (.irem, 1) := by decide +kernel
theorem dX12_windowJob_168 : decode cX12_windowJob 168 = .ok (.goto 9, 3) := by decide +kernel
theorem dX12_windowJob_171 : decode cX12_windowJob 171 = .ok (.iload_n 2, 1) := by decide +kernel
theorem dX12_windowJob_172 : decode cX12_windowJob 172 = .ok (.aload_n 0, 1) := by decide +kernel
theorem dX12_windowJob_173 : decode cX12_windowJob 173 = .ok (.getfield 63, 3) := by decide +kernel
theorem dX12_windowJob_176 : decode cX12_windowJob 176 = .ok (.idiv, 1) := by decide +kernel
theorem dX12_windowJob_177 : decode cX12_windowJob 177 = .ok (.ireturn, 1) := by decide +kernel
theorem dX12_windowDue_0 : decode cX12_windowDue 0 = .ok (.aload_n 0, 1) := by decide +kernel
theorem dX12_windowDue_1 : decode cX12_windowDue 1 = .ok (.invokevirtual 137, 3) := by decide +kernel
theorem dX12_windowDue_4 : decode cX12_windowDue 4 = .ok (.ifCond .eq 16, 3) := by decide +kernel
theorem dX12_windowDue_7 : decode cX12_windowDue 7 = .ok (.aload_n 0, 1) := by decide +kernel
theorem dX12_windowDue_8 : decode cX12_windowDue 8 = .ok (.getfield 13, 3) := by decide +kernel
theorem dX12_windowDue_11 : decode cX12_windowDue 11 = .ok (.aload_n 0, 1) := by decide +kernel
theorem dX12_windowDue_12 : decode cX12_windowDue 12 = .ok (.iconst 1, 1) := by decide +kernel
theorem dX12_windowDue_13 : decode cX12_windowDue 13 = .ok (.invokevirtual 192, 3) := by decide +kernel
theorem dX12_windowDue_16 : decode cX12_windowDue 16 = .ok (.iaload, 1) := by decide +kernel
theorem dX12_windowDue_17 : decode cX12_windowDue 17 = .ok (.goto 4, 3) := by decide +kernel
theorem dX12_windowDue_20 : decode cX12_windowDue 20 = .ok (.iconst 0, 1) := by decide +kernel
theorem dX12_windowDue_21 : decode cX12_windowDue 21 = .ok (.ireturn, 1) := by decide +kernel
theorem dX12_windowRelease_0 : decode cX12_windowRelease 0 = .ok (.aload_n 0, 1) := by decide +kernel
theorem dX12_windowRelease_1 : decode cX12_windowRelease 1 = .ok (.invokevirtual 137, 3) := by decide +kernel
theorem dX12_windowRelease_4 : decode cX12_windowRelease 4 = .ok (.ifCond .eq 16, 3) := by decide +kernel
theorem dX12_windowRelease_7 : decode cX12_windowRelease 7 = .ok (.aload_n 0, 1) := by decide +kernel
theorem dX12_windowRelease_8 : decode cX12_windowRelease 8 = .ok (.getfield 19, 3) := by decide +kernel
theorem dX12_windowRelease_11 : decode cX12_windowRelease 11 = .ok (.aload_n 0, 1) := by decide +kernel
theorem dX12_windowRelease_12 : decode cX12_windowRelease 12 = .ok (.iconst 0, 1) := by decide +kernel
theorem dX12_windowRelease_13 : decode cX12_windowRelease 13 = .ok (.invokevirtual 192, 3) := by decide +kernel
theorem dX12_windowRelease_16 : decode cX12_windowRelease 16 = .ok (.iaload, 1) := by decide +kernel
theorem dX12_windowRelease_17 : decode cX12_windowRelease 17 = .ok (.goto 4, 3) := by decide +kernel
theorem dX12_windowRelease_20 : decode cX12_windowRelease 20 = .ok (.iconst 0, 1) := by decide +kernel
theorem dX12_windowRelease_21 : decode cX12_windowRelease 21 = .ok (.ireturn, 1) := by decide +kernel
theorem dJx29ce0_ordinal_8abf5_0 : decode cJx29ce0_ordinal_8abf5 0 = .ok (.aload_n 0, 1) := by decide +kernel
theorem dJx29ce0_ordinal_8abf5_1 : decode cJx29ce0_ordinal_8abf5 1 = .ok (.getfield 7, 3) := by decide +kernel
theorem dJx29ce0_ordinal_8abf5_4 : decode cJx29ce0_ordinal_8abf5 4 = .ok (.ireturn, 1) := by decide +kernel
theorem dJ6_bitCount_0f7a4_0 : decode cJ6_bitCount_0f7a4 0 = .ok (.iload_n 0, 1) := by decide +kernel
theorem dJ6_bitCount_0f7a4_1 : decode cJ6_bitCount_0f7a4 1 = .ok (.iload_n 0, 1) := by decide +kernel
theorem dJ6_bitCount_0f7a4_2 : decode cJ6_bitCount_0f7a4 2 = .ok (.iconst 1, 1) := by decide +kernel
theorem dJ6_bitCount_0f7a4_3 : decode cJ6_bitCount_0f7a4 3 = .ok (.iushr, 1) := by decide +kernel
theorem dJ6_bitCount_0f7a4_4 : decode cJ6_bitCount_0f7a4 4 = .ok (.ldc_w 265, 3) := by decide +kernel
theorem dJ6_bitCount_0f7a4_7 : decode cJ6_bitCount_0f7a4 7 = .ok (.iand, 1) := by decide +kernel
theorem dJ6_bitCount_0f7a4_8 : decode cJ6_bitCount_0f7a4 8 = .ok (.isub, 1) := by decide +kernel
theorem dJ6_bitCount_0f7a4_9 : decode cJ6_bitCount_0f7a4 9 = .ok (.istore_n 0, 1) := by decide +kernel
theorem dJ6_bitCount_0f7a4_10 : decode cJ6_bitCount_0f7a4 10 = .ok (.iload_n 0, 1) := by decide +kernel
theorem dJ6_bitCount_0f7a4_11 : decode cJ6_bitCount_0f7a4 11 = .ok (.ldc_w 266, 3) := by decide +kernel
theorem dJ6_bitCount_0f7a4_14 : decode cJ6_bitCount_0f7a4 14 = .ok (.iand, 1) := by decide +kernel
theorem dJ6_bitCount_0f7a4_15 : decode cJ6_bitCount_0f7a4 15 = .ok (.iload_n 0, 1) := by decide +kernel
theorem dJ6_bitCount_0f7a4_16 : decode cJ6_bitCount_0f7a4 16 = .ok (.iconst 2, 1) := by decide +kernel
theorem dJ6_bitCount_0f7a4_17 : decode cJ6_bitCount_0f7a4 17 = .ok (.iushr, 1) := by decide +kernel
theorem dJ6_bitCount_0f7a4_18 : decode cJ6_bitCount_0f7a4 18 = .ok (.ldc_w 266, 3) := by decide +kernel
theorem dJ6_bitCount_0f7a4_21 : decode cJ6_bitCount_0f7a4 21 = .ok (.iand, 1) := by decide +kernel
theorem dJ6_bitCount_0f7a4_22 : decode cJ6_bitCount_0f7a4 22 = .ok (.iadd, 1) := by decide +kernel
theorem dJ6_bitCount_0f7a4_23 : decode cJ6_bitCount_0f7a4 23 = .ok (.istore_n 0, 1) := by decide +kernel
theorem dJ6_bitCount_0f7a4_24 : decode cJ6_bitCount_0f7a4 24 = .ok (.iload_n 0, 1) := by decide +kernel
theorem dJ6_bitCount_0f7a4_25 : decode cJ6_bitCount_0f7a4 25 = .ok (.iload_n 0, 1) := by decide +kernel
theorem dJ6_bitCount_0f7a4_26 : decode cJ6_bitCount_0f7a4 26 = .ok (.iconst 4, 1) := by decide +kernel
theorem dJ6_bitCount_0f7a4_27 : decode cJ6_bitCount_0f7a4 27 = .ok (.iushr, 1) := by decide +kernel
theorem dJ6_bitCount_0f7a4_28 : decode cJ6_bitCount_0f7a4 28 = .ok (.iadd, 1) := by decide +kernel
theorem dJ6_bitCount_0f7a4_29 : decode cJ6_bitCount_0f7a4 29 = .ok (.ldc_w 267, 3) := by decide +kernel
theorem dJ6_bitCount_0f7a4_32 : decode cJ6_bitCount_0f7a4 32 = .ok (.iand, 1) := by decide +kernel
theorem dJ6_bitCount_0f7a4_33 : decode cJ6_bitCount_0f7a4 33 = .ok (.istore_n 0, 1) := by decide +kernel
theorem dJ6_bitCount_0f7a4_34 : decode cJ6_bitCount_0f7a4 34 = .ok (.iload_n 0, 1) := by decide +kernel
theorem dJ6_bitCount_0f7a4_35 : decode cJ6_bitCount_0f7a4 35 = .ok (.iload_n 0, 1) := by decide +kernel
theorem dJ6_bitCount_0f7a4_36 : decode cJ6_bitCount_0f7a4 36 = .ok (.bipush 8, 2) := by decide +kernel
theorem dJ6_bitCount_0f7a4_38 : decode cJ6_bitCount_0f7a4 38 = .ok (.iushr, 1) := by decide +kernel
theorem dJ6_bitCount_0f7a4_39 : decode cJ6_bitCount_0f7a4 39 = .ok (.iadd, 1) := by decide +kernel
theorem dJ6_bitCount_0f7a4_40 : decode cJ6_bitCount_0f7a4 40 = .ok (.istore_n 0, 1) := by decide +kernel
theorem dJ6_bitCount_0f7a4_41 : decode cJ6_bitCount_0f7a4 41 = .ok (.iload_n 0, 1) := by decide +kernel
theorem dJ6_bitCount_0f7a4_42 : decode cJ6_bitCount_0f7a4 42 = .ok (.iload_n 0, 1) := by decide +kernel
theorem dJ6_bitCount_0f7a4_43 : decode cJ6_bitCount_0f7a4 43 = .ok (.bipush 16, 2) := by decide +kernel
theorem dJ6_bitCount_0f7a4_45 : decode cJ6_bitCount_0f7a4 45 = .ok (.iushr, 1) := by decide +kernel
theorem dJ6_bitCount_0f7a4_46 : decode cJ6_bitCount_0f7a4 46 = .ok (.iadd, 1) := by decide +kernel
theorem dJ6_bitCount_0f7a4_47 : decode cJ6_bitCount_0f7a4 47 = .ok (.istore_n 0, 1) := by decide +kernel
theorem dJ6_bitCount_0f7a4_48 : decode cJ6_bitCount_0f7a4 48 = .ok (.iload_n 0, 1) := by decide +kernel
theorem dJ6_bitCount_0f7a4_49 : decode cJ6_bitCount_0f7a4 49 = .ok (.bipush 63, 2) := by decide +kernel
theorem dJ6_bitCount_0f7a4_51 : decode cJ6_bitCount_0f7a4 51 = .ok (.iand, 1) := by decide +kernel
theorem dJ6_bitCount_0f7a4_52 : decode cJ6_bitCount_0f7a4 52 = .ok (.ireturn, 1) := by decide +kernel
theorem dJ9_max_7cf53_0 : decode cJ9_max_7cf53 0 = .ok (.iload_n 0, 1) := by decide +kernel
theorem dJ9_max_7cf53_1 : decode cJ9_max_7cf53 1 = .ok (.iload_n 1, 1) := by decide +kernel
theorem dJ9_max_7cf53_2 : decode cJ9_max_7cf53 2 = .ok (.if_icmp .lt 7, 3) := by decide +kernel
theorem dJ9_max_7cf53_5 : decode cJ9_max_7cf53 5 = .ok (.iload_n 0, 1) := by decide +kernel
theorem dJ9_max_7cf53_6 : decode cJ9_max_7cf53 6 = .ok (.goto 4, 3) := by decide +kernel
theorem dJ9_max_7cf53_9 : decode cJ9_max_7cf53 9 = .ok (.iload_n 1, 1) := by decide +kernel
theorem dJ9_max_7cf53_10 : decode cJ9_max_7cf53 10 = .ok (.ireturn, 1) := by decide +kernel
theorem dJ9_min_7cf53_0 : decode cJ9_min_7cf53 0 = .ok (.iload_n 0, 1) := by decide +kernel
theorem dJ9_min_7cf53_1 : decode cJ9_min_7cf53 1 = .ok (.iload_n 1, 1) := by decide +kernel
theorem dJ9_min_7cf53_2 : decode cJ9_min_7cf53 2 = .ok (.if_icmp .gt 7, 3) := by decide +kernel
theorem dJ9_min_7cf53_5 : decode cJ9_min_7cf53 5 = .ok (.iload_n 0, 1) := by decide +kernel
theorem dJ9_min_7cf53_6 : decode cJ9_min_7cf53 6 = .ok (.goto 4, 3) := by decide +kernel
theorem dJ9_min_7cf53_9 : decode cJ9_min_7cf53 9 = .ok (.iload_n 1, 1) := by decide +kernel
theorem dJ9_min_7cf53_10 : decode cJ9_min_7cf53 10 = .ok (.ireturn, 1) := by decide +kernel
theorem dL_addJob_0 : decode cL_addJob 0 = .ok (.aload 6, 2) := by decide +kernel
theorem dL_addJob_2 : decode cL_addJob 2 = .ok (.iconst 0, 1) := by decide +kernel
theorem dL_addJob_3 : decode cL_addJob 3 = .ok (.aload_n 0, 1) := by decide +kernel
theorem dL_addJob_4 : decode cL_addJob 4 = .ok (.iload_n 1, 1) := by decide +kernel
theorem dL_addJob_5 : decode cL_addJob 5 = .ok (.iload_n 2, 1) := by decide +kernel
theorem dL_addJob_6 : decode cL_addJob 6 = .ok (.iload_n 3, 1) := by decide +kernel
theorem dL_addJob_7 : decode cL_addJob 7 = .ok (.iload 4, 2) := by decide +kernel
theorem dL_addJob_9 : decode cL_addJob 9 = .ok (.iload 5, 2) := by decide +kernel
theorem dL_addJob_11 : decode cL_addJob 11 = .ok (.invokevirtual 7, 3) := by decide +kernel
theorem dL_addJob_14 : decode cL_addJob 14 = .ok (.i2l, 1) := by decide +kernel
theorem dL_addJob_15 : decode cL_addJob 15 = .ok (.lastore, 1) := by decide +kernel
theorem dL_addJob_16 : decode cL_addJob 16 = .ok (.goto 11, 3) := by decide +kernel
theorem dL_addJob_19 : decode cL_addJob 19 = .ok (.astore 7, 2) := by decide +kernel
theorem dL_addJob_21 : decode cL_addJob 21 = .ok (.iconst 1, 1) := by decide +kernel
theorem dL_addJob_22 : decode cL_addJob 22 = .ok (.ireturn, 1) := by decide +kernel
theorem dL_addJob_23 : decode cL_addJob 23 = .ok (.astore 7, 2) := by decide +kernel
theorem dL_addJob_25 : decode cL_addJob 25 = .ok (.iconst 2, 1) := by decide +kernel
theorem dL_addJob_26 : decode cL_addJob 26 = .ok (.ireturn, 1) := by decide +kernel
theorem dL_addJob_27 : decode cL_addJob 27 = .ok (.iconst 0, 1) := by decide +kernel
theorem dL_addJob_28 : decode cL_addJob 28 = .ok (.ireturn, 1) := by decide +kernel
theorem dL_changeJob_0 : decode cL_changeJob 0 = .ok (.aload_n 0, 1) := by decide +kernel
theorem dL_changeJob_1 : decode cL_changeJob 1 = .ok (.iload_n 1, 1) := by decide +kernel
theorem dL_changeJob_2 : decode cL_changeJob 2 = .ok (.iload_n 2, 1) := by decide +kernel
theorem dL_changeJob_3 : decode cL_changeJob 3 = .ok (.iload_n 3, 1) := by decide +kernel
theorem dL_changeJob_4 : decode cL_changeJob 4 = .ok (.iload 4, 2) := by decide +kernel
theorem dL_changeJob_6 : decode cL_changeJob 6 = .ok (.iload 5, 2) := by decide +kernel
theorem dL_changeJob_8 : decode cL_changeJob 8 = .ok (.iload 6, 2) := by decide +kernel
theorem dL_changeJob_10 : decode cL_changeJob 10 = .ok (.invokevirtual 17, 3) := by decide +kernel
theorem dL_changeJob_13 : decode cL_changeJob 13 = .ok (.goto 11, 3) := by decide +kernel
theorem dL_changeJob_16 : decode cL_changeJob 16 = .ok (.astore 7, 2) := by decide +kernel
theorem dL_changeJob_18 : decode cL_changeJob 18 = .ok (.iconst 1, 1) := by decide +kernel
theorem dL_changeJob_19 : decode cL_changeJob 19 = .ok (.ireturn, 1) := by decide +kernel
theorem dL_changeJob_20 : decode cL_changeJob 20 = .ok (.astore 7, 2) := by decide +kernel
theorem dL_changeJob_22 : decode cL_changeJob 22 = .ok (.iconst 2, 1) := by decide +kernel
theorem dL_changeJob_23 : decode cL_changeJob 23 = .ok (.ireturn, 1) := by decide +kernel
theorem dL_changeJob_24 : decode cL_changeJob 24 = .ok (.iconst 0, 1) := by decide +kernel
theorem dL_changeJob_25 : decode cL_changeJob 25 = .ok (.ireturn, 1) := by decide +kernel
theorem dL_removeJob_0 : decode cL_removeJob 0 = .ok (.aload_n 2, 1) := by decide +kernel
theorem dL_removeJob_1 : decode cL_removeJob 1 = .ok (.iconst 0, 1) := by decide +kernel
theorem dL_removeJob_2 : decode cL_removeJob 2 = .ok (.aload_n 0, 1) := by decide +kernel
theorem dL_removeJob_3 : decode cL_removeJob 3 = .ok (.iload_n 1, 1) := by decide +kernel
theorem dL_removeJob_4 : decode cL_removeJob 4 = .ok (.invokevirtual 23, 3) := by decide +kernel
theorem dL_removeJob_7 : decode cL_removeJob 7 = .ok (.i2l, 1) := by decide +kernel
theorem dL_removeJob_8 : decode cL_removeJob 8 = .ok (.lastore, 1) := by decide +kernel
theorem dL_removeJob_9 : decode cL_removeJob 9 = .ok (.goto 6, 3) := by decide +kernel
theorem dL_removeJob_12 : decode cL_removeJob 12 = .ok (.astore_n 3, 1) := by decide +kernel
theorem dL_removeJob_13 : decode cL_removeJob 13 = .ok (.iconst 1, 1) := by decide +kernel
theorem dL_removeJob_14 : decode cL_removeJob 14 = .ok (.ireturn, 1) := by decide +kernel
theorem dL_removeJob_15 : decode cL_removeJob 15 = .ok (.iconst 0, 1) := by decide +kernel
theorem dL_removeJob_16 : decode cL_removeJob 16 = .ok (.ireturn, 1) := by decide +kernel
theorem dL_setSetup_0 : decode cL_setSetup 0 = .ok (.aload_n 3, 1) := by decide +kernel
theorem dL_setSetup_1 : decode cL_setSetup 1 = .ok (.iconst 0, 1) := by decide +kernel
theorem dL_setSetup_2 : decode cL_setSetup 2 = .ok (.aload_n 0, 1) := by decide +kernel
theorem dL_setSetup_3 : decode cL_setSetup 3 = .ok (.iload_n 1, 1) := by decide +kernel
theorem dL_setSetup_4 : decode cL_setSetup 4 = .ok (.iload_n 2, 1) := by decide +kernel
theorem dL_setSetup_5 : decode cL_setSetup 5 = .ok (.invokevirtual 27, 3) := by decide +kernel
theorem dL_setSetup_8 : decode cL_setSetup 8 = .ok (.i2l, 1) := by decide +kernel
theorem dL_setSetup_9 : decode cL_setSetup 9 = .ok (.lastore, 1) := by decide +kernel
theorem dL_setSetup_10 : decode cL_setSetup 10 = .ok (.goto 11, 3) := by decide +kernel
theorem dL_setSetup_13 : decode cL_setSetup 13 = .ok (.astore 4, 2) := by decide +kernel
theorem dL_setSetup_15 : decode cL_setSetup 15 = .ok (.iconst 1, 1) := by decide +kernel
theorem dL_setSetup_16 : decode cL_setSetup 16 = .ok (.ireturn, 1) := by decide +kernel
theorem dL_setSetup_17 : decode cL_setSetup 17 = .ok (.astore 4, 2) := by decide +kernel
theorem dL_setSetup_19 : decode cL_setSetup 19 = .ok (.iconst 2, 1) := by decide +kernel
theorem dL_setSetup_20 : decode cL_setSetup 20 = .ok (.ireturn, 1) := by decide +kernel
theorem dL_setSetup_21 : decode cL_setSetup 21 = .ok (.iconst 0, 1) := by decide +kernel
theorem dL_setSetup_22 : decode cL_setSetup 22 = .ok (.ireturn, 1) := by decide +kernel
theorem dL_planByDueDates_0 : decode cL_planByDueDates 0 = .ok (.aload_n 1, 1) := by decide +kernel
theorem dL_planByDueDates_1 : decode cL_planByDueDates 1 = .ok (.iconst 0, 1) := by decide +kernel
theorem dL_planByDueDates_2 : decode cL_planByDueDates 2 = .ok (.aload_n 0, 1) := by decide +kernel
theorem dL_planByDueDates_3 : decode cL_planByDueDates 3 = .ok (.invokevirtual 31, 3) := by decide +kernel
theorem dL_planByDueDates_6 : decode cL_planByDueDates 6 = .ok (.i2l, 1) := by decide +kernel
theorem dL_planByDueDates_7 : decode cL_planByDueDates 7 = .ok (.lastore, 1) := by decide +kernel
theorem dL_planByDueDates_8 : decode cL_planByDueDates 8 = .ok (.goto 6, 3) := by decide +kernel
theorem dL_planByDueDates_11 : decode cL_planByDueDates 11 = .ok (.astore_n 2, 1) := by decide +kernel
theorem dL_planByDueDates_12 : decode cL_planByDueDates 12 = .ok (.iconst 1, 1) := by decide +kernel
theorem dL_planByDueDates_13 : decode cL_planByDueDates 13 = .ok (.ireturn, 1) := by decide +kernel
theorem dL_planByDueDates_14 : decode cL_planByDueDates 14 = .ok (.iconst 0, 1) := by decide +kernel
theorem dL_planByDueDates_15 : decode cL_planByDueDates 15 = .ok (.ireturn, 1) := by decide +kernel
theorem dL_planFewestLate_0 : decode cL_planFewestLate 0 = .ok (.aload_n 1, 1) := by decide +kernel
theorem dL_planFewestLate_1 : decode cL_planFewestLate 1 = .ok (.iconst 0, 1) := by decide +kernel
theorem dL_planFewestLate_2 : decode cL_planFewestLate 2 = .ok (.aload_n 0, 1) := by decide +kernel
theorem dL_planFewestLate_3 : decode cL_planFewestLate 3 = .ok (.invokevirtual 35, 3) := by decide +kernel
theorem dL_planFewestLate_6 : decode cL_planFewestLate 6 = .ok (.i2l, 1) := by decide +kernel
theorem dL_planFewestLate_7 : decode cL_planFewestLate 7 = .ok (.lastore, 1) := by decide +kernel
theorem dL_planFewestLate_8 : decode cL_planFewestLate 8 = .ok (.goto 6, 3) := by decide +kernel
theorem dL_planFewestLate_11 : decode cL_planFewestLate 11 = .ok (.astore_n 2, 1) := by decide +kernel
theorem dL_planFewestLate_12 : decode cL_planFewestLate 12 = .ok (.iconst 1, 1) := by decide +kernel
theorem dL_planFewestLate_13 : decode cL_planFewestLate 13 = .ok (.ireturn, 1) := by decide +kernel
theorem dL_planFewestLate_14 : decode cL_planFewestLate 14 = .ok (.iconst 0, 1) := by decide +kernel
theorem dL_planFewestLate_15 : decode cL_planFewestLate 15 = .ok (.ireturn, 1) := by decide +kernel
theorem dL_planByRatios_0 : decode cL_planByRatios 0 = .ok (.aload_n 1, 1) := by decide +kernel
theorem dL_planByRatios_1 : decode cL_planByRatios 1 = .ok (.iconst 0, 1) := by decide +kernel
theorem dL_planByRatios_2 : decode cL_planByRatios 2 = .ok (.aload_n 0, 1) := by decide +kernel
theorem dL_planByRatios_3 : decode cL_planByRatios 3 = .ok (.invokevirtual 38, 3) := by decide +kernel
theorem dL_planByRatios_6 : decode cL_planByRatios 6 = .ok (.i2l, 1) := by decide +kernel
theorem dL_planByRatios_7 : decode cL_planByRatios 7 = .ok (.lastore, 1) := by decide +kernel
theorem dL_planByRatios_8 : decode cL_planByRatios 8 = .ok (.goto 6, 3) := by decide +kernel
theorem dL_planByRatios_11 : decode cL_planByRatios 11 = .ok (.astore_n 2, 1) := by decide +kernel
theorem dL_planByRatios_12 : decode cL_planByRatios 12 = .ok (.iconst 1, 1) := by decide +kernel
theorem dL_planByRatios_13 : decode cL_planByRatios 13 = .ok (.ireturn, 1) := by decide +kernel
theorem dL_planByRatios_14 : decode cL_planByRatios 14 = .ok (.iconst 0, 1) := by decide +kernel
theorem dL_planByRatios_15 : decode cL_planByRatios 15 = .ok (.ireturn, 1) := by decide +kernel
theorem dL_planLeastTardiness_0 : decode cL_planLeastTardiness 0 = .ok (.aload_n 1, 1) := by decide +kernel
theorem dL_planLeastTardiness_1 : decode cL_planLeastTardiness 1 = .ok (.iconst 0, 1) := by decide +kernel
theorem dL_planLeastTardiness_2 : decode cL_planLeastTardiness 2 = .ok (.aload_n 0, 1) := by decide +kernel
theorem dL_planLeastTardiness_3 : decode cL_planLeastTardiness 3 = .ok (.invokevirtual 41, 3) := by decide +kernel
theorem dL_planLeastTardiness_6 : decode cL_planLeastTardiness 6 = .ok (.i2l, 1) := by decide +kernel
theorem dL_planLeastTardiness_7 : decode cL_planLeastTardiness 7 = .ok (.lastore, 1) := by decide +kernel
theorem dL_planLeastTardiness_8 : decode cL_planLeastTardiness 8 = .ok (.goto 6, 3) := by decide +kernel
theorem dL_planLeastTardiness_11 : decode cL_planLeastTardiness 11 = .ok (.astore_n 2, 1) := by decide +kernel
theorem dL_planLeastTardiness_12 : decode cL_planLeastTardiness 12 = .ok (.iconst 1, 1) := by decide +kernel
theorem dL_planLeastTardiness_13 : decode cL_planLeastTardiness 13 = .ok (.ireturn, 1) := by decide +kernel
theorem dL_planLeastTardiness_14 : decode cL_planLeastTardiness 14 = .ok (.iconst 0, 1) := by decide +kernel
theorem dL_planLeastTardiness_15 : decode cL_planLeastTardiness 15 = .ok (.ireturn, 1) := by decide +kernel
theorem dL_planByFamilies_0 : decode cL_planByFamilies 0 = .ok (.aload_n 1, 1) := by decide +kernel
theorem dL_planByFamilies_1 : decode cL_planByFamilies 1 = .ok (.iconst 0, 1) := by decide +kernel
theorem dL_planByFamilies_2 : decode cL_planByFamilies 2 = .ok (.aload_n 0, 1) := by decide +kernel
theorem dL_planByFamilies_3 : decode cL_planByFamilies 3 = .ok (.invokevirtual 44, 3) := by decide +kernel
theorem dL_planByFamilies_6 : decode cL_planByFamilies 6 = .ok (.i2l, 1) := by decide +kernel
theorem dL_planByFamilies_7 : decode cL_planByFamilies 7 = .ok (.lastore, 1) := by decide +kernel
theorem dL_planByFamilies_8 : decode cL_planByFamilies 8 = .ok (.goto 6, 3) := by decide +kernel
theorem dL_planByFamilies_11 : decode cL_planByFamilies 11 = .ok (.astore_n 2, 1) := by decide +kernel
theorem dL_planByFamilies_12 : decode cL_planByFamilies 12 = .ok (.iconst 1, 1) := by decide +kernel
theorem dL_planByFamilies_13 : decode cL_planByFamilies 13 = .ok (.ireturn, 1) := by decide +kernel
theorem dL_planByFamilies_14 : decode cL_planByFamilies 14 = .ok (.iconst 0, 1) := by decide +kernel
theorem dL_planByFamilies_15 : decode cL_planByFamilies 15 = .ok (.ireturn, 1) := by decide +kernel
theorem dL_planPreemptiveByDates_0 : decode cL_planPreemptiveByDates 0 = .ok (.aload_n 1, 1) := by decide +kernel
theorem dL_planPreemptiveByDates_1 : decode cL_planPreemptiveByDates 1 = .ok (.iconst 0, 1) := by decide +kernel
theorem dL_planPreemptiveByDates_2 : decode cL_planPreemptiveByDates 2 = .ok (.aload_n 0, 1) := by decide +kernel
theorem dL_planPreemptiveByDates_3 : decode cL_planPreemptiveByDates 3 = .ok (.invokevirtual 47, 3) := by decide +kernel
theorem dL_planPreemptiveByDates_6 : decode cL_planPreemptiveByDates 6 = .ok (.i2l, 1) := by decide +kernel
theorem dL_planPreemptiveByDates_7 : decode cL_planPreemptiveByDates 7 = .ok (.lastore, 1) := by decide +kernel
theorem dL_planPreemptiveByDates_8 : decode cL_planPreemptiveByDates 8 = .ok (.goto 6, 3) := by decide +kernel
theorem dL_planPreemptiveByDates_11 : decode cL_planPreemptiveByDates 11 = .ok (.astore_n 2, 1) := by decide +kernel
theorem dL_planPreemptiveByDates_12 : decode cL_planPreemptiveByDates 12 = .ok (.iconst 1, 1) := by decide +kernel
theorem dL_planPreemptiveByDates_13 : decode cL_planPreemptiveByDates 13 = .ok (.ireturn, 1) := by decide +kernel
theorem dL_planPreemptiveByDates_14 : decode cL_planPreemptiveByDates 14 = .ok (.iconst 0, 1) := by decide +kernel
theorem dL_planPreemptiveByDates_15 : decode cL_planPreemptiveByDates 15 = .ok (.ireturn, 1) := by decide +kernel
theorem dL_planPreemptiveShortest_0 : decode cL_planPreemptiveShortest 0 = .ok (.aload_n 1, 1) := by decide +kernel
theorem dL_planPreemptiveShortest_1 : decode cL_planPreemptiveShortest 1 = .ok (.iconst 0, 1) := by decide +kernel
theorem dL_planPreemptiveShortest_2 : decode cL_planPreemptiveShortest 2 = .ok (.aload_n 0, 1) := by decide +kernel
theorem dL_planPreemptiveShortest_3 : decode cL_planPreemptiveShortest 3 = .ok (.invokevirtual 50, 3) := by decide +kernel
theorem dL_planPreemptiveShortest_6 : decode cL_planPreemptiveShortest 6 = .ok (.i2l, 1) := by decide +kernel
theorem dL_planPreemptiveShortest_7 : decode cL_planPreemptiveShortest 7 = .ok (.lastore, 1) := by decide +kernel
theorem dL_planPreemptiveShortest_8 : decode cL_planPreemptiveShortest 8 = .ok (.goto 6, 3) := by decide +kernel
theorem dL_planPreemptiveShortest_11 : decode cL_planPreemptiveShortest 11 = .ok (.astore_n 2, 1) := by decide +kernel
theorem dL_planPreemptiveShortest_12 : decode cL_planPreemptiveShortest 12 = .ok (.iconst 1, 1) := by decide +kernel
theorem dL_planPreemptiveShortest_13 : decode cL_planPreemptiveShortest 13 = .ok (.ireturn, 1) := by decide +kernel
theorem dL_planPreemptiveShortest_14 : decode cL_planPreemptiveShortest 14 = .ok (.iconst 0, 1) := by decide +kernel
theorem dL_planPreemptiveShortest_15 : decode cL_planPreemptiveShortest 15 = .ok (.ireturn, 1) := by decide +kernel
theorem dL_kindOf_0 : decode cL_kindOf 0 = .ok (.aload_n 2, 1) := by decide +kernel
theorem dL_kindOf_1 : decode cL_kindOf 1 = .ok (.iconst 0, 1) := by decide +kernel
theorem dL_kindOf_2 : decode cL_kindOf 2 = .ok (.aload_n 0, 1) := by decide +kernel
theorem dL_kindOf_3 : decode cL_kindOf 3 = .ok (.iload_n 1, 1) := by decide +kernel
theorem dL_kindOf_4 : decode cL_kindOf 4 = .ok (.invokevirtual 53, 3) := by decide +kernel
theorem dL_kindOf_7 : decode cL_kindOf 7 = .ok (.i2l, 1) := by decide +kernel
theorem dL_kindOf_8 : decode cL_kindOf 8 = .ok (.lastore, 1) := by decide +kernel
theorem dL_kindOf_9 : decode cL_kindOf 9 = .ok (.goto 6, 3) := by decide +kernel
theorem dL_kindOf_12 : decode cL_kindOf 12 = .ok (.astore_n 3, 1) := by decide +kernel
theorem dL_kindOf_13 : decode cL_kindOf 13 = .ok (.iconst 1, 1) := by decide +kernel
theorem dL_kindOf_14 : decode cL_kindOf 14 = .ok (.ireturn, 1) := by decide +kernel
theorem dL_kindOf_15 : decode cL_kindOf 15 = .ok (.iconst 0, 1) := by decide +kernel
theorem dL_kindOf_16 : decode cL_kindOf 16 = .ok (.ireturn, 1) := by decide +kernel
theorem dL_whoseIs_0 : decode cL_whoseIs 0 = .ok (.aload_n 2, 1) := by decide +kernel
theorem dL_whoseIs_1 : decode cL_whoseIs 1 = .ok (.iconst 0, 1) := by decide +kernel
theorem dL_whoseIs_2 : decode cL_whoseIs 2 = .ok (.aload_n 0, 1) := by decide +kernel
theorem dL_whoseIs_3 : decode cL_whoseIs 3 = .ok (.iload_n 1, 1) := by decide +kernel
theorem dL_whoseIs_4 : decode cL_whoseIs 4 = .ok (.invokevirtual 56, 3) := by decide +kernel
theorem dL_whoseIs_7 : decode cL_whoseIs 7 = .ok (.i2l, 1) := by decide +kernel
theorem dL_whoseIs_8 : decode cL_whoseIs 8 = .ok (.lastore, 1) := by decide +kernel
theorem dL_whoseIs_9 : decode cL_whoseIs 9 = .ok (.goto 6, 3) := by decide +kernel
theorem dL_whoseIs_12 : decode cL_whoseIs 12 = .ok (.astore_n 3, 1) := by decide +kernel
theorem dL_whoseIs_13 : decode cL_whoseIs 13 = .ok (.iconst 1, 1) := by decide +kernel
theorem dL_whoseIs_14 : decode cL_whoseIs 14 = .ok (.ireturn, 1) := by decide +kernel
theorem dL_whoseIs_15 : decode cL_whoseIs 15 = .ok (.iconst 0, 1) := by decide +kernel
theorem dL_whoseIs_16 : decode cL_whoseIs 16 = .ok (.ireturn, 1) := by decide +kernel
theorem dL_startOf_0 : decode cL_startOf 0 = .ok (.aload_n 2, 1) := by decide +kernel
theorem dL_startOf_1 : decode cL_startOf 1 = .ok (.iconst 0, 1) := by decide +kernel
theorem dL_startOf_2 : decode cL_startOf 2 = .ok (.aload_n 0, 1) := by decide +kernel
theorem dL_startOf_3 : decode cL_startOf 3 = .ok (.iload_n 1, 1) := by decide +kernel
theorem dL_startOf_4 : decode cL_startOf 4 = .ok (.invokevirtual 59, 3) := by decide +kernel
theorem dL_startOf_7 : decode cL_startOf 7 = .ok (.i2l, 1) := by decide +kernel
theorem dL_startOf_8 : decode cL_startOf 8 = .ok (.lastore, 1) := by decide +kernel
theorem dL_startOf_9 : decode cL_startOf 9 = .ok (.goto 6, 3) := by decide +kernel
theorem dL_startOf_12 : decode cL_startOf 12 = .ok (.astore_n 3, 1) := by decide +kernel
theorem dL_startOf_13 : decode cL_startOf 13 = .ok (.iconst 1, 1) := by decide +kernel
theorem dL_startOf_14 : decode cL_startOf 14 = .ok (.ireturn, 1) := by decide +kernel
theorem dL_startOf_15 : decode cL_startOf 15 = .ok (.iconst 0, 1) := by decide +kernel
theorem dL_startOf_16 : decode cL_startOf 16 = .ok (.ireturn, 1) := by decide +kernel
theorem dL_endOf_0 : decode cL_endOf 0 = .ok (.aload_n 2, 1) := by decide +kernel
theorem dL_endOf_1 : decode cL_endOf 1 = .ok (.iconst 0, 1) := by decide +kernel
theorem dL_endOf_2 : decode cL_endOf 2 = .ok (.aload_n 0, 1) := by decide +kernel
theorem dL_endOf_3 : decode cL_endOf 3 = .ok (.iload_n 1, 1) := by decide +kernel
theorem dL_endOf_4 : decode cL_endOf 4 = .ok (.invokevirtual 62, 3) := by decide +kernel
theorem dL_endOf_7 : decode cL_endOf 7 = .ok (.i2l, 1) := by decide +kernel
theorem dL_endOf_8 : decode cL_endOf 8 = .ok (.lastore, 1) := by decide +kernel
theorem dL_endOf_9 : decode cL_endOf 9 = .ok (.goto 6, 3) := by decide +kernel
theorem dL_endOf_12 : decode cL_endOf 12 = .ok (.astore_n 3, 1) := by decide +kernel
theorem dL_endOf_13 : decode cL_endOf 13 = .ok (.iconst 1, 1) := by decide +kernel
theorem dL_endOf_14 : decode cL_endOf 14 = .ok (.ireturn, 1) := by decide +kernel
theorem dL_endOf_15 : decode cL_endOf 15 = .ok (.iconst 0, 1) := by decide +kernel
theorem dL_endOf_16 : decode cL_endOf 16 = .ok (.ireturn, 1) := by decide +kernel
theorem dL_completion_0 : decode cL_completion 0 = .ok (.aload_n 2, 1) := by decide +kernel
theorem dL_completion_1 : decode cL_completion 1 = .ok (.iconst 0, 1) := by decide +kernel
theorem dL_completion_2 : decode cL_completion 2 = .ok (.aload_n 0, 1) := by decide +kernel
theorem dL_completion_3 : decode cL_completion 3 = .ok (.iload_n 1, 1) := by decide +kernel
theorem dL_completion_4 : decode cL_completion 4 = .ok (.invokevirtual 65, 3) := by decide +kernel
theorem dL_completion_7 : decode cL_completion 7 = .ok (.i2l, 1) := by decide +kernel
theorem dL_completion_8 : decode cL_completion 8 = .ok (.lastore, 1) := by decide +kernel
theorem dL_completion_9 : decode cL_completion 9 = .ok (.goto 9, 3) := by decide +kernel
theorem dL_completion_12 : decode cL_completion 12 = .ok (.astore_n 3, 1) := by decide +kernel
theorem dL_completion_13 : decode cL_completion 13 = .ok (.iconst 1, 1) := by decide +kernel
theorem dL_completion_14 : decode cL_completion 14 = .ok (.ireturn, 1) := by decide +kernel
theorem dL_completion_15 : decode cL_completion 15 = .ok (.astore_n 3, 1) := by decide +kernel
theorem dL_completion_16 : decode cL_completion 16 = .ok (.iconst 2, 1) := by decide +kernel
theorem dL_completion_17 : decode cL_completion 17 = .ok (.ireturn, 1) := by decide +kernel
theorem dL_completion_18 : decode cL_completion 18 = .ok (.iconst 0, 1) := by decide +kernel
theorem dL_completion_19 : decode cL_completion 19 = .ok (.ireturn, 1) := by decide +kernel
theorem dL_lateness_0 : decode cL_lateness 0 = .ok (.aload_n 2, 1) := by decide +kernel
theorem dL_lateness_1 : decode cL_lateness 1 = .ok (.iconst 0, 1) := by decide +kernel
theorem dL_lateness_2 : decode cL_lateness 2 = .ok (.aload_n 0, 1) := by decide +kernel
theorem dL_lateness_3 : decode cL_lateness 3 = .ok (.iload_n 1, 1) := by decide +kernel
theorem dL_lateness_4 : decode cL_lateness 4 = .ok (.invokevirtual 68, 3) := by decide +kernel
theorem dL_lateness_7 : decode cL_lateness 7 = .ok (.i2l, 1) := by decide +kernel
theorem dL_lateness_8 : decode cL_lateness 8 = .ok (.lastore, 1) := by decide +kernel
theorem dL_lateness_9 : decode cL_lateness 9 = .ok (.goto 9, 3) := by decide +kernel
theorem dL_lateness_12 : decode cL_lateness 12 = .ok (.astore_n 3, 1) := by decide +kernel
theorem dL_lateness_13 : decode cL_lateness 13 = .ok (.iconst 1, 1) := by decide +kernel
theorem dL_lateness_14 : decode cL_lateness 14 = .ok (.ireturn, 1) := by decide +kernel
theorem dL_lateness_15 : decode cL_lateness 15 = .ok (.astore_n 3, 1) := by decide +kernel
theorem dL_lateness_16 : decode cL_lateness 16 = .ok (.iconst 2, 1) := by decide +kernel
theorem dL_lateness_17 : decode cL_lateness 17 = .ok (.ireturn, 1) := by decide +kernel
theorem dL_lateness_18 : decode cL_lateness 18 = .ok (.iconst 0, 1) := by decide +kernel
theorem dL_lateness_19 : decode cL_lateness 19 = .ok (.ireturn, 1) := by decide +kernel
theorem dL_maxLateness_0 : decode cL_maxLateness 0 = .ok (.aload_n 1, 1) := by decide +kernel
theorem dL_maxLateness_1 : decode cL_maxLateness 1 = .ok (.iconst 0, 1) := by decide +kernel
theorem dL_maxLateness_2 : decode cL_maxLateness 2 = .ok (.aload_n 0, 1) := by decide +kernel
theorem dL_maxLateness_3 : decode cL_maxLateness 3 = .ok (.invokevirtual 71, 3) := by decide +kernel
theorem dL_maxLateness_6 : decode cL_maxLateness 6 = .ok (.i2l, 1) := by decide +kernel
theorem dL_maxLateness_7 : decode cL_maxLateness 7 = .ok (.lastore, 1) := by decide +kernel
theorem dL_maxLateness_8 : decode cL_maxLateness 8 = .ok (.goto 6, 3) := by decide +kernel
theorem dL_maxLateness_11 : decode cL_maxLateness 11 = .ok (.astore_n 2, 1) := by decide +kernel
theorem dL_maxLateness_12 : decode cL_maxLateness 12 = .ok (.iconst 1, 1) := by decide +kernel
theorem dL_maxLateness_13 : decode cL_maxLateness 13 = .ok (.ireturn, 1) := by decide +kernel
theorem dL_maxLateness_14 : decode cL_maxLateness 14 = .ok (.iconst 0, 1) := by decide +kernel
theorem dL_maxLateness_15 : decode cL_maxLateness 15 = .ok (.ireturn, 1) := by decide +kernel
theorem dL_lateJobs_0 : decode cL_lateJobs 0 = .ok (.aload_n 1, 1) := by decide +kernel
theorem dL_lateJobs_1 : decode cL_lateJobs 1 = .ok (.iconst 0, 1) := by decide +kernel
theorem dL_lateJobs_2 : decode cL_lateJobs 2 = .ok (.aload_n 0, 1) := by decide +kernel
theorem dL_lateJobs_3 : decode cL_lateJobs 3 = .ok (.invokevirtual 74, 3) := by decide +kernel
theorem dL_lateJobs_6 : decode cL_lateJobs 6 = .ok (.i2l, 1) := by decide +kernel
theorem dL_lateJobs_7 : decode cL_lateJobs 7 = .ok (.lastore, 1) := by decide +kernel
theorem dL_lateJobs_8 : decode cL_lateJobs 8 = .ok (.goto 6, 3) := by decide +kernel
theorem dL_lateJobs_11 : decode cL_lateJobs 11 = .ok (.astore_n 2, 1) := by decide +kernel
theorem dL_lateJobs_12 : decode cL_lateJobs 12 = .ok (.iconst 1, 1) := by decide +kernel
theorem dL_lateJobs_13 : decode cL_lateJobs 13 = .ok (.ireturn, 1) := by decide +kernel
theorem dL_lateJobs_14 : decode cL_lateJobs 14 = .ok (.iconst 0, 1) := by decide +kernel
theorem dL_lateJobs_15 : decode cL_lateJobs 15 = .ok (.ireturn, 1) := by decide +kernel
theorem dL_completions_0 : decode cL_completions 0 = .ok (.aload_n 1, 1) := by decide +kernel
theorem dL_completions_1 : decode cL_completions 1 = .ok (.iconst 0, 1) := by decide +kernel
theorem dL_completions_2 : decode cL_completions 2 = .ok (.aload_n 0, 1) := by decide +kernel
theorem dL_completions_3 : decode cL_completions 3 = .ok (.invokevirtual 77, 3) := by decide +kernel
theorem dL_completions_6 : decode cL_completions 6 = .ok (.i2l, 1) := by decide +kernel
theorem dL_completions_7 : decode cL_completions 7 = .ok (.lastore, 1) := by decide +kernel
theorem dL_completions_8 : decode cL_completions 8 = .ok (.goto 6, 3) := by decide +kernel
theorem dL_completions_11 : decode cL_completions 11 = .ok (.astore_n 2, 1) := by decide +kernel
theorem dL_completions_12 : decode cL_completions 12 = .ok (.iconst 1, 1) := by decide +kernel
theorem dL_completions_13 : decode cL_completions 13 = .ok (.ireturn, 1) := by decide +kernel
theorem dL_completions_14 : decode cL_completions 14 = .ok (.iconst 0, 1) := by decide +kernel
theorem dL_completions_15 : decode cL_completions 15 = .ok (.ireturn, 1) := by decide +kernel
theorem dL_weightedCompletions_0 : decode cL_weightedCompletions 0 = .ok (.aload_n 1, 1) := by decide +kernel
theorem dL_weightedCompletions_1 : decode cL_weightedCompletions 1 = .ok (.iconst 0, 1) := by decide +kernel
theorem dL_weightedCompletions_2 : decode cL_weightedCompletions 2 = .ok (.aload_n 0, 1) := by decide +kernel
theorem dL_weightedCompletions_3 : decode cL_weightedCompletions 3 = .ok (.invokevirtual 80, 3) := by decide +kernel
theorem dL_weightedCompletions_6 : decode cL_weightedCompletions 6 = .ok (.i2l, 1) := by decide +kernel
theorem dL_weightedCompletions_7 : decode cL_weightedCompletions 7 = .ok (.lastore, 1) := by decide +kernel
theorem dL_weightedCompletions_8 : decode cL_weightedCompletions 8 = .ok (.goto 6, 3) := by decide +kernel
theorem dL_weightedCompletions_11 : decode cL_weightedCompletions 11 = .ok (.astore_n 2, 1) := by decide +kernel
theorem dL_weightedCompletions_12 : decode cL_weightedCompletions 12 = .ok (.iconst 1, 1) := by decide +kernel
theorem dL_weightedCompletions_13 : decode cL_weightedCompletions 13 = .ok (.ireturn, 1) := by decide +kernel
theorem dL_weightedCompletions_14 : decode cL_weightedCompletions 14 = .ok (.iconst 0, 1) := by decide +kernel
theorem dL_weightedCompletions_15 : decode cL_weightedCompletions 15 = .ok (.ireturn, 1) := by decide +kernel
theorem dL_weightedTardiness_0 : decode cL_weightedTardiness 0 = .ok (.aload_n 1, 1) := by decide +kernel
theorem dL_weightedTardiness_1 : decode cL_weightedTardiness 1 = .ok (.iconst 0, 1) := by decide +kernel
theorem dL_weightedTardiness_2 : decode cL_weightedTardiness 2 = .ok (.aload_n 0, 1) := by decide +kernel
theorem dL_weightedTardiness_3 : decode cL_weightedTardiness 3 = .ok (.invokevirtual 83, 3) := by decide +kernel
theorem dL_weightedTardiness_6 : decode cL_weightedTardiness 6 = .ok (.i2l, 1) := by decide +kernel
theorem dL_weightedTardiness_7 : decode cL_weightedTardiness 7 = .ok (.lastore, 1) := by decide +kernel
theorem dL_weightedTardiness_8 : decode cL_weightedTardiness 8 = .ok (.goto 6, 3) := by decide +kernel
theorem dL_weightedTardiness_11 : decode cL_weightedTardiness 11 = .ok (.astore_n 2, 1) := by decide +kernel
theorem dL_weightedTardiness_12 : decode cL_weightedTardiness 12 = .ok (.iconst 1, 1) := by decide +kernel
theorem dL_weightedTardiness_13 : decode cL_weightedTardiness 13 = .ok (.ireturn, 1) := by decide +kernel
theorem dL_weightedTardiness_14 : decode cL_weightedTardiness 14 = .ok (.iconst 0, 1) := by decide +kernel
theorem dL_weightedTardiness_15 : decode cL_weightedTardiness 15 = .ok (.ireturn, 1) := by decide +kernel
theorem dL_leastLateness_0 : decode cL_leastLateness 0 = .ok (.aload_n 1, 1) := by decide +kernel
theorem dL_leastLateness_1 : decode cL_leastLateness 1 = .ok (.iconst 0, 1) := by decide +kernel
theorem dL_leastLateness_2 : decode cL_leastLateness 2 = .ok (.aload_n 0, 1) := by decide +kernel
theorem dL_leastLateness_3 : decode cL_leastLateness 3 = .ok (.invokevirtual 86, 3) := by decide +kernel
theorem dL_leastLateness_6 : decode cL_leastLateness 6 = .ok (.i2l, 1) := by decide +kernel
theorem dL_leastLateness_7 : decode cL_leastLateness 7 = .ok (.lastore, 1) := by decide +kernel
theorem dL_leastLateness_8 : decode cL_leastLateness 8 = .ok (.goto 6, 3) := by decide +kernel
theorem dL_leastLateness_11 : decode cL_leastLateness 11 = .ok (.astore_n 2, 1) := by decide +kernel
theorem dL_leastLateness_12 : decode cL_leastLateness 12 = .ok (.iconst 1, 1) := by decide +kernel
theorem dL_leastLateness_13 : decode cL_leastLateness 13 = .ok (.ireturn, 1) := by decide +kernel
theorem dL_leastLateness_14 : decode cL_leastLateness 14 = .ok (.iconst 0, 1) := by decide +kernel
theorem dL_leastLateness_15 : decode cL_leastLateness 15 = .ok (.ireturn, 1) := by decide +kernel
theorem dL_leastCompletions_0 : decode cL_leastCompletions 0 = .ok (.aload_n 1, 1) := by decide +kernel
theorem dL_leastCompletions_1 : decode cL_leastCompletions 1 = .ok (.iconst 0, 1) := by decide +kernel
theorem dL_leastCompletions_2 : decode cL_leastCompletions 2 = .ok (.aload_n 0, 1) := by decide +kernel
theorem dL_leastCompletions_3 : decode cL_leastCompletions 3 = .ok (.invokevirtual 89, 3) := by decide +kernel
theorem dL_leastCompletions_6 : decode cL_leastCompletions 6 = .ok (.i2l, 1) := by decide +kernel
theorem dL_leastCompletions_7 : decode cL_leastCompletions 7 = .ok (.lastore, 1) := by decide +kernel
theorem dL_leastCompletions_8 : decode cL_leastCompletions 8 = .ok (.goto 6, 3) := by decide +kernel
theorem dL_leastCompletions_11 : decode cL_leastCompletions 11 = .ok (.astore_n 2, 1) := by decide +kernel
theorem dL_leastCompletions_12 : decode cL_leastCompletions 12 = .ok (.iconst 1, 1) := by decide +kernel
theorem dL_leastCompletions_13 : decode cL_leastCompletions 13 = .ok (.ireturn, 1) := by decide +kernel
theorem dL_leastCompletions_14 : decode cL_leastCompletions 14 = .ok (.iconst 0, 1) := by decide +kernel
theorem dL_leastCompletions_15 : decode cL_leastCompletions 15 = .ok (.ireturn, 1) := by decide +kernel
theorem dL_leastTardiness_0 : decode cL_leastTardiness 0 = .ok (.aload_n 1, 1) := by decide +kernel
theorem dL_leastTardiness_1 : decode cL_leastTardiness 1 = .ok (.iconst 0, 1) := by decide +kernel
theorem dL_leastTardiness_2 : decode cL_leastTardiness 2 = .ok (.aload_n 0, 1) := by decide +kernel
theorem dL_leastTardiness_3 : decode cL_leastTardiness 3 = .ok (.invokevirtual 92, 3) := by decide +kernel
theorem dL_leastTardiness_6 : decode cL_leastTardiness 6 = .ok (.i2l, 1) := by decide +kernel
theorem dL_leastTardiness_7 : decode cL_leastTardiness 7 = .ok (.lastore, 1) := by decide +kernel
theorem dL_leastTardiness_8 : decode cL_leastTardiness 8 = .ok (.goto 6, 3) := by decide +kernel
theorem dL_leastTardiness_11 : decode cL_leastTardiness 11 = .ok (.astore_n 2, 1) := by decide +kernel
theorem dL_leastTardiness_12 : decode cL_leastTardiness 12 = .ok (.iconst 1, 1) := by decide +kernel
theorem dL_leastTardiness_13 : decode cL_leastTardiness 13 = .ok (.ireturn, 1) := by decide +kernel
theorem dL_leastTardiness_14 : decode cL_leastTardiness 14 = .ok (.iconst 0, 1) := by decide +kernel
theorem dL_leastTardiness_15 : decode cL_leastTardiness 15 = .ok (.ireturn, 1) := by decide +kernel
theorem dL_leastWithSetups_0 : decode cL_leastWithSetups 0 = .ok (.aload_n 1, 1) := by decide +kernel
theorem dL_leastWithSetups_1 : decode cL_leastWithSetups 1 = .ok (.iconst 0, 1) := by decide +kernel
theorem dL_leastWithSetups_2 : decode cL_leastWithSetups 2 = .ok (.aload_n 0, 1) := by decide +kernel
theorem dL_leastWithSetups_3 : decode cL_leastWithSetups 3 = .ok (.invokevirtual 95, 3) := by decide +kernel
theorem dL_leastWithSetups_6 : decode cL_leastWithSetups 6 = .ok (.i2l, 1) := by decide +kernel
theorem dL_leastWithSetups_7 : decode cL_leastWithSetups 7 = .ok (.lastore, 1) := by decide +kernel
theorem dL_leastWithSetups_8 : decode cL_leastWithSetups 8 = .ok (.goto 6, 3) := by decide +kernel
theorem dL_leastWithSetups_11 : decode cL_leastWithSetups 11 = .ok (.astore_n 2, 1) := by decide +kernel
theorem dL_leastWithSetups_12 : decode cL_leastWithSetups 12 = .ok (.iconst 1, 1) := by decide +kernel
theorem dL_leastWithSetups_13 : decode cL_leastWithSetups 13 = .ok (.ireturn, 1) := by decide +kernel
theorem dL_leastWithSetups_14 : decode cL_leastWithSetups 14 = .ok (.iconst 0, 1) := by decide +kernel
theorem dL_leastWithSetups_15 : decode cL_leastWithSetups 15 = .ok (.ireturn, 1) := by decide +kernel
theorem dL_leastPreemptiveLateness_0 : decode cL_leastPreemptiveLateness 0 = .ok (.aload_n 1, 1) := by decide +kernel
theorem dL_leastPreemptiveLateness_1 : decode cL_leastPreemptiveLateness 1 = .ok (.iconst 0, 1) := by decide +kernel
theorem dL_leastPreemptiveLateness_2 : decode cL_leastPreemptiveLateness 2 = .ok (.aload_n 0, 1) := by decide +kernel
theorem dL_leastPreemptiveLateness_3 : decode cL_leastPreemptiveLateness 3 = .ok (.invokevirtual 98, 3) := by decide +kernel
theorem dL_leastPreemptiveLateness_6 : decode cL_leastPreemptiveLateness 6 = .ok (.i2l, 1) := by decide +kernel
theorem dL_leastPreemptiveLateness_7 : decode cL_leastPreemptiveLateness 7 = .ok (.lastore, 1) := by decide +kernel
theorem dL_leastPreemptiveLateness_8 : decode cL_leastPreemptiveLateness 8 = .ok (.goto 6, 3) := by decide +kernel
theorem dL_leastPreemptiveLateness_11 : decode cL_leastPreemptiveLateness 11 = .ok (.astore_n 2, 1) := by decide +kernel
theorem dL_leastPreemptiveLateness_12 : decode cL_leastPreemptiveLateness 12 = .ok (.iconst 1, 1) := by decide +kernel
theorem dL_leastPreemptiveLateness_13 : decode cL_leastPreemptiveLateness 13 = .ok (.ireturn, 1) := by decide +kernel
theorem dL_leastPreemptiveLateness_14 : decode cL_leastPreemptiveLateness 14 = .ok (.iconst 0, 1) := by decide +kernel
theorem dL_leastPreemptiveLateness_15 : decode cL_leastPreemptiveLateness 15 = .ok (.ireturn, 1) := by decide +kernel
theorem dL_leastPreemptiveCompletions_0 : decode cL_leastPreemptiveCompletions 0 = .ok (.aload_n 1, 1) := by decide +kernel
theorem dL_leastPreemptiveCompletions_1 : decode cL_leastPreemptiveCompletions 1 = .ok (.iconst 0, 1) := by decide +kernel
theorem dL_leastPreemptiveCompletions_2 : decode cL_leastPreemptiveCompletions 2 = .ok (.aload_n 0, 1) := by decide +kernel
theorem dL_leastPreemptiveCompletions_3 : decode cL_leastPreemptiveCompletions 3 = .ok (.invokevirtual 101, 3) := by decide +kernel
theorem dL_leastPreemptiveCompletions_6 : decode cL_leastPreemptiveCompletions 6 = .ok (.i2l, 1) := by decide +kernel
theorem dL_leastPreemptiveCompletions_7 : decode cL_leastPreemptiveCompletions 7 = .ok (.lastore, 1) := by decide +kernel
theorem dL_leastPreemptiveCompletions_8 : decode cL_leastPreemptiveCompletions 8 = .ok (.goto 6, 3) := by decide +kernel
theorem dL_leastPreemptiveCompletions_11 : decode cL_leastPreemptiveCompletions 11 = .ok (.astore_n 2, 1) := by decide +kernel
theorem dL_leastPreemptiveCompletions_12 : decode cL_leastPreemptiveCompletions 12 = .ok (.iconst 1, 1) := by decide +kernel
theorem dL_leastPreemptiveCompletions_13 : decode cL_leastPreemptiveCompletions 13 = .ok (.ireturn, 1) := by decide +kernel
theorem dL_leastPreemptiveCompletions_14 : decode cL_leastPreemptiveCompletions 14 = .ok (.iconst 0, 1) := by decide +kernel
theorem dL_leastPreemptiveCompletions_15 : decode cL_leastPreemptiveCompletions 15 = .ok (.ireturn, 1) := by decide +kernel
theorem dL_canBeOnTime_0 : decode cL_canBeOnTime 0 = .ok (.aload_n 2, 1) := by decide +kernel
theorem dL_canBeOnTime_1 : decode cL_canBeOnTime 1 = .ok (.iconst 0, 1) := by decide +kernel
theorem dL_canBeOnTime_2 : decode cL_canBeOnTime 2 = .ok (.aload_n 0, 1) := by decide +kernel
theorem dL_canBeOnTime_3 : decode cL_canBeOnTime 3 = .ok (.iload_n 1, 1) := by decide +kernel
theorem dL_canBeOnTime_4 : decode cL_canBeOnTime 4 = .ok (.invokevirtual 104, 3) := by decide +kernel
theorem dL_canBeOnTime_7 : decode cL_canBeOnTime 7 = .ok (.ifCond .eq 7, 3) := by decide +kernel
theorem dL_canBeOnTime_10 : decode cL_canBeOnTime 10 = .ok (.lconst 1, 1) := by decide +kernel
theorem dL_canBeOnTime_11 : decode cL_canBeOnTime 11 = .ok (.goto 4, 3) := by decide +kernel
theorem dL_canBeOnTime_14 : decode cL_canBeOnTime 14 = .ok (.lconst 0, 1) := by decide +kernel
theorem dL_canBeOnTime_15 : decode cL_canBeOnTime 15 = .ok (.lastore, 1) := by decide +kernel
theorem dL_canBeOnTime_16 : decode cL_canBeOnTime 16 = .ok (.goto 6, 3) := by decide +kernel
theorem dL_canBeOnTime_19 : decode cL_canBeOnTime 19 = .ok (.astore_n 3, 1) := by decide +kernel
theorem dL_canBeOnTime_20 : decode cL_canBeOnTime 20 = .ok (.iconst 1, 1) := by decide +kernel
theorem dL_canBeOnTime_21 : decode cL_canBeOnTime 21 = .ok (.ireturn, 1) := by decide +kernel
theorem dL_canBeOnTime_22 : decode cL_canBeOnTime 22 = .ok (.iconst 0, 1) := by decide +kernel
theorem dL_canBeOnTime_23 : decode cL_canBeOnTime 23 = .ok (.ireturn, 1) := by decide +kernel
theorem dL_windowBound_0 : decode cL_windowBound 0 = .ok (.aload_n 2, 1) := by decide +kernel
theorem dL_windowBound_1 : decode cL_windowBound 1 = .ok (.iconst 0, 1) := by decide +kernel
theorem dL_windowBound_2 : decode cL_windowBound 2 = .ok (.aload_n 0, 1) := by decide +kernel
theorem dL_windowBound_3 : decode cL_windowBound 3 = .ok (.iload_n 1, 1) := by decide +kernel
theorem dL_windowBound_4 : decode cL_windowBound 4 = .ok (.invokevirtual 108, 3) := by decide +kernel
theorem dL_windowBound_7 : decode cL_windowBound 7 = .ok (.i2l, 1) := by decide +kernel
theorem dL_windowBound_8 : decode cL_windowBound 8 = .ok (.lastore, 1) := by decide +kernel
theorem dL_windowBound_9 : decode cL_windowBound 9 = .ok (.goto 6, 3) := by decide +kernel
theorem dL_windowBound_12 : decode cL_windowBound 12 = .ok (.astore_n 3, 1) := by decide +kernel
theorem dL_windowBound_13 : decode cL_windowBound 13 = .ok (.iconst 1, 1) := by decide +kernel
theorem dL_windowBound_14 : decode cL_windowBound 14 = .ok (.ireturn, 1) := by decide +kernel
theorem dL_windowBound_15 : decode cL_windowBound 15 = .ok (.iconst 0, 1) := by decide +kernel
theorem dL_windowBound_16 : decode cL_windowBound 16 = .ok (.ireturn, 1) := by decide +kernel
theorem dL_windowDue_0 : decode cL_windowDue 0 = .ok (.aload_n 1, 1) := by decide +kernel
theorem dL_windowDue_1 : decode cL_windowDue 1 = .ok (.iconst 0, 1) := by decide +kernel
theorem dL_windowDue_2 : decode cL_windowDue 2 = .ok (.aload_n 0, 1) := by decide +kernel
theorem dL_windowDue_3 : decode cL_windowDue 3 = .ok (.invokevirtual 112, 3) := by decide +kernel
theorem dL_windowDue_6 : decode cL_windowDue 6 = .ok (.i2l, 1) := by decide +kernel
theorem dL_windowDue_7 : decode cL_windowDue 7 = .ok (.lastore, 1) := by decide +kernel
theorem dL_windowDue_8 : decode cL_windowDue 8 = .ok (.goto 6, 3) := by decide +kernel
theorem dL_windowDue_11 : decode cL_windowDue 11 = .ok (.astore_n 2, 1) := by decide +kernel
theorem dL_windowDue_12 : decode cL_windowDue 12 = .ok (.iconst 1, 1) := by decide +kernel
theorem dL_windowDue_13 : decode cL_windowDue 13 = .ok (.ireturn, 1) := by decide +kernel
theorem dL_windowDue_14 : decode cL_windowDue 14 = .ok (.iconst 0, 1) := by decide +kernel
theorem dL_windowDue_15 : decode cL_windowDue 15 = .ok (.ireturn, 1) := by decide +kernel
theorem dL_windowRelease_0 : decode cL_windowRelease 0 = .ok (.aload_n 1, 1) := by decide +kernel
theorem dL_windowRelease_1 : decode cL_windowRelease 1 = .ok (.iconst 0, 1) := by decide +kernel
theorem dL_windowRelease_2 : decode cL_windowRelease 2 = .ok (.aload_n 0, 1) := by decide +kernel
theorem dL_windowRelease_3 : decode cL_windowRelease 3 = .ok (.invokevirtual 115, 3) := by decide +kernel
theorem dL_windowRelease_6 : decode cL_windowRelease 6 = .ok (.i2l, 1) := by decide +kernel
theorem dL_windowRelease_7 : decode cL_windowRelease 7 = .ok (.lastore, 1) := by decide +kernel
theorem dL_windowRelease_8 : decode cL_windowRelease 8 = .ok (.goto 6, 3) := by decide +kernel
theorem dL_windowRelease_11 : decode cL_windowRelease 11 = .ok (.astore_n 2, 1) := by decide +kernel
theorem dL_windowRelease_12 : decode cL_windowRelease 12 = .ok (.iconst 1, 1) := by decide +kernel
theorem dL_windowRelease_13 : decode cL_windowRelease 13 = .ok (.ireturn, 1) := by decide +kernel
theorem dL_windowRelease_14 : decode cL_windowRelease 14 = .ok (.iconst 0, 1) := by decide +kernel
theorem dL_windowRelease_15 : decode cL_windowRelease 15 = .ok (.ireturn, 1) := by decide +kernel
theorem dL_law_0 : decode cL_law 0 = .ok (.new 8, 3) := by decide +kernel
theorem dL_law_3 : decode cL_law 3 = .ok (.dup, 1) := by decide +kernel
theorem dL_law_4 : decode cL_law 4 = .ok (.invokespecial 118, 3) := by decide +kernel
theorem dL_law_7 : decode cL_law 7 = .ok (.astore_n 1, 1) := by decide +kernel
theorem dL_law_8 : decode cL_law 8 = .ok (.new 119, 3) := by decide +kernel
theorem dL_law_11 : decode cL_law 11 = .ok (.dup, 1) := by decide +kernel
theorem dL_law_12 : decode cL_law 12 = .ok (.invokespecial 121, 3) := by decide +kernel
theorem dL_law_15 : decode cL_law 15 = .ok (.astore_n 2, 1) := by decide +kernel
theorem dL_law_16 : decode cL_law 16 = .ok (.iconst 1, 1) := by decide +kernel
theorem dL_law_17 : decode cL_law 17 = .ok (.newarray .long, 2) := by decide +kernel
theorem dL_law_19 : decode cL_law 19 = .ok (.astore_n 3, 1) := by decide +kernel
theorem dL_law_20 : decode cL_law 20 = .ok (.iconst 0, 1) := by decide +kernel
theorem dL_law_21 : decode cL_law 21 = .ok (.istore 4, 2) := by decide +kernel
theorem dL_law_23 : decode cL_law 23 = .ok (.iload 4, 2) := by decide +kernel
theorem dL_law_25 : decode cL_law 25 = .ok (.aload_n 0, 1) := by decide +kernel
theorem dL_law_26 : decode cL_law 26 = .ok (.arraylength, 1) := by decide +kernel
theorem dL_law_27 : decode cL_law 27 = .ok (.bipush 7, 2) := by decide +kernel
theorem dL_law_29 : decode cL_law 29 = .ok (.isub, 1) := by decide +kernel
theorem dL_law_30 : decode cL_law 30 = .ok (.if_icmp .gt 1905, 3) := by decide +kernel
theorem dL_law_33 : decode cL_law 33 = .ok (.aload_n 0, 1) := by decide +kernel
theorem dL_law_34 : decode cL_law 34 = .ok (.iload 4, 2) := by decide +kernel
theorem dL_law_36 : decode cL_law 36 = .ok (.iaload, 1) := by decide +kernel
theorem dL_law_37 : decode cL_law 37 = .ok (.bipush 63, 2) := by decide +kernel
theorem dL_law_39 : decode cL_law 39 = .ok (.iand, 1) := by decide +kernel
theorem dL_law_40 : decode cL_law 40 = .ok (.tableswitch 1889 0 35 #[160, 264, 362, 418, 486, 499, 543, 587, 631, 675, 719, 763, 807, 820, 833, 889, 945, 1001, 1057, 1113, 1169, 1213, 1257, 1301, 1345, 1389, 1433, 1477, 1521, 1565, 1609, 1653, 1716, 1729, 1801, 1845], 160) := by decide +kernel
theorem dL_law_200 : decode cL_law 200 = .ok (.aload_n 1, 1) := by decide +kernel
theorem dL_law_201 : decode cL_law 201 = .ok (.aload_n 0, 1) := by decide +kernel
theorem dL_law_202 : decode cL_law 202 = .ok (.iload 4, 2) := by decide +kernel
theorem dL_law_204 : decode cL_law 204 = .ok (.iconst 1, 1) := by decide +kernel
theorem dL_law_205 : decode cL_law 205 = .ok (.iadd, 1) := by decide +kernel
theorem dL_law_206 : decode cL_law 206 = .ok (.iaload, 1) := by decide +kernel
theorem dL_law_207 : decode cL_law 207 = .ok (.aload_n 0, 1) := by decide +kernel
theorem dL_law_208 : decode cL_law 208 = .ok (.iload 4, 2) := by decide +kernel
theorem dL_law_210 : decode cL_law 210 = .ok (.iconst 2, 1) := by decide +kernel
theorem dL_law_211 : decode cL_law 211 = .ok (.iadd, 1) := by decide +kernel
theorem dL_law_212 : decode cL_law 212 = .ok (.iaload, 1) := by decide +kernel
theorem dL_law_213 : decode cL_law 213 = .ok (.aload_n 0, 1) := by decide +kernel
theorem dL_law_214 : decode cL_law 214 = .ok (.iload 4, 2) := by decide +kernel
theorem dL_law_216 : decode cL_law 216 = .ok (.iconst 3, 1) := by decide +kernel
theorem dL_law_217 : decode cL_law 217 = .ok (.iadd, 1) := by decide +kernel
theorem dL_law_218 : decode cL_law 218 = .ok (.iaload, 1) := by decide +kernel
theorem dL_law_219 : decode cL_law 219 = .ok (.aload_n 0, 1) := by decide +kernel
theorem dL_law_220 : decode cL_law 220 = .ok (.iload 4, 2) := by decide +kernel
theorem dL_law_222 : decode cL_law 222 = .ok (.iconst 4, 1) := by decide +kernel
theorem dL_law_223 : decode cL_law 223 = .ok (.iadd, 1) := by decide +kernel
theorem dL_law_224 : decode cL_law 224 = .ok (.iaload, 1) := by decide +kernel
theorem dL_law_225 : decode cL_law 225 = .ok (.aload_n 0, 1) := by decide +kernel
theorem dL_law_226 : decode cL_law 226 = .ok (.iload 4, 2) := by decide +kernel
theorem dL_law_228 : decode cL_law 228 = .ok (.iconst 5, 1) := by decide +kernel
theorem dL_law_229 : decode cL_law 229 = .ok (.iadd, 1) := by decide +kernel
theorem dL_law_230 : decode cL_law 230 = .ok (.iaload, 1) := by decide +kernel
theorem dL_law_231 : decode cL_law 231 = .ok (.aload_n 3, 1) := by decide +kernel
theorem dL_law_232 : decode cL_law 232 = .ok (.invokestatic 122, 3) := by decide +kernel
theorem dL_law_235 : decode cL_law 235 = .ok (.istore 5, 2) := by decide +kernel
theorem dL_law_237 : decode cL_law 237 = .ok (.aload_n 2, 1) := by decide +kernel
theorem dL_law_238 : decode cL_law 238 = .ok (.aload_n 0, 1) := by decide +kernel
theorem dL_law_239 : decode cL_law 239 = .ok (.iload 4, 2) := by decide +kernel
theorem dL_law_241 : decode cL_law 241 = .ok (.iconst 1, 1) := by decide +kernel
theorem dL_law_242 : decode cL_law 242 = .ok (.iadd, 1) := by decide +kernel
theorem dL_law_243 : decode cL_law 243 = .ok (.iaload, 1) := by decide +kernel
theorem dL_law_244 : decode cL_law 244 = .ok (.aload_n 0, 1) := by decide +kernel
theorem dL_law_245 : decode cL_law 245 = .ok (.iload 4, 2) := by decide +kernel
theorem dL_law_247 : decode cL_law 247 = .ok (.iconst 2, 1) := by decide +kernel
theorem dL_law_248 : decode cL_law 248 = .ok (.iadd, 1) := by decide +kernel
theorem dL_law_249 : decode cL_law 249 = .ok (.iaload, 1) := by decide +kernel
theorem dL_law_250 : decode cL_law 250 = .ok (.aload_n 0, 1) := by decide +kernel
theorem dL_law_251 : decode cL_law 251 = .ok (.iload 4, 2) := by decide +kernel
theorem dL_law_253 : decode cL_law 253 = .ok (.iconst 3, 1) := by decide +kernel
theorem dL_law_254 : decode cL_law 254 = .ok (.iadd, 1) := by decide +kernel
theorem dL_law_255 : decode cL_law 255 = .ok (.iaload, 1) := by decide +kernel
theorem dL_law_256 : decode cL_law 256 = .ok (.aload_n 0, 1) := by decide +kernel
theorem dL_law_257 : decode cL_law 257 = .ok (.iload 4, 2) := by decide +kernel
theorem dL_law_259 : decode cL_law 259 = .ok (.iconst 4, 1) := by decide +kernel
theorem dL_law_260 : decode cL_law 260 = .ok (.iadd, 1) := by decide +kernel
theorem dL_law_261 : decode cL_law 261 = .ok (.iaload, 1) := by decide +kernel
theorem dL_law_262 : decode cL_law 262 = .ok (.aload_n 0, 1) := by decide +kernel
theorem dL_law_263 : decode cL_law 263 = .ok (.iload 4, 2) := by decide +kernel
theorem dL_law_265 : decode cL_law 265 = .ok (.iconst 5, 1) := by decide +kernel
theorem dL_law_266 : decode cL_law 266 = .ok (.iadd, 1) := by decide +kernel
theorem dL_law_267 : decode cL_law 267 = .ok (.iaload, 1) := by decide +kernel
theorem dL_law_268 : decode cL_law 268 = .ok (.invokevirtual 127, 3) := by decide +kernel
theorem dL_law_271 : decode cL_law 271 = .ok (.istore 6, 2) := by decide +kernel
theorem dL_law_273 : decode cL_law 273 = .ok (.aload_n 2, 1) := by decide +kernel
theorem dL_law_274 : decode cL_law 274 = .ok (.invokevirtual 128, 3) := by decide +kernel
theorem dL_law_277 : decode cL_law 277 = .ok (.iload 5, 2) := by decide +kernel
theorem dL_law_279 : decode cL_law 279 = .ok (.if_icmp .eq 5, 3) := by decide +kernel
theorem dL_law_282 : decode cL_law 282 = .ok (.iconst 0, 1) := by decide +kernel
theorem dL_law_283 : decode cL_law 283 = .ok (.ireturn, 1) := by decide +kernel
theorem dL_law_284 : decode cL_law 284 = .ok (.iload 5, 2) := by decide +kernel
theorem dL_law_286 : decode cL_law 286 = .ok (.ifCond .ne 15, 3) := by decide +kernel
theorem dL_law_289 : decode cL_law 289 = .ok (.aload_n 3, 1) := by decide +kernel
theorem dL_law_290 : decode cL_law 290 = .ok (.iconst 0, 1) := by decide +kernel
theorem dL_law_291 : decode cL_law 291 = .ok (.laload, 1) := by decide +kernel
theorem dL_law_292 : decode cL_law 292 = .ok (.iload 6, 2) := by decide +kernel
theorem dL_law_294 : decode cL_law 294 = .ok (.i2l, 1) := by decide +kernel
theorem dL_law_295 : decode cL_law 295 = .ok (.lcmp, 1) := by decide +kernel
theorem dL_law_296 : decode cL_law 296 = .ok (.ifCond .eq 5, 3) := by decide +kernel
theorem dL_law_299 : decode cL_law 299 = .ok (.iconst 0, 1) := by decide +kernel
theorem dL_law_300 : decode cL_law 300 = .ok (.ireturn, 1) := by decide +kernel
theorem dL_law_301 : decode cL_law 301 = .ok (.goto 1628, 3) := by decide +kernel
theorem dL_law_304 : decode cL_law 304 = .ok (.aload_n 1, 1) := by decide +kernel
theorem dL_law_305 : decode cL_law 305 = .ok (.aload_n 0, 1) := by decide +kernel
theorem dL_law_306 : decode cL_law 306 = .ok (.iload 4, 2) := by decide +kernel
theorem dL_law_308 : decode cL_law 308 = .ok (.iconst 1, 1) := by decide +kernel
theorem dL_law_309 : decode cL_law 309 = .ok (.iadd, 1) := by decide +kernel
theorem dL_law_310 : decode cL_law 310 = .ok (.iaload, 1) := by decide +kernel
theorem dL_law_311 : decode cL_law 311 = .ok (.aload_n 0, 1) := by decide +kernel
theorem dL_law_312 : decode cL_law 312 = .ok (.iload 4, 2) := by decide +kernel
theorem dL_law_314 : decode cL_law 314 = .ok (.iconst 2, 1) := by decide +kernel
theorem dL_law_315 : decode cL_law 315 = .ok (.iadd, 1) := by decide +kernel
theorem dL_law_316 : decode cL_law 316 = .ok (.iaload, 1) := by decide +kernel
theorem dL_law_317 : decode cL_law 317 = .ok (.aload_n 0, 1) := by decide +kernel
theorem dL_law_318 : decode cL_law 318 = .ok (.iload 4, 2) := by decide +kernel
theorem dL_law_320 : decode cL_law 320 = .ok (.iconst 3, 1) := by decide +kernel
theorem dL_law_321 : decode cL_law 321 = .ok (.iadd, 1) := by decide +kernel
theorem dL_law_322 : decode cL_law 322 = .ok (.iaload, 1) := by decide +kernel
theorem dL_law_323 : decode cL_law 323 = .ok (.aload_n 0, 1) := by decide +kernel
theorem dL_law_324 : decode cL_law 324 = .ok (.iload 4, 2) := by decide +kernel
theorem dL_law_326 : decode cL_law 326 = .ok (.iconst 4, 1) := by decide +kernel
theorem dL_law_327 : decode cL_law 327 = .ok (.iadd, 1) := by decide +kernel
theorem dL_law_328 : decode cL_law 328 = .ok (.iaload, 1) := by decide +kernel
theorem dL_law_329 : decode cL_law 329 = .ok (.aload_n 0, 1) := by decide +kernel
theorem dL_law_330 : decode cL_law 330 = .ok (.iload 4, 2) := by decide +kernel
theorem dL_law_332 : decode cL_law 332 = .ok (.iconst 5, 1) := by decide +kernel
theorem dL_law_333 : decode cL_law 333 = .ok (.iadd, 1) := by decide +kernel
theorem dL_law_334 : decode cL_law 334 = .ok (.iaload, 1) := by decide +kernel
theorem dL_law_335 : decode cL_law 335 = .ok (.aload_n 0, 1) := by decide +kernel
theorem dL_law_336 : decode cL_law 336 = .ok (.iload 4, 2) := by decide +kernel
theorem dL_law_338 : decode cL_law 338 = .ok (.bipush 6, 2) := by decide +kernel
theorem dL_law_340 : decode cL_law 340 = .ok (.iadd, 1) := by decide +kernel
theorem dL_law_341 : decode cL_law 341 = .ok (.iaload, 1) := by decide +kernel
theorem dL_law_342 : decode cL_law 342 = .ok (.invokestatic 131, 3) := by decide +kernel
theorem dL_law_345 : decode cL_law 345 = .ok (.istore 5, 2) := by decide +kernel
theorem dL_law_347 : decode cL_law 347 = .ok (.aload_n 2, 1) := by decide +kernel
theorem dL_law_348 : decode cL_law 348 = .ok (.aload_n 0, 1) := by decide +kernel
theorem dL_law_349 : decode cL_law 349 = .ok (.iload 4, 2) := by decide +kernel
theorem dL_law_351 : decode cL_law 351 = .ok (.iconst 1, 1) := by decide +kernel
theorem dL_law_352 : decode cL_law 352 = .ok (.iadd, 1) := by decide +kernel
theorem dL_law_353 : decode cL_law 353 = .ok (.iaload, 1) := by decide +kernel
theorem dL_law_354 : decode cL_law 354 = .ok (.aload_n 0, 1) := by decide +kernel
theorem dL_law_355 : decode cL_law 355 = .ok (.iload 4, 2) := by decide +kernel
theorem dL_law_357 : decode cL_law 357 = .ok (.iconst 2, 1) := by decide +kernel
theorem dL_law_358 : decode cL_law 358 = .ok (.iadd, 1) := by decide +kernel
theorem dL_law_359 : decode cL_law 359 = .ok (.iaload, 1) := by decide +kernel
theorem dL_law_360 : decode cL_law 360 = .ok (.aload_n 0, 1) := by decide +kernel
theorem dL_law_361 : decode cL_law 361 = .ok (.iload 4, 2) := by decide +kernel
theorem dL_law_363 : decode cL_law 363 = .ok (.iconst 3, 1) := by decide +kernel
theorem dL_law_364 : decode cL_law 364 = .ok (.iadd, 1) := by decide +kernel
theorem dL_law_365 : decode cL_law 365 = .ok (.iaload, 1) := by decide +kernel
theorem dL_law_366 : decode cL_law 366 = .ok (.aload_n 0, 1) := by decide +kernel
theorem dL_law_367 : decode cL_law 367 = .ok (.iload 4, 2) := by decide +kernel
theorem dL_law_369 : decode cL_law 369 = .ok (.iconst 4, 1) := by decide +kernel
theorem dL_law_370 : decode cL_law 370 = .ok (.iadd, 1) := by decide +kernel
theorem dL_law_371 : decode cL_law 371 = .ok (.iaload, 1) := by decide +kernel
theorem dL_law_372 : decode cL_law 372 = .ok (.aload_n 0, 1) := by decide +kernel
theorem dL_law_373 : decode cL_law 373 = .ok (.iload 4, 2) := by decide +kernel
theorem dL_law_375 : decode cL_law 375 = .ok (.iconst 5, 1) := by decide +kernel
theorem dL_law_376 : decode cL_law 376 = .ok (.iadd, 1) := by decide +kernel
theorem dL_law_377 : decode cL_law 377 = .ok (.iaload, 1) := by decide +kernel
theorem dL_law_378 : decode cL_law 378 = .ok (.aload_n 0, 1) := by decide +kernel
theorem dL_law_379 : decode cL_law 379 = .ok (.iload 4, 2) := by decide +kernel
theorem dL_law_381 : decode cL_law 381 = .ok (.bipush 6, 2) := by decide +kernel
theorem dL_law_383 : decode cL_law 383 = .ok (.iadd, 1) := by decide +kernel
theorem dL_law_384 : decode cL_law 384 = .ok (.iaload, 1) := by decide +kernel
theorem dL_law_385 : decode cL_law 385 = .ok (.invokevirtual 134, 3) := by decide +kernel
theorem dL_law_388 : decode cL_law 388 = .ok (.aload_n 2, 1) := by decide +kernel
theorem dL_law_389 : decode cL_law 389 = .ok (.invokevirtual 128, 3) := by decide +kernel
theorem dL_law_392 : decode cL_law 392 = .ok (.iload 5, 2) := by decide +kernel
theorem dL_law_394 : decode cL_law 394 = .ok (.if_icmp .eq 5, 3) := by decide +kernel
theorem dL_law_397 : decode cL_law 397 = .ok (.iconst 0, 1) := by decide +kernel
theorem dL_law_398 : decode cL_law 398 = .ok (.ireturn, 1) := by decide +kernel
theorem dL_law_399 : decode cL_law 399 = .ok (.goto 1530, 3) := by decide +kernel
theorem dL_law_402 : decode cL_law 402 = .ok (.aload_n 1, 1) := by decide +kernel
theorem dL_law_403 : decode cL_law 403 = .ok (.aload_n 0, 1) := by decide +kernel
theorem dL_law_404 : decode cL_law 404 = .ok (.iload 4, 2) := by decide +kernel
theorem dL_law_406 : decode cL_law 406 = .ok (.iconst 1, 1) := by decide +kernel
theorem dL_law_407 : decode cL_law 407 = .ok (.iadd, 1) := by decide +kernel
theorem dL_law_408 : decode cL_law 408 = .ok (.iaload, 1) := by decide +kernel
theorem dL_law_409 : decode cL_law 409 = .ok (.aload_n 3, 1) := by decide +kernel
theorem dL_law_410 : decode cL_law 410 = .ok (.invokestatic 135, 3) := by decide +kernel
theorem dL_law_413 : decode cL_law 413 = .ok (.istore 5, 2) := by decide +kernel
theorem dL_law_415 : decode cL_law 415 = .ok (.aload_n 2, 1) := by decide +kernel
theorem dL_law_416 : decode cL_law 416 = .ok (.aload_n 0, 1) := by decide +kernel
theorem dL_law_417 : decode cL_law 417 = .ok (.iload 4, 2) := by decide +kernel
theorem dL_law_419 : decode cL_law 419 = .ok (.iconst 1, 1) := by decide +kernel
theorem dL_law_420 : decode cL_law 420 = .ok (.iadd, 1) := by decide +kernel
theorem dL_law_421 : decode cL_law 421 = .ok (.iaload, 1) := by decide +kernel
theorem dL_law_422 : decode cL_law 422 = .ok (.invokevirtual 138, 3) := by decide +kernel
theorem dL_law_425 : decode cL_law 425 = .ok (.istore 6, 2) := by decide +kernel
theorem dL_law_427 : decode cL_law 427 = .ok (.aload_n 2, 1) := by decide +kernel
theorem dL_law_428 : decode cL_law 428 = .ok (.invokevirtual 128, 3) := by decide +kernel
theorem dL_law_431 : decode cL_law 431 = .ok (.iload 5, 2) := by decide +kernel
theorem dL_law_433 : decode cL_law 433 = .ok (.if_icmp .eq 5, 3) := by decide +kernel
theorem dL_law_436 : decode cL_law 436 = .ok (.iconst 0, 1) := by decide +kernel
theorem dL_law_437 : decode cL_law 437 = .ok (.ireturn, 1) := by decide +kernel
theorem dL_law_438 : decode cL_law 438 = .ok (.iload 5, 2) := by decide +kernel
theorem dL_law_440 : decode cL_law 440 = .ok (.ifCond .ne 15, 3) := by decide +kernel
theorem dL_law_443 : decode cL_law 443 = .ok (.aload_n 3, 1) := by decide +kernel
theorem dL_law_444 : decode cL_law 444 = .ok (.iconst 0, 1) := by decide +kernel
theorem dL_law_445 : decode cL_law 445 = .ok (.laload, 1) := by decide +kernel
theorem dL_law_446 : decode cL_law 446 = .ok (.iload 6, 2) := by decide +kernel
theorem dL_law_448 : decode cL_law 448 = .ok (.i2l, 1) := by decide +kernel
theorem dL_law_449 : decode cL_law 449 = .ok (.lcmp, 1) := by decide +kernel
theorem dL_law_450 : decode cL_law 450 = .ok (.ifCond .eq 5, 3) := by decide +kernel
theorem dL_law_453 : decode cL_law 453 = .ok (.iconst 0, 1) := by decide +kernel
theorem dL_law_454 : decode cL_law 454 = .ok (.ireturn, 1) := by decide +kernel
theorem dL_law_455 : decode cL_law 455 = .ok (.goto 1474, 3) := by decide +kernel
theorem dL_law_458 : decode cL_law 458 = .ok (.aload_n 1, 1) := by decide +kernel
theorem dL_law_459 : decode cL_law 459 = .ok (.aload_n 0, 1) := by decide +kernel
theorem dL_law_460 : decode cL_law 460 = .ok (.iload 4, 2) := by decide +kernel
theorem dL_law_462 : decode cL_law 462 = .ok (.iconst 1, 1) := by decide +kernel
theorem dL_law_463 : decode cL_law 463 = .ok (.iadd, 1) := by decide +kernel
theorem dL_law_464 : decode cL_law 464 = .ok (.iaload, 1) := by decide +kernel
theorem dL_law_465 : decode cL_law 465 = .ok (.aload_n 0, 1) := by decide +kernel
theorem dL_law_466 : decode cL_law 466 = .ok (.iload 4, 2) := by decide +kernel
theorem dL_law_468 : decode cL_law 468 = .ok (.iconst 2, 1) := by decide +kernel
theorem dL_law_469 : decode cL_law 469 = .ok (.iadd, 1) := by decide +kernel
theorem dL_law_470 : decode cL_law 470 = .ok (.iaload, 1) := by decide +kernel
theorem dL_law_471 : decode cL_law 471 = .ok (.aload_n 3, 1) := by decide +kernel
theorem dL_law_472 : decode cL_law 472 = .ok (.invokestatic 139, 3) := by decide +kernel
theorem dL_law_475 : decode cL_law 475 = .ok (.istore 5, 2) := by decide +kernel
theorem dL_law_477 : decode cL_law 477 = .ok (.aload_n 2, 1) := by decide +kernel
theorem dL_law_478 : decode cL_law 478 = .ok (.aload_n 0, 1) := by decide +kernel
theorem dL_law_479 : decode cL_law 479 = .ok (.iload 4, 2) := by decide +kernel
theorem dL_law_481 : decode cL_law 481 = .ok (.iconst 1, 1) := by decide +kernel
theorem dL_law_482 : decode cL_law 482 = .ok (.iadd, 1) := by decide +kernel
theorem dL_law_483 : decode cL_law 483 = .ok (.iaload, 1) := by decide +kernel
theorem dL_law_484 : decode cL_law 484 = .ok (.aload_n 0, 1) := by decide +kernel
theorem dL_law_485 : decode cL_law 485 = .ok (.iload 4, 2) := by decide +kernel
theorem dL_law_487 : decode cL_law 487 = .ok (.iconst 2, 1) := by decide +kernel
theorem dL_law_488 : decode cL_law 488 = .ok (.iadd, 1) := by decide +kernel
theorem dL_law_489 : decode cL_law 489 = .ok (.iaload, 1) := by decide +kernel
theorem dL_law_490 : decode cL_law 490 = .ok (.invokevirtual 142, 3) := by decide +kernel
theorem dL_law_493 : decode cL_law 493 = .ok (.istore 6, 2) := by decide +kernel
theorem dL_law_495 : decode cL_law 495 = .ok (.aload_n 2, 1) := by decide +kernel
theorem dL_law_496 : decode cL_law 496 = .ok (.invokevirtual 128, 3) := by decide +kernel
theorem dL_law_499 : decode cL_law 499 = .ok (.iload 5, 2) := by decide +kernel
theorem dL_law_501 : decode cL_law 501 = .ok (.if_icmp .eq 5, 3) := by decide +kernel
theorem dL_law_504 : decode cL_law 504 = .ok (.iconst 0, 1) := by decide +kernel
theorem dL_law_505 : decode cL_law 505 = .ok (.ireturn, 1) := by decide +kernel
theorem dL_law_506 : decode cL_law 506 = .ok (.iload 5, 2) := by decide +kernel
theorem dL_law_508 : decode cL_law 508 = .ok (.ifCond .ne 15, 3) := by decide +kernel
theorem dL_law_511 : decode cL_law 511 = .ok (.aload_n 3, 1) := by decide +kernel
theorem dL_law_512 : decode cL_law 512 = .ok (.iconst 0, 1) := by decide +kernel
theorem dL_law_513 : decode cL_law 513 = .ok (.laload, 1) := by decide +kernel
theorem dL_law_514 : decode cL_law 514 = .ok (.iload 6, 2) := by decide +kernel
theorem dL_law_516 : decode cL_law 516 = .ok (.i2l, 1) := by decide +kernel
theorem dL_law_517 : decode cL_law 517 = .ok (.lcmp, 1) := by decide +kernel
theorem dL_law_518 : decode cL_law 518 = .ok (.ifCond .eq 5, 3) := by decide +kernel
theorem dL_law_521 : decode cL_law 521 = .ok (.iconst 0, 1) := by decide +kernel
theorem dL_law_522 : decode cL_law 522 = .ok (.ireturn, 1) := by decide +kernel
theorem dL_law_523 : decode cL_law 523 = .ok (.goto 1406, 3) := by decide +kernel
theorem dL_law_526 : decode cL_law 526 = .ok (.aload_n 1, 1) := by decide +kernel
theorem dL_law_527 : decode cL_law 527 = .ok (.invokevirtual 143, 3) := by decide +kernel
theorem dL_law_530 : decode cL_law 530 = .ok (.aload_n 2, 1) := by decide +kernel
theorem dL_law_531 : decode cL_law 531 = .ok (.invokevirtual 146, 3) := by decide +kernel
theorem dL_law_534 : decode cL_law 534 = .ok (.if_icmp .eq 1395, 3) := by decide +kernel
theorem dL_law_537 : decode cL_law 537 = .ok (.iconst 0, 1) := by decide +kernel
theorem dL_law_538 : decode cL_law 538 = .ok (.ireturn, 1) := by decide +kernel
theorem dL_law_539 : decode cL_law 539 = .ok (.aload_n 1, 1) := by decide +kernel
theorem dL_law_540 : decode cL_law 540 = .ok (.aload_n 3, 1) := by decide +kernel
theorem dL_law_541 : decode cL_law 541 = .ok (.invokestatic 147, 3) := by decide +kernel
theorem dL_law_544 : decode cL_law 544 = .ok (.istore 5, 2) := by decide +kernel
theorem dL_law_546 : decode cL_law 546 = .ok (.aload_n 2, 1) := by decide +kernel
theorem dL_law_547 : decode cL_law 547 = .ok (.invokevirtual 150, 3) := by decide +kernel
theorem dL_law_550 : decode cL_law 550 = .ok (.istore 6, 2) := by decide +kernel
theorem dL_law_552 : decode cL_law 552 = .ok (.aload_n 2, 1) := by decide +kernel
theorem dL_law_553 : decode cL_law 553 = .ok (.invokevirtual 128, 3) := by decide +kernel
theorem dL_law_556 : decode cL_law 556 = .ok (.iload 5, 2) := by decide +kernel
theorem dL_law_558 : decode cL_law 558 = .ok (.if_icmp .eq 5, 3) := by decide +kernel
theorem dL_law_561 : decode cL_law 561 = .ok (.iconst 0, 1) := by decide +kernel
theorem dL_law_562 : decode cL_law 562 = .ok (.ireturn, 1) := by decide +kernel
theorem dL_law_563 : decode cL_law 563 = .ok (.iload 5, 2) := by decide +kernel
theorem dL_law_565 : decode cL_law 565 = .ok (.ifCond .ne 15, 3) := by decide +kernel
theorem dL_law_568 : decode cL_law 568 = .ok (.aload_n 3, 1) := by decide +kernel
theorem dL_law_569 : decode cL_law 569 = .ok (.iconst 0, 1) := by decide +kernel
theorem dL_law_570 : decode cL_law 570 = .ok (.laload, 1) := by decide +kernel
theorem dL_law_571 : decode cL_law 571 = .ok (.iload 6, 2) := by decide +kernel
theorem dL_law_573 : decode cL_law 573 = .ok (.i2l, 1) := by decide +kernel
theorem dL_law_574 : decode cL_law 574 = .ok (.lcmp, 1) := by decide +kernel
theorem dL_law_575 : decode cL_law 575 = .ok (.ifCond .eq 5, 3) := by decide +kernel
theorem dL_law_578 : decode cL_law 578 = .ok (.iconst 0, 1) := by decide +kernel
theorem dL_law_579 : decode cL_law 579 = .ok (.ireturn, 1) := by decide +kernel
theorem dL_law_580 : decode cL_law 580 = .ok (.goto 1349, 3) := by decide +kernel
theorem dL_law_583 : decode cL_law 583 = .ok (.aload_n 1, 1) := by decide +kernel
theorem dL_law_584 : decode cL_law 584 = .ok (.aload_n 3, 1) := by decide +kernel
theorem dL_law_585 : decode cL_law 585 = .ok (.invokestatic 151, 3) := by decide +kernel
theorem dL_law_588 : decode cL_law 588 = .ok (.istore 5, 2) := by decide +kernel
theorem dL_law_590 : decode cL_law 590 = .ok (.aload_n 2, 1) := by decide +kernel
theorem dL_law_591 : decode cL_law 591 = .ok (.invokevirtual 153, 3) := by decide +kernel
theorem dL_law_594 : decode cL_law 594 = .ok (.istore 6, 2) := by decide +kernel
theorem dL_law_596 : decode cL_law 596 = .ok (.aload_n 2, 1) := by decide +kernel
theorem dL_law_597 : decode cL_law 597 = .ok (.invokevirtual 128, 3) := by decide +kernel
theorem dL_law_600 : decode cL_law 600 = .ok (.iload 5, 2) := by decide +kernel
theorem dL_law_602 : decode cL_law 602 = .ok (.if_icmp .eq 5, 3) := by decide +kernel
theorem dL_law_605 : decode cL_law 605 = .ok (.iconst 0, 1) := by decide +kernel
theorem dL_law_606 : decode cL_law 606 = .ok (.ireturn, 1) := by decide +kernel
theorem dL_law_607 : decode cL_law 607 = .ok (.iload 5, 2) := by decide +kernel
theorem dL_law_609 : decode cL_law 609 = .ok (.ifCond .ne 15, 3) := by decide +kernel
theorem dL_law_612 : decode cL_law 612 = .ok (.aload_n 3, 1) := by decide +kernel
theorem dL_law_613 : decode cL_law 613 = .ok (.iconst 0, 1) := by decide +kernel
theorem dL_law_614 : decode cL_law 614 = .ok (.laload, 1) := by decide +kernel
theorem dL_law_615 : decode cL_law 615 = .ok (.iload 6, 2) := by decide +kernel
theorem dL_law_617 : decode cL_law 617 = .ok (.i2l, 1) := by decide +kernel
theorem dL_law_618 : decode cL_law 618 = .ok (.lcmp, 1) := by decide +kernel
theorem dL_law_619 : decode cL_law 619 = .ok (.ifCond .eq 5, 3) := by decide +kernel
theorem dL_law_622 : decode cL_law 622 = .ok (.iconst 0, 1) := by decide +kernel
theorem dL_law_623 : decode cL_law 623 = .ok (.ireturn, 1) := by decide +kernel
theorem dL_law_624 : decode cL_law 624 = .ok (.goto 1305, 3) := by decide +kernel
theorem dL_law_627 : decode cL_law 627 = .ok (.aload_n 1, 1) := by decide +kernel
theorem dL_law_628 : decode cL_law 628 = .ok (.aload_n 3, 1) := by decide +kernel
theorem dL_law_629 : decode cL_law 629 = .ok (.invokestatic 154, 3) := by decide +kernel
theorem dL_law_632 : decode cL_law 632 = .ok (.istore 5, 2) := by decide +kernel
theorem dL_law_634 : decode cL_law 634 = .ok (.aload_n 2, 1) := by decide +kernel
theorem dL_law_635 : decode cL_law 635 = .ok (.invokevirtual 156, 3) := by decide +kernel
theorem dL_law_638 : decode cL_law 638 = .ok (.istore 6, 2) := by decide +kernel
theorem dL_law_640 : decode cL_law 640 = .ok (.aload_n 2, 1) := by decide +kernel
theorem dL_law_641 : decode cL_law 641 = .ok (.invokevirtual 128, 3) := by decide +kernel
theorem dL_law_644 : decode cL_law 644 = .ok (.iload 5, 2) := by decide +kernel
theorem dL_law_646 : decode cL_law 646 = .ok (.if_icmp .eq 5, 3) := by decide +kernel
theorem dL_law_649 : decode cL_law 649 = .ok (.iconst 0, 1) := by decide +kernel
theorem dL_law_650 : decode cL_law 650 = .ok (.ireturn, 1) := by decide +kernel
theorem dL_law_651 : decode cL_law 651 = .ok (.iload 5, 2) := by decide +kernel
theorem dL_law_653 : decode cL_law 653 = .ok (.ifCond .ne 15, 3) := by decide +kernel
theorem dL_law_656 : decode cL_law 656 = .ok (.aload_n 3, 1) := by decide +kernel
theorem dL_law_657 : decode cL_law 657 = .ok (.iconst 0, 1) := by decide +kernel
theorem dL_law_658 : decode cL_law 658 = .ok (.laload, 1) := by decide +kernel
theorem dL_law_659 : decode cL_law 659 = .ok (.iload 6, 2) := by decide +kernel
theorem dL_law_661 : decode cL_law 661 = .ok (.i2l, 1) := by decide +kernel
theorem dL_law_662 : decode cL_law 662 = .ok (.lcmp, 1) := by decide +kernel
theorem dL_law_663 : decode cL_law 663 = .ok (.ifCond .eq 5, 3) := by decide +kernel
theorem dL_law_666 : decode cL_law 666 = .ok (.iconst 0, 1) := by decide +kernel
theorem dL_law_667 : decode cL_law 667 = .ok (.ireturn, 1) := by decide +kernel
theorem dL_law_668 : decode cL_law 668 = .ok (.goto 1261, 3) := by decide +kernel
theorem dL_law_671 : decode cL_law 671 = .ok (.aload_n 1, 1) := by decide +kernel
theorem dL_law_672 : decode cL_law 672 = .ok (.aload_n 3, 1) := by decide +kernel
theorem dL_law_673 : decode cL_law 673 = .ok (.invokestatic 157, 3) := by decide +kernel
theorem dL_law_676 : decode cL_law 676 = .ok (.istore 5, 2) := by decide +kernel
theorem dL_law_678 : decode cL_law 678 = .ok (.aload_n 2, 1) := by decide +kernel
theorem dL_law_679 : decode cL_law 679 = .ok (.invokevirtual 159, 3) := by decide +kernel
theorem dL_law_682 : decode cL_law 682 = .ok (.istore 6, 2) := by decide +kernel
theorem dL_law_684 : decode cL_law 684 = .ok (.aload_n 2, 1) := by decide +kernel
theorem dL_law_685 : decode cL_law 685 = .ok (.invokevirtual 128, 3) := by decide +kernel
theorem dL_law_688 : decode cL_law 688 = .ok (.iload 5, 2) := by decide +kernel
theorem dL_law_690 : decode cL_law 690 = .ok (.if_icmp .eq 5, 3) := by decide +kernel
theorem dL_law_693 : decode cL_law 693 = .ok (.iconst 0, 1) := by decide +kernel
theorem dL_law_694 : decode cL_law 694 = .ok (.ireturn, 1) := by decide +kernel
theorem dL_law_695 : decode cL_law 695 = .ok (.iload 5, 2) := by decide +kernel
theorem dL_law_697 : decode cL_law 697 = .ok (.ifCond .ne 15, 3) := by decide +kernel
theorem dL_law_700 : decode cL_law 700 = .ok (.aload_n 3, 1) := by decide +kernel
theorem dL_law_701 : decode cL_law 701 = .ok (.iconst 0, 1) := by decide +kernel
theorem dL_law_702 : decode cL_law 702 = .ok (.laload, 1) := by decide +kernel
theorem dL_law_703 : decode cL_law 703 = .ok (.iload 6, 2) := by decide +kernel
theorem dL_law_705 : decode cL_law 705 = .ok (.i2l, 1) := by decide +kernel
theorem dL_law_706 : decode cL_law 706 = .ok (.lcmp, 1) := by decide +kernel
theorem dL_law_707 : decode cL_law 707 = .ok (.ifCond .eq 5, 3) := by decide +kernel
theorem dL_law_710 : decode cL_law 710 = .ok (.iconst 0, 1) := by decide +kernel
theorem dL_law_711 : decode cL_law 711 = .ok (.ireturn, 1) := by decide +kernel
theorem dL_law_712 : decode cL_law 712 = .ok (.goto 1217, 3) := by decide +kernel
theorem dL_law_715 : decode cL_law 715 = .ok (.aload_n 1, 1) := by decide +kernel
theorem dL_law_716 : decode cL_law 716 = .ok (.aload_n 3, 1) := by decide +kernel
theorem dL_law_717 : decode cL_law 717 = .ok (.invokestatic 160, 3) := by decide +kernel
theorem dL_law_720 : decode cL_law 720 = .ok (.istore 5, 2) := by decide +kernel
theorem dL_law_722 : decode cL_law 722 = .ok (.aload_n 2, 1) := by decide +kernel
theorem dL_law_723 : decode cL_law 723 = .ok (.invokevirtual 162, 3) := by decide +kernel
theorem dL_law_726 : decode cL_law 726 = .ok (.istore 6, 2) := by decide +kernel
theorem dL_law_728 : decode cL_law 728 = .ok (.aload_n 2, 1) := by decide +kernel
theorem dL_law_729 : decode cL_law 729 = .ok (.invokevirtual 128, 3) := by decide +kernel
theorem dL_law_732 : decode cL_law 732 = .ok (.iload 5, 2) := by decide +kernel
theorem dL_law_734 : decode cL_law 734 = .ok (.if_icmp .eq 5, 3) := by decide +kernel
theorem dL_law_737 : decode cL_law 737 = .ok (.iconst 0, 1) := by decide +kernel
theorem dL_law_738 : decode cL_law 738 = .ok (.ireturn, 1) := by decide +kernel
theorem dL_law_739 : decode cL_law 739 = .ok (.iload 5, 2) := by decide +kernel
theorem dL_law_741 : decode cL_law 741 = .ok (.ifCond .ne 15, 3) := by decide +kernel
theorem dL_law_744 : decode cL_law 744 = .ok (.aload_n 3, 1) := by decide +kernel
theorem dL_law_745 : decode cL_law 745 = .ok (.iconst 0, 1) := by decide +kernel
theorem dL_law_746 : decode cL_law 746 = .ok (.laload, 1) := by decide +kernel
theorem dL_law_747 : decode cL_law 747 = .ok (.iload 6, 2) := by decide +kernel
theorem dL_law_749 : decode cL_law 749 = .ok (.i2l, 1) := by decide +kernel
theorem dL_law_750 : decode cL_law 750 = .ok (.lcmp, 1) := by decide +kernel
theorem dL_law_751 : decode cL_law 751 = .ok (.ifCond .eq 5, 3) := by decide +kernel
theorem dL_law_754 : decode cL_law 754 = .ok (.iconst 0, 1) := by decide +kernel
theorem dL_law_755 : decode cL_law 755 = .ok (.ireturn, 1) := by decide +kernel
theorem dL_law_756 : decode cL_law 756 = .ok (.goto 1173, 3) := by decide +kernel
theorem dL_law_759 : decode cL_law 759 = .ok (.aload_n 1, 1) := by decide +kernel
theorem dL_law_760 : decode cL_law 760 = .ok (.aload_n 3, 1) := by decide +kernel
theorem dL_law_761 : decode cL_law 761 = .ok (.invokestatic 163, 3) := by decide +kernel
theorem dL_law_764 : decode cL_law 764 = .ok (.istore 5, 2) := by decide +kernel
theorem dL_law_766 : decode cL_law 766 = .ok (.aload_n 2, 1) := by decide +kernel
theorem dL_law_767 : decode cL_law 767 = .ok (.invokevirtual 165, 3) := by decide +kernel
theorem dL_law_770 : decode cL_law 770 = .ok (.istore 6, 2) := by decide +kernel
theorem dL_law_772 : decode cL_law 772 = .ok (.aload_n 2, 1) := by decide +kernel
theorem dL_law_773 : decode cL_law 773 = .ok (.invokevirtual 128, 3) := by decide +kernel
theorem dL_law_776 : decode cL_law 776 = .ok (.iload 5, 2) := by decide +kernel
theorem dL_law_778 : decode cL_law 778 = .ok (.if_icmp .eq 5, 3) := by decide +kernel
theorem dL_law_781 : decode cL_law 781 = .ok (.iconst 0, 1) := by decide +kernel
theorem dL_law_782 : decode cL_law 782 = .ok (.ireturn, 1) := by decide +kernel
theorem dL_law_783 : decode cL_law 783 = .ok (.iload 5, 2) := by decide +kernel
theorem dL_law_785 : decode cL_law 785 = .ok (.ifCond .ne 15, 3) := by decide +kernel
theorem dL_law_788 : decode cL_law 788 = .ok (.aload_n 3, 1) := by decide +kernel
theorem dL_law_789 : decode cL_law 789 = .ok (.iconst 0, 1) := by decide +kernel
theorem dL_law_790 : decode cL_law 790 = .ok (.laload, 1) := by decide +kernel
theorem dL_law_791 : decode cL_law 791 = .ok (.iload 6, 2) := by decide +kernel
theorem dL_law_793 : decode cL_law 793 = .ok (.i2l, 1) := by decide +kernel
theorem dL_law_794 : decode cL_law 794 = .ok (.lcmp, 1) := by decide +kernel
theorem dL_law_795 : decode cL_law 795 = .ok (.ifCond .eq 5, 3) := by decide +kernel
theorem dL_law_798 : decode cL_law 798 = .ok (.iconst 0, 1) := by decide +kernel
theorem dL_law_799 : decode cL_law 799 = .ok (.ireturn, 1) := by decide +kernel
theorem dL_law_800 : decode cL_law 800 = .ok (.goto 1129, 3) := by decide +kernel
theorem dL_law_803 : decode cL_law 803 = .ok (.aload_n 1, 1) := by decide +kernel
theorem dL_law_804 : decode cL_law 804 = .ok (.aload_n 3, 1) := by decide +kernel
theorem dL_law_805 : decode cL_law 805 = .ok (.invokestatic 166, 3) := by decide +kernel
theorem dL_law_808 : decode cL_law 808 = .ok (.istore 5, 2) := by decide +kernel
theorem dL_law_810 : decode cL_law 810 = .ok (.aload_n 2, 1) := by decide +kernel
theorem dL_law_811 : decode cL_law 811 = .ok (.invokevirtual 168, 3) := by decide +kernel
theorem dL_law_814 : decode cL_law 814 = .ok (.istore 6, 2) := by decide +kernel
theorem dL_law_816 : decode cL_law 816 = .ok (.aload_n 2, 1) := by decide +kernel
theorem dL_law_817 : decode cL_law 817 = .ok (.invokevirtual 128, 3) := by decide +kernel
theorem dL_law_820 : decode cL_law 820 = .ok (.iload 5, 2) := by decide +kernel
theorem dL_law_822 : decode cL_law 822 = .ok (.if_icmp .eq 5, 3) := by decide +kernel
theorem dL_law_825 : decode cL_law 825 = .ok (.iconst 0, 1) := by decide +kernel
theorem dL_law_826 : decode cL_law 826 = .ok (.ireturn, 1) := by decide +kernel
theorem dL_law_827 : decode cL_law 827 = .ok (.iload 5, 2) := by decide +kernel
theorem dL_law_829 : decode cL_law 829 = .ok (.ifCond .ne 15, 3) := by decide +kernel
theorem dL_law_832 : decode cL_law 832 = .ok (.aload_n 3, 1) := by decide +kernel
theorem dL_law_833 : decode cL_law 833 = .ok (.iconst 0, 1) := by decide +kernel
theorem dL_law_834 : decode cL_law 834 = .ok (.laload, 1) := by decide +kernel
theorem dL_law_835 : decode cL_law 835 = .ok (.iload 6, 2) := by decide +kernel
theorem dL_law_837 : decode cL_law 837 = .ok (.i2l, 1) := by decide +kernel
theorem dL_law_838 : decode cL_law 838 = .ok (.lcmp, 1) := by decide +kernel
theorem dL_law_839 : decode cL_law 839 = .ok (.ifCond .eq 5, 3) := by decide +kernel
theorem dL_law_842 : decode cL_law 842 = .ok (.iconst 0, 1) := by decide +kernel
theorem dL_law_843 : decode cL_law 843 = .ok (.ireturn, 1) := by decide +kernel
theorem dL_law_844 : decode cL_law 844 = .ok (.goto 1085, 3) := by decide +kernel
theorem dL_law_847 : decode cL_law 847 = .ok (.aload_n 1, 1) := by decide +kernel
theorem dL_law_848 : decode cL_law 848 = .ok (.invokevirtual 169, 3) := by decide +kernel
theorem dL_law_851 : decode cL_law 851 = .ok (.aload_n 2, 1) := by decide +kernel
theorem dL_law_852 : decode cL_law 852 = .ok (.invokevirtual 173, 3) := by decide +kernel
theorem dL_law_855 : decode cL_law 855 = .ok (.if_icmp .eq 1074, 3) := by decide +kernel
theorem dL_law_858 : decode cL_law 858 = .ok (.iconst 0, 1) := by decide +kernel
theorem dL_law_859 : decode cL_law 859 = .ok (.ireturn, 1) := by decide +kernel
theorem dL_law_860 : decode cL_law 860 = .ok (.aload_n 1, 1) := by decide +kernel
theorem dL_law_861 : decode cL_law 861 = .ok (.invokevirtual 174, 3) := by decide +kernel
theorem dL_law_864 : decode cL_law 864 = .ok (.aload_n 2, 1) := by decide +kernel
theorem dL_law_865 : decode cL_law 865 = .ok (.invokevirtual 177, 3) := by decide +kernel
theorem dL_law_868 : decode cL_law 868 = .ok (.if_icmp .eq 1061, 3) := by decide +kernel
theorem dL_law_871 : decode cL_law 871 = .ok (.iconst 0, 1) := by decide +kernel
theorem dL_law_872 : decode cL_law 872 = .ok (.ireturn, 1) := by decide +kernel
theorem dL_law_873 : decode cL_law 873 = .ok (.aload_n 1, 1) := by decide +kernel
theorem dL_law_874 : decode cL_law 874 = .ok (.aload_n 0, 1) := by decide +kernel
theorem dL_law_875 : decode cL_law 875 = .ok (.iload 4, 2) := by decide +kernel
theorem dL_law_877 : decode cL_law 877 = .ok (.iconst 1, 1) := by decide +kernel
theorem dL_law_878 : decode cL_law 878 = .ok (.iadd, 1) := by decide +kernel
theorem dL_law_879 : decode cL_law 879 = .ok (.iaload, 1) := by decide +kernel
theorem dL_law_880 : decode cL_law 880 = .ok (.aload_n 3, 1) := by decide +kernel
theorem dL_law_881 : decode cL_law 881 = .ok (.invokestatic 178, 3) := by decide +kernel
theorem dL_law_884 : decode cL_law 884 = .ok (.istore 5, 2) := by decide +kernel
theorem dL_law_886 : decode cL_law 886 = .ok (.aload_n 2, 1) := by decide +kernel
theorem dL_law_887 : decode cL_law 887 = .ok (.aload_n 0, 1) := by decide +kernel
theorem dL_law_888 : decode cL_law 888 = .ok (.iload 4, 2) := by decide +kernel
theorem dL_law_890 : decode cL_law 890 = .ok (.iconst 1, 1) := by decide +kernel
theorem dL_law_891 : decode cL_law 891 = .ok (.iadd, 1) := by decide +kernel
theorem dL_law_892 : decode cL_law 892 = .ok (.iaload, 1) := by decide +kernel
theorem dL_law_893 : decode cL_law 893 = .ok (.invokevirtual 180, 3) := by decide +kernel
theorem dL_law_896 : decode cL_law 896 = .ok (.istore 6, 2) := by decide +kernel
theorem dL_law_898 : decode cL_law 898 = .ok (.aload_n 2, 1) := by decide +kernel
theorem dL_law_899 : decode cL_law 899 = .ok (.invokevirtual 128, 3) := by decide +kernel
theorem dL_law_902 : decode cL_law 902 = .ok (.iload 5, 2) := by decide +kernel
theorem dL_law_904 : decode cL_law 904 = .ok (.if_icmp .eq 5, 3) := by decide +kernel
theorem dL_law_907 : decode cL_law 907 = .ok (.iconst 0, 1) := by decide +kernel
theorem dL_law_908 : decode cL_law 908 = .ok (.ireturn, 1) := by decide +kernel
theorem dL_law_909 : decode cL_law 909 = .ok (.iload 5, 2) := by decide +kernel
theorem dL_law_911 : decode cL_law 911 = .ok (.ifCond .ne 15, 3) := by decide +kernel
theorem dL_law_914 : decode cL_law 914 = .ok (.aload_n 3, 1) := by decide +kernel
theorem dL_law_915 : decode cL_law 915 = .ok (.iconst 0, 1) := by decide +kernel
theorem dL_law_916 : decode cL_law 916 = .ok (.laload, 1) := by decide +kernel
theorem dL_law_917 : decode cL_law 917 = .ok (.iload 6, 2) := by decide +kernel
theorem dL_law_919 : decode cL_law 919 = .ok (.i2l, 1) := by decide +kernel
theorem dL_law_920 : decode cL_law 920 = .ok (.lcmp, 1) := by decide +kernel
theorem dL_law_921 : decode cL_law 921 = .ok (.ifCond .eq 5, 3) := by decide +kernel
theorem dL_law_924 : decode cL_law 924 = .ok (.iconst 0, 1) := by decide +kernel
theorem dL_law_925 : decode cL_law 925 = .ok (.ireturn, 1) := by decide +kernel
theorem dL_law_926 : decode cL_law 926 = .ok (.goto 1003, 3) := by decide +kernel
theorem dL_law_929 : decode cL_law 929 = .ok (.aload_n 1, 1) := by decide +kernel
theorem dL_law_930 : decode cL_law 930 = .ok (.aload_n 0, 1) := by decide +kernel
theorem dL_law_931 : decode cL_law 931 = .ok (.iload 4, 2) := by decide +kernel
theorem dL_law_933 : decode cL_law 933 = .ok (.iconst 1, 1) := by decide +kernel
theorem dL_law_934 : decode cL_law 934 = .ok (.iadd, 1) := by decide +kernel
theorem dL_law_935 : decode cL_law 935 = .ok (.iaload, 1) := by decide +kernel
theorem dL_law_936 : decode cL_law 936 = .ok (.aload_n 3, 1) := by decide +kernel
theorem dL_law_937 : decode cL_law 937 = .ok (.invokestatic 181, 3) := by decide +kernel
theorem dL_law_940 : decode cL_law 940 = .ok (.istore 5, 2) := by decide +kernel
theorem dL_law_942 : decode cL_law 942 = .ok (.aload_n 2, 1) := by decide +kernel
theorem dL_law_943 : decode cL_law 943 = .ok (.aload_n 0, 1) := by decide +kernel
theorem dL_law_944 : decode cL_law 944 = .ok (.iload 4, 2) := by decide +kernel
theorem dL_law_946 : decode cL_law 946 = .ok (.iconst 1, 1) := by decide +kernel
theorem dL_law_947 : decode cL_law 947 = .ok (.iadd, 1) := by decide +kernel
theorem dL_law_948 : decode cL_law 948 = .ok (.iaload, 1) := by decide +kernel
theorem dL_law_949 : decode cL_law 949 = .ok (.invokevirtual 183, 3) := by decide +kernel
theorem dL_law_952 : decode cL_law 952 = .ok (.istore 6, 2) := by decide +kernel
theorem dL_law_954 : decode cL_law 954 = .ok (.aload_n 2, 1) := by decide +kernel
theorem dL_law_955 : decode cL_law 955 = .ok (.invokevirtual 128, 3) := by decide +kernel
theorem dL_law_958 : decode cL_law 958 = .ok (.iload 5, 2) := by decide +kernel
theorem dL_law_960 : decode cL_law 960 = .ok (.if_icmp .eq 5, 3) := by decide +kernel
theorem dL_law_963 : decode cL_law 963 = .ok (.iconst 0, 1) := by decide +kernel
theorem dL_law_964 : decode cL_law 964 = .ok (.ireturn, 1) := by decide +kernel
theorem dL_law_965 : decode cL_law 965 = .ok (.iload 5, 2) := by decide +kernel
theorem dL_law_967 : decode cL_law 967 = .ok (.ifCond .ne 15, 3) := by decide +kernel
theorem dL_law_970 : decode cL_law 970 = .ok (.aload_n 3, 1) := by decide +kernel
theorem dL_law_971 : decode cL_law 971 = .ok (.iconst 0, 1) := by decide +kernel
theorem dL_law_972 : decode cL_law 972 = .ok (.laload, 1) := by decide +kernel
theorem dL_law_973 : decode cL_law 973 = .ok (.iload 6, 2) := by decide +kernel
theorem dL_law_975 : decode cL_law 975 = .ok (.i2l, 1) := by decide +kernel
theorem dL_law_976 : decode cL_law 976 = .ok (.lcmp, 1) := by decide +kernel
theorem dL_law_977 : decode cL_law 977 = .ok (.ifCond .eq 5, 3) := by decide +kernel
theorem dL_law_980 : decode cL_law 980 = .ok (.iconst 0, 1) := by decide +kernel
theorem dL_law_981 : decode cL_law 981 = .ok (.ireturn, 1) := by decide +kernel
theorem dL_law_982 : decode cL_law 982 = .ok (.goto 947, 3) := by decide +kernel
theorem dL_law_985 : decode cL_law 985 = .ok (.aload_n 1, 1) := by decide +kernel
theorem dL_law_986 : decode cL_law 986 = .ok (.aload_n 0, 1) := by decide +kernel
theorem dL_law_987 : decode cL_law 987 = .ok (.iload 4, 2) := by decide +kernel
theorem dL_law_989 : decode cL_law 989 = .ok (.iconst 1, 1) := by decide +kernel
theorem dL_law_990 : decode cL_law 990 = .ok (.iadd, 1) := by decide +kernel
theorem dL_law_991 : decode cL_law 991 = .ok (.iaload, 1) := by decide +kernel
theorem dL_law_992 : decode cL_law 992 = .ok (.aload_n 3, 1) := by decide +kernel
theorem dL_law_993 : decode cL_law 993 = .ok (.invokestatic 184, 3) := by decide +kernel
theorem dL_law_996 : decode cL_law 996 = .ok (.istore 5, 2) := by decide +kernel
theorem dL_law_998 : decode cL_law 998 = .ok (.aload_n 2, 1) := by decide +kernel
theorem dL_law_999 : decode cL_law 999 = .ok (.aload_n 0, 1) := by decide +kernel
theorem dL_law_1000 : decode cL_law 1000 = .ok (.iload 4, 2) := by decide +kernel
theorem dL_law_1002 : decode cL_law 1002 = .ok (.iconst 1, 1) := by decide +kernel
theorem dL_law_1003 : decode cL_law 1003 = .ok (.iadd, 1) := by decide +kernel
theorem dL_law_1004 : decode cL_law 1004 = .ok (.iaload, 1) := by decide +kernel
theorem dL_law_1005 : decode cL_law 1005 = .ok (.invokevirtual 186, 3) := by decide +kernel
theorem dL_law_1008 : decode cL_law 1008 = .ok (.istore 6, 2) := by decide +kernel
theorem dL_law_1010 : decode cL_law 1010 = .ok (.aload_n 2, 1) := by decide +kernel
theorem dL_law_1011 : decode cL_law 1011 = .ok (.invokevirtual 128, 3) := by decide +kernel
theorem dL_law_1014 : decode cL_law 1014 = .ok (.iload 5, 2) := by decide +kernel
theorem dL_law_1016 : decode cL_law 1016 = .ok (.if_icmp .eq 5, 3) := by decide +kernel
theorem dL_law_1019 : decode cL_law 1019 = .ok (.iconst 0, 1) := by decide +kernel
theorem dL_law_1020 : decode cL_law 1020 = .ok (.ireturn, 1) := by decide +kernel
theorem dL_law_1021 : decode cL_law 1021 = .ok (.iload 5, 2) := by decide +kernel
theorem dL_law_1023 : decode cL_law 1023 = .ok (.ifCond .ne 15, 3) := by decide +kernel
theorem dL_law_1026 : decode cL_law 1026 = .ok (.aload_n 3, 1) := by decide +kernel
theorem dL_law_1027 : decode cL_law 1027 = .ok (.iconst 0, 1) := by decide +kernel
theorem dL_law_1028 : decode cL_law 1028 = .ok (.laload, 1) := by decide +kernel
theorem dL_law_1029 : decode cL_law 1029 = .ok (.iload 6, 2) := by decide +kernel
theorem dL_law_1031 : decode cL_law 1031 = .ok (.i2l, 1) := by decide +kernel
theorem dL_law_1032 : decode cL_law 1032 = .ok (.lcmp, 1) := by decide +kernel
theorem dL_law_1033 : decode cL_law 1033 = .ok (.ifCond .eq 5, 3) := by decide +kernel
theorem dL_law_1036 : decode cL_law 1036 = .ok (.iconst 0, 1) := by decide +kernel
theorem dL_law_1037 : decode cL_law 1037 = .ok (.ireturn, 1) := by decide +kernel
theorem dL_law_1038 : decode cL_law 1038 = .ok (.goto 891, 3) := by decide +kernel
theorem dL_law_1041 : decode cL_law 1041 = .ok (.aload_n 1, 1) := by decide +kernel
theorem dL_law_1042 : decode cL_law 1042 = .ok (.aload_n 0, 1) := by decide +kernel
theorem dL_law_1043 : decode cL_law 1043 = .ok (.iload 4, 2) := by decide +kernel
theorem dL_law_1045 : decode cL_law 1045 = .ok (.iconst 1, 1) := by decide +kernel
theorem dL_law_1046 : decode cL_law 1046 = .ok (.iadd, 1) := by decide +kernel
theorem dL_law_1047 : decode cL_law 1047 = .ok (.iaload, 1) := by decide +kernel
theorem dL_law_1048 : decode cL_law 1048 = .ok (.aload_n 3, 1) := by decide +kernel
theorem dL_law_1049 : decode cL_law 1049 = .ok (.invokestatic 187, 3) := by decide +kernel
theorem dL_law_1052 : decode cL_law 1052 = .ok (.istore 5, 2) := by decide +kernel
theorem dL_law_1054 : decode cL_law 1054 = .ok (.aload_n 2, 1) := by decide +kernel
theorem dL_law_1055 : decode cL_law 1055 = .ok (.aload_n 0, 1) := by decide +kernel
theorem dL_law_1056 : decode cL_law 1056 = .ok (.iload 4, 2) := by decide +kernel
theorem dL_law_1058 : decode cL_law 1058 = .ok (.iconst 1, 1) := by decide +kernel
theorem dL_law_1059 : decode cL_law 1059 = .ok (.iadd, 1) := by decide +kernel
theorem dL_law_1060 : decode cL_law 1060 = .ok (.iaload, 1) := by decide +kernel
theorem dL_law_1061 : decode cL_law 1061 = .ok (.invokevirtual 189, 3) := by decide +kernel
theorem dL_law_1064 : decode cL_law 1064 = .ok (.istore 6, 2) := by decide +kernel
theorem dL_law_1066 : decode cL_law 1066 = .ok (.aload_n 2, 1) := by decide +kernel
theorem dL_law_1067 : decode cL_law 1067 = .ok (.invokevirtual 128, 3) := by decide +kernel
theorem dL_law_1070 : decode cL_law 1070 = .ok (.iload 5, 2) := by decide +kernel
theorem dL_law_1072 : decode cL_law 1072 = .ok (.if_icmp .eq 5, 3) := by decide +kernel
theorem dL_law_1075 : decode cL_law 1075 = .ok (.iconst 0, 1) := by decide +kernel
theorem dL_law_1076 : decode cL_law 1076 = .ok (.ireturn, 1) := by decide +kernel
theorem dL_law_1077 : decode cL_law 1077 = .ok (.iload 5, 2) := by decide +kernel
theorem dL_law_1079 : decode cL_law 1079 = .ok (.ifCond .ne 15, 3) := by decide +kernel
theorem dL_law_1082 : decode cL_law 1082 = .ok (.aload_n 3, 1) := by decide +kernel
theorem dL_law_1083 : decode cL_law 1083 = .ok (.iconst 0, 1) := by decide +kernel
theorem dL_law_1084 : decode cL_law 1084 = .ok (.laload, 1) := by decide +kernel
theorem dL_law_1085 : decode cL_law 1085 = .ok (.iload 6, 2) := by decide +kernel
theorem dL_law_1087 : decode cL_law 1087 = .ok (.i2l, 1) := by decide +kernel
theorem dL_law_1088 : decode cL_law 1088 = .ok (.lcmp, 1) := by decide +kernel
theorem dL_law_1089 : decode cL_law 1089 = .ok (.ifCond .eq 5, 3) := by decide +kernel
theorem dL_law_1092 : decode cL_law 1092 = .ok (.iconst 0, 1) := by decide +kernel
theorem dL_law_1093 : decode cL_law 1093 = .ok (.ireturn, 1) := by decide +kernel
theorem dL_law_1094 : decode cL_law 1094 = .ok (.goto 835, 3) := by decide +kernel
theorem dL_law_1097 : decode cL_law 1097 = .ok (.aload_n 1, 1) := by decide +kernel
theorem dL_law_1098 : decode cL_law 1098 = .ok (.aload_n 0, 1) := by decide +kernel
theorem dL_law_1099 : decode cL_law 1099 = .ok (.iload 4, 2) := by decide +kernel
theorem dL_law_1101 : decode cL_law 1101 = .ok (.iconst 1, 1) := by decide +kernel
theorem dL_law_1102 : decode cL_law 1102 = .ok (.iadd, 1) := by decide +kernel
theorem dL_law_1103 : decode cL_law 1103 = .ok (.iaload, 1) := by decide +kernel
theorem dL_law_1104 : decode cL_law 1104 = .ok (.aload_n 3, 1) := by decide +kernel
theorem dL_law_1105 : decode cL_law 1105 = .ok (.invokestatic 190, 3) := by decide +kernel
theorem dL_law_1108 : decode cL_law 1108 = .ok (.istore 5, 2) := by decide +kernel
theorem dL_law_1110 : decode cL_law 1110 = .ok (.aload_n 2, 1) := by decide +kernel
theorem dL_law_1111 : decode cL_law 1111 = .ok (.aload_n 0, 1) := by decide +kernel
theorem dL_law_1112 : decode cL_law 1112 = .ok (.iload 4, 2) := by decide +kernel
theorem dL_law_1114 : decode cL_law 1114 = .ok (.iconst 1, 1) := by decide +kernel
theorem dL_law_1115 : decode cL_law 1115 = .ok (.iadd, 1) := by decide +kernel
theorem dL_law_1116 : decode cL_law 1116 = .ok (.iaload, 1) := by decide +kernel
theorem dL_law_1117 : decode cL_law 1117 = .ok (.invokevirtual 192, 3) := by decide +kernel
theorem dL_law_1120 : decode cL_law 1120 = .ok (.istore 6, 2) := by decide +kernel
theorem dL_law_1122 : decode cL_law 1122 = .ok (.aload_n 2, 1) := by decide +kernel
theorem dL_law_1123 : decode cL_law 1123 = .ok (.invokevirtual 128, 3) := by decide +kernel
theorem dL_law_1126 : decode cL_law 1126 = .ok (.iload 5, 2) := by decide +kernel
theorem dL_law_1128 : decode cL_law 1128 = .ok (.if_icmp .eq 5, 3) := by decide +kernel
theorem dL_law_1131 : decode cL_law 1131 = .ok (.iconst 0, 1) := by decide +kernel
theorem dL_law_1132 : decode cL_law 1132 = .ok (.ireturn, 1) := by decide +kernel
theorem dL_law_1133 : decode cL_law 1133 = .ok (.iload 5, 2) := by decide +kernel
theorem dL_law_1135 : decode cL_law 1135 = .ok (.ifCond .ne 15, 3) := by decide +kernel
theorem dL_law_1138 : decode cL_law 1138 = .ok (.aload_n 3, 1) := by decide +kernel
theorem dL_law_1139 : decode cL_law 1139 = .ok (.iconst 0, 1) := by decide +kernel
theorem dL_law_1140 : decode cL_law 1140 = .ok (.laload, 1) := by decide +kernel
theorem dL_law_1141 : decode cL_law 1141 = .ok (.iload 6, 2) := by decide +kernel
theorem dL_law_1143 : decode cL_law 1143 = .ok (.i2l, 1) := by decide +kernel
theorem dL_law_1144 : decode cL_law 1144 = .ok (.lcmp, 1) := by decide +kernel
theorem dL_law_1145 : decode cL_law 1145 = .ok (.ifCond .eq 5, 3) := by decide +kernel
theorem dL_law_1148 : decode cL_law 1148 = .ok (.iconst 0, 1) := by decide +kernel
theorem dL_law_1149 : decode cL_law 1149 = .ok (.ireturn, 1) := by decide +kernel
theorem dL_law_1150 : decode cL_law 1150 = .ok (.goto 779, 3) := by decide +kernel
theorem dL_law_1153 : decode cL_law 1153 = .ok (.aload_n 1, 1) := by decide +kernel
theorem dL_law_1154 : decode cL_law 1154 = .ok (.aload_n 0, 1) := by decide +kernel
theorem dL_law_1155 : decode cL_law 1155 = .ok (.iload 4, 2) := by decide +kernel
theorem dL_law_1157 : decode cL_law 1157 = .ok (.iconst 1, 1) := by decide +kernel
theorem dL_law_1158 : decode cL_law 1158 = .ok (.iadd, 1) := by decide +kernel
theorem dL_law_1159 : decode cL_law 1159 = .ok (.iaload, 1) := by decide +kernel
theorem dL_law_1160 : decode cL_law 1160 = .ok (.aload_n 3, 1) := by decide +kernel
theorem dL_law_1161 : decode cL_law 1161 = .ok (.invokestatic 193, 3) := by decide +kernel
theorem dL_law_1164 : decode cL_law 1164 = .ok (.istore 5, 2) := by decide +kernel
theorem dL_law_1166 : decode cL_law 1166 = .ok (.aload_n 2, 1) := by decide +kernel
theorem dL_law_1167 : decode cL_law 1167 = .ok (.aload_n 0, 1) := by decide +kernel
theorem dL_law_1168 : decode cL_law 1168 = .ok (.iload 4, 2) := by decide +kernel
theorem dL_law_1170 : decode cL_law 1170 = .ok (.iconst 1, 1) := by decide +kernel
theorem dL_law_1171 : decode cL_law 1171 = .ok (.iadd, 1) := by decide +kernel
theorem dL_law_1172 : decode cL_law 1172 = .ok (.iaload, 1) := by decide +kernel
theorem dL_law_1173 : decode cL_law 1173 = .ok (.invokevirtual 195, 3) := by decide +kernel
theorem dL_law_1176 : decode cL_law 1176 = .ok (.istore 6, 2) := by decide +kernel
theorem dL_law_1178 : decode cL_law 1178 = .ok (.aload_n 2, 1) := by decide +kernel
theorem dL_law_1179 : decode cL_law 1179 = .ok (.invokevirtual 128, 3) := by decide +kernel
theorem dL_law_1182 : decode cL_law 1182 = .ok (.iload 5, 2) := by decide +kernel
theorem dL_law_1184 : decode cL_law 1184 = .ok (.if_icmp .eq 5, 3) := by decide +kernel
theorem dL_law_1187 : decode cL_law 1187 = .ok (.iconst 0, 1) := by decide +kernel
theorem dL_law_1188 : decode cL_law 1188 = .ok (.ireturn, 1) := by decide +kernel
theorem dL_law_1189 : decode cL_law 1189 = .ok (.iload 5, 2) := by decide +kernel
theorem dL_law_1191 : decode cL_law 1191 = .ok (.ifCond .ne 15, 3) := by decide +kernel
theorem dL_law_1194 : decode cL_law 1194 = .ok (.aload_n 3, 1) := by decide +kernel
theorem dL_law_1195 : decode cL_law 1195 = .ok (.iconst 0, 1) := by decide +kernel
theorem dL_law_1196 : decode cL_law 1196 = .ok (.laload, 1) := by decide +kernel
theorem dL_law_1197 : decode cL_law 1197 = .ok (.iload 6, 2) := by decide +kernel
theorem dL_law_1199 : decode cL_law 1199 = .ok (.i2l, 1) := by decide +kernel
theorem dL_law_1200 : decode cL_law 1200 = .ok (.lcmp, 1) := by decide +kernel
theorem dL_law_1201 : decode cL_law 1201 = .ok (.ifCond .eq 5, 3) := by decide +kernel
theorem dL_law_1204 : decode cL_law 1204 = .ok (.iconst 0, 1) := by decide +kernel
theorem dL_law_1205 : decode cL_law 1205 = .ok (.ireturn, 1) := by decide +kernel
theorem dL_law_1206 : decode cL_law 1206 = .ok (.goto 723, 3) := by decide +kernel
theorem dL_law_1209 : decode cL_law 1209 = .ok (.aload_n 1, 1) := by decide +kernel
theorem dL_law_1210 : decode cL_law 1210 = .ok (.aload_n 3, 1) := by decide +kernel
theorem dL_law_1211 : decode cL_law 1211 = .ok (.invokestatic 196, 3) := by decide +kernel
theorem dL_law_1214 : decode cL_law 1214 = .ok (.istore 5, 2) := by decide +kernel
theorem dL_law_1216 : decode cL_law 1216 = .ok (.aload_n 2, 1) := by decide +kernel
theorem dL_law_1217 : decode cL_law 1217 = .ok (.invokevirtual 198, 3) := by decide +kernel
theorem dL_law_1220 : decode cL_law 1220 = .ok (.istore 6, 2) := by decide +kernel
theorem dL_law_1222 : decode cL_law 1222 = .ok (.aload_n 2, 1) := by decide +kernel
theorem dL_law_1223 : decode cL_law 1223 = .ok (.invokevirtual 128, 3) := by decide +kernel
theorem dL_law_1226 : decode cL_law 1226 = .ok (.iload 5, 2) := by decide +kernel
theorem dL_law_1228 : decode cL_law 1228 = .ok (.if_icmp .eq 5, 3) := by decide +kernel
theorem dL_law_1231 : decode cL_law 1231 = .ok (.iconst 0, 1) := by decide +kernel
theorem dL_law_1232 : decode cL_law 1232 = .ok (.ireturn, 1) := by decide +kernel
theorem dL_law_1233 : decode cL_law 1233 = .ok (.iload 5, 2) := by decide +kernel
theorem dL_law_1235 : decode cL_law 1235 = .ok (.ifCond .ne 15, 3) := by decide +kernel
theorem dL_law_1238 : decode cL_law 1238 = .ok (.aload_n 3, 1) := by decide +kernel
theorem dL_law_1239 : decode cL_law 1239 = .ok (.iconst 0, 1) := by decide +kernel
theorem dL_law_1240 : decode cL_law 1240 = .ok (.laload, 1) := by decide +kernel
theorem dL_law_1241 : decode cL_law 1241 = .ok (.iload 6, 2) := by decide +kernel
theorem dL_law_1243 : decode cL_law 1243 = .ok (.i2l, 1) := by decide +kernel
theorem dL_law_1244 : decode cL_law 1244 = .ok (.lcmp, 1) := by decide +kernel
theorem dL_law_1245 : decode cL_law 1245 = .ok (.ifCond .eq 5, 3) := by decide +kernel
theorem dL_law_1248 : decode cL_law 1248 = .ok (.iconst 0, 1) := by decide +kernel
theorem dL_law_1249 : decode cL_law 1249 = .ok (.ireturn, 1) := by decide +kernel
theorem dL_law_1250 : decode cL_law 1250 = .ok (.goto 679, 3) := by decide +kernel
theorem dL_law_1253 : decode cL_law 1253 = .ok (.aload_n 1, 1) := by decide +kernel
theorem dL_law_1254 : decode cL_law 1254 = .ok (.aload_n 3, 1) := by decide +kernel
theorem dL_law_1255 : decode cL_law 1255 = .ok (.invokestatic 199, 3) := by decide +kernel
theorem dL_law_1258 : decode cL_law 1258 = .ok (.istore 5, 2) := by decide +kernel
theorem dL_law_1260 : decode cL_law 1260 = .ok (.aload_n 2, 1) := by decide +kernel
theorem dL_law_1261 : decode cL_law 1261 = .ok (.invokevirtual 201, 3) := by decide +kernel
theorem dL_law_1264 : decode cL_law 1264 = .ok (.istore 6, 2) := by decide +kernel
theorem dL_law_1266 : decode cL_law 1266 = .ok (.aload_n 2, 1) := by decide +kernel
theorem dL_law_1267 : decode cL_law 1267 = .ok (.invokevirtual 128, 3) := by decide +kernel
theorem dL_law_1270 : decode cL_law 1270 = .ok (.iload 5, 2) := by decide +kernel
theorem dL_law_1272 : decode cL_law 1272 = .ok (.if_icmp .eq 5, 3) := by decide +kernel
theorem dL_law_1275 : decode cL_law 1275 = .ok (.iconst 0, 1) := by decide +kernel
theorem dL_law_1276 : decode cL_law 1276 = .ok (.ireturn, 1) := by decide +kernel
theorem dL_law_1277 : decode cL_law 1277 = .ok (.iload 5, 2) := by decide +kernel
theorem dL_law_1279 : decode cL_law 1279 = .ok (.ifCond .ne 15, 3) := by decide +kernel
theorem dL_law_1282 : decode cL_law 1282 = .ok (.aload_n 3, 1) := by decide +kernel
theorem dL_law_1283 : decode cL_law 1283 = .ok (.iconst 0, 1) := by decide +kernel
theorem dL_law_1284 : decode cL_law 1284 = .ok (.laload, 1) := by decide +kernel
theorem dL_law_1285 : decode cL_law 1285 = .ok (.iload 6, 2) := by decide +kernel
theorem dL_law_1287 : decode cL_law 1287 = .ok (.i2l, 1) := by decide +kernel
theorem dL_law_1288 : decode cL_law 1288 = .ok (.lcmp, 1) := by decide +kernel
theorem dL_law_1289 : decode cL_law 1289 = .ok (.ifCond .eq 5, 3) := by decide +kernel
theorem dL_law_1292 : decode cL_law 1292 = .ok (.iconst 0, 1) := by decide +kernel
theorem dL_law_1293 : decode cL_law 1293 = .ok (.ireturn, 1) := by decide +kernel
theorem dL_law_1294 : decode cL_law 1294 = .ok (.goto 635, 3) := by decide +kernel
theorem dL_law_1297 : decode cL_law 1297 = .ok (.aload_n 1, 1) := by decide +kernel
theorem dL_law_1298 : decode cL_law 1298 = .ok (.aload_n 3, 1) := by decide +kernel
theorem dL_law_1299 : decode cL_law 1299 = .ok (.invokestatic 202, 3) := by decide +kernel
theorem dL_law_1302 : decode cL_law 1302 = .ok (.istore 5, 2) := by decide +kernel
theorem dL_law_1304 : decode cL_law 1304 = .ok (.aload_n 2, 1) := by decide +kernel
theorem dL_law_1305 : decode cL_law 1305 = .ok (.invokevirtual 204, 3) := by decide +kernel
theorem dL_law_1308 : decode cL_law 1308 = .ok (.istore 6, 2) := by decide +kernel
theorem dL_law_1310 : decode cL_law 1310 = .ok (.aload_n 2, 1) := by decide +kernel
theorem dL_law_1311 : decode cL_law 1311 = .ok (.invokevirtual 128, 3) := by decide +kernel
theorem dL_law_1314 : decode cL_law 1314 = .ok (.iload 5, 2) := by decide +kernel
theorem dL_law_1316 : decode cL_law 1316 = .ok (.if_icmp .eq 5, 3) := by decide +kernel
theorem dL_law_1319 : decode cL_law 1319 = .ok (.iconst 0, 1) := by decide +kernel
theorem dL_law_1320 : decode cL_law 1320 = .ok (.ireturn, 1) := by decide +kernel
theorem dL_law_1321 : decode cL_law 1321 = .ok (.iload 5, 2) := by decide +kernel
theorem dL_law_1323 : decode cL_law 1323 = .ok (.ifCond .ne 15, 3) := by decide +kernel
theorem dL_law_1326 : decode cL_law 1326 = .ok (.aload_n 3, 1) := by decide +kernel
theorem dL_law_1327 : decode cL_law 1327 = .ok (.iconst 0, 1) := by decide +kernel
theorem dL_law_1328 : decode cL_law 1328 = .ok (.laload, 1) := by decide +kernel
theorem dL_law_1329 : decode cL_law 1329 = .ok (.iload 6, 2) := by decide +kernel
theorem dL_law_1331 : decode cL_law 1331 = .ok (.i2l, 1) := by decide +kernel
theorem dL_law_1332 : decode cL_law 1332 = .ok (.lcmp, 1) := by decide +kernel
theorem dL_law_1333 : decode cL_law 1333 = .ok (.ifCond .eq 5, 3) := by decide +kernel
theorem dL_law_1336 : decode cL_law 1336 = .ok (.iconst 0, 1) := by decide +kernel
theorem dL_law_1337 : decode cL_law 1337 = .ok (.ireturn, 1) := by decide +kernel
theorem dL_law_1338 : decode cL_law 1338 = .ok (.goto 591, 3) := by decide +kernel
theorem dL_law_1341 : decode cL_law 1341 = .ok (.aload_n 1, 1) := by decide +kernel
theorem dL_law_1342 : decode cL_law 1342 = .ok (.aload_n 3, 1) := by decide +kernel
theorem dL_law_1343 : decode cL_law 1343 = .ok (.invokestatic 205, 3) := by decide +kernel
theorem dL_law_1346 : decode cL_law 1346 = .ok (.istore 5, 2) := by decide +kernel
theorem dL_law_1348 : decode cL_law 1348 = .ok (.aload_n 2, 1) := by decide +kernel
theorem dL_law_1349 : decode cL_law 1349 = .ok (.invokevirtual 207, 3) := by decide +kernel
theorem dL_law_1352 : decode cL_law 1352 = .ok (.istore 6, 2) := by decide +kernel
theorem dL_law_1354 : decode cL_law 1354 = .ok (.aload_n 2, 1) := by decide +kernel
theorem dL_law_1355 : decode cL_law 1355 = .ok (.invokevirtual 128, 3) := by decide +kernel
theorem dL_law_1358 : decode cL_law 1358 = .ok (.iload 5, 2) := by decide +kernel
theorem dL_law_1360 : decode cL_law 1360 = .ok (.if_icmp .eq 5, 3) := by decide +kernel
theorem dL_law_1363 : decode cL_law 1363 = .ok (.iconst 0, 1) := by decide +kernel
theorem dL_law_1364 : decode cL_law 1364 = .ok (.ireturn, 1) := by decide +kernel
theorem dL_law_1365 : decode cL_law 1365 = .ok (.iload 5, 2) := by decide +kernel
theorem dL_law_1367 : decode cL_law 1367 = .ok (.ifCond .ne 15, 3) := by decide +kernel
theorem dL_law_1370 : decode cL_law 1370 = .ok (.aload_n 3, 1) := by decide +kernel
theorem dL_law_1371 : decode cL_law 1371 = .ok (.iconst 0, 1) := by decide +kernel
theorem dL_law_1372 : decode cL_law 1372 = .ok (.laload, 1) := by decide +kernel
theorem dL_law_1373 : decode cL_law 1373 = .ok (.iload 6, 2) := by decide +kernel
theorem dL_law_1375 : decode cL_law 1375 = .ok (.i2l, 1) := by decide +kernel
theorem dL_law_1376 : decode cL_law 1376 = .ok (.lcmp, 1) := by decide +kernel
theorem dL_law_1377 : decode cL_law 1377 = .ok (.ifCond .eq 5, 3) := by decide +kernel
theorem dL_law_1380 : decode cL_law 1380 = .ok (.iconst 0, 1) := by decide +kernel
theorem dL_law_1381 : decode cL_law 1381 = .ok (.ireturn, 1) := by decide +kernel
theorem dL_law_1382 : decode cL_law 1382 = .ok (.goto 547, 3) := by decide +kernel
theorem dL_law_1385 : decode cL_law 1385 = .ok (.aload_n 1, 1) := by decide +kernel
theorem dL_law_1386 : decode cL_law 1386 = .ok (.aload_n 3, 1) := by decide +kernel
theorem dL_law_1387 : decode cL_law 1387 = .ok (.invokestatic 208, 3) := by decide +kernel
theorem dL_law_1390 : decode cL_law 1390 = .ok (.istore 5, 2) := by decide +kernel
theorem dL_law_1392 : decode cL_law 1392 = .ok (.aload_n 2, 1) := by decide +kernel
theorem dL_law_1393 : decode cL_law 1393 = .ok (.invokevirtual 210, 3) := by decide +kernel
theorem dL_law_1396 : decode cL_law 1396 = .ok (.istore 6, 2) := by decide +kernel
theorem dL_law_1398 : decode cL_law 1398 = .ok (.aload_n 2, 1) := by decide +kernel
theorem dL_law_1399 : decode cL_law 1399 = .ok (.invokevirtual 128, 3) := by decide +kernel
theorem dL_law_1402 : decode cL_law 1402 = .ok (.iload 5, 2) := by decide +kernel
theorem dL_law_1404 : decode cL_law 1404 = .ok (.if_icmp .eq 5, 3) := by decide +kernel
theorem dL_law_1407 : decode cL_law 1407 = .ok (.iconst 0, 1) := by decide +kernel
theorem dL_law_1408 : decode cL_law 1408 = .ok (.ireturn, 1) := by decide +kernel
theorem dL_law_1409 : decode cL_law 1409 = .ok (.iload 5, 2) := by decide +kernel
theorem dL_law_1411 : decode cL_law 1411 = .ok (.ifCond .ne 15, 3) := by decide +kernel
theorem dL_law_1414 : decode cL_law 1414 = .ok (.aload_n 3, 1) := by decide +kernel
theorem dL_law_1415 : decode cL_law 1415 = .ok (.iconst 0, 1) := by decide +kernel
theorem dL_law_1416 : decode cL_law 1416 = .ok (.laload, 1) := by decide +kernel
theorem dL_law_1417 : decode cL_law 1417 = .ok (.iload 6, 2) := by decide +kernel
theorem dL_law_1419 : decode cL_law 1419 = .ok (.i2l, 1) := by decide +kernel
theorem dL_law_1420 : decode cL_law 1420 = .ok (.lcmp, 1) := by decide +kernel
theorem dL_law_1421 : decode cL_law 1421 = .ok (.ifCond .eq 5, 3) := by decide +kernel
theorem dL_law_1424 : decode cL_law 1424 = .ok (.iconst 0, 1) := by decide +kernel
theorem dL_law_1425 : decode cL_law 1425 = .ok (.ireturn, 1) := by decide +kernel
theorem dL_law_1426 : decode cL_law 1426 = .ok (.goto 503, 3) := by decide +kernel
theorem dL_law_1429 : decode cL_law 1429 = .ok (.aload_n 1, 1) := by decide +kernel
theorem dL_law_1430 : decode cL_law 1430 = .ok (.aload_n 3, 1) := by decide +kernel
theorem dL_law_1431 : decode cL_law 1431 = .ok (.invokestatic 211, 3) := by decide +kernel
theorem dL_law_1434 : decode cL_law 1434 = .ok (.istore 5, 2) := by decide +kernel
theorem dL_law_1436 : decode cL_law 1436 = .ok (.aload_n 2, 1) := by decide +kernel
theorem dL_law_1437 : decode cL_law 1437 = .ok (.invokevirtual 213, 3) := by decide +kernel
theorem dL_law_1440 : decode cL_law 1440 = .ok (.istore 6, 2) := by decide +kernel
theorem dL_law_1442 : decode cL_law 1442 = .ok (.aload_n 2, 1) := by decide +kernel
theorem dL_law_1443 : decode cL_law 1443 = .ok (.invokevirtual 128, 3) := by decide +kernel
theorem dL_law_1446 : decode cL_law 1446 = .ok (.iload 5, 2) := by decide +kernel
theorem dL_law_1448 : decode cL_law 1448 = .ok (.if_icmp .eq 5, 3) := by decide +kernel
theorem dL_law_1451 : decode cL_law 1451 = .ok (.iconst 0, 1) := by decide +kernel
theorem dL_law_1452 : decode cL_law 1452 = .ok (.ireturn, 1) := by decide +kernel
theorem dL_law_1453 : decode cL_law 1453 = .ok (.iload 5, 2) := by decide +kernel
theorem dL_law_1455 : decode cL_law 1455 = .ok (.ifCond .ne 15, 3) := by decide +kernel
theorem dL_law_1458 : decode cL_law 1458 = .ok (.aload_n 3, 1) := by decide +kernel
theorem dL_law_1459 : decode cL_law 1459 = .ok (.iconst 0, 1) := by decide +kernel
theorem dL_law_1460 : decode cL_law 1460 = .ok (.laload, 1) := by decide +kernel
theorem dL_law_1461 : decode cL_law 1461 = .ok (.iload 6, 2) := by decide +kernel
theorem dL_law_1463 : decode cL_law 1463 = .ok (.i2l, 1) := by decide +kernel
theorem dL_law_1464 : decode cL_law 1464 = .ok (.lcmp, 1) := by decide +kernel
theorem dL_law_1465 : decode cL_law 1465 = .ok (.ifCond .eq 5, 3) := by decide +kernel
theorem dL_law_1468 : decode cL_law 1468 = .ok (.iconst 0, 1) := by decide +kernel
theorem dL_law_1469 : decode cL_law 1469 = .ok (.ireturn, 1) := by decide +kernel
theorem dL_law_1470 : decode cL_law 1470 = .ok (.goto 459, 3) := by decide +kernel
theorem dL_law_1473 : decode cL_law 1473 = .ok (.aload_n 1, 1) := by decide +kernel
theorem dL_law_1474 : decode cL_law 1474 = .ok (.aload_n 3, 1) := by decide +kernel
theorem dL_law_1475 : decode cL_law 1475 = .ok (.invokestatic 214, 3) := by decide +kernel
theorem dL_law_1478 : decode cL_law 1478 = .ok (.istore 5, 2) := by decide +kernel
theorem dL_law_1480 : decode cL_law 1480 = .ok (.aload_n 2, 1) := by decide +kernel
theorem dL_law_1481 : decode cL_law 1481 = .ok (.invokevirtual 216, 3) := by decide +kernel
theorem dL_law_1484 : decode cL_law 1484 = .ok (.istore 6, 2) := by decide +kernel
theorem dL_law_1486 : decode cL_law 1486 = .ok (.aload_n 2, 1) := by decide +kernel
theorem dL_law_1487 : decode cL_law 1487 = .ok (.invokevirtual 128, 3) := by decide +kernel
theorem dL_law_1490 : decode cL_law 1490 = .ok (.iload 5, 2) := by decide +kernel
theorem dL_law_1492 : decode cL_law 1492 = .ok (.if_icmp .eq 5, 3) := by decide +kernel
theorem dL_law_1495 : decode cL_law 1495 = .ok (.iconst 0, 1) := by decide +kernel
theorem dL_law_1496 : decode cL_law 1496 = .ok (.ireturn, 1) := by decide +kernel
theorem dL_law_1497 : decode cL_law 1497 = .ok (.iload 5, 2) := by decide +kernel
theorem dL_law_1499 : decode cL_law 1499 = .ok (.ifCond .ne 15, 3) := by decide +kernel
theorem dL_law_1502 : decode cL_law 1502 = .ok (.aload_n 3, 1) := by decide +kernel
theorem dL_law_1503 : decode cL_law 1503 = .ok (.iconst 0, 1) := by decide +kernel
theorem dL_law_1504 : decode cL_law 1504 = .ok (.laload, 1) := by decide +kernel
theorem dL_law_1505 : decode cL_law 1505 = .ok (.iload 6, 2) := by decide +kernel
theorem dL_law_1507 : decode cL_law 1507 = .ok (.i2l, 1) := by decide +kernel
theorem dL_law_1508 : decode cL_law 1508 = .ok (.lcmp, 1) := by decide +kernel
theorem dL_law_1509 : decode cL_law 1509 = .ok (.ifCond .eq 5, 3) := by decide +kernel
theorem dL_law_1512 : decode cL_law 1512 = .ok (.iconst 0, 1) := by decide +kernel
theorem dL_law_1513 : decode cL_law 1513 = .ok (.ireturn, 1) := by decide +kernel
theorem dL_law_1514 : decode cL_law 1514 = .ok (.goto 415, 3) := by decide +kernel
theorem dL_law_1517 : decode cL_law 1517 = .ok (.aload_n 1, 1) := by decide +kernel
theorem dL_law_1518 : decode cL_law 1518 = .ok (.aload_n 3, 1) := by decide +kernel
theorem dL_law_1519 : decode cL_law 1519 = .ok (.invokestatic 217, 3) := by decide +kernel
theorem dL_law_1522 : decode cL_law 1522 = .ok (.istore 5, 2) := by decide +kernel
theorem dL_law_1524 : decode cL_law 1524 = .ok (.aload_n 2, 1) := by decide +kernel
theorem dL_law_1525 : decode cL_law 1525 = .ok (.invokevirtual 219, 3) := by decide +kernel
theorem dL_law_1528 : decode cL_law 1528 = .ok (.istore 6, 2) := by decide +kernel
theorem dL_law_1530 : decode cL_law 1530 = .ok (.aload_n 2, 1) := by decide +kernel
theorem dL_law_1531 : decode cL_law 1531 = .ok (.invokevirtual 128, 3) := by decide +kernel
theorem dL_law_1534 : decode cL_law 1534 = .ok (.iload 5, 2) := by decide +kernel
theorem dL_law_1536 : decode cL_law 1536 = .ok (.if_icmp .eq 5, 3) := by decide +kernel
theorem dL_law_1539 : decode cL_law 1539 = .ok (.iconst 0, 1) := by decide +kernel
theorem dL_law_1540 : decode cL_law 1540 = .ok (.ireturn, 1) := by decide +kernel
theorem dL_law_1541 : decode cL_law 1541 = .ok (.iload 5, 2) := by decide +kernel
theorem dL_law_1543 : decode cL_law 1543 = .ok (.ifCond .ne 15, 3) := by decide +kernel
theorem dL_law_1546 : decode cL_law 1546 = .ok (.aload_n 3, 1) := by decide +kernel
theorem dL_law_1547 : decode cL_law 1547 = .ok (.iconst 0, 1) := by decide +kernel
theorem dL_law_1548 : decode cL_law 1548 = .ok (.laload, 1) := by decide +kernel
theorem dL_law_1549 : decode cL_law 1549 = .ok (.iload 6, 2) := by decide +kernel
theorem dL_law_1551 : decode cL_law 1551 = .ok (.i2l, 1) := by decide +kernel
theorem dL_law_1552 : decode cL_law 1552 = .ok (.lcmp, 1) := by decide +kernel
theorem dL_law_1553 : decode cL_law 1553 = .ok (.ifCond .eq 5, 3) := by decide +kernel
theorem dL_law_1556 : decode cL_law 1556 = .ok (.iconst 0, 1) := by decide +kernel
theorem dL_law_1557 : decode cL_law 1557 = .ok (.ireturn, 1) := by decide +kernel
theorem dL_law_1558 : decode cL_law 1558 = .ok (.goto 371, 3) := by decide +kernel
theorem dL_law_1561 : decode cL_law 1561 = .ok (.aload_n 1, 1) := by decide +kernel
theorem dL_law_1562 : decode cL_law 1562 = .ok (.aload_n 3, 1) := by decide +kernel
theorem dL_law_1563 : decode cL_law 1563 = .ok (.invokestatic 220, 3) := by decide +kernel
theorem dL_law_1566 : decode cL_law 1566 = .ok (.istore 5, 2) := by decide +kernel
theorem dL_law_1568 : decode cL_law 1568 = .ok (.aload_n 2, 1) := by decide +kernel
theorem dL_law_1569 : decode cL_law 1569 = .ok (.invokevirtual 222, 3) := by decide +kernel
theorem dL_law_1572 : decode cL_law 1572 = .ok (.istore 6, 2) := by decide +kernel
theorem dL_law_1574 : decode cL_law 1574 = .ok (.aload_n 2, 1) := by decide +kernel
theorem dL_law_1575 : decode cL_law 1575 = .ok (.invokevirtual 128, 3) := by decide +kernel
theorem dL_law_1578 : decode cL_law 1578 = .ok (.iload 5, 2) := by decide +kernel
theorem dL_law_1580 : decode cL_law 1580 = .ok (.if_icmp .eq 5, 3) := by decide +kernel
theorem dL_law_1583 : decode cL_law 1583 = .ok (.iconst 0, 1) := by decide +kernel
theorem dL_law_1584 : decode cL_law 1584 = .ok (.ireturn, 1) := by decide +kernel
theorem dL_law_1585 : decode cL_law 1585 = .ok (.iload 5, 2) := by decide +kernel
theorem dL_law_1587 : decode cL_law 1587 = .ok (.ifCond .ne 15, 3) := by decide +kernel
theorem dL_law_1590 : decode cL_law 1590 = .ok (.aload_n 3, 1) := by decide +kernel
theorem dL_law_1591 : decode cL_law 1591 = .ok (.iconst 0, 1) := by decide +kernel
theorem dL_law_1592 : decode cL_law 1592 = .ok (.laload, 1) := by decide +kernel
theorem dL_law_1593 : decode cL_law 1593 = .ok (.iload 6, 2) := by decide +kernel
theorem dL_law_1595 : decode cL_law 1595 = .ok (.i2l, 1) := by decide +kernel
theorem dL_law_1596 : decode cL_law 1596 = .ok (.lcmp, 1) := by decide +kernel
theorem dL_law_1597 : decode cL_law 1597 = .ok (.ifCond .eq 5, 3) := by decide +kernel
theorem dL_law_1600 : decode cL_law 1600 = .ok (.iconst 0, 1) := by decide +kernel
theorem dL_law_1601 : decode cL_law 1601 = .ok (.ireturn, 1) := by decide +kernel
theorem dL_law_1602 : decode cL_law 1602 = .ok (.goto 327, 3) := by decide +kernel
theorem dL_law_1605 : decode cL_law 1605 = .ok (.aload_n 1, 1) := by decide +kernel
theorem dL_law_1606 : decode cL_law 1606 = .ok (.aload_n 3, 1) := by decide +kernel
theorem dL_law_1607 : decode cL_law 1607 = .ok (.invokestatic 223, 3) := by decide +kernel
theorem dL_law_1610 : decode cL_law 1610 = .ok (.istore 5, 2) := by decide +kernel
theorem dL_law_1612 : decode cL_law 1612 = .ok (.aload_n 2, 1) := by decide +kernel
theorem dL_law_1613 : decode cL_law 1613 = .ok (.invokevirtual 225, 3) := by decide +kernel
theorem dL_law_1616 : decode cL_law 1616 = .ok (.istore 6, 2) := by decide +kernel
theorem dL_law_1618 : decode cL_law 1618 = .ok (.aload_n 2, 1) := by decide +kernel
theorem dL_law_1619 : decode cL_law 1619 = .ok (.invokevirtual 128, 3) := by decide +kernel
theorem dL_law_1622 : decode cL_law 1622 = .ok (.iload 5, 2) := by decide +kernel
theorem dL_law_1624 : decode cL_law 1624 = .ok (.if_icmp .eq 5, 3) := by decide +kernel
theorem dL_law_1627 : decode cL_law 1627 = .ok (.iconst 0, 1) := by decide +kernel
theorem dL_law_1628 : decode cL_law 1628 = .ok (.ireturn, 1) := by decide +kernel
theorem dL_law_1629 : decode cL_law 1629 = .ok (.iload 5, 2) := by decide +kernel
theorem dL_law_1631 : decode cL_law 1631 = .ok (.ifCond .ne 15, 3) := by decide +kernel
theorem dL_law_1634 : decode cL_law 1634 = .ok (.aload_n 3, 1) := by decide +kernel
theorem dL_law_1635 : decode cL_law 1635 = .ok (.iconst 0, 1) := by decide +kernel
theorem dL_law_1636 : decode cL_law 1636 = .ok (.laload, 1) := by decide +kernel
theorem dL_law_1637 : decode cL_law 1637 = .ok (.iload 6, 2) := by decide +kernel
theorem dL_law_1639 : decode cL_law 1639 = .ok (.i2l, 1) := by decide +kernel
theorem dL_law_1640 : decode cL_law 1640 = .ok (.lcmp, 1) := by decide +kernel
theorem dL_law_1641 : decode cL_law 1641 = .ok (.ifCond .eq 5, 3) := by decide +kernel
theorem dL_law_1644 : decode cL_law 1644 = .ok (.iconst 0, 1) := by decide +kernel
theorem dL_law_1645 : decode cL_law 1645 = .ok (.ireturn, 1) := by decide +kernel
theorem dL_law_1646 : decode cL_law 1646 = .ok (.goto 283, 3) := by decide +kernel
theorem dL_law_1649 : decode cL_law 1649 = .ok (.aload_n 1, 1) := by decide +kernel
theorem dL_law_1650 : decode cL_law 1650 = .ok (.aload_n 3, 1) := by decide +kernel
theorem dL_law_1651 : decode cL_law 1651 = .ok (.invokestatic 226, 3) := by decide +kernel
theorem dL_law_1654 : decode cL_law 1654 = .ok (.istore 5, 2) := by decide +kernel
theorem dL_law_1656 : decode cL_law 1656 = .ok (.aload_n 2, 1) := by decide +kernel
theorem dL_law_1657 : decode cL_law 1657 = .ok (.invokevirtual 228, 3) := by decide +kernel
theorem dL_law_1660 : decode cL_law 1660 = .ok (.istore 6, 2) := by decide +kernel
theorem dL_law_1662 : decode cL_law 1662 = .ok (.aload_n 2, 1) := by decide +kernel
theorem dL_law_1663 : decode cL_law 1663 = .ok (.invokevirtual 128, 3) := by decide +kernel
theorem dL_law_1666 : decode cL_law 1666 = .ok (.iload 5, 2) := by decide +kernel
theorem dL_law_1668 : decode cL_law 1668 = .ok (.if_icmp .eq 5, 3) := by decide +kernel
theorem dL_law_1671 : decode cL_law 1671 = .ok (.iconst 0, 1) := by decide +kernel
theorem dL_law_1672 : decode cL_law 1672 = .ok (.ireturn, 1) := by decide +kernel
theorem dL_law_1673 : decode cL_law 1673 = .ok (.iload 5, 2) := by decide +kernel
theorem dL_law_1675 : decode cL_law 1675 = .ok (.ifCond .ne 15, 3) := by decide +kernel
theorem dL_law_1678 : decode cL_law 1678 = .ok (.aload_n 3, 1) := by decide +kernel
theorem dL_law_1679 : decode cL_law 1679 = .ok (.iconst 0, 1) := by decide +kernel
theorem dL_law_1680 : decode cL_law 1680 = .ok (.laload, 1) := by decide +kernel
theorem dL_law_1681 : decode cL_law 1681 = .ok (.iload 6, 2) := by decide +kernel
theorem dL_law_1683 : decode cL_law 1683 = .ok (.i2l, 1) := by decide +kernel
theorem dL_law_1684 : decode cL_law 1684 = .ok (.lcmp, 1) := by decide +kernel
theorem dL_law_1685 : decode cL_law 1685 = .ok (.ifCond .eq 5, 3) := by decide +kernel
theorem dL_law_1688 : decode cL_law 1688 = .ok (.iconst 0, 1) := by decide +kernel
theorem dL_law_1689 : decode cL_law 1689 = .ok (.ireturn, 1) := by decide +kernel
theorem dL_law_1690 : decode cL_law 1690 = .ok (.goto 239, 3) := by decide +kernel
theorem dL_law_1693 : decode cL_law 1693 = .ok (.aload_n 1, 1) := by decide +kernel
theorem dL_law_1694 : decode cL_law 1694 = .ok (.aload_n 0, 1) := by decide +kernel
theorem dL_law_1695 : decode cL_law 1695 = .ok (.iload 4, 2) := by decide +kernel
theorem dL_law_1697 : decode cL_law 1697 = .ok (.iconst 1, 1) := by decide +kernel
theorem dL_law_1698 : decode cL_law 1698 = .ok (.iadd, 1) := by decide +kernel
theorem dL_law_1699 : decode cL_law 1699 = .ok (.iaload, 1) := by decide +kernel
theorem dL_law_1700 : decode cL_law 1700 = .ok (.aload_n 3, 1) := by decide +kernel
theorem dL_law_1701 : decode cL_law 1701 = .ok (.invokestatic 229, 3) := by decide +kernel
theorem dL_law_1704 : decode cL_law 1704 = .ok (.istore 5, 2) := by decide +kernel
theorem dL_law_1706 : decode cL_law 1706 = .ok (.aload_n 2, 1) := by decide +kernel
theorem dL_law_1707 : decode cL_law 1707 = .ok (.aload_n 0, 1) := by decide +kernel
theorem dL_law_1708 : decode cL_law 1708 = .ok (.iload 4, 2) := by decide +kernel
theorem dL_law_1710 : decode cL_law 1710 = .ok (.iconst 1, 1) := by decide +kernel
theorem dL_law_1711 : decode cL_law 1711 = .ok (.iadd, 1) := by decide +kernel
theorem dL_law_1712 : decode cL_law 1712 = .ok (.iaload, 1) := by decide +kernel
theorem dL_law_1713 : decode cL_law 1713 = .ok (.invokevirtual 231, 3) := by decide +kernel
theorem dL_law_1716 : decode cL_law 1716 = .ok (.istore 6, 2) := by decide +kernel
theorem dL_law_1718 : decode cL_law 1718 = .ok (.aload_n 2, 1) := by decide +kernel
theorem dL_law_1719 : decode cL_law 1719 = .ok (.invokevirtual 128, 3) := by decide +kernel
theorem dL_law_1722 : decode cL_law 1722 = .ok (.iload 5, 2) := by decide +kernel
theorem dL_law_1724 : decode cL_law 1724 = .ok (.if_icmp .eq 5, 3) := by decide +kernel
theorem dL_law_1727 : decode cL_law 1727 = .ok (.iconst 0, 1) := by decide +kernel
theorem dL_law_1728 : decode cL_law 1728 = .ok (.ireturn, 1) := by decide +kernel
theorem dL_law_1729 : decode cL_law 1729 = .ok (.iload 5, 2) := by decide +kernel
theorem dL_law_1731 : decode cL_law 1731 = .ok (.ifCond .ne 22, 3) := by decide +kernel
theorem dL_law_1734 : decode cL_law 1734 = .ok (.aload_n 3, 1) := by decide +kernel
theorem dL_law_1735 : decode cL_law 1735 = .ok (.iconst 0, 1) := by decide +kernel
theorem dL_law_1736 : decode cL_law 1736 = .ok (.laload, 1) := by decide +kernel
theorem dL_law_1737 : decode cL_law 1737 = .ok (.iload 6, 2) := by decide +kernel
theorem dL_law_1739 : decode cL_law 1739 = .ok (.ifCond .eq 7, 3) := by decide +kernel
theorem dL_law_1742 : decode cL_law 1742 = .ok (.lconst 1, 1) := by decide +kernel
theorem dL_law_1743 : decode cL_law 1743 = .ok (.goto 4, 3) := by decide +kernel
theorem dL_law_1746 : decode cL_law 1746 = .ok (.lconst 0, 1) := by decide +kernel
theorem dL_law_1747 : decode cL_law 1747 = .ok (.lcmp, 1) := by decide +kernel
theorem dL_law_1748 : decode cL_law 1748 = .ok (.ifCond .eq 5, 3) := by decide +kernel
theorem dL_law_1751 : decode cL_law 1751 = .ok (.iconst 0, 1) := by decide +kernel
theorem dL_law_1752 : decode cL_law 1752 = .ok (.ireturn, 1) := by decide +kernel
theorem dL_law_1753 : decode cL_law 1753 = .ok (.goto 176, 3) := by decide +kernel
theorem dL_law_1756 : decode cL_law 1756 = .ok (.aload_n 1, 1) := by decide +kernel
theorem dL_law_1757 : decode cL_law 1757 = .ok (.invokevirtual 232, 3) := by decide +kernel
theorem dL_law_1760 : decode cL_law 1760 = .ok (.aload_n 2, 1) := by decide +kernel
theorem dL_law_1761 : decode cL_law 1761 = .ok (.invokevirtual 235, 3) := by decide +kernel
theorem dL_law_1764 : decode cL_law 1764 = .ok (.if_icmp .eq 165, 3) := by decide +kernel
theorem dL_law_1767 : decode cL_law 1767 = .ok (.iconst 0, 1) := by decide +kernel
theorem dL_law_1768 : decode cL_law 1768 = .ok (.ireturn, 1) := by decide +kernel
theorem dL_law_1769 : decode cL_law 1769 = .ok (.aload_n 1, 1) := by decide +kernel
theorem dL_law_1770 : decode cL_law 1770 = .ok (.aload_n 0, 1) := by decide +kernel
theorem dL_law_1771 : decode cL_law 1771 = .ok (.iload 4, 2) := by decide +kernel
theorem dL_law_1773 : decode cL_law 1773 = .ok (.iconst 1, 1) := by decide +kernel
theorem dL_law_1774 : decode cL_law 1774 = .ok (.iadd, 1) := by decide +kernel
theorem dL_law_1775 : decode cL_law 1775 = .ok (.iaload, 1) := by decide +kernel
theorem dL_law_1776 : decode cL_law 1776 = .ok (.ifCond .eq 7, 3) := by decide +kernel
theorem dL_law_1779 : decode cL_law 1779 = .ok (.iconst 1, 1) := by decide +kernel
theorem dL_law_1780 : decode cL_law 1780 = .ok (.goto 4, 3) := by decide +kernel
theorem dL_law_1783 : decode cL_law 1783 = .ok (.iconst 0, 1) := by decide +kernel
theorem dL_law_1784 : decode cL_law 1784 = .ok (.aload_n 3, 1) := by decide +kernel
theorem dL_law_1785 : decode cL_law 1785 = .ok (.invokestatic 236, 3) := by decide +kernel
theorem dL_law_1788 : decode cL_law 1788 = .ok (.istore 5, 2) := by decide +kernel
theorem dL_law_1790 : decode cL_law 1790 = .ok (.aload_n 2, 1) := by decide +kernel
theorem dL_law_1791 : decode cL_law 1791 = .ok (.aload_n 0, 1) := by decide +kernel
theorem dL_law_1792 : decode cL_law 1792 = .ok (.iload 4, 2) := by decide +kernel
theorem dL_law_1794 : decode cL_law 1794 = .ok (.iconst 1, 1) := by decide +kernel
theorem dL_law_1795 : decode cL_law 1795 = .ok (.iadd, 1) := by decide +kernel
theorem dL_law_1796 : decode cL_law 1796 = .ok (.iaload, 1) := by decide +kernel
theorem dL_law_1797 : decode cL_law 1797 = .ok (.ifCond .eq 7, 3) := by decide +kernel
theorem dL_law_1800 : decode cL_law 1800 = .ok (.iconst 1, 1) := by decide +kernel
theorem dL_law_1801 : decode cL_law 1801 = .ok (.goto 4, 3) := by decide +kernel
theorem dL_law_1804 : decode cL_law 1804 = .ok (.iconst 0, 1) := by decide +kernel
theorem dL_law_1805 : decode cL_law 1805 = .ok (.invokevirtual 239, 3) := by decide +kernel
theorem dL_law_1808 : decode cL_law 1808 = .ok (.istore 6, 2) := by decide +kernel
theorem dL_law_1810 : decode cL_law 1810 = .ok (.aload_n 2, 1) := by decide +kernel
theorem dL_law_1811 : decode cL_law 1811 = .ok (.invokevirtual 128, 3) := by decide +kernel
theorem dL_law_1814 : decode cL_law 1814 = .ok (.iload 5, 2) := by decide +kernel
theorem dL_law_1816 : decode cL_law 1816 = .ok (.if_icmp .eq 5, 3) := by decide +kernel
theorem dL_law_1819 : decode cL_law 1819 = .ok (.iconst 0, 1) := by decide +kernel
theorem dL_law_1820 : decode cL_law 1820 = .ok (.ireturn, 1) := by decide +kernel
theorem dL_law_1821 : decode cL_law 1821 = .ok (.iload 5, 2) := by decide +kernel
theorem dL_law_1823 : decode cL_law 1823 = .ok (.ifCond .ne 15, 3) := by decide +kernel
theorem dL_law_1826 : decode cL_law 1826 = .ok (.aload_n 3, 1) := by decide +kernel
theorem dL_law_1827 : decode cL_law 1827 = .ok (.iconst 0, 1) := by decide +kernel
theorem dL_law_1828 : decode cL_law 1828 = .ok (.laload, 1) := by decide +kernel
theorem dL_law_1829 : decode cL_law 1829 = .ok (.iload 6, 2) := by decide +kernel
theorem dL_law_1831 : decode cL_law 1831 = .ok (.i2l, 1) := by decide +kernel
theorem dL_law_1832 : decode cL_law 1832 = .ok (.lcmp, 1) := by decide +kernel
theorem dL_law_1833 : decode cL_law 1833 = .ok (.ifCond .eq 5, 3) := by decide +kernel
theorem dL_law_1836 : decode cL_law 1836 = .ok (.iconst 0, 1) := by decide +kernel
theorem dL_law_1837 : decode cL_law 1837 = .ok (.ireturn, 1) := by decide +kernel
theorem dL_law_1838 : decode cL_law 1838 = .ok (.goto 91, 3) := by decide +kernel
theorem dL_law_1841 : decode cL_law 1841 = .ok (.aload_n 1, 1) := by decide +kernel
theorem dL_law_1842 : decode cL_law 1842 = .ok (.aload_n 3, 1) := by decide +kernel
theorem dL_law_1843 : decode cL_law 1843 = .ok (.invokestatic 240, 3) := by decide +kernel
theorem dL_law_1846 : decode cL_law 1846 = .ok (.istore 5, 2) := by decide +kernel
theorem dL_law_1848 : decode cL_law 1848 = .ok (.aload_n 2, 1) := by decide +kernel
theorem dL_law_1849 : decode cL_law 1849 = .ok (.invokevirtual 242, 3) := by decide +kernel
theorem dL_law_1852 : decode cL_law 1852 = .ok (.istore 6, 2) := by decide +kernel
theorem dL_law_1854 : decode cL_law 1854 = .ok (.aload_n 2, 1) := by decide +kernel
theorem dL_law_1855 : decode cL_law 1855 = .ok (.invokevirtual 128, 3) := by decide +kernel
theorem dL_law_1858 : decode cL_law 1858 = .ok (.iload 5, 2) := by decide +kernel
theorem dL_law_1860 : decode cL_law 1860 = .ok (.if_icmp .eq 5, 3) := by decide +kernel
theorem dL_law_1863 : decode cL_law 1863 = .ok (.iconst 0, 1) := by decide +kernel
theorem dL_law_1864 : decode cL_law 1864 = .ok (.ireturn, 1) := by decide +kernel
theorem dL_law_1865 : decode cL_law 1865 = .ok (.iload 5, 2) := by decide +kernel
theorem dL_law_1867 : decode cL_law 1867 = .ok (.ifCond .ne 15, 3) := by decide +kernel
theorem dL_law_1870 : decode cL_law 1870 = .ok (.aload_n 3, 1) := by decide +kernel
theorem dL_law_1871 : decode cL_law 1871 = .ok (.iconst 0, 1) := by decide +kernel
theorem dL_law_1872 : decode cL_law 1872 = .ok (.laload, 1) := by decide +kernel
theorem dL_law_1873 : decode cL_law 1873 = .ok (.iload 6, 2) := by decide +kernel
theorem dL_law_1875 : decode cL_law 1875 = .ok (.i2l, 1) := by decide +kernel
theorem dL_law_1876 : decode cL_law 1876 = .ok (.lcmp, 1) := by decide +kernel
theorem dL_law_1877 : decode cL_law 1877 = .ok (.ifCond .eq 5, 3) := by decide +kernel
theorem dL_law_1880 : decode cL_law 1880 = .ok (.iconst 0, 1) := by decide +kernel
theorem dL_law_1881 : decode cL_law 1881 = .ok (.ireturn, 1) := by decide +kernel
theorem dL_law_1882 : decode cL_law 1882 = .ok (.goto 47, 3) := by decide +kernel
theorem dL_law_1885 : decode cL_law 1885 = .ok (.aload_n 1, 1) := by decide +kernel
theorem dL_law_1886 : decode cL_law 1886 = .ok (.aload_n 3, 1) := by decide +kernel
theorem dL_law_1887 : decode cL_law 1887 = .ok (.invokestatic 243, 3) := by decide +kernel
theorem dL_law_1890 : decode cL_law 1890 = .ok (.istore 5, 2) := by decide +kernel
theorem dL_law_1892 : decode cL_law 1892 = .ok (.aload_n 2, 1) := by decide +kernel
theorem dL_law_1893 : decode cL_law 1893 = .ok (.invokevirtual 245, 3) := by decide +kernel
theorem dL_law_1896 : decode cL_law 1896 = .ok (.istore 6, 2) := by decide +kernel
theorem dL_law_1898 : decode cL_law 1898 = .ok (.aload_n 2, 1) := by decide +kernel
theorem dL_law_1899 : decode cL_law 1899 = .ok (.invokevirtual 128, 3) := by decide +kernel
theorem dL_law_1902 : decode cL_law 1902 = .ok (.iload 5, 2) := by decide +kernel
theorem dL_law_1904 : decode cL_law 1904 = .ok (.if_icmp .eq 5, 3) := by decide +kernel
theorem dL_law_1907 : decode cL_law 1907 = .ok (.iconst 0, 1) := by decide +kernel
theorem dL_law_1908 : decode cL_law 1908 = .ok (.ireturn, 1) := by decide +kernel
theorem dL_law_1909 : decode cL_law 1909 = .ok (.iload 5, 2) := by decide +kernel
theorem dL_law_1911 : decode cL_law 1911 = .ok (.ifCond .ne 15, 3) := by decide +kernel
theorem dL_law_1914 : decode cL_law 1914 = .ok (.aload_n 3, 1) := by decide +kernel
theorem dL_law_1915 : decode cL_law 1915 = .ok (.iconst 0, 1) := by decide +kernel
theorem dL_law_1916 : decode cL_law 1916 = .ok (.laload, 1) := by decide +kernel
theorem dL_law_1917 : decode cL_law 1917 = .ok (.iload 6, 2) := by decide +kernel
theorem dL_law_1919 : decode cL_law 1919 = .ok (.i2l, 1) := by decide +kernel
theorem dL_law_1920 : decode cL_law 1920 = .ok (.lcmp, 1) := by decide +kernel
theorem dL_law_1921 : decode cL_law 1921 = .ok (.ifCond .eq 5, 3) := by decide +kernel
theorem dL_law_1924 : decode cL_law 1924 = .ok (.iconst 0, 1) := by decide +kernel
theorem dL_law_1925 : decode cL_law 1925 = .ok (.ireturn, 1) := by decide +kernel
theorem dL_law_1926 : decode cL_law 1926 = .ok (.goto 3, 3) := by decide +kernel
theorem dL_law_1929 : decode cL_law 1929 = .ok (.iinc 4 7, 3) := by decide +kernel
theorem dL_law_1932 : decode cL_law 1932 = .ok (.goto (-1909), 3) := by decide +kernel
theorem dL_law_1935 : decode cL_law 1935 = .ok (.iconst 1, 1) := by decide +kernel
theorem dL_law_1936 : decode cL_law 1936 = .ok (.ireturn, 1) := by decide +kernel
end
section
/-! ===== the abstract state: a row of whole numbers for each object, by the object's number ===== -/
abbrev omH : Type := Nat → Nat → Int
abbrev omi (a : Int) : Int32 := Int32.ofInt a
/-- the value of an int register that holds a number mod 2^32 -/
def omw (a : Int) : Int := (a + 2147483648) % 4294967296 - 2147483648
/-- the same of 64 bits -/
def omwl (a : Int) : Int := (a + 9223372036854775808) % 18446744073709551616 - 9223372036854775808
theorem omw_eq (a : Int) : (Int32.ofInt a).toInt = omw a := by
  rw [Int32.toInt_ofInt]
  unfold omw
  rw [show Int32.size = 4294967296 from rfl, Int.bmod_def]
  split <;> omega
theorem omwl_eq (a : Int) : (Int64.ofInt a).toInt = omwl a := by
  rw [Int64.toInt_ofInt]
  unfold omwl
  rw [show Int64.size = 18446744073709551616 from rfl, Int.bmod_def]
  split <;> omega
theorem omw_id {a : Int} (h1 : -2147483648 ≤ a) (h2 : a < 2147483648) : omw a = a := by unfold omw; omega
theorem omi_w (a : Int) : omi (omw a) = omi a := by
  rw [← omw_eq]; exact Int32.ofInt_toInt _
theorem omi_inj {a b : Int} : omi a = omi b ↔ omw a = omw b := by
  rw [← omw_eq, ← omw_eq]
  exact ⟨fun h => by rw [show Int32.ofInt a = Int32.ofInt b from h], fun h => Int32.toInt_inj.mp h⟩
def omsu (σ : omH) (o j : Nat) (v : Int) : omH := fun o' j' => if o' = o ∧ j' = j then v else σ o' j'
/-- the objects' numbers and kinds: an array (0 int, 1 long, 2 boolean) and its length, or a class (its place in vwCl) and its fields: none a number, some r the object r, some 999 any object -/
abbrev omD : Type := (Nat × Nat) ⊕ (Nat × List (Option Nat))
def omT : List (Nat × omD) := [
  (16, .inr (7, [some 17, some 24, some 29, some 35, some 38, some 40, some 42])),
  (17, .inr (0, [none, some 18, some 19, some 20, some 21, some 22, some 23])),
  (18, .inl (0, 10)), (19, .inl (0, 10)), (20, .inl (0, 10)), (21, .inl (0, 10)), (22, .inl (0, 10)), (23, .inl (0, 4)),
  (24, .inr (2, [none, none, some 25, some 26, some 27, some 28])),
  (25, .inl (0, 20)), (26, .inl (0, 20)), (27, .inl (0, 20)), (28, .inl (0, 10)),
  (29, .inr (4, [some 30, some 31, some 32, some 33, some 34])),
  (30, .inl (0, 10)), (31, .inl (0, 10)), (32, .inl (0, 10)), (33, .inl (0, 10)), (34, .inl (0, 5120)),
  (35, .inr (3, [some 36, some 37])), (36, .inl (0, 10)), (37, .inl (0, 10)),
  (38, .inr (1, [some 39, some 999, some 999, none])), (39, .inl (0, 10)),
  (40, .inr (5, [some 41])), (41, .inl (0, 10)),
  (42, .inr (6, [none, none, none])),
  (43, .inr (8, [none, none, some 44, some 45, some 46, some 47, some 48, some 49, none, none, some 50, some 51, some 52, some 53, some 54, some 55, some 56, some 57, some 58, some 59])),
  (44, .inl (0, 10)), (45, .inl (0, 10)), (46, .inl (0, 10)), (47, .inl (0, 10)), (48, .inl (0, 10)), (49, .inl (0, 4)),
  (50, .inl (0, 64)), (51, .inl (0, 64)), (52, .inl (0, 64)), (53, .inl (0, 10)), (54, .inl (0, 10)), (55, .inl (0, 10)),
  (56, .inl (0, 1024)), (57, .inl (0, 5120)), (58, .inl (0, 11)), (59, .inl (2, 512)),
  (60, .inl (1, 1))]
/-- addresses; the tables' classes; the array classes of int, long, boolean; the script; the texts; the launch -/
abbrev omG : Type := (Nat → Nat) × va_G × (ClassId × ClassId × ClassId) × (Nat × (Nat → Int32)) × (Nat → Nat) × Launch
def omfv (G : omG) (row : Nat → Int) (k : Nat) (d : Option Nat) : Value := match d with
  | none => .int (omi (row k))
  | some r => .ref (G.1 (if r = 999 then (row k).toNat else r))
def omfs (G : omG) (row : Nat → Int) : List (Option Nat) → Nat → List Value
  | [], _ => []
  | d :: t, k => omfv G row k d :: omfs G row t (k + 1)
def oment (G : omG) (row : Nat → Int) (d : omD) : va_E := match d with
  | .inl (0, n) => .inl (G.2.2.1.1, n, .inl (fun j => omi (row j)))
  | .inl (1, n) => .inl (G.2.2.1.2.1, n, .inr (.inl (fun j => Int64.ofInt (row j))))
  | .inl (_, n) => .inl (G.2.2.1.2.2, n, .inl (fun j => omi (row j)))
  | .inr (ci, fds) => .inr (ci, omfs G row fds 0)
def omW (G : omG) (σ : omH) : va_W := omT.map (fun e => (G.1 e.1, oment G (σ e.1) e.2))
theorem omW_get {G : omG} {σ : omH} {q o : Nat} {d : omD} (h : omT[q]? = some (o, d)) : (omW G σ)[q]? = some (G.1 o, oment G (σ o) d) := by
  unfold omW
  rw [List.getElem?_map, h]; rfl
theorem omT_nd : ∀ i < omT.length, ∀ j < omT.length, (omT[i]?).map (·.1) = (omT[j]?).map (·.1) → i = j := by decide +kernel
theorem omT_key {i j : Nat} {p q : Nat × omD} (hi : omT[i]? = some p) (hj : omT[j]? = some q) (h : p.1 = q.1) : i = j :=
  omT_nd i (List.getElem?_eq_some_iff.mp hi).1 j (List.getElem?_eq_some_iff.mp hj).1 (by rw [hi, hj]; simp [h])
theorem omW_set {G : omG} {σ : omH} {q o j : Nat} {v : Int} {d : omD} (h : omT[q]? = some (o, d)) {e : va_E} (he : e = oment G (omsu σ o j v o) d) : (omW G σ).set q (G.1 o, e) = omW G (omsu σ o j v) := by
  subst he
  apply List.ext_getElem?
  intro i
  rw [List.getElem?_set]
  split
  · rename_i hq
    subst hq
    have hlt : q < omT.length := (List.getElem?_eq_some_iff.mp h).1
    rw [if_pos (by unfold omW; rw [List.length_map]; exact hlt), omW_get h]
  · rename_i hq
    unfold omW
    rw [List.getElem?_map, List.getElem?_map]
    cases hi : omT[i]? with
    | none => rfl
    | some p =>
      obtain ⟨o', d'⟩ := p
      have hne : o' ≠ o := fun e => hq (omT_key h hi e.symm)
      show some (G.1 o', oment G (σ o') d') = some (G.1 o', oment G (omsu σ o j v o') d')
      have : omsu σ o j v o' = σ o' := by funext j'; simp [omsu, hne]
      rw [this]
/-- the objects lie apart and may be written -/
def omDj (G : omG) (A : Nat → Prop) : Prop := (∀ (i j : Nat) (p q : Nat × omD), omT[i]? = some p → omT[j]? = some q → G.1 p.1 = G.1 q.1 → i = j) ∧ ∀ (k : Nat) (q : Nat × omD), omT[k]? = some q → A (G.1 q.1)
theorem omDj.D {G : omG} {A : Nat → Prop} (h : omDj G A) (σ : omH) : va_D A (omW G σ) := by
  have hs : ∀ (k : Nat) (q : Nat × va_E), (omW G σ)[k]? = some q → ∃ p, omT[k]? = some p ∧ q.1 = G.1 p.1 := by
    intro k q hq
    unfold omW at hq
    rw [List.getElem?_map] at hq
    cases hk : omT[k]? with
    | none => rw [hk] at hq; cases hq
    | some p => rw [hk] at hq; exact ⟨p, rfl, by rw [← Option.some.inj hq]⟩
  refine ⟨fun i j p q hp hq e => ?_, fun k q hq => ?_⟩
  · obtain ⟨p', h1, h2⟩ := hs i p hp
    obtain ⟨q', h3, h4⟩ := hs j q hq
    exact h.1 i j p' q' h1 h3 (by rw [← h2, ← h4]; exact e)
  · obtain ⟨p', h1, h2⟩ := hs k q hq
    rw [h2]; exact h.2 k p' h1
def omA (G : omG) (sz : Nat) : Nat → Prop := fun q => (∃ (k : Nat) (e : Nat × omD), omT[k]? = some e ∧ q = G.1 e.1) ∨ sz ≤ q
abbrev omTys (G : omG) : List (ClassId × FieldType) := [(G.2.2.1.1, .int), (G.2.2.1.2.1, .long), (G.2.2.1.2.2, .boolean)]
def omTB : List Cond := lw_tbl.filter goodWord
theorem omTB_in {i : Nat} {w : Cond} (h : lw_tbl[i]? = some w) (hg : goodWord w = true) : w ∈ omTB := List.mem_filter.mpr ⟨List.mem_of_getElem? h, hg⟩
theorem omTB_good : ∀ w ∈ omTB, goodWord w = true := fun _ h => (List.mem_filter.mp h).2
abbrev omCostN : List String := ["GREATEST_LATENESS", "LATE_JOBS", "COMPLETIONS", "WEIGHTED_COMPLETIONS", "WEIGHTED_TARDINESS"]
abbrev omKeyN : List String := ["DUE", "RELEASE", "RATIO"]
abbrev omWayN : List String := ["IN_A_ROW", "WITH_SETUPS", "AS_PRIORITIES"]
abbrev omOrd : List (String × String × String × List Int32) := [("java/lang/Enum", "ordinal", "I", [0, 1, 2, 3, 4])]
/-- what nobody writes: the enums' constants, the switches' tables, the script, two statics of Throwable's, the texts -/
def omRO (G : omG) (A : Nat → Prop) (U : State) (H : Heap) : Prop :=
  va_En RX1 "LOneMachine$Cost;" omCostN omOrd (fun i => G.1 (0 + i)) A U H ∧
  va_En RX3 "LOneMachine$Key;" omKeyN omOrd (fun i => G.1 (5 + i)) A U H ∧
  va_En RX9 "LOneMachine$Way;" omWayN omOrd (fun i => G.1 (8 + i)) A U H ∧
  (va_Z RX0 "$SwitchMap$OneMachine$Cost" "[I" (.ref (G.1 11)) A U H ∧ va_T .int (G.1 11) 5 (fun j => .int (omi (j + 1))) A U H) ∧
  (va_Z RX0 "$SwitchMap$OneMachine$Key" "[I" (.ref (G.1 12)) A U H ∧ va_T .int (G.1 12) 3 (fun j => .int (omi (j + 1))) A U H) ∧
  (va_Z RX0 "$SwitchMap$OneMachine$Way" "[I" (.ref (G.1 13)) A U H ∧ va_T .int (G.1 13) 3 (fun j => .int (omi (j + 1))) A U H) ∧
  va_T .int (G.1 14) G.2.2.2.1.1 (fun j => .int (G.2.2.2.1.2 j)) A U H ∧
  vx_Zq Bundle.tN "UNASSIGNED_STACK" Bundle.steD A U H ∧ vx_Zq Bundle.tN "SUPPRESSED_SENTINEL" Bundle.listD A U H ∧
  va_Nc "java/lang/IllegalStateException" "java/lang/IllegalArgumentException" U ∧ va_Nc "java/lang/IllegalArgumentException" "java/lang/IndexOutOfBoundsException" U ∧ va_Nc "java/lang/IllegalStateException" "java/lang/IndexOutOfBoundsException" U
theorem omRO.moved {G : omG} {A : Nat → Prop} {u U : State} {H : Heap} (hvm : u.vm.Alike U.vm) (h : omRO G A u H) : omRO G A U H := by
  obtain ⟨h1, h2, h3, ⟨h4, h4'⟩, ⟨h5, h5'⟩, ⟨h6, h6'⟩, h7, h8, h9, h10, h11, h12⟩ := h
  exact ⟨h1.moved hvm, h2.moved hvm, h3.moved hvm, ⟨h4.moved hvm, h4'.moved hvm⟩, ⟨h5.moved hvm, h5'.moved hvm⟩, ⟨h6.moved hvm, h6'.moved hvm⟩, h7.moved hvm, h8.moved hvm, h9.moved hvm, h10.moved hvm, h11.moved hvm, h12.moved hvm⟩
theorem omRO.kept {G : omG} {A : Nat → Prop} {U : State} {H H1 : Heap} (h : omRO G A U H) (hq : ∀ a : Nat, a < H.size → ¬ A a → H1[a]? = H[a]?) : omRO G A U H1 := by
  obtain ⟨h1, h2, h3, ⟨h4, h4'⟩, ⟨h5, h5'⟩, ⟨h6, h6'⟩, h7, h8, h9, h10, h11, h12⟩ := h
  exact ⟨h1.kept hq, h2.kept hq, h3.kept hq, ⟨h4.kept hq, h4'.kept hq⟩, ⟨h5.kept hq, h5'.kept hq⟩, ⟨h6.kept hq, h6'.kept hq⟩, h7.kept hq, h8.kept hq, h9.kept hq, h10, h11, h12⟩
theorem omRO.narrow {G : omG} {A B : Nat → Prop} {U : State} {H : Heap} (h : omRO G A U H) (hAB : ∀ q, B q → A q) : omRO G B U H := by
  obtain ⟨h1, h2, h3, ⟨h4, h4'⟩, ⟨h5, h5'⟩, ⟨h6, h6'⟩, h7, h8, h9, h10, h11, h12⟩ := h
  exact ⟨h1.narrow hAB, h2.narrow hAB, h3.narrow hAB, ⟨h4.narrow hAB, h4'.narrow hAB⟩, ⟨h5.narrow hAB, h5'.narrow hAB⟩, ⟨h6.narrow hAB, h6'.narrow hAB⟩, h7.narrow hAB, h8.narrow hAB, h9.narrow hAB, h10, h11, h12⟩
end
section
/-! ===== rows: one instruction each, over the abstract state ===== -/
abbrev omX : Type := Program × Launch × Env × Room × State × MethodId × Array Value × List Frame × Method × Code × (State → Prop) × (Nat → Prop) × Nat × Nat
def omL (la : Array Slot) (nL : Nat) (ls : List (Nat × Value)) : Prop := lv_has la nL ls ∧ ∀ q ∈ ls, q.2.category = 1
/-- from here the method comes to its end -/
def omV (G : omG) (x : omX) (nL pc : Nat) (ls : List (Nat × Value)) (st : List Value) (σ : omH) (k : Nat) : Prop := match x with
  | (p, l, e, R, s, m, args, below, meth, c, Q, A, c0, s0) => ∀ (H : Heap) (locs : List Loc) (la : Array Slot), omL la nL ls → va_P G.2.1 vwCl (omW G σ) H → va_S A s.heap H locs → W p l e R s m args below meth c H locs (c0 + k) (s0 + 8 * k) Q (F0 m pc la st)
def omTexts : List (Nat × String) := [(68, "there are 10 jobs"), (93, "there is no such family"), (98, "time is out of range"), (207, "set is below 0 or has a bit of no job"), (228, "length, due, weight, release or family is out of range"), (230, "there is no such job"), (232, "there is no such piece"), (234, "there is no plan"), (236, "there is no job"), (238, "there is no job, or there are more than 7")]
def omTX (G : omG) (U : State) : Prop := ∀ t ∈ omTexts, vk_R RX11 t.1 t.2 (G.2.2.2.2.1 t.1) U
/-- what holds all along a method's body -/
def omC (G : omG) (x : omX) (own : String) (cc : ByteArray) (nL h kc : Nat) : Prop := match x with
  | (p, l, _, R, s, m, args, _, meth, c, _, A, c0, s0) => p.tables.exec = Jvm.exec ∧ c.code = cc ∧ c.maxLocals = nL ∧ s.vm.findClass own = some m.cls ∧ meth.locks = false ∧ (∀ w ∈ omTB, w.before args s = true) ∧ va_K G.2.1 vwCl (omTys G) s ∧ omRO G A s s.heap ∧ omTX G s ∧ omDj G A ∧ (∀ q : Nat, s.heap.size ≤ q → A q) ∧ (l = G.2.2.2.2.2 ∧ l.stackTraces = false) ∧ 8 + h ≤ R.frames ∧ 200 + 40 * h ≤ R.locals ∧ c0 + kc ≤ R.cells ∧ s0 + 8 * kc ≤ R.slots
def omput : List (Nat × Value) → Nat → Value → List (Nat × Value)
  | [], i, v => [(i, v)]
  | q :: t, i, v => bif Nat.beq q.1 i then (i, v) :: t.filter (fun q => !(Nat.beq q.1 i)) else q :: omput t i v
theorem omput_in {l : List (Nat × Value)} {i : Nat} {v : Value} : ∀ q ∈ omput l i v, q = (i, v) ∨ (q ∈ l ∧ q.1 ≠ i) := by
  induction l with
  | nil => intro q h; exact Or.inl (List.mem_singleton.mp h)
  | cons a t ih =>
    intro q h
    unfold omput at h
    cases hb : Nat.beq a.1 i with
    | true =>
      rw [hb] at h
      rcases List.mem_cons.mp h with h | h
      · exact Or.inl h
      · obtain ⟨h1, h2⟩ := List.mem_filter.mp h
        refine Or.inr ⟨List.mem_cons_of_mem _ h1, fun e => ?_⟩
        rw [e] at h2
        simp at h2
    | false =>
      rw [hb] at h
      rcases List.mem_cons.mp h with h | h
      · subst h
        exact Or.inr ⟨List.mem_cons_self, fun e => by rw [e] at hb; simp at hb⟩
      · rcases ih q h with h | ⟨h1, h2⟩
        · exact Or.inl h
        · exact Or.inr ⟨List.mem_cons_of_mem _ h1, h2⟩
theorem omL_put {la : Array Slot} {nL i : Nat} {ls : List (Nat × Value)} {v : Value} (hv : v.category = 1) (h0 : ∀ q ∈ ls, q.2.category = 1) (h : lv_has la nL ((i, v) :: ls.filter (fun q => !(q.1 == i) && !(q.1 + 1 == i && q.2.category == 2)))) : omL la nL (omput ls i v) := by
  refine ⟨⟨h.1, h.2.1, fun q hq => ?_⟩, fun q hq => ?_⟩
  · rcases omput_in q hq with rfl | ⟨h1, h2⟩
    · exact h.2.2 _ List.mem_cons_self
    · refine h.2.2 _ (List.mem_cons_of_mem _ (List.mem_filter.mpr ⟨h1, ?_⟩))
      have := h0 q h1
      simp [h2, this]
  · rcases omput_in q hq with rfl | ⟨h1, -⟩
    · exact hv
    · exact h0 q h1
theorem omL_at {la : Array Slot} {nL : Nat} {ls : List (Nat × Value)} (h : omL la nL ls) {q i : Nat} {v : Value} (hk : ls[q]? = some (i, v)) : la[i]? = some (.val v) := lv_at h.1 q hk
theorem omL_sub {la : Array Slot} {nL : Nat} {ls ls' : List (Nat × Value)} (h : omL la nL ls) (hs : ∀ q ∈ ls', q ∈ ls) : omL la nL ls' := ⟨⟨h.1.1, h.1.2.1, fun q hq => h.1.2.2 q (hs q hq)⟩, fun q hq => h.2 q (hs q hq)⟩
theorem omi_add (a b : Int) : omi a + omi b = omi (a + b) := (Int32.ofInt_add a b).symm
theorem omi_sub (a b : Int) : omi a - omi b = omi (a - b) := (Int32.ofInt_sub a b).symm
theorem omi_mul (a b : Int) : omi a * omi b = omi (a * b) := (Int32.ofInt_mul a b).symm
theorem omi_neg (a : Int) : -omi a = omi (-a) := (Int32.ofInt_neg a).symm
theorem omi_of {x : Int32} {a : Int} (h : x.toInt = omw a) : x = omi a := Int32.toInt_inj.mp (h.trans (omw_eq a).symm)
theorem omi_of2 {x : Int32} {a : Int} (h : x.toInt = a) : x = omi a := by rw [← h]; exact (Int32.ofInt_toInt x).symm
theorem omw_bm (z : Int) : z.bmod 4294967296 = omw z := by
  unfold omw
  rw [Int.bmod_def]
  split <;> omega
theorem omi_div (a b : Int) : omi a / omi b = omi ((omw a).tdiv (omw b)) := by
  apply omi_of
  rw [Int32.toInt_div, omw_eq, omw_eq]
  exact omw_bm _
theorem omi_rem (a b : Int) : omi a - omi a / omi b * omi b = omi ((omw a).tmod (omw b)) := by
  rw [omi_div, Int.tmod_def, ← omi_sub, omi_w, Int.mul_comm, ← omi_mul, omi_w]
theorem omi_0 {b : Int} : omi b = 0 ↔ omw b = 0 := by
  rw [show (0 : Int32) = omi 0 from rfl, omi_inj]
  rfl
theorem omi_lt {a b : Int} : omi a < omi b ↔ omw a < omw b := by rw [Int32.lt_iff_toInt_lt, omw_eq, omw_eq]
theorem omi_le {a b : Int} : omi a ≤ omi b ↔ ¬ omw b < omw a := by rw [Int32.le_iff_toInt_le, omw_eq, omw_eq]; omega
/-- shifts, by the places' last five bits -/
def omshl (a b : Int) : Int := a * 2 ^ (b % 32).toNat
def omshr (a b : Int) : Int := omw a / 2 ^ (b % 32).toNat
def omand (a b : Int) : Int := (omi a &&& omi b).toInt
def omor (a b : Int) : Int := (omi a ||| omi b).toInt
def omxor (a b : Int) : Int := (omi a ^^^ omi b).toInt
theorem omi_nat (b : Int) : (omi b).toBitVec.toNat = (b % 4294967296).toNat := by
  show (BitVec.ofInt 32 b).toNat = _
  rw [BitVec.toNat_ofInt]; rfl
theorem om_s32 : ∀ j : Nat, j < 32 → ((nI j).toBitVec.smod 32).toNat = j := by decide +kernel
theorem om_s31 (b : Int) : ((omi b &&& 31).toBitVec.smod 32).toNat = (b % 32).toNat := by
  rw [pk_and (omi b) (m := 31) 5 (by decide), om_s32 _ (Nat.mod_lt _ (by decide)), omi_nat]
  omega
theorem omi_shl (a b : Int) : omi a <<< (omi b &&& 31) = omi (omshl a b) := by
  apply Int32.toBitVec_inj.mp
  apply BitVec.eq_of_toNat_eq
  rw [pk_shl _ _ _ (om_s31 b), omi_nat, omi_nat]
  unfold omshl
  generalize (b % 32).toNat = n
  have hp : (0 : Int) < 2 ^ n := Int.pow_pos (by decide)
  have e1 : (((a % 4294967296).toNat * 2 ^ n % 2 ^ 32 : Nat) : Int) = ((a * 2 ^ n) % 4294967296) := by
    rw [Int.natCast_emod, Int.natCast_mul, Int.toNat_of_nonneg (by omega), Int.natCast_pow]
    show (a % 4294967296 * (2:Int) ^ n) % 4294967296 = _
    rw [Int.mul_emod, Int.emod_emod_of_dvd _ (Int.dvd_refl _), ← Int.mul_emod]
  omega
theorem omi_shr (a b : Int) : omi a >>> (omi b &&& 31) = omi (omshr a b) := by
  apply omi_of2
  rw [pk_shr _ _ _ (om_s31 b), omw_eq, Int.shiftRight_eq_div_pow]
  rfl
theorem omi_and (a b : Int) : omi a &&& omi b = omi (omand a b) := (Int32.ofInt_toInt _).symm
theorem omi_or (a b : Int) : omi a ||| omi b = omi (omor a b) := (Int32.ofInt_toInt _).symm
theorem omi_xor (a b : Int) : omi a ^^^ omi b = omi (omxor a b) := (Int32.ofInt_toInt _).symm
def omcmp (a b : Int) : Int := if omwl b < omwl a then 1 else if omwl a = omwl b then 0 else -1

section OMR
variable {G : omG} {x : omX} {own : String} {cc : ByteArray} {nL h kc pc : Nat} {ls : List (Nat × Value)} {st : List Value} {σ : omH} {k : Nat}
theorem v_sub {ls' : List (Nat × Value)} (hs : ∀ q ∈ ls', q ∈ ls) (kk : omV G x nL pc ls' st σ k) : omV G x nL pc ls st σ k := by
  obtain ⟨p, l, e, R, s, m, args, below, meth, c, Q, A, c0, s0⟩ := x
  exact fun H locs la hl hP hS => kk H locs la (omL_sub hl hs) hP hS
theorem v_widen {k' : Nat} (hk : k ≤ k') (kk : omV G x nL pc ls st σ k') : omV G x nL pc ls st σ k := by
  obtain ⟨p, l, e, R, s, m, args, below, meth, c, Q, A, c0, s0⟩ := x
  exact fun H locs la hl hP hS => W.widen (k := c0 + k') (n := s0 + 8 * k') (by omega) (by omega) (kk H locs la hl hP hS)
theorem v_iload (C : omC G x own cc nL h kc) {i q : Nat} {v : Int32} (hk : ls[q]? = some (i, .int v)) (d : decode cc pc = .ok (.iload i, 2)) (kk : omV G x nL (pc + 2) ls (.int v :: st) σ k) : omV G x nL pc ls (st) σ k := by
  obtain ⟨p, l, e, R, s, m, args, below, meth, c, Q, A, c0, s0⟩ := x
  obtain ⟨hx, hb, hml, hown, hlk, hts, hK, hRO, hTX, hDj, hA, hst, hRf, hRl, hRc, hRs⟩ := C
  intro H locs la hl hP hS
  refine lv_iload hx hb d (omL_at hl hk) ?_
  exact kk H locs la hl hP hS
theorem v_iload_n (C : omC G x own cc nL h kc) {j : Fin 4} {i q : Nat} {v : Int32} (hi : (j : Nat) = i) (hk : ls[q]? = some (i, .int v)) (d : decode cc pc = .ok (.iload_n j, 1)) (kk : omV G x nL (pc + 1) ls (.int v :: st) σ k) : omV G x nL pc ls (st) σ k := by
  obtain ⟨p, l, e, R, s, m, args, below, meth, c, Q, A, c0, s0⟩ := x
  obtain ⟨hx, hb, hml, hown, hlk, hts, hK, hRO, hTX, hDj, hA, hst, hRf, hRl, hRc, hRs⟩ := C
  intro H locs la hl hP hS
  refine lv_iload_n hx hb d hi (omL_at hl hk) ?_
  exact kk H locs la hl hP hS
theorem v_aload (C : omC G x own cc nL h kc) {i q : Nat} {v : Nat} (hk : ls[q]? = some (i, .ref v)) (d : decode cc pc = .ok (.aload i, 2)) (kk : omV G x nL (pc + 2) ls (.ref v :: st) σ k) : omV G x nL pc ls (st) σ k := by
  obtain ⟨p, l, e, R, s, m, args, below, meth, c, Q, A, c0, s0⟩ := x
  obtain ⟨hx, hb, hml, hown, hlk, hts, hK, hRO, hTX, hDj, hA, hst, hRf, hRl, hRc, hRs⟩ := C
  intro H locs la hl hP hS
  refine lv_aload hx hb d (omL_at hl hk) ?_
  exact kk H locs la hl hP hS
theorem v_aload_n (C : omC G x own cc nL h kc) {j : Fin 4} {i q : Nat} {v : Nat} (hi : (j : Nat) = i) (hk : ls[q]? = some (i, .ref v)) (d : decode cc pc = .ok (.aload_n j, 1)) (kk : omV G x nL (pc + 1) ls (.ref v :: st) σ k) : omV G x nL pc ls (st) σ k := by
  obtain ⟨p, l, e, R, s, m, args, below, meth, c, Q, A, c0, s0⟩ := x
  obtain ⟨hx, hb, hml, hown, hlk, hts, hK, hRO, hTX, hDj, hA, hst, hRf, hRl, hRc, hRs⟩ := C
  intro H locs la hl hP hS
  refine lv_aload_n hx hb d hi (omL_at hl hk) ?_
  exact kk H locs la hl hP hS
theorem v_istore (C : omC G x own cc nL h kc) {ls' : List (Nat × Value)} {i : Nat} {v : Int32} (hn : i < nL) (hl' : omput ls i (.int v) = ls') (d : decode cc pc = .ok (.istore i, 2)) (kk : omV G x nL (pc + 2) ls' st σ k) : omV G x nL pc ls (.int v :: st) σ k := by
  obtain ⟨p, l, e, R, s, m, args, below, meth, c, Q, A, c0, s0⟩ := x
  obtain ⟨hx, hb, hml, hown, hlk, hts, hK, hRO, hTX, hDj, hA, hst, hRf, hRl, hRc, hRs⟩ := C
  intro H locs la hl hP hS
  subst hl'
  refine lv_istore hx hb d hl.1 hn rfl (fun la' hl2 => ?_)
  exact kk H locs la' (omL_put rfl hl.2 hl2) hP hS
theorem v_istore_n (C : omC G x own cc nL h kc) {ls' : List (Nat × Value)} {j : Fin 4} {i : Nat} {v : Int32} (hi : (j : Nat) = i) (hn : i < nL) (hl' : omput ls i (.int v) = ls') (d : decode cc pc = .ok (.istore_n j, 1)) (kk : omV G x nL (pc + 1) ls' st σ k) : omV G x nL pc ls (.int v :: st) σ k := by
  obtain ⟨p, l, e, R, s, m, args, below, meth, c, Q, A, c0, s0⟩ := x
  obtain ⟨hx, hb, hml, hown, hlk, hts, hK, hRO, hTX, hDj, hA, hst, hRf, hRl, hRc, hRs⟩ := C
  intro H locs la hl hP hS
  subst hl'
  refine lv_istore_n hx hb d hi hl.1 hn rfl (fun la' hl2 => ?_)
  exact kk H locs la' (omL_put rfl hl.2 hl2) hP hS
theorem v_astore (C : omC G x own cc nL h kc) {ls' : List (Nat × Value)} {i : Nat} {v : Nat} (hn : i < nL) (hl' : omput ls i (.ref v) = ls') (d : decode cc pc = .ok (.astore i, 2)) (kk : omV G x nL (pc + 2) ls' st σ k) : omV G x nL pc ls (.ref v :: st) σ k := by
  obtain ⟨p, l, e, R, s, m, args, below, meth, c, Q, A, c0, s0⟩ := x
  obtain ⟨hx, hb, hml, hown, hlk, hts, hK, hRO, hTX, hDj, hA, hst, hRf, hRl, hRc, hRs⟩ := C
  intro H locs la hl hP hS
  subst hl'
  refine lv_astore hx hb d hl.1 hn rfl (fun la' hl2 => ?_)
  exact kk H locs la' (omL_put rfl hl.2 hl2) hP hS
theorem v_astore_n (C : omC G x own cc nL h kc) {ls' : List (Nat × Value)} {j : Fin 4} {i : Nat} {v : Nat} (hi : (j : Nat) = i) (hn : i < nL) (hl' : omput ls i (.ref v) = ls') (d : decode cc pc = .ok (.astore_n j, 1)) (kk : omV G x nL (pc + 1) ls' st σ k) : omV G x nL pc ls (.ref v :: st) σ k := by
  obtain ⟨p, l, e, R, s, m, args, below, meth, c, Q, A, c0, s0⟩ := x
  obtain ⟨hx, hb, hml, hown, hlk, hts, hK, hRO, hTX, hDj, hA, hst, hRf, hRl, hRc, hRs⟩ := C
  intro H locs la hl hP hS
  subst hl'
  refine lv_astore_n hx hb d hi hl.1 hn rfl (fun la' hl2 => ?_)
  exact kk H locs la' (omL_put rfl hl.2 hl2) hP hS
theorem v_iinc (C : omC G x own cc nL h kc) {ls' : List (Nat × Value)} {i q : Nat} {a b n : Int} (hk : ls[q]? = some (i, .int (omi a))) (hn : i < nL) (hb' : a + n = b) (hl' : omput ls i (.int (omi b)) = ls') (d : decode cc pc = .ok (.iinc i n, 3)) (kk : omV G x nL (pc + 3) ls' st σ k) : omV G x nL pc ls st σ k := by
  obtain ⟨p, l, e, R, s, m, args, below, meth, c, Q, A, c0, s0⟩ := x
  obtain ⟨hx, hb, hml, hown, hlk, hts, hK, hRO, hTX, hDj, hA, hst, hRf, hRl, hRc, hRs⟩ := C
  intro H locs la hl hP hS
  subst hl'
  subst hb'
  refine lv_iinc hx hb d hl.1 hk (v := omi (a + n)) (omi_add a n) hn rfl (fun la' hl2 => ?_)
  exact kk H locs la' (omL_put rfl hl.2 hl2) hP hS
theorem v_iconst (C : omC G x own cc nL h kc) {n : Int} (d : decode cc pc = .ok (.iconst n, 1)) (kk : omV G x nL (pc + 1) ls (.int (omi n) :: st) σ k) : omV G x nL pc ls (st) σ k := by
  obtain ⟨p, l, e, R, s, m, args, below, meth, c, Q, A, c0, s0⟩ := x
  obtain ⟨hx, hb, hml, hown, hlk, hts, hK, hRO, hTX, hDj, hA, hst, hRf, hRl, hRc, hRs⟩ := C
  intro H locs la hl hP hS
  refine lv_iconst hx hb d rfl ?_
  exact kk H locs la hl hP hS
theorem v_bipush (C : omC G x own cc nL h kc) {n a : Int} (ha : (Int8.ofInt n).toInt32 = omi a) (d : decode cc pc = .ok (.bipush n, 2)) (kk : omV G x nL (pc + 2) ls (.int (omi a) :: st) σ k) : omV G x nL pc ls (st) σ k := by
  obtain ⟨p, l, e, R, s, m, args, below, meth, c, Q, A, c0, s0⟩ := x
  obtain ⟨hx, hb, hml, hown, hlk, hts, hK, hRO, hTX, hDj, hA, hst, hRf, hRl, hRc, hRs⟩ := C
  intro H locs la hl hP hS
  refine lv_bipush hx hb d ha ?_
  exact kk H locs la hl hP hS
theorem v_sipush (C : omC G x own cc nL h kc) {n a : Int} (ha : (Int16.ofInt n).toInt32 = omi a) (d : decode cc pc = .ok (.sipush n, 3)) (kk : omV G x nL (pc + 3) ls (.int (omi a) :: st) σ k) : omV G x nL pc ls (st) σ k := by
  obtain ⟨p, l, e, R, s, m, args, below, meth, c, Q, A, c0, s0⟩ := x
  obtain ⟨hx, hb, hml, hown, hlk, hts, hK, hRO, hTX, hDj, hA, hst, hRf, hRl, hRc, hRs⟩ := C
  intro H locs la hl hP hS
  refine lv_sipush hx hb d ha ?_
  exact kk H locs la hl hP hS
theorem v_ldc (C : omC G x own cc nL h kc) {i : Nat} {a : Int} (hc : Cond.constant own i (omi a) ∈ omTB) (d : decode cc pc = .ok (.ldc i, 2)) (kk : omV G x nL (pc + 2) ls (.int (omi a) :: st) σ k) : omV G x nL pc ls (st) σ k := by
  obtain ⟨p, l, e, R, s, m, args, below, meth, c, Q, A, c0, s0⟩ := x
  obtain ⟨hx, hb, hml, hown, hlk, hts, hK, hRO, hTX, hDj, hA, hst, hRf, hRl, hRc, hRs⟩ := C
  intro H locs la hl hP hS
  refine lv_ldc hx hb hown (hts _ hc) d ?_
  exact kk H locs la hl hP hS
theorem v_lconst (C : omC G x own cc nL h kc) {n : Fin 2} {a : Int} (ha : Int64.ofNat (n : Nat) = Int64.ofInt a) (d : decode cc pc = .ok (.lconst n, 1)) (kk : omV G x nL (pc + 1) ls (.long (Int64.ofInt a) :: st) σ k) : omV G x nL pc ls (st) σ k := by
  obtain ⟨p, l, e, R, s, m, args, below, meth, c, Q, A, c0, s0⟩ := x
  obtain ⟨hx, hb, hml, hown, hlk, hts, hK, hRO, hTX, hDj, hA, hst, hRf, hRl, hRc, hRs⟩ := C
  intro H locs la hl hP hS
  refine lv_lconst hx hb d ha ?_
  exact kk H locs la hl hP hS
theorem v_iadd (C : omC G x own cc nL h kc) {a b : Int} (d : decode cc pc = .ok (.iadd, 1)) (kk : omV G x nL (pc + 1) ls (.int (omi (a + b)) :: st) σ k) : omV G x nL pc ls (.int (omi b) :: .int (omi a) :: st) σ k := by
  obtain ⟨p, l, e, R, s, m, args, below, meth, c, Q, A, c0, s0⟩ := x
  obtain ⟨hx, hb, hml, hown, hlk, hts, hK, hRO, hTX, hDj, hA, hst, hRf, hRl, hRc, hRs⟩ := C
  intro H locs la hl hP hS
  refine lv_iadd hx hb d ?_
  rw [omi_add]
  exact kk H locs la hl hP hS
theorem v_isub (C : omC G x own cc nL h kc) {a b : Int} (d : decode cc pc = .ok (.isub, 1)) (kk : omV G x nL (pc + 1) ls (.int (omi (a - b)) :: st) σ k) : omV G x nL pc ls (.int (omi b) :: .int (omi a) :: st) σ k := by
  obtain ⟨p, l, e, R, s, m, args, below, meth, c, Q, A, c0, s0⟩ := x
  obtain ⟨hx, hb, hml, hown, hlk, hts, hK, hRO, hTX, hDj, hA, hst, hRf, hRl, hRc, hRs⟩ := C
  intro H locs la hl hP hS
  refine lv_isub hx hb d ?_
  rw [omi_sub]
  exact kk H locs la hl hP hS
theorem v_imul (C : omC G x own cc nL h kc) {a b : Int} (d : decode cc pc = .ok (.imul, 1)) (kk : omV G x nL (pc + 1) ls (.int (omi (a * b)) :: st) σ k) : omV G x nL pc ls (.int (omi b) :: .int (omi a) :: st) σ k := by
  obtain ⟨p, l, e, R, s, m, args, below, meth, c, Q, A, c0, s0⟩ := x
  obtain ⟨hx, hb, hml, hown, hlk, hts, hK, hRO, hTX, hDj, hA, hst, hRf, hRl, hRc, hRs⟩ := C
  intro H locs la hl hP hS
  refine lv_imul hx hb d ?_
  rw [omi_mul]
  exact kk H locs la hl hP hS
theorem v_iand (C : omC G x own cc nL h kc) {a b : Int} (d : decode cc pc = .ok (.iand, 1)) (kk : omV G x nL (pc + 1) ls (.int (omi (omand a b)) :: st) σ k) : omV G x nL pc ls (.int (omi b) :: .int (omi a) :: st) σ k := by
  obtain ⟨p, l, e, R, s, m, args, below, meth, c, Q, A, c0, s0⟩ := x
  obtain ⟨hx, hb, hml, hown, hlk, hts, hK, hRO, hTX, hDj, hA, hst, hRf, hRl, hRc, hRs⟩ := C
  intro H locs la hl hP hS
  refine lv_iand hx hb d ?_
  rw [omi_and]
  exact kk H locs la hl hP hS
theorem v_ior (C : omC G x own cc nL h kc) {a b : Int} (d : decode cc pc = .ok (.ior, 1)) (kk : omV G x nL (pc + 1) ls (.int (omi (omor a b)) :: st) σ k) : omV G x nL pc ls (.int (omi b) :: .int (omi a) :: st) σ k := by
  obtain ⟨p, l, e, R, s, m, args, below, meth, c, Q, A, c0, s0⟩ := x
  obtain ⟨hx, hb, hml, hown, hlk, hts, hK, hRO, hTX, hDj, hA, hst, hRf, hRl, hRc, hRs⟩ := C
  intro H locs la hl hP hS
  refine lv_ior hx hb d ?_
  rw [omi_or]
  exact kk H locs la hl hP hS
theorem v_ixor (C : omC G x own cc nL h kc) {a b : Int} (d : decode cc pc = .ok (.ixor, 1)) (kk : omV G x nL (pc + 1) ls (.int (omi (omxor a b)) :: st) σ k) : omV G x nL pc ls (.int (omi b) :: .int (omi a) :: st) σ k := by
  obtain ⟨p, l, e, R, s, m, args, below, meth, c, Q, A, c0, s0⟩ := x
  obtain ⟨hx, hb, hml, hown, hlk, hts, hK, hRO, hTX, hDj, hA, hst, hRf, hRl, hRc, hRs⟩ := C
  intro H locs la hl hP hS
  refine lv_ixor hx hb d ?_
  rw [omi_xor]
  exact kk H locs la hl hP hS
theorem v_ishl (C : omC G x own cc nL h kc) {a b : Int} (d : decode cc pc = .ok (.ishl, 1)) (kk : omV G x nL (pc + 1) ls (.int (omi (omshl a b)) :: st) σ k) : omV G x nL pc ls (.int (omi b) :: .int (omi a) :: st) σ k := by
  obtain ⟨p, l, e, R, s, m, args, below, meth, c, Q, A, c0, s0⟩ := x
  obtain ⟨hx, hb, hml, hown, hlk, hts, hK, hRO, hTX, hDj, hA, hst, hRf, hRl, hRc, hRs⟩ := C
  intro H locs la hl hP hS
  refine lv_ishl hx hb d ?_
  rw [omi_shl]
  exact kk H locs la hl hP hS
theorem v_ishr (C : omC G x own cc nL h kc) {a b : Int} (d : decode cc pc = .ok (.ishr, 1)) (kk : omV G x nL (pc + 1) ls (.int (omi (omshr a b)) :: st) σ k) : omV G x nL pc ls (.int (omi b) :: .int (omi a) :: st) σ k := by
  obtain ⟨p, l, e, R, s, m, args, below, meth, c, Q, A, c0, s0⟩ := x
  obtain ⟨hx, hb, hml, hown, hlk, hts, hK, hRO, hTX, hDj, hA, hst, hRf, hRl, hRc, hRs⟩ := C
  intro H locs la hl hP hS
  refine lv_ishr hx hb d ?_
  rw [omi_shr]
  exact kk H locs la hl hP hS
theorem v_idiv (C : omC G x own cc nL h kc) {a b : Int} (hn : ¬ omw b = 0) (d : decode cc pc = .ok (.idiv, 1)) (kk : omV G x nL (pc + 1) ls (.int (omi ((omw a).tdiv (omw b))) :: st) σ k) : omV G x nL pc ls (.int (omi b) :: .int (omi a) :: st) σ k := by
  obtain ⟨p, l, e, R, s, m, args, below, meth, c, Q, A, c0, s0⟩ := x
  obtain ⟨hx, hb, hml, hown, hlk, hts, hK, hRO, hTX, hDj, hA, hst, hRf, hRl, hRc, hRs⟩ := C
  intro H locs la hl hP hS
  refine lv_idiv hx hb d (fun e => hn (omi_0.mp e)) ?_
  rw [omi_div]
  exact kk H locs la hl hP hS
theorem v_irem (C : omC G x own cc nL h kc) {a b : Int} (hn : ¬ omw b = 0) (d : decode cc pc = .ok (.irem, 1)) (kk : omV G x nL (pc + 1) ls (.int (omi ((omw a).tmod (omw b))) :: st) σ k) : omV G x nL pc ls (.int (omi b) :: .int (omi a) :: st) σ k := by
  obtain ⟨p, l, e, R, s, m, args, below, meth, c, Q, A, c0, s0⟩ := x
  obtain ⟨hx, hb, hml, hown, hlk, hts, hK, hRO, hTX, hDj, hA, hst, hRf, hRl, hRc, hRs⟩ := C
  intro H locs la hl hP hS
  refine lv_irem hx hb d (fun e => hn (omi_0.mp e)) ?_
  rw [omi_rem]
  exact kk H locs la hl hP hS
theorem v_ineg (C : omC G x own cc nL h kc) {a : Int} (d : decode cc pc = .ok (.ineg, 1)) (kk : omV G x nL (pc + 1) ls (.int (omi (-a)) :: st) σ k) : omV G x nL pc ls (.int (omi a) :: st) σ k := by
  obtain ⟨p, l, e, R, s, m, args, below, meth, c, Q, A, c0, s0⟩ := x
  obtain ⟨hx, hb, hml, hown, hlk, hts, hK, hRO, hTX, hDj, hA, hst, hRf, hRl, hRc, hRs⟩ := C
  intro H locs la hl hP hS
  refine lv_ineg hx hb d ?_
  rw [omi_neg]
  exact kk H locs la hl hP hS
theorem om_i2l (a : Int) : (omi a).toInt64 = Int64.ofInt (omw a) := by
  apply Int64.toInt_inj.mp
  rw [Int32.toInt_toInt64, omw_eq, omwl_eq]
  unfold omw omwl
  omega
theorem om_cmp (a b : Int) : lg_cmp (Int64.ofInt a) (Int64.ofInt b) = omi (omcmp a b) := by
  unfold lg_cmp omcmp
  simp only [gt_iff_lt, Int64.lt_iff_toInt_lt, ← Int64.toInt_inj, omwl_eq]
  by_cases h1 : omwl b < omwl a
  · rw [if_pos h1, if_pos h1]; rfl
  · rw [if_neg h1, if_neg h1]
    by_cases h2 : omwl a = omwl b
    · rw [if_pos h2, if_pos h2]; rfl
    · rw [if_neg h2, if_neg h2]; rfl
theorem v_i2l (C : omC G x own cc nL h kc) {a : Int} (d : decode cc pc = .ok (.i2l, 1)) (kk : omV G x nL (pc + 1) ls (.long (Int64.ofInt (omw a)) :: st) σ k) : omV G x nL pc ls (.int (omi a) :: st) σ k := by
  obtain ⟨p, l, e, R, s, m, args, below, meth, c, Q, A, c0, s0⟩ := x
  obtain ⟨hx, hb, hml, hown, hlk, hts, hK, hRO, hTX, hDj, hA, hst, hRf, hRl, hRc, hRs⟩ := C
  intro H locs la hl hP hS
  refine lv_i2l hx hb d (om_i2l a) ?_
  exact kk H locs la hl hP hS
theorem v_lcmp (C : omC G x own cc nL h kc) {a b : Int} (d : decode cc pc = .ok (.lcmp, 1)) (kk : omV G x nL (pc + 1) ls (.int (omi (omcmp a b)) :: st) σ k) : omV G x nL pc ls (.long (Int64.ofInt b) :: .long (Int64.ofInt a) :: st) σ k := by
  obtain ⟨p, l, e, R, s, m, args, below, meth, c, Q, A, c0, s0⟩ := x
  obtain ⟨hx, hb, hml, hown, hlk, hts, hK, hRO, hTX, hDj, hA, hst, hRf, hRl, hRc, hRs⟩ := C
  intro H locs la hl hP hS
  refine W.lcmp hx hb d ?_
  rw [om_cmp]
  exact kk H locs la hl hP hS
theorem v_dup (C : omC G x own cc nL h kc) {v : Value} (hv : v.category = 1) (d : decode cc pc = .ok (.dup, 1)) (kk : omV G x nL (pc + 1) ls (v :: v :: st) σ k) : omV G x nL pc ls (v :: st) σ k := by
  obtain ⟨p, l, e, R, s, m, args, below, meth, c, Q, A, c0, s0⟩ := x
  obtain ⟨hx, hb, hml, hown, hlk, hts, hK, hRO, hTX, hDj, hA, hst, hRf, hRl, hRc, hRs⟩ := C
  intro H locs la hl hP hS
  refine lv_dup hx hb d hv ?_
  exact kk H locs la hl hP hS
theorem v_dup2 (C : omC G x own cc nL h kc) {v u : Value} (hv : v.category = 1) (hu : u.category = 1) (d : decode cc pc = .ok (.dup2, 1)) (kk : omV G x nL (pc + 1) ls (v :: u :: v :: u :: st) σ k) : omV G x nL pc ls (v :: u :: st) σ k := by
  obtain ⟨p, l, e, R, s, m, args, below, meth, c, Q, A, c0, s0⟩ := x
  obtain ⟨hx, hb, hml, hown, hlk, hts, hK, hRO, hTX, hDj, hA, hst, hRf, hRl, hRc, hRs⟩ := C
  intro H locs la hl hP hS
  refine lv_dup2_11 hx hb d (by first | exact hv | exact hu) (by first | exact hu | exact hv) ?_
  exact kk H locs la hl hP hS
theorem v_goto (C : omC G x own cc nL h kc) {off : Int} {tgt : Nat} (d : decode cc pc = .ok (.goto off, 3)) (ht : (pc : Int) + off = (tgt : Int)) (kk : omV G x nL tgt ls st σ k) : omV G x nL pc ls st σ k := by
  obtain ⟨p, l, e, R, s, m, args, below, meth, c, Q, A, c0, s0⟩ := x
  obtain ⟨hx, hb, hml, hown, hlk, hts, hK, hRO, hTX, hDj, hA, hst, hRf, hRl, hRc, hRs⟩ := C
  intro H locs la hl hP hS
  exact lv_goto hx hb d ht (kk H locs la hl hP hS)
theorem v_icmp_eq (C : omC G x own cc nL h kc) {a b off : Int} {tgt : Nat} (d : decode cc pc = .ok (.if_icmp .eq off, 3)) (ht : (pc : Int) + off = (tgt : Int)) (kt : omw a = omw b → omV G x nL tgt ls st σ k) (kf : ¬ omw a = omw b → omV G x nL (pc + 3) ls st σ k) : omV G x nL pc ls (.int (omi b) :: .int (omi a) :: st) σ k := by
  obtain ⟨p, l, e, R, s, m, args, below, meth, c, Q, A, c0, s0⟩ := x
  obtain ⟨hx, hb, hml, hown, hlk, hts, hK, hRO, hTX, hDj, hA, hst, hRf, hRl, hRc, hRs⟩ := C
  intro H locs la hl hP hS
  exact lv_icmp_eq hx hb d ht (fun hh => kt (omi_inj.mp hh) H locs la hl hP hS) (fun hh => kf (fun e => hh (omi_inj.mpr e)) H locs la hl hP hS)
theorem v_if_eq (C : omC G x own cc nL h kc) {a off : Int} {tgt : Nat} (d : decode cc pc = .ok (.ifCond .eq off, 3)) (ht : (pc : Int) + off = (tgt : Int)) (kt : omw a = 0 → omV G x nL tgt ls st σ k) (kf : ¬ omw a = 0 → omV G x nL (pc + 3) ls st σ k) : omV G x nL pc ls (.int (omi a) :: st) σ k := by
  obtain ⟨p, l, e, R, s, m, args, below, meth, c, Q, A, c0, s0⟩ := x
  obtain ⟨hx, hb, hml, hown, hlk, hts, hK, hRO, hTX, hDj, hA, hst, hRf, hRl, hRc, hRs⟩ := C
  intro H locs la hl hP hS
  have b0 : omw 0 = 0 := rfl
  refine lv_if_eq hx hb d ht (fun hh => kt ?_ H locs la hl hP hS) (fun hh => kf ?_ H locs la hl hP hS)
  · rw [show (0 : Int32) = omi 0 from rfl] at hh
    have := omi_inj.mp hh
    rw [b0] at this
    exact this
  · rw [show (0 : Int32) = omi 0 from rfl] at hh
    have := show (¬ omw a = omw 0) from fun e => hh (omi_inj.mpr e)
    rw [b0] at this
    exact this
theorem v_icmp_ne (C : omC G x own cc nL h kc) {a b off : Int} {tgt : Nat} (d : decode cc pc = .ok (.if_icmp .ne off, 3)) (ht : (pc : Int) + off = (tgt : Int)) (kt : ¬ omw a = omw b → omV G x nL tgt ls st σ k) (kf : omw a = omw b → omV G x nL (pc + 3) ls st σ k) : omV G x nL pc ls (.int (omi b) :: .int (omi a) :: st) σ k := by
  obtain ⟨p, l, e, R, s, m, args, below, meth, c, Q, A, c0, s0⟩ := x
  obtain ⟨hx, hb, hml, hown, hlk, hts, hK, hRO, hTX, hDj, hA, hst, hRf, hRl, hRc, hRs⟩ := C
  intro H locs la hl hP hS
  exact lv_icmp_ne hx hb d ht (fun hh => kt (fun e => hh (omi_inj.mpr e)) H locs la hl hP hS) (fun hh => kf (omi_inj.mp hh) H locs la hl hP hS)
theorem v_if_ne (C : omC G x own cc nL h kc) {a off : Int} {tgt : Nat} (d : decode cc pc = .ok (.ifCond .ne off, 3)) (ht : (pc : Int) + off = (tgt : Int)) (kt : ¬ omw a = 0 → omV G x nL tgt ls st σ k) (kf : omw a = 0 → omV G x nL (pc + 3) ls st σ k) : omV G x nL pc ls (.int (omi a) :: st) σ k := by
  obtain ⟨p, l, e, R, s, m, args, below, meth, c, Q, A, c0, s0⟩ := x
  obtain ⟨hx, hb, hml, hown, hlk, hts, hK, hRO, hTX, hDj, hA, hst, hRf, hRl, hRc, hRs⟩ := C
  intro H locs la hl hP hS
  have b0 : omw 0 = 0 := rfl
  refine lv_if_ne hx hb d ht (fun hh => kt ?_ H locs la hl hP hS) (fun hh => kf ?_ H locs la hl hP hS)
  · rw [show (0 : Int32) = omi 0 from rfl] at hh
    have := fun e => hh (omi_inj.mpr e)
    rw [b0] at this
    exact this
  · rw [show (0 : Int32) = omi 0 from rfl] at hh
    have := show (omw a = omw 0) from omi_inj.mp hh
    rw [b0] at this
    exact this
theorem v_icmp_lt (C : omC G x own cc nL h kc) {a b off : Int} {tgt : Nat} (d : decode cc pc = .ok (.if_icmp .lt off, 3)) (ht : (pc : Int) + off = (tgt : Int)) (kt : omw a < omw b → omV G x nL tgt ls st σ k) (kf : ¬ omw a < omw b → omV G x nL (pc + 3) ls st σ k) : omV G x nL pc ls (.int (omi b) :: .int (omi a) :: st) σ k := by
  obtain ⟨p, l, e, R, s, m, args, below, meth, c, Q, A, c0, s0⟩ := x
  obtain ⟨hx, hb, hml, hown, hlk, hts, hK, hRO, hTX, hDj, hA, hst, hRf, hRl, hRc, hRs⟩ := C
  intro H locs la hl hP hS
  exact lv_icmp_lt hx hb d ht (fun hh => kt (omi_lt.mp hh) H locs la hl hP hS) (fun hh => kf (fun e => hh (omi_lt.mpr e)) H locs la hl hP hS)
theorem v_if_lt (C : omC G x own cc nL h kc) {a off : Int} {tgt : Nat} (d : decode cc pc = .ok (.ifCond .lt off, 3)) (ht : (pc : Int) + off = (tgt : Int)) (kt : omw a < 0 → omV G x nL tgt ls st σ k) (kf : ¬ omw a < 0 → omV G x nL (pc + 3) ls st σ k) : omV G x nL pc ls (.int (omi a) :: st) σ k := by
  obtain ⟨p, l, e, R, s, m, args, below, meth, c, Q, A, c0, s0⟩ := x
  obtain ⟨hx, hb, hml, hown, hlk, hts, hK, hRO, hTX, hDj, hA, hst, hRf, hRl, hRc, hRs⟩ := C
  intro H locs la hl hP hS
  have b0 : omw 0 = 0 := rfl
  refine lv_if_lt hx hb d ht (fun hh => kt ?_ H locs la hl hP hS) (fun hh => kf ?_ H locs la hl hP hS)
  · rw [show (0 : Int32) = omi 0 from rfl] at hh
    have := omi_lt.mp hh
    rw [b0] at this
    exact this
  · rw [show (0 : Int32) = omi 0 from rfl] at hh
    have := show (¬ omw a < omw 0) from fun e => hh (omi_lt.mpr e)
    rw [b0] at this
    exact this
theorem v_icmp_ge (C : omC G x own cc nL h kc) {a b off : Int} {tgt : Nat} (d : decode cc pc = .ok (.if_icmp .ge off, 3)) (ht : (pc : Int) + off = (tgt : Int)) (kt : ¬ omw a < omw b → omV G x nL tgt ls st σ k) (kf : omw a < omw b → omV G x nL (pc + 3) ls st σ k) : omV G x nL pc ls (.int (omi b) :: .int (omi a) :: st) σ k := by
  obtain ⟨p, l, e, R, s, m, args, below, meth, c, Q, A, c0, s0⟩ := x
  obtain ⟨hx, hb, hml, hown, hlk, hts, hK, hRO, hTX, hDj, hA, hst, hRf, hRl, hRc, hRs⟩ := C
  intro H locs la hl hP hS
  exact lv_icmp_ge hx hb d ht (fun hh => kt (omi_le.mp hh) H locs la hl hP hS) (fun hh => kf (Decidable.not_not.mp (fun e => hh (omi_le.mpr e))) H locs la hl hP hS)
theorem v_if_ge (C : omC G x own cc nL h kc) {a off : Int} {tgt : Nat} (d : decode cc pc = .ok (.ifCond .ge off, 3)) (ht : (pc : Int) + off = (tgt : Int)) (kt : ¬ omw a < 0 → omV G x nL tgt ls st σ k) (kf : omw a < 0 → omV G x nL (pc + 3) ls st σ k) : omV G x nL pc ls (.int (omi a) :: st) σ k := by
  obtain ⟨p, l, e, R, s, m, args, below, meth, c, Q, A, c0, s0⟩ := x
  obtain ⟨hx, hb, hml, hown, hlk, hts, hK, hRO, hTX, hDj, hA, hst, hRf, hRl, hRc, hRs⟩ := C
  intro H locs la hl hP hS
  have b0 : omw 0 = 0 := rfl
  refine lv_if_ge hx hb d ht (fun hh => kt ?_ H locs la hl hP hS) (fun hh => kf ?_ H locs la hl hP hS)
  · rw [show (0 : Int32) = omi 0 from rfl] at hh
    have := omi_le.mp hh
    rw [b0] at this
    exact this
  · rw [show (0 : Int32) = omi 0 from rfl] at hh
    have := show (omw a < omw 0) from Decidable.not_not.mp (fun e => hh (omi_le.mpr e))
    rw [b0] at this
    exact this
theorem v_icmp_gt (C : omC G x own cc nL h kc) {a b off : Int} {tgt : Nat} (d : decode cc pc = .ok (.if_icmp .gt off, 3)) (ht : (pc : Int) + off = (tgt : Int)) (kt : omw b < omw a → omV G x nL tgt ls st σ k) (kf : ¬ omw b < omw a → omV G x nL (pc + 3) ls st σ k) : omV G x nL pc ls (.int (omi b) :: .int (omi a) :: st) σ k := by
  obtain ⟨p, l, e, R, s, m, args, below, meth, c, Q, A, c0, s0⟩ := x
  obtain ⟨hx, hb, hml, hown, hlk, hts, hK, hRO, hTX, hDj, hA, hst, hRf, hRl, hRc, hRs⟩ := C
  intro H locs la hl hP hS
  exact lv_icmp_gt hx hb d ht (fun hh => kt (omi_lt.mp hh) H locs la hl hP hS) (fun hh => kf (fun e => hh (omi_lt.mpr e)) H locs la hl hP hS)
theorem v_if_gt (C : omC G x own cc nL h kc) {a off : Int} {tgt : Nat} (d : decode cc pc = .ok (.ifCond .gt off, 3)) (ht : (pc : Int) + off = (tgt : Int)) (kt : 0 < omw a → omV G x nL tgt ls st σ k) (kf : ¬ 0 < omw a → omV G x nL (pc + 3) ls st σ k) : omV G x nL pc ls (.int (omi a) :: st) σ k := by
  obtain ⟨p, l, e, R, s, m, args, below, meth, c, Q, A, c0, s0⟩ := x
  obtain ⟨hx, hb, hml, hown, hlk, hts, hK, hRO, hTX, hDj, hA, hst, hRf, hRl, hRc, hRs⟩ := C
  intro H locs la hl hP hS
  have b0 : omw 0 = 0 := rfl
  refine lv_if_gt hx hb d ht (fun hh => kt ?_ H locs la hl hP hS) (fun hh => kf ?_ H locs la hl hP hS)
  · rw [show (0 : Int32) = omi 0 from rfl] at hh
    have := omi_lt.mp hh
    rw [b0] at this
    exact this
  · rw [show (0 : Int32) = omi 0 from rfl] at hh
    have := show (¬ omw 0 < omw a) from fun e => hh (omi_lt.mpr e)
    rw [b0] at this
    exact this
theorem v_icmp_le (C : omC G x own cc nL h kc) {a b off : Int} {tgt : Nat} (d : decode cc pc = .ok (.if_icmp .le off, 3)) (ht : (pc : Int) + off = (tgt : Int)) (kt : ¬ omw b < omw a → omV G x nL tgt ls st σ k) (kf : omw b < omw a → omV G x nL (pc + 3) ls st σ k) : omV G x nL pc ls (.int (omi b) :: .int (omi a) :: st) σ k := by
  obtain ⟨p, l, e, R, s, m, args, below, meth, c, Q, A, c0, s0⟩ := x
  obtain ⟨hx, hb, hml, hown, hlk, hts, hK, hRO, hTX, hDj, hA, hst, hRf, hRl, hRc, hRs⟩ := C
  intro H locs la hl hP hS
  exact lv_icmp_le hx hb d ht (fun hh => kt (omi_le.mp hh) H locs la hl hP hS) (fun hh => kf (Decidable.not_not.mp (fun e => hh (omi_le.mpr e))) H locs la hl hP hS)
theorem v_if_le (C : omC G x own cc nL h kc) {a off : Int} {tgt : Nat} (d : decode cc pc = .ok (.ifCond .le off, 3)) (ht : (pc : Int) + off = (tgt : Int)) (kt : ¬ 0 < omw a → omV G x nL tgt ls st σ k) (kf : 0 < omw a → omV G x nL (pc + 3) ls st σ k) : omV G x nL pc ls (.int (omi a) :: st) σ k := by
  obtain ⟨p, l, e, R, s, m, args, below, meth, c, Q, A, c0, s0⟩ := x
  obtain ⟨hx, hb, hml, hown, hlk, hts, hK, hRO, hTX, hDj, hA, hst, hRf, hRl, hRc, hRs⟩ := C
  intro H locs la hl hP hS
  have b0 : omw 0 = 0 := rfl
  refine lv_if_le hx hb d ht (fun hh => kt ?_ H locs la hl hP hS) (fun hh => kf ?_ H locs la hl hP hS)
  · rw [show (0 : Int32) = omi 0 from rfl] at hh
    have := omi_le.mp hh
    rw [b0] at this
    exact this
  · rw [show (0 : Int32) = omi 0 from rfl] at hh
    have := show (omw 0 < omw a) from Decidable.not_not.mp (fun e => hh (omi_le.mpr e))
    rw [b0] at this
    exact this
theorem v_tabIn (C : omC G x own cc nL h kc) {a cv dflt lo hi off : Int} {offs : Array Int} {len tgt : Nat} (d : decode cc pc = .ok (.tableswitch dflt lo hi offs, len)) (hc : omw a = cv) (h1 : ¬ cv < lo) (h2 : ¬ hi < cv) (ho : offs[(cv - lo).toNat]? = some off) (ht : (pc : Int) + off = (tgt : Int)) (kk : omV G x nL tgt ls st σ k) : omV G x nL pc ls (.int (omi a) :: st) σ k := by
  obtain ⟨p, l, e, R, s, m, args, below, meth, c, Q, A, c0, s0⟩ := x
  obtain ⟨hx, hb, hml, hown, hlk, hts, hK, hRO, hTX, hDj, hA, hst, hRf, hRl, hRc, hRs⟩ := C
  intro H locs la hl hP hS
  have e : (omi a).toInt = cv := (omw_eq a).trans hc
  exact lv_tableIn hx hb d (by rw [e]; exact h1) (by rw [e]; exact h2) (by rw [e]; exact ho) ht (kk H locs la hl hP hS)
theorem v_tabOut (C : omC G x own cc nL h kc) {a dflt lo hi : Int} {offs : Array Int} {len tgt : Nat} (d : decode cc pc = .ok (.tableswitch dflt lo hi offs, len)) (hc : omw a < lo ∨ hi < omw a) (ht : (pc : Int) + dflt = (tgt : Int)) (kk : omV G x nL tgt ls st σ k) : omV G x nL pc ls (.int (omi a) :: st) σ k := by
  obtain ⟨p, l, e, R, s, m, args, below, meth, c, Q, A, c0, s0⟩ := x
  obtain ⟨hx, hb, hml, hown, hlk, hts, hK, hRO, hTX, hDj, hA, hst, hRf, hRl, hRc, hRs⟩ := C
  intro H locs la hl hP hS
  exact lv_tableOut hx hb d (by rw [omw_eq]; exact hc) ht (kk H locs la hl hP hS)
theorem omfs_get {G : omG} {row : Nat → Int} : ∀ (fds : List (Option Nat)) (k0 i : Nat), (omfs G row fds k0)[i]? = (fds[i]?).map (omfv G row (k0 + i))
  | [], _, i => by simp [omfs]
  | d :: t, k0, 0 => by simp [omfs]
  | d :: t, k0, i + 1 => by
    show (omfs G row t (k0 + 1))[i]? = _
    rw [omfs_get t (k0 + 1) i, show k0 + 1 + i = k0 + (i + 1) by omega]
    rfl
theorem omfs_len {G : omG} {row : Nat → Int} : ∀ (fds : List (Option Nat)) (k0 : Nat), (omfs G row fds k0).length = fds.length
  | [], _ => rfl
  | _ :: t, k0 => by show (omfs G row t (k0 + 1)).length + 1 = _; rw [omfs_len t]; rfl
theorem omfs_set {G : omG} {σ : omH} {o kf : Nat} {v : Int} {fds : List (Option Nat)} {d : Option Nat} (hf : fds[kf]? = some d) {u : Value} (hu : u = omfv G (omsu σ o kf v o) kf d) : (omfs G (σ o) fds 0).set kf u = omfs G (omsu σ o kf v o) fds 0 := by
  subst hu
  apply List.ext_getElem?
  intro i
  rw [List.getElem?_set, omfs_get, omfs_get, omfs_len]
  split
  · rename_i e
    subst e
    rw [hf, if_pos (List.getElem?_eq_some_iff.mp hf).1]
    simp
  · rename_i e
    cases hi : fds[i]? with
    | none => rfl
    | some d' =>
      simp only [Option.map_some, Nat.zero_add]
      congr 1
      have hr : omsu σ o kf v o i = σ o i := by simp [omsu, Ne.symm e]
      unfold omfv
      rw [hr]
/-- a field by its pool number: place of the class, of the field -/
def omFI (own : String) (idx ci kf : Nat) : Prop := ∃ (Cn : String) (T : u_T) (N : Nat), vwCl[ci]? = some (Cn, T, N) ∧ kf < N ∧ (∀ w ∈ u_ws Cn T N, w ∈ omTB) ∧ Cond.fieldLink own idx Cn (T kf).2.1 (T kf).2.2.1 ∈ omTB ∧ (T kf).1 = Cn
/-- .. that may be written, of that type -/
def omFP (own : String) (idx ci kf : Nat) (ty : FieldType) : Prop := ∃ (Cn : String) (T : u_T) (N : Nat) (tyT : Nat → FieldType), vwCl[ci]? = some (Cn, T, N) ∧ kf < N ∧ (∀ w ∈ u_ws Cn T N, w ∈ omTB) ∧ Cond.fieldLink own idx Cn (T kf).2.1 (T kf).2.2.1 ∈ omTB ∧ (T kf).1 = Cn ∧ (∀ k, k < N → parseFieldDescriptor (T k).2.2.1 = some (tyT k)) ∧ (∀ a, a < N → ∀ b, b < N → a ≠ b → (T a).2.1 ≠ (T b).2.1) ∧ (T kf).2.2.2 = false ∧ tyT kf = ty
theorem v_geti (C : omC G x own cc nL h kc) {idx ci kf q o : Nat} {fds : List (Option Nat)} (hf : omFI own idx ci kf) (ho : omT[q]? = some (o, .inr (ci, fds))) (hd : fds[kf]? = some none) (d : decode cc pc = .ok (.getfield idx, 3)) (kk : omV G x nL (pc + 3) ls (.int (omi (σ o kf)) :: st) σ k) : omV G x nL pc ls (.ref (G.1 o) :: st) σ k := by
  obtain ⟨p, l, e, R, s, m, args, below, meth, c, Q, A, c0, s0⟩ := x
  obtain ⟨hx, hb, hml, hown, hlk, hts, hK, hRO, hTX, hDj, hA, hst, hRf, hRl, hRc, hRs⟩ := C
  intro H locs la hl hP hS
  obtain ⟨Cn, T, N, e1, e2, e3, e4, e5⟩ := hf
  refine va_get (D := G.2.1) (v := .int (omi (σ o kf))) hx hb hts e3 hown hK hP q (omW_get ho) e1 kf e2 (hts _ e4) (fun _ h9 => by rw [e5] at h9; exact h9) (by rw [omfs_get, hd]; simp [omfv]) d ?_
  exact kk H locs la hl hP hS
theorem v_getr (C : omC G x own cc nL h kc) {idx ci kf q o : Nat} {fds : List (Option Nat)} (hf : omFI own idx ci kf) (ho : omT[q]? = some (o, .inr (ci, fds))) {r : Nat} (hd : fds[kf]? = some (some r)) (hr : Nat.beq r 999 = false) (d : decode cc pc = .ok (.getfield idx, 3)) (kk : omV G x nL (pc + 3) ls (.ref (G.1 r) :: st) σ k) : omV G x nL pc ls (.ref (G.1 o) :: st) σ k := by
  obtain ⟨p, l, e, R, s, m, args, below, meth, c, Q, A, c0, s0⟩ := x
  obtain ⟨hx, hb, hml, hown, hlk, hts, hK, hRO, hTX, hDj, hA, hst, hRf, hRl, hRc, hRs⟩ := C
  intro H locs la hl hP hS
  have hr9 : r ≠ 999 := fun e => by rw [e] at hr; cases hr
  obtain ⟨Cn, T, N, e1, e2, e3, e4, e5⟩ := hf
  refine va_get (D := G.2.1) (v := .ref (G.1 r)) hx hb hts e3 hown hK hP q (omW_get ho) e1 kf e2 (hts _ e4) (fun _ h9 => by rw [e5] at h9; exact h9) (by rw [omfs_get, hd]; simp [omfv, hr9]) d ?_
  exact kk H locs la hl hP hS
theorem v_getd (C : omC G x own cc nL h kc) {idx ci kf q o : Nat} {fds : List (Option Nat)} (hf : omFI own idx ci kf) (ho : omT[q]? = some (o, .inr (ci, fds))) (hd : fds[kf]? = some (some 999)) (d : decode cc pc = .ok (.getfield idx, 3)) (kk : omV G x nL (pc + 3) ls (.ref (G.1 (σ o kf).toNat) :: st) σ k) : omV G x nL pc ls (.ref (G.1 o) :: st) σ k := by
  obtain ⟨p, l, e, R, s, m, args, below, meth, c, Q, A, c0, s0⟩ := x
  obtain ⟨hx, hb, hml, hown, hlk, hts, hK, hRO, hTX, hDj, hA, hst, hRf, hRl, hRc, hRs⟩ := C
  intro H locs la hl hP hS
  obtain ⟨Cn, T, N, e1, e2, e3, e4, e5⟩ := hf
  refine va_get (D := G.2.1) (v := .ref (G.1 (σ o kf).toNat)) hx hb hts e3 hown hK hP q (omW_get ho) e1 kf e2 (hts _ e4) (fun _ h9 => by rw [e5] at h9; exact h9) (by rw [omfs_get, hd]; simp [omfv]) d ?_
  exact kk H locs la hl hP hS
abbrev va_E_inr9 (G : omG) (ci : Nat) (row : Nat → Int) (fds : List (Option Nat)) : va_E := .inr (ci, omfs G row fds 0)
theorem v_puti (C : omC G x own cc nL h kc) {idx ci kf q o : Nat} {fds : List (Option Nat)} {v : Int} (hf : omFP own idx ci kf .int) (ho : omT[q]? = some (o, .inr (ci, fds))) (hd : fds[kf]? = some (none)) (d : decode cc pc = .ok (.putfield idx, 3)) (kk : omV G x nL (pc + 3) ls st (omsu σ o kf v) k) : omV G x nL pc ls (.int (omi v) :: .ref (G.1 o) :: st) σ k := by
  obtain ⟨p, l, e, R, s, m, args, below, meth, c, Q, A, c0, s0⟩ := x
  obtain ⟨hx, hb, hml, hown, hlk, hts, hK, hRO, hTX, hDj, hA, hst, hRf, hRl, hRc, hRs⟩ := C
  intro H locs la hl hP hS
  obtain ⟨Cn, T, N, tyT, e1, e2, e3, e4, e5, e6, e7, e8, e9⟩ := hf
  refine va_put (D := G.2.1) (v := .int (omi v)) (ty := .int) hx hb hts e3 tyT e6 e7 hown hK hP (hDj.D σ) hS q (omW_get ho) e1 kf e2 (hts _ e4) (fun _ h9 => by rw [e5] at h9; exact h9) e8 (by rw [e6 kf e2, e9]) rfl rfl (by rw [omfs_len]; exact (List.getElem?_eq_some_iff.mp hd).1) d (fun H1 locs1 hP1 hD1 hS1 => ?_)
  have he : (omW G σ).set q (G.1 o, .inr (ci, (omfs G (σ o) fds 0).set kf (.int (omi v)))) = omW G (omsu σ o kf v) := omW_set ho (by
    show _ = va_E_inr9 G ci (omsu σ o kf v o) fds
    unfold va_E_inr9
    rw [omfs_set hd (v := v) (by simp [omfv, omsu])])
  rw [he] at hP1
  exact kk H1 locs1 la hl hP1 hS1
theorem v_putz (C : omC G x own cc nL h kc) {idx ci kf q o : Nat} {fds : List (Option Nat)} {v : Int} (hf : omFP own idx ci kf .boolean) (hv : v = 0 ∨ v = 1) (ho : omT[q]? = some (o, .inr (ci, fds))) (hd : fds[kf]? = some (none)) (d : decode cc pc = .ok (.putfield idx, 3)) (kk : omV G x nL (pc + 3) ls st (omsu σ o kf v) k) : omV G x nL pc ls (.int (omi v) :: .ref (G.1 o) :: st) σ k := by
  obtain ⟨p, l, e, R, s, m, args, below, meth, c, Q, A, c0, s0⟩ := x
  obtain ⟨hx, hb, hml, hown, hlk, hts, hK, hRO, hTX, hDj, hA, hst, hRf, hRl, hRc, hRs⟩ := C
  intro H locs la hl hP hS
  obtain ⟨Cn, T, N, tyT, e1, e2, e3, e4, e5, e6, e7, e8, e9⟩ := hf
  refine va_put (D := G.2.1) (v := .int (omi v)) (ty := .boolean) hx hb hts e3 tyT e6 e7 hown hK hP (hDj.D σ) hS q (omW_get ho) e1 kf e2 (hts _ e4) (fun _ h9 => by rw [e5] at h9; exact h9) e8 (by rw [e6 kf e2, e9]) (by rcases hv with rfl | rfl <;> rfl) (by rcases hv with rfl | rfl <;> rfl) (by rw [omfs_len]; exact (List.getElem?_eq_some_iff.mp hd).1) d (fun H1 locs1 hP1 hD1 hS1 => ?_)
  have he : (omW G σ).set q (G.1 o, .inr (ci, (omfs G (σ o) fds 0).set kf (.int (omi v)))) = omW G (omsu σ o kf v) := omW_set ho (by
    show _ = va_E_inr9 G ci (omsu σ o kf v o) fds
    unfold va_E_inr9
    rw [omfs_set hd (v := v) (by simp [omfv, omsu])])
  rw [he] at hP1
  exact kk H1 locs1 la hl hP1 hS1
theorem v_putr (C : omC G x own cc nL h kc) {idx ci kf q o : Nat} {fds : List (Option Nat)} {r : Nat} {cn : String} (hf : omFP own idx ci kf (.object cn)) (ho : omT[q]? = some (o, .inr (ci, fds))) (hd : fds[kf]? = some (some 999)) (d : decode cc pc = .ok (.putfield idx, 3)) (kk : omV G x nL (pc + 3) ls st (omsu σ o kf r) k) : omV G x nL pc ls (.ref (G.1 r) :: .ref (G.1 o) :: st) σ k := by
  obtain ⟨p, l, e, R, s, m, args, below, meth, c, Q, A, c0, s0⟩ := x
  obtain ⟨hx, hb, hml, hown, hlk, hts, hK, hRO, hTX, hDj, hA, hst, hRf, hRl, hRc, hRs⟩ := C
  intro H locs la hl hP hS
  obtain ⟨Cn, T, N, tyT, e1, e2, e3, e4, e5, e6, e7, e8, e9⟩ := hf
  refine va_put (D := G.2.1) (v := .ref (G.1 r)) (ty := .object cn) hx hb hts e3 tyT e6 e7 hown hK hP (hDj.D σ) hS q (omW_get ho) e1 kf e2 (hts _ e4) (fun _ h9 => by rw [e5] at h9; exact h9) e8 (by rw [e6 kf e2, e9]) rfl rfl (by rw [omfs_len]; exact (List.getElem?_eq_some_iff.mp hd).1) d (fun H1 locs1 hP1 hD1 hS1 => ?_)
  have he : (omW G σ).set q (G.1 o, .inr (ci, (omfs G (σ o) fds 0).set kf (.ref (G.1 r)))) = omW G (omsu σ o kf r) := omW_set ho (by
    show _ = va_E_inr9 G ci (omsu σ o kf r o) fds
    unfold va_E_inr9
    rw [omfs_set hd (v := r) (by simp [omfv, omsu])])
  rw [he] at hP1
  exact kk H1 locs1 la hl hP1 hS1
theorem om_in {j : Int} {n : Nat} (h0 : 0 ≤ omw j) (hj : omw j < n) : vp_in (omi j) n := by
  intro hh
  rcases hh with hh | hh
  · rw [Int32.lt_iff_toInt_lt, omw_eq] at hh
    have : (0 : Int32).toInt = 0 := rfl
    omega
  · have : (omi j).toNatClampNeg = (omw j).toNat := by
      show (Int32.ofInt j).toInt.toNat = _
      rw [omw_eq]
    omega
theorem om_cl (j : Int) : (omi j).toNatClampNeg = (omw j).toNat := by
  show (Int32.ofInt j).toInt.toNat = _
  rw [omw_eq]
theorem v_iald (C : omC G x own cc nL h kc) {q o n : Nat} {j : Int} (ho : omT[q]? = some (o, .inl (0, n))) (hj : 0 ≤ omw j ∧ omw j < n) (d : decode cc pc = .ok (.iaload, 1)) (kk : omV G x nL (pc + 1) ls (.int (omi (σ o (omw j).toNat)) :: st) σ k) : omV G x nL pc ls (.int (omi j) :: .ref (G.1 o) :: st) σ k := by
  obtain ⟨p, l, e, R, s, m, args, below, meth, c, Q, A, c0, s0⟩ := x
  obtain ⟨hx, hb, hml, hown, hlk, hts, hK, hRO, hTX, hDj, hA, hst, hRf, hRl, hRc, hRs⟩ := C
  intro H locs la hl hP hS
  refine va_iald hx hb hK hP q 0 (omW_get ho) rfl (om_in hj.1 hj.2) d ?_
  rw [om_cl]
  exact kk H locs la hl hP hS
theorem v_zald (C : omC G x own cc nL h kc) {q o n : Nat} {j : Int} (ho : omT[q]? = some (o, .inl (2, n))) (hj : 0 ≤ omw j ∧ omw j < n) (d : decode cc pc = .ok (.baload, 1)) (kk : omV G x nL (pc + 1) ls (.int (omi (σ o (omw j).toNat)) :: st) σ k) : omV G x nL pc ls (.int (omi j) :: .ref (G.1 o) :: st) σ k := by
  obtain ⟨p, l, e, R, s, m, args, below, meth, c, Q, A, c0, s0⟩ := x
  obtain ⟨hx, hb, hml, hown, hlk, hts, hK, hRO, hTX, hDj, hA, hst, hRf, hRl, hRc, hRs⟩ := C
  intro H locs la hl hP hS
  refine va_zald hx hb hK hP q 2 (omW_get ho) rfl (om_in hj.1 hj.2) d ?_
  rw [om_cl]
  exact kk H locs la hl hP hS
theorem v_lald (C : omC G x own cc nL h kc) {q o n : Nat} {j : Int} (ho : omT[q]? = some (o, .inl (1, n))) (hj : 0 ≤ omw j ∧ omw j < n) (d : decode cc pc = .ok (.laload, 1)) (kk : omV G x nL (pc + 1) ls (.long (Int64.ofInt (σ o (omw j).toNat)) :: st) σ k) : omV G x nL pc ls (.int (omi j) :: .ref (G.1 o) :: st) σ k := by
  obtain ⟨p, l, e, R, s, m, args, below, meth, c, Q, A, c0, s0⟩ := x
  obtain ⟨hx, hb, hml, hown, hlk, hts, hK, hRO, hTX, hDj, hA, hst, hRf, hRl, hRc, hRs⟩ := C
  intro H locs la hl hP hS
  refine va_lald hx hb hK hP q 1 (omW_get ho) rfl (om_in hj.1 hj.2) d ?_
  rw [om_cl]
  exact kk H locs la hl hP hS
theorem v_iast (C : omC G x own cc nL h kc) {q o n : Nat} {j : Int} (ho : omT[q]? = some (o, .inl (0, n))) (hj : 0 ≤ omw j ∧ omw j < n) {v : Int} (d : decode cc pc = .ok (.iastore, 1)) (kk : omV G x nL (pc + 1) ls st (omsu σ o (omw j).toNat v) k) : omV G x nL pc ls (.int (omi v) :: .int (omi j) :: .ref (G.1 o) :: st) σ k := by
  obtain ⟨p, l, e, R, s, m, args, below, meth, c, Q, A, c0, s0⟩ := x
  obtain ⟨hx, hb, hml, hown, hlk, hts, hK, hRO, hTX, hDj, hA, hst, hRf, hRl, hRc, hRs⟩ := C
  intro H locs la hl hP hS
  refine va_iast hx hb hK hP (hDj.D σ) hS q 0 (omW_get ho) rfl (om_in hj.1 hj.2) d (fun H1 locs1 hP1 hD1 hS1 => ?_)
  have he : (omW G σ).set q (G.1 o, .inl (G.2.2.1.1, n, .inl (upd (fun i => omi (σ o i)) (omi j).toNatClampNeg (omi v)))) = omW G (omsu σ o (omw j).toNat v) := omW_set ho (by
    show _ = (.inl (G.2.2.1.1, n, .inl (fun i => omi (omsu σ o (omw j).toNat v o i))) : va_E)
    congr 1; congr 1; congr 1
    first
      | (funext i; rw [om_cl]; unfold upd omsu; by_cases hi : i = (omw j).toNat <;> simp [hi])
      | (congr 1; congr 1; funext i; rw [om_cl]; unfold upd omsu; by_cases hi : i = (omw j).toNat <;> simp [hi]))
  rw [he] at hP1
  exact kk H1 locs1 la hl hP1 hS1
theorem v_zast (C : omC G x own cc nL h kc) {q o n : Nat} {j : Int} (ho : omT[q]? = some (o, .inl (2, n))) (hj : 0 ≤ omw j ∧ omw j < n) {v : Int} (hv : v = 0 ∨ v = 1) (d : decode cc pc = .ok (.bastore, 1)) (kk : omV G x nL (pc + 1) ls st (omsu σ o (omw j).toNat v) k) : omV G x nL pc ls (.int (omi v) :: .int (omi j) :: .ref (G.1 o) :: st) σ k := by
  obtain ⟨p, l, e, R, s, m, args, below, meth, c, Q, A, c0, s0⟩ := x
  obtain ⟨hx, hb, hml, hown, hlk, hts, hK, hRO, hTX, hDj, hA, hst, hRf, hRl, hRc, hRs⟩ := C
  intro H locs la hl hP hS
  refine va_zast hx hb hK hP (hDj.D σ) hS q 2 (omW_get ho) rfl (om_in hj.1 hj.2) d (fun H1 locs1 hP1 hD1 hS1 => ?_)
  have he : (omW G σ).set q (G.1 o, .inl (G.2.2.1.2.2, n, .inl (upd (fun i => omi (σ o i)) (omi j).toNatClampNeg (vp_nar .boolean (omi v))))) = omW G (omsu σ o (omw j).toNat v) := omW_set ho (by
    have hz : vp_nar .boolean (omi v) = omi v := by rcases hv with rfl | rfl <;> rfl
    rw [hz]
    show _ = (.inl (G.2.2.1.2.2, n, .inl (fun i => omi (omsu σ o (omw j).toNat v o i))) : va_E)
    congr 1; congr 1; congr 1
    first
      | (funext i; rw [om_cl]; unfold upd omsu; by_cases hi : i = (omw j).toNat <;> simp [hi])
      | (congr 1; congr 1; funext i; rw [om_cl]; unfold upd omsu; by_cases hi : i = (omw j).toNat <;> simp [hi]))
  rw [he] at hP1
  exact kk H1 locs1 la hl hP1 hS1
theorem v_last (C : omC G x own cc nL h kc) {q o n : Nat} {j : Int} (ho : omT[q]? = some (o, .inl (1, n))) (hj : 0 ≤ omw j ∧ omw j < n) {v : Int} (d : decode cc pc = .ok (.lastore, 1)) (kk : omV G x nL (pc + 1) ls st (omsu σ o (omw j).toNat v) k) : omV G x nL pc ls (.long (Int64.ofInt v) :: .int (omi j) :: .ref (G.1 o) :: st) σ k := by
  obtain ⟨p, l, e, R, s, m, args, below, meth, c, Q, A, c0, s0⟩ := x
  obtain ⟨hx, hb, hml, hown, hlk, hts, hK, hRO, hTX, hDj, hA, hst, hRf, hRl, hRc, hRs⟩ := C
  intro H locs la hl hP hS
  refine va_last hx hb hK hP (hDj.D σ) hS q 1 (omW_get ho) rfl (om_in hj.1 hj.2) d (fun H1 locs1 hP1 hD1 hS1 => ?_)
  have he : (omW G σ).set q (G.1 o, .inl (G.2.2.1.2.1, n, .inr (.inl (vp_updL (fun i => Int64.ofInt (σ o i)) (omi j).toNatClampNeg (Int64.ofInt v))))) = omW G (omsu σ o (omw j).toNat v) := omW_set ho (by
    show _ = (.inl (G.2.2.1.2.1, n, .inr (.inl (fun i => Int64.ofInt (omsu σ o (omw j).toNat v o i)))) : va_E)
    congr 1; congr 1; congr 1
    first
      | (funext i; rw [om_cl]; unfold vp_updL omsu; by_cases hi : i = (omw j).toNat <;> simp [hi])
      | (congr 1; congr 1; funext i; rw [om_cl]; unfold vp_updL omsu; by_cases hi : i = (omw j).toNat <;> simp [hi]))
  rw [he] at hP1
  exact kk H1 locs1 la hl hP1 hS1
end OMR
end
section
/-! ===== contracts over the abstract state, calls, ends ===== -/
abbrev omO : Type := String ⊕ Option Value
def omRm (h kc : Nat) : Room := { frames := 8 + h, cells := kc, slots := 8 * kc, locals := 200 + 40 * h }
def omPre (G : omG) (sz : Nat) (σ : omH) (args : List Value) : Array Value → State → Prop := va_Pc args (fun U => U.heap.size = sz ∧ va_P G.2.1 vwCl (omW G σ) U.heap ∧ va_K G.2.1 vwCl (omTys G) U ∧ omRO G (omA G sz) U U.heap ∧ omTX G U ∧ omDj G (omA G sz))
def omQ (G : omG) (sz : Nat) (out : omO) (σ : omH) : Array Value → State → Outcome → State → Prop := fun _ st o t => (∃ v, out = .inr v ∧ o = .returned v) ∧ va_P G.2.1 vwCl (omW G σ) t.heap ∧ va_F (omA G sz) st t
def omXC (G : omG) (sz : Nat) (out : omO) (σ : omH) : String → State → State → Prop := fun E st t => out = .inl E ∧ va_P G.2.1 vwCl (omW G σ) t.heap ∧ va_F (omA G sz) st t
/-- a method's contract: at these arguments and this state it comes to this outcome and that state -/
def omM (G : omG) (y : MethodName) (cd : Cond) (h kc : Nat) (args : List Value) (σ : omH) (out : omO) (σ' : omH) : Prop := G.2.2.2.2.2.stackTraces = false → ∀ sz : Nat, vx_Met G.2.2.2.2.2 y (cd :: omTB) (omRm h kc) (omPre G sz σ args) (omQ G sz out σ') (omXC G sz out σ') kc (8 * kc) (omA G sz)
theorem om_blind {G : omG} {sz : Nat} {σ : omH} {args : List Value} : FrameBlind (omPre G sz σ args) := by
  intro a U g mk q
  obtain ⟨q0, q1, q2, q3, q4, q5, q6⟩ := q
  exact ⟨q0, q1, q2, va_K.moved (u := U) (U := U.calling g mk a) (Vm.Alike.refl U.vm) q3, omRO.moved (u := U) (U := U.calling g mk a) (Vm.Alike.refl U.vm) q4, fun t ht => vk_R.same (u := U) (U := U.calling g mk a) rfl (q5 t ht), q6⟩
/-- what a method's end must be -/
def omF (G : omG) (x : omX) (ret : Option FieldType) (kc : Nat) (hh : List (Nat × Nat × Nat × Nat)) (out : omO) (σ : omH) : Prop := match x with
  | (_, _, _, _, s, _, args, below, meth, c, Q, A, c0, s0) => meth.sig.returnType = ret ∧ c0 = 0 ∧ s0 = 0 ∧ A = omA G s.heap.size ∧ Q = vx_MQ below (omQ G s.heap.size out σ) (omXC G s.heap.size out σ) args s kc (8 * kc) (omA G s.heap.size) ∧ c.exceptionTable.toList = tableOf hh
def omLs (args : List Value) : List (Nat × Value) := lv_args 0 args
theorem om_head {G : omG} {y : MethodName} {own : String} {cc : ByteArray} {nL h kc : Nat} {ret : Option FieldType} {args : List Value} {σ σ' : omH} {out : omO} {ls : List (Nat × Value)} (hy : plainName y.cls = true) (hown : y.cls = own) (hl : (lg_sl args).length ≤ nL) (hcat : lv_args 0 args = ls) (hc1 : ∀ q ∈ ls, q.2.category = 1)
    (body : ∀ x, omC G x own cc nL h kc → omF G x ret kc [] out σ' → omV G x nL 0 ls [] σ 0) : omM G y (.code y cc nL ret) h kc args σ out σ' := by
  intro hst sz
  subst hown
  subst hcat
  refine vx_ofW (cc := cc) (maxL := nL) (ret := ret) hy rfl ?_
  intro p e s m args' below meth c s₁ B hml htab hP
  obtain ⟨rfl, hsz, hPw, hK, hRO, hTX, hDj⟩ := hP
  subst hsz
  have hts := atoms_spec (ws := .code y cc nL ret :: omTB) B.pre
  have ht : c.exceptionTable.toList = tableOf [] := by
    cases hq : c.exceptionTable.toList with
    | nil => rfl
    | cons z t => exact (htab z (by rw [hq]; exact List.mem_cons_self)).elim
  have hC : omC G (p, G.2.2.2.2.2, e, omRm h kc, s, m, args.toArray, below, meth, c, vx_MQ below (omQ G s.heap.size out σ') (omXC G s.heap.size out σ') args.toArray s kc (8 * kc) (omA G s.heap.size), omA G s.heap.size, 0, 0) y.cls cc nL h kc :=
    ⟨B.exec, B.bytes, hml, findClass_of_methodNamed B.named, B.notSynchronized, fun w hw => hts w (List.mem_cons_of_mem _ hw), hK, hRO, hTX, hDj, fun q hq => Or.inr hq, ⟨rfl, hst⟩, Nat.le_refl _, Nat.le_refl _, by show 0 + kc ≤ kc; omega, by show 0 + 8 * kc ≤ 8 * kc; omega⟩
  have hV := body _ hC ⟨B.returns, rfl, rfl, rfl, rfl, ht⟩
  have := hV s.heap [] _ ⟨lv_entry args hl, hc1⟩ hPw va_S.rf
  rw [lg_entry_eq]
  exact this
/-- .. of a method with handlers -/
theorem om_headH {G : omG} {y : MethodName} {own : String} {cc : ByteArray} {nL h kc : Nat} {ret : Option FieldType} {hh : List (Nat × Nat × Nat × Nat)} {args : List Value} {σ σ' : omH} {out : omO} {ls : List (Nat × Value)} (hy : plainName y.cls = true) (hown : y.cls = own) (hl : (lg_sl args).length ≤ nL) (hcat : lv_args 0 args = ls) (hc1 : ∀ q ∈ ls, q.2.category = 1)
    (body : ∀ x, omC G x own cc nL h kc → omF G x ret kc hh out σ' → omV G x nL 0 ls [] σ 0) : omM G y (.codeWith y cc nL ret hh) h kc args σ out σ' := by
  intro hst sz
  subst hown
  subst hcat
  refine vx_ofWH (cc := cc) (maxL := nL) (ret := ret) (hh := hh) hy rfl ?_
  intro p e s m args' below meth c s₁ B hml hP
  obtain ⟨rfl, hsz, hPw, hK, hRO, hTX, hDj⟩ := hP
  subst hsz
  have hts := atoms_spec (ws := .codeWith y cc nL ret hh :: omTB) B.pre
  have ht : c.exceptionTable.toList = tableOf hh := vx_table (x := y) B (hts _ List.mem_cons_self)
  have hC : omC G (p, G.2.2.2.2.2, e, omRm h kc, s, m, args.toArray, below, meth, c, vx_MQ below (omQ G s.heap.size out σ') (omXC G s.heap.size out σ') args.toArray s kc (8 * kc) (omA G s.heap.size), omA G s.heap.size, 0, 0) y.cls cc nL h kc :=
    ⟨B.exec, B.bytes, hml, findClass_of_methodNamed B.named, B.notSynchronized, fun w hw => hts w (List.mem_cons_of_mem _ hw), hK, hRO, hTX, hDj, fun q hq => Or.inr hq, ⟨rfl, hst⟩, Nat.le_refl _, Nat.le_refl _, by show 0 + kc ≤ kc; omega, by show 0 + 8 * kc ≤ 8 * kc; omega⟩
  have hV := body _ hC ⟨B.returns, rfl, rfl, rfl, rfl, ht⟩
  have := hV s.heap [] _ ⟨lv_entry args hl, hc1⟩ hPw va_S.rf
  rw [lg_entry_eq]
  exact this
section OME
variable {G : omG} {x : omX} {own : String} {cc : ByteArray} {nL h kc pc : Nat} {ls : List (Nat × Value)} {st : List Value} {σ σ' : omH} {k : Nat} {hh : List (Nat × Nat × Nat × Nat)}
theorem v_iret (C : omC G x own cc nL h kc) {r : Int} (F : omF G x (some .int) kc hh (.inr (some (.int (omi r)))) σ) (d : decode cc pc = .ok (.ireturn, 1)) (hk : k ≤ kc) : omV G x nL pc ls [.int (omi r)] σ k := by
  obtain ⟨p, l, e, R, s, m, args, below, meth, c, Q, A, c0, s0⟩ := x
  obtain ⟨hx, hb, hml, hown, hlk, hts, hK, hRO, hTX, hDj, hA, hst, hRf, hRl, hRc, hRs⟩ := C
  obtain ⟨hr, rfl, rfl, rfl, rfl, htb⟩ := F
  intro H locs la hl hP hS
  refine vx_ret (W.widen (k := kc) (n := 8 * kc) (by omega) (by omega) ?_)
  exact W.iret hx hb hr (fun t ht hW => ⟨⟨_, rfl, rfl⟩, by rw [ht]; exact hP, hS.F ht⟩) hS.2.2 d
theorem v_zret (C : omC G x own cc nL h kc) {r : Int} (hr01 : r = 0 ∨ r = 1) (F : omF G x (some .boolean) kc hh (.inr (some (.int (omi r)))) σ) (d : decode cc pc = .ok (.ireturn, 1)) (hk : k ≤ kc) : omV G x nL pc ls [.int (omi r)] σ k := by
  obtain ⟨p, l, e, R, s, m, args, below, meth, c, Q, A, c0, s0⟩ := x
  obtain ⟨hx, hb, hml, hown, hlk, hts, hK, hRO, hTX, hDj, hA, hst, hRf, hRl, hRc, hRs⟩ := C
  obtain ⟨hr, rfl, rfl, rfl, rfl, htb⟩ := F
  intro H locs la hl hP hS
  refine vx_ret (W.widen (k := kc) (n := 8 * kc) (by omega) (by omega) ?_)
  exact W.zret hx hb hr (by rcases hr01 with rfl | rfl <;> rfl) (fun t ht hW => ⟨⟨_, rfl, rfl⟩, by rw [ht]; exact hP, hS.F ht⟩) hS.2.2 d
theorem v_vret (C : omC G x own cc nL h kc) (F : omF G x none kc hh (.inr none) σ) (d : decode cc pc = .ok (.return_, 1)) (hk : k ≤ kc) : omV G x nL pc ls [] σ k := by
  obtain ⟨p, l, e, R, s, m, args, below, meth, c, Q, A, c0, s0⟩ := x
  obtain ⟨hx, hb, hml, hown, hlk, hts, hK, hRO, hTX, hDj, hA, hst, hRf, hRl, hRc, hRs⟩ := C
  obtain ⟨hr, rfl, rfl, rfl, rfl, htb⟩ := F
  intro H locs la hl hP hS
  refine vx_ret (W.widen (k := kc) (n := 8 * kc) (by omega) (by omega) ?_)
  exact W.vret hx hb hr (fun t ht hW => ⟨⟨_, rfl, rfl⟩, by rw [ht]; exact hP, hS.F ht⟩) hS.2.2 d
/-- 'throw new E("text")' in a method of OneMachine's that catches nothing -/
theorem v_throw (C : omC G x RX11 cc nL h kc) {ret : Option FieldType} {cls : String} {ik is ic : Nat} {text : String} (F : omF G x ret kc [] (.inl cls) σ)
    (hcls : Bundle.fit cls = true) (hk : Cond.classLink RX11 ik cls ∈ omTB) (hini : Cond.initialized cls ∈ omTB) (htx : (is, text) ∈ omTexts) (hat : ∀ w ∈ vx_atS RX11 ic cls ["java/lang/RuntimeException", "java/lang/Exception"], w ∈ lw_tbl ∧ w ∈ omTB)
    (hgood : ∀ w ∈ Cond.classLink RX11 ik cls :: Cond.initialized cls :: vx_atS RX11 ic cls ["java/lang/RuntimeException", "java/lang/Exception"], vx_ot w = true)
    (d0 : decode cc pc = .ok (.new ik, 3)) (d3 : decode cc (pc + 3) = .ok (.dup, 1)) (d4 : decode cc (pc + 4) = .ok (.ldc is, 2)) (d6 : decode cc (pc + 6) = .ok (.invokespecial ic, 3)) (d9 : decode cc (pc + 9) = .ok (.athrow, 1)) (hkc : k + 1 ≤ kc) : omV G x nL pc ls [] σ k := by
  obtain ⟨p, l, e, R, s, m, args, below, meth, c, Q, A, c0, s0⟩ := x
  obtain ⟨hx, hb, hml, hown, hlk, hts, hK, hRO, hTX, hDj, hA, hst, hRf, hRl, hRc, hRs⟩ := C
  obtain ⟨hr, rfl, rfl, rfl, rfl, htb⟩ := F
  intro H locs la hl hP hS
  have hU := hRO.2.2.2.2.2.2.2.1
  have hN := hRO.2.2.2.2.2.2.2.2.1
  exact vx_throwS (text := text) (names := ["java/lang/RuntimeException", "java/lang/Exception"]) hx hb hst.2 hown hcls (by decide +kernel) (hts _ hk) (hts _ hini) (hTX _ htx) (fun w hw => hts w (hat w hw).2) hgood hU hN hS (hl.1.1.trans hml.symm) d0 d3 d4 d6 d9
    (fun z hz => by rw [htb] at hz; cases hz) (by show 2 + 3 < R.frames; omega) (by show 0 + (13 * (2 + 1) + 43) ≤ R.locals; omega) (by omega) (by omega) hlk
    (fun t hvm hz hk => ⟨rfl, fun i q hq => (hP i q hq).kept (hk q.1 (vx_lt hP hq)), hS.F (t := { t with heap := H }) rfl |> fun hF => ⟨Nat.le_trans hF.1 hz, fun q h1 h2 => (hk q (Nat.lt_of_lt_of_le h1 hF.1)).trans (hF.2 q h1 h2)⟩⟩) hS.2.2 (by omega) (by omega)
end OME
end
section
/-! ===== calls over the abstract state ===== -/
section OMK
variable {p : Program} {l : Launch} {e : Env} {R : Room} {s : State} {m : MethodId} {args : Array Value} {below : List Frame} {meth : Method} {c : Code} {H : Heap} {locs : List Loc} {Q : State → Prop}
theorem om_after {G : omG} {A : Nat → Prop} {cells slots mc ms pc : Nat} {la : Array Slot} {st0 rest : List Value} {as : Array Value} {out : omO} {σ' : omH}
    (hr : vx_Run p l e R s m args below meth c H locs cells slots mc ms (F0 m pc la st0) rest (omQ G H.size out σ' as) (omXC G H.size out σ') (omA G H.size)) (hS : va_S A s.heap H locs) (hAA : ∀ q, omA G H.size q → A q)
    (kk : ∀ (v : Option Value) (H1 : Heap) (locs1 : List Loc), out = .inr v → va_P G.2.1 vwCl (omW G σ') H1 → va_S A s.heap H1 locs1 → W p l e R s m args below meth c H1 locs1 (cells + mc) (slots + ms) Q (F0 m (pc + 3) la (v.toList ++ rest)))
    (kx : ∀ (E : String) (ce : Cell) (q9 : Addr) (H1 : Heap) (locs1 : List Loc), out = .inl E → va_P G.2.1 vwCl (omW G σ') H1 → va_S A s.heap H1 locs1 → H1[q9]? = some ce → ce.vm = .none → s.vm.findClass E = some ce.cls → vx_W p l e R s m args below meth c H1 locs1 (cells + mc) (slots + ms) Q (F0 m pc la rest) q9) : W p l e R s m args below meth c H locs cells slots Q (F0 m pc la st0) := by
  intro T hT X
  rcases hr T hT X with ⟨v, st₀, t, T', L, h0, X', hL, e1, e2, ⟨⟨v', hv, hv'⟩, hP1, hF⟩, st⟩ | ⟨q, st₀, t, T', L, E, ce, h0, X', hL, e1, e2, ⟨hv, hP1, hF⟩, hce, hcv, hcl, st⟩
  · cases hv'
    rw [← h0] at hF hAA
    obtain ⟨k1, k2, k3⟩ := vx_keep h0 e1 hS (fun q _ h => hAA q h) (fun q h => hAA q (by rw [h0]; exact h)) hL hF
    obtain ⟨t2, a1, b1⟩ := kk v T'.heap (locs ++ L) hv (by rw [e1]; exact hP1) k3 T' rfl X'
    exact ⟨t2, st t2 a1, b1⟩
  · rw [← h0] at hF hAA
    obtain ⟨k1, k2, k3⟩ := vx_keep h0 e1 hS (fun q _ h => hAA q h) (fun q h => hAA q (by rw [h0]; exact h)) hL hF
    obtain ⟨t2, a1, b1⟩ := kx E ce q T'.heap (locs ++ L) hv (by rw [e1]; exact hP1) k3 (by rw [e1]; exact hce) hcv hcl T' rfl X'
    exact ⟨t2, st.trans a1, b1⟩
theorem om_pre {G : omG} {A : Nat → Prop} {σ : omH} {As : List Value} (hP : va_P G.2.1 vwCl (omW G σ) H) (hK : va_K G.2.1 vwCl (omTys G) s) (hRO : omRO G A s s.heap) (hTX : omTX G s) (hDj : omDj G A) (hA : ∀ q : Nat, s.heap.size ≤ q → A q) (hS : va_S A s.heap H locs) :
    (∀ q, omA G H.size q → A q) ∧ ∀ U : State, U.heap = H → s.WarmedH U.vm → omPre G H.size σ As As.toArray U := by
  have hAA : ∀ q, omA G H.size q → A q := by
    intro q hq
    rcases hq with ⟨k, e, hk, rfl⟩ | hq
    · exact hDj.2 k e hk
    · exact hA q (Nat.le_trans hS.1 hq)
  refine ⟨hAA, fun U hU hW => ⟨rfl, by rw [hU], by rw [hU]; exact hP, va_K.moved hW.alike hK, ?_, fun t ht => vk_R.warm hW (hTX t ht), hDj.1, fun k q hk => Or.inl ⟨k, q, hk, rfl⟩⟩⟩
  rw [hU]
  exact ((hRO.kept hS.2.1).narrow hAA).moved hW.alike
end OMK
/-- a method of ours, as its callers need it -/
def omMI (y : MethodName) (bytes : ByteArray) (nL : Nat) (ret : Option FieldType) (n : Nat) : Prop := Cond.code y bytes nL ret ∈ omTB ∧ Cond.instanceMethod y ∈ omTB ∧ Cond.selects y.cls y y ∈ omTB ∧ Cond.initialized y.cls ∈ omTB ∧ (y.cls ≠ "java/lang/invoke/MethodHandle" ∧ y.cls ≠ "java/lang/invoke/VarHandle") ∧ (parseMethodDescriptor y.desc).map (fun d => d.parameters.length) = some n ∧ nL ≤ 21
def omMS (y : MethodName) (bytes : ByteArray) (nL : Nat) (ret : Option FieldType) (n : Nat) : Prop := Cond.code y bytes nL ret ∈ omTB ∧ Cond.static y ∈ omTB ∧ Cond.initialized y.cls ∈ omTB ∧ (y.cls ≠ "java/lang/invoke/MethodHandle" ∧ y.cls ≠ "java/lang/invoke/VarHandle") ∧ (parseMethodDescriptor y.desc).map (fun d => d.parameters.length) = some n ∧ nL ≤ 21
def omMX (y : MethodName) (bytes : ByteArray) (nL : Nat) (ret : Option FieldType) (hh : List (Nat × Nat × Nat × Nat)) (n : Nat) : Prop := Cond.codeWith y bytes nL ret hh ∈ omTB ∧ Cond.static y ∈ omTB ∧ Cond.initialized y.cls ∈ omTB ∧ (y.cls ≠ "java/lang/invoke/MethodHandle" ∧ y.cls ≠ "java/lang/invoke/VarHandle") ∧ (parseMethodDescriptor y.desc).map (fun d => d.parameters.length) = some n ∧ nL ≤ 21
theorem om_ws {args : Array Value} {s : State} {cd : Cond} (hts : ∀ w ∈ omTB, w.before args s = true) (hc : cd ∈ omTB) : ∀ w ∈ cd :: omTB, ∀ (a' : Array Value) (U : State), s.WarmedH U.vm → w.before a' U = true := by
  intro w hw a' U hW
  have hw' : w ∈ omTB := by
    rcases List.mem_cons.mp hw with rfl | h
    · exact hc
    · exact h
  exact word_at hW (good_of_word (omTB_good w hw')) (hts w hw')
theorem om_n {y : MethodName} {n : Nat} (h : (parseMethodDescriptor y.desc).map (fun d => d.parameters.length) = some n) : ∀ sig, parseMethodDescriptor y.desc = some sig → n = sig.parameters.length := by
  intro sig hs
  rw [hs] at h
  exact (Option.some.inj h).symm
section OMI
variable {G : omG} {x : omX} {own : String} {cc : ByteArray} {nL h kc pc : Nat} {ls : List (Nat × Value)} {rest : List Value} {σ σ' : omH} {k : Nat} {hh : List (Nat × Nat × Nat × Nat)}
variable {y : MethodName} {bytes : ByteArray} {nL' h' kc' n idx q o ci : Nat} {ret' : Option FieldType} {As : List Value} {fds : List (Option Nat)}
theorem v_invV_i {r : Int} {st : List Value} (C : omC G x own cc nL h kc) (hI : omMI y bytes nL' ret' n) (hl : Cond.methodLink own idx y ∈ omTB) (hM : omM G y (.code y bytes nL' ret') h' kc' (.ref (G.1 o) :: As) σ (.inr (some (.int (omi r)))) σ') (ho : omT[q]? = some (o, .inr (ci, fds))) (hcl : (vwCl[ci]?).map (·.1) = some y.cls) (hn : As.length = n) (hh' : h' < h) (hkc : k + kc' ≤ kc) (hst : st = As.reverse ++ .ref (G.1 o) :: rest) (hcat : (rest.map fun v => v.category).sum ≤ 8) (d : decode cc pc = .ok (.invokevirtual idx, 3)) (kk : omV G x nL (pc + 3) ls (.int (omi r) :: rest) σ' (k + kc')) : omV G x nL pc ls st σ k := by
  subst hst
  obtain ⟨p, l, e, R, s, m, args, below, meth, c, Q, A, c0, s0⟩ := x
  obtain ⟨hx, hb, hml, hown, hlk, hts, hK, hRO, hTX, hDj, hA, ⟨rfl, hst0⟩, hRf, hRl, hRc, hRs⟩ := C
  intro H locs la hla hP hS
  obtain ⟨i1, i2, i3, i4, i5, i6, i7⟩ := hI
  obtain ⟨hAA, hpre⟩ := om_pre (As := .ref (G.1 o) :: As) hP hK hRO hTX hDj hA hS
  obtain ⟨qc, hq1, hq2⟩ : ∃ qc, vwCl[ci]? = some qc ∧ qc.1 = y.cls := by
    cases hqc : vwCl[ci]? with
    | none => rw [hqc] at hcl; cases hcl
    | some qc => rw [hqc] at hcl; exact ⟨qc, rfl, Option.some.inj hcl⟩
  have hrecv := va_recv hK hP hq1 (omW_get ho)
  rw [hq2] at hrecv
  have hrun := vx_runV (As := As) (rest := rest) (R := R) (H := H) (locs := locs) (meth := meth) (below := below) (e := e) (cells := c0 + k) (slots := s0 + 8 * k) (Ts := omTB) (C := y.cls) (g := F0 m pc la (As.reverse ++ .ref (G.1 o) :: rest)) ⟨hx, hb, hml, hown, hts⟩ (hM hst0 H.size) ⟨⟨rfl, rfl, by show 8 + h' + 1 ≤ R.frames; omega, by show 8 + (nL' + 11) + (200 + 40 * h') ≤ R.locals; omega, om_ws hts i1, List.mem_cons_self, hts _ i1, hts _ i4, i5, om_n i6, hts _ hl⟩, hts _ i2, hts _ i3⟩ ⟨om_blind, hrecv, hpre⟩ rfl hn hla.1.1 rfl (by show 2 * 0 + _ ≤ 8; omega) d ⟨by omega, by omega⟩
  refine om_after hrun hS hAA (fun v H1 locs1 hv hP1 hS1 => ?_) (fun E ce q9 H1 locs1 hv hP1 hS1 hce hcv hcl9 => ?_)
  · cases hv
    rw [show c0 + k + kc' = c0 + (k + kc') by omega, show s0 + 8 * k + 8 * kc' = s0 + 8 * (k + kc') by omega]
    exact kk H1 locs1 la hla hP1 hS1
  · cases hv
theorem v_invV_v {st : List Value} (C : omC G x own cc nL h kc) (hI : omMI y bytes nL' ret' n) (hl : Cond.methodLink own idx y ∈ omTB) (hM : omM G y (.code y bytes nL' ret') h' kc' (.ref (G.1 o) :: As) σ (.inr none) σ') (ho : omT[q]? = some (o, .inr (ci, fds))) (hcl : (vwCl[ci]?).map (·.1) = some y.cls) (hn : As.length = n) (hh' : h' < h) (hkc : k + kc' ≤ kc) (hst : st = As.reverse ++ .ref (G.1 o) :: rest) (hcat : (rest.map fun v => v.category).sum ≤ 8) (d : decode cc pc = .ok (.invokevirtual idx, 3)) (kk : omV G x nL (pc + 3) ls rest σ' (k + kc')) : omV G x nL pc ls st σ k := by
  subst hst
  obtain ⟨p, l, e, R, s, m, args, below, meth, c, Q, A, c0, s0⟩ := x
  obtain ⟨hx, hb, hml, hown, hlk, hts, hK, hRO, hTX, hDj, hA, ⟨rfl, hst0⟩, hRf, hRl, hRc, hRs⟩ := C
  intro H locs la hla hP hS
  obtain ⟨i1, i2, i3, i4, i5, i6, i7⟩ := hI
  obtain ⟨hAA, hpre⟩ := om_pre (As := .ref (G.1 o) :: As) hP hK hRO hTX hDj hA hS
  obtain ⟨qc, hq1, hq2⟩ : ∃ qc, vwCl[ci]? = some qc ∧ qc.1 = y.cls := by
    cases hqc : vwCl[ci]? with
    | none => rw [hqc] at hcl; cases hcl
    | some qc => rw [hqc] at hcl; exact ⟨qc, rfl, Option.some.inj hcl⟩
  have hrecv := va_recv hK hP hq1 (omW_get ho)
  rw [hq2] at hrecv
  have hrun := vx_runV (As := As) (rest := rest) (R := R) (H := H) (locs := locs) (meth := meth) (below := below) (e := e) (cells := c0 + k) (slots := s0 + 8 * k) (Ts := omTB) (C := y.cls) (g := F0 m pc la (As.reverse ++ .ref (G.1 o) :: rest)) ⟨hx, hb, hml, hown, hts⟩ (hM hst0 H.size) ⟨⟨rfl, rfl, by show 8 + h' + 1 ≤ R.frames; omega, by show 8 + (nL' + 11) + (200 + 40 * h') ≤ R.locals; omega, om_ws hts i1, List.mem_cons_self, hts _ i1, hts _ i4, i5, om_n i6, hts _ hl⟩, hts _ i2, hts _ i3⟩ ⟨om_blind, hrecv, hpre⟩ rfl hn hla.1.1 rfl (by show 2 * 0 + _ ≤ 8; omega) d ⟨by omega, by omega⟩
  refine om_after hrun hS hAA (fun v H1 locs1 hv hP1 hS1 => ?_) (fun E ce q9 H1 locs1 hv hP1 hS1 hce hcv hcl9 => ?_)
  · cases hv
    rw [show c0 + k + kc' = c0 + (k + kc') by omega, show s0 + 8 * k + 8 * kc' = s0 + 8 * (k + kc') by omega]
    exact kk H1 locs1 la hla hP1 hS1
  · cases hv
theorem v_invV_out {E : String} {ret : Option FieldType} {st : List Value} (C : omC G x own cc nL h kc) (hI : omMI y bytes nL' ret' n) (hl : Cond.methodLink own idx y ∈ omTB) (hM : omM G y (.code y bytes nL' ret') h' kc' (.ref (G.1 o) :: As) σ (.inl E) σ') (ho : omT[q]? = some (o, .inr (ci, fds))) (hcl : (vwCl[ci]?).map (·.1) = some y.cls) (hn : As.length = n) (hh' : h' < h) (hkc : k + kc' ≤ kc) (hst : st = As.reverse ++ .ref (G.1 o) :: rest) (hcat : (rest.map fun v => v.category).sum ≤ 8) (d : decode cc pc = .ok (.invokevirtual idx, 3)) (F : omF G x ret kc [] (.inl E) σ') : omV G x nL pc ls st σ k := by
  subst hst
  obtain ⟨p, l, e, R, s, m, args, below, meth, c, Q, A, c0, s0⟩ := x
  obtain ⟨hx, hb, hml, hown, hlk, hts, hK, hRO, hTX, hDj, hA, ⟨rfl, hst0⟩, hRf, hRl, hRc, hRs⟩ := C
  obtain ⟨hr, rfl, rfl, rfl, rfl, htb⟩ := F
  intro H locs la hla hP hS
  obtain ⟨i1, i2, i3, i4, i5, i6, i7⟩ := hI
  obtain ⟨hAA, hpre⟩ := om_pre (As := .ref (G.1 o) :: As) hP hK hRO hTX hDj hA hS
  obtain ⟨qc, hq1, hq2⟩ : ∃ qc, vwCl[ci]? = some qc ∧ qc.1 = y.cls := by
    cases hqc : vwCl[ci]? with
    | none => rw [hqc] at hcl; cases hcl
    | some qc => rw [hqc] at hcl; exact ⟨qc, rfl, Option.some.inj hcl⟩
  have hrecv := va_recv hK hP hq1 (omW_get ho)
  rw [hq2] at hrecv
  have hrun := vx_runV (As := As) (rest := rest) (R := R) (H := H) (locs := locs) (meth := meth) (below := below) (e := e) (cells := 0 + k) (slots := 0 + 8 * k) (Ts := omTB) (C := y.cls) (g := F0 m pc la (As.reverse ++ .ref (G.1 o) :: rest)) ⟨hx, hb, hml, hown, hts⟩ (hM hst0 H.size) ⟨⟨rfl, rfl, by show 8 + h' + 1 ≤ R.frames; omega, by show 8 + (nL' + 11) + (200 + 40 * h') ≤ R.locals; omega, om_ws hts i1, List.mem_cons_self, hts _ i1, hts _ i4, i5, om_n i6, hts _ hl⟩, hts _ i2, hts _ i3⟩ ⟨om_blind, hrecv, hpre⟩ rfl hn hla.1.1 rfl (by show 2 * 0 + _ ≤ 8; omega) d ⟨by omega, by omega⟩
  refine om_after hrun hS hAA (fun v H1 locs1 hv hP1 hS1 => ?_) (fun E ce q9 H1 locs1 hv hP1 hS1 hce hcv hcl9 => ?_)
  · cases hv
  · cases hv
    exact vx_out (fun z hz => by rw [htb] at hz; cases hz) hlk hce hcv hcl9 (fun t ht hvm => ⟨rfl, by rw [ht]; exact hP1, hS1.F ht⟩) hS1.2.2 (by omega) (by omega)
theorem v_invS_i {r : Int} {st : List Value} (C : omC G x own cc nL h kc) (hI : omMS y bytes nL' ret' n) (hl : Cond.methodLink own idx y ∈ omTB) (hM : omM G y (.code y bytes nL' ret') h' kc' As σ (.inr (some (.int (omi r)))) σ') (hn : As.length = n) (hh' : h' < h) (hkc : k + kc' ≤ kc) (hst : st = As.reverse ++ rest) (hcat : (rest.map fun v => v.category).sum ≤ 8) (d : decode cc pc = .ok (.invokestatic idx, 3)) (kk : omV G x nL (pc + 3) ls (.int (omi r) :: rest) σ' (k + kc')) : omV G x nL pc ls st σ k := by
  subst hst
  obtain ⟨p, l, e, R, s, m, args, below, meth, c, Q, A, c0, s0⟩ := x
  obtain ⟨hx, hb, hml, hown, hlk, hts, hK, hRO, hTX, hDj, hA, ⟨rfl, hst0⟩, hRf, hRl, hRc, hRs⟩ := C
  intro H locs la hla hP hS
  obtain ⟨i1, i2, i4, i5, i6, i7⟩ := hI
  obtain ⟨hAA, hpre⟩ := om_pre (As := As) hP hK hRO hTX hDj hA hS
  have hrun := vx_runS (As := As) (rest := rest) (R := R) (H := H) (locs := locs) (meth := meth) (below := below) (e := e) (cells := c0 + k) (slots := s0 + 8 * k) (Ts := omTB) (g := F0 m pc la (As.reverse ++ rest)) ⟨hx, hb, hml, hown, hts⟩ (hM hst0 H.size) ⟨⟨rfl, rfl, by show 8 + h' + 1 ≤ R.frames; omega, by show 8 + (nL' + 11) + (200 + 40 * h') ≤ R.locals; omega, om_ws hts i1, List.mem_cons_self, hts _ i1, hts _ i4, i5, om_n i6, hts _ hl⟩, hts _ i2⟩ ⟨om_blind, hpre⟩ rfl hn hla.1.1 rfl (by show 2 * 0 + _ ≤ 8; omega) d ⟨by omega, by omega⟩
  refine om_after hrun hS hAA (fun v H1 locs1 hv hP1 hS1 => ?_) (fun E ce q9 H1 locs1 hv hP1 hS1 hce hcv hcl9 => ?_)
  · cases hv
    rw [show c0 + k + kc' = c0 + (k + kc') by omega, show s0 + 8 * k + 8 * kc' = s0 + 8 * (k + kc') by omega]
    exact kk H1 locs1 la hla hP1 hS1
  · cases hv
theorem v_invS_v {st : List Value} (C : omC G x own cc nL h kc) (hI : omMS y bytes nL' ret' n) (hl : Cond.methodLink own idx y ∈ omTB) (hM : omM G y (.code y bytes nL' ret') h' kc' As σ (.inr none) σ') (hn : As.length = n) (hh' : h' < h) (hkc : k + kc' ≤ kc) (hst : st = As.reverse ++ rest) (hcat : (rest.map fun v => v.category).sum ≤ 8) (d : decode cc pc = .ok (.invokestatic idx, 3)) (kk : omV G x nL (pc + 3) ls rest σ' (k + kc')) : omV G x nL pc ls st σ k := by
  subst hst
  obtain ⟨p, l, e, R, s, m, args, below, meth, c, Q, A, c0, s0⟩ := x
  obtain ⟨hx, hb, hml, hown, hlk, hts, hK, hRO, hTX, hDj, hA, ⟨rfl, hst0⟩, hRf, hRl, hRc, hRs⟩ := C
  intro H locs la hla hP hS
  obtain ⟨i1, i2, i4, i5, i6, i7⟩ := hI
  obtain ⟨hAA, hpre⟩ := om_pre (As := As) hP hK hRO hTX hDj hA hS
  have hrun := vx_runS (As := As) (rest := rest) (R := R) (H := H) (locs := locs) (meth := meth) (below := below) (e := e) (cells := c0 + k) (slots := s0 + 8 * k) (Ts := omTB) (g := F0 m pc la (As.reverse ++ rest)) ⟨hx, hb, hml, hown, hts⟩ (hM hst0 H.size) ⟨⟨rfl, rfl, by show 8 + h' + 1 ≤ R.frames; omega, by show 8 + (nL' + 11) + (200 + 40 * h') ≤ R.locals; omega, om_ws hts i1, List.mem_cons_self, hts _ i1, hts _ i4, i5, om_n i6, hts _ hl⟩, hts _ i2⟩ ⟨om_blind, hpre⟩ rfl hn hla.1.1 rfl (by show 2 * 0 + _ ≤ 8; omega) d ⟨by omega, by omega⟩
  refine om_after hrun hS hAA (fun v H1 locs1 hv hP1 hS1 => ?_) (fun E ce q9 H1 locs1 hv hP1 hS1 hce hcv hcl9 => ?_)
  · cases hv
    rw [show c0 + k + kc' = c0 + (k + kc') by omega, show s0 + 8 * k + 8 * kc' = s0 + 8 * (k + kc') by omega]
    exact kk H1 locs1 la hla hP1 hS1
  · cases hv
theorem v_invS_out {E : String} {ret : Option FieldType} {st : List Value} (C : omC G x own cc nL h kc) (hI : omMS y bytes nL' ret' n) (hl : Cond.methodLink own idx y ∈ omTB) (hM : omM G y (.code y bytes nL' ret') h' kc' As σ (.inl E) σ') (hn : As.length = n) (hh' : h' < h) (hkc : k + kc' ≤ kc) (hst : st = As.reverse ++ rest) (hcat : (rest.map fun v => v.category).sum ≤ 8) (d : decode cc pc = .ok (.invokestatic idx, 3)) (F : omF G x ret kc [] (.inl E) σ') : omV G x nL pc ls st σ k := by
  subst hst
  obtain ⟨p, l, e, R, s, m, args, below, meth, c, Q, A, c0, s0⟩ := x
  obtain ⟨hx, hb, hml, hown, hlk, hts, hK, hRO, hTX, hDj, hA, ⟨rfl, hst0⟩, hRf, hRl, hRc, hRs⟩ := C
  obtain ⟨hr, rfl, rfl, rfl, rfl, htb⟩ := F
  intro H locs la hla hP hS
  obtain ⟨i1, i2, i4, i5, i6, i7⟩ := hI
  obtain ⟨hAA, hpre⟩ := om_pre (As := As) hP hK hRO hTX hDj hA hS
  have hrun := vx_runS (As := As) (rest := rest) (R := R) (H := H) (locs := locs) (meth := meth) (below := below) (e := e) (cells := 0 + k) (slots := 0 + 8 * k) (Ts := omTB) (g := F0 m pc la (As.reverse ++ rest)) ⟨hx, hb, hml, hown, hts⟩ (hM hst0 H.size) ⟨⟨rfl, rfl, by show 8 + h' + 1 ≤ R.frames; omega, by show 8 + (nL' + 11) + (200 + 40 * h') ≤ R.locals; omega, om_ws hts i1, List.mem_cons_self, hts _ i1, hts _ i4, i5, om_n i6, hts _ hl⟩, hts _ i2⟩ ⟨om_blind, hpre⟩ rfl hn hla.1.1 rfl (by show 2 * 0 + _ ≤ 8; omega) d ⟨by omega, by omega⟩
  refine om_after hrun hS hAA (fun v H1 locs1 hv hP1 hS1 => ?_) (fun E ce q9 H1 locs1 hv hP1 hS1 hce hcv hcl9 => ?_)
  · cases hv
  · cases hv
    exact vx_out (fun z hz => by rw [htb] at hz; cases hz) hlk hce hcv hcl9 (fun t ht hvm => ⟨rfl, by rw [ht]; exact hP1, hS1.F ht⟩) hS1.2.2 (by omega) (by omega)
theorem v_invX_i {r : Int} {st : List Value} {hx' : List (Nat × Nat × Nat × Nat)} (C : omC G x own cc nL h kc) (hI : omMX y bytes nL' ret' hx' n) (hl : Cond.methodLink own idx y ∈ omTB) (hM : omM G y (.codeWith y bytes nL' ret' hx') h' kc' As σ (.inr (some (.int (omi r)))) σ') (hn : As.length = n) (hh' : h' < h) (hkc : k + kc' ≤ kc) (hst : st = As.reverse ++ rest) (hcat : (rest.map fun v => v.category).sum ≤ 8) (d : decode cc pc = .ok (.invokestatic idx, 3)) (kk : omV G x nL (pc + 3) ls (.int (omi r) :: rest) σ' (k + kc')) : omV G x nL pc ls st σ k := by
  subst hst
  obtain ⟨p, l, e, R, s, m, args, below, meth, c, Q, A, c0, s0⟩ := x
  obtain ⟨hx, hb, hml, hown, hlk, hts, hK, hRO, hTX, hDj, hA, ⟨rfl, hst0⟩, hRf, hRl, hRc, hRs⟩ := C
  intro H locs la hla hP hS
  obtain ⟨i1, i2, i4, i5, i6, i7⟩ := hI
  obtain ⟨hAA, hpre⟩ := om_pre (As := As) hP hK hRO hTX hDj hA hS
  have hrun := vx_runSX (hh := hx') (As := As) (rest := rest) (R := R) (H := H) (locs := locs) (meth := meth) (below := below) (e := e) (cells := c0 + k) (slots := s0 + 8 * k) (Ts := omTB) (g := F0 m pc la (As.reverse ++ rest)) ⟨hx, hb, hml, hown, hts⟩ (hM hst0 H.size) ⟨⟨rfl, rfl, by show 8 + h' + 1 ≤ R.frames; omega, by show 8 + (nL' + 11) + (200 + 40 * h') ≤ R.locals; omega, om_ws hts i1, List.mem_cons_self⟩, hts _ i1, hts _ i4, i5, om_n i6, hts _ hl, hts _ i2⟩ ⟨om_blind, hpre⟩ rfl hn hla.1.1 rfl (by show 2 * 0 + _ ≤ 8; omega) d ⟨by omega, by omega⟩
  refine om_after hrun hS hAA (fun v H1 locs1 hv hP1 hS1 => ?_) (fun E ce q9 H1 locs1 hv hP1 hS1 hce hcv hcl9 => ?_)
  · cases hv
    rw [show c0 + k + kc' = c0 + (k + kc') by omega, show s0 + 8 * k + 8 * kc' = s0 + 8 * (k + kc') by omega]
    exact kk H1 locs1 la hla hP1 hS1
  · cases hv
/-- the pairs of exceptions' classes of which one handler passes the other by -/
def omPass (E nm : String) : Prop := (E = "java/lang/IllegalStateException" ∧ nm = "java/lang/IllegalArgumentException") ∨ (E = "java/lang/IllegalArgumentException" ∧ nm = "java/lang/IndexOutOfBoundsException") ∨ (E = "java/lang/IllegalStateException" ∧ nm = "java/lang/IndexOutOfBoundsException")
theorem omNc {A : Nat → Prop} {U : State} {H : Heap} {E nm : String} (h : omRO G A U H) (hp : omPass E nm) : va_Nc E nm U := by
  obtain ⟨h1, h2, h3, h4, h5, h6, h7, h8, h9, h10, h11, h12⟩ := h
  rcases hp with ⟨rfl, rfl⟩ | ⟨rfl, rfl⟩ | ⟨rfl, rfl⟩
  · exact h10
  · exact h11
  · exact h12
theorem v_invV_cat {E : String} {ret : Option FieldType} {out : omO} {σF : omH} {pre suf : List (Nat × Nat × Nat × Nat)} {z : Nat × Nat × Nat × Nat} {st : List Value} (C : omC G x own cc nL h kc) (hI : omMI y bytes nL' ret' n) (hl : Cond.methodLink own idx y ∈ omTB) (hM : omM G y (.code y bytes nL' ret') h' kc' (.ref (G.1 o) :: As) σ (.inl E) σ') (ho : omT[q]? = some (o, .inr (ci, fds))) (hcl : (vwCl[ci]?).map (·.1) = some y.cls) (hn : As.length = n) (hh' : h' < h) (hkc : k + kc' ≤ kc) (hst : st = As.reverse ++ .ref (G.1 o) :: rest) (hcat : (rest.map fun v => v.category).sum ≤ 8) (d : decode cc pc = .ok (.invokevirtual idx, 3)) (F : omF G x ret kc hh out σF) (hsp : hh = pre ++ z :: suf) (hcov : covers ⟨z.1, z.2.1, z.2.2.1, z.2.2.2⟩ pc = true) (hct : z.2.2.2 ≠ 0) (hlk9 : Cond.classLink own z.2.2.2 E ∈ omTB) (hca : Cond.castable E E ∈ omTB) (hpass : ∀ z8 ∈ pre, z8.2.2.2 ≠ 0 ∧ ∃ nm, Cond.classLink own z8.2.2.2 nm ∈ omTB ∧ omPass E nm) (kk : ∀ q9 : Nat, omV G x nL z.2.2.1 ls [.ref q9] σ' (k + kc')) : omV G x nL pc ls st σ k := by
  subst hst
  obtain ⟨p, l, e, R, s, m, args, below, meth, c, Q, A, c0, s0⟩ := x
  obtain ⟨hx, hb, hml, hown, hlk, hts, hK, hRO, hTX, hDj, hA, ⟨rfl, hst0⟩, hRf, hRl, hRc, hRs⟩ := C
  obtain ⟨hr, -, -, -, -, htb⟩ := F
  subst hsp
  intro H locs la hla hP hS
  obtain ⟨i1, i2, i3, i4, i5, i6, i7⟩ := hI
  obtain ⟨hAA, hpre⟩ := om_pre (As := .ref (G.1 o) :: As) hP hK hRO hTX hDj hA hS
  obtain ⟨qc, hq1, hq2⟩ : ∃ qc, vwCl[ci]? = some qc ∧ qc.1 = y.cls := by
    cases hqc : vwCl[ci]? with
    | none => rw [hqc] at hcl; cases hcl
    | some qc => rw [hqc] at hcl; exact ⟨qc, rfl, Option.some.inj hcl⟩
  have hrecv := va_recv hK hP hq1 (omW_get ho)
  rw [hq2] at hrecv
  have hrun := vx_runV (As := As) (rest := rest) (R := R) (H := H) (locs := locs) (meth := meth) (below := below) (e := e) (cells := c0 + k) (slots := s0 + 8 * k) (Ts := omTB) (C := y.cls) (g := F0 m pc la (As.reverse ++ .ref (G.1 o) :: rest)) ⟨hx, hb, hml, hown, hts⟩ (hM hst0 H.size) ⟨⟨rfl, rfl, by show 8 + h' + 1 ≤ R.frames; omega, by show 8 + (nL' + 11) + (200 + 40 * h') ≤ R.locals; omega, om_ws hts i1, List.mem_cons_self, hts _ i1, hts _ i4, i5, om_n i6, hts _ hl⟩, hts _ i2, hts _ i3⟩ ⟨om_blind, hrecv, hpre⟩ rfl hn hla.1.1 rfl (by show 2 * 0 + _ ≤ 8; omega) d ⟨by omega, by omega⟩
  refine om_after hrun hS hAA (fun v H1 locs1 hv hP1 hS1 => ?_) (fun E ce q9 H1 locs1 hv hP1 hS1 hce hcv hcl9 => ?_)
  · cases hv
  · cases hv
    have kk' := kk q9 H1 locs1 la hla hP1 hS1
    rw [show c0 + (k + kc') = c0 + k + kc' by omega, show s0 + 8 * (k + kc') = s0 + 8 * k + 8 * kc' by omega] at kk'
    refine vx_catch (name := E) hown (tableOf pre) ⟨z.1, z.2.1, z.2.2.1, z.2.2.2⟩ (tableOf suf) (by rw [htb]; simp [tableOf]) (fun z9 hz9 => ?_) hcov hct (hts _ hlk9) (hts _ hca) hce hcv hcl9 kk'
    obtain ⟨z8, hz8, rfl⟩ := List.mem_map.mp hz9
    obtain ⟨p1, nm, p2, p3⟩ := hpass z8 hz8
    exact Or.inr ⟨p1, nm, hts _ p2, omNc hRO p3⟩
end OMI
end
section
/-! ===== rows: constants' objects, tables, the script, members of the library ===== -/
def omushr (a b : Int) : Int := (((omi a).toUInt32 >>> ((omi b).toUInt32 &&& Int32.toUInt32 31)).toInt32).toInt
/-- an enum's constants: their objects' numbers are b, b + 1 .. below b + n -/
def omEn (E d : String) (nm : List String) (b : Nat) : Prop := ∀ (G : omG) (A : Nat → Prop) (U : State) (H : Heap), omRO G A U H → va_En E d nm omOrd (fun i => G.1 (b + i)) A U H
theorem omEn_Cost : omEn RX1 "LOneMachine$Cost;" omCostN 0 := fun _ _ _ _ h => h.1
theorem omEn_Key : omEn RX3 "LOneMachine$Key;" omKeyN 5 := fun _ _ _ _ h => h.2.1
theorem omEn_Way : omEn RX9 "LOneMachine$Way;" omWayN 8 := fun _ _ _ _ h => h.2.2.1
def omSw (f : String) (o n : Nat) : Prop := ∀ (G : omG) (A : Nat → Prop) (U : State) (H : Heap), omRO G A U H → va_Z RX0 f "[I" (.ref (G.1 o)) A U H ∧ va_T .int (G.1 o) n (fun j => .int (omi (j + 1))) A U H
theorem omSw_Cost : omSw "$SwitchMap$OneMachine$Cost" 11 5 := fun _ _ _ _ h => h.2.2.2.1
theorem omSw_Key : omSw "$SwitchMap$OneMachine$Key" 12 3 := fun _ _ _ _ h => h.2.2.2.2.1
theorem omSw_Way : omSw "$SwitchMap$OneMachine$Way" 13 3 := fun _ _ _ _ h => h.2.2.2.2.2.1
def omscr (G : omG) (j : Nat) : Int := (G.2.2.2.1.2 j).toInt
/-- the rows' arrays that orders are laid into -/
def omI10 (o : Nat) : Prop := o = 30 ∨ o = 31 ∨ o = 36 ∨ o = 39 ∨ o = 41
theorem omI10_at {o : Nat} (h : omI10 o) : ∃ q : Nat, omT[q]? = some ((o, .inl (0, 10)) : Nat × omD) := by
  rcases h with rfl | rfl | rfl | rfl | rfl
  · exact ⟨14, rfl⟩
  · exact ⟨15, rfl⟩
  · exact ⟨20, rfl⟩
  · exact ⟨23, rfl⟩
  · exact ⟨25, rfl⟩
section OMS
variable {G : omG} {x : omX} {own : String} {cc : ByteArray} {nL h kc pc : Nat} {ls : List (Nat × Value)} {st : List Value} {σ : omH} {k : Nat}
theorem v_gste (C : omC G x own cc nL h kc) {E d : String} {nm : List String} {b i cn idx : Nat} (hE : omEn E d nm b) (hi : i < nm.length) (hc : b + i = cn) (hlink : Cond.fieldLink own idx E (nm.getD i "") d ∈ omTB) (dd : decode cc pc = .ok (.getstatic idx, 3)) (kk : omV G x nL (pc + 3) ls (.ref (G.1 cn) :: st) σ k) : omV G x nL pc ls st σ k := by
  obtain ⟨p, l, e, R, s, m, args, below, meth, c, Q, A, c0, s0⟩ := x
  obtain ⟨hx, hb, hml, hown, hlk, hts, hK, hRO, hTX, hDj, hA, hst, hRf, hRl, hRc, hRs⟩ := C
  intro H locs la hl hP hS
  subst hc
  exact va_gets hx hb ((hE G A s s.heap hRO).1 i hi).1 hS hown (hts _ hlink) (fun _ h9 => h9) dd (kk H locs la hl hP hS)
theorem v_gsts (C : omC G x own cc nL h kc) {f : String} {o n idx : Nat} (hE : omSw f o n) (hlink : Cond.fieldLink own idx RX0 f "[I" ∈ omTB) (dd : decode cc pc = .ok (.getstatic idx, 3)) (kk : omV G x nL (pc + 3) ls (.ref (G.1 o) :: st) σ k) : omV G x nL pc ls st σ k := by
  obtain ⟨p, l, e, R, s, m, args, below, meth, c, Q, A, c0, s0⟩ := x
  obtain ⟨hx, hb, hml, hown, hlk, hts, hK, hRO, hTX, hDj, hA, hst, hRf, hRl, hRc, hRs⟩ := C
  intro H locs la hl hP hS
  exact va_gets hx hb (hE G A s s.heap hRO).1 hS hown (hts _ hlink) (fun _ h9 => h9) dd (kk H locs la hl hP hS)
theorem v_swld (C : omC G x own cc nL h kc) {f : String} {o n : Nat} {j : Int} (hE : omSw f o n) (hj : 0 ≤ omw j ∧ omw j < n) (dd : decode cc pc = .ok (.iaload, 1)) (kk : omV G x nL (pc + 1) ls (.int (omi (omw j + 1)) :: st) σ k) : omV G x nL pc ls (.int (omi j) :: .ref (G.1 o) :: st) σ k := by
  obtain ⟨p, l, e, R, s, m, args, below, meth, c, Q, A, c0, s0⟩ := x
  obtain ⟨hx, hb, hml, hown, hlk, hts, hK, hRO, hTX, hDj, hA, hst, hRf, hRl, hRc, hRs⟩ := C
  intro H locs la hl hP hS
  refine va_ti hx hb (hE G A s s.heap hRO).2 hS (om_in hj.1 hj.2) (v := .int (omi (omw j + 1))) ?_ dd (kk H locs la hl hP hS)
  rw [om_cl, Int.toNat_of_nonneg hj.1]
theorem v_scrld (C : omC G x own cc nL h kc) {j : Int} (hj : 0 ≤ omw j ∧ omw j < G.2.2.2.1.1) (dd : decode cc pc = .ok (.iaload, 1)) (kk : omV G x nL (pc + 1) ls (.int (omi (omscr G (omw j).toNat)) :: st) σ k) : omV G x nL pc ls (.int (omi j) :: .ref (G.1 14) :: st) σ k := by
  obtain ⟨p, l, e, R, s, m, args, below, meth, c, Q, A, c0, s0⟩ := x
  obtain ⟨hx, hb, hml, hown, hlk, hts, hK, hRO, hTX, hDj, hA, hst, hRf, hRl, hRc, hRs⟩ := C
  intro H locs la hl hP hS
  refine va_ti hx hb hRO.2.2.2.2.2.2.1 hS (om_in hj.1 hj.2) (v := .int (omi (omscr G (omw j).toNat))) ?_ dd (kk H locs la hl hP hS)
  rw [om_cl]
  unfold omscr
  exact congrArg Value.int (Int32.ofInt_toInt _).symm
theorem v_scrlen (C : omC G x own cc nL h kc) (dd : decode cc pc = .ok (.arraylength, 1)) (kk : omV G x nL (pc + 1) ls (.int (omi (G.2.2.2.1.1 : Int)) :: st) σ k) : omV G x nL pc ls (.ref (G.1 14) :: st) σ k := by
  obtain ⟨p, l, e, R, s, m, args, below, meth, c, Q, A, c0, s0⟩ := x
  obtain ⟨hx, hb, hml, hown, hlk, hts, hK, hRO, hTX, hDj, hA, hst, hRf, hRl, hRc, hRs⟩ := C
  intro H locs la hl hP hS
  exact va_tlen hx hb hRO.2.2.2.2.2.2.1 hS (v := omi (G.2.2.2.1.1 : Int)) (by first | exact (Int32.ofInt_eq_ofNat).symm | simp) dd (kk H locs la hl hP hS)
theorem v_ordf (C : omC G x own cc nL h kc) {E d : String} {nm : List String} {b cn idx : Nat} {ov : Int} (hE : omEn E d nm b) (hb1 : b ≤ cn) (hb2 : cn < b + nm.length) (hnm : nm.length ≤ 5) (ho : ((cn - b : Nat) : Int) = ov) (hlink : Cond.fieldLink own idx "java/lang/Enum" "ordinal" "I" ∈ omTB) (dd : decode cc pc = .ok (.getfield idx, 3)) (kk : omV G x nL (pc + 3) ls (.int (omi ov) :: st) σ k) : omV G x nL pc ls (.ref (G.1 cn) :: st) σ k := by
  obtain ⟨p, l, e, R, s, m, args, below, meth, c, Q, A, c0, s0⟩ := x
  obtain ⟨hx, hb, hml, hown, hlk, hts, hK, hRO, hTX, hDj, hA, hst, hRf, hRl, hRc, hRs⟩ := C
  intro H locs la hl hP hS
  have hEn := hE G A s s.heap hRO
  have kk' := kk H locs la hl hP hS
  have e1 : G.1 cn = (fun i => G.1 (b + i)) (cn - b) := congrArg G.1 (show cn = b + (cn - b) by omega)
  rw [e1]
  refine va_getE hx hb hEn (i := cn - b) (by omega) hS hown (q := ("java/lang/Enum", "ordinal", "I", [0, 1, 2, 3, 4])) List.mem_cons_self (hts _ hlink) (fun _ h9 => h9) dd ?_
  have e2 : ∀ i : Nat, i < 5 → ([0, 1, 2, 3, 4] : List Int32).getD i 0 = omi (i : Int) := by decide +kernel
  show W _ _ _ _ _ _ _ _ _ _ _ _ _ _ _ (F0 _ _ _ (.int (([0, 1, 2, 3, 4] : List Int32).getD (cn - b) 0) :: _))
  rw [e2 _ (by omega), ho]
  exact kk'
theorem v_acmpne (C : omC G x own cc nL h kc) {a b : Nat} {off : Int} {tgt : Nat} (ha : a < 5) (hb5 : b < 5) (d : decode cc pc = .ok (.if_acmp .ne off, 3)) (ht : (pc : Int) + off = (tgt : Int)) (kt : ¬ a = b → omV G x nL tgt ls st σ k) (kf : a = b → omV G x nL (pc + 3) ls st σ k) : omV G x nL pc ls (.ref (G.1 b) :: .ref (G.1 a) :: st) σ k := by
  obtain ⟨p, l, e, R, s, m, args, below, meth, c, Q, A, c0, s0⟩ := x
  obtain ⟨hx, hb, hml, hown, hlk, hts, hK, hRO, hTX, hDj, hA, hst, hRf, hRl, hRc, hRs⟩ := C
  intro H locs la hl hP hS
  refine lv_acmp_ne (rx := some (G.1 a)) (ry := some (G.1 b)) hx hb d ht (fun hh => kt (fun e => hh (by rw [e])) H locs la hl hP hS) (fun hh => kf ?_ H locs la hl hP hS)
  have hE := (omEn_Cost G A s s.heap hRO).2 a b (by show a < 5; exact ha) (by show b < 5; exact hb5)
  exact hE (by show G.1 (0 + a) = G.1 (0 + b); rw [Nat.zero_add, Nat.zero_add]; exact Option.some.inj hh)
theorem v_iushr (C : omC G x own cc nL h kc) {a b : Int} (d : decode cc pc = .ok (.iushr, 1)) (kk : omV G x nL (pc + 1) ls (.int (omi (omushr a b)) :: st) σ k) : omV G x nL pc ls (.int (omi b) :: .int (omi a) :: st) σ k := by
  obtain ⟨p, l, e, R, s, m, args, below, meth, c, Q, A, c0, s0⟩ := x
  obtain ⟨hx, hb, hml, hown, hlk, hts, hK, hRO, hTX, hDj, hA, hst, hRf, hRl, hRc, hRs⟩ := C
  intro H locs la hl hP hS
  exact lv_iushr hx hb d (Int32.ofInt_toInt _).symm (kk H locs la hl hP hS)
theorem v_ldcw (C : omC G x own cc nL h kc) {i : Nat} {a : Int} (hc : Cond.constant own i (omi a) ∈ omTB) (d : decode cc pc = .ok (.ldc_w i, 3)) (kk : omV G x nL (pc + 3) ls (.int (omi a) :: st) σ k) : omV G x nL pc ls st σ k := by
  obtain ⟨p, l, e, R, s, m, args, below, meth, c, Q, A, c0, s0⟩ := x
  obtain ⟨hx, hb, hml, hown, hlk, hts, hK, hRO, hTX, hDj, hA, hst, hRf, hRl, hRc, hRs⟩ := C
  intro H locs la hl hP hS
  exact lv_ldcw hx hb hown (hts _ hc) d (kk H locs la hl hP hS)
theorem v_mmax (C : omC G x own cc nL h kc) {a b : Int} {idx : Nat} (h1 : Cond.methodLink own idx Lib.Math.max.name ∈ omTB) (h2 : Cond.static Lib.Math.max.name ∈ omTB) (h3 : Cond.initialized "java/lang/Math" ∈ omTB) (h4 : Cond.code Lib.Math.max.name Lib.Math.max.code 2 (some .int) ∈ omTB) (hcat : (st.map fun v => v.category).sum ≤ 8) (hkc : k ≤ kc) (d : decode cc pc = .ok (.invokestatic idx, 3)) (kk : omV G x nL (pc + 3) ls (.int (omi (max (omw a) (omw b))) :: st) σ k) : omV G x nL pc ls (.int (omi b) :: .int (omi a) :: st) σ k := by
  obtain ⟨p, l, e, R, s, m, args, below, meth, c, Q, A, c0, s0⟩ := x
  obtain ⟨hx, hb, hml, hown, hlk, hts, hK, hRO, hTX, hDj, hA, hst, hRf, hRl, hRc, hRs⟩ := C
  intro H locs la hl hP hS
  have kk' := kk H locs la hl hP hS
  refine va_mmax hx hb (hml.trans hl.1.1.symm) hown (hts _ h1) (hts _ h2) (hts _ h3) (hts _ h4) (by omega) (by omega) (by omega) (by omega) d ?_
  have e : (if omi a < omi b then omi b else omi a) = omi (max (omw a) (omw b)) := by
    by_cases hh : omw a < omw b
    · rw [if_pos (omi_lt.mpr hh), show max (omw a) (omw b) = omw b by omega, omi_w]
    · rw [if_neg (fun q => hh (omi_lt.mp q)), show max (omw a) (omw b) = omw a by omega, omi_w]
  rw [e]
  exact kk'

theorem v_mmin (C : omC G x own cc nL h kc) {a b : Int} {idx : Nat} (h1 : Cond.methodLink own idx Lib.Math.min.name ∈ omTB) (h2 : Cond.static Lib.Math.min.name ∈ omTB) (h3 : Cond.initialized "java/lang/Math" ∈ omTB) (h4 : Cond.code Lib.Math.min.name Lib.Math.min.code 2 (some .int) ∈ omTB) (hcat : (st.map fun v => v.category).sum ≤ 8) (hkc : k ≤ kc) (d : decode cc pc = .ok (.invokestatic idx, 3)) (kk : omV G x nL (pc + 3) ls (.int (omi (min (omw a) (omw b))) :: st) σ k) : omV G x nL pc ls (.int (omi b) :: .int (omi a) :: st) σ k := by
  obtain ⟨p, l, e, R, s, m, args, below, meth, c, Q, A, c0, s0⟩ := x
  obtain ⟨hx, hb, hml, hown, hlk, hts, hK, hRO, hTX, hDj, hA, hst, hRf, hRl, hRc, hRs⟩ := C
  intro H locs la hl hP hS
  have kk' := kk H locs la hl hP hS
  refine va_mmin hx hb (hml.trans hl.1.1.symm) hown (hts _ h1) (hts _ h2) (hts _ h3) (hts _ h4) (by omega) (by omega) (by omega) (by omega) d ?_
  have e : (if omi b < omi a then omi b else omi a) = omi (min (omw a) (omw b)) := by
    by_cases hh : omw b < omw a
    · rw [if_pos (omi_lt.mpr hh), show min (omw a) (omw b) = omw b by omega, omi_w]
    · rw [if_neg (fun q => hh (omi_lt.mp q)), show min (omw a) (omw b) = omw a by omega, omi_w]
  rw [e]
  exact kk'

def omcpy (σ : omH) : omH := fun o j => if o = 37 ∧ j < 10 then σ 18 j else σ o j
theorem v_acopy (C : omC G x own cc nL h kc) {idx : Nat} (h1 : Cond.methodLink own idx arraycopyName ∈ omTB) (h2 : Cond.native arraycopyName ∈ omTB) (h3 : Cond.static arraycopyName ∈ omTB) (h4 : Cond.initialized "java/lang/System" ∈ omTB) (hcat : (st.map fun v => v.category).sum ≤ 8) (d : decode cc pc = .ok (.invokestatic idx, 3)) (kk : omV G x nL (pc + 3) ls st (omcpy σ) k) : omV G x nL pc ls (.int (omi 10) :: .int (omi 0) :: .ref (G.1 37) :: .int (omi 0) :: .ref (G.1 18) :: st) σ k := by
  obtain ⟨p, l, e, R, s, m, args, below, meth, c, Q, A, c0, s0⟩ := x
  obtain ⟨hx, hb, hml, hown, hlk, hts, hK, hRO, hTX, hDj, hA, hst, hRf, hRl, hRc, hRs⟩ := C
  intro H locs la hl hP hS
  have hnw : nativeFrameWords "java/lang/System" "arraycopy" 5 + 11 ≤ 100 := by decide +kernel
  refine va_copyi hx hb (hml.trans hl.1.1.symm) hown (hts _ h1) (hts _ h2) (hts _ h3) (hts _ h4) hK hP (hDj.D σ) hS 2 21 0 0 (omW_get (o := 18) (d := .inl (0, 10)) rfl) (omW_get (o := 37) (d := .inl (0, 10)) rfl) rfl rfl rfl (by decide) (by decide) (by decide) (by decide) (by decide) (fun _ _ => rfl) (by omega) (by omega) d (fun H1 locs1 hP1 hD1 hS1 => ?_)
  have he : (omW G σ).set 21 (G.1 37, .inl (G.2.2.1.1, 10, .inl (va_cpy (fun j => omi (σ 18 j)) (fun j => omi (σ 37 j)) (omi 0).toNatClampNeg (omi 0).toNatClampNeg (omi 10).toNatClampNeg))) = omW G (omcpy σ) := by
    apply List.ext_getElem?
    intro i
    rw [List.getElem?_set]
    split
    · rename_i hq
      subst hq
      rw [if_pos (by unfold omW; rw [List.length_map]; decide : 21 < (omW G σ).length), omW_get (σ := omcpy σ) (o := 37) (d := .inl (0, 10)) rfl]
      congr 1; congr 1
      show (_ : va_E) = .inl (G.2.2.1.1, 10, .inl (fun j => omi (omcpy σ 37 j)))
      congr 1; congr 1; congr 1
      congr 1
      funext j
      have e0 : (omi 0).toNatClampNeg = 0 := rfl
      have e1 : (omi 10).toNatClampNeg = 10 := by decide +kernel
      rw [e0, e1]
      unfold omcpy
      by_cases hj : j < 10
      · rw [pk_cpy_in (by omega) (by omega), if_pos ⟨rfl, hj⟩]; simp
      · rw [pk_cpy_out (by omega), if_neg (fun q => hj q.2)]
    · rename_i hq
      unfold omW
      rw [List.getElem?_map, List.getElem?_map]
      cases hi : omT[i]? with
      | none => rfl
      | some p9 =>
        obtain ⟨o', d'⟩ := p9
        have hne : o' ≠ 37 := fun e => hq (omT_key (i := 21) (p := (37, .inl (0, 10))) rfl hi e.symm)
        show some (G.1 o', oment G (σ o') d') = some (G.1 o', oment G (omcpy σ o') d')
        have : omcpy σ o' = σ o' := by funext j'; simp [omcpy, hne]
        rw [this]
  rw [he] at hP1
  exact kk H1 locs1 la hl hP1 hS1
end OMS
end
