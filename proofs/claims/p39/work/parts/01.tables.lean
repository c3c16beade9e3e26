-- ===== PART A: goes FIRST, ahead of the names: the tables' words, and 'selects' of the private methods out of them =====
/-- a private method of a class that the tables say can be made, by its rows of tables_1 -/
def lw_okq (q : MethodName × Nat) : Prop := (q.1.cls ≠ "java/lang/invoke/MethodHandle" ∧ q.1.cls ≠ "java/lang/invoke/VarHandle") ∧ Cond.instantiable q.1.cls q.2 ∈ tables_1 ∧ Cond.privateMethod q.1 ∈ tables_1 ∧ Cond.instanceMethod q.1 ∈ tables_1
theorem lw_p0 : lw_okq (⟨"OneMachine$Sets", "isOnTimeByDue", "(LOneMachine$Jobs;I)Z"⟩, 1) := ⟨⟨by decide +kernel, by decide +kernel⟩, List.mem_of_getElem? (i := 181) (by decide +kernel), List.mem_of_getElem? (i := 276) (by decide +kernel), List.mem_of_getElem? (i := 277) (by decide +kernel)⟩
theorem lw_p1 : lw_okq (⟨"java/lang/Throwable", "fillInStackTrace", "(I)Ljava/lang/Throwable;"⟩, 6) := ⟨⟨by decide +kernel, by decide +kernel⟩, List.mem_of_getElem? (i := 344) (by decide +kernel), List.mem_of_getElem? (i := 342) (by decide +kernel), List.mem_of_getElem? (i := 343) (by decide +kernel)⟩
theorem lw_p2 : lw_okq (⟨"OneMachine", "needJob", "(I)V"⟩, 7) := ⟨⟨by decide +kernel, by decide +kernel⟩, List.mem_of_getElem? (i := 24) (by decide +kernel), List.mem_of_getElem? (i := 437) (by decide +kernel), List.mem_of_getElem? (i := 438) (by decide +kernel)⟩
theorem lw_p3 : lw_okq (⟨"OneMachine", "needSomeJob", "()V"⟩, 7) := ⟨⟨by decide +kernel, by decide +kernel⟩, List.mem_of_getElem? (i := 24) (by decide +kernel), List.mem_of_getElem? (i := 458) (by decide +kernel), List.mem_of_getElem? (i := 459) (by decide +kernel)⟩
theorem lw_p4 : lw_okq (⟨"OneMachine$Rules", "putDroppedBehind", "(LOneMachine$Jobs;II)V"⟩, 5) := ⟨⟨by decide +kernel, by decide +kernel⟩, List.mem_of_getElem? (i := 122) (by decide +kernel), List.mem_of_getElem? (i := 534) (by decide +kernel), List.mem_of_getElem? (i := 535) (by decide +kernel)⟩
theorem lw_p5 : lw_okq (⟨"OneMachine$Rules", "fillLeastTardiness", "(LOneMachine$Jobs;)V"⟩, 5) := ⟨⟨by decide +kernel, by decide +kernel⟩, List.mem_of_getElem? (i := 122) (by decide +kernel), List.mem_of_getElem? (i := 558) (by decide +kernel), List.mem_of_getElem? (i := 559) (by decide +kernel)⟩
theorem lw_p6 : lw_okq (⟨"OneMachine$Rules", "tardinessBy", "(LOneMachine$Jobs;III)I"⟩, 5) := ⟨⟨by decide +kernel, by decide +kernel⟩, List.mem_of_getElem? (i := 122) (by decide +kernel), List.mem_of_getElem? (i := 564) (by decide +kernel), List.mem_of_getElem? (i := 565) (by decide +kernel)⟩
theorem lw_p7 : lw_okq (⟨"OneMachine$Rules", "fillMustBeDone", "(LOneMachine$Jobs;)V"⟩, 5) := ⟨⟨by decide +kernel, by decide +kernel⟩, List.mem_of_getElem? (i := 122) (by decide +kernel), List.mem_of_getElem? (i := 583) (by decide +kernel), List.mem_of_getElem? (i := 584) (by decide +kernel)⟩
theorem lw_p8 : lw_okq (⟨"OneMachine$Rules", "fillLeastLateness", "(LOneMachine$Jobs;)V"⟩, 5) := ⟨⟨by decide +kernel, by decide +kernel⟩, List.mem_of_getElem? (i := 122) (by decide +kernel), List.mem_of_getElem? (i := 587) (by decide +kernel), List.mem_of_getElem? (i := 588) (by decide +kernel)⟩
theorem lw_p9 : lw_okq (⟨"OneMachine$Rules", "keepsFamilyOrders", "(LOneMachine$Jobs;I)Z"⟩, 5) := ⟨⟨by decide +kernel, by decide +kernel⟩, List.mem_of_getElem? (i := 122) (by decide +kernel), List.mem_of_getElem? (i := 595) (by decide +kernel), List.mem_of_getElem? (i := 596) (by decide +kernel)⟩
theorem lw_p10 : lw_okq (⟨"OneMachine$Rules", "leastLatenessFrom", "(LOneMachine$Jobs;II)I"⟩, 5) := ⟨⟨by decide +kernel, by decide +kernel⟩, List.mem_of_getElem? (i := 122) (by decide +kernel), List.mem_of_getElem? (i := 599) (by decide +kernel), List.mem_of_getElem? (i := 600) (by decide +kernel)⟩
theorem lw_p11 : lw_okq (⟨"OneMachine$Rules", "isNext", "(LOneMachine$Jobs;II)Z"⟩, 5) := ⟨⟨by decide +kernel, by decide +kernel⟩, List.mem_of_getElem? (i := 122) (by decide +kernel), List.mem_of_getElem? (i := 603) (by decide +kernel), List.mem_of_getElem? (i := 604) (by decide +kernel)⟩
theorem lw_p12 : lw_okq (⟨"OneMachine$Rules", "latenessBy", "(LOneMachine$Jobs;III)I"⟩, 5) := ⟨⟨by decide +kernel, by decide +kernel⟩, List.mem_of_getElem? (i := 122) (by decide +kernel), List.mem_of_getElem? (i := 607) (by decide +kernel), List.mem_of_getElem? (i := 608) (by decide +kernel)⟩
theorem lw_p13 : lw_okq (⟨"OneMachine$Preemption", "shortestAt", "(LOneMachine$Jobs;I)I"⟩, 2) := ⟨⟨by decide +kernel, by decide +kernel⟩, List.mem_of_getElem? (i := 145) (by decide +kernel), List.mem_of_getElem? (i := 628) (by decide +kernel), List.mem_of_getElem? (i := 629) (by decide +kernel)⟩
theorem lw_p14 : lw_okq (⟨"OneMachine$Preemption", "isOpen", "(LOneMachine$Jobs;II)Z"⟩, 2) := ⟨⟨by decide +kernel, by decide +kernel⟩, List.mem_of_getElem? (i := 145) (by decide +kernel), List.mem_of_getElem? (i := 633) (by decide +kernel), List.mem_of_getElem? (i := 634) (by decide +kernel)⟩
theorem lw_p15 : lw_okq (⟨"OneMachine$Preemption", "firstByDateAt", "(LOneMachine$Jobs;I)I"⟩, 2) := ⟨⟨by decide +kernel, by decide +kernel⟩, List.mem_of_getElem? (i := 145) (by decide +kernel), List.mem_of_getElem? (i := 637) (by decide +kernel), List.mem_of_getElem? (i := 638) (by decide +kernel)⟩
def lw_privs_1 : List (MethodName × Nat) := [(⟨"OneMachine$Sets", "isOnTimeByDue", "(LOneMachine$Jobs;I)Z"⟩, 1), (⟨"java/lang/Throwable", "fillInStackTrace", "(I)Ljava/lang/Throwable;"⟩, 6), (⟨"OneMachine", "needJob", "(I)V"⟩, 7), (⟨"OneMachine", "needSomeJob", "()V"⟩, 7), (⟨"OneMachine$Rules", "putDroppedBehind", "(LOneMachine$Jobs;II)V"⟩, 5), (⟨"OneMachine$Rules", "fillLeastTardiness", "(LOneMachine$Jobs;)V"⟩, 5), (⟨"OneMachine$Rules", "tardinessBy", "(LOneMachine$Jobs;III)I"⟩, 5), (⟨"OneMachine$Rules", "fillMustBeDone", "(LOneMachine$Jobs;)V"⟩, 5), (⟨"OneMachine$Rules", "fillLeastLateness", "(LOneMachine$Jobs;)V"⟩, 5), (⟨"OneMachine$Rules", "keepsFamilyOrders", "(LOneMachine$Jobs;I)Z"⟩, 5), (⟨"OneMachine$Rules", "leastLatenessFrom", "(LOneMachine$Jobs;II)I"⟩, 5), (⟨"OneMachine$Rules", "isNext", "(LOneMachine$Jobs;II)Z"⟩, 5), (⟨"OneMachine$Rules", "latenessBy", "(LOneMachine$Jobs;III)I"⟩, 5), (⟨"OneMachine$Preemption", "shortestAt", "(LOneMachine$Jobs;I)I"⟩, 2), (⟨"OneMachine$Preemption", "isOpen", "(LOneMachine$Jobs;II)Z"⟩, 2), (⟨"OneMachine$Preemption", "firstByDateAt", "(LOneMachine$Jobs;I)I"⟩, 2)]
theorem lw_r1 : ∀ q ∈ lw_privs_1, lw_okq q := List.forall_mem_cons.mpr ⟨lw_p0, List.forall_mem_cons.mpr ⟨lw_p1, List.forall_mem_cons.mpr ⟨lw_p2, List.forall_mem_cons.mpr ⟨lw_p3, List.forall_mem_cons.mpr ⟨lw_p4, List.forall_mem_cons.mpr ⟨lw_p5, List.forall_mem_cons.mpr ⟨lw_p6, List.forall_mem_cons.mpr ⟨lw_p7, List.forall_mem_cons.mpr ⟨lw_p8, List.forall_mem_cons.mpr ⟨lw_p9, List.forall_mem_cons.mpr ⟨lw_p10, List.forall_mem_cons.mpr ⟨lw_p11, List.forall_mem_cons.mpr ⟨lw_p12, List.forall_mem_cons.mpr ⟨lw_p13, List.forall_mem_cons.mpr ⟨lw_p14, List.forall_mem_cons.mpr ⟨lw_p15, fun _ h => absurd h List.not_mem_nil⟩⟩⟩⟩⟩⟩⟩⟩⟩⟩⟩⟩⟩⟩⟩⟩
theorem lw_p16 : lw_okq (⟨"OneMachine", "needPlan", "()V"⟩, 7) := ⟨⟨by decide +kernel, by decide +kernel⟩, List.mem_of_getElem? (i := 24) (by decide +kernel), List.mem_of_getElem? (i := 659) (by decide +kernel), List.mem_of_getElem? (i := 660) (by decide +kernel)⟩
theorem lw_p17 : lw_okq (⟨"OneMachine$Window", "tryWindow", "(LOneMachine$Jobs;ZII)V"⟩, 3) := ⟨⟨by decide +kernel, by decide +kernel⟩, List.mem_of_getElem? (i := 191) (by decide +kernel), List.mem_of_getElem? (i := 694) (by decide +kernel), List.mem_of_getElem? (i := 695) (by decide +kernel)⟩
theorem lw_p18 : lw_okq (⟨"OneMachine$Window", "isBetter", "(III)Z"⟩, 3) := ⟨⟨by decide +kernel, by decide +kernel⟩, List.mem_of_getElem? (i := 191) (by decide +kernel), List.mem_of_getElem? (i := 701) (by decide +kernel), List.mem_of_getElem? (i := 702) (by decide +kernel)⟩
theorem lw_p19 : lw_okq (⟨"OneMachine", "needFewJobs", "()V"⟩, 7) := ⟨⟨by decide +kernel, by decide +kernel⟩, List.mem_of_getElem? (i := 24) (by decide +kernel), List.mem_of_getElem? (i := 709) (by decide +kernel), List.mem_of_getElem? (i := 710) (by decide +kernel)⟩
theorem lw_p20 : lw_okq (⟨"OneMachine$Orders", "endBehind", "(LOneMachine$Jobs;IIII)I"⟩, 4) := ⟨⟨by decide +kernel, by decide +kernel⟩, List.mem_of_getElem? (i := 158) (by decide +kernel), List.mem_of_getElem? (i := 729) (by decide +kernel), List.mem_of_getElem? (i := 730) (by decide +kernel)⟩
theorem lw_p21 : lw_okq (⟨"OneMachine$Orders", "endInGaps", "(LOneMachine$Jobs;II)I"⟩, 4) := ⟨⟨by decide +kernel, by decide +kernel⟩, List.mem_of_getElem? (i := 158) (by decide +kernel), List.mem_of_getElem? (i := 739) (by decide +kernel), List.mem_of_getElem? (i := 740) (by decide +kernel)⟩
theorem lw_p22 : lw_okq (⟨"OneMachine", "needPiece", "(I)V"⟩, 7) := ⟨⟨by decide +kernel, by decide +kernel⟩, List.mem_of_getElem? (i := 24) (by decide +kernel), List.mem_of_getElem? (i := 776) (by decide +kernel), List.mem_of_getElem? (i := 777) (by decide +kernel)⟩
def lw_privs_2 : List (MethodName × Nat) := [(⟨"OneMachine", "needPlan", "()V"⟩, 7), (⟨"OneMachine$Window", "tryWindow", "(LOneMachine$Jobs;ZII)V"⟩, 3), (⟨"OneMachine$Window", "isBetter", "(III)Z"⟩, 3), (⟨"OneMachine", "needFewJobs", "()V"⟩, 7), (⟨"OneMachine$Orders", "endBehind", "(LOneMachine$Jobs;IIII)I"⟩, 4), (⟨"OneMachine$Orders", "endInGaps", "(LOneMachine$Jobs;II)I"⟩, 4), (⟨"OneMachine", "needPiece", "(I)V"⟩, 7)]
theorem lw_r2 : ∀ q ∈ lw_privs_2, lw_okq q := List.forall_mem_cons.mpr ⟨lw_p16, List.forall_mem_cons.mpr ⟨lw_p17, List.forall_mem_cons.mpr ⟨lw_p18, List.forall_mem_cons.mpr ⟨lw_p19, List.forall_mem_cons.mpr ⟨lw_p20, List.forall_mem_cons.mpr ⟨lw_p21, List.forall_mem_cons.mpr ⟨lw_p22, fun _ h => absurd h List.not_mem_nil⟩⟩⟩⟩⟩⟩⟩
def lw_privs : List (MethodName × Nat) := lw_privs_1 ++ (lw_privs_2)
def lw_tbl : List Cond := k2_sels lw_privs ++ tables_1
theorem lw_privs_ok : ∀ q ∈ lw_privs, lw_okq q := by
  show ∀ q ∈ lw_privs_1 ++ (lw_privs_2), lw_okq q
  exact List.forall_mem_append.mpr ⟨lw_r1, lw_r2⟩

/-! ===== BEGIN words of one list among another's, by their places ===== -/
theorem goodIn_r {big : List Cond} (ws : List Cond) (ps : List Nat) (hp : ws = ps.filterMap (fun i => big[i]?)) (h : ws.all goodWord = true) : GoodIn big ws := by
  intro w hw
  have h1 := List.all_eq_true.mp h w hw
  rw [hp] at hw
  obtain ⟨i, -, hi⟩ := List.mem_filterMap.mp hw
  have hm : w ∈ big := by first | exact List.mem_of_getElem? hi | exact List.getElem?_mem hi
  exact ⟨hm, good_of_word h1⟩
theorem goodIn_app {big a b : List Cond} (ha : GoodIn big a) (hb : GoodIn big b) : GoodIn big (a ++ b) := fun w h => (List.mem_append.mp h).elim (ha w) (hb w)
theorem goodIn_ca {big a b : List Cond} {c : Cond} (ha : GoodIn big (c :: a)) (hb : GoodIn big b) : GoodIn big (c :: (a ++ b)) := fun w h => (List.mem_cons.mp h).elim (fun e => ha w (List.mem_cons.mpr (Or.inl e))) (fun h => (List.mem_append.mp h).elim (fun h => ha w (List.mem_cons.mpr (Or.inr h))) (hb w))
theorem goodIn_sub {big ws : List Cond} (hm : ∀ w ∈ ws, w ∈ big) (h : ws.all goodWord = true) : GoodIn big ws := fun w hw => ⟨hm w hw, good_of_word (List.all_eq_true.mp h w hw)⟩
/-! ===== END ===== -/


def RX0 : String := "OneMachine$1"
def TX0 : u_T := fun k => match k with
  | _ => ("", "", "", false)
def tyX0 : Nat → FieldType := fun k => match k with
  | _ => .int
abbrev wsX00 : List Cond := u_ws RX0 TX0 0
theorem nmX0 : ∀ a, a < 0 → ∀ b, b < 0 → a ≠ b → (TX0 a).2.1 ≠ (TX0 b).2.1 := by decide +kernel
theorem tyX0_ok : ∀ k, k < 0 → parseFieldDescriptor (TX0 k).2.2.1 = some (tyX0 k) := by decide +kernel
def RX1 : String := "OneMachine$Cost"
def TX1 : u_T := fun k => match k with
  | _ => ("", "", "", false)
def tyX1 : Nat → FieldType := fun k => match k with
  | _ => .int
abbrev wsX10 : List Cond := u_ws RX1 TX1 0
theorem nmX1 : ∀ a, a < 0 → ∀ b, b < 0 → a ≠ b → (TX1 a).2.1 ≠ (TX1 b).2.1 := by decide +kernel
theorem tyX1_ok : ∀ k, k < 0 → parseFieldDescriptor (TX1 k).2.2.1 = some (tyX1 k) := by decide +kernel
abbrev cX1_ofNoJob : ByteArray := prog_3_method_4_code
def yX1_ofNoJob : MethodName := ⟨RX1, "ofNoJob", "()I"⟩
abbrev cX1_with : ByteArray := prog_3_method_5_code
def yX1_with : MethodName := ⟨RX1, "with", "(ILOneMachine$Jobs;II)I"⟩
def RX2 : String := "OneMachine$Jobs"
def TX2 : u_T := fun k => match k with
  | 0 => ("OneMachine$Jobs", "count", "I", false)
  | 1 => ("OneMachine$Jobs", "length", "[I", true)
  | 2 => ("OneMachine$Jobs", "due", "[I", true)
  | 3 => ("OneMachine$Jobs", "weight", "[I", true)
  | 4 => ("OneMachine$Jobs", "release", "[I", true)
  | 5 => ("OneMachine$Jobs", "family", "[I", true)
  | _ => ("OneMachine$Jobs", "setup", "[I", true)
def tyX2 : Nat → FieldType := fun k => match k with
  | 0 => .int
  | 1 => .array .int
  | 2 => .array .int
  | 3 => .array .int
  | 4 => .array .int
  | 5 => .array .int
  | _ => .array .int
abbrev wsX20 : List Cond := u_ws RX2 TX2 7
theorem nmX2 : ∀ a, a < 7 → ∀ b, b < 7 → a ≠ b → (TX2 a).2.1 ≠ (TX2 b).2.1 := by decide +kernel
theorem tyX2_ok : ∀ k, k < 7 → parseFieldDescriptor (TX2 k).2.2.1 = some (tyX2 k) := by decide +kernel
abbrev cX2_init : ByteArray := prog_4_method_1_code
def yX2_init : MethodName := ⟨RX2, "<init>", "()V"⟩
abbrev cX2_put : ByteArray := prog_4_method_2_code
def yX2_put : MethodName := ⟨RX2, "put", "(IIIIII)V"⟩
abbrev cX2_remove : ByteArray := prog_4_method_3_code
def yX2_remove : MethodName := ⟨RX2, "remove", "(I)V"⟩
abbrev cX2_all : ByteArray := prog_4_method_4_code
def yX2_all : MethodName := ⟨RX2, "all", "()I"⟩
abbrev cX2_isIn : ByteArray := prog_4_method_5_code
def yX2_isIn : MethodName := ⟨RX2, "isIn", "(II)Z"⟩
abbrev cX2_lengthOfSet : ByteArray := prog_4_method_6_code
def yX2_lengthOfSet : MethodName := ⟨RX2, "lengthOfSet", "(I)I"⟩
abbrev cX2_setupBehind : ByteArray := prog_4_method_7_code
def yX2_setupBehind : MethodName := ⟨RX2, "setupBehind", "(II)I"⟩
abbrev cX2_fillInOrder : ByteArray := prog_4_method_8_code
def yX2_fillInOrder : MethodName := ⟨RX2, "fillInOrder", "([ILOneMachine$Key;)V"⟩
def RX3 : String := "OneMachine$Key"
def TX3 : u_T := fun k => match k with
  | _ => ("", "", "", false)
def tyX3 : Nat → FieldType := fun k => match k with
  | _ => .int
abbrev wsX30 : List Cond := u_ws RX3 TX3 0
theorem nmX3 : ∀ a, a < 0 → ∀ b, b < 0 → a ≠ b → (TX3 a).2.1 ≠ (TX3 b).2.1 := by decide +kernel
theorem tyX3_ok : ∀ k, k < 0 → parseFieldDescriptor (TX3 k).2.2.1 = some (tyX3 k) := by decide +kernel
abbrev cX3_putsBehind : ByteArray := prog_5_method_4_code
def yX3_putsBehind : MethodName := ⟨RX3, "putsBehind", "(LOneMachine$Jobs;II)Z"⟩
def RX4 : String := "OneMachine$Orders"
def TX4 : u_T := fun k => match k with
  | 0 => ("OneMachine$Orders", "byRelease", "[I", true)
  | 1 => ("OneMachine$Orders", "way", "LOneMachine$Way;", false)
  | 2 => ("OneMachine$Orders", "cost", "LOneMachine$Cost;", false)
  | _ => ("OneMachine$Orders", "least", "I", false)
def tyX4 : Nat → FieldType := fun k => match k with
  | 0 => .array .int
  | 1 => .object "OneMachine$Way"
  | 2 => .object "OneMachine$Cost"
  | _ => .int
abbrev wsX40 : List Cond := u_ws RX4 TX4 4
theorem nmX4 : ∀ a, a < 4 → ∀ b, b < 4 → a ≠ b → (TX4 a).2.1 ≠ (TX4 b).2.1 := by decide +kernel
theorem tyX4_ok : ∀ k, k < 4 → parseFieldDescriptor (TX4 k).2.2.1 = some (tyX4 k) := by decide +kernel
abbrev cX4_init : ByteArray := prog_6_method_1_code
def yX4_init : MethodName := ⟨RX4, "<init>", "()V"⟩
abbrev cX4_least : ByteArray := prog_6_method_2_code
def yX4_least : MethodName := ⟨RX4, "least", "(LOneMachine$Jobs;LOneMachine$Way;LOneMachine$Cost;)I"⟩
abbrev cX4_tryAll : ByteArray := prog_6_method_3_code
def yX4_tryAll : MethodName := ⟨RX4, "tryAll", "(LOneMachine$Orders;LOneMachine$Jobs;IIIII)V"⟩
abbrev cX4_endBehind : ByteArray := prog_6_method_4_code
def yX4_endBehind : MethodName := ⟨RX4, "endBehind", "(LOneMachine$Jobs;IIII)I"⟩
abbrev cX4_endInGaps : ByteArray := prog_6_method_5_code
def yX4_endInGaps : MethodName := ⟨RX4, "endInGaps", "(LOneMachine$Jobs;II)I"⟩
def RX5 : String := "OneMachine$Plan"
def TX5 : u_T := fun k => match k with
  | 0 => ("OneMachine$Plan", "made", "Z", false)
  | 1 => ("OneMachine$Plan", "count", "I", false)
  | 2 => ("OneMachine$Plan", "kind", "[I", true)
  | 3 => ("OneMachine$Plan", "whose", "[I", true)
  | 4 => ("OneMachine$Plan", "end", "[I", true)
  | _ => ("OneMachine$Plan", "completion", "[I", true)
def tyX5 : Nat → FieldType := fun k => match k with
  | 0 => .boolean
  | 1 => .int
  | 2 => .array .int
  | 3 => .array .int
  | 4 => .array .int
  | _ => .array .int
abbrev wsX50 : List Cond := u_ws RX5 TX5 6
theorem nmX5 : ∀ a, a < 6 → ∀ b, b < 6 → a ≠ b → (TX5 a).2.1 ≠ (TX5 b).2.1 := by decide +kernel
theorem tyX5_ok : ∀ k, k < 6 → parseFieldDescriptor (TX5 k).2.2.1 = some (tyX5 k) := by decide +kernel
abbrev cX5_init : ByteArray := prog_7_method_1_code
def yX5_init : MethodName := ⟨RX5, "<init>", "()V"⟩
abbrev cX5_drop : ByteArray := prog_7_method_2_code
def yX5_drop : MethodName := ⟨RX5, "drop", "()V"⟩
abbrev cX5_begin : ByteArray := prog_7_method_3_code
def yX5_begin : MethodName := ⟨RX5, "begin", "()V"⟩
abbrev cX5_now : ByteArray := prog_7_method_4_code
def yX5_now : MethodName := ⟨RX5, "now", "()I"⟩
abbrev cX5_addWork : ByteArray := prog_7_method_5_code
def yX5_addWork : MethodName := ⟨RX5, "addWork", "(II)V"⟩
abbrev cX5_add : ByteArray := prog_7_method_6_code
def yX5_add : MethodName := ⟨RX5, "add", "(III)V"⟩
abbrev cX5_follow : ByteArray := prog_7_method_7_code
def yX5_follow : MethodName := ⟨RX5, "follow", "(LOneMachine$Jobs;[IZ)V"⟩
abbrev cX5_total : ByteArray := prog_7_method_8_code
def yX5_total : MethodName := ⟨RX5, "total", "(LOneMachine$Jobs;LOneMachine$Cost;)I"⟩
def RX6 : String := "OneMachine$Preemption"
def TX6 : u_T := fun k => match k with
  | 0 => ("OneMachine$Preemption", "byDue", "[I", true)
  | _ => ("OneMachine$Preemption", "remaining", "[I", true)
def tyX6 : Nat → FieldType := fun k => match k with
  | 0 => .array .int
  | _ => .array .int
abbrev wsX60 : List Cond := u_ws RX6 TX6 2
theorem nmX6 : ∀ a, a < 2 → ∀ b, b < 2 → a ≠ b → (TX6 a).2.1 ≠ (TX6 b).2.1 := by decide +kernel
theorem tyX6_ok : ∀ k, k < 2 → parseFieldDescriptor (TX6 k).2.2.1 = some (tyX6 k) := by decide +kernel
abbrev cX6_init : ByteArray := prog_8_method_1_code
def yX6_init : MethodName := ⟨RX6, "<init>", "()V"⟩
abbrev cX6_make : ByteArray := prog_8_method_2_code
def yX6_make : MethodName := ⟨RX6, "make", "(LOneMachine$Jobs;LOneMachine$Plan;Z)V"⟩
abbrev cX6_isOpen : ByteArray := prog_8_method_3_code
def yX6_isOpen : MethodName := ⟨RX6, "isOpen", "(LOneMachine$Jobs;II)Z"⟩
abbrev cX6_firstByDateAt : ByteArray := prog_8_method_4_code
def yX6_firstByDateAt : MethodName := ⟨RX6, "firstByDateAt", "(LOneMachine$Jobs;I)I"⟩
abbrev cX6_shortestAt : ByteArray := prog_8_method_5_code
def yX6_shortestAt : MethodName := ⟨RX6, "shortestAt", "(LOneMachine$Jobs;I)I"⟩
abbrev cX6_nextRelease : ByteArray := prog_8_method_6_code
def yX6_nextRelease : MethodName := ⟨RX6, "nextRelease", "(LOneMachine$Jobs;I)I"⟩
def RX7 : String := "OneMachine$Rules"
def TX7 : u_T := fun k => match k with
  | 0 => ("OneMachine$Rules", "order", "[I", true)
  | 1 => ("OneMachine$Rules", "byDue", "[I", true)
  | 2 => ("OneMachine$Rules", "dropped", "[I", true)
  | 3 => ("OneMachine$Rules", "mustBeDone", "[I", true)
  | _ => ("OneMachine$Rules", "rest", "[I", true)
def tyX7 : Nat → FieldType := fun k => match k with
  | 0 => .array .int
  | 1 => .array .int
  | 2 => .array .int
  | 3 => .array .int
  | _ => .array .int
abbrev wsX70 : List Cond := u_ws RX7 TX7 5
theorem nmX7 : ∀ a, a < 5 → ∀ b, b < 5 → a ≠ b → (TX7 a).2.1 ≠ (TX7 b).2.1 := by decide +kernel
theorem tyX7_ok : ∀ k, k < 5 → parseFieldDescriptor (TX7 k).2.2.1 = some (tyX7 k) := by decide +kernel
abbrev cX7_init : ByteArray := prog_9_method_1_code
def yX7_init : MethodName := ⟨RX7, "<init>", "()V"⟩
abbrev cX7_orderByDueDates : ByteArray := prog_9_method_2_code
def yX7_orderByDueDates : MethodName := ⟨RX7, "orderByDueDates", "(LOneMachine$Jobs;)V"⟩
abbrev cX7_orderByRatios : ByteArray := prog_9_method_3_code
def yX7_orderByRatios : MethodName := ⟨RX7, "orderByRatios", "(LOneMachine$Jobs;)V"⟩
abbrev cX7_orderWithFewestLate : ByteArray := prog_9_method_4_code
def yX7_orderWithFewestLate : MethodName := ⟨RX7, "orderWithFewestLate", "(LOneMachine$Jobs;)I"⟩
abbrev cX7_longestOf : ByteArray := prog_9_method_5_code
def yX7_longestOf : MethodName := ⟨RX7, "longestOf", "(LOneMachine$Jobs;I)I"⟩
abbrev cX7_putDroppedBehind : ByteArray := prog_9_method_6_code
def yX7_putDroppedBehind : MethodName := ⟨RX7, "putDroppedBehind", "(LOneMachine$Jobs;II)V"⟩
abbrev cX7_orderByTardiness : ByteArray := prog_9_method_7_code
def yX7_orderByTardiness : MethodName := ⟨RX7, "orderByTardiness", "(LOneMachine$Jobs;)V"⟩
abbrev cX7_fillLeastTardiness : ByteArray := prog_9_method_8_code
def yX7_fillLeastTardiness : MethodName := ⟨RX7, "fillLeastTardiness", "(LOneMachine$Jobs;)V"⟩
abbrev cX7_tardinessBy : ByteArray := prog_9_method_9_code
def yX7_tardinessBy : MethodName := ⟨RX7, "tardinessBy", "(LOneMachine$Jobs;III)I"⟩
abbrev cX7_orderByFamilies : ByteArray := prog_9_method_10_code
def yX7_orderByFamilies : MethodName := ⟨RX7, "orderByFamilies", "(LOneMachine$Jobs;)V"⟩
abbrev cX7_fillMustBeDone : ByteArray := prog_9_method_11_code
def yX7_fillMustBeDone : MethodName := ⟨RX7, "fillMustBeDone", "(LOneMachine$Jobs;)V"⟩
abbrev cX7_fillLeastLateness : ByteArray := prog_9_method_12_code
def yX7_fillLeastLateness : MethodName := ⟨RX7, "fillLeastLateness", "(LOneMachine$Jobs;)V"⟩
abbrev cX7_keepsFamilyOrders : ByteArray := prog_9_method_13_code
def yX7_keepsFamilyOrders : MethodName := ⟨RX7, "keepsFamilyOrders", "(LOneMachine$Jobs;I)Z"⟩
abbrev cX7_leastLatenessFrom : ByteArray := prog_9_method_14_code
def yX7_leastLatenessFrom : MethodName := ⟨RX7, "leastLatenessFrom", "(LOneMachine$Jobs;II)I"⟩
abbrev cX7_latenessBy : ByteArray := prog_9_method_15_code
def yX7_latenessBy : MethodName := ⟨RX7, "latenessBy", "(LOneMachine$Jobs;III)I"⟩
abbrev cX7_isNext : ByteArray := prog_9_method_16_code
def yX7_isNext : MethodName := ⟨RX7, "isNext", "(LOneMachine$Jobs;II)Z"⟩
abbrev cX7_state : ByteArray := prog_9_method_17_code
def yX7_state : MethodName := ⟨RX7, "state", "(II)I"⟩
def RX8 : String := "OneMachine$Sets"
def TX8 : u_T := fun k => match k with
  | _ => ("OneMachine$Sets", "byDue", "[I", true)
def tyX8 : Nat → FieldType := fun k => match k with
  | _ => .array .int
abbrev wsX80 : List Cond := u_ws RX8 TX8 1
theorem nmX8 : ∀ a, a < 1 → ∀ b, b < 1 → a ≠ b → (TX8 a).2.1 ≠ (TX8 b).2.1 := by decide +kernel
theorem tyX8_ok : ∀ k, k < 1 → parseFieldDescriptor (TX8 k).2.2.1 = some (tyX8 k) := by decide +kernel
abbrev cX8_init : ByteArray := prog_10_method_1_code
def yX8_init : MethodName := ⟨RX8, "<init>", "()V"⟩
abbrev cX8_isOnTime : ByteArray := prog_10_method_2_code
def yX8_isOnTime : MethodName := ⟨RX8, "isOnTime", "(LOneMachine$Jobs;I)Z"⟩
abbrev cX8_mostOnTime : ByteArray := prog_10_method_3_code
def yX8_mostOnTime : MethodName := ⟨RX8, "mostOnTime", "(LOneMachine$Jobs;)I"⟩
abbrev cX8_isOnTimeByDue : ByteArray := prog_10_method_4_code
def yX8_isOnTimeByDue : MethodName := ⟨RX8, "isOnTimeByDue", "(LOneMachine$Jobs;I)Z"⟩
def RX9 : String := "OneMachine$Way"
def TX9 : u_T := fun k => match k with
  | _ => ("", "", "", false)
def tyX9 : Nat → FieldType := fun k => match k with
  | _ => .int
abbrev wsX90 : List Cond := u_ws RX9 TX9 0
theorem nmX9 : ∀ a, a < 0 → ∀ b, b < 0 → a ≠ b → (TX9 a).2.1 ≠ (TX9 b).2.1 := by decide +kernel
theorem tyX9_ok : ∀ k, k < 0 → parseFieldDescriptor (TX9 k).2.2.1 = some (tyX9 k) := by decide +kernel
def RX10 : String := "OneMachine$Window"
def TX10 : u_T := fun k => match k with
  | 0 => ("OneMachine$Window", "bound", "I", false)
  | 1 => ("OneMachine$Window", "due", "I", false)
  | _ => ("OneMachine$Window", "release", "I", false)
def tyX10 : Nat → FieldType := fun k => match k with
  | 0 => .int
  | 1 => .int
  | _ => .int
abbrev wsX100 : List Cond := u_ws RX10 TX10 3
theorem nmX10 : ∀ a, a < 3 → ∀ b, b < 3 → a ≠ b → (TX10 a).2.1 ≠ (TX10 b).2.1 := by decide +kernel
theorem tyX10_ok : ∀ k, k < 3 → parseFieldDescriptor (TX10 k).2.2.1 = some (tyX10 k) := by decide +kernel
abbrev cX10_init : ByteArray := prog_12_method_1_code
def yX10_init : MethodName := ⟨RX10, "<init>", "()V"⟩
abbrev cX10_findGreatest : ByteArray := prog_12_method_2_code
def yX10_findGreatest : MethodName := ⟨RX10, "findGreatest", "(LOneMachine$Jobs;Z)V"⟩
abbrev cX10_tryWindow : ByteArray := prog_12_method_3_code
def yX10_tryWindow : MethodName := ⟨RX10, "tryWindow", "(LOneMachine$Jobs;ZII)V"⟩
abbrev cX10_isBetter : ByteArray := prog_12_method_4_code
def yX10_isBetter : MethodName := ⟨RX10, "isBetter", "(III)Z"⟩
abbrev cX10_lengthsWithin : ByteArray := prog_12_method_5_code
def yX10_lengthsWithin : MethodName := ⟨RX10, "lengthsWithin", "(LOneMachine$Jobs;ZII)I"⟩
def RX11 : String := "OneMachine"
def TX11 : u_T := fun k => match k with
  | 0 => ("OneMachine", "jobs", "LOneMachine$Jobs;", true)
  | 1 => ("OneMachine", "plan", "LOneMachine$Plan;", true)
  | 2 => ("OneMachine", "rules", "LOneMachine$Rules;", true)
  | 3 => ("OneMachine", "preemption", "LOneMachine$Preemption;", true)
  | 4 => ("OneMachine", "orders", "LOneMachine$Orders;", true)
  | 5 => ("OneMachine", "sets", "LOneMachine$Sets;", true)
  | _ => ("OneMachine", "window", "LOneMachine$Window;", true)
def tyX11 : Nat → FieldType := fun k => match k with
  | 0 => .object "OneMachine$Jobs"
  | 1 => .object "OneMachine$Plan"
  | 2 => .object "OneMachine$Rules"
  | 3 => .object "OneMachine$Preemption"
  | 4 => .object "OneMachine$Orders"
  | 5 => .object "OneMachine$Sets"
  | _ => .object "OneMachine$Window"
abbrev wsX110 : List Cond := u_ws RX11 TX11 7
theorem nmX11 : ∀ a, a < 7 → ∀ b, b < 7 → a ≠ b → (TX11 a).2.1 ≠ (TX11 b).2.1 := by decide +kernel
theorem tyX11_ok : ∀ k, k < 7 → parseFieldDescriptor (TX11 k).2.2.1 = some (tyX11 k) := by decide +kernel
abbrev cX11_init : ByteArray := prog_1_method_1_code
def yX11_init : MethodName := ⟨RX11, "<init>", "()V"⟩
abbrev cX11_addJob : ByteArray := prog_1_method_2_code
def yX11_addJob : MethodName := ⟨RX11, "addJob", "(IIIII)I"⟩
abbrev cX11_changeJob : ByteArray := prog_1_method_3_code
def yX11_changeJob : MethodName := ⟨RX11, "changeJob", "(IIIIII)V"⟩
abbrev cX11_removeJob : ByteArray := prog_1_method_4_code
def yX11_removeJob : MethodName := ⟨RX11, "removeJob", "(I)I"⟩
abbrev cX11_setSetup : ByteArray := prog_1_method_5_code
def yX11_setSetup : MethodName := ⟨RX11, "setSetup", "(II)I"⟩
abbrev cX11_jobs : ByteArray := prog_1_method_6_code
def yX11_jobs : MethodName := ⟨RX11, "jobs", "()I"⟩
abbrev cX11_planByDueDates : ByteArray := prog_1_method_7_code
def yX11_planByDueDates : MethodName := ⟨RX11, "planByDueDates", "()I"⟩
abbrev cX11_planFewestLate : ByteArray := prog_1_method_8_code
def yX11_planFewestLate : MethodName := ⟨RX11, "planFewestLate", "()I"⟩
abbrev cX11_planByRatios : ByteArray := prog_1_method_9_code
def yX11_planByRatios : MethodName := ⟨RX11, "planByRatios", "()I"⟩
abbrev cX11_planLeastTardiness : ByteArray := prog_1_method_10_code
def yX11_planLeastTardiness : MethodName := ⟨RX11, "planLeastTardiness", "()I"⟩
abbrev cX11_planByFamilies : ByteArray := prog_1_method_11_code
def yX11_planByFamilies : MethodName := ⟨RX11, "planByFamilies", "()I"⟩
abbrev cX11_planPreemptiveByDates : ByteArray := prog_1_method_12_code
def yX11_planPreemptiveByDates : MethodName := ⟨RX11, "planPreemptiveByDates", "()I"⟩
abbrev cX11_planPreemptiveShortest : ByteArray := prog_1_method_13_code
def yX11_planPreemptiveShortest : MethodName := ⟨RX11, "planPreemptiveShortest", "()I"⟩
abbrev cX11_hasPlan : ByteArray := prog_1_method_14_code
def yX11_hasPlan : MethodName := ⟨RX11, "hasPlan", "()Z"⟩
abbrev cX11_pieces : ByteArray := prog_1_method_15_code
def yX11_pieces : MethodName := ⟨RX11, "pieces", "()I"⟩
abbrev cX11_kindOf : ByteArray := prog_1_method_16_code
def yX11_kindOf : MethodName := ⟨RX11, "kindOf", "(I)I"⟩
abbrev cX11_whoseIs : ByteArray := prog_1_method_17_code
def yX11_whoseIs : MethodName := ⟨RX11, "whoseIs", "(I)I"⟩
abbrev cX11_startOf : ByteArray := prog_1_method_18_code
def yX11_startOf : MethodName := ⟨RX11, "startOf", "(I)I"⟩
abbrev cX11_endOf : ByteArray := prog_1_method_19_code
def yX11_endOf : MethodName := ⟨RX11, "endOf", "(I)I"⟩
abbrev cX11_completion : ByteArray := prog_1_method_20_code
def yX11_completion : MethodName := ⟨RX11, "completion", "(I)I"⟩
abbrev cX11_lateness : ByteArray := prog_1_method_21_code
def yX11_lateness : MethodName := ⟨RX11, "lateness", "(I)I"⟩
abbrev cX11_maxLateness : ByteArray := prog_1_method_22_code
def yX11_maxLateness : MethodName := ⟨RX11, "maxLateness", "()I"⟩
abbrev cX11_lateJobs : ByteArray := prog_1_method_23_code
def yX11_lateJobs : MethodName := ⟨RX11, "lateJobs", "()I"⟩
abbrev cX11_completions : ByteArray := prog_1_method_24_code
def yX11_completions : MethodName := ⟨RX11, "completions", "()I"⟩
abbrev cX11_weightedCompletions : ByteArray := prog_1_method_25_code
def yX11_weightedCompletions : MethodName := ⟨RX11, "weightedCompletions", "()I"⟩
abbrev cX11_weightedTardiness : ByteArray := prog_1_method_26_code
def yX11_weightedTardiness : MethodName := ⟨RX11, "weightedTardiness", "()I"⟩
abbrev cX11_leastLateness : ByteArray := prog_1_method_27_code
def yX11_leastLateness : MethodName := ⟨RX11, "leastLateness", "()I"⟩
abbrev cX11_leastCompletions : ByteArray := prog_1_method_28_code
def yX11_leastCompletions : MethodName := ⟨RX11, "leastCompletions", "()I"⟩
abbrev cX11_leastTardiness : ByteArray := prog_1_method_29_code
def yX11_leastTardiness : MethodName := ⟨RX11, "leastTardiness", "()I"⟩
abbrev cX11_leastWithSetups : ByteArray := prog_1_method_30_code
def yX11_leastWithSetups : MethodName := ⟨RX11, "leastWithSetups", "()I"⟩
abbrev cX11_leastPreemptiveLateness : ByteArray := prog_1_method_31_code
def yX11_leastPreemptiveLateness : MethodName := ⟨RX11, "leastPreemptiveLateness", "()I"⟩
abbrev cX11_leastPreemptiveCompletions : ByteArray := prog_1_method_32_code
def yX11_leastPreemptiveCompletions : MethodName := ⟨RX11, "leastPreemptiveCompletions", "()I"⟩
abbrev cX11_canBeOnTime : ByteArray := prog_1_method_33_code
def yX11_canBeOnTime : MethodName := ⟨RX11, "canBeOnTime", "(I)Z"⟩
abbrev cX11_fewestLateBySets : ByteArray := prog_1_method_34_code
def yX11_fewestLateBySets : MethodName := ⟨RX11, "fewestLateBySets", "()I"⟩
abbrev cX11_windowBound : ByteArray := prog_1_method_35_code
def yX11_windowBound : MethodName := ⟨RX11, "windowBound", "(Z)I"⟩
abbrev cX11_windowDue : ByteArray := prog_1_method_36_code
def yX11_windowDue : MethodName := ⟨RX11, "windowDue", "()I"⟩
abbrev cX11_windowRelease : ByteArray := prog_1_method_37_code
def yX11_windowRelease : MethodName := ⟨RX11, "windowRelease", "()I"⟩
abbrev cX11_isWithin : ByteArray := prog_1_method_38_code
def yX11_isWithin : MethodName := ⟨RX11, "isWithin", "(III)Z"⟩
abbrev cX11_needJobInRange : ByteArray := prog_1_method_39_code
def yX11_needJobInRange : MethodName := ⟨RX11, "needJobInRange", "(IIIII)V"⟩
abbrev cX11_needJob : ByteArray := prog_1_method_40_code
def yX11_needJob : MethodName := ⟨RX11, "needJob", "(I)V"⟩
abbrev cX11_needPiece : ByteArray := prog_1_method_41_code
def yX11_needPiece : MethodName := ⟨RX11, "needPiece", "(I)V"⟩
abbrev cX11_needPlan : ByteArray := prog_1_method_42_code
def yX11_needPlan : MethodName := ⟨RX11, "needPlan", "()V"⟩
abbrev cX11_needSomeJob : ByteArray := prog_1_method_43_code
def yX11_needSomeJob : MethodName := ⟨RX11, "needSomeJob", "()V"⟩
abbrev cX11_needFewJobs : ByteArray := prog_1_method_44_code
def yX11_needFewJobs : MethodName := ⟨RX11, "needFewJobs", "()V"⟩
def RX12 : String := "OneMachineModel"
def TX12 : u_T := fun k => match k with
  | _ => ("", "", "", false)
def tyX12 : Nat → FieldType := fun k => match k with
  | _ => .int
abbrev wsX120 : List Cond := u_ws RX12 TX12 0
theorem nmX12 : ∀ a, a < 0 → ∀ b, b < 0 → a ≠ b → (TX12 a).2.1 ≠ (TX12 b).2.1 := by decide +kernel
theorem tyX12_ok : ∀ k, k < 0 → parseFieldDescriptor (TX12 k).2.2.1 = some (tyX12 k) := by decide +kernel
def RJx29ce0 : String := "java/lang/Enum"
def TJx29ce0 : u_T := fun k => match k with
  | _ => ("", "", "", false)
def tyJx29ce0 : Nat → FieldType := fun k => match k with
  | _ => .int
abbrev cJx29ce0_ordinal_8abf5 : ByteArray := prog_15_method_2_code
def yJx29ce0_ordinal_8abf5 : MethodName := ⟨RJx29ce0, "ordinal", "()I"⟩
def RJ6 : String := "java/lang/Integer"
def TJ6 : u_T := fun k => match k with
  | _ => ("", "", "", false)
def tyJ6 : Nat → FieldType := fun k => match k with
  | _ => .int
abbrev cJ6_bitCount_0f7a4 : ByteArray := prog_20_method_49_code
def yJ6_bitCount_0f7a4 : MethodName := ⟨RJ6, "bitCount", "(I)I"⟩
def RJ9 : String := "java/lang/Math"
def TJ9 : u_T := fun k => match k with
  | _ => ("", "", "", false)
def tyJ9 : Nat → FieldType := fun k => match k with
  | _ => .int
abbrev cJ9_max_7cf53 : ByteArray := prog_21_method_65_code
def yJ9_max_7cf53 : MethodName := ⟨RJ9, "max", "(II)I"⟩
abbrev cJ9_min_7cf53 : ByteArray := prog_21_method_69_code
def yJ9_min_7cf53 : MethodName := ⟨RJ9, "min", "(II)I"⟩
def RJ0 : String := "java/lang/String"
def TJ0 : u_T := fun k => match k with
  | _ => ("", "", "", false)
def tyJ0 : Nat → FieldType := fun k => match k with
  | _ => .int
def RJ10 : String := "java/lang/System"
def TJ10 : u_T := fun k => match k with
  | _ => ("", "", "", false)
def tyJ10 : Nat → FieldType := fun k => match k with
  | _ => .int
def RL : String := "OneMachineLaw"
abbrev cL_draw : ByteArray := method_2_code
def yL_draw : MethodName := ⟨RL, "draw", "([II)I"⟩
abbrev cL_step : ByteArray := method_3_code
def yL_step : MethodName := ⟨RL, "step", "(LOneMachine;[IIII)Z"⟩
abbrev cL_tells : ByteArray := method_4_code
def yL_tells : MethodName := ⟨RL, "tells", "([IIII)V"⟩
abbrev cL_plans : ByteArray := method_5_code
def yL_plans : MethodName := ⟨RL, "plans", "(LOneMachine;I)I"⟩
abbrev cL_told : ByteArray := method_6_code
def yL_told : MethodName := ⟨RL, "told", "(LOneMachine;I)I"⟩
abbrev cL_isBest : ByteArray := method_7_code
def yL_isBest : MethodName := ⟨RL, "isBest", "(LOneMachine;II)Z"⟩
abbrev cL_isPlan : ByteArray := method_8_code
def yL_isPlan : MethodName := ⟨RL, "isPlan", "(LOneMachine;[II)Z"⟩
abbrev cL_areJobs : ByteArray := method_9_code
def yL_areJobs : MethodName := ⟨RL, "areJobs", "(LOneMachine;[I)Z"⟩
abbrev cL_isWindow : ByteArray := method_10_code
def yL_isWindow : MethodName := ⟨RL, "isWindow", "(LOneMachine;[I)Z"⟩
abbrev cL_law : ByteArray := code
def yL_law : MethodName := ⟨RL, "law", "([I)Z"⟩
abbrev vwCl : List vw_C := [(RX2, TX2, 7), (RX4, TX4, 4), (RX5, TX5, 6), (RX6, TX6, 2), (RX7, TX7, 5), (RX8, TX8, 1), (RX10, TX10, 3), (RX11, TX11, 7)]
