section
-- ===== PART A: goes FIRST, ahead of the names: the tables' words, and 'selects' of the private methods out of them =====
/-- a private method of a class that the tables say can be made, by its rows of tables_1 -/
def lw_okq (q : MethodName × Nat) : Prop := (q.1.cls ≠ "java/lang/invoke/MethodHandle" ∧ q.1.cls ≠ "java/lang/invoke/VarHandle") ∧ Cond.instantiable q.1.cls q.2 ∈ tables_1 ∧ Cond.privateMethod q.1 ∈ tables_1 ∧ Cond.instanceMethod q.1 ∈ tables_1
theorem lw_p0 : lw_okq (⟨"DurableLoom", "typeAt", "(I)LDurableLoom$Type;"⟩, 18) := ⟨⟨by decide +kernel, by decide +kernel⟩, List.mem_of_getElem? (i := 30) (by decide +kernel), List.mem_of_getElem? (i := 411) (by decide +kernel), List.mem_of_getElem? (i := 412) (by decide +kernel)⟩
theorem lw_p1 : lw_okq (⟨"java/lang/Throwable", "fillInStackTrace", "(I)Ljava/lang/Throwable;"⟩, 6) := ⟨⟨by decide +kernel, by decide +kernel⟩, List.mem_of_getElem? (i := 453) (by decide +kernel), List.mem_of_getElem? (i := 451) (by decide +kernel), List.mem_of_getElem? (i := 452) (by decide +kernel)⟩
theorem lw_p2 : lw_okq (⟨"java/util/ArrayList", "add", "(Ljava/lang/Object;[Ljava/lang/Object;I)V"⟩, 3) := ⟨⟨by decide +kernel, by decide +kernel⟩, List.mem_of_getElem? (i := 42) (by decide +kernel), List.mem_of_getElem? (i := 545) (by decide +kernel), List.mem_of_getElem? (i := 546) (by decide +kernel)⟩
theorem lw_p3 : lw_okq (⟨"java/util/ArrayList", "grow", "()[Ljava/lang/Object;"⟩, 3) := ⟨⟨by decide +kernel, by decide +kernel⟩, List.mem_of_getElem? (i := 42) (by decide +kernel), List.mem_of_getElem? (i := 549) (by decide +kernel), List.mem_of_getElem? (i := 550) (by decide +kernel)⟩
theorem lw_p4 : lw_okq (⟨"java/util/ArrayList", "grow", "(I)[Ljava/lang/Object;"⟩, 3) := ⟨⟨by decide +kernel, by decide +kernel⟩, List.mem_of_getElem? (i := 42) (by decide +kernel), List.mem_of_getElem? (i := 553) (by decide +kernel), List.mem_of_getElem? (i := 554) (by decide +kernel)⟩
theorem lw_p5 : lw_okq (⟨"DurableLoom", "kindAt", "(I)LDurableLoom$Kind;"⟩, 18) := ⟨⟨by decide +kernel, by decide +kernel⟩, List.mem_of_getElem? (i := 30) (by decide +kernel), List.mem_of_getElem? (i := 612) (by decide +kernel), List.mem_of_getElem? (i := 613) (by decide +kernel)⟩
theorem lw_p6 : lw_okq (⟨"DurableLoom", "checkTenant", "(I)V"⟩, 18) := ⟨⟨by decide +kernel, by decide +kernel⟩, List.mem_of_getElem? (i := 30) (by decide +kernel), List.mem_of_getElem? (i := 634) (by decide +kernel), List.mem_of_getElem? (i := 635) (by decide +kernel)⟩
theorem lw_p7 : lw_okq (⟨"DurableLoom", "checkValue", "(I)V"⟩, 18) := ⟨⟨by decide +kernel, by decide +kernel⟩, List.mem_of_getElem? (i := 30) (by decide +kernel), List.mem_of_getElem? (i := 639) (by decide +kernel), List.mem_of_getElem? (i := 640) (by decide +kernel)⟩
theorem lw_p8 : lw_okq (⟨"DurableLoom", "startRun", "(IIIII)LDurableLoom$Run;"⟩, 18) := ⟨⟨by decide +kernel, by decide +kernel⟩, List.mem_of_getElem? (i := 30) (by decide +kernel), List.mem_of_getElem? (i := 649) (by decide +kernel), List.mem_of_getElem? (i := 650) (by decide +kernel)⟩
theorem lw_p9 : lw_okq (⟨"DurableLoom", "addRun", "(IIIII)LDurableLoom$Run;"⟩, 18) := ⟨⟨by decide +kernel, by decide +kernel⟩, List.mem_of_getElem? (i := 30) (by decide +kernel), List.mem_of_getElem? (i := 656) (by decide +kernel), List.mem_of_getElem? (i := 657) (by decide +kernel)⟩
theorem lw_p10 : lw_okq (⟨"DurableLoom", "arrive", "(LDurableLoom$Run;III)V"⟩, 18) := ⟨⟨by decide +kernel, by decide +kernel⟩, List.mem_of_getElem? (i := 30) (by decide +kernel), List.mem_of_getElem? (i := 756) (by decide +kernel), List.mem_of_getElem? (i := 757) (by decide +kernel)⟩
theorem lw_p11 : lw_okq (⟨"DurableLoom", "runAt", "(I)LDurableLoom$Run;"⟩, 18) := ⟨⟨by decide +kernel, by decide +kernel⟩, List.mem_of_getElem? (i := 30) (by decide +kernel), List.mem_of_getElem? (i := 775) (by decide +kernel), List.mem_of_getElem? (i := 776) (by decide +kernel)⟩
theorem lw_p12 : lw_okq (⟨"DurableLoom", "checkName", "(I)V"⟩, 18) := ⟨⟨by decide +kernel, by decide +kernel⟩, List.mem_of_getElem? (i := 30) (by decide +kernel), List.mem_of_getElem? (i := 794) (by decide +kernel), List.mem_of_getElem? (i := 795) (by decide +kernel)⟩
theorem lw_p13 : lw_okq (⟨"DurableLoom", "codeOf", "(LDurableLoom$Run;I)LDurableLoom$Row;"⟩, 18) := ⟨⟨by decide +kernel, by decide +kernel⟩, List.mem_of_getElem? (i := 30) (by decide +kernel), List.mem_of_getElem? (i := 812) (by decide +kernel), List.mem_of_getElem? (i := 813) (by decide +kernel)⟩
theorem lw_p14 : lw_okq (⟨"DurableLoom", "typeOf", "(LDurableLoom$Run;)LDurableLoom$Type;"⟩, 18) := ⟨⟨by decide +kernel, by decide +kernel⟩, List.mem_of_getElem? (i := 30) (by decide +kernel), List.mem_of_getElem? (i := 816) (by decide +kernel), List.mem_of_getElem? (i := 817) (by decide +kernel)⟩
theorem lw_p15 : lw_okq (⟨"DurableLoom$Machine", "load", "(LDurableLoom$Run;LDurableLoom$Row;I)V"⟩, 12) := ⟨⟨by decide +kernel, by decide +kernel⟩, List.mem_of_getElem? (i := 92) (by decide +kernel), List.mem_of_getElem? (i := 830) (by decide +kernel), List.mem_of_getElem? (i := 831) (by decide +kernel)⟩
def lw_privs_1 : List (MethodName × Nat) := [(⟨"DurableLoom", "typeAt", "(I)LDurableLoom$Type;"⟩, 18), (⟨"java/lang/Throwable", "fillInStackTrace", "(I)Ljava/lang/Throwable;"⟩, 6), (⟨"java/util/ArrayList", "add", "(Ljava/lang/Object;[Ljava/lang/Object;I)V"⟩, 3), (⟨"java/util/ArrayList", "grow", "()[Ljava/lang/Object;"⟩, 3), (⟨"java/util/ArrayList", "grow", "(I)[Ljava/lang/Object;"⟩, 3), (⟨"DurableLoom", "kindAt", "(I)LDurableLoom$Kind;"⟩, 18), (⟨"DurableLoom", "checkTenant", "(I)V"⟩, 18), (⟨"DurableLoom", "checkValue", "(I)V"⟩, 18), (⟨"DurableLoom", "startRun", "(IIIII)LDurableLoom$Run;"⟩, 18), (⟨"DurableLoom", "addRun", "(IIIII)LDurableLoom$Run;"⟩, 18), (⟨"DurableLoom", "arrive", "(LDurableLoom$Run;III)V"⟩, 18), (⟨"DurableLoom", "runAt", "(I)LDurableLoom$Run;"⟩, 18), (⟨"DurableLoom", "checkName", "(I)V"⟩, 18), (⟨"DurableLoom", "codeOf", "(LDurableLoom$Run;I)LDurableLoom$Row;"⟩, 18), (⟨"DurableLoom", "typeOf", "(LDurableLoom$Run;)LDurableLoom$Type;"⟩, 18), (⟨"DurableLoom$Machine", "load", "(LDurableLoom$Run;LDurableLoom$Row;I)V"⟩, 12)]
theorem lw_r1 : ∀ q ∈ lw_privs_1, lw_okq q := List.forall_mem_cons.mpr ⟨lw_p0, List.forall_mem_cons.mpr ⟨lw_p1, List.forall_mem_cons.mpr ⟨lw_p2, List.forall_mem_cons.mpr ⟨lw_p3, List.forall_mem_cons.mpr ⟨lw_p4, List.forall_mem_cons.mpr ⟨lw_p5, List.forall_mem_cons.mpr ⟨lw_p6, List.forall_mem_cons.mpr ⟨lw_p7, List.forall_mem_cons.mpr ⟨lw_p8, List.forall_mem_cons.mpr ⟨lw_p9, List.forall_mem_cons.mpr ⟨lw_p10, List.forall_mem_cons.mpr ⟨lw_p11, List.forall_mem_cons.mpr ⟨lw_p12, List.forall_mem_cons.mpr ⟨lw_p13, List.forall_mem_cons.mpr ⟨lw_p14, List.forall_mem_cons.mpr ⟨lw_p15, fun _ h => absurd h List.not_mem_nil⟩⟩⟩⟩⟩⟩⟩⟩⟩⟩⟩⟩⟩⟩⟩⟩
theorem lw_p16 : lw_okq (⟨"DurableLoom$History", "countAgain", "()V"⟩, 5) := ⟨⟨by decide +kernel, by decide +kernel⟩, List.mem_of_getElem? (i := 218) (by decide +kernel), List.mem_of_getElem? (i := 862) (by decide +kernel), List.mem_of_getElem? (i := 863) (by decide +kernel)⟩
theorem lw_p17 : lw_okq (⟨"DurableLoom$Machine", "goes", "()Z"⟩, 12) := ⟨⟨by decide +kernel, by decide +kernel⟩, List.mem_of_getElem? (i := 92) (by decide +kernel), List.mem_of_getElem? (i := 878) (by decide +kernel), List.mem_of_getElem? (i := 879) (by decide +kernel)⟩
theorem lw_p18 : lw_okq (⟨"DurableLoom$Machine", "note", "(III)V"⟩, 12) := ⟨⟨by decide +kernel, by decide +kernel⟩, List.mem_of_getElem? (i := 92) (by decide +kernel), List.mem_of_getElem? (i := 894) (by decide +kernel), List.mem_of_getElem? (i := 895) (by decide +kernel)⟩
theorem lw_p19 : lw_okq (⟨"DurableLoom$Machine", "tellCancel", "()V"⟩, 12) := ⟨⟨by decide +kernel, by decide +kernel⟩, List.mem_of_getElem? (i := 92) (by decide +kernel), List.mem_of_getElem? (i := 916) (by decide +kernel), List.mem_of_getElem? (i := 917) (by decide +kernel)⟩
theorem lw_p20 : lw_okq (⟨"DurableLoom$Machine", "command", "(III)I"⟩, 12) := ⟨⟨by decide +kernel, by decide +kernel⟩, List.mem_of_getElem? (i := 92) (by decide +kernel), List.mem_of_getElem? (i := 928) (by decide +kernel), List.mem_of_getElem? (i := 929) (by decide +kernel)⟩
theorem lw_p21 : lw_okq (⟨"DurableLoom$Machine", "seen", "()I"⟩, 12) := ⟨⟨by decide +kernel, by decide +kernel⟩, List.mem_of_getElem? (i := 92) (by decide +kernel), List.mem_of_getElem? (i := 937) (by decide +kernel), List.mem_of_getElem? (i := 938) (by decide +kernel)⟩
theorem lw_p22 : lw_okq (⟨"DurableLoom$Machine", "getStuck", "(I)V"⟩, 12) := ⟨⟨by decide +kernel, by decide +kernel⟩, List.mem_of_getElem? (i := 92) (by decide +kernel), List.mem_of_getElem? (i := 945) (by decide +kernel), List.mem_of_getElem? (i := 946) (by decide +kernel)⟩
theorem lw_p23 : lw_okq (⟨"DurableLoom$Machine", "failBranch", "(LDurableLoom$Branch;)V"⟩, 12) := ⟨⟨by decide +kernel, by decide +kernel⟩, List.mem_of_getElem? (i := 92) (by decide +kernel), List.mem_of_getElem? (i := 954) (by decide +kernel), List.mem_of_getElem? (i := 955) (by decide +kernel)⟩
theorem lw_p24 : lw_okq (⟨"DurableLoom$Machine", "noteFailure", "(LDurableLoom$Branch;)V"⟩, 12) := ⟨⟨by decide +kernel, by decide +kernel⟩, List.mem_of_getElem? (i := 92) (by decide +kernel), List.mem_of_getElem? (i := 977) (by decide +kernel), List.mem_of_getElem? (i := 978) (by decide +kernel)⟩
theorem lw_p25 : lw_okq (⟨"DurableLoom$Machine", "noteEnd", "(LDurableLoom$Branch;II)V"⟩, 12) := ⟨⟨by decide +kernel, by decide +kernel⟩, List.mem_of_getElem? (i := 92) (by decide +kernel), List.mem_of_getElem? (i := 981) (by decide +kernel), List.mem_of_getElem? (i := 982) (by decide +kernel)⟩
theorem lw_p26 : lw_okq (⟨"DurableLoom$Machine", "goOn", "()V"⟩, 12) := ⟨⟨by decide +kernel, by decide +kernel⟩, List.mem_of_getElem? (i := 92) (by decide +kernel), List.mem_of_getElem? (i := 990) (by decide +kernel), List.mem_of_getElem? (i := 991) (by decide +kernel)⟩
theorem lw_p27 : lw_okq (⟨"DurableLoom$State", "isAble", "(LDurableLoom$Branch;)Z"⟩, 14) := ⟨⟨by decide +kernel, by decide +kernel⟩, List.mem_of_getElem? (i := 98) (by decide +kernel), List.mem_of_getElem? (i := 998) (by decide +kernel), List.mem_of_getElem? (i := 999) (by decide +kernel)⟩
theorem lw_p28 : lw_okq (⟨"DurableLoom$State", "isParent", "(I)Z"⟩, 14) := ⟨⟨by decide +kernel, by decide +kernel⟩, List.mem_of_getElem? (i := 98) (by decide +kernel), List.mem_of_getElem? (i := 1003) (by decide +kernel), List.mem_of_getElem? (i := 1004) (by decide +kernel)⟩
theorem lw_p29 : lw_okq (⟨"DurableLoom$Machine", "awake", "(LDurableLoom$Branch;)V"⟩, 12) := ⟨⟨by decide +kernel, by decide +kernel⟩, List.mem_of_getElem? (i := 92) (by decide +kernel), List.mem_of_getElem? (i := 1007) (by decide +kernel), List.mem_of_getElem? (i := 1008) (by decide +kernel)⟩
theorem lw_p30 : lw_okq (⟨"DurableLoom$Row", "put", "(IJ)V"⟩, 3) := ⟨⟨by decide +kernel, by decide +kernel⟩, List.mem_of_getElem? (i := 68) (by decide +kernel), List.mem_of_getElem? (i := 1015) (by decide +kernel), List.mem_of_getElem? (i := 1016) (by decide +kernel)⟩
theorem lw_p31 : lw_okq (⟨"DurableLoom$Machine", "endBranch", "(LDurableLoom$Branch;)V"⟩, 12) := ⟨⟨by decide +kernel, by decide +kernel⟩, List.mem_of_getElem? (i := 92) (by decide +kernel), List.mem_of_getElem? (i := 1019) (by decide +kernel), List.mem_of_getElem? (i := 1020) (by decide +kernel)⟩
def lw_privs_2 : List (MethodName × Nat) := [(⟨"DurableLoom$History", "countAgain", "()V"⟩, 5), (⟨"DurableLoom$Machine", "goes", "()Z"⟩, 12), (⟨"DurableLoom$Machine", "note", "(III)V"⟩, 12), (⟨"DurableLoom$Machine", "tellCancel", "()V"⟩, 12), (⟨"DurableLoom$Machine", "command", "(III)I"⟩, 12), (⟨"DurableLoom$Machine", "seen", "()I"⟩, 12), (⟨"DurableLoom$Machine", "getStuck", "(I)V"⟩, 12), (⟨"DurableLoom$Machine", "failBranch", "(LDurableLoom$Branch;)V"⟩, 12), (⟨"DurableLoom$Machine", "noteFailure", "(LDurableLoom$Branch;)V"⟩, 12), (⟨"DurableLoom$Machine", "noteEnd", "(LDurableLoom$Branch;II)V"⟩, 12), (⟨"DurableLoom$Machine", "goOn", "()V"⟩, 12), (⟨"DurableLoom$State", "isAble", "(LDurableLoom$Branch;)Z"⟩, 14), (⟨"DurableLoom$State", "isParent", "(I)Z"⟩, 14), (⟨"DurableLoom$Machine", "awake", "(LDurableLoom$Branch;)V"⟩, 12), (⟨"DurableLoom$Row", "put", "(IJ)V"⟩, 3), (⟨"DurableLoom$Machine", "endBranch", "(LDurableLoom$Branch;)V"⟩, 12)]
theorem lw_r2 : ∀ q ∈ lw_privs_2, lw_okq q := List.forall_mem_cons.mpr ⟨lw_p16, List.forall_mem_cons.mpr ⟨lw_p17, List.forall_mem_cons.mpr ⟨lw_p18, List.forall_mem_cons.mpr ⟨lw_p19, List.forall_mem_cons.mpr ⟨lw_p20, List.forall_mem_cons.mpr ⟨lw_p21, List.forall_mem_cons.mpr ⟨lw_p22, List.forall_mem_cons.mpr ⟨lw_p23, List.forall_mem_cons.mpr ⟨lw_p24, List.forall_mem_cons.mpr ⟨lw_p25, List.forall_mem_cons.mpr ⟨lw_p26, List.forall_mem_cons.mpr ⟨lw_p27, List.forall_mem_cons.mpr ⟨lw_p28, List.forall_mem_cons.mpr ⟨lw_p29, List.forall_mem_cons.mpr ⟨lw_p30, List.forall_mem_cons.mpr ⟨lw_p31, fun _ h => absurd h List.not_mem_nil⟩⟩⟩⟩⟩⟩⟩⟩⟩⟩⟩⟩⟩⟩⟩⟩
theorem lw_p32 : lw_okq (⟨"DurableLoom$Machine", "doPlainLine", "(LDurableLoom$Branch;III)V"⟩, 12) := ⟨⟨by decide +kernel, by decide +kernel⟩, List.mem_of_getElem? (i := 92) (by decide +kernel), List.mem_of_getElem? (i := 1032) (by decide +kernel), List.mem_of_getElem? (i := 1033) (by decide +kernel)⟩
theorem lw_p33 : lw_okq (⟨"DurableLoom$Machine", "doBranchLine", "(LDurableLoom$Branch;II)V"⟩, 12) := ⟨⟨by decide +kernel, by decide +kernel⟩, List.mem_of_getElem? (i := 92) (by decide +kernel), List.mem_of_getElem? (i := 1040) (by decide +kernel), List.mem_of_getElem? (i := 1041) (by decide +kernel)⟩
theorem lw_p34 : lw_okq (⟨"DurableLoom$Machine", "beginBelow", "(LDurableLoom$Branch;I)LDurableLoom$Branch;"⟩, 12) := ⟨⟨by decide +kernel, by decide +kernel⟩, List.mem_of_getElem? (i := 92) (by decide +kernel), List.mem_of_getElem? (i := 1044) (by decide +kernel), List.mem_of_getElem? (i := 1045) (by decide +kernel)⟩
theorem lw_p35 : lw_okq (⟨"DurableLoom$Machine", "race", "(LDurableLoom$Branch;LDurableLoom$Branch;)V"⟩, 12) := ⟨⟨by decide +kernel, by decide +kernel⟩, List.mem_of_getElem? (i := 92) (by decide +kernel), List.mem_of_getElem? (i := 1052) (by decide +kernel), List.mem_of_getElem? (i := 1053) (by decide +kernel)⟩
theorem lw_p36 : lw_okq (⟨"DurableLoom$Machine", "win", "(LDurableLoom$Branch;)V"⟩, 12) := ⟨⟨by decide +kernel, by decide +kernel⟩, List.mem_of_getElem? (i := 92) (by decide +kernel), List.mem_of_getElem? (i := 1056) (by decide +kernel), List.mem_of_getElem? (i := 1057) (by decide +kernel)⟩
theorem lw_p37 : lw_okq (⟨"DurableLoom$Machine", "dropDoomed", "()V"⟩, 12) := ⟨⟨by decide +kernel, by decide +kernel⟩, List.mem_of_getElem? (i := 92) (by decide +kernel), List.mem_of_getElem? (i := 1065) (by decide +kernel), List.mem_of_getElem? (i := 1066) (by decide +kernel)⟩
theorem lw_p38 : lw_okq (⟨"DurableLoom$Machine", "doEndingLine", "(LDurableLoom$Branch;III)V"⟩, 12) := ⟨⟨by decide +kernel, by decide +kernel⟩, List.mem_of_getElem? (i := 92) (by decide +kernel), List.mem_of_getElem? (i := 1074) (by decide +kernel), List.mem_of_getElem? (i := 1075) (by decide +kernel)⟩
theorem lw_p39 : lw_okq (⟨"DurableLoom$Machine", "undo", "(LDurableLoom$Branch;)V"⟩, 12) := ⟨⟨by decide +kernel, by decide +kernel⟩, List.mem_of_getElem? (i := 92) (by decide +kernel), List.mem_of_getElem? (i := 1078) (by decide +kernel), List.mem_of_getElem? (i := 1079) (by decide +kernel)⟩
theorem lw_p40 : lw_okq (⟨"DurableLoom$Machine", "doOtherLine", "(LDurableLoom$Branch;III)V"⟩, 12) := ⟨⟨by decide +kernel, by decide +kernel⟩, List.mem_of_getElem? (i := 92) (by decide +kernel), List.mem_of_getElem? (i := 1082) (by decide +kernel), List.mem_of_getElem? (i := 1083) (by decide +kernel)⟩
theorem lw_p41 : lw_okq (⟨"DurableLoom$Machine", "patch", "(I)Z"⟩, 12) := ⟨⟨by decide +kernel, by decide +kernel⟩, List.mem_of_getElem? (i := 92) (by decide +kernel), List.mem_of_getElem? (i := 1086) (by decide +kernel), List.mem_of_getElem? (i := 1087) (by decide +kernel)⟩
theorem lw_p42 : lw_okq (⟨"DurableLoom$Machine", "passTasks", "()V"⟩, 12) := ⟨⟨by decide +kernel, by decide +kernel⟩, List.mem_of_getElem? (i := 92) (by decide +kernel), List.mem_of_getElem? (i := 1099) (by decide +kernel), List.mem_of_getElem? (i := 1100) (by decide +kernel)⟩
theorem lw_p43 : lw_okq (⟨"DurableLoom", "cancelRun", "(LDurableLoom$Run;)Z"⟩, 18) := ⟨⟨by decide +kernel, by decide +kernel⟩, List.mem_of_getElem? (i := 30) (by decide +kernel), List.mem_of_getElem? (i := 1123) (by decide +kernel), List.mem_of_getElem? (i := 1124) (by decide +kernel)⟩
theorem lw_p44 : lw_okq (⟨"DurableLoom", "checkVariable", "(I)V"⟩, 18) := ⟨⟨by decide +kernel, by decide +kernel⟩, List.mem_of_getElem? (i := 30) (by decide +kernel), List.mem_of_getElem? (i := 1138) (by decide +kernel), List.mem_of_getElem? (i := 1139) (by decide +kernel)⟩
theorem lw_p45 : lw_okq (⟨"DurableLoom", "checkWorker", "(I)V"⟩, 18) := ⟨⟨by decide +kernel, by decide +kernel⟩, List.mem_of_getElem? (i := 30) (by decide +kernel), List.mem_of_getElem? (i := 1194) (by decide +kernel), List.mem_of_getElem? (i := 1195) (by decide +kernel)⟩
theorem lw_p46 : lw_okq (⟨"DurableLoom", "firstRunWithWork", "(I)LDurableLoom$Run;"⟩, 18) := ⟨⟨by decide +kernel, by decide +kernel⟩, List.mem_of_getElem? (i := 30) (by decide +kernel), List.mem_of_getElem? (i := 1199) (by decide +kernel), List.mem_of_getElem? (i := 1200) (by decide +kernel)⟩
theorem lw_p47 : lw_okq (⟨"DurableLoom", "isHeld", "(LDurableLoom$Run;)Z"⟩, 18) := ⟨⟨by decide +kernel, by decide +kernel⟩, List.mem_of_getElem? (i := 30) (by decide +kernel), List.mem_of_getElem? (i := 1207) (by decide +kernel), List.mem_of_getElem? (i := 1208) (by decide +kernel)⟩
def lw_privs_3 : List (MethodName × Nat) := [(⟨"DurableLoom$Machine", "doPlainLine", "(LDurableLoom$Branch;III)V"⟩, 12), (⟨"DurableLoom$Machine", "doBranchLine", "(LDurableLoom$Branch;II)V"⟩, 12), (⟨"DurableLoom$Machine", "beginBelow", "(LDurableLoom$Branch;I)LDurableLoom$Branch;"⟩, 12), (⟨"DurableLoom$Machine", "race", "(LDurableLoom$Branch;LDurableLoom$Branch;)V"⟩, 12), (⟨"DurableLoom$Machine", "win", "(LDurableLoom$Branch;)V"⟩, 12), (⟨"DurableLoom$Machine", "dropDoomed", "()V"⟩, 12), (⟨"DurableLoom$Machine", "doEndingLine", "(LDurableLoom$Branch;III)V"⟩, 12), (⟨"DurableLoom$Machine", "undo", "(LDurableLoom$Branch;)V"⟩, 12), (⟨"DurableLoom$Machine", "doOtherLine", "(LDurableLoom$Branch;III)V"⟩, 12), (⟨"DurableLoom$Machine", "patch", "(I)Z"⟩, 12), (⟨"DurableLoom$Machine", "passTasks", "()V"⟩, 12), (⟨"DurableLoom", "cancelRun", "(LDurableLoom$Run;)Z"⟩, 18), (⟨"DurableLoom", "checkVariable", "(I)V"⟩, 18), (⟨"DurableLoom", "checkWorker", "(I)V"⟩, 18), (⟨"DurableLoom", "firstRunWithWork", "(I)LDurableLoom$Run;"⟩, 18), (⟨"DurableLoom", "isHeld", "(LDurableLoom$Run;)Z"⟩, 18)]
theorem lw_r3 : ∀ q ∈ lw_privs_3, lw_okq q := List.forall_mem_cons.mpr ⟨lw_p32, List.forall_mem_cons.mpr ⟨lw_p33, List.forall_mem_cons.mpr ⟨lw_p34, List.forall_mem_cons.mpr ⟨lw_p35, List.forall_mem_cons.mpr ⟨lw_p36, List.forall_mem_cons.mpr ⟨lw_p37, List.forall_mem_cons.mpr ⟨lw_p38, List.forall_mem_cons.mpr ⟨lw_p39, List.forall_mem_cons.mpr ⟨lw_p40, List.forall_mem_cons.mpr ⟨lw_p41, List.forall_mem_cons.mpr ⟨lw_p42, List.forall_mem_cons.mpr ⟨lw_p43, List.forall_mem_cons.mpr ⟨lw_p44, List.forall_mem_cons.mpr ⟨lw_p45, List.forall_mem_cons.mpr ⟨lw_p46, List.forall_mem_cons.mpr ⟨lw_p47, fun _ h => absurd h List.not_mem_nil⟩⟩⟩⟩⟩⟩⟩⟩⟩⟩⟩⟩⟩⟩⟩⟩
theorem lw_p48 : lw_okq (⟨"DurableLoom", "givenTo", "(I)I"⟩, 18) := ⟨⟨by decide +kernel, by decide +kernel⟩, List.mem_of_getElem? (i := 30) (by decide +kernel), List.mem_of_getElem? (i := 1221) (by decide +kernel), List.mem_of_getElem? (i := 1222) (by decide +kernel)⟩
theorem lw_p49 : lw_okq (⟨"DurableLoom", "countGiven", "(I)V"⟩, 18) := ⟨⟨by decide +kernel, by decide +kernel⟩, List.mem_of_getElem? (i := 30) (by decide +kernel), List.mem_of_getElem? (i := 1225) (by decide +kernel), List.mem_of_getElem? (i := 1226) (by decide +kernel)⟩
theorem lw_p50 : lw_okq (⟨"DurableLoom", "isStale", "(LDurableLoom$Task;)Z"⟩, 18) := ⟨⟨by decide +kernel, by decide +kernel⟩, List.mem_of_getElem? (i := 30) (by decide +kernel), List.mem_of_getElem? (i := 1271) (by decide +kernel), List.mem_of_getElem? (i := 1272) (by decide +kernel)⟩
theorem lw_p51 : lw_okq (⟨"DurableLoom", "countReplay", "(I)V"⟩, 18) := ⟨⟨by decide +kernel, by decide +kernel⟩, List.mem_of_getElem? (i := 30) (by decide +kernel), List.mem_of_getElem? (i := 1281) (by decide +kernel), List.mem_of_getElem? (i := 1282) (by decide +kernel)⟩
theorem lw_p52 : lw_okq (⟨"DurableLoom", "putNews", "(LDurableLoom$Run;LDurableLoom$Task;Z)I"⟩, 18) := ⟨⟨by decide +kernel, by decide +kernel⟩, List.mem_of_getElem? (i := 30) (by decide +kernel), List.mem_of_getElem? (i := 1289) (by decide +kernel), List.mem_of_getElem? (i := 1290) (by decide +kernel)⟩
theorem lw_p53 : lw_okq (⟨"DurableLoom", "carryOut", "(LDurableLoom$Run;I)V"⟩, 18) := ⟨⟨by decide +kernel, by decide +kernel⟩, List.mem_of_getElem? (i := 30) (by decide +kernel), List.mem_of_getElem? (i := 1297) (by decide +kernel), List.mem_of_getElem? (i := 1298) (by decide +kernel)⟩
theorem lw_p54 : lw_okq (⟨"DurableLoom", "makeActivity", "(LDurableLoom$Run;III)V"⟩, 18) := ⟨⟨by decide +kernel, by decide +kernel⟩, List.mem_of_getElem? (i := 30) (by decide +kernel), List.mem_of_getElem? (i := 1301) (by decide +kernel), List.mem_of_getElem? (i := 1302) (by decide +kernel)⟩
theorem lw_p55 : lw_okq (⟨"DurableLoom", "beginChild", "(LDurableLoom$Run;III)V"⟩, 18) := ⟨⟨by decide +kernel, by decide +kernel⟩, List.mem_of_getElem? (i := 30) (by decide +kernel), List.mem_of_getElem? (i := 1361) (by decide +kernel), List.mem_of_getElem? (i := 1362) (by decide +kernel)⟩
theorem lw_p56 : lw_okq (⟨"DurableLoom", "dropEvent", "(LDurableLoom$Run;I)V"⟩, 18) := ⟨⟨by decide +kernel, by decide +kernel⟩, List.mem_of_getElem? (i := 30) (by decide +kernel), List.mem_of_getElem? (i := 1365) (by decide +kernel), List.mem_of_getElem? (i := 1366) (by decide +kernel)⟩
theorem lw_p57 : lw_okq (⟨"DurableLoom", "queueTag", "(LDurableLoom$Run;I)V"⟩, 18) := ⟨⟨by decide +kernel, by decide +kernel⟩, List.mem_of_getElem? (i := 30) (by decide +kernel), List.mem_of_getElem? (i := 1375) (by decide +kernel), List.mem_of_getElem? (i := 1376) (by decide +kernel)⟩
theorem lw_p58 : lw_okq (⟨"DurableLoom", "closeRun", "(LDurableLoom$Run;III)V"⟩, 18) := ⟨⟨by decide +kernel, by decide +kernel⟩, List.mem_of_getElem? (i := 30) (by decide +kernel), List.mem_of_getElem? (i := 1380) (by decide +kernel), List.mem_of_getElem? (i := 1381) (by decide +kernel)⟩
theorem lw_p59 : lw_okq (⟨"DurableLoom", "endWork", "(LDurableLoom$Run;)V"⟩, 18) := ⟨⟨by decide +kernel, by decide +kernel⟩, List.mem_of_getElem? (i := 30) (by decide +kernel), List.mem_of_getElem? (i := 1384) (by decide +kernel), List.mem_of_getElem? (i := 1385) (by decide +kernel)⟩
theorem lw_p60 : lw_okq (⟨"DurableLoom", "dealWithChildren", "(LDurableLoom$Run;I)V"⟩, 18) := ⟨⟨by decide +kernel, by decide +kernel⟩, List.mem_of_getElem? (i := 30) (by decide +kernel), List.mem_of_getElem? (i := 1389) (by decide +kernel), List.mem_of_getElem? (i := 1390) (by decide +kernel)⟩
theorem lw_p61 : lw_okq (⟨"DurableLoom", "parentOf", "(LDurableLoom$Run;)LDurableLoom$Run;"⟩, 18) := ⟨⟨by decide +kernel, by decide +kernel⟩, List.mem_of_getElem? (i := 30) (by decide +kernel), List.mem_of_getElem? (i := 1393) (by decide +kernel), List.mem_of_getElem? (i := 1394) (by decide +kernel)⟩
theorem lw_p62 : lw_okq (⟨"DurableLoom", "goOnAsNew", "(LDurableLoom$Run;I)V"⟩, 18) := ⟨⟨by decide +kernel, by decide +kernel⟩, List.mem_of_getElem? (i := 30) (by decide +kernel), List.mem_of_getElem? (i := 1397) (by decide +kernel), List.mem_of_getElem? (i := 1398) (by decide +kernel)⟩
theorem lw_p63 : lw_okq (⟨"DurableLoom", "sendSignals", "(LDurableLoom$Run;LDurableLoom$History;I)V"⟩, 18) := ⟨⟨by decide +kernel, by decide +kernel⟩, List.mem_of_getElem? (i := 30) (by decide +kernel), List.mem_of_getElem? (i := 1403) (by decide +kernel), List.mem_of_getElem? (i := 1404) (by decide +kernel)⟩
def lw_privs_4 : List (MethodName × Nat) := [(⟨"DurableLoom", "givenTo", "(I)I"⟩, 18), (⟨"DurableLoom", "countGiven", "(I)V"⟩, 18), (⟨"DurableLoom", "isStale", "(LDurableLoom$Task;)Z"⟩, 18), (⟨"DurableLoom", "countReplay", "(I)V"⟩, 18), (⟨"DurableLoom", "putNews", "(LDurableLoom$Run;LDurableLoom$Task;Z)I"⟩, 18), (⟨"DurableLoom", "carryOut", "(LDurableLoom$Run;I)V"⟩, 18), (⟨"DurableLoom", "makeActivity", "(LDurableLoom$Run;III)V"⟩, 18), (⟨"DurableLoom", "beginChild", "(LDurableLoom$Run;III)V"⟩, 18), (⟨"DurableLoom", "dropEvent", "(LDurableLoom$Run;I)V"⟩, 18), (⟨"DurableLoom", "queueTag", "(LDurableLoom$Run;I)V"⟩, 18), (⟨"DurableLoom", "closeRun", "(LDurableLoom$Run;III)V"⟩, 18), (⟨"DurableLoom", "endWork", "(LDurableLoom$Run;)V"⟩, 18), (⟨"DurableLoom", "dealWithChildren", "(LDurableLoom$Run;I)V"⟩, 18), (⟨"DurableLoom", "parentOf", "(LDurableLoom$Run;)LDurableLoom$Run;"⟩, 18), (⟨"DurableLoom", "goOnAsNew", "(LDurableLoom$Run;I)V"⟩, 18), (⟨"DurableLoom", "sendSignals", "(LDurableLoom$Run;LDurableLoom$History;I)V"⟩, 18)]
theorem lw_r4 : ∀ q ∈ lw_privs_4, lw_okq q := List.forall_mem_cons.mpr ⟨lw_p48, List.forall_mem_cons.mpr ⟨lw_p49, List.forall_mem_cons.mpr ⟨lw_p50, List.forall_mem_cons.mpr ⟨lw_p51, List.forall_mem_cons.mpr ⟨lw_p52, List.forall_mem_cons.mpr ⟨lw_p53, List.forall_mem_cons.mpr ⟨lw_p54, List.forall_mem_cons.mpr ⟨lw_p55, List.forall_mem_cons.mpr ⟨lw_p56, List.forall_mem_cons.mpr ⟨lw_p57, List.forall_mem_cons.mpr ⟨lw_p58, List.forall_mem_cons.mpr ⟨lw_p59, List.forall_mem_cons.mpr ⟨lw_p60, List.forall_mem_cons.mpr ⟨lw_p61, List.forall_mem_cons.mpr ⟨lw_p62, List.forall_mem_cons.mpr ⟨lw_p63, fun _ h => absurd h List.not_mem_nil⟩⟩⟩⟩⟩⟩⟩⟩⟩⟩⟩⟩⟩⟩⟩⟩
theorem lw_p64 : lw_okq (⟨"DurableLoom", "activityAt", "(I)LDurableLoom$Activity;"⟩, 18) := ⟨⟨by decide +kernel, by decide +kernel⟩, List.mem_of_getElem? (i := 30) (by decide +kernel), List.mem_of_getElem? (i := 1439) (by decide +kernel), List.mem_of_getElem? (i := 1440) (by decide +kernel)⟩
theorem lw_p65 : lw_okq (⟨"DurableLoom", "failAttempt", "(LDurableLoom$Activity;Z)V"⟩, 18) := ⟨⟨by decide +kernel, by decide +kernel⟩, List.mem_of_getElem? (i := 30) (by decide +kernel), List.mem_of_getElem? (i := 1451) (by decide +kernel), List.mem_of_getElem? (i := 1452) (by decide +kernel)⟩
theorem lw_p66 : lw_okq (⟨"DurableLoom", "beginTick", "()V"⟩, 18) := ⟨⟨by decide +kernel, by decide +kernel⟩, List.mem_of_getElem? (i := 30) (by decide +kernel), List.mem_of_getElem? (i := 1477) (by decide +kernel), List.mem_of_getElem? (i := 1478) (by decide +kernel)⟩
theorem lw_p67 : lw_okq (⟨"DurableLoom", "fireTimers", "(LDurableLoom$Run;)V"⟩, 18) := ⟨⟨by decide +kernel, by decide +kernel⟩, List.mem_of_getElem? (i := 30) (by decide +kernel), List.mem_of_getElem? (i := 1481) (by decide +kernel), List.mem_of_getElem? (i := 1482) (by decide +kernel)⟩
theorem lw_p68 : lw_okq (⟨"DurableLoom", "lookAtActivity", "(LDurableLoom$Activity;)V"⟩, 18) := ⟨⟨by decide +kernel, by decide +kernel⟩, List.mem_of_getElem? (i := 30) (by decide +kernel), List.mem_of_getElem? (i := 1486) (by decide +kernel), List.mem_of_getElem? (i := 1487) (by decide +kernel)⟩
theorem lw_p69 : lw_okq (⟨"DurableLoom", "isReached", "(II)Z"⟩, 18) := ⟨⟨by decide +kernel, by decide +kernel⟩, List.mem_of_getElem? (i := 30) (by decide +kernel), List.mem_of_getElem? (i := 1490) (by decide +kernel), List.mem_of_getElem? (i := 1491) (by decide +kernel)⟩
theorem lw_p70 : lw_okq (⟨"DurableLoom", "lookAtSchedule", "(LDurableLoom$Schedule;)V"⟩, 18) := ⟨⟨by decide +kernel, by decide +kernel⟩, List.mem_of_getElem? (i := 30) (by decide +kernel), List.mem_of_getElem? (i := 1495) (by decide +kernel), List.mem_of_getElem? (i := 1496) (by decide +kernel)⟩
theorem lw_p71 : lw_okq (⟨"DurableLoom", "lastIsOpen", "(LDurableLoom$Schedule;)Z"⟩, 18) := ⟨⟨by decide +kernel, by decide +kernel⟩, List.mem_of_getElem? (i := 30) (by decide +kernel), List.mem_of_getElem? (i := 1499) (by decide +kernel), List.mem_of_getElem? (i := 1500) (by decide +kernel)⟩
theorem lw_p72 : lw_okq (⟨"DurableLoom", "startFor", "(LDurableLoom$Schedule;I)V"⟩, 18) := ⟨⟨by decide +kernel, by decide +kernel⟩, List.mem_of_getElem? (i := 30) (by decide +kernel), List.mem_of_getElem? (i := 1503) (by decide +kernel), List.mem_of_getElem? (i := 1504) (by decide +kernel)⟩
theorem lw_p73 : lw_okq (⟨"DurableLoom", "meetPoint", "(LDurableLoom$Schedule;I)V"⟩, 18) := ⟨⟨by decide +kernel, by decide +kernel⟩, List.mem_of_getElem? (i := 30) (by decide +kernel), List.mem_of_getElem? (i := 1512) (by decide +kernel), List.mem_of_getElem? (i := 1513) (by decide +kernel)⟩
theorem lw_p74 : lw_okq (⟨"DurableLoom", "checkVersion", "(LDurableLoom$Type;I)V"⟩, 18) := ⟨⟨by decide +kernel, by decide +kernel⟩, List.mem_of_getElem? (i := 30) (by decide +kernel), List.mem_of_getElem? (i := 1524) (by decide +kernel), List.mem_of_getElem? (i := 1525) (by decide +kernel)⟩
theorem lw_p75 : lw_okq (⟨"DurableLoom", "partFromChildren", "(II)V"⟩, 18) := ⟨⟨by decide +kernel, by decide +kernel⟩, List.mem_of_getElem? (i := 30) (by decide +kernel), List.mem_of_getElem? (i := 1558) (by decide +kernel), List.mem_of_getElem? (i := 1559) (by decide +kernel)⟩
theorem lw_p76 : lw_okq (⟨"DurableLoom", "restoreWork", "(LDurableLoom$Run;)V"⟩, 18) := ⟨⟨by decide +kernel, by decide +kernel⟩, List.mem_of_getElem? (i := 30) (by decide +kernel), List.mem_of_getElem? (i := 1562) (by decide +kernel), List.mem_of_getElem? (i := 1563) (by decide +kernel)⟩
theorem lw_p77 : lw_okq (⟨"DurableLoom", "loseEvents", "(LDurableLoom$Run;)I"⟩, 18) := ⟨⟨by decide +kernel, by decide +kernel⟩, List.mem_of_getElem? (i := 30) (by decide +kernel), List.mem_of_getElem? (i := 1591) (by decide +kernel), List.mem_of_getElem? (i := 1592) (by decide +kernel)⟩
theorem lw_p78 : lw_okq (⟨"DurableLoom", "scheduleAt", "(I)LDurableLoom$Schedule;"⟩, 18) := ⟨⟨by decide +kernel, by decide +kernel⟩, List.mem_of_getElem? (i := 30) (by decide +kernel), List.mem_of_getElem? (i := 1662) (by decide +kernel), List.mem_of_getElem? (i := 1663) (by decide +kernel)⟩
theorem lw_p79 : lw_okq (⟨"DurableLoomModel", "fails", "(I)Z"⟩, 130) := ⟨⟨by decide +kernel, by decide +kernel⟩, List.mem_of_getElem? (i := 1701) (by decide +kernel), List.mem_of_getElem? (i := 2124) (by decide +kernel), List.mem_of_getElem? (i := 2125) (by decide +kernel)⟩
def lw_privs_5 : List (MethodName × Nat) := [(⟨"DurableLoom", "activityAt", "(I)LDurableLoom$Activity;"⟩, 18), (⟨"DurableLoom", "failAttempt", "(LDurableLoom$Activity;Z)V"⟩, 18), (⟨"DurableLoom", "beginTick", "()V"⟩, 18), (⟨"DurableLoom", "fireTimers", "(LDurableLoom$Run;)V"⟩, 18), (⟨"DurableLoom", "lookAtActivity", "(LDurableLoom$Activity;)V"⟩, 18), (⟨"DurableLoom", "isReached", "(II)Z"⟩, 18), (⟨"DurableLoom", "lookAtSchedule", "(LDurableLoom$Schedule;)V"⟩, 18), (⟨"DurableLoom", "lastIsOpen", "(LDurableLoom$Schedule;)Z"⟩, 18), (⟨"DurableLoom", "startFor", "(LDurableLoom$Schedule;I)V"⟩, 18), (⟨"DurableLoom", "meetPoint", "(LDurableLoom$Schedule;I)V"⟩, 18), (⟨"DurableLoom", "checkVersion", "(LDurableLoom$Type;I)V"⟩, 18), (⟨"DurableLoom", "partFromChildren", "(II)V"⟩, 18), (⟨"DurableLoom", "restoreWork", "(LDurableLoom$Run;)V"⟩, 18), (⟨"DurableLoom", "loseEvents", "(LDurableLoom$Run;)I"⟩, 18), (⟨"DurableLoom", "scheduleAt", "(I)LDurableLoom$Schedule;"⟩, 18), (⟨"DurableLoomModel", "fails", "(I)Z"⟩, 130)]
theorem lw_r5 : ∀ q ∈ lw_privs_5, lw_okq q := List.forall_mem_cons.mpr ⟨lw_p64, List.forall_mem_cons.mpr ⟨lw_p65, List.forall_mem_cons.mpr ⟨lw_p66, List.forall_mem_cons.mpr ⟨lw_p67, List.forall_mem_cons.mpr ⟨lw_p68, List.forall_mem_cons.mpr ⟨lw_p69, List.forall_mem_cons.mpr ⟨lw_p70, List.forall_mem_cons.mpr ⟨lw_p71, List.forall_mem_cons.mpr ⟨lw_p72, List.forall_mem_cons.mpr ⟨lw_p73, List.forall_mem_cons.mpr ⟨lw_p74, List.forall_mem_cons.mpr ⟨lw_p75, List.forall_mem_cons.mpr ⟨lw_p76, List.forall_mem_cons.mpr ⟨lw_p77, List.forall_mem_cons.mpr ⟨lw_p78, List.forall_mem_cons.mpr ⟨lw_p79, fun _ h => absurd h List.not_mem_nil⟩⟩⟩⟩⟩⟩⟩⟩⟩⟩⟩⟩⟩⟩⟩⟩
theorem lw_p80 : lw_okq (⟨"DurableLoomModel", "makes", "(IIIIII)I"⟩, 130) := ⟨⟨by decide +kernel, by decide +kernel⟩, List.mem_of_getElem? (i := 1701) (by decide +kernel), List.mem_of_getElem? (i := 2153) (by decide +kernel), List.mem_of_getElem? (i := 2154) (by decide +kernel)⟩
theorem lw_p81 : lw_okq (⟨"DurableLoomModel", "puts", "(IIII)I"⟩, 130) := ⟨⟨by decide +kernel, by decide +kernel⟩, List.mem_of_getElem? (i := 1701) (by decide +kernel), List.mem_of_getElem? (i := 2157) (by decide +kernel), List.mem_of_getElem? (i := 2158) (by decide +kernel)⟩
theorem lw_p82 : lw_okq (⟨"DurableLoomModel", "at", "(II)I"⟩, 130) := ⟨⟨by decide +kernel, by decide +kernel⟩, List.mem_of_getElem? (i := 1701) (by decide +kernel), List.mem_of_getElem? (i := 2161) (by decide +kernel), List.mem_of_getElem? (i := 2162) (by decide +kernel)⟩
theorem lw_p83 : lw_okq (⟨"DurableLoomModel", "counts", "(III)V"⟩, 130) := ⟨⟨by decide +kernel, by decide +kernel⟩, List.mem_of_getElem? (i := 1701) (by decide +kernel), List.mem_of_getElem? (i := 2165) (by decide +kernel), List.mem_of_getElem? (i := 2166) (by decide +kernel)⟩
theorem lw_p84 : lw_okq (⟨"DurableLoomModel", "isRun", "(I)Z"⟩, 130) := ⟨⟨by decide +kernel, by decide +kernel⟩, List.mem_of_getElem? (i := 1701) (by decide +kernel), List.mem_of_getElem? (i := 2176) (by decide +kernel), List.mem_of_getElem? (i := 2177) (by decide +kernel)⟩
theorem lw_p85 : lw_okq (⟨"DurableLoomModel", "isAlive", "(I)Z"⟩, 130) := ⟨⟨by decide +kernel, by decide +kernel⟩, List.mem_of_getElem? (i := 1701) (by decide +kernel), List.mem_of_getElem? (i := 2183) (by decide +kernel), List.mem_of_getElem? (i := 2184) (by decide +kernel)⟩
theorem lw_p86 : lw_okq (⟨"DurableLoomModel", "isSafe", "(II)Z"⟩, 130) := ⟨⟨by decide +kernel, by decide +kernel⟩, List.mem_of_getElem? (i := 1701) (by decide +kernel), List.mem_of_getElem? (i := 2191) (by decide +kernel), List.mem_of_getElem? (i := 2192) (by decide +kernel)⟩
theorem lw_p87 : lw_okq (⟨"DurableLoomModel", "tellsRun", "(IIIII)V"⟩, 130) := ⟨⟨by decide +kernel, by decide +kernel⟩, List.mem_of_getElem? (i := 1701) (by decide +kernel), List.mem_of_getElem? (i := 2195) (by decide +kernel), List.mem_of_getElem? (i := 2196) (by decide +kernel)⟩
theorem lw_p88 : lw_okq (⟨"DurableLoomModel", "kindAt", "(II)I"⟩, 130) := ⟨⟨by decide +kernel, by decide +kernel⟩, List.mem_of_getElem? (i := 1701) (by decide +kernel), List.mem_of_getElem? (i := 2199) (by decide +kernel), List.mem_of_getElem? (i := 2200) (by decide +kernel)⟩
theorem lw_p89 : lw_okq (⟨"DurableLoomModel", "takes", "(I)V"⟩, 130) := ⟨⟨by decide +kernel, by decide +kernel⟩, List.mem_of_getElem? (i := 1701) (by decide +kernel), List.mem_of_getElem? (i := 2203) (by decide +kernel), List.mem_of_getElem? (i := 2204) (by decide +kernel)⟩
theorem lw_p90 : lw_okq (⟨"DurableLoomModel", "xAt", "(II)I"⟩, 130) := ⟨⟨by decide +kernel, by decide +kernel⟩, List.mem_of_getElem? (i := 1701) (by decide +kernel), List.mem_of_getElem? (i := 2207) (by decide +kernel), List.mem_of_getElem? (i := 2208) (by decide +kernel)⟩
theorem lw_p91 : lw_okq (⟨"DurableLoomModel", "yAt", "(II)I"⟩, 130) := ⟨⟨by decide +kernel, by decide +kernel⟩, List.mem_of_getElem? (i := 1701) (by decide +kernel), List.mem_of_getElem? (i := 2212) (by decide +kernel), List.mem_of_getElem? (i := 2213) (by decide +kernel)⟩
theorem lw_p92 : lw_okq (⟨"DurableLoomModel", "whenAt", "(II)I"⟩, 130) := ⟨⟨by decide +kernel, by decide +kernel⟩, List.mem_of_getElem? (i := 1701) (by decide +kernel), List.mem_of_getElem? (i := 2216) (by decide +kernel), List.mem_of_getElem? (i := 2217) (by decide +kernel)⟩
theorem lw_p93 : lw_okq (⟨"DurableLoomModel", "begins", "(II)V"⟩, 130) := ⟨⟨by decide +kernel, by decide +kernel⟩, List.mem_of_getElem? (i := 1701) (by decide +kernel), List.mem_of_getElem? (i := 2221) (by decide +kernel), List.mem_of_getElem? (i := 2222) (by decide +kernel)⟩
theorem lw_p94 : lw_okq (⟨"DurableLoomModel", "spins", "()V"⟩, 130) := ⟨⟨by decide +kernel, by decide +kernel⟩, List.mem_of_getElem? (i := 1701) (by decide +kernel), List.mem_of_getElem? (i := 2225) (by decide +kernel), List.mem_of_getElem? (i := 2226) (by decide +kernel)⟩
theorem lw_p95 : lw_okq (⟨"DurableLoomModel", "isCancelled", "()V"⟩, 130) := ⟨⟨by decide +kernel, by decide +kernel⟩, List.mem_of_getElem? (i := 1701) (by decide +kernel), List.mem_of_getElem? (i := 2229) (by decide +kernel), List.mem_of_getElem? (i := 2230) (by decide +kernel)⟩
def lw_privs_6 : List (MethodName × Nat) := [(⟨"DurableLoomModel", "makes", "(IIIIII)I"⟩, 130), (⟨"DurableLoomModel", "puts", "(IIII)I"⟩, 130), (⟨"DurableLoomModel", "at", "(II)I"⟩, 130), (⟨"DurableLoomModel", "counts", "(III)V"⟩, 130), (⟨"DurableLoomModel", "isRun", "(I)Z"⟩, 130), (⟨"DurableLoomModel", "isAlive", "(I)Z"⟩, 130), (⟨"DurableLoomModel", "isSafe", "(II)Z"⟩, 130), (⟨"DurableLoomModel", "tellsRun", "(IIIII)V"⟩, 130), (⟨"DurableLoomModel", "kindAt", "(II)I"⟩, 130), (⟨"DurableLoomModel", "takes", "(I)V"⟩, 130), (⟨"DurableLoomModel", "xAt", "(II)I"⟩, 130), (⟨"DurableLoomModel", "yAt", "(II)I"⟩, 130), (⟨"DurableLoomModel", "whenAt", "(II)I"⟩, 130), (⟨"DurableLoomModel", "begins", "(II)V"⟩, 130), (⟨"DurableLoomModel", "spins", "()V"⟩, 130), (⟨"DurableLoomModel", "isCancelled", "()V"⟩, 130)]
theorem lw_r6 : ∀ q ∈ lw_privs_6, lw_okq q := List.forall_mem_cons.mpr ⟨lw_p80, List.forall_mem_cons.mpr ⟨lw_p81, List.forall_mem_cons.mpr ⟨lw_p82, List.forall_mem_cons.mpr ⟨lw_p83, List.forall_mem_cons.mpr ⟨lw_p84, List.forall_mem_cons.mpr ⟨lw_p85, List.forall_mem_cons.mpr ⟨lw_p86, List.forall_mem_cons.mpr ⟨lw_p87, List.forall_mem_cons.mpr ⟨lw_p88, List.forall_mem_cons.mpr ⟨lw_p89, List.forall_mem_cons.mpr ⟨lw_p90, List.forall_mem_cons.mpr ⟨lw_p91, List.forall_mem_cons.mpr ⟨lw_p92, List.forall_mem_cons.mpr ⟨lw_p93, List.forall_mem_cons.mpr ⟨lw_p94, List.forall_mem_cons.mpr ⟨lw_p95, fun _ h => absurd h List.not_mem_nil⟩⟩⟩⟩⟩⟩⟩⟩⟩⟩⟩⟩⟩⟩⟩⟩
theorem lw_p96 : lw_okq (⟨"DurableLoomModel", "goes", "()Z"⟩, 130) := ⟨⟨by decide +kernel, by decide +kernel⟩, List.mem_of_getElem? (i := 1701) (by decide +kernel), List.mem_of_getElem? (i := 2233) (by decide +kernel), List.mem_of_getElem? (i := 2234) (by decide +kernel)⟩
theorem lw_p97 : lw_okq (⟨"DurableLoomModel", "cancelsBranch", "(I)V"⟩, 130) := ⟨⟨by decide +kernel, by decide +kernel⟩, List.mem_of_getElem? (i := 1701) (by decide +kernel), List.mem_of_getElem? (i := 2237) (by decide +kernel), List.mem_of_getElem? (i := 2238) (by decide +kernel)⟩
theorem lw_p98 : lw_okq (⟨"DurableLoomModel", "lets", "(I)V"⟩, 130) := ⟨⟨by decide +kernel, by decide +kernel⟩, List.mem_of_getElem? (i := 1701) (by decide +kernel), List.mem_of_getElem? (i := 2241) (by decide +kernel), List.mem_of_getElem? (i := 2242) (by decide +kernel)⟩
theorem lw_p99 : lw_okq (⟨"DurableLoomModel", "commands", "(III)I"⟩, 130) := ⟨⟨by decide +kernel, by decide +kernel⟩, List.mem_of_getElem? (i := 1701) (by decide +kernel), List.mem_of_getElem? (i := 2245) (by decide +kernel), List.mem_of_getElem? (i := 2246) (by decide +kernel)⟩
theorem lw_p100 : lw_okq (⟨"DurableLoomModel", "nextCommand", "()I"⟩, 130) := ⟨⟨by decide +kernel, by decide +kernel⟩, List.mem_of_getElem? (i := 1701) (by decide +kernel), List.mem_of_getElem? (i := 2249) (by decide +kernel), List.mem_of_getElem? (i := 2250) (by decide +kernel)⟩
theorem lw_p101 : lw_okq (⟨"DurableLoomModel", "differs", "(I)V"⟩, 130) := ⟨⟨by decide +kernel, by decide +kernel⟩, List.mem_of_getElem? (i := 1701) (by decide +kernel), List.mem_of_getElem? (i := 2253) (by decide +kernel), List.mem_of_getElem? (i := 2254) (by decide +kernel)⟩
theorem lw_p102 : lw_okq (⟨"DurableLoomModel", "firstTask", "()I"⟩, 130) := ⟨⟨by decide +kernel, by decide +kernel⟩, List.mem_of_getElem? (i := 1701) (by decide +kernel), List.mem_of_getElem? (i := 2257) (by decide +kernel), List.mem_of_getElem? (i := 2258) (by decide +kernel)⟩
theorem lw_p103 : lw_okq (⟨"DurableLoomModel", "nextLater", "()I"⟩, 130) := ⟨⟨by decide +kernel, by decide +kernel⟩, List.mem_of_getElem? (i := 1701) (by decide +kernel), List.mem_of_getElem? (i := 2261) (by decide +kernel), List.mem_of_getElem? (i := 2262) (by decide +kernel)⟩
theorem lw_p104 : lw_okq (⟨"DurableLoomModel", "failsBranch", "(I)V"⟩, 130) := ⟨⟨by decide +kernel, by decide +kernel⟩, List.mem_of_getElem? (i := 1701) (by decide +kernel), List.mem_of_getElem? (i := 2265) (by decide +kernel), List.mem_of_getElem? (i := 2266) (by decide +kernel)⟩
theorem lw_p105 : lw_okq (⟨"DurableLoomModel", "endsRun", "(II)V"⟩, 130) := ⟨⟨by decide +kernel, by decide +kernel⟩, List.mem_of_getElem? (i := 1701) (by decide +kernel), List.mem_of_getElem? (i := 2269) (by decide +kernel), List.mem_of_getElem? (i := 2270) (by decide +kernel)⟩
theorem lw_p106 : lw_okq (⟨"DurableLoomModel", "comesBack", "(III)V"⟩, 130) := ⟨⟨by decide +kernel, by decide +kernel⟩, List.mem_of_getElem? (i := 1701) (by decide +kernel), List.mem_of_getElem? (i := 2273) (by decide +kernel), List.mem_of_getElem? (i := 2274) (by decide +kernel)⟩
theorem lw_p107 : lw_okq (⟨"DurableLoomModel", "waiting", "(I)I"⟩, 130) := ⟨⟨by decide +kernel, by decide +kernel⟩, List.mem_of_getElem? (i := 1701) (by decide +kernel), List.mem_of_getElem? (i := 2277) (by decide +kernel), List.mem_of_getElem? (i := 2278) (by decide +kernel)⟩
theorem lw_p108 : lw_okq (⟨"DurableLoomModel", "goOn", "()V"⟩, 130) := ⟨⟨by decide +kernel, by decide +kernel⟩, List.mem_of_getElem? (i := 1701) (by decide +kernel), List.mem_of_getElem? (i := 2281) (by decide +kernel), List.mem_of_getElem? (i := 2282) (by decide +kernel)⟩
theorem lw_p109 : lw_okq (⟨"DurableLoomModel", "canGoOn", "(I)Z"⟩, 130) := ⟨⟨by decide +kernel, by decide +kernel⟩, List.mem_of_getElem? (i := 1701) (by decide +kernel), List.mem_of_getElem? (i := 2285) (by decide +kernel), List.mem_of_getElem? (i := 2286) (by decide +kernel)⟩
theorem lw_p110 : lw_okq (⟨"DurableLoomModel", "hasChild", "(I)Z"⟩, 130) := ⟨⟨by decide +kernel, by decide +kernel⟩, List.mem_of_getElem? (i := 1701) (by decide +kernel), List.mem_of_getElem? (i := 2289) (by decide +kernel), List.mem_of_getElem? (i := 2290) (by decide +kernel)⟩
theorem lw_p111 : lw_okq (⟨"DurableLoomModel", "walks", "(I)V"⟩, 130) := ⟨⟨by decide +kernel, by decide +kernel⟩, List.mem_of_getElem? (i := 1701) (by decide +kernel), List.mem_of_getElem? (i := 2293) (by decide +kernel), List.mem_of_getElem? (i := 2294) (by decide +kernel)⟩
def lw_privs_7 : List (MethodName × Nat) := [(⟨"DurableLoomModel", "goes", "()Z"⟩, 130), (⟨"DurableLoomModel", "cancelsBranch", "(I)V"⟩, 130), (⟨"DurableLoomModel", "lets", "(I)V"⟩, 130), (⟨"DurableLoomModel", "commands", "(III)I"⟩, 130), (⟨"DurableLoomModel", "nextCommand", "()I"⟩, 130), (⟨"DurableLoomModel", "differs", "(I)V"⟩, 130), (⟨"DurableLoomModel", "firstTask", "()I"⟩, 130), (⟨"DurableLoomModel", "nextLater", "()I"⟩, 130), (⟨"DurableLoomModel", "failsBranch", "(I)V"⟩, 130), (⟨"DurableLoomModel", "endsRun", "(II)V"⟩, 130), (⟨"DurableLoomModel", "comesBack", "(III)V"⟩, 130), (⟨"DurableLoomModel", "waiting", "(I)I"⟩, 130), (⟨"DurableLoomModel", "goOn", "()V"⟩, 130), (⟨"DurableLoomModel", "canGoOn", "(I)Z"⟩, 130), (⟨"DurableLoomModel", "hasChild", "(I)Z"⟩, 130), (⟨"DurableLoomModel", "walks", "(I)V"⟩, 130)]
theorem lw_r7 : ∀ q ∈ lw_privs_7, lw_okq q := List.forall_mem_cons.mpr ⟨lw_p96, List.forall_mem_cons.mpr ⟨lw_p97, List.forall_mem_cons.mpr ⟨lw_p98, List.forall_mem_cons.mpr ⟨lw_p99, List.forall_mem_cons.mpr ⟨lw_p100, List.forall_mem_cons.mpr ⟨lw_p101, List.forall_mem_cons.mpr ⟨lw_p102, List.forall_mem_cons.mpr ⟨lw_p103, List.forall_mem_cons.mpr ⟨lw_p104, List.forall_mem_cons.mpr ⟨lw_p105, List.forall_mem_cons.mpr ⟨lw_p106, List.forall_mem_cons.mpr ⟨lw_p107, List.forall_mem_cons.mpr ⟨lw_p108, List.forall_mem_cons.mpr ⟨lw_p109, List.forall_mem_cons.mpr ⟨lw_p110, List.forall_mem_cons.mpr ⟨lw_p111, fun _ h => absurd h List.not_mem_nil⟩⟩⟩⟩⟩⟩⟩⟩⟩⟩⟩⟩⟩⟩⟩⟩
theorem lw_p112 : lw_okq (⟨"DurableLoomModel", "slot", "(I)I"⟩, 130) := ⟨⟨by decide +kernel, by decide +kernel⟩, List.mem_of_getElem? (i := 1701) (by decide +kernel), List.mem_of_getElem? (i := 2297) (by decide +kernel), List.mem_of_getElem? (i := 2298) (by decide +kernel)⟩
theorem lw_p113 : lw_okq (⟨"DurableLoomModel", "endsBranch", "(I)V"⟩, 130) := ⟨⟨by decide +kernel, by decide +kernel⟩, List.mem_of_getElem? (i := 1701) (by decide +kernel), List.mem_of_getElem? (i := 2301) (by decide +kernel), List.mem_of_getElem? (i := 2302) (by decide +kernel)⟩
theorem lw_p114 : lw_okq (⟨"DurableLoomModel", "removes", "(I)V"⟩, 130) := ⟨⟨by decide +kernel, by decide +kernel⟩, List.mem_of_getElem? (i := 1701) (by decide +kernel), List.mem_of_getElem? (i := 2305) (by decide +kernel), List.mem_of_getElem? (i := 2306) (by decide +kernel)⟩
theorem lw_p115 : lw_okq (⟨"DurableLoomModel", "does", "(I)V"⟩, 130) := ⟨⟨by decide +kernel, by decide +kernel⟩, List.mem_of_getElem? (i := 1701) (by decide +kernel), List.mem_of_getElem? (i := 2309) (by decide +kernel), List.mem_of_getElem? (i := 2310) (by decide +kernel)⟩
theorem lw_p116 : lw_okq (⟨"DurableLoomModel", "awaits", "(IIII)V"⟩, 130) := ⟨⟨by decide +kernel, by decide +kernel⟩, List.mem_of_getElem? (i := 1701) (by decide +kernel), List.mem_of_getElem? (i := 2313) (by decide +kernel), List.mem_of_getElem? (i := 2314) (by decide +kernel)⟩
theorem lw_p117 : lw_okq (⟨"DurableLoomModel", "races", "(II)V"⟩, 130) := ⟨⟨by decide +kernel, by decide +kernel⟩, List.mem_of_getElem? (i := 1701) (by decide +kernel), List.mem_of_getElem? (i := 2317) (by decide +kernel), List.mem_of_getElem? (i := 2318) (by decide +kernel)⟩
theorem lw_p118 : lw_okq (⟨"DurableLoomModel", "wins", "(I)V"⟩, 130) := ⟨⟨by decide +kernel, by decide +kernel⟩, List.mem_of_getElem? (i := 1701) (by decide +kernel), List.mem_of_getElem? (i := 2321) (by decide +kernel), List.mem_of_getElem? (i := 2322) (by decide +kernel)⟩
theorem lw_p119 : lw_okq (⟨"DurableLoomModel", "dropsBranch", "(I)V"⟩, 130) := ⟨⟨by decide +kernel, by decide +kernel⟩, List.mem_of_getElem? (i := 1701) (by decide +kernel), List.mem_of_getElem? (i := 2325) (by decide +kernel), List.mem_of_getElem? (i := 2326) (by decide +kernel)⟩
theorem lw_p120 : lw_okq (⟨"DurableLoomModel", "isBelow", "(II)Z"⟩, 130) := ⟨⟨by decide +kernel, by decide +kernel⟩, List.mem_of_getElem? (i := 1701) (by decide +kernel), List.mem_of_getElem? (i := 2329) (by decide +kernel), List.mem_of_getElem? (i := 2330) (by decide +kernel)⟩
theorem lw_p121 : lw_okq (⟨"DurableLoomModel", "doesMore", "(IIII)V"⟩, 130) := ⟨⟨by decide +kernel, by decide +kernel⟩, List.mem_of_getElem? (i := 1701) (by decide +kernel), List.mem_of_getElem? (i := 2333) (by decide +kernel), List.mem_of_getElem? (i := 2334) (by decide +kernel)⟩
theorem lw_p122 : lw_okq (⟨"DurableLoomModel", "undoes", "(I)V"⟩, 130) := ⟨⟨by decide +kernel, by decide +kernel⟩, List.mem_of_getElem? (i := 1701) (by decide +kernel), List.mem_of_getElem? (i := 2337) (by decide +kernel), List.mem_of_getElem? (i := 2338) (by decide +kernel)⟩
theorem lw_p123 : lw_okq (⟨"DurableLoomModel", "patches", "(III)V"⟩, 130) := ⟨⟨by decide +kernel, by decide +kernel⟩, List.mem_of_getElem? (i := 1701) (by decide +kernel), List.mem_of_getElem? (i := 2341) (by decide +kernel), List.mem_of_getElem? (i := 2342) (by decide +kernel)⟩
theorem lw_p124 : lw_okq (⟨"DurableLoomModel", "bares", "(I)V"⟩, 130) := ⟨⟨by decide +kernel, by decide +kernel⟩, List.mem_of_getElem? (i := 1701) (by decide +kernel), List.mem_of_getElem? (i := 2345) (by decide +kernel), List.mem_of_getElem? (i := 2346) (by decide +kernel)⟩
theorem lw_p125 : lw_okq (⟨"DurableLoomModel", "goesBy", "(I)V"⟩, 130) := ⟨⟨by decide +kernel, by decide +kernel⟩, List.mem_of_getElem? (i := 1701) (by decide +kernel), List.mem_of_getElem? (i := 2349) (by decide +kernel), List.mem_of_getElem? (i := 2350) (by decide +kernel)⟩
theorem lw_p126 : lw_okq (⟨"DurableLoomModel", "isWanted", "(II)Z"⟩, 130) := ⟨⟨by decide +kernel, by decide +kernel⟩, List.mem_of_getElem? (i := 1701) (by decide +kernel), List.mem_of_getElem? (i := 2353) (by decide +kernel), List.mem_of_getElem? (i := 2354) (by decide +kernel)⟩
theorem lw_p127 : lw_okq (⟨"DurableLoomModel", "cancels", "(I)Z"⟩, 130) := ⟨⟨by decide +kernel, by decide +kernel⟩, List.mem_of_getElem? (i := 1701) (by decide +kernel), List.mem_of_getElem? (i := 2361) (by decide +kernel), List.mem_of_getElem? (i := 2362) (by decide +kernel)⟩
def lw_privs_8 : List (MethodName × Nat) := [(⟨"DurableLoomModel", "slot", "(I)I"⟩, 130), (⟨"DurableLoomModel", "endsBranch", "(I)V"⟩, 130), (⟨"DurableLoomModel", "removes", "(I)V"⟩, 130), (⟨"DurableLoomModel", "does", "(I)V"⟩, 130), (⟨"DurableLoomModel", "awaits", "(IIII)V"⟩, 130), (⟨"DurableLoomModel", "races", "(II)V"⟩, 130), (⟨"DurableLoomModel", "wins", "(I)V"⟩, 130), (⟨"DurableLoomModel", "dropsBranch", "(I)V"⟩, 130), (⟨"DurableLoomModel", "isBelow", "(II)Z"⟩, 130), (⟨"DurableLoomModel", "doesMore", "(IIII)V"⟩, 130), (⟨"DurableLoomModel", "undoes", "(I)V"⟩, 130), (⟨"DurableLoomModel", "patches", "(III)V"⟩, 130), (⟨"DurableLoomModel", "bares", "(I)V"⟩, 130), (⟨"DurableLoomModel", "goesBy", "(I)V"⟩, 130), (⟨"DurableLoomModel", "isWanted", "(II)Z"⟩, 130), (⟨"DurableLoomModel", "cancels", "(I)Z"⟩, 130)]
theorem lw_r8 : ∀ q ∈ lw_privs_8, lw_okq q := List.forall_mem_cons.mpr ⟨lw_p112, List.forall_mem_cons.mpr ⟨lw_p113, List.forall_mem_cons.mpr ⟨lw_p114, List.forall_mem_cons.mpr ⟨lw_p115, List.forall_mem_cons.mpr ⟨lw_p116, List.forall_mem_cons.mpr ⟨lw_p117, List.forall_mem_cons.mpr ⟨lw_p118, List.forall_mem_cons.mpr ⟨lw_p119, List.forall_mem_cons.mpr ⟨lw_p120, List.forall_mem_cons.mpr ⟨lw_p121, List.forall_mem_cons.mpr ⟨lw_p122, List.forall_mem_cons.mpr ⟨lw_p123, List.forall_mem_cons.mpr ⟨lw_p124, List.forall_mem_cons.mpr ⟨lw_p125, List.forall_mem_cons.mpr ⟨lw_p126, List.forall_mem_cons.mpr ⟨lw_p127, fun _ h => absurd h List.not_mem_nil⟩⟩⟩⟩⟩⟩⟩⟩⟩⟩⟩⟩⟩⟩⟩⟩
theorem lw_p128 : lw_okq (⟨"DurableLoomModel", "hasCome", "(II)Z"⟩, 130) := ⟨⟨by decide +kernel, by decide +kernel⟩, List.mem_of_getElem? (i := 1701) (by decide +kernel), List.mem_of_getElem? (i := 2365) (by decide +kernel), List.mem_of_getElem? (i := 2366) (by decide +kernel)⟩
theorem lw_p129 : lw_okq (⟨"DurableLoomModel", "asks", "(II)I"⟩, 130) := ⟨⟨by decide +kernel, by decide +kernel⟩, List.mem_of_getElem? (i := 1701) (by decide +kernel), List.mem_of_getElem? (i := 2373) (by decide +kernel), List.mem_of_getElem? (i := 2374) (by decide +kernel)⟩
theorem lw_p130 : lw_okq (⟨"DurableLoomModel", "tells", "(I)I"⟩, 130) := ⟨⟨by decide +kernel, by decide +kernel⟩, List.mem_of_getElem? (i := 1701) (by decide +kernel), List.mem_of_getElem? (i := 2398) (by decide +kernel), List.mem_of_getElem? (i := 2399) (by decide +kernel)⟩
theorem lw_p131 : lw_okq (⟨"DurableLoomModel", "isReady", "(I)Z"⟩, 130) := ⟨⟨by decide +kernel, by decide +kernel⟩, List.mem_of_getElem? (i := 1701) (by decide +kernel), List.mem_of_getElem? (i := 2413) (by decide +kernel), List.mem_of_getElem? (i := 2414) (by decide +kernel)⟩
theorem lw_p132 : lw_okq (⟨"DurableLoomModel", "isHeld", "(I)Z"⟩, 130) := ⟨⟨by decide +kernel, by decide +kernel⟩, List.mem_of_getElem? (i := 1701) (by decide +kernel), List.mem_of_getElem? (i := 2417) (by decide +kernel), List.mem_of_getElem? (i := 2418) (by decide +kernel)⟩
theorem lw_p133 : lw_okq (⟨"DurableLoomModel", "firstOrder", "(I)I"⟩, 130) := ⟨⟨by decide +kernel, by decide +kernel⟩, List.mem_of_getElem? (i := 1701) (by decide +kernel), List.mem_of_getElem? (i := 2421) (by decide +kernel), List.mem_of_getElem? (i := 2422) (by decide +kernel)⟩
theorem lw_p134 : lw_okq (⟨"DurableLoomModel", "isStale", "(I)Z"⟩, 130) := ⟨⟨by decide +kernel, by decide +kernel⟩, List.mem_of_getElem? (i := 1701) (by decide +kernel), List.mem_of_getElem? (i := 2429) (by decide +kernel), List.mem_of_getElem? (i := 2430) (by decide +kernel)⟩
theorem lw_p135 : lw_okq (⟨"DurableLoomModel", "hasState", "(II)Z"⟩, 130) := ⟨⟨by decide +kernel, by decide +kernel⟩, List.mem_of_getElem? (i := 1701) (by decide +kernel), List.mem_of_getElem? (i := 2433) (by decide +kernel), List.mem_of_getElem? (i := 2434) (by decide +kernel)⟩
theorem lw_p136 : lw_okq (⟨"DurableLoomModel", "carriesOut", "(IIIII)V"⟩, 130) := ⟨⟨by decide +kernel, by decide +kernel⟩, List.mem_of_getElem? (i := 1701) (by decide +kernel), List.mem_of_getElem? (i := 2437) (by decide +kernel), List.mem_of_getElem? (i := 2438) (by decide +kernel)⟩
theorem lw_p137 : lw_okq (⟨"DurableLoomModel", "makesActivity", "(IIII)V"⟩, 130) := ⟨⟨by decide +kernel, by decide +kernel⟩, List.mem_of_getElem? (i := 1701) (by decide +kernel), List.mem_of_getElem? (i := 2441) (by decide +kernel), List.mem_of_getElem? (i := 2442) (by decide +kernel)⟩
theorem lw_p138 : lw_okq (⟨"DurableLoomModel", "makesTimer", "(III)V"⟩, 130) := ⟨⟨by decide +kernel, by decide +kernel⟩, List.mem_of_getElem? (i := 1701) (by decide +kernel), List.mem_of_getElem? (i := 2445) (by decide +kernel), List.mem_of_getElem? (i := 2446) (by decide +kernel)⟩
theorem lw_p139 : lw_okq (⟨"DurableLoomModel", "drops", "(II)V"⟩, 130) := ⟨⟨by decide +kernel, by decide +kernel⟩, List.mem_of_getElem? (i := 1701) (by decide +kernel), List.mem_of_getElem? (i := 2449) (by decide +kernel), List.mem_of_getElem? (i := 2450) (by decide +kernel)⟩
theorem lw_p140 : lw_okq (⟨"DurableLoomModel", "removesTimer", "(I)V"⟩, 130) := ⟨⟨by decide +kernel, by decide +kernel⟩, List.mem_of_getElem? (i := 1701) (by decide +kernel), List.mem_of_getElem? (i := 2453) (by decide +kernel), List.mem_of_getElem? (i := 2454) (by decide +kernel)⟩
theorem lw_p141 : lw_okq (⟨"DurableLoomModel", "closes", "(IZI)V"⟩, 130) := ⟨⟨by decide +kernel, by decide +kernel⟩, List.mem_of_getElem? (i := 1701) (by decide +kernel), List.mem_of_getElem? (i := 2457) (by decide +kernel), List.mem_of_getElem? (i := 2458) (by decide +kernel)⟩
theorem lw_p142 : lw_okq (⟨"DurableLoomModel", "stops", "(I)V"⟩, 130) := ⟨⟨by decide +kernel, by decide +kernel⟩, List.mem_of_getElem? (i := 1701) (by decide +kernel), List.mem_of_getElem? (i := 2461) (by decide +kernel), List.mem_of_getElem? (i := 2462) (by decide +kernel)⟩
theorem lw_p143 : lw_okq (⟨"DurableLoomModel", "tellsParent", "(II)V"⟩, 130) := ⟨⟨by decide +kernel, by decide +kernel⟩, List.mem_of_getElem? (i := 1701) (by decide +kernel), List.mem_of_getElem? (i := 2465) (by decide +kernel), List.mem_of_getElem? (i := 2466) (by decide +kernel)⟩
def lw_privs_9 : List (MethodName × Nat) := [(⟨"DurableLoomModel", "hasCome", "(II)Z"⟩, 130), (⟨"DurableLoomModel", "asks", "(II)I"⟩, 130), (⟨"DurableLoomModel", "tells", "(I)I"⟩, 130), (⟨"DurableLoomModel", "isReady", "(I)Z"⟩, 130), (⟨"DurableLoomModel", "isHeld", "(I)Z"⟩, 130), (⟨"DurableLoomModel", "firstOrder", "(I)I"⟩, 130), (⟨"DurableLoomModel", "isStale", "(I)Z"⟩, 130), (⟨"DurableLoomModel", "hasState", "(II)Z"⟩, 130), (⟨"DurableLoomModel", "carriesOut", "(IIIII)V"⟩, 130), (⟨"DurableLoomModel", "makesActivity", "(IIII)V"⟩, 130), (⟨"DurableLoomModel", "makesTimer", "(III)V"⟩, 130), (⟨"DurableLoomModel", "drops", "(II)V"⟩, 130), (⟨"DurableLoomModel", "removesTimer", "(I)V"⟩, 130), (⟨"DurableLoomModel", "closes", "(IZI)V"⟩, 130), (⟨"DurableLoomModel", "stops", "(I)V"⟩, 130), (⟨"DurableLoomModel", "tellsParent", "(II)V"⟩, 130)]
theorem lw_r9 : ∀ q ∈ lw_privs_9, lw_okq q := List.forall_mem_cons.mpr ⟨lw_p128, List.forall_mem_cons.mpr ⟨lw_p129, List.forall_mem_cons.mpr ⟨lw_p130, List.forall_mem_cons.mpr ⟨lw_p131, List.forall_mem_cons.mpr ⟨lw_p132, List.forall_mem_cons.mpr ⟨lw_p133, List.forall_mem_cons.mpr ⟨lw_p134, List.forall_mem_cons.mpr ⟨lw_p135, List.forall_mem_cons.mpr ⟨lw_p136, List.forall_mem_cons.mpr ⟨lw_p137, List.forall_mem_cons.mpr ⟨lw_p138, List.forall_mem_cons.mpr ⟨lw_p139, List.forall_mem_cons.mpr ⟨lw_p140, List.forall_mem_cons.mpr ⟨lw_p141, List.forall_mem_cons.mpr ⟨lw_p142, List.forall_mem_cons.mpr ⟨lw_p143, fun _ h => absurd h List.not_mem_nil⟩⟩⟩⟩⟩⟩⟩⟩⟩⟩⟩⟩⟩⟩⟩⟩
theorem lw_p144 : lw_okq (⟨"DurableLoomModel", "goesOnAsNew", "(II)V"⟩, 130) := ⟨⟨by decide +kernel, by decide +kernel⟩, List.mem_of_getElem? (i := 1701) (by decide +kernel), List.mem_of_getElem? (i := 2469) (by decide +kernel), List.mem_of_getElem? (i := 2470) (by decide +kernel)⟩
theorem lw_p145 : lw_okq (⟨"DurableLoomModel", "isActivity", "(I)Z"⟩, 130) := ⟨⟨by decide +kernel, by decide +kernel⟩, List.mem_of_getElem? (i := 1701) (by decide +kernel), List.mem_of_getElem? (i := 2489) (by decide +kernel), List.mem_of_getElem? (i := 2490) (by decide +kernel)⟩
theorem lw_p146 : lw_okq (⟨"DurableLoomModel", "misses", "(IZ)V"⟩, 130) := ⟨⟨by decide +kernel, by decide +kernel⟩, List.mem_of_getElem? (i := 1701) (by decide +kernel), List.mem_of_getElem? (i := 2497) (by decide +kernel), List.mem_of_getElem? (i := 2498) (by decide +kernel)⟩
theorem lw_p147 : lw_okq (⟨"DurableLoomModel", "fires", "()V"⟩, 130) := ⟨⟨by decide +kernel, by decide +kernel⟩, List.mem_of_getElem? (i := 1701) (by decide +kernel), List.mem_of_getElem? (i := 2513) (by decide +kernel), List.mem_of_getElem? (i := 2514) (by decide +kernel)⟩
theorem lw_p148 : lw_okq (⟨"DurableLoomModel", "looksAtActivities", "()V"⟩, 130) := ⟨⟨by decide +kernel, by decide +kernel⟩, List.mem_of_getElem? (i := 1701) (by decide +kernel), List.mem_of_getElem? (i := 2517) (by decide +kernel), List.mem_of_getElem? (i := 2518) (by decide +kernel)⟩
theorem lw_p149 : lw_okq (⟨"DurableLoomModel", "looksAtSchedule", "(I)V"⟩, 130) := ⟨⟨by decide +kernel, by decide +kernel⟩, List.mem_of_getElem? (i := 1701) (by decide +kernel), List.mem_of_getElem? (i := 2521) (by decide +kernel), List.mem_of_getElem? (i := 2522) (by decide +kernel)⟩
theorem lw_p150 : lw_okq (⟨"DurableLoomModel", "isRunning", "(I)Z"⟩, 130) := ⟨⟨by decide +kernel, by decide +kernel⟩, List.mem_of_getElem? (i := 1701) (by decide +kernel), List.mem_of_getElem? (i := 2525) (by decide +kernel), List.mem_of_getElem? (i := 2526) (by decide +kernel)⟩
theorem lw_p151 : lw_okq (⟨"DurableLoomModel", "comes", "(II)V"⟩, 130) := ⟨⟨by decide +kernel, by decide +kernel⟩, List.mem_of_getElem? (i := 1701) (by decide +kernel), List.mem_of_getElem? (i := 2529) (by decide +kernel), List.mem_of_getElem? (i := 2530) (by decide +kernel)⟩
theorem lw_p152 : lw_okq (⟨"DurableLoomModel", "beginsFor", "(II)I"⟩, 130) := ⟨⟨by decide +kernel, by decide +kernel⟩, List.mem_of_getElem? (i := 1701) (by decide +kernel), List.mem_of_getElem? (i := 2533) (by decide +kernel), List.mem_of_getElem? (i := 2534) (by decide +kernel)⟩
theorem lw_p153 : lw_okq (⟨"DurableLoomModel", "point", "(II)V"⟩, 130) := ⟨⟨by decide +kernel, by decide +kernel⟩, List.mem_of_getElem? (i := 1701) (by decide +kernel), List.mem_of_getElem? (i := 2540) (by decide +kernel), List.mem_of_getElem? (i := 2541) (by decide +kernel)⟩
theorem lw_p154 : lw_okq (⟨"DurableLoomModel", "isVersion", "(II)Z"⟩, 130) := ⟨⟨by decide +kernel, by decide +kernel⟩, List.mem_of_getElem? (i := 1701) (by decide +kernel), List.mem_of_getElem? (i := 2548) (by decide +kernel), List.mem_of_getElem? (i := 2549) (by decide +kernel)⟩
theorem lw_p155 : lw_okq (⟨"DurableLoomModel", "taskAt", "(II)I"⟩, 130) := ⟨⟨by decide +kernel, by decide +kernel⟩, List.mem_of_getElem? (i := 1701) (by decide +kernel), List.mem_of_getElem? (i := 2560) (by decide +kernel), List.mem_of_getElem? (i := 2561) (by decide +kernel)⟩
theorem lw_p156 : lw_okq (⟨"DurableLoomModel", "recounts", "(I)V"⟩, 130) := ⟨⟨by decide +kernel, by decide +kernel⟩, List.mem_of_getElem? (i := 1701) (by decide +kernel), List.mem_of_getElem? (i := 2564) (by decide +kernel), List.mem_of_getElem? (i := 2565) (by decide +kernel)⟩
theorem lw_p157 : lw_okq (⟨"DurableLoomModel", "beginsAnew", "(I)V"⟩, 130) := ⟨⟨by decide +kernel, by decide +kernel⟩, List.mem_of_getElem? (i := 1701) (by decide +kernel), List.mem_of_getElem? (i := 2568) (by decide +kernel), List.mem_of_getElem? (i := 2569) (by decide +kernel)⟩
theorem lw_p158 : lw_okq (⟨"DurableLoomModel", "marks", "(I)V"⟩, 130) := ⟨⟨by decide +kernel, by decide +kernel⟩, List.mem_of_getElem? (i := 1701) (by decide +kernel), List.mem_of_getElem? (i := 2572) (by decide +kernel), List.mem_of_getElem? (i := 2573) (by decide +kernel)⟩
theorem lw_p159 : lw_okq (⟨"DurableLoomModel", "isBack", "(I)Z"⟩, 130) := ⟨⟨by decide +kernel, by decide +kernel⟩, List.mem_of_getElem? (i := 1701) (by decide +kernel), List.mem_of_getElem? (i := 2576) (by decide +kernel), List.mem_of_getElem? (i := 2577) (by decide +kernel)⟩
def lw_privs_10 : List (MethodName × Nat) := [(⟨"DurableLoomModel", "goesOnAsNew", "(II)V"⟩, 130), (⟨"DurableLoomModel", "isActivity", "(I)Z"⟩, 130), (⟨"DurableLoomModel", "misses", "(IZ)V"⟩, 130), (⟨"DurableLoomModel", "fires", "()V"⟩, 130), (⟨"DurableLoomModel", "looksAtActivities", "()V"⟩, 130), (⟨"DurableLoomModel", "looksAtSchedule", "(I)V"⟩, 130), (⟨"DurableLoomModel", "isRunning", "(I)Z"⟩, 130), (⟨"DurableLoomModel", "comes", "(II)V"⟩, 130), (⟨"DurableLoomModel", "beginsFor", "(II)I"⟩, 130), (⟨"DurableLoomModel", "point", "(II)V"⟩, 130), (⟨"DurableLoomModel", "isVersion", "(II)Z"⟩, 130), (⟨"DurableLoomModel", "taskAt", "(II)I"⟩, 130), (⟨"DurableLoomModel", "recounts", "(I)V"⟩, 130), (⟨"DurableLoomModel", "beginsAnew", "(I)V"⟩, 130), (⟨"DurableLoomModel", "marks", "(I)V"⟩, 130), (⟨"DurableLoomModel", "isBack", "(I)Z"⟩, 130)]
theorem lw_r10 : ∀ q ∈ lw_privs_10, lw_okq q := List.forall_mem_cons.mpr ⟨lw_p144, List.forall_mem_cons.mpr ⟨lw_p145, List.forall_mem_cons.mpr ⟨lw_p146, List.forall_mem_cons.mpr ⟨lw_p147, List.forall_mem_cons.mpr ⟨lw_p148, List.forall_mem_cons.mpr ⟨lw_p149, List.forall_mem_cons.mpr ⟨lw_p150, List.forall_mem_cons.mpr ⟨lw_p151, List.forall_mem_cons.mpr ⟨lw_p152, List.forall_mem_cons.mpr ⟨lw_p153, List.forall_mem_cons.mpr ⟨lw_p154, List.forall_mem_cons.mpr ⟨lw_p155, List.forall_mem_cons.mpr ⟨lw_p156, List.forall_mem_cons.mpr ⟨lw_p157, List.forall_mem_cons.mpr ⟨lw_p158, List.forall_mem_cons.mpr ⟨lw_p159, fun _ h => absurd h List.not_mem_nil⟩⟩⟩⟩⟩⟩⟩⟩⟩⟩⟩⟩⟩⟩⟩⟩
theorem lw_p160 : lw_okq (⟨"DurableLoomModel", "cutsRun", "(I)I"⟩, 130) := ⟨⟨by decide +kernel, by decide +kernel⟩, List.mem_of_getElem? (i := 1701) (by decide +kernel), List.mem_of_getElem? (i := 2591) (by decide +kernel), List.mem_of_getElem? (i := 2592) (by decide +kernel)⟩
theorem lw_p161 : lw_okq (⟨"DurableLoomModel", "isSchedule", "(I)Z"⟩, 130) := ⟨⟨by decide +kernel, by decide +kernel⟩, List.mem_of_getElem? (i := 1701) (by decide +kernel), List.mem_of_getElem? (i := 2607) (by decide +kernel), List.mem_of_getElem? (i := 2608) (by decide +kernel)⟩
def lw_privs_11 : List (MethodName × Nat) := [(⟨"DurableLoomModel", "cutsRun", "(I)I"⟩, 130), (⟨"DurableLoomModel", "isSchedule", "(I)Z"⟩, 130)]
theorem lw_r11 : ∀ q ∈ lw_privs_11, lw_okq q := List.forall_mem_cons.mpr ⟨lw_p160, List.forall_mem_cons.mpr ⟨lw_p161, fun _ h => absurd h List.not_mem_nil⟩⟩
def lw_privs : List (MethodName × Nat) := lw_privs_1 ++ (lw_privs_2 ++ (lw_privs_3 ++ (lw_privs_4 ++ (lw_privs_5 ++ (lw_privs_6 ++ (lw_privs_7 ++ (lw_privs_8 ++ (lw_privs_9 ++ (lw_privs_10 ++ (lw_privs_11))))))))))
def lw_tbl : List Cond := k2_sels lw_privs ++ tables_1
theorem lw_privs_ok : ∀ q ∈ lw_privs, lw_okq q := by
  show ∀ q ∈ lw_privs_1 ++ (lw_privs_2 ++ (lw_privs_3 ++ (lw_privs_4 ++ (lw_privs_5 ++ (lw_privs_6 ++ (lw_privs_7 ++ (lw_privs_8 ++ (lw_privs_9 ++ (lw_privs_10 ++ (lw_privs_11)))))))))), lw_okq q
  exact List.forall_mem_append.mpr ⟨lw_r1, List.forall_mem_append.mpr ⟨lw_r2, List.forall_mem_append.mpr ⟨lw_r3, List.forall_mem_append.mpr ⟨lw_r4, List.forall_mem_append.mpr ⟨lw_r5, List.forall_mem_append.mpr ⟨lw_r6, List.forall_mem_append.mpr ⟨lw_r7, List.forall_mem_append.mpr ⟨lw_r8, List.forall_mem_append.mpr ⟨lw_r9, List.forall_mem_append.mpr ⟨lw_r10, lw_r11⟩⟩⟩⟩⟩⟩⟩⟩⟩⟩
-- ===== end of PART A; then your names; then what follows =====
end
section
/-! ===== BEGIN words of one list among another's, by their places ===== -/
theorem goodIn_r {big : List Cond} (ws : List Cond) (ps : List Nat) (hp : ws = ps.filterMap (fun i => big[i]?)) (h : ws.all goodWord = true) : GoodIn big ws := by
  intro w hw
  have h1 := List.all_eq_true.mp h w hw
  rw [hp] at hw
  obtain ⟨i, -, hi⟩ := List.mem_filterMap.mp hw
  have hm : w ∈ big := by first | exact List.mem_of_getElem? hi | exact List.getElem?_mem hi
  exact ⟨hm, good_of_word h1⟩
theorem goodIn_app {big a b : List Cond} (ha : GoodIn big a) (hb : GoodIn big b) : GoodIn big (a ++ b) := fun w h => (List.mem_append.mp h).elim (ha w) (hb w)
theorem goodIn_ca {big a b : List Cond} {c : Cond} (ha : GoodIn big (c :: a)) (hb : GoodIn big b) : GoodIn big (c :: (a ++ b)) := fun w h => (List.mem_cons.mp h).elim (fun e => ha w (List.mem_cons.mpr (Or.inl e))) (fun h => (List.mem_append.mp h).elim (fun h => ha w (List.mem_cons.mpr (Or.inr h))) (hb w))
theorem goodIn_sub {big ws : List Cond} (hm : ∀ w ∈ ws, w ∈ big) (h : ws.all goodWord = true) : GoodIn big ws := fun w hw => ⟨hm w hw, good_of_word (List.all_eq_true.mp h w hw)⟩
/-! ===== END ===== -/

/-! ===== BEGIN exceptions that leave a method, and their catching by the caller (launches without stack traces) ===== -/
section VXA
/-! The laws vx_back, vx_callV, vx_callS, vx_callSW, vx_throw0, vx_throwS follow proofs of the library, with one case more: JvmDerived/Free/Laws.lean (Back.of_free), Shelf42/LK1.lean (callV, callS), Shelf/KitTraced.lean (throwNew0V, throwNewS). -/
/-- where a method has thrown q: the class by its name, the cell, what was written, the world -/
def vx_T (XC : String → State → State → Prop) (st : State) (q : Addr) (t : State) (mc ms : Nat) (free : Addr → Prop) : Prop :=
  ∃ (E : String) (ce : Cell) (L : List Loc), XC E st t ∧ t.heap[q]? = some ce ∧ ce.vm = .none ∧ st.vm.findClass E = some ce.cls ∧ st.WarmedH t.vm ∧ st.sameButNew ({ t with vm := st.vm } : State) L mc ms ∧ ∀ z ∈ L, free z.base
def vx_Q (Qc : Array Value → State → Outcome → State → Prop) (XC : String → State → State → Prop) (mc ms : Nat) (free : Addr → Prop) : Array Value → State → Outcome → State → Prop := fun a st o t =>
  (Qc a st o t ∧ ∃ L, FrameEnd st o t L mc ms ∧ ∀ q ∈ L, free q.base) ∨ ∃ q, o = .threw q ∧ vx_T XC st q t mc ms free
/-- a callee that returns or throws -/
def vx_Met (l : Launch) (y : MethodName) (ws : List Cond) (rm : Room) (Pc : Array Value → State → Prop) (Qc : Array Value → State → Outcome → State → Prop) (XC : String → State → State → Prop) (mc ms : Nat) (free : Addr → Prop) : Prop :=
  MetFree l y (headSpec ws rm) Pc (fun _ _ _ _ _ => True) (vx_Q Qc XC mc ms free)
def vx_Post (XC : String → State → State → Prop) (mc ms : Nat) (free : Addr → Prop) : Pt → Array Value → Addr → Pt → Prop := fun A a q B =>
  ∃ (g : JFrame) (mk : MethodId) (t : State) (L : List Loc) (E : String) (ce : Cell), B.U.heap = t.heap ∧ B.U.vm = t.vm ∧ XC E (A.U.calling g mk a) t ∧ t.heap[q]? = some ce ∧ ce.vm = .none ∧ A.U.vm.findClass E = some ce.cls ∧ B.locs = A.locs ++ L ∧ (∀ z ∈ L, free z.base) ∧ B.cells = A.cells + mc ∧ B.slots = A.slots + ms
def vx_Back (l : Launch) (R : Room) (p : Program) (e : Env) (below : List Frame) (s : State) (sargs : Array Value) (y : MethodName) (len W9 : Nat)
    (Pre : Pt → Array Value → Prop) (Post : Pt → Array Value → Option Value → Pt → Prop) (PostX : Pt → Array Value → Addr → Pt → Prop) : Prop :=
  ∀ (m : MethodId) (meth : Method) (c : Code) (A : Pt) (g : JFrame) (ig : Instr) (mk : MethodId) (a : Array Value),
    Stand p l e R s m sargs below meth c A.U A.locs A.cells A.slots → g.method = m → g.locals.size = c.maxLocals → decode c.code g.pc = .ok (ig, len) →
    2 * g.monitorRoom + (g.stack.map fun v => v.category).sum ≤ W9 → A.U.methodNamed? y = some mk → Pre A a →
    (∃ (v : Option Value) (B : Pt), Stand p l e R s m sargs below meth c B.U B.locs B.cells B.slots ∧ Post A a v B ∧
      Steps p.tables e below (doInvoke e (A.U.setTop g) [] mk a).1 (B.U.setTop { g with pc := g.pc + len, stack := v.toList ++ g.stack })) ∨
    (∃ (q : Addr) (B : Pt), Stand p l e R s m sargs below meth c B.U B.locs B.cells B.slots ∧ PostX A a q B ∧
      Steps p.tables e below (doInvoke e (A.U.setTop g) [] mk a).1 ((B.U.setTop g).pushFrame (.throwing q)))
section Payer
variable {l : Launch} {R : Room} {p : Program} {e : Env} {below : List Frame} {s : State} {sargs : Array Value} {y : MethodName} {len W9 : Nat}
theorem vx_back {ws : List Cond} {rm : Room} {Pc : Array Value → State → Prop} {Qc : Array Value → State → Outcome → State → Prop} {XC : String → State → State → Prop} {mc ms : Nat} {free : Addr → Prop} {bytes : ByteArray} {maxL : Nat} {ret : Option FieldType}
    (hM : vx_Met l y ws rm Pc Qc XC mc ms free) (hblind : FrameBlind Pc) (hrc : rm.cells = mc) (hrs : rm.slots = ms)
    (hframes : rm.frames + 1 ≤ R.frames) (hlocals : W9 + (maxL + 11) + rm.locals ≤ R.locals)
    (hws : ∀ w ∈ ws, ∀ a' U, s.WarmedH U.vm → w.before a' U = true) (hcode : Cond.code y bytes maxL ret ∈ ws) (hinit : ∀ a' U, s.WarmedH U.vm → (Cond.initialized y.cls).before a' U = true) :
    vx_Back l R p e below s sargs y len W9 (PreOf R mc ms Pc) (PostOf Qc mc ms free) (vx_Post XC mc ms free) := by
  intro m meth c A g ig mk a X hg hsize hdg hW hn hp
  have h1 : (headSpec ws rm).pre.before a A.U = true := atoms_intro fun w hw => hws w hw _ _ X.warmed
  have h2 : (Cond.code y bytes maxL ret).before a A.U = true := hws _ hcode _ _ X.warmed
  have h3 : (Cond.initialized y.cls).before a A.U = true := hinit _ _ X.warmed
  have h4 : A.cells + (headSpec ws rm).room.cells ≤ R.cells := by rw [show (headSpec ws rm).room.cells = mc from hrc]; exact hp.1
  have h5 : A.slots + (headSpec ws rm).room.slots ≤ R.slots := by rw [show (headSpec ws rm).room.slots = ms from hrs]; exact hp.2.1
  have hPc : Pc a (A.U.calling g mk a) := hblind _ _ _ _ hp.2.2
  obtain ⟨U, Ls, c0, s0⟩ := A
  dsimp only [Pt.U, Pt.locs, Pt.cells, Pt.slots] at h1 h2 h3 h4 h5 X hn hPc ⊢
  obtain ⟨methY, cY, hmY, hcY, -, hlY, -, -, -, -⟩ := Cond.code_spec hn h2
  obtain ⟨kY, hkY, -⟩ := className_of_methodNamed hn
  have hinitY : kY.init = .initialized := Cond.initialized_spec (findClass_of_methodNamed hn) hkY h3
  have h : At U g.method c below := by rw [hg]; exact X.here
  have hlocals9 : W9 + (maxL + 11) + (headSpec ws rm).room.locals ≤ R.locals := hlocals
  have happ : (headSpec ws rm).appliesLoose y e.platform (U.calling g mk a) = true :=
    Spec.appliesLoose_calling (g := g) h hdg hn hkY hinitY
      (X.room_calling (g := g) (R' := (headSpec ws rm).room) hsize hmY hcY hframes (by rw [hlY]; omega) h4 h5) h1
  obtain ⟨mid, hmid⟩ := h.above
  have hfr : (U.setTop g).frames = (.java g :: mid) ++ below := by rw [State.frames_setTop' g h.top, hmid]; rfl
  obtain ⟨o, s₂, hsteps, -, hend, hq⟩ := Steps.callFree hM p X.admits X.cas X.clock (acts := []) hfr happ hPc trivial
  have hq' : vx_Q Qc XC mc ms free a (U.calling g mk a) o s₂ := hq
  rw [State.frames_setTop' g h.top] at hend
  obtain ⟨g₀, hg0⟩ := Option.isSome_iff_exists.mp h.top
  obtain ⟨r, hr⟩ := State.topJava?_eq_some.mp hg0
  have hr' : (({ U with heap := s₂.heap, slotsUsed := s₂.slotsUsed } : State).setVm s₂.vm).frames = .java g₀ :: r := hr
  rcases hq' with ⟨hqc, L, hfe, hL⟩ | ⟨q, rfl, E, ce, L, hx, hce, hcv, hcl, hW₂, hsm, hL⟩
  · obtain ⟨⟨v, rfl⟩, hW₂, e2, q2, q3, q4, q5, q6⟩ := id hfe
    have e3 : s₂ = ({ (U.calling g mk a).setFrames s₂.frames with heap := s₂.heap, slotsUsed := s₂.slotsUsed } : State).setVm s₂.vm := by
      have : s₂ = ({ s₂ with vm := (U.calling g mk a).vm } : State).setVm s₂.vm := rfl
      rw [e2] at this
      exact this
    obtain ⟨c₂, i₂, len₂, hc₂, hd₂, hf₂⟩ := hend
    have hW' : U.WarmedH s₂.vm := hW₂
    have hcc : c₂ = c := by
      have h1 : s₂.code? g.method = U.code? g.method := by
        rw [State.code?_eq, State.code?_eq, hW'.alike.method?]
      exact Option.some.inj (hc₂.symm.trans (h1.trans h.code))
    subst hcc
    have hlen : len₂ = len := by rw [hdg] at hd₂; cases hd₂; rfl
    subst hlen
    have hs₂ : s₂ = (({ U with heap := s₂.heap, slotsUsed := s₂.slotsUsed } : State).setVm s₂.vm).setTop { g with pc := g.pc + len₂, stack := v.toList ++ g.stack } := by
      refine e3.trans ?_
      rw [hf₂, State.calling_eq h.top, State.setFrames_setFrames, State.setTop_of_frames _ hr', hr]
      rfl
    have hsame : U.sameButNew ({ U with heap := s₂.heap, slotsUsed := s₂.slotsUsed } : State) L mc ms := by
      refine ⟨?_, q2, q3, q4, q5, q6⟩
      obtain ⟨t, ht, -⟩ := State.frames_cons hr
      show ({ U with heap := s₂.heap, slotsUsed := s₂.slotsUsed } : State) = { U.setFrames U.frames with heap := s₂.heap, slotsUsed := s₂.slotsUsed }
      rw [State.setFrames_self ht]
    subst hg
    refine Or.inl ⟨v, ⟨(({ U with heap := s₂.heap, slotsUsed := s₂.slotsUsed } : State).setVm s₂.vm), Ls ++ L, c0 + mc, s0 + ms⟩,
      ⟨X.admits, X.cas, X.clock, X.frames, X.room, X.hears, X.method, X.code, (X.here.setHeapUsed s₂.heap s₂.slotsUsed).setVm hW'.alike, X.tail, State.WarmedH.trans X.warmed hW', X.limits, X.bytes, X.same.trans (hsame.setVm s.vm)⟩,
      ⟨g, mk, s₂, L, rfl, rfl, hqc, rfl, hL, rfl, rfl⟩, ?_⟩
    show Steps p.tables e below _ ((({ U with heap := s₂.heap, slotsUsed := s₂.slotsUsed } : State).setVm s₂.vm).setTop { g with pc := g.pc + len₂, stack := v.toList ++ g.stack })
    rw [← hs₂]
    exact hsteps
  · obtain ⟨e2, q2, q3, q4, q5, q6⟩ := id hsm
    have e3 : s₂ = ({ (U.calling g mk a).setFrames s₂.frames with heap := s₂.heap, slotsUsed := s₂.slotsUsed } : State).setVm s₂.vm := by
      have : s₂ = ({ s₂ with vm := (U.calling g mk a).vm } : State).setVm s₂.vm := rfl
      rw [e2] at this
      exact this
    have hf₂ : s₂.frames = .throwing q :: .java g :: U.frames.tail := hend
    have hW' : U.WarmedH s₂.vm := hW₂
    have hs₂ : s₂ = ((({ U with heap := s₂.heap, slotsUsed := s₂.slotsUsed } : State).setVm s₂.vm).setTop g).pushFrame (.throwing q) := by
      refine e3.trans ?_
      rw [hf₂, State.calling_eq h.top, State.setFrames_setFrames, State.pushFrame, State.frames_setTop _ hr', State.setTop_of_frames _ hr', State.setFrames_setFrames, hr]
      rfl
    have hsame : U.sameButNew ({ U with heap := s₂.heap, slotsUsed := s₂.slotsUsed } : State) L mc ms := by
      refine ⟨?_, q2, q3, q4, q5, q6⟩
      obtain ⟨t, ht, -⟩ := State.frames_cons hr
      show ({ U with heap := s₂.heap, slotsUsed := s₂.slotsUsed } : State) = { U.setFrames U.frames with heap := s₂.heap, slotsUsed := s₂.slotsUsed }
      rw [State.setFrames_self ht]
    subst hg
    refine Or.inr ⟨q, ⟨(({ U with heap := s₂.heap, slotsUsed := s₂.slotsUsed } : State).setVm s₂.vm), Ls ++ L, c0 + mc, s0 + ms⟩,
      ⟨X.admits, X.cas, X.clock, X.frames, X.room, X.hears, X.method, X.code, (X.here.setHeapUsed s₂.heap s₂.slotsUsed).setVm hW'.alike, X.tail, State.WarmedH.trans X.warmed hW', X.limits, X.bytes, X.same.trans (hsame.setVm s.vm)⟩,
      ⟨g, mk, s₂, L, E, ce, rfl, rfl, hx, hce, hcv, hcl, rfl, hL, rfl, rfl⟩, ?_⟩
    show Steps p.tables e below _ (((({ U with heap := s₂.heap, slotsUsed := s₂.slotsUsed } : State).setVm s₂.vm).setTop g).pushFrame (.throwing q))
    rw [← hs₂]
    exact hsteps
end Payer
section Calls
variable {p : Program} {l : Launch} {e : Env} {R : Room} {s : State} {m : MethodId} {args : Array Value} {below : List Frame} {meth : Method} {c : Code} {T : State} {locs : List Loc} {cells slots : Nat}
theorem vx_callV (X : Stand p l e R s m args below meth c T locs cells slots) (hexec : p.tables.exec = Jvm.exec) {own C : String} {index : Nat} {y : MethodName} {bytes : ByteArray} {maxL : Nat} {ret : Option FieldType}
    (hown : s.vm.findClass own = some m.cls) (hlink : (Cond.methodLink own index y).before args s = true) (hinst : (Cond.instanceMethod y).before args s = true) (hsel : (Cond.selects C y y).before args s = true)
    (hcode : (Cond.code y bytes maxL ret).before args s = true) (hy : y.cls ≠ "java/lang/invoke/MethodHandle" ∧ y.cls ≠ "java/lang/invoke/VarHandle")
    {W9 : Nat} {Pre : Pt → Array Value → Prop} {Post : Pt → Array Value → Option Value → Pt → Prop} {PostX : Pt → Array Value → Addr → Pt → Prop} (hK : vx_Back l R p e below s args y 3 W9 Pre Post PostX)
    {b : Addr} {cellB : Cell} (hcell : T.heap[b]? = some cellB) (hobj : cellB.vm.isStatics = false) (hcls : s.vm.findClass C = some cellB.cls)
    {g : JFrame} (hg : g.method = m) (hsize : g.locals.size = c.maxLocals) {argsL rest : List Value} (hlen : ∀ sig, parseMethodDescriptor y.desc = some sig → argsL.length = sig.parameters.length)
    (hstack : g.stack = argsL.reverse ++ .ref b :: rest) (hW : 2 * g.monitorRoom + (rest.map fun v => v.category).sum ≤ W9) (hdg : decode c.code g.pc = .ok (.invokevirtual index, 3))
    (hpre : ∀ vm₁, s.WarmedH vm₁ → Pre ⟨T.setVm vm₁, locs, cells, slots⟩ (Value.ref b :: argsL).toArray) :
    (∃ (v : Option Value) (vm₁ : Vm) (B : Pt), s.WarmedH vm₁ ∧ Stand p l e R s m args below meth c B.U B.locs B.cells B.slots ∧ Post ⟨T.setVm vm₁, locs, cells, slots⟩ (Value.ref b :: argsL).toArray v B ∧
      ∀ target, Steps p.tables e below (B.U.setTop { g with pc := g.pc + 3, stack := v.toList ++ rest }) target → Steps p.tables e below (T.setTop g) target) ∨
    (∃ (q : Addr) (vm₁ : Vm) (B : Pt), s.WarmedH vm₁ ∧ Stand p l e R s m args below meth c B.U B.locs B.cells B.slots ∧ PostX ⟨T.setVm vm₁, locs, cells, slots⟩ (Value.ref b :: argsL).toArray q B ∧
      Steps p.tables e below (T.setTop g) ((B.U.setTop { g with stack := rest }).pushFrame (.throwing q))) := by
  obtain ⟨mk, methM, hnamed, hmethM, hstM, habM⟩ := Cond.instanceMethod_spec hinst
  obtain ⟨methM', cM, hmethM', -, -, -, -, -, -, hsigM⟩ := Cond.code_spec hnamed hcode
  cases hmethM.symm.trans hmethM'
  obtain ⟨c2, r2, m2, q1, q2, q3, q4, kP, hkP, hkPi⟩ := Cond.selects_spec hsel
  cases hcls.symm.trans q1
  cases (State.methodFound?_of_named hnamed hy).symm.trans q2
  cases hnamed.symm.trans q3
  have hselP : selectMethod e.platform s.vm cellB.cls mk = .method mk := by rw [Launch.admits_selectMethod X.admits]; exact q4
  obtain ⟨vm₁, X₁, hstep₁⟩ := X.invokevirtual hexec hown hlink hnamed hmethM hstM hkP hkPi hy (a := b) (cell := cellB) hcell
    (fun z h => by rw [h] at hobj; cases hobj) hselP hmethM habM hkP hkPi (g := g) hg (argsL := argsL) (rest := rest) (hlen _ hsigM) hstack hdg
  rcases hK m meth c ⟨T.setVm vm₁, locs, cells, slots⟩ { g with stack := rest } (.invokevirtual index) mk (Value.ref b :: argsL).toArray X₁ hg hsize hdg hW (X₁.named hnamed) (hpre vm₁ X₁.warmed) with ⟨v, B, X', hpost, hsteps⟩ | ⟨q, B, X', hpost, hsteps⟩
  · exact Or.inl ⟨v, vm₁, B, X₁.warmed, X', hpost, fun target h => hstep₁ _ fun acts => by rw [doInvoke_state]; exact hsteps.trans h⟩
  · exact Or.inr ⟨q, vm₁, B, X₁.warmed, X', hpost, hstep₁ _ fun acts => by rw [doInvoke_state]; exact hsteps⟩
theorem vx_callS (X : Stand p l e R s m args below meth c T locs cells slots) (hexec : p.tables.exec = Jvm.exec) {own : String} {index : Nat} {y : MethodName} {bytes : ByteArray} {maxL : Nat} {ret : Option FieldType}
    (hown : s.vm.findClass own = some m.cls) (hlink : (Cond.methodLink own index y).before args s = true) (hstat : (Cond.static y).before args s = true) (hinit : (Cond.initialized y.cls).before args s = true)
    (hcode : (Cond.code y bytes maxL ret).before args s = true) (hy : y.cls ≠ "java/lang/invoke/MethodHandle" ∧ y.cls ≠ "java/lang/invoke/VarHandle")
    {W9 : Nat} {Pre : Pt → Array Value → Prop} {Post : Pt → Array Value → Option Value → Pt → Prop} {PostX : Pt → Array Value → Addr → Pt → Prop} (hK : vx_Back l R p e below s args y 3 W9 Pre Post PostX)
    {g : JFrame} (hg : g.method = m) (hsize : g.locals.size = c.maxLocals) {argsL rest : List Value} (hlen : ∀ sig, parseMethodDescriptor y.desc = some sig → argsL.length = sig.parameters.length)
    (hstack : g.stack = argsL.reverse ++ rest) (hW : 2 * g.monitorRoom + (rest.map fun v => v.category).sum ≤ W9) (hdg : decode c.code g.pc = .ok (.invokestatic index, 3))
    (hpre : ∀ vm₁, s.WarmedH vm₁ → Pre ⟨T.setVm vm₁, locs, cells, slots⟩ argsL.toArray) :
    (∃ (v : Option Value) (vm₁ : Vm) (B : Pt), s.WarmedH vm₁ ∧ Stand p l e R s m args below meth c B.U B.locs B.cells B.slots ∧ Post ⟨T.setVm vm₁, locs, cells, slots⟩ argsL.toArray v B ∧
      ∀ target, Steps p.tables e below (B.U.setTop { g with pc := g.pc + 3, stack := v.toList ++ rest }) target → Steps p.tables e below (T.setTop g) target) ∨
    (∃ (q : Addr) (vm₁ : Vm) (B : Pt), s.WarmedH vm₁ ∧ Stand p l e R s m args below meth c B.U B.locs B.cells B.slots ∧ PostX ⟨T.setVm vm₁, locs, cells, slots⟩ argsL.toArray q B ∧
      Steps p.tables e below (T.setTop g) ((B.U.setTop { g with stack := rest }).pushFrame (.throwing q))) := by
  obtain ⟨mk, hnamed⟩ := Cond.code_named hcode
  obtain ⟨methM, cM, hmethM, -, -, -, -, -, -, hsigM⟩ := Cond.code_spec hnamed hcode
  have hstatic : methM.isStatic = true := Cond.static_spec hnamed hmethM hstat
  obtain ⟨kP, hkP, -⟩ := className_of_methodNamed hnamed
  have hinitP : kP.init = .initialized := Cond.initialized_spec (findClass_of_methodNamed hnamed) hkP hinit
  obtain ⟨vm₁, X₁, hstep₁⟩ := X.invokestatic hexec hown hlink hnamed hmethM hstatic hkP hinitP hy (g := g) hg (argsL := argsL) (rest := rest) (hlen _ hsigM) hstack hdg
  rcases hK m meth c ⟨T.setVm vm₁, locs, cells, slots⟩ { g with stack := rest } (.invokestatic index) mk argsL.toArray X₁ hg hsize hdg hW (X₁.named hnamed) (hpre vm₁ X₁.warmed) with ⟨v, B, X', hpost, hsteps⟩ | ⟨q, B, X', hpost, hsteps⟩
  · exact Or.inl ⟨v, vm₁, B, X₁.warmed, X', hpost, fun target h => hstep₁ _ fun acts => by rw [doInvoke_state]; exact hsteps.trans h⟩
  · exact Or.inr ⟨q, vm₁, B, X₁.warmed, X', hpost, hstep₁ _ fun acts => by rw [doInvoke_state]; exact hsteps⟩
end Calls
theorem vx_cls {s : State} {T : State} {vm₁ : Vm} {E : String} {k : ClassId} (hW : s.WarmedH vm₁) (h : (T.setVm vm₁).vm.findClass E = some k) : s.vm.findClass E = some k := by
  have h1 : vm₁.findClass E = some k := h
  rw [hW.alike.findClass] at h1
  exact h1
/-- the method's frame g, with q thrown over it -/
def vx_W (p : Program) (l : Launch) (e : Env) (R : Room) (s : State) (m : MethodId) (args : Array Value) (below : List Frame) (meth : Method) (c : Code) (H : Heap) (locs : List Loc) (cells slots : Nat) (Q : State → Prop) (g : JFrame) (q : Addr) : Prop :=
  ∀ T : State, T.heap = H → Stand p l e R s m args below meth c T locs cells slots → ∃ t, Steps p.tables e below ((T.setTop g).pushFrame (.throwing q)) t ∧ Q t
def vx_Run (p : Program) (l : Launch) (e : Env) (R : Room) (s : State) (m : MethodId) (args : Array Value) (below : List Frame) (meth : Method) (c : Code) (H : Heap) (locs : List Loc) (cells slots mc ms : Nat) (g : JFrame) (rest : List Value) (Qa : State → Outcome → State → Prop) (XC : String → State → State → Prop) (free : Addr → Prop) : Prop :=
  ∀ T : State, T.heap = H → Stand p l e R s m args below meth c T locs cells slots →
    (∃ (v : Option Value) (st₀ t T' : State) (L : List Loc), st₀.heap = H ∧ Stand p l e R s m args below meth c T' (locs ++ L) (cells + mc) (slots + ms) ∧ (∀ q ∈ L, free q.base) ∧ T'.heap = t.heap ∧ T'.vm = t.vm ∧ Qa st₀ (.returned v) t ∧
      Goes p e below T g T' { g with pc := g.pc + 3, stack := v.toList ++ rest }) ∨
    (∃ (q : Addr) (st₀ t T' : State) (L : List Loc) (E : String) (ce : Cell), st₀.heap = H ∧ Stand p l e R s m args below meth c T' (locs ++ L) (cells + mc) (slots + ms) ∧ (∀ z ∈ L, free z.base) ∧ T'.heap = t.heap ∧ T'.vm = t.vm ∧ XC E st₀ t ∧ t.heap[q]? = some ce ∧ ce.vm = .none ∧ s.vm.findClass E = some ce.cls ∧
      Steps p.tables e below (T.setTop g) ((T'.setTop { g with stack := rest }).pushFrame (.throwing q)))
def vx_X {S : Type} (px : S → Prop) (B : String → S → State → Prop) (A : Nat → Prop) : String → State → State → Prop := fun E st t => ∃ u : S, px u ∧ B E u t ∧ va_F A st t
section Runs
variable {p : Program} {l : Launch} {e : Env} {R : Room} {s : State} {m : MethodId} {args : Array Value} {below : List Frame} {meth : Method} {c : Code} {H : Heap} {locs : List Loc} {cells slots : Nat}
variable {y : MethodName} {bytes cc : ByteArray} {maxL nL mc ms n index : Nat} {ret : Option FieldType} {ws : List Cond} {rm : Room} {Pc : Array Value → State → Prop} {Qc : Array Value → State → Outcome → State → Prop} {XC : String → State → State → Prop} {free : Addr → Prop} {Ts : List Cond} {own C : String} {b : Addr} {As rest : List Value} {g : JFrame}
theorem vx_callBack (cb : CallB R s args own index y bytes maxL ret ws rm mc ms n) (hM : vx_Met l y ws rm Pc Qc XC mc ms free) (hbl : FrameBlind Pc) : vx_Back l R p e below s args y 3 8 (PreOf R mc ms Pc) (PostOf Qc mc ms free) (vx_Post XC mc ms free) := by
  obtain ⟨hrc, hrs, hfr, hlo, hws, hcw, -, hini, -⟩ := cb
  exact vx_back (bytes := bytes) (maxL := maxL) (ret := ret) hM hbl hrc hrs hfr hlo hws hcw (fun a' U hW => word_at hW (Or.inl (by first | rfl | simp [Cond.onTables, Cond.keeps, Cond.steady])) hini)
theorem vx_runV (S : CallFix p m c cc nL s args Ts own) (hM : vx_Met l y ws rm Pc Qc XC mc ms free) (cw : CallW R s args own C index y bytes maxL ret ws rm mc ms n) (hp : PreV s H C b Pc As)
    (hg : g.method = m) (hn : As.length = n) (hsize : g.locals.size = nL) (hstack : g.stack = As.reverse ++ .ref b :: rest) (hW : 2 * g.monitorRoom + (rest.map fun v => v.category).sum ≤ 8) (hdg : decode cc g.pc = .ok (.invokevirtual index, 3)) (hf : cells + mc ≤ R.cells ∧ slots + ms ≤ R.slots) :
    vx_Run p l e R s m args below meth c H locs cells slots mc ms g rest (Qc (Value.ref b :: As).toArray) XC free := by
  have hK : vx_Back l R p e below s args y 3 8 (PreOf R mc ms Pc) (PostOf Qc mc ms free) (vx_Post XC mc ms free) := vx_callBack cw.1 hM hp.1
  obtain ⟨⟨-, -, -, -, -, -, hcode, -, hy, hlen, hl⟩, hin, hse⟩ := cw
  obtain ⟨hx, hb, hml, ho, -⟩ := S
  obtain ⟨-, ⟨cellB, hcB, hoB, hclB⟩, hPc⟩ := hp
  intro T hT X
  rcases vx_callV X hx (C := C) (bytes := bytes) (maxL := maxL) (ret := ret) ho hl hin hse hcode hy hK (by rw [hT]; exact hcB) hoB hclB hg (hsize.trans hml.symm) (argsL := As) (rest := rest) (fun sig h => hn.trans (hlen sig h)) hstack hW (by rw [hb]; exact hdg)
    (fun vm₁ hW₁ => ⟨hf.1, hf.2, hPc (T.setVm vm₁) hT hW₁⟩) with ⟨v, vm₁, ⟨U', l2, c2, s2⟩, hW₁, X', ⟨g', mk, t, L, e1, e2, hq, h1, hL, h2, h3⟩, st⟩ | ⟨q, vm₁, ⟨U', l2, c2, s2⟩, hW₁, X', ⟨g', mk, t, L, E, ce, e1, e2, hq, hce, hcv, hcl, h1, hL, h2, h3⟩, st⟩
  · dsimp only [Pt.U, Pt.locs, Pt.cells, Pt.slots] at X' e1 e2 h1 h2 h3 st
    subst h1; subst h2; subst h3
    exact Or.inl ⟨v, (T.setVm vm₁).calling g' mk (Value.ref b :: As).toArray, t, U', L, hT, X', hL, e1, e2, hq, st⟩
  · dsimp only [Pt.U, Pt.locs, Pt.cells, Pt.slots] at X' e1 e2 h1 h2 h3 st hcl
    subst h1; subst h2; subst h3
    exact Or.inr ⟨q, (T.setVm vm₁).calling g' mk (Value.ref b :: As).toArray, t, U', L, E, ce, hT, X', hL, e1, e2, hq, hce, hcv, vx_cls hW₁ hcl, st⟩
theorem vx_runS (S : CallFix p m c cc nL s args Ts own) (hM : vx_Met l y ws rm Pc Qc XC mc ms free) (cw : CallB R s args own index y bytes maxL ret ws rm mc ms n ∧ (Cond.static y).before args s = true) (hp : PreS s H Pc As)
    (hg : g.method = m) (hn : As.length = n) (hsize : g.locals.size = nL) (hstack : g.stack = As.reverse ++ rest) (hW : 2 * g.monitorRoom + (rest.map fun v => v.category).sum ≤ 8) (hdg : decode cc g.pc = .ok (.invokestatic index, 3)) (hf : cells + mc ≤ R.cells ∧ slots + ms ≤ R.slots) :
    vx_Run p l e R s m args below meth c H locs cells slots mc ms g rest (Qc As.toArray) XC free := by
  have hK : vx_Back l R p e below s args y 3 8 (PreOf R mc ms Pc) (PostOf Qc mc ms free) (vx_Post XC mc ms free) := vx_callBack cw.1 hM hp.1
  obtain ⟨⟨-, -, -, -, -, -, hcode, hini, hy, hlen, hl⟩, hstt⟩ := cw
  obtain ⟨hx, hb, hml, ho, -⟩ := S
  intro T hT X
  rcases vx_callS X hx (bytes := bytes) (maxL := maxL) (ret := ret) ho hl hstt hini hcode hy hK hg (hsize.trans hml.symm) (argsL := As) (rest := rest) (fun sig h => hn.trans (hlen sig h)) hstack hW (by rw [hb]; exact hdg)
    (fun vm₁ hW₁ => ⟨hf.1, hf.2, hp.2 (T.setVm vm₁) hT hW₁⟩) with ⟨v, vm₁, ⟨U', l2, c2, s2⟩, hW₁, X', ⟨g', mk, t, L, e1, e2, hq, h1, hL, h2, h3⟩, st⟩ | ⟨q, vm₁, ⟨U', l2, c2, s2⟩, hW₁, X', ⟨g', mk, t, L, E, ce, e1, e2, hq, hce, hcv, hcl, h1, hL, h2, h3⟩, st⟩
  · dsimp only [Pt.U, Pt.locs, Pt.cells, Pt.slots] at X' e1 e2 h1 h2 h3 st
    subst h1; subst h2; subst h3
    exact Or.inl ⟨v, (T.setVm vm₁).calling g' mk As.toArray, t, U', L, hT, X', hL, e1, e2, hq, st⟩
  · dsimp only [Pt.U, Pt.locs, Pt.cells, Pt.slots] at X' e1 e2 h1 h2 h3 st hcl
    subst h1; subst h2; subst h3
    exact Or.inr ⟨q, (T.setVm vm₁).calling g' mk As.toArray, t, U', L, E, ce, hT, X', hL, e1, e2, hq, hce, hcv, vx_cls hW₁ hcl, st⟩
end Runs
section Rows
variable {p : Program} {l : Launch} {e : Env} {R : Room} {s : State} {m : MethodId} {args : Array Value} {below : List Frame} {meth : Method} {c : Code} {H : Heap} {locs : List Loc} {cells slots : Nat} {Q : State → Prop}
variable {mc ms : Nat} {free : Addr → Prop} {A0 A1 : Nat → Prop} {H0 : Heap} {a : Array Value} {pc : Nat} {ls : Array Slot} {st0 rest : List Value}
theorem vx_keep {st₀ t T' : State} {L : List Loc} (h0 : st₀.heap = H) (e1 : T'.heap = t.heap) (hS : va_S A0 H0 H locs) (hA : ∀ q, q < H.size → A1 q → A0 q) (hf : ∀ q, free q → A0 q) (hL : ∀ q ∈ L, free q.base) (hF : va_F A1 st₀ t) :
    H.size ≤ T'.heap.size ∧ (∀ q : Nat, q < H.size → ¬ A1 q → T'.heap[q]? = H[q]?) ∧ va_S A0 H0 T'.heap (locs ++ L) := by
  obtain ⟨hz, hk⟩ := hF
  rw [h0] at hz hk
  exact ⟨by rw [e1]; exact hz, fun q h1 h2 => by rw [e1]; exact hk q h1 h2,
    ⟨Nat.le_trans hS.1 (by rw [e1]; exact hz), fun q h1 h2 => by rw [e1, hk q (Nat.lt_of_lt_of_le h1 hS.1) (fun z => h2 (hA q (Nat.lt_of_lt_of_le h1 hS.1) z))]; exact hS.2.1 q h1 h2, fun q hq => by
      rcases List.mem_append.mp hq with h | h
      · exact hS.2.2 q h
      · exact hf _ (hL q h)⟩⟩
theorem vx_calli {S SX : Type} {post : Int32 → S → Prop} {px : SX → Prop} {B : S → State → Prop} {BX : String → SX → State → Prop} {AX : Nat → Prop} (hr : vx_Run p l e R s m args below meth c H locs cells slots mc ms (F0 m pc ls st0) rest (va_Qi post B A1 a) (vx_X px BX AX) free) (hS : va_S A0 H0 H locs) (hA : ∀ q, q < H.size → A1 q → A0 q) (hf : ∀ q, free q → A0 q) (hAX : ∀ q, q < H.size → AX q → A0 q)
    (kx : ∀ (E : String) (ce : Cell) (q9 : Addr) (u : SX) (t : State) (H1 : Heap) (locs1 : List Loc), t.heap = H1 → s.vm.Alike t.vm → px u → BX E u t → H.size ≤ H1.size → (∀ q : Nat, q < H.size → ¬ AX q → H1[q]? = H[q]?) → va_S A0 H0 H1 locs1 → H1[q9]? = some ce → ce.vm = .none → s.vm.findClass E = some ce.cls → vx_W p l e R s m args below meth c H1 locs1 (cells + mc) (slots + ms) Q (F0 m pc ls rest) q9)
    (kk : ∀ (r : Int32) (u : S) (t : State) (H1 : Heap) (locs1 : List Loc), t.heap = H1 → s.vm.Alike t.vm → post r u → B u t → H.size ≤ H1.size → (∀ q : Nat, q < H.size → ¬ A1 q → H1[q]? = H[q]?) → va_S A0 H0 H1 locs1 → W p l e R s m args below meth c H1 locs1 (cells + mc) (slots + ms) Q (F0 m (pc + 3) ls (.int r :: rest))) : W p l e R s m args below meth c H locs cells slots Q (F0 m pc ls st0) := by
  intro T hT X
  rcases hr T hT X with ⟨v, st₀, t, T', L, h0, X', hL, e1, e2, ⟨⟨r, u, hv, hp, hb⟩, hF⟩, st⟩ | ⟨q, st₀, t, T', L, E, ce, h0, X', hL, e1, e2, ⟨u, hp, hb, hF⟩, hce, hcv, hcl, st⟩
  · cases hv
    obtain ⟨k1, k2, k3⟩ := vx_keep h0 e1 hS hA hf hL hF
    obtain ⟨t2, a1, b1⟩ := kk r u t T'.heap (locs ++ L) e1.symm (by rw [← e2]; exact X'.warmed.alike) hp hb k1 k2 k3 T' rfl X'
    exact ⟨t2, st t2 a1, b1⟩
  · obtain ⟨k1, k2, k3⟩ := vx_keep h0 e1 hS hAX hf hL hF
    obtain ⟨t2, a1, b1⟩ := kx E ce q u t T'.heap (locs ++ L) e1.symm (by rw [← e2]; exact X'.warmed.alike) hp hb k1 k2 k3 (by rw [e1]; exact hce) hcv hcl T' rfl X'
    exact ⟨t2, st.trans a1, b1⟩
theorem vx_calll {S SX : Type} {post : Int64 → S → Prop} {px : SX → Prop} {B : S → State → Prop} {BX : String → SX → State → Prop} {AX : Nat → Prop} (hr : vx_Run p l e R s m args below meth c H locs cells slots mc ms (F0 m pc ls st0) rest (va_Ql post B A1 a) (vx_X px BX AX) free) (hS : va_S A0 H0 H locs) (hA : ∀ q, q < H.size → A1 q → A0 q) (hf : ∀ q, free q → A0 q) (hAX : ∀ q, q < H.size → AX q → A0 q)
    (kx : ∀ (E : String) (ce : Cell) (q9 : Addr) (u : SX) (t : State) (H1 : Heap) (locs1 : List Loc), t.heap = H1 → s.vm.Alike t.vm → px u → BX E u t → H.size ≤ H1.size → (∀ q : Nat, q < H.size → ¬ AX q → H1[q]? = H[q]?) → va_S A0 H0 H1 locs1 → H1[q9]? = some ce → ce.vm = .none → s.vm.findClass E = some ce.cls → vx_W p l e R s m args below meth c H1 locs1 (cells + mc) (slots + ms) Q (F0 m pc ls rest) q9)
    (kk : ∀ (r : Int64) (u : S) (t : State) (H1 : Heap) (locs1 : List Loc), t.heap = H1 → s.vm.Alike t.vm → post r u → B u t → H.size ≤ H1.size → (∀ q : Nat, q < H.size → ¬ A1 q → H1[q]? = H[q]?) → va_S A0 H0 H1 locs1 → W p l e R s m args below meth c H1 locs1 (cells + mc) (slots + ms) Q (F0 m (pc + 3) ls (.long r :: rest))) : W p l e R s m args below meth c H locs cells slots Q (F0 m pc ls st0) := by
  intro T hT X
  rcases hr T hT X with ⟨v, st₀, t, T', L, h0, X', hL, e1, e2, ⟨⟨r, u, hv, hp, hb⟩, hF⟩, st⟩ | ⟨q, st₀, t, T', L, E, ce, h0, X', hL, e1, e2, ⟨u, hp, hb, hF⟩, hce, hcv, hcl, st⟩
  · cases hv
    obtain ⟨k1, k2, k3⟩ := vx_keep h0 e1 hS hA hf hL hF
    obtain ⟨t2, a1, b1⟩ := kk r u t T'.heap (locs ++ L) e1.symm (by rw [← e2]; exact X'.warmed.alike) hp hb k1 k2 k3 T' rfl X'
    exact ⟨t2, st t2 a1, b1⟩
  · obtain ⟨k1, k2, k3⟩ := vx_keep h0 e1 hS hAX hf hL hF
    obtain ⟨t2, a1, b1⟩ := kx E ce q u t T'.heap (locs ++ L) e1.symm (by rw [← e2]; exact X'.warmed.alike) hp hb k1 k2 k3 (by rw [e1]; exact hce) hcv hcl T' rfl X'
    exact ⟨t2, st.trans a1, b1⟩
theorem vx_callf {S SX : Type} {post : UInt32 → S → Prop} {px : SX → Prop} {B : S → State → Prop} {BX : String → SX → State → Prop} {AX : Nat → Prop} (hr : vx_Run p l e R s m args below meth c H locs cells slots mc ms (F0 m pc ls st0) rest (va_Qf post B A1 a) (vx_X px BX AX) free) (hS : va_S A0 H0 H locs) (hA : ∀ q, q < H.size → A1 q → A0 q) (hf : ∀ q, free q → A0 q) (hAX : ∀ q, q < H.size → AX q → A0 q)
    (kx : ∀ (E : String) (ce : Cell) (q9 : Addr) (u : SX) (t : State) (H1 : Heap) (locs1 : List Loc), t.heap = H1 → s.vm.Alike t.vm → px u → BX E u t → H.size ≤ H1.size → (∀ q : Nat, q < H.size → ¬ AX q → H1[q]? = H[q]?) → va_S A0 H0 H1 locs1 → H1[q9]? = some ce → ce.vm = .none → s.vm.findClass E = some ce.cls → vx_W p l e R s m args below meth c H1 locs1 (cells + mc) (slots + ms) Q (F0 m pc ls rest) q9)
    (kk : ∀ (r : UInt32) (u : S) (t : State) (H1 : Heap) (locs1 : List Loc), t.heap = H1 → s.vm.Alike t.vm → post r u → B u t → H.size ≤ H1.size → (∀ q : Nat, q < H.size → ¬ A1 q → H1[q]? = H[q]?) → va_S A0 H0 H1 locs1 → W p l e R s m args below meth c H1 locs1 (cells + mc) (slots + ms) Q (F0 m (pc + 3) ls (.float r :: rest))) : W p l e R s m args below meth c H locs cells slots Q (F0 m pc ls st0) := by
  intro T hT X
  rcases hr T hT X with ⟨v, st₀, t, T', L, h0, X', hL, e1, e2, ⟨⟨r, u, hv, hp, hb⟩, hF⟩, st⟩ | ⟨q, st₀, t, T', L, E, ce, h0, X', hL, e1, e2, ⟨u, hp, hb, hF⟩, hce, hcv, hcl, st⟩
  · cases hv
    obtain ⟨k1, k2, k3⟩ := vx_keep h0 e1 hS hA hf hL hF
    obtain ⟨t2, a1, b1⟩ := kk r u t T'.heap (locs ++ L) e1.symm (by rw [← e2]; exact X'.warmed.alike) hp hb k1 k2 k3 T' rfl X'
    exact ⟨t2, st t2 a1, b1⟩
  · obtain ⟨k1, k2, k3⟩ := vx_keep h0 e1 hS hAX hf hL hF
    obtain ⟨t2, a1, b1⟩ := kx E ce q u t T'.heap (locs ++ L) e1.symm (by rw [← e2]; exact X'.warmed.alike) hp hb k1 k2 k3 (by rw [e1]; exact hce) hcv hcl T' rfl X'
    exact ⟨t2, st.trans a1, b1⟩
theorem vx_calld {S SX : Type} {post : UInt64 → S → Prop} {px : SX → Prop} {B : S → State → Prop} {BX : String → SX → State → Prop} {AX : Nat → Prop} (hr : vx_Run p l e R s m args below meth c H locs cells slots mc ms (F0 m pc ls st0) rest (va_Qd post B A1 a) (vx_X px BX AX) free) (hS : va_S A0 H0 H locs) (hA : ∀ q, q < H.size → A1 q → A0 q) (hf : ∀ q, free q → A0 q) (hAX : ∀ q, q < H.size → AX q → A0 q)
    (kx : ∀ (E : String) (ce : Cell) (q9 : Addr) (u : SX) (t : State) (H1 : Heap) (locs1 : List Loc), t.heap = H1 → s.vm.Alike t.vm → px u → BX E u t → H.size ≤ H1.size → (∀ q : Nat, q < H.size → ¬ AX q → H1[q]? = H[q]?) → va_S A0 H0 H1 locs1 → H1[q9]? = some ce → ce.vm = .none → s.vm.findClass E = some ce.cls → vx_W p l e R s m args below meth c H1 locs1 (cells + mc) (slots + ms) Q (F0 m pc ls rest) q9)
    (kk : ∀ (r : UInt64) (u : S) (t : State) (H1 : Heap) (locs1 : List Loc), t.heap = H1 → s.vm.Alike t.vm → post r u → B u t → H.size ≤ H1.size → (∀ q : Nat, q < H.size → ¬ A1 q → H1[q]? = H[q]?) → va_S A0 H0 H1 locs1 → W p l e R s m args below meth c H1 locs1 (cells + mc) (slots + ms) Q (F0 m (pc + 3) ls (.double r :: rest))) : W p l e R s m args below meth c H locs cells slots Q (F0 m pc ls st0) := by
  intro T hT X
  rcases hr T hT X with ⟨v, st₀, t, T', L, h0, X', hL, e1, e2, ⟨⟨r, u, hv, hp, hb⟩, hF⟩, st⟩ | ⟨q, st₀, t, T', L, E, ce, h0, X', hL, e1, e2, ⟨u, hp, hb, hF⟩, hce, hcv, hcl, st⟩
  · cases hv
    obtain ⟨k1, k2, k3⟩ := vx_keep h0 e1 hS hA hf hL hF
    obtain ⟨t2, a1, b1⟩ := kk r u t T'.heap (locs ++ L) e1.symm (by rw [← e2]; exact X'.warmed.alike) hp hb k1 k2 k3 T' rfl X'
    exact ⟨t2, st t2 a1, b1⟩
  · obtain ⟨k1, k2, k3⟩ := vx_keep h0 e1 hS hAX hf hL hF
    obtain ⟨t2, a1, b1⟩ := kx E ce q u t T'.heap (locs ++ L) e1.symm (by rw [← e2]; exact X'.warmed.alike) hp hb k1 k2 k3 (by rw [e1]; exact hce) hcv hcl T' rfl X'
    exact ⟨t2, st.trans a1, b1⟩
theorem vx_callv {S SX : Type} {post : S → Prop} {px : SX → Prop} {B : S → State → Prop} {BX : String → SX → State → Prop} {AX : Nat → Prop} (hr : vx_Run p l e R s m args below meth c H locs cells slots mc ms (F0 m pc ls st0) rest (va_Qv post B A1 a) (vx_X px BX AX) free) (hS : va_S A0 H0 H locs) (hA : ∀ q, q < H.size → A1 q → A0 q) (hf : ∀ q, free q → A0 q) (hAX : ∀ q, q < H.size → AX q → A0 q)
    (kx : ∀ (E : String) (ce : Cell) (q9 : Addr) (u : SX) (t : State) (H1 : Heap) (locs1 : List Loc), t.heap = H1 → s.vm.Alike t.vm → px u → BX E u t → H.size ≤ H1.size → (∀ q : Nat, q < H.size → ¬ AX q → H1[q]? = H[q]?) → va_S A0 H0 H1 locs1 → H1[q9]? = some ce → ce.vm = .none → s.vm.findClass E = some ce.cls → vx_W p l e R s m args below meth c H1 locs1 (cells + mc) (slots + ms) Q (F0 m pc ls rest) q9)
    (kk : ∀ (u : S) (t : State) (H1 : Heap) (locs1 : List Loc), t.heap = H1 → s.vm.Alike t.vm → post u → B u t → H.size ≤ H1.size → (∀ q : Nat, q < H.size → ¬ A1 q → H1[q]? = H[q]?) → va_S A0 H0 H1 locs1 → W p l e R s m args below meth c H1 locs1 (cells + mc) (slots + ms) Q (F0 m (pc + 3) ls (rest))) : W p l e R s m args below meth c H locs cells slots Q (F0 m pc ls st0) := by
  intro T hT X
  rcases hr T hT X with ⟨v, st₀, t, T', L, h0, X', hL, e1, e2, ⟨⟨u, hv, hp, hb⟩, hF⟩, st⟩ | ⟨q, st₀, t, T', L, E, ce, h0, X', hL, e1, e2, ⟨u, hp, hb, hF⟩, hce, hcv, hcl, st⟩
  · cases hv
    obtain ⟨k1, k2, k3⟩ := vx_keep h0 e1 hS hA hf hL hF
    obtain ⟨t2, a1, b1⟩ := kk u t T'.heap (locs ++ L) e1.symm (by rw [← e2]; exact X'.warmed.alike) hp hb k1 k2 k3 T' rfl X'
    exact ⟨t2, st t2 a1, b1⟩
  · obtain ⟨k1, k2, k3⟩ := vx_keep h0 e1 hS hAX hf hL hF
    obtain ⟨t2, a1, b1⟩ := kx E ce q u t T'.heap (locs ++ L) e1.symm (by rw [← e2]; exact X'.warmed.alike) hp hb k1 k2 k3 (by rw [e1]; exact hce) hcv hcl T' rfl X'
    exact ⟨t2, st.trans a1, b1⟩
/-- caught by the row x of this method's table; the rows ahead don't take it -/
theorem vx_catch {own name : String} {E : String} {ce : Cell} {q : Addr} (hown : s.vm.findClass own = some m.cls) (pre : List ExceptionTableEntry) (x : ExceptionTableEntry) (suf : List ExceptionTableEntry) (hsplit : c.exceptionTable.toList = pre ++ x :: suf)
    (hpass : ∀ z ∈ pre, covers z pc = false ∨ (z.catchType ≠ 0 ∧ ∃ nm : String, (Cond.classLink own z.catchType nm).before args s = true ∧ va_Nc E nm s)) (hx : covers x pc = true) (h0 : x.catchType ≠ 0)
    (hlink : (Cond.classLink own x.catchType name).before args s = true) (hcast : (Cond.castable E name).before args s = true) (hcell : H[q]? = some ce) (hv : ce.vm = .none) (hcl : s.vm.findClass E = some ce.cls)
    (kk : W p l e R s m args below meth c H locs cells slots Q (F0 m x.handlerPc ls [.ref q])) : vx_W p l e R s m args below meth c H locs cells slots Q (F0 m pc ls rest) q := by
  intro T hT X
  have hpl : e.platform.magicAccessors = ({} : Platform).magicAccessors := by rw [X.admits.platform]
  obtain ⟨c3, c4, hc3, hc4, hasg⟩ := Cond.castable_spec hcast
  cases Option.some.inj (hc3.symm.trans hcl)
  obtain ⟨c5, hc5, hcl5⟩ := Cond.classLink_spec hown hlink e.platform hpl
  cases Option.some.inj (hc4.symm.trans hc5)
  obtain ⟨vm', X', st⟩ := X.thenCaughtThrough q (g := F0 m pc ls rest) rfl (Steps.refl _) (by rw [hT]; exact hcell) (by rw [hv]; rfl) (by obtain ⟨k9, h9, -⟩ := Vm.findClass_spec hcl; exact ⟨k9, h9⟩) pre x suf hsplit
    (fun z hz => by
      rcases hpass z hz with h | ⟨hz0, nm, hl1, hn1⟩
      · exact Or.inl h
      · obtain ⟨c6, hc6, hcl6⟩ := Cond.classLink_spec hown hl1 e.platform hpl
        obtain ⟨a8, b8, h1, h2, h3⟩ := hn1
        cases Option.some.inj (h1.symm.trans hcl)
        cases Option.some.inj (h2.symm.trans hc6)
        exact Or.inr ⟨hz0, _, hcl6, h3⟩) hx (Or.inr ⟨h0, c4, hcl5, hasg⟩)
  obtain ⟨t, a1, b1⟩ := kk (T.setVm vm') hT X'
  exact ⟨t, st.trans a1, b1⟩
end Rows
section Ends
variable {p : Program} {l : Launch} {e : Env} {R : Room} {s : State} {m : MethodId} {args : Array Value} {below : List Frame} {meth : Method} {c : Code} {H : Heap} {locs : List Loc} {cells slots : Nat} {Q : State → Prop}
variable {mc ms : Nat} {free : Addr → Prop} {A0 A1 : Nat → Prop} {H0 : Heap} {a : Array Value} {ls : Array Slot} {st0 rest : List Value}
variable {Qc : Array Value → State → Outcome → State → Prop} {XC : String → State → State → Prop}
/-- what a body that may throw owes at its end -/
def vx_MQ (below : List Frame) (Qc : Array Value → State → Outcome → State → Prop) (XC : String → State → State → Prop) (a : Array Value) (s : State) (mc ms : Nat) (free : Addr → Prop) : State → Prop := fun t =>
  ∃ o, t.status = .running ∧ Ended t below o ∧ vx_Q Qc XC mc ms free a s o t
theorem vx_ret {g : JFrame} {mc ms : Nat} (k : W p l e R s m args below meth c H locs cells slots (MQ below Qc args s mc ms free) g) : W p l e R s m args below meth c H locs cells slots (vx_MQ below Qc XC args s mc ms free) g := by
  intro T hT X
  obtain ⟨t, a1, o, b1, b2, b3, b4⟩ := k T hT X
  exact ⟨t, a1, o, b1, b2, Or.inl ⟨b3, b4⟩⟩
/-- not caught here: it goes on to the caller -/
theorem vx_widen {g : JFrame} {q : Addr} {k n : Nat} (h1 : cells ≤ k) (h2 : slots ≤ n) (kk : vx_W p l e R s m args below meth c H locs k n Q g q) : vx_W p l e R s m args below meth c H locs cells slots Q g q := fun T hT X => kk T hT (stand_widen X h1 h2)
theorem vx_out {pc : Nat} {E : String} {ce : Cell} {q : Addr} {mc ms : Nat} (hout : ∀ x ∈ c.exceptionTable.toList, covers x pc = false) (hlocks : meth.locks = false) (hcell : H[q]? = some ce) (hv : ce.vm = .none) (hcl : s.vm.findClass E = some ce.cls)
    (hx : ∀ t : State, t.heap = H → s.vm.Alike t.vm → XC E s t) (hf : ∀ z ∈ locs, free z.base) (hc : cells ≤ mc) (hs : slots ≤ ms) :
    vx_W p l e R s m args below meth c H locs cells slots (vx_MQ below Qc XC args s mc ms free) (F0 m pc ls rest) q := by
  intro T hT X
  obtain ⟨st1, hrun, hend, hW, hsm⟩ := X.leaveThrown q (g := F0 m pc ls rest) rfl rfl rfl hout hlocks
  have hcell9 : (T.setFrames (.throwing q :: below)).heap[q]? = some ce := by
    show T.heap[q]? = some ce
    rw [hT]; exact hcell
  exact ⟨_, st1, .threw q, hrun, hend, Or.inr ⟨q, rfl, E, ce, locs, hx _ hT hW.alike, hcell9, hv, hcl, hW, hsm.mono hc hs, hf⟩⟩
theorem vx_frame {U : State} {k n : Nat} (h : s.sameButNew ({ U with vm := s.vm } : State) locs k n) : s.heap.size ≤ U.heap.size ∧ ∀ q : Nat, q < s.heap.size → (∀ z ∈ locs, z.base ≠ q) → U.heap[q]? = s.heap[q]? := by
  obtain ⟨-, h2, -, -, -, h6⟩ := h
  refine ⟨h2, fun q hq hz => ?_⟩
  obtain ⟨c9, e1, e2, e3, e4⟩ := h6 q _ (Array.getElem?_eq_getElem hq)
  have hs : c9.slots = (s.heap[q]).slots := Array.ext_getElem? fun i => e4 i fun hm => hz _ hm rfl
  have h9 : c9 = s.heap[q] := by
    rw [hs] at e2
    exact e2
  have e5 : U.heap[q]? = some c9 := e1
  rw [e5, h9, Array.getElem?_eq_getElem hq]
/-- the words of a throw but the four that speak of the heap -/
def vx_no (w : Cond) : Bool := decide (w ≠ .isRef (.static Bundle.tN "UNASSIGNED_STACK" Bundle.steD)) && decide (w ≠ .isRef (.static Bundle.tN "SUPPRESSED_SENTINEL" Bundle.listD)) && decide (w ≠ .laysStatic Bundle.tN "UNASSIGNED_STACK" Bundle.steD) && decide (w ≠ .laysStatic Bundle.tN "SUPPRESSED_SENTINEL" Bundle.listD)
def vx_at0 (own : String) (ic : Nat) (X : String) (names : List String) : List Cond := (Bundle.ownAtoms0 own ic X names).filter vx_no
def vx_atS (own : String) (ic : Nat) (X : String) (names : List String) : List Cond := (Bundle.ownAtoms own ic X names).filter vx_no
/-- a word that the tables alone decide, or a good one -/
def vx_ot (w : Cond) : Bool := w.onTables || goodWord w
theorem vx_ot_at {args a' : Array Value} {s U : State} {w : Cond} (hW : s.WarmedH U.vm) (hvm : s.vm = U.vm) (hg : vx_ot w = true) (h : w.before args s = true) : w.before a' U = true := by
  simp only [vx_ot, Bool.or_eq_true] at hg
  rcases hg with hg | hg
  · exact va_tabs hg hvm h
  · exact word_at hW (good_of_word hg) h
/-- a list's words: the good ones out of the method's own list, the others by premises of their own -/
theorem vx_hat {args : Array Value} {s : State} {L B : List Cond} (h1 : ∀ w ∈ L.filter goodWord, w.before args s = true) (h2 : ∀ w ∈ L.filter (fun w => !goodWord w), w ∈ B) (h3 : ∀ w ∈ B, w.before args s = true) : ∀ w ∈ L, w.before args s = true := by
  intro w hw
  by_cases g : goodWord w = true
  · exact h1 w (List.mem_filter.mpr ⟨hw, g⟩)
  · refine h3 w (h2 w (List.mem_filter.mpr ⟨hw, ?_⟩))
    show (!goodWord w) = true
    cases hgw : goodWord w
    · rfl
    · exact absurd hgw g
theorem vx_c {args : Array Value} {s : State} {w : Cond} {B : List Cond} (h : w.before args s = true) (t : ∀ w ∈ B, w.before args s = true) : ∀ w' ∈ w :: B, w'.before args s = true := fun w' h' => (List.mem_cons.mp h').elim (fun e => by rw [e]; exact h) (t w')
theorem vx_n {args : Array Value} {s : State} : ∀ w ∈ ([] : List Cond), w.before args s = true := fun _ h => nomatch h
theorem vx_own {args : Array Value} {s : State} {L : List Cond} (h1 : ∀ w ∈ L.filter vx_no, w.before args s = true)
    (hU : (Cond.isRef (.static Bundle.tN "UNASSIGNED_STACK" Bundle.steD)).before args s = true) (hN : (Cond.isRef (.static Bundle.tN "SUPPRESSED_SENTINEL" Bundle.listD)).before args s = true)
    (lU : (Cond.laysStatic Bundle.tN "UNASSIGNED_STACK" Bundle.steD).before args s = true) (lN : (Cond.laysStatic Bundle.tN "SUPPRESSED_SENTINEL" Bundle.listD).before args s = true) : ∀ w ∈ L, w.before args s = true := by
  intro w hw
  by_cases e1 : w = .isRef (.static Bundle.tN "UNASSIGNED_STACK" Bundle.steD)
  · rw [e1]; exact hU
  · by_cases e2 : w = .isRef (.static Bundle.tN "SUPPRESSED_SENTINEL" Bundle.listD)
    · rw [e2]; exact hN
    · by_cases e3 : w = .laysStatic Bundle.tN "UNASSIGNED_STACK" Bundle.steD
      · rw [e3]; exact lU
      · by_cases e4 : w = .laysStatic Bundle.tN "SUPPRESSED_SENTINEL" Bundle.listD
        · rw [e4]; exact lN
        · exact h1 w (List.mem_filter.mpr ⟨hw, by unfold vx_no; rw [decide_eq_true e1, decide_eq_true e2, decide_eq_true e3, decide_eq_true e4]; rfl⟩)
/-- where a static field lies, its class's statics cell in H -/
def vx_L (C n d : String) (A : Nat → Prop) (U : State) (H : Heap) : Prop := ∃ (c : ClassId) (k : Class) (i : Nat) (f : Field) (a : Nat) (cell : Cell), U.vm.findClass C = some c ∧ U.fieldFound? C n d = some (c, k, i, f) ∧ f.isStatic = true ∧ k.statics = some a ∧ H[a]? = some cell ∧ cell.vm.isStatics = true ∧ cell.cls = c ∧ f.slot < cell.slots.size ∧ k.staticTypes[f.slot]? = some f.type ∧ ¬ A a
theorem vx_L.moved {C n d : String} {A : Nat → Prop} {u U : State} {H : Heap} (hvm : u.vm.Alike U.vm) (h : vx_L C n d A u H) : vx_L C n d A U H := by
  obtain ⟨c, k, i, f, a, cell, h1, h2, h3, h4, h5, h6, h7, h8, h9, h10⟩ := h
  obtain ⟨k', hi', he⟩ := State.fieldFound?_setVm hvm h2
  exact ⟨c, k', i, f, a, cell, by rw [hvm.findClass]; exact h1, hi', h3, by rw [he]; exact h4, h5, h6, h7, h8, by rw [he]; exact h9, h10⟩
theorem vx_L.kept {C n d : String} {A : Nat → Prop} {U : State} {H H1 : Heap} (h : vx_L C n d A U H) (hq : ∀ a : Nat, a < H.size → ¬ A a → H1[a]? = H[a]?) : vx_L C n d A U H1 := by
  obtain ⟨c, k, i, f, a, cell, h1, h2, h3, h4, h5, h6, h7, h8, h9, h10⟩ := h
  exact ⟨c, k, i, f, a, cell, h1, h2, h3, h4, by rw [hq a (Array.getElem?_eq_some_iff.mp h5).1 h10]; exact h5, h6, h7, h8, h9, h10⟩
theorem vx_L.narrow {C n d : String} {A B : Nat → Prop} {U : State} {H : Heap} (h : vx_L C n d A U H) (hAB : ∀ q, B q → A q) : vx_L C n d B U H := by
  obtain ⟨c, k, i, f, a, cell, h1, h2, h3, h4, h5, h6, h7, h8, h9, h10⟩ := h
  exact ⟨c, k, i, f, a, cell, h1, h2, h3, h4, h5, h6, h7, h8, h9, fun z => h10 (hAB _ z)⟩
theorem vx_L.word {C n d : String} {A : Nat → Prop} {s : State} {args : Array Value} (h : vx_L C n d A s s.heap) : (Cond.laysStatic C n d).before args s = true := by
  obtain ⟨c, k, i, f, a, cell, h1, h2, h3, h4, h5, h6, h7, h8, h9, -⟩ := h
  show (Cond.laysStatic C n d).holds args s none s [] = true
  exact Cond.laysStatic_of h1 h2 h3 h4 h5 h6 h7 h8 h9
/-- .. and what it holds: null or some reference -/
def vx_Zq (C n d : String) (A : Nat → Prop) (U : State) (H : Heap) : Prop := va_Zq C n d A U H ∧ vx_L C n d A U H
theorem vx_Zq.moved {C n d : String} {A : Nat → Prop} {u U : State} {H : Heap} (hvm : u.vm.Alike U.vm) (h : vx_Zq C n d A u H) : vx_Zq C n d A U H := ⟨va_Zq.moved hvm h.1, vx_L.moved hvm h.2⟩
theorem vx_Zq.kept {C n d : String} {A : Nat → Prop} {U : State} {H H1 : Heap} (h : vx_Zq C n d A U H) (hq : ∀ a : Nat, a < H.size → ¬ A a → H1[a]? = H[a]?) : vx_Zq C n d A U H1 := ⟨va_Zq.kept h.1 hq, vx_L.kept h.2 hq⟩
theorem vx_Zq.narrow {C n d : String} {A B : Nat → Prop} {U : State} {H : Heap} (h : vx_Zq C n d A U H) (hAB : ∀ q, B q → A q) : vx_Zq C n d B U H := ⟨va_Zq.narrow h.1 hAB, vx_L.narrow h.2 hAB⟩
theorem vx_Zqof {args : Array Value} {s : State} {C n d : String} {A : Nat → Prop} (hl : (Cond.laysStatic C n d).before args s = true) (hini : (Cond.initialized C).before args s = true) (h : (Cond.isRef (.static C n d)).before args s = true) (hA : ∀ a : Nat, a < s.heap.size → ¬ A a) : vx_Zq C n d A s s.heap := by
  refine ⟨va_Zqof hl hini h hA, ?_⟩
  obtain ⟨c, k, i, f, a, cell, h1, h2, h3, h4, h5, h6, h7, h8, h9⟩ := Cond.laysStatic_spec hl
  exact ⟨c, k, i, f, a, cell, h1, h2, h3, h4, h5, h6, h7, h8, h9, hA a (Array.getElem?_eq_some_iff.mp h5).1⟩
theorem vx_isRef {C n d : String} {v : Value} {A : Nat → Prop} {s : State} {args : Array Value} (h : va_Z C n d v A s s.heap) (hv : v.isRef = true) : (Cond.isRef (.static C n d)).before args s = true := by
  obtain ⟨cf, kf, fi, f, a, cell, h1, h2, h3, h4, h5, h6, h7, -⟩ := h
  have he : (Term.static C n d).eval args s none [] s = some v := by
    simp [Term.eval, State.fieldNamed?, h1, h2, h4, h5, h6, h7]
  simp only [Cond.before, Cond.holds, Cond.value, he]
  cases v <;> simp_all [Value.isRef]
theorem vx_isRefq {C n d : String} {A : Nat → Prop} {s : State} {args : Array Value} (h : va_Zq C n d A s s.heap) : (Cond.isRef (.static C n d)).before args s = true := by
  rcases h with h | ⟨t, h⟩
  · exact vx_isRef h rfl
  · exact vx_isRef h rfl
/-- the same frame, seen from here: as if the method were called anew in this heap -/
theorem vx_rebase {T : State} (X : Stand p l e R s m args below meth c T locs cells slots) {R' : Room} (hf : R'.frames ≤ R.frames) (hl : R'.locals ≤ R.locals) (hc : cells + R'.cells ≤ R.cells) (hs : slots + R'.slots ≤ R.slots) :
    Stand p l e R' ((T.setVm s.vm).setFrames (.invoking m args :: below)) m args below meth c T [] 0 0 := by
  have htop : (T.setVm s.vm).topJava?.isSome := X.here.top
  have hF : ((T.setVm s.vm).setFrames (.invoking m args :: below)).frames = .invoking m args :: below := State.frames_setFrames _ (State.cur_lt_of_top htop)
  obtain ⟨g₀, hg0⟩ := Option.isSome_iff_exists.mp htop
  obtain ⟨r, hr⟩ := State.topJava?_eq_some.mp hg0
  have hl9 : e.platform.stackLimits (T.setVm s.vm).me = e.platform.stackLimits s.me := X.limits
  have hb9 : (T.setVm s.vm).me.stackBytes = s.me.stackBytes := X.bytes
  refine ⟨X.admits, X.cas, X.clock, hF, ?_, X.hears, X.method, X.code, X.here, X.tail, X.warmed, ?_, ?_, ?_⟩
  · have h := X.room
    have hU : ((T.setVm s.vm).setFrames (.invoking m args :: below)).localsInUse = s.localsInUse := by
      rw [State.localsInUse_invoking hF (meth := meth) (c := c) X.method X.code, State.localsInUse_invoking X.frames X.method X.code]
    simp only [State.hasRoom, Bool.and_eq_true, decide_eq_true_eq] at h ⊢
    obtain ⟨⟨⟨⟨h1, h2, h3, h4, h5, h6⟩, h7⟩, h8⟩, h9⟩ := h
    rw [X.frames, List.length_cons] at h2 h3
    have q1 := X.heapSize
    have q2 := X.used
    simp only [hF, hU, List.length_cons, State.stackLimits_setFrames, State.stackBytes_setFrames, hl9, hb9]
    refine ⟨⟨⟨⟨by omega, by omega, by omega, by omega, by omega, h6⟩, ?_⟩, ?_⟩, X.book⟩
    · show T.heap.size + R'.cells ≤ e.platform.maxCells
      omega
    · show T.slotsUsed + R'.slots ≤ e.platform.maxSlots
      omega
  · rw [State.stackLimits_setFrames]; rfl
  · rw [State.stackBytes_setFrames]; rfl
  · refine ⟨?_, Nat.le_refl _, Nat.le_refl _, ?_, ?_, fun a c9 h9 => ⟨c9, h9, rfl, rfl, fun _ _ => rfl⟩⟩
    · obtain ⟨t, ht, -⟩ := State.frames_cons hr
      show T.setVm s.vm = { ((T.setVm s.vm).setFrames (.invoking m args :: below)).setFrames (T.setVm s.vm).frames with heap := T.heap, slotsUsed := T.slotsUsed }
      rw [State.setFrames_setFrames, State.setFrames_self ht]
      rfl
    · show T.slotsUsed = T.slotsUsed + ((T.heap.toList.drop T.heap.size).map (·.slots.size)).sum
      rw [List.drop_eq_nil_of_le (Nat.le_of_eq Array.length_toList)]
      rfl
    · show ((T.heap.toList.drop T.heap.size).map (·.slots.size)).sum ≤ 0
      rw [List.drop_eq_nil_of_le (Nat.le_of_eq Array.length_toList)]
      exact Nat.le_refl _
/-- 'throw new E()': new; dup; invokespecial; athrow -/
theorem vx_throw0 {cc : ByteArray} {pc : Nat} (hexec : p.tables.exec = Jvm.exec) (hb : c.code = cc) (hl : l.stackTraces = false) {own cls : String} {names : List String} {ik ic mc ms : Nat} {A : Nat → Prop}
    (hown : s.vm.findClass own = some m.cls) (hcls : Bundle.fit cls = true) (hnames : ∀ n ∈ names, Bundle.fit n = true)
    (hk : (Cond.classLink own ik cls).before args s = true) (hini : (Cond.initialized cls).before args s = true) (hat : ∀ w ∈ vx_at0 own ic cls names, w.before args s = true)
    (hgood : ∀ w ∈ Cond.classLink own ik cls :: Cond.initialized cls :: vx_at0 own ic cls names, vx_ot w = true)
    (hU : vx_Zq Bundle.tN "UNASSIGNED_STACK" Bundle.steD A s s.heap) (hN : vx_Zq Bundle.tN "SUPPRESSED_SENTINEL" Bundle.listD A s s.heap) (hS : va_S A s.heap H locs) (hsize : ls.size = c.maxLocals)
    (d0 : decode cc pc = .ok (.new ik, 3)) (d3 : decode cc (pc + 3) = .ok (.dup, 1)) (d4 : decode cc (pc + 4) = .ok (.invokespecial ic, 3)) (d7 : decode cc (pc + 7) = .ok (.athrow, 1))
    (hout : ∀ x ∈ c.exceptionTable.toList, covers x (pc + 7) = false)
    (hRframes : names.length + 3 < R.frames) (hRlocals : (rest.map fun v => v.category).sum + (13 * (names.length + 1) + 42) ≤ R.locals) (hRcells : cells + 1 ≤ R.cells) (hRslots : slots + 6 ≤ R.slots) (hlocks : meth.locks = false)
    (hx : ∀ t : State, s.vm.Alike t.vm → H.size ≤ t.heap.size → (∀ q : Nat, q < H.size → t.heap[q]? = H[q]?) → XC cls s t)
    (hf : ∀ z ∈ locs, free z.base) (hc : cells + 1 ≤ mc) (hs : slots + 6 ≤ ms) :
    W p l e R s m args below meth c H locs cells slots (vx_MQ below Qc XC args s mc ms free) (F0 m pc ls rest) := by
  intro T hT X
  have htr : e.platform.stackTraces = false := (show e.platform.stackTraces = l.stackTraces by rw [X.admits.platform]).trans hl
  have Y := vx_rebase X (R' := { frames := R.frames, locals := R.locals, cells := 1, slots := 6 }) (Nat.le_refl _) (Nat.le_refl _) hRcells hRslots
  obtain ⟨s', hA⟩ : ∃ z, z = (T.setVm s.vm).setFrames (.invoking m args :: below) := ⟨_, rfl⟩
  rw [← hA] at Y
  have hvm : s'.vm = s.vm := by rw [hA]; rfl
  have hhp : s'.heap = H := by rw [hA]; exact hT
  have hW0 : s.WarmedH s'.vm := by rw [hvm]; exact State.WarmedH.refl s
  have hat' : ∀ w ∈ vx_at0 own ic cls names, w.before args s' = true := fun w hw => vx_ot_at hW0 hvm.symm (hgood w (List.mem_cons_of_mem _ (List.mem_cons_of_mem _ hw))) (hat w hw)
  have hk' : (Cond.classLink own ik cls).before args s' = true := vx_ot_at hW0 hvm.symm (hgood _ List.mem_cons_self) hk
  have hini' : (Cond.initialized cls).before args s' = true := vx_ot_at hW0 hvm.symm (hgood _ (List.mem_cons_of_mem _ List.mem_cons_self)) hini
  have hU' : vx_Zq Bundle.tN "UNASSIGNED_STACK" Bundle.steD A s' s'.heap := by rw [hhp]; exact vx_Zq.moved hW0.alike (hU.kept hS.2.1)
  have hN' : vx_Zq Bundle.tN "SUPPRESSED_SENTINEL" Bundle.listD A s' s'.heap := by rw [hhp]; exact vx_Zq.moved hW0.alike (hN.kept hS.2.1)
  have h : ∀ w ∈ Bundle.ownAtoms0 own ic cls names, w.before args s' = true := vx_own hat' (vx_isRefq hU'.1) (vx_isRefq hN'.1) hU'.2.word hN'.2.word
  have hown' : s'.vm.findClass own = some m.cls := by rw [hvm]; exact hown
  have hins : (Cond.instantiable cls 6).before args s' = true := h _ (by simp [Bundle.ownAtoms0])
  obtain ⟨vm₁, cX, kX, hfX, hkX, -, -, X₁, st1⟩ := Y.newCold hexec (own := own) (C := cls) (index := ik) (n := 6) hown' hk' hins hini'
    (g := F0 m pc ls rest) rfl (by rw [hb]; exact d0) (Nat.le_refl _) (Nat.le_refl _)
  generalize hT1 : (T.setVm vm₁).pushCell { cls := cX, slots := kX.instanceTypes.map defaultValue, vm := .none } = T1 at X₁ st1
  have hcat : (Value.ref T.heap.size).category = 1 := rfl
  have hcellA : T1.heap[T.heap.size]? = some (freshCell cX kX) := by rw [← hT1]; exact State.heap_pushCell_size _ _
  have d3' : decode c.code (pc + 3) = .ok (.dup, 1) := by rw [hb]; exact d3
  obtain ⟨U, hsteps, hrun, hend, hW, hsame, ce, hce, hO⟩ := X₁.ctorThrow0 hexec htr (own := own) (cls := cls) (names := names) (ic := ic) hown' hcls hnames h (fun x hx => nomatch hx) hfX hkX hcellA (by rw [hhp, hT]; exact Nat.le_refl _)
    (g := { method := m, pc := pc + 4, locals := ls, stack := .ref T.heap.size :: .ref T.heap.size :: rest, locked := none }) rfl hsize rfl rfl (rest := rest) rfl
    (by rw [hb]; exact d4) (by rw [hb]; exact d7) hout hRframes (by simp only [List.map_cons, List.sum_cons, hcat]; omega) hlocks
  obtain ⟨f1, f2⟩ := vx_frame hsame
  rw [hhp] at f1 f2
  have hWs : s.WarmedH U.vm := State.WarmedH.trans hW0 hW
  have hcl : s.vm.findClass cls = some ce.cls := by
    have h9 := hO.cls
    rw [hvm] at h9
    exact h9
  have hall : s.sameButNew ({ U with vm := s.vm } : State) locs mc ms := by
    subst hA
    obtain ⟨e1, e2⟩ := hsame
    rw [State.setFrames_setFrames] at e1
    have h2 : (T.setVm s.vm).sameButNew ({ U with vm := s.vm } : State) [] (0 + 1) (0 + 6) := ⟨e1, e2⟩
    have h3 := X.same.trans h2
    rw [List.append_nil] at h3
    exact h3.mono hc hs
  refine ⟨U, ?_, .threw T.heap.size, hrun, hend, Or.inr ⟨T.heap.size, rfl, cls, ce, locs, hx U hWs.alike f1 (fun q hq => f2 q hq (fun z hz => nomatch hz)), hce, hO.vm, hcl, hWs, hall, hf⟩⟩
  refine st1 _ ?_
  show Steps p.tables e below (T1.setTop { method := m, pc := pc + 3, locals := ls, stack := .ref T.heap.size :: rest, locked := none }) _
  jvm_step X₁.here [X₁.here.top, hexec, d3', Value.category]
  exact hsteps
/-- 'throw new E("text")': new; dup; ldc; invokespecial; athrow -/
theorem vx_throwS {cc : ByteArray} {pc : Nat} (hexec : p.tables.exec = Jvm.exec) (hb : c.code = cc) (hl : l.stackTraces = false) {own cls text : String} {names : List String} {ik is ic mc ms sa : Nat} {A : Nat → Prop}
    (hown : s.vm.findClass own = some m.cls) (hcls : Bundle.fit cls = true) (hnames : ∀ n ∈ names, Bundle.fit n = true)
    (hk : (Cond.classLink own ik cls).before args s = true) (hini : (Cond.initialized cls).before args s = true) (hstr : vk_R own is text sa s) (hat : ∀ w ∈ vx_atS own ic cls names, w.before args s = true)
    (hgood : ∀ w ∈ Cond.classLink own ik cls :: Cond.initialized cls :: vx_atS own ic cls names, vx_ot w = true)
    (hU : vx_Zq Bundle.tN "UNASSIGNED_STACK" Bundle.steD A s s.heap) (hN : vx_Zq Bundle.tN "SUPPRESSED_SENTINEL" Bundle.listD A s s.heap) (hS : va_S A s.heap H locs) (hsize : ls.size = c.maxLocals)
    (d0 : decode cc pc = .ok (.new ik, 3)) (d3 : decode cc (pc + 3) = .ok (.dup, 1)) (d4 : decode cc (pc + 4) = .ok (.ldc is, 2)) (d6 : decode cc (pc + 6) = .ok (.invokespecial ic, 3)) (d9 : decode cc (pc + 9) = .ok (.athrow, 1))
    (hout : ∀ x ∈ c.exceptionTable.toList, covers x (pc + 9) = false)
    (hRframes : names.length + 3 < R.frames) (hRlocals : (rest.map fun v => v.category).sum + (13 * (names.length + 1) + 43) ≤ R.locals) (hRcells : cells + 1 ≤ R.cells) (hRslots : slots + 6 ≤ R.slots) (hlocks : meth.locks = false)
    (hx : ∀ t : State, s.vm.Alike t.vm → H.size ≤ t.heap.size → (∀ q : Nat, q < H.size → t.heap[q]? = H[q]?) → XC cls s t)
    (hf : ∀ z ∈ locs, free z.base) (hc : cells + 1 ≤ mc) (hs : slots + 6 ≤ ms) :
    W p l e R s m args below meth c H locs cells slots (vx_MQ below Qc XC args s mc ms free) (F0 m pc ls rest) := by
  intro T hT X
  have htr : e.platform.stackTraces = false := (show e.platform.stackTraces = l.stackTraces by rw [X.admits.platform]).trans hl
  have Y := vx_rebase X (R' := { frames := R.frames, locals := R.locals, cells := 1, slots := 6 }) (Nat.le_refl _) (Nat.le_refl _) hRcells hRslots
  obtain ⟨s', hA⟩ : ∃ z, z = (T.setVm s.vm).setFrames (.invoking m args :: below) := ⟨_, rfl⟩
  rw [← hA] at Y
  have hvm : s'.vm = s.vm := by rw [hA]; rfl
  have hhp : s'.heap = H := by rw [hA]; exact hT
  have hW0 : s.WarmedH s'.vm := by rw [hvm]; exact State.WarmedH.refl s
  have hat' : ∀ w ∈ vx_atS own ic cls names, w.before args s' = true := fun w hw => vx_ot_at hW0 hvm.symm (hgood w (List.mem_cons_of_mem _ (List.mem_cons_of_mem _ hw))) (hat w hw)
  have hk' : (Cond.classLink own ik cls).before args s' = true := vx_ot_at hW0 hvm.symm (hgood _ List.mem_cons_self) hk
  have hini' : (Cond.initialized cls).before args s' = true := vx_ot_at hW0 hvm.symm (hgood _ (List.mem_cons_of_mem _ List.mem_cons_self)) hini
  have hU' : vx_Zq Bundle.tN "UNASSIGNED_STACK" Bundle.steD A s' s'.heap := by rw [hhp]; exact vx_Zq.moved hW0.alike (hU.kept hS.2.1)
  have hN' : vx_Zq Bundle.tN "SUPPRESSED_SENTINEL" Bundle.listD A s' s'.heap := by rw [hhp]; exact vx_Zq.moved hW0.alike (hN.kept hS.2.1)
  have h : ∀ w ∈ Bundle.ownAtoms own ic cls names, w.before args s' = true := vx_own hat' (vx_isRefq hU'.1) (vx_isRefq hN'.1) hU'.2.word hN'.2.word
  have hown' : s'.vm.findClass own = some m.cls := by rw [hvm]; exact hown
  have hins : (Cond.instantiable cls 6).before args s' = true := h _ (by simp [Bundle.ownAtoms])
  obtain ⟨vm₁, cX, kX, hfX, hkX, -, -, X₁, st1⟩ := Y.newCold hexec (own := own) (C := cls) (index := ik) (n := 6) hown' hk' hins hini'
    (g := F0 m pc ls rest) rfl (by rw [hb]; exact d0) (Nat.le_refl _) (Nat.le_refl _)
  generalize hT1 : (T.setVm vm₁).pushCell { cls := cX, slots := kX.instanceTypes.map defaultValue, vm := .none } = T1 at X₁ st1
  have hcat : (Value.ref T.heap.size).category = 1 := rfl
  have hcellA : T1.heap[T.heap.size]? = some (freshCell cX kX) := by rw [← hT1]; exact State.heap_pushCell_size _ _
  have d3' : decode c.code (pc + 3) = .ok (.dup, 1) := by rw [hb]; exact d3
  have d4' : decode c.code (pc + 4) = .ok (.ldc is, 2) := by rw [hb]; exact d4
  have hstr' : vk_R own is text sa s' := vk_R.warm hW0 hstr
  obtain ⟨U, hsteps, hrun, hend, hW, hsame, ce, hce, hO⟩ := X₁.ctorThrowS hexec htr (own := own) (cls := cls) (names := names) (ic := ic) hown' hcls hnames h (fun x hx => nomatch hx) hfX hkX hcellA (by rw [hhp, hT]; exact Nat.le_refl _) (msg := .ref sa) rfl
    (g := { method := m, pc := pc + 6, locals := ls, stack := .ref sa :: .ref T.heap.size :: .ref T.heap.size :: rest, locked := none }) rfl hsize rfl rfl (rest := rest) rfl
    (by rw [hb]; exact d6) (by rw [hb]; exact d9) hout hRframes (by simp only [List.map_cons, List.sum_cons, hcat]; omega) hlocks
  obtain ⟨f1, f2⟩ := vx_frame hsame
  rw [hhp] at f1 f2
  have hWs : s.WarmedH U.vm := State.WarmedH.trans hW0 hW
  have hcl : s.vm.findClass cls = some ce.cls := by
    have h9 := hO.cls
    rw [hvm] at h9
    exact h9
  have hall : s.sameButNew ({ U with vm := s.vm } : State) locs mc ms := by
    subst hA
    obtain ⟨e1, e2⟩ := hsame
    rw [State.setFrames_setFrames] at e1
    have h2 : (T.setVm s.vm).sameButNew ({ U with vm := s.vm } : State) [] (0 + 1) (0 + 6) := ⟨e1, e2⟩
    have h3 := X.same.trans h2
    rw [List.append_nil] at h3
    exact h3.mono hc hs
  refine ⟨U, ?_, .threw T.heap.size, hrun, hend, Or.inr ⟨T.heap.size, rfl, cls, ce, locs, hx U hWs.alike f1 (fun q hq => f2 q hq (fun z hz => nomatch hz)), hce, hO.vm, hcl, hWs, hall, hf⟩⟩
  refine st1 _ ?_
  show Steps p.tables e below (T1.setTop { method := m, pc := pc + 3, locals := ls, stack := .ref T.heap.size :: rest, locked := none }) _
  jvm_step X₁.here [X₁.here.top, hexec, d3', Value.category]
  exact X₁.ldcString hexec (own := own) (text := text) (index := is) (a := sa) hown' hstr'.1 hstr'.2
    (g := { method := m, pc := pc + 4, locals := ls, stack := .ref T.heap.size :: .ref T.heap.size :: rest, locked := none }) rfl d4' _ hsteps
/-- 'throw new E("text")', the text by a wide index -/
theorem vx_throwSW {cc : ByteArray} {pc : Nat} (hexec : p.tables.exec = Jvm.exec) (hb : c.code = cc) (hl : l.stackTraces = false) {own cls text : String} {names : List String} {ik is ic mc ms sa : Nat} {A : Nat → Prop}
    (hown : s.vm.findClass own = some m.cls) (hcls : Bundle.fit cls = true) (hnames : ∀ n ∈ names, Bundle.fit n = true)
    (hk : (Cond.classLink own ik cls).before args s = true) (hini : (Cond.initialized cls).before args s = true) (hstr : vk_R own is text sa s) (hat : ∀ w ∈ vx_atS own ic cls names, w.before args s = true)
    (hgood : ∀ w ∈ Cond.classLink own ik cls :: Cond.initialized cls :: vx_atS own ic cls names, vx_ot w = true)
    (hU : vx_Zq Bundle.tN "UNASSIGNED_STACK" Bundle.steD A s s.heap) (hN : vx_Zq Bundle.tN "SUPPRESSED_SENTINEL" Bundle.listD A s s.heap) (hS : va_S A s.heap H locs) (hsize : ls.size = c.maxLocals)
    (d0 : decode cc pc = .ok (.new ik, 3)) (d3 : decode cc (pc + 3) = .ok (.dup, 1)) (d4 : decode cc (pc + 4) = .ok (.ldc_w is, 3)) (d7 : decode cc (pc + 7) = .ok (.invokespecial ic, 3)) (d10 : decode cc (pc + 10) = .ok (.athrow, 1))
    (hout : ∀ x ∈ c.exceptionTable.toList, covers x (pc + 10) = false)
    (hRframes : names.length + 3 < R.frames) (hRlocals : (rest.map fun v => v.category).sum + (13 * (names.length + 1) + 43) ≤ R.locals) (hRcells : cells + 1 ≤ R.cells) (hRslots : slots + 6 ≤ R.slots) (hlocks : meth.locks = false)
    (hx : ∀ t : State, s.vm.Alike t.vm → H.size ≤ t.heap.size → (∀ q : Nat, q < H.size → t.heap[q]? = H[q]?) → XC cls s t)
    (hf : ∀ z ∈ locs, free z.base) (hc : cells + 1 ≤ mc) (hs : slots + 6 ≤ ms) :
    W p l e R s m args below meth c H locs cells slots (vx_MQ below Qc XC args s mc ms free) (F0 m pc ls rest) := by
  intro T hT X
  have htr : e.platform.stackTraces = false := (show e.platform.stackTraces = l.stackTraces by rw [X.admits.platform]).trans hl
  have Y := vx_rebase X (R' := { frames := R.frames, locals := R.locals, cells := 1, slots := 6 }) (Nat.le_refl _) (Nat.le_refl _) hRcells hRslots
  obtain ⟨s', hA⟩ : ∃ z, z = (T.setVm s.vm).setFrames (.invoking m args :: below) := ⟨_, rfl⟩
  rw [← hA] at Y
  have hvm : s'.vm = s.vm := by rw [hA]; rfl
  have hhp : s'.heap = H := by rw [hA]; exact hT
  have hW0 : s.WarmedH s'.vm := by rw [hvm]; exact State.WarmedH.refl s
  have hat' : ∀ w ∈ vx_atS own ic cls names, w.before args s' = true := fun w hw => vx_ot_at hW0 hvm.symm (hgood w (List.mem_cons_of_mem _ (List.mem_cons_of_mem _ hw))) (hat w hw)
  have hk' : (Cond.classLink own ik cls).before args s' = true := vx_ot_at hW0 hvm.symm (hgood _ List.mem_cons_self) hk
  have hini' : (Cond.initialized cls).before args s' = true := vx_ot_at hW0 hvm.symm (hgood _ (List.mem_cons_of_mem _ List.mem_cons_self)) hini
  have hU' : vx_Zq Bundle.tN "UNASSIGNED_STACK" Bundle.steD A s' s'.heap := by rw [hhp]; exact vx_Zq.moved hW0.alike (hU.kept hS.2.1)
  have hN' : vx_Zq Bundle.tN "SUPPRESSED_SENTINEL" Bundle.listD A s' s'.heap := by rw [hhp]; exact vx_Zq.moved hW0.alike (hN.kept hS.2.1)
  have h : ∀ w ∈ Bundle.ownAtoms own ic cls names, w.before args s' = true := vx_own hat' (vx_isRefq hU'.1) (vx_isRefq hN'.1) hU'.2.word hN'.2.word
  have hown' : s'.vm.findClass own = some m.cls := by rw [hvm]; exact hown
  have hins : (Cond.instantiable cls 6).before args s' = true := h _ (by simp [Bundle.ownAtoms])
  obtain ⟨vm₁, cX, kX, hfX, hkX, -, -, X₁, st1⟩ := Y.newCold hexec (own := own) (C := cls) (index := ik) (n := 6) hown' hk' hins hini'
    (g := F0 m pc ls rest) rfl (by rw [hb]; exact d0) (Nat.le_refl _) (Nat.le_refl _)
  generalize hT1 : (T.setVm vm₁).pushCell { cls := cX, slots := kX.instanceTypes.map defaultValue, vm := .none } = T1 at X₁ st1
  have hcat : (Value.ref T.heap.size).category = 1 := rfl
  have hcellA : T1.heap[T.heap.size]? = some (freshCell cX kX) := by rw [← hT1]; exact State.heap_pushCell_size _ _
  have d3' : decode c.code (pc + 3) = .ok (.dup, 1) := by rw [hb]; exact d3
  have d4' : decode c.code (pc + 4) = .ok (.ldc_w is, 3) := by rw [hb]; exact d4
  have hstr' : vk_R own is text sa s' := vk_R.warm hW0 hstr
  obtain ⟨U, hsteps, hrun, hend, hW, hsame, ce, hce, hO⟩ := X₁.ctorThrowS hexec htr (own := own) (cls := cls) (names := names) (ic := ic) hown' hcls hnames h (fun x hx => nomatch hx) hfX hkX hcellA (by rw [hhp, hT]; exact Nat.le_refl _) (msg := .ref sa) rfl
    (g := { method := m, pc := pc + 7, locals := ls, stack := .ref sa :: .ref T.heap.size :: .ref T.heap.size :: rest, locked := none }) rfl hsize rfl rfl (rest := rest) rfl
    (by rw [hb]; exact d7) (by rw [hb]; exact d10) hout hRframes (by simp only [List.map_cons, List.sum_cons, hcat]; omega) hlocks
  obtain ⟨f1, f2⟩ := vx_frame hsame
  rw [hhp] at f1 f2
  have hWs : s.WarmedH U.vm := State.WarmedH.trans hW0 hW
  have hcl : s.vm.findClass cls = some ce.cls := by
    have h9 := hO.cls
    rw [hvm] at h9
    exact h9
  have hall : s.sameButNew ({ U with vm := s.vm } : State) locs mc ms := by
    subst hA
    obtain ⟨e1, e2⟩ := hsame
    rw [State.setFrames_setFrames] at e1
    have h2 : (T.setVm s.vm).sameButNew ({ U with vm := s.vm } : State) [] (0 + 1) (0 + 6) := ⟨e1, e2⟩
    have h3 := X.same.trans h2
    rw [List.append_nil] at h3
    exact h3.mono hc hs
  refine ⟨U, ?_, .threw T.heap.size, hrun, hend, Or.inr ⟨T.heap.size, rfl, cls, ce, locs, hx U hWs.alike f1 (fun q hq => f2 q hq (fun z hz => nomatch hz)), hce, hO.vm, hcl, hWs, hall, hf⟩⟩
  refine st1 _ ?_
  show Steps p.tables e below (T1.setTop { method := m, pc := pc + 3, locals := ls, stack := .ref T.heap.size :: rest, locked := none }) _
  jvm_step X₁.here [X₁.here.top, hexec, d3', Value.category]
  exact X₁.ldcStringW hexec (own := own) (text := text) (index := is) (a := sa) hown' hstr'.1 hstr'.2
    (g := { method := m, pc := pc + 4, locals := ls, stack := .ref T.heap.size :: .ref T.heap.size :: rest, locked := none }) rfl d4' _ hsteps
end Ends
section Bodies
variable {l : Launch}
theorem vx_ofW {y : MethodName} {ws ws' : List Cond} {rm : Room} {Pc : Array Value → State → Prop} {Qc : Array Value → State → Outcome → State → Prop} {XC : String → State → State → Prop} {mc ms : Nat} {free : Addr → Prop} {cc : ByteArray} {maxL : Nat} {ret : Option FieldType}
    (hy : plainName y.cls = true) (hw : ws = Cond.code y cc maxL ret :: ws')
    (body : ∀ p e s m args below meth c s₁, BodyLoose p l y (headSpec ws rm) cc maxL ret e s m args below meth c s₁ → c.maxLocals = maxL → (∀ x ∈ c.exceptionTable.toList, False) → Pc args s →
      W p l e (headSpec ws rm).room s m args below meth c s.heap [] 0 0 (vx_MQ below Qc XC args s mc ms free) (entryFrame m args maxL)) : vx_Met l y ws rm Pc Qc XC mc ms free := by
  refine MetFree.of_bodyS (code := cc) (maxLocals := maxL) (ret := ret) hy ?_ ?_
  · intro args s m h hn
    obtain ⟨meth, c, h1, h2, h3, h4, h5, h6, -, -⟩ := Cond.code_spec hn (atoms_spec (ws := ws) h _ (by rw [hw]; exact List.mem_cons_self))
    exact ⟨meth, c, h1, h2, h3, h4, h5, h6⟩
  · intro p e s m args below meth c s₁ B hml hP _
    have hh0 : s₁.heap = s.heap := by rw [B.state]; rfl
    have ht : ∀ x ∈ c.exceptionTable.toList, False := by
      obtain ⟨meth9, c9, h1, h2, -, -, -, -, h7, -⟩ := Cond.code_spec B.named (atoms_spec (ws := ws) B.pre _ (by rw [hw]; exact List.mem_cons_self))
      cases Option.some.inj (h1.symm.trans B.method)
      cases Option.some.inj (h2.symm.trans (Stand.of_body B).code)
      intro x hx
      rw [Array.isEmpty_iff.mp h7] at hx
      cases hx
    obtain ⟨t, a1, o, b1, b2, b3⟩ := body p e s m args below meth c s₁ B hml ht hP s₁ hh0 (Stand.of_body B)
    exact ⟨t, o, a1, b1, b2, b3⟩
/-- the table of a body with handlers -/
theorem vx_table {p : Program} {x y : MethodName} {S : Spec} {cc bytes : ByteArray} {maxL maxL' : Nat} {ret ret' : Option FieldType} {e : Env} {s s₁ : State} {m : MethodId} {args : Array Value} {below : List Frame} {meth : Method} {c : Code} {hh : List (Nat × Nat × Nat × Nat)}
    (B : BodyLoose p l y S cc maxL ret e s m args below meth c s₁) (h : (Cond.codeWith y bytes maxL' ret' hh).before args s = true) : c.exceptionTable.toList = tableOf hh := by
  obtain ⟨m9, meth9, c9, hn9, h1, h2, -, -, h6, -⟩ := Cond.codeWith_spec h
  cases Option.some.inj (hn9.symm.trans B.named)
  cases Option.some.inj (h1.symm.trans B.method)
  cases Option.some.inj (h2.symm.trans (Stand.of_body B).code)
  rw [← h6, table_eq]
end Bodies
end VXA
/-! ===== END ===== -/
/-! ===== BEGIN a static call of a method with an exception table ===== -/
section VXS
variable {p : Program} {l : Launch} {e : Env} {R : Room} {s : State} {m : MethodId} {args : Array Value} {below : List Frame} {meth : Method} {c : Code} {T : State} {H : Heap} {locs : List Loc} {cells slots : Nat}
abbrev vx_CSW (R : Room) (s : State) (args : Array Value) (own : String) (index : Nat) (y : MethodName) (bytes : ByteArray) (maxL : Nat) (ret : Option FieldType) (hh : List (Nat × Nat × Nat × Nat)) (ws : List Cond) (rm : Room) (mc ms n : Nat) : Prop :=
  (rm.cells = mc ∧ rm.slots = ms ∧ rm.frames + 1 ≤ R.frames ∧ 8 + (maxL + 11) + rm.locals ≤ R.locals ∧ (∀ w ∈ ws, ∀ (a' : Array Value) (U : State), s.WarmedH U.vm → w.before a' U = true) ∧ Cond.codeWith y bytes maxL ret hh ∈ ws) ∧
  (Cond.codeWith y bytes maxL ret hh).before args s = true ∧ (Cond.initialized y.cls).before args s = true ∧ (y.cls ≠ "java/lang/invoke/MethodHandle" ∧ y.cls ≠ "java/lang/invoke/VarHandle") ∧
  (∀ sig, parseMethodDescriptor y.desc = some sig → n = sig.parameters.length) ∧ (Cond.methodLink own index y).before args s = true ∧ (Cond.static y).before args s = true
theorem vx_cwSW {own : String} {index maxL mc ms : Nat} {y : MethodName} {bytes : ByteArray} {ret : Option FieldType} {hh : List (Nat × Nat × Nat × Nat)} {Ts ws ws' : List Cond} {rm : Room} (n : Nat) (ht : ∀ w ∈ Ts, w.before args s = true) (hT : GoodIn Ts (va_wsS own index y ws)) (hw : ws = Cond.codeWith y bytes maxL ret hh :: ws') (hrc : rm.cells = mc) (hrs : rm.slots = ms)
    (hd : y.cls ≠ "java/lang/invoke/MethodHandle" ∧ y.cls ≠ "java/lang/invoke/VarHandle" ∧ (parseMethodDescriptor y.desc).map (fun d => d.parameters.length) = some n) (hR : rm.frames + 1 ≤ R.frames ∧ 8 + (maxL + 11) + rm.locals ≤ R.locals) :
    vx_CSW R s args own index y bytes maxL ret hh ws rm mc ms n := by
  have ok : ∀ w ∈ va_wsS own index y ws, w.before args s = true := fun w h => ht w (hT w h).1
  have hG : GoodIn Ts ws := fun w h => hT w (by unfold va_wsS; exact List.mem_append_right _ h)
  have hc : Cond.codeWith y bytes maxL ret hh ∈ ws := by rw [hw]; exact List.mem_cons_self
  refine ⟨⟨hrc, hrs, hR.1, hR.2, pay_in ht hG, hc⟩, ht _ (hG _ hc).1, ok _ (by simp [va_wsS]), ⟨hd.1, hd.2.1⟩, fun sig h => ?_, ok _ (by simp [va_wsS]), ok _ (by simp [va_wsS])⟩
  have h2 := hd.2.2
  rw [h] at h2
  exact (Option.some.inj h2).symm
theorem vx_callSW (X : Stand p l e R s m args below meth c T locs cells slots) (hexec : p.tables.exec = Jvm.exec) {own : String} {index : Nat} {y : MethodName} {bytes : ByteArray} {maxL : Nat} {ret : Option FieldType} {hh : List (Nat × Nat × Nat × Nat)}
    (hown : s.vm.findClass own = some m.cls) (hlink : (Cond.methodLink own index y).before args s = true) (hstat : (Cond.static y).before args s = true) (hinit : (Cond.initialized y.cls).before args s = true)
    (hcode : (Cond.codeWith y bytes maxL ret hh).before args s = true) (hy : y.cls ≠ "java/lang/invoke/MethodHandle" ∧ y.cls ≠ "java/lang/invoke/VarHandle")
    {W9 : Nat} {Pre : Pt → Array Value → Prop} {Post : Pt → Array Value → Option Value → Pt → Prop} (hK : Back l R p e below s args y 3 W9 Pre Post)
    {g : JFrame} (hg : g.method = m) (hsize : g.locals.size = c.maxLocals) {argsL rest : List Value} (hlen : ∀ sig, parseMethodDescriptor y.desc = some sig → argsL.length = sig.parameters.length)
    (hstack : g.stack = argsL.reverse ++ rest) (hW : 2 * g.monitorRoom + (rest.map fun v => v.category).sum ≤ W9) (hdg : decode c.code g.pc = .ok (.invokestatic index, 3))
    (hpre : ∀ vm₁, s.WarmedH vm₁ → Pre ⟨T.setVm vm₁, locs, cells, slots⟩ argsL.toArray) :
    ∃ (v : Option Value) (vm₁ : Vm) (B : Pt), s.WarmedH vm₁ ∧ Stand p l e R s m args below meth c B.U B.locs B.cells B.slots ∧ Post ⟨T.setVm vm₁, locs, cells, slots⟩ argsL.toArray v B ∧
      ∀ target, Steps p.tables e below (B.U.setTop { g with pc := g.pc + 3, stack := v.toList ++ rest }) target → Steps p.tables e below (T.setTop g) target := by
  obtain ⟨mk, methM, cM, hnamed, hmethM, -, -, -, -, -, -, hsigM⟩ := Cond.codeWith_spec hcode
  have hstatic : methM.isStatic = true := Cond.static_spec hnamed hmethM hstat
  obtain ⟨kP, hkP, -⟩ := className_of_methodNamed hnamed
  have hinitP : kP.init = .initialized := Cond.initialized_spec (findClass_of_methodNamed hnamed) hkP hinit
  obtain ⟨vm₁, X₁, hstep₁⟩ := X.invokestatic hexec hown hlink hnamed hmethM hstatic hkP hinitP hy (g := g) hg (argsL := argsL) (rest := rest) (hlen _ hsigM) hstack hdg
  obtain ⟨v, B, X', hpost, hsteps⟩ := hK m meth c ⟨T.setVm vm₁, locs, cells, slots⟩ { g with stack := rest } (.invokestatic index) mk argsL.toArray X₁ hg hsize hdg hW (X₁.named hnamed) (hpre vm₁ X₁.warmed)
  exact ⟨v, vm₁, B, X₁.warmed, X', hpost, fun target h => hstep₁ _ fun acts => by rw [doInvoke_state]; exact hsteps.trans h⟩
theorem vx_runSW {y : MethodName} {bytes cc : ByteArray} {maxL nL mc ms n index : Nat} {ret : Option FieldType} {hh : List (Nat × Nat × Nat × Nat)} {ws : List Cond} {rm : Room} {Pc : Array Value → State → Prop} {Qc : Array Value → State → Outcome → State → Prop} {free : Addr → Prop} {Ts : List Cond} {own : String} {As rest : List Value} {g : JFrame}
    (S : CallFix p m c cc nL s args Ts own) (hM : Met l y ws rm Pc Qc mc ms free) (cw : vx_CSW R s args own index y bytes maxL ret hh ws rm mc ms n) (hp : PreS s H Pc As)
    (hg : g.method = m) (hn : As.length = n) (hsize : g.locals.size = nL) (hstack : g.stack = As.reverse ++ rest) (hW : 2 * g.monitorRoom + (rest.map fun v => v.category).sum ≤ 8) (hdg : decode cc g.pc = .ok (.invokestatic index, 3)) (hf : cells + mc ≤ R.cells ∧ slots + ms ≤ R.slots) :
    va_Run p l e R s m args below meth c H locs cells slots mc ms g rest (Qc As.toArray) (free) := by
  obtain ⟨⟨hrc, hrs, hfr, hlo, hws, hcw⟩, hcode, hini, hy, hlen, hl, hstt⟩ := cw
  have hK : Back l R p e below s args y 3 8 (PreOf R mc ms Pc) (PostOf Qc mc ms free) := va_backW (hh := hh) (bytes := bytes) (maxL := maxL) (ret := ret) hM hp.1 hrc hrs hfr hlo hws hcw (fun a' U hW => word_at hW (Or.inl (by first | rfl | simp [Cond.onTables, Cond.keeps, Cond.steady])) hini)
  obtain ⟨hx, hb, hml, ho, -⟩ := S
  intro T hT X
  obtain ⟨v, vm₁, ⟨U', l2, c2, s2⟩, hW₁, X', ⟨g', mk, t, L, e1, e2, hq, h1, hL, h2, h3⟩, st⟩ := vx_callSW X hx (hh := hh) (bytes := bytes) (maxL := maxL) (ret := ret) ho hl hstt hini hcode hy hK hg (hsize.trans hml.symm) (argsL := As) (rest := rest) (fun sig h => hn.trans (hlen sig h)) hstack hW (by rw [hb]; exact hdg)
    (fun vm₁ hW₁ => ⟨hf.1, hf.2, hp.2 (T.setVm vm₁) hT hW₁⟩)
  dsimp only [Pt.U, Pt.locs, Pt.cells, Pt.slots] at X' e1 e2 h1 h2 h3 st
  subst h1; subst h2; subst h3
  exact ⟨v, (T.setVm vm₁).calling g' mk As.toArray, t, U', L, hT, X', hL, e1, e2, hq, st⟩
/-- not caught here, past rows that name other classes: it goes on to the caller -/
theorem vx_outP {p : Program} {l : Launch} {e : Env} {R : Room} {s : State} {m : MethodId} {args : Array Value} {below : List Frame} {meth : Method} {c : Code} {H : Heap} {locs : List Loc} {cells slots : Nat} {free : Addr → Prop} {ls : Array Slot} {rest : List Value} {Qc : Array Value → State → Outcome → State → Prop} {XC : String → State → State → Prop}
    {pc : Nat} {own E : String} {ce : Cell} {q : Addr} {mc ms : Nat} (hown : s.vm.findClass own = some m.cls) (hlocks : meth.locks = false)
    (hpass : ∀ z ∈ c.exceptionTable.toList, covers z pc = false ∨ (z.catchType ≠ 0 ∧ ∃ nm : String, (Cond.classLink own z.catchType nm).before args s = true ∧ va_Nc E nm s)) (hcell : H[q]? = some ce) (hv : ce.vm = .none) (hcl : s.vm.findClass E = some ce.cls)
    (hx : ∀ t : State, t.heap = H → s.vm.Alike t.vm → XC E s t) (hf : ∀ z ∈ locs, free z.base) (hc : cells ≤ mc) (hs : slots ≤ ms) :
    vx_W p l e R s m args below meth c H locs cells slots (vx_MQ below Qc XC args s mc ms free) (F0 m pc ls rest) q := by
  intro T hT X
  have hpl : e.platform.magicAccessors = ({} : Platform).magicAccessors := by rw [X.admits.platform]
  obtain ⟨vm', hW', X', st⟩ := X.outThrough hlocks q (g := F0 m pc ls rest) rfl rfl rfl (cell := ce) (by rw [hT]; exact hcell) (by rw [hv]; rfl)
    (by obtain ⟨k9, h9, -⟩ := Vm.findClass_spec hcl; exact ⟨k9, h9⟩) (fun z hz => by
      rcases hpass z hz with h | ⟨hz0, nm, hl1, hn1⟩
      · exact Or.inl h
      · obtain ⟨c6, hc6, hcl6⟩ := Cond.classLink_spec hown hl1 e.platform hpl
        obtain ⟨a8, b8, h1, h2, h3⟩ := hn1
        cases Option.some.inj (h1.symm.trans hcl)
        cases Option.some.inj (h2.symm.trans hc6)
        exact Or.inr ⟨hz0, _, hcl6, h3⟩)
  obtain ⟨g₀, hfr⟩ := X'.frames_eq
  have hcell9 : ((T.setVm vm').setFrames (.throwing q :: below)).heap[q]? = some ce := by
    show T.heap[q]? = some ce
    rw [hT]; exact hcell
  have hend : Ended ((T.setVm vm').setFrames (.throwing q :: below)) below (.threw q) := State.frames_setFrames _ (State.cur_lt_of_frames hfr)
  refine ⟨(T.setVm vm').setFrames (.throwing q :: below), ?_, .threw q, X'.here.running, hend, Or.inr ⟨q, rfl, E, ce, locs, hx _ hT (X'.ends _).1.alike, hcell9, hv, hcl, (X'.ends _).1, (X'.ends _).2.mono hc hs, hf⟩⟩
  rw [X.pushThrowing_eq]
  exact st
/-- a thing of a world lies in the heap -/
theorem vx_lt {D : va_G} {cl : List vw_C} {ws : va_W} {H1 : Heap} (h : va_P D cl ws H1) {k : Nat} {q : Nat × va_E} (hk : ws[k]? = some q) : q.1 < H1.size := (h k q hk).lt
end VXS
/-! ===== END ===== -/
/-! ===== BEGIN methods with a table of their own: called by a name, returning or throwing ===== -/
section VXH
/-! vx_backW, vx_callVX, vx_callSX, vx_callVW, vx_runVW, vx_runVX, vx_runSX, vx_ofWH follow the same proofs as their sisters above (Free/Laws.lean, Shelf42/LK1.lean); vx_outP calls Shelf42/NT130.lean (outThrough). -/
section
variable {l : Launch} {R : Room} {p : Program} {e : Env} {below : List Frame} {s : State} {sargs : Array Value} {y : MethodName} {len W9 : Nat}
theorem vx_backW {ws : List Cond} {rm : Room} {Pc : Array Value → State → Prop} {Qc : Array Value → State → Outcome → State → Prop} {XC : String → State → State → Prop} {mc ms : Nat} {free : Addr → Prop} {bytes : ByteArray} {maxL : Nat} {ret : Option FieldType} {hh : List (Nat × Nat × Nat × Nat)}
    (hM : vx_Met l y ws rm Pc Qc XC mc ms free) (hblind : FrameBlind Pc) (hrc : rm.cells = mc) (hrs : rm.slots = ms)
    (hframes : rm.frames + 1 ≤ R.frames) (hlocals : W9 + (maxL + 11) + rm.locals ≤ R.locals)
    (hws : ∀ w ∈ ws, ∀ a' U, s.WarmedH U.vm → w.before a' U = true) (hcode : Cond.codeWith y bytes maxL ret hh ∈ ws) (hinit : ∀ a' U, s.WarmedH U.vm → (Cond.initialized y.cls).before a' U = true) :
    vx_Back l R p e below s sargs y len W9 (PreOf R mc ms Pc) (PostOf Qc mc ms free) (vx_Post XC mc ms free) := by
  intro m meth c A g ig mk a X hg hsize hdg hW hn hp
  have h1 : (headSpec ws rm).pre.before a A.U = true := atoms_intro fun w hw => hws w hw _ _ X.warmed
  have h2 : (Cond.codeWith y bytes maxL ret hh).before a A.U = true := hws _ hcode _ _ X.warmed
  have h3 : (Cond.initialized y.cls).before a A.U = true := hinit _ _ X.warmed
  have h4 : A.cells + (headSpec ws rm).room.cells ≤ R.cells := by rw [show (headSpec ws rm).room.cells = mc from hrc]; exact hp.1
  have h5 : A.slots + (headSpec ws rm).room.slots ≤ R.slots := by rw [show (headSpec ws rm).room.slots = ms from hrs]; exact hp.2.1
  have hPc : Pc a (A.U.calling g mk a) := hblind _ _ _ _ hp.2.2
  obtain ⟨U, Ls, c0, s0⟩ := A
  dsimp only [Pt.U, Pt.locs, Pt.cells, Pt.slots] at h1 h2 h3 h4 h5 X hn hPc ⊢
  obtain ⟨m9, methY, cY, hn9, hmY, hcY, -, hlY, -⟩ := Cond.codeWith_spec h2
  cases Option.some.inj (hn9.symm.trans hn)
  obtain ⟨kY, hkY, -⟩ := className_of_methodNamed hn
  have hinitY : kY.init = .initialized := Cond.initialized_spec (findClass_of_methodNamed hn) hkY h3
  have h : At U g.method c below := by rw [hg]; exact X.here
  have hlocals9 : W9 + (maxL + 11) + (headSpec ws rm).room.locals ≤ R.locals := hlocals
  have happ : (headSpec ws rm).appliesLoose y e.platform (U.calling g mk a) = true :=
    Spec.appliesLoose_calling (g := g) h hdg hn hkY hinitY
      (X.room_calling (g := g) (R' := (headSpec ws rm).room) hsize hmY hcY hframes (by rw [hlY]; omega) h4 h5) h1
  obtain ⟨mid, hmid⟩ := h.above
  have hfr : (U.setTop g).frames = (.java g :: mid) ++ below := by rw [State.frames_setTop' g h.top, hmid]; rfl
  obtain ⟨o, s₂, hsteps, -, hend, hq⟩ := Steps.callFree hM p X.admits X.cas X.clock (acts := []) hfr happ hPc trivial
  have hq' : vx_Q Qc XC mc ms free a (U.calling g mk a) o s₂ := hq
  rw [State.frames_setTop' g h.top] at hend
  obtain ⟨g₀, hg0⟩ := Option.isSome_iff_exists.mp h.top
  obtain ⟨r, hr⟩ := State.topJava?_eq_some.mp hg0
  have hr' : (({ U with heap := s₂.heap, slotsUsed := s₂.slotsUsed } : State).setVm s₂.vm).frames = .java g₀ :: r := hr
  rcases hq' with ⟨hqc, L, hfe, hL⟩ | ⟨q, rfl, E, ce, L, hx, hce, hcv, hcl, hW₂, hsm, hL⟩
  · obtain ⟨⟨v, rfl⟩, hW₂, e2, q2, q3, q4, q5, q6⟩ := id hfe
    have e3 : s₂ = ({ (U.calling g mk a).setFrames s₂.frames with heap := s₂.heap, slotsUsed := s₂.slotsUsed } : State).setVm s₂.vm := by
      have : s₂ = ({ s₂ with vm := (U.calling g mk a).vm } : State).setVm s₂.vm := rfl
      rw [e2] at this
      exact this
    obtain ⟨c₂, i₂, len₂, hc₂, hd₂, hf₂⟩ := hend
    have hW' : U.WarmedH s₂.vm := hW₂
    have hcc : c₂ = c := by
      have h1 : s₂.code? g.method = U.code? g.method := by
        rw [State.code?_eq, State.code?_eq, hW'.alike.method?]
      exact Option.some.inj (hc₂.symm.trans (h1.trans h.code))
    subst hcc
    have hlen : len₂ = len := by rw [hdg] at hd₂; cases hd₂; rfl
    subst hlen
    have hs₂ : s₂ = (({ U with heap := s₂.heap, slotsUsed := s₂.slotsUsed } : State).setVm s₂.vm).setTop { g with pc := g.pc + len₂, stack := v.toList ++ g.stack } := by
      refine e3.trans ?_
      rw [hf₂, State.calling_eq h.top, State.setFrames_setFrames, State.setTop_of_frames _ hr', hr]
      rfl
    have hsame : U.sameButNew ({ U with heap := s₂.heap, slotsUsed := s₂.slotsUsed } : State) L mc ms := by
      refine ⟨?_, q2, q3, q4, q5, q6⟩
      obtain ⟨t, ht, -⟩ := State.frames_cons hr
      show ({ U with heap := s₂.heap, slotsUsed := s₂.slotsUsed } : State) = { U.setFrames U.frames with heap := s₂.heap, slotsUsed := s₂.slotsUsed }
      rw [State.setFrames_self ht]
    subst hg
    refine Or.inl ⟨v, ⟨(({ U with heap := s₂.heap, slotsUsed := s₂.slotsUsed } : State).setVm s₂.vm), Ls ++ L, c0 + mc, s0 + ms⟩,
      ⟨X.admits, X.cas, X.clock, X.frames, X.room, X.hears, X.method, X.code, (X.here.setHeapUsed s₂.heap s₂.slotsUsed).setVm hW'.alike, X.tail, State.WarmedH.trans X.warmed hW', X.limits, X.bytes, X.same.trans (hsame.setVm s.vm)⟩,
      ⟨g, mk, s₂, L, rfl, rfl, hqc, rfl, hL, rfl, rfl⟩, ?_⟩
    show Steps p.tables e below _ ((({ U with heap := s₂.heap, slotsUsed := s₂.slotsUsed } : State).setVm s₂.vm).setTop { g with pc := g.pc + len₂, stack := v.toList ++ g.stack })
    rw [← hs₂]
    exact hsteps
  · obtain ⟨e2, q2, q3, q4, q5, q6⟩ := id hsm
    have e3 : s₂ = ({ (U.calling g mk a).setFrames s₂.frames with heap := s₂.heap, slotsUsed := s₂.slotsUsed } : State).setVm s₂.vm := by
      have : s₂ = ({ s₂ with vm := (U.calling g mk a).vm } : State).setVm s₂.vm := rfl
      rw [e2] at this
      exact this
    have hf₂ : s₂.frames = .throwing q :: .java g :: U.frames.tail := hend
    have hW' : U.WarmedH s₂.vm := hW₂
    have hs₂ : s₂ = ((({ U with heap := s₂.heap, slotsUsed := s₂.slotsUsed } : State).setVm s₂.vm).setTop g).pushFrame (.throwing q) := by
      refine e3.trans ?_
      rw [hf₂, State.calling_eq h.top, State.setFrames_setFrames, State.pushFrame, State.frames_setTop _ hr', State.setTop_of_frames _ hr', State.setFrames_setFrames, hr]
      rfl
    have hsame : U.sameButNew ({ U with heap := s₂.heap, slotsUsed := s₂.slotsUsed } : State) L mc ms := by
      refine ⟨?_, q2, q3, q4, q5, q6⟩
      obtain ⟨t, ht, -⟩ := State.frames_cons hr
      show ({ U with heap := s₂.heap, slotsUsed := s₂.slotsUsed } : State) = { U.setFrames U.frames with heap := s₂.heap, slotsUsed := s₂.slotsUsed }
      rw [State.setFrames_self ht]
    subst hg
    refine Or.inr ⟨q, ⟨(({ U with heap := s₂.heap, slotsUsed := s₂.slotsUsed } : State).setVm s₂.vm), Ls ++ L, c0 + mc, s0 + ms⟩,
      ⟨X.admits, X.cas, X.clock, X.frames, X.room, X.hears, X.method, X.code, (X.here.setHeapUsed s₂.heap s₂.slotsUsed).setVm hW'.alike, X.tail, State.WarmedH.trans X.warmed hW', X.limits, X.bytes, X.same.trans (hsame.setVm s.vm)⟩,
      ⟨g, mk, s₂, L, E, ce, rfl, rfl, hx, hce, hcv, hcl, rfl, hL, rfl, rfl⟩, ?_⟩
    show Steps p.tables e below _ (((({ U with heap := s₂.heap, slotsUsed := s₂.slotsUsed } : State).setVm s₂.vm).setTop g).pushFrame (.throwing q))
    rw [← hs₂]
    exact hsteps
end
variable {p : Program} {l : Launch} {e : Env} {R : Room} {s : State} {m : MethodId} {args : Array Value} {below : List Frame} {meth : Method} {c : Code} {T : State} {H : Heap} {locs : List Loc} {cells slots : Nat}
theorem vx_callVX (X : Stand p l e R s m args below meth c T locs cells slots) (hexec : p.tables.exec = Jvm.exec) {own C : String} {index : Nat} {y : MethodName} {bytes : ByteArray} {maxL : Nat} {ret : Option FieldType} {hh : List (Nat × Nat × Nat × Nat)}
    (hown : s.vm.findClass own = some m.cls) (hlink : (Cond.methodLink own index y).before args s = true) (hinst : (Cond.instanceMethod y).before args s = true) (hsel : (Cond.selects C y y).before args s = true)
    (hcode : (Cond.codeWith y bytes maxL ret hh).before args s = true) (hy : y.cls ≠ "java/lang/invoke/MethodHandle" ∧ y.cls ≠ "java/lang/invoke/VarHandle")
    {W9 : Nat} {Pre : Pt → Array Value → Prop} {Post : Pt → Array Value → Option Value → Pt → Prop} {PostX : Pt → Array Value → Addr → Pt → Prop} (hK : vx_Back l R p e below s args y 3 W9 Pre Post PostX)
    {b : Addr} {cellB : Cell} (hcell : T.heap[b]? = some cellB) (hobj : cellB.vm.isStatics = false) (hcls : s.vm.findClass C = some cellB.cls)
    {g : JFrame} (hg : g.method = m) (hsize : g.locals.size = c.maxLocals) {argsL rest : List Value} (hlen : ∀ sig, parseMethodDescriptor y.desc = some sig → argsL.length = sig.parameters.length)
    (hstack : g.stack = argsL.reverse ++ .ref b :: rest) (hW : 2 * g.monitorRoom + (rest.map fun v => v.category).sum ≤ W9) (hdg : decode c.code g.pc = .ok (.invokevirtual index, 3))
    (hpre : ∀ vm₁, s.WarmedH vm₁ → Pre ⟨T.setVm vm₁, locs, cells, slots⟩ (Value.ref b :: argsL).toArray) :
    (∃ (v : Option Value) (vm₁ : Vm) (B : Pt), s.WarmedH vm₁ ∧ Stand p l e R s m args below meth c B.U B.locs B.cells B.slots ∧ Post ⟨T.setVm vm₁, locs, cells, slots⟩ (Value.ref b :: argsL).toArray v B ∧
      ∀ target, Steps p.tables e below (B.U.setTop { g with pc := g.pc + 3, stack := v.toList ++ rest }) target → Steps p.tables e below (T.setTop g) target) ∨
    (∃ (q : Addr) (vm₁ : Vm) (B : Pt), s.WarmedH vm₁ ∧ Stand p l e R s m args below meth c B.U B.locs B.cells B.slots ∧ PostX ⟨T.setVm vm₁, locs, cells, slots⟩ (Value.ref b :: argsL).toArray q B ∧
      Steps p.tables e below (T.setTop g) ((B.U.setTop { g with stack := rest }).pushFrame (.throwing q))) := by
  obtain ⟨mk, methM, hnamed, hmethM, hstM, habM⟩ := Cond.instanceMethod_spec hinst
  obtain ⟨m8, methM', cM, hn8, hmethM', -, -, -, -, -, -, hsigM⟩ := Cond.codeWith_spec hcode
  cases Option.some.inj (hn8.symm.trans hnamed)
  cases hmethM.symm.trans hmethM'
  obtain ⟨c2, r2, m2, q1, q2, q3, q4, kP, hkP, hkPi⟩ := Cond.selects_spec hsel
  cases hcls.symm.trans q1
  cases (State.methodFound?_of_named hnamed hy).symm.trans q2
  cases hnamed.symm.trans q3
  have hselP : selectMethod e.platform s.vm cellB.cls mk = .method mk := by rw [Launch.admits_selectMethod X.admits]; exact q4
  obtain ⟨vm₁, X₁, hstep₁⟩ := X.invokevirtual hexec hown hlink hnamed hmethM hstM hkP hkPi hy (a := b) (cell := cellB) hcell
    (fun z h => by rw [h] at hobj; cases hobj) hselP hmethM habM hkP hkPi (g := g) hg (argsL := argsL) (rest := rest) (hlen _ hsigM) hstack hdg
  rcases hK m meth c ⟨T.setVm vm₁, locs, cells, slots⟩ { g with stack := rest } (.invokevirtual index) mk (Value.ref b :: argsL).toArray X₁ hg hsize hdg hW (X₁.named hnamed) (hpre vm₁ X₁.warmed) with ⟨v, B, X', hpost, hsteps⟩ | ⟨q, B, X', hpost, hsteps⟩
  · exact Or.inl ⟨v, vm₁, B, X₁.warmed, X', hpost, fun target h => hstep₁ _ fun acts => by rw [doInvoke_state]; exact hsteps.trans h⟩
  · exact Or.inr ⟨q, vm₁, B, X₁.warmed, X', hpost, hstep₁ _ fun acts => by rw [doInvoke_state]; exact hsteps⟩
theorem vx_callSX (X : Stand p l e R s m args below meth c T locs cells slots) (hexec : p.tables.exec = Jvm.exec) {own : String} {index : Nat} {y : MethodName} {bytes : ByteArray} {maxL : Nat} {ret : Option FieldType} {hh : List (Nat × Nat × Nat × Nat)}
    (hown : s.vm.findClass own = some m.cls) (hlink : (Cond.methodLink own index y).before args s = true) (hstat : (Cond.static y).before args s = true) (hinit : (Cond.initialized y.cls).before args s = true)
    (hcode : (Cond.codeWith y bytes maxL ret hh).before args s = true) (hy : y.cls ≠ "java/lang/invoke/MethodHandle" ∧ y.cls ≠ "java/lang/invoke/VarHandle")
    {W9 : Nat} {Pre : Pt → Array Value → Prop} {Post : Pt → Array Value → Option Value → Pt → Prop} {PostX : Pt → Array Value → Addr → Pt → Prop} (hK : vx_Back l R p e below s args y 3 W9 Pre Post PostX)
    {g : JFrame} (hg : g.method = m) (hsize : g.locals.size = c.maxLocals) {argsL rest : List Value} (hlen : ∀ sig, parseMethodDescriptor y.desc = some sig → argsL.length = sig.parameters.length)
    (hstack : g.stack = argsL.reverse ++ rest) (hW : 2 * g.monitorRoom + (rest.map fun v => v.category).sum ≤ W9) (hdg : decode c.code g.pc = .ok (.invokestatic index, 3))
    (hpre : ∀ vm₁, s.WarmedH vm₁ → Pre ⟨T.setVm vm₁, locs, cells, slots⟩ argsL.toArray) :
    (∃ (v : Option Value) (vm₁ : Vm) (B : Pt), s.WarmedH vm₁ ∧ Stand p l e R s m args below meth c B.U B.locs B.cells B.slots ∧ Post ⟨T.setVm vm₁, locs, cells, slots⟩ argsL.toArray v B ∧
      ∀ target, Steps p.tables e below (B.U.setTop { g with pc := g.pc + 3, stack := v.toList ++ rest }) target → Steps p.tables e below (T.setTop g) target) ∨
    (∃ (q : Addr) (vm₁ : Vm) (B : Pt), s.WarmedH vm₁ ∧ Stand p l e R s m args below meth c B.U B.locs B.cells B.slots ∧ PostX ⟨T.setVm vm₁, locs, cells, slots⟩ argsL.toArray q B ∧
      Steps p.tables e below (T.setTop g) ((B.U.setTop { g with stack := rest }).pushFrame (.throwing q))) := by
  obtain ⟨mk, methM, cM, hnamed, hmethM, -, -, -, -, -, -, hsigM⟩ := Cond.codeWith_spec hcode
  have hstatic : methM.isStatic = true := Cond.static_spec hnamed hmethM hstat
  obtain ⟨kP, hkP, -⟩ := className_of_methodNamed hnamed
  have hinitP : kP.init = .initialized := Cond.initialized_spec (findClass_of_methodNamed hnamed) hkP hinit
  obtain ⟨vm₁, X₁, hstep₁⟩ := X.invokestatic hexec hown hlink hnamed hmethM hstatic hkP hinitP hy (g := g) hg (argsL := argsL) (rest := rest) (hlen _ hsigM) hstack hdg
  rcases hK m meth c ⟨T.setVm vm₁, locs, cells, slots⟩ { g with stack := rest } (.invokestatic index) mk argsL.toArray X₁ hg hsize hdg hW (X₁.named hnamed) (hpre vm₁ X₁.warmed) with ⟨v, B, X', hpost, hsteps⟩ | ⟨q, B, X', hpost, hsteps⟩
  · exact Or.inl ⟨v, vm₁, B, X₁.warmed, X', hpost, fun target h => hstep₁ _ fun acts => by rw [doInvoke_state]; exact hsteps.trans h⟩
  · exact Or.inr ⟨q, vm₁, B, X₁.warmed, X', hpost, hstep₁ _ fun acts => by rw [doInvoke_state]; exact hsteps⟩
theorem vx_callVW (X : Stand p l e R s m args below meth c T locs cells slots) (hexec : p.tables.exec = Jvm.exec) {own C : String} {index : Nat} {y : MethodName} {bytes : ByteArray} {maxL : Nat} {ret : Option FieldType} {hh : List (Nat × Nat × Nat × Nat)}
    (hown : s.vm.findClass own = some m.cls) (hlink : (Cond.methodLink own index y).before args s = true) (hinst : (Cond.instanceMethod y).before args s = true) (hsel : (Cond.selects C y y).before args s = true)
    (hcode : (Cond.codeWith y bytes maxL ret hh).before args s = true) (hy : y.cls ≠ "java/lang/invoke/MethodHandle" ∧ y.cls ≠ "java/lang/invoke/VarHandle")
    {W9 : Nat} {Pre : Pt → Array Value → Prop} {Post : Pt → Array Value → Option Value → Pt → Prop} (hK : Back l R p e below s args y 3 W9 Pre Post)
    {b : Addr} {cellB : Cell} (hcell : T.heap[b]? = some cellB) (hobj : cellB.vm.isStatics = false) (hcls : s.vm.findClass C = some cellB.cls)
    {g : JFrame} (hg : g.method = m) (hsize : g.locals.size = c.maxLocals) {argsL rest : List Value} (hlen : ∀ sig, parseMethodDescriptor y.desc = some sig → argsL.length = sig.parameters.length)
    (hstack : g.stack = argsL.reverse ++ .ref b :: rest) (hW : 2 * g.monitorRoom + (rest.map fun v => v.category).sum ≤ W9) (hdg : decode c.code g.pc = .ok (.invokevirtual index, 3))
    (hpre : ∀ vm₁, s.WarmedH vm₁ → Pre ⟨T.setVm vm₁, locs, cells, slots⟩ (Value.ref b :: argsL).toArray) :
    ∃ (v : Option Value) (vm₁ : Vm) (B : Pt), s.WarmedH vm₁ ∧ Stand p l e R s m args below meth c B.U B.locs B.cells B.slots ∧ Post ⟨T.setVm vm₁, locs, cells, slots⟩ (Value.ref b :: argsL).toArray v B ∧
      ∀ target, Steps p.tables e below (B.U.setTop { g with pc := g.pc + 3, stack := v.toList ++ rest }) target → Steps p.tables e below (T.setTop g) target := by
  obtain ⟨mk, methM, hnamed, hmethM, hstM, habM⟩ := Cond.instanceMethod_spec hinst
  obtain ⟨m8, methM', cM, hn8, hmethM', -, -, -, -, -, -, hsigM⟩ := Cond.codeWith_spec hcode
  cases Option.some.inj (hn8.symm.trans hnamed)
  cases hmethM.symm.trans hmethM'
  obtain ⟨c2, r2, m2, q1, q2, q3, q4, kP, hkP, hkPi⟩ := Cond.selects_spec hsel
  cases hcls.symm.trans q1
  cases (State.methodFound?_of_named hnamed hy).symm.trans q2
  cases hnamed.symm.trans q3
  have hselP : selectMethod e.platform s.vm cellB.cls mk = .method mk := by rw [Launch.admits_selectMethod X.admits]; exact q4
  obtain ⟨vm₁, X₁, hstep₁⟩ := X.invokevirtual hexec hown hlink hnamed hmethM hstM hkP hkPi hy (a := b) (cell := cellB) hcell
    (fun z h => by rw [h] at hobj; cases hobj) hselP hmethM habM hkP hkPi (g := g) hg (argsL := argsL) (rest := rest) (hlen _ hsigM) hstack hdg
  obtain ⟨v, B, X', hpost, hsteps⟩ := hK m meth c ⟨T.setVm vm₁, locs, cells, slots⟩ { g with stack := rest } (.invokevirtual index) mk (Value.ref b :: argsL).toArray X₁ hg hsize hdg hW (X₁.named hnamed) (hpre vm₁ X₁.warmed)
  exact ⟨v, vm₁, B, X₁.warmed, X', hpost, fun target h => hstep₁ _ fun acts => by rw [doInvoke_state]; exact hsteps.trans h⟩
abbrev vx_CVW (R : Room) (s : State) (args : Array Value) (own C : String) (index : Nat) (y : MethodName) (bytes : ByteArray) (maxL : Nat) (ret : Option FieldType) (hh : List (Nat × Nat × Nat × Nat)) (ws : List Cond) (rm : Room) (mc ms n : Nat) : Prop :=
  (rm.cells = mc ∧ rm.slots = ms ∧ rm.frames + 1 ≤ R.frames ∧ 8 + (maxL + 11) + rm.locals ≤ R.locals ∧ (∀ w ∈ ws, ∀ (a' : Array Value) (U : State), s.WarmedH U.vm → w.before a' U = true) ∧ Cond.codeWith y bytes maxL ret hh ∈ ws) ∧
  (Cond.codeWith y bytes maxL ret hh).before args s = true ∧ (Cond.initialized y.cls).before args s = true ∧ (y.cls ≠ "java/lang/invoke/MethodHandle" ∧ y.cls ≠ "java/lang/invoke/VarHandle") ∧
  (∀ sig, parseMethodDescriptor y.desc = some sig → n = sig.parameters.length) ∧ (Cond.methodLink own index y).before args s = true ∧ (Cond.instanceMethod y).before args s = true ∧ (Cond.selects C y y).before args s = true
theorem vx_cwVW {own C : String} {index maxL mc ms : Nat} {y : MethodName} {bytes : ByteArray} {ret : Option FieldType} {hh : List (Nat × Nat × Nat × Nat)} {Ts ws ws' : List Cond} {rm : Room} (n : Nat) (ht : ∀ w ∈ Ts, w.before args s = true) (hT : GoodIn Ts (wsV own index C y ws)) (hw : ws = Cond.codeWith y bytes maxL ret hh :: ws') (hrc : rm.cells = mc) (hrs : rm.slots = ms)
    (hd : y.cls = C ∧ y.cls ≠ "java/lang/invoke/MethodHandle" ∧ y.cls ≠ "java/lang/invoke/VarHandle" ∧ (parseMethodDescriptor y.desc).map (fun d => d.parameters.length) = some n) (hR : rm.frames + 1 ≤ R.frames ∧ 8 + (maxL + 11) + rm.locals ≤ R.locals) :
    vx_CVW R s args own C index y bytes maxL ret hh ws rm mc ms n := by
  obtain ⟨hC, hd⟩ := hd
  subst hC
  have ok : ∀ w ∈ wsV own index y.cls y ws, w.before args s = true := fun w h => ht w (hT w h).1
  have hG : GoodIn Ts ws := fun w h => hT w (by unfold wsV; exact List.mem_append_right _ h)
  have hc : Cond.codeWith y bytes maxL ret hh ∈ ws := by rw [hw]; exact List.mem_cons_self
  refine ⟨⟨hrc, hrs, hR.1, hR.2, pay_in ht hG, hc⟩, ht _ (hG _ hc).1, ok _ (by simp [wsV]), ⟨hd.1, hd.2.1⟩, fun sig h => ?_, ok _ (by simp [wsV]), ok _ (by simp [wsV]), ok _ (by simp [wsV])⟩
  have h2 := hd.2.2
  rw [h] at h2
  exact (Option.some.inj h2).symm
theorem vx_runVW {y : MethodName} {bytes cc : ByteArray} {maxL nL mc ms n index : Nat} {ret : Option FieldType} {hh : List (Nat × Nat × Nat × Nat)} {ws : List Cond} {rm : Room} {Pc : Array Value → State → Prop} {Qc : Array Value → State → Outcome → State → Prop} {free : Addr → Prop} {Ts : List Cond} {own C : String} {b : Addr} {As rest : List Value} {g : JFrame}
    (S : CallFix p m c cc nL s args Ts own) (hM : Met l y ws rm Pc Qc mc ms free) (cw : vx_CVW R s args own C index y bytes maxL ret hh ws rm mc ms n) (hp : PreV s H C b Pc As)
    (hg : g.method = m) (hn : As.length = n) (hsize : g.locals.size = nL) (hstack : g.stack = As.reverse ++ .ref b :: rest) (hW : 2 * g.monitorRoom + (rest.map fun v => v.category).sum ≤ 8) (hdg : decode cc g.pc = .ok (.invokevirtual index, 3)) (hf : cells + mc ≤ R.cells ∧ slots + ms ≤ R.slots) :
    va_Run p l e R s m args below meth c H locs cells slots mc ms g rest (Qc (Value.ref b :: As).toArray) free := by
  obtain ⟨⟨hrc, hrs, hfr, hlo, hws, hcw⟩, hcode, hini, hy, hlen, hl, hin, hse⟩ := cw
  have hK : Back l R p e below s args y 3 8 (PreOf R mc ms Pc) (PostOf Qc mc ms free) := va_backW (hh := hh) (bytes := bytes) (maxL := maxL) (ret := ret) hM hp.1 hrc hrs hfr hlo hws hcw (fun a' U hW => word_at hW (Or.inl (by first | rfl | simp [Cond.onTables, Cond.keeps, Cond.steady])) hini)
  obtain ⟨hx, hb, hml, ho, -⟩ := S
  obtain ⟨-, ⟨cellB, hcB, hoB, hclB⟩, hPc⟩ := hp
  intro T hT X
  obtain ⟨v, vm₁, ⟨U', l2, c2, s2⟩, hW₁, X', ⟨g', mk, t, L, e1, e2, hq, h1, hL, h2, h3⟩, st⟩ := vx_callVW X hx (C := C) (hh := hh) (bytes := bytes) (maxL := maxL) (ret := ret) ho hl hin hse hcode hy hK (by rw [hT]; exact hcB) hoB hclB hg (hsize.trans hml.symm) (argsL := As) (rest := rest) (fun sig h => hn.trans (hlen sig h)) hstack hW (by rw [hb]; exact hdg)
    (fun vm₁ hW₁ => ⟨hf.1, hf.2, hPc (T.setVm vm₁) hT hW₁⟩)
  dsimp only [Pt.U, Pt.locs, Pt.cells, Pt.slots] at X' e1 e2 h1 h2 h3 st
  subst h1; subst h2; subst h3
  exact ⟨v, (T.setVm vm₁).calling g' mk (Value.ref b :: As).toArray, t, U', L, hT, X', hL, e1, e2, hq, st⟩
section
variable {y : MethodName} {bytes cc : ByteArray} {maxL nL mc ms n index : Nat} {ret : Option FieldType} {ws : List Cond} {rm : Room} {Pc : Array Value → State → Prop} {Qc : Array Value → State → Outcome → State → Prop} {XC : String → State → State → Prop} {free : Addr → Prop} {Ts : List Cond} {own C : String} {b : Addr} {As rest : List Value} {g : JFrame}
theorem vx_runVX {hh : List (Nat × Nat × Nat × Nat)} (S : CallFix p m c cc nL s args Ts own) (hM : vx_Met l y ws rm Pc Qc XC mc ms free) (cw : vx_CVW R s args own C index y bytes maxL ret hh ws rm mc ms n) (hp : PreV s H C b Pc As)
    (hg : g.method = m) (hn : As.length = n) (hsize : g.locals.size = nL) (hstack : g.stack = As.reverse ++ .ref b :: rest) (hW : 2 * g.monitorRoom + (rest.map fun v => v.category).sum ≤ 8) (hdg : decode cc g.pc = .ok (.invokevirtual index, 3)) (hf : cells + mc ≤ R.cells ∧ slots + ms ≤ R.slots) :
    vx_Run p l e R s m args below meth c H locs cells slots mc ms g rest (Qc (Value.ref b :: As).toArray) XC free := by
  obtain ⟨⟨hrc, hrs, hfr, hlo, hws, hcw⟩, hcode, hini, hy, hlen, hl, hin, hse⟩ := cw
  have hK : vx_Back l R p e below s args y 3 8 (PreOf R mc ms Pc) (PostOf Qc mc ms free) (vx_Post XC mc ms free) := vx_backW (hh := hh) (bytes := bytes) (maxL := maxL) (ret := ret) hM hp.1 hrc hrs hfr hlo hws hcw (fun a' U hW => word_at hW (Or.inl (by first | rfl | simp [Cond.onTables, Cond.keeps, Cond.steady])) hini)
  obtain ⟨hx, hb, hml, ho, -⟩ := S
  obtain ⟨-, ⟨cellB, hcB, hoB, hclB⟩, hPc⟩ := hp
  intro T hT X
  rcases vx_callVX X hx (C := C) (hh := hh) (bytes := bytes) (maxL := maxL) (ret := ret) ho hl hin hse hcode hy hK (by rw [hT]; exact hcB) hoB hclB hg (hsize.trans hml.symm) (argsL := As) (rest := rest) (fun sig h => hn.trans (hlen sig h)) hstack hW (by rw [hb]; exact hdg)
    (fun vm₁ hW₁ => ⟨hf.1, hf.2, hPc (T.setVm vm₁) hT hW₁⟩) with ⟨v, vm₁, ⟨U', l2, c2, s2⟩, hW₁, X', ⟨g', mk, t, L, e1, e2, hq, h1, hL, h2, h3⟩, st⟩ | ⟨q, vm₁, ⟨U', l2, c2, s2⟩, hW₁, X', ⟨g', mk, t, L, E, ce, e1, e2, hq, hce, hcv, hcl, h1, hL, h2, h3⟩, st⟩
  · dsimp only [Pt.U, Pt.locs, Pt.cells, Pt.slots] at X' e1 e2 h1 h2 h3 st
    subst h1; subst h2; subst h3
    exact Or.inl ⟨v, (T.setVm vm₁).calling g' mk (Value.ref b :: As).toArray, t, U', L, hT, X', hL, e1, e2, hq, st⟩
  · dsimp only [Pt.U, Pt.locs, Pt.cells, Pt.slots] at X' e1 e2 h1 h2 h3 st hcl
    subst h1; subst h2; subst h3
    exact Or.inr ⟨q, (T.setVm vm₁).calling g' mk (Value.ref b :: As).toArray, t, U', L, E, ce, hT, X', hL, e1, e2, hq, hce, hcv, vx_cls hW₁ hcl, st⟩
theorem vx_runSX {hh : List (Nat × Nat × Nat × Nat)} (S : CallFix p m c cc nL s args Ts own) (hM : vx_Met l y ws rm Pc Qc XC mc ms free) (cw : vx_CSW R s args own index y bytes maxL ret hh ws rm mc ms n) (hp : PreS s H Pc As)
    (hg : g.method = m) (hn : As.length = n) (hsize : g.locals.size = nL) (hstack : g.stack = As.reverse ++ rest) (hW : 2 * g.monitorRoom + (rest.map fun v => v.category).sum ≤ 8) (hdg : decode cc g.pc = .ok (.invokestatic index, 3)) (hf : cells + mc ≤ R.cells ∧ slots + ms ≤ R.slots) :
    vx_Run p l e R s m args below meth c H locs cells slots mc ms g rest (Qc As.toArray) XC free := by
  obtain ⟨⟨hrc, hrs, hfr, hlo, hws, hcw⟩, hcode, hini, hy, hlen, hl, hstt⟩ := cw
  have hK : vx_Back l R p e below s args y 3 8 (PreOf R mc ms Pc) (PostOf Qc mc ms free) (vx_Post XC mc ms free) := vx_backW (hh := hh) (bytes := bytes) (maxL := maxL) (ret := ret) hM hp.1 hrc hrs hfr hlo hws hcw (fun a' U hW => word_at hW (Or.inl (by first | rfl | simp [Cond.onTables, Cond.keeps, Cond.steady])) hini)
  obtain ⟨hx, hb, hml, ho, -⟩ := S
  intro T hT X
  rcases vx_callSX X hx (hh := hh) (bytes := bytes) (maxL := maxL) (ret := ret) ho hl hstt hini hcode hy hK hg (hsize.trans hml.symm) (argsL := As) (rest := rest) (fun sig h => hn.trans (hlen sig h)) hstack hW (by rw [hb]; exact hdg)
    (fun vm₁ hW₁ => ⟨hf.1, hf.2, hp.2 (T.setVm vm₁) hT hW₁⟩) with ⟨v, vm₁, ⟨U', l2, c2, s2⟩, hW₁, X', ⟨g', mk, t, L, e1, e2, hq, h1, hL, h2, h3⟩, st⟩ | ⟨q, vm₁, ⟨U', l2, c2, s2⟩, hW₁, X', ⟨g', mk, t, L, E, ce, e1, e2, hq, hce, hcv, hcl, h1, hL, h2, h3⟩, st⟩
  · dsimp only [Pt.U, Pt.locs, Pt.cells, Pt.slots] at X' e1 e2 h1 h2 h3 st
    subst h1; subst h2; subst h3
    exact Or.inl ⟨v, (T.setVm vm₁).calling g' mk As.toArray, t, U', L, hT, X', hL, e1, e2, hq, st⟩
  · dsimp only [Pt.U, Pt.locs, Pt.cells, Pt.slots] at X' e1 e2 h1 h2 h3 st hcl
    subst h1; subst h2; subst h3
    exact Or.inr ⟨q, (T.setVm vm₁).calling g' mk As.toArray, t, U', L, E, ce, hT, X', hL, e1, e2, hq, hce, hcv, vx_cls hW₁ hcl, st⟩
end
end VXH
theorem vx_ofWH {l : Launch} {y : MethodName} {ws ws' : List Cond} {rm : Room} {Pc : Array Value → State → Prop} {Qc : Array Value → State → Outcome → State → Prop} {XC : String → State → State → Prop} {mc ms : Nat} {free : Addr → Prop} {cc : ByteArray} {maxL : Nat} {ret : Option FieldType} {hh : List (Nat × Nat × Nat × Nat)}
    (hy : plainName y.cls = true) (hw : ws = Cond.codeWith y cc maxL ret hh :: ws')
    (body : ∀ p e s m args below meth c s₁, BodyLoose p l y (headSpec ws rm) cc maxL ret e s m args below meth c s₁ → c.maxLocals = maxL → Pc args s →
      W p l e (headSpec ws rm).room s m args below meth c s.heap [] 0 0 (vx_MQ below Qc XC args s mc ms free) (entryFrame m args maxL)) : vx_Met l y ws rm Pc Qc XC mc ms free := by
  refine MetFree.of_bodyS (code := cc) (maxLocals := maxL) (ret := ret) hy ?_ ?_
  · intro args s m h hn
    obtain ⟨m9, meth, c, hn9, h1, h2, h3, h4, -, h5, h6, -⟩ := Cond.codeWith_spec (atoms_spec (ws := ws) h _ (by rw [hw]; exact List.mem_cons_self))
    cases hn.symm.trans hn9
    exact ⟨meth, c, h1, h2, h3, h4, h5, h6⟩
  · intro p e s m args below meth c s₁ B hml hP _
    have hh0 : s₁.heap = s.heap := by rw [B.state]; rfl
    obtain ⟨t, a1, o, b1, b2, b3⟩ := body p e s m args below meth c s₁ B hml hP s₁ hh0 (Stand.of_body B)
    exact ⟨t, o, a1, b1, b2, b3⟩
/-! ===== END ===== -/
end
section
def RX0 : String := "DurableLoom$Activity"
def TX0 : u_T := fun k => match k with
  | 0 => ("DurableLoom$Activity", "run", "LDurableLoom$Run;", true)
  | 1 => ("DurableLoom$Activity", "event", "I", true)
  | 2 => ("DurableLoom$Activity", "kind", "I", true)
  | 3 => ("DurableLoom$Activity", "input", "I", true)
  | 4 => ("DurableLoom$Activity", "madeAt", "I", true)
  | 5 => ("DurableLoom$Activity", "state", "I", false)
  | 6 => ("DurableLoom$Activity", "attempts", "I", false)
  | 7 => ("DurableLoom$Activity", "ready", "I", false)
  | 8 => ("DurableLoom$Activity", "takenAt", "I", false)
  | 9 => ("DurableLoom$Activity", "beatAt", "I", false)
  | _ => ("DurableLoom$Activity", "progress", "I", false)
def tyX0 : Nat → FieldType := fun k => match k with
  | 0 => .object "DurableLoom$Run"
  | 1 => .int
  | 2 => .int
  | 3 => .int
  | 4 => .int
  | 5 => .int
  | 6 => .int
  | 7 => .int
  | 8 => .int
  | 9 => .int
  | _ => .int
abbrev wsX00 : List Cond := u_ws RX0 TX0 11
theorem nmX0 : ∀ a, a < 11 → ∀ b, b < 11 → a ≠ b → (TX0 a).2.1 ≠ (TX0 b).2.1 := by decide +kernel
theorem tyX0_ok : ∀ k, k < 11 → parseFieldDescriptor (TX0 k).2.2.1 = some (tyX0 k) := by decide +kernel
abbrev cX0_init : ByteArray := prog_2_method_1_code
def yX0_init : MethodName := ⟨RX0, "<init>", "(LDurableLoom$Run;IIII)V"⟩
abbrev cX0_beTaken : ByteArray := prog_2_method_2_code
def yX0_beTaken : MethodName := ⟨RX0, "beTaken", "(I)V"⟩
def RX1 : String := "DurableLoom$Branch"
def TX1 : u_T := fun k => match k with
  | 0 => ("DurableLoom$Branch", "number", "I", false)
  | 1 => ("DurableLoom$Branch", "parent", "I", false)
  | 2 => ("DurableLoom$Branch", "above", "I", false)
  | 3 => ("DurableLoom$Branch", "rival", "I", false)
  | 4 => ("DurableLoom$Branch", "line", "I", false)
  | 5 => ("DurableLoom$Branch", "shields", "I", false)
  | 6 => ("DurableLoom$Branch", "owed", "Z", false)
  | 7 => ("DurableLoom$Branch", "waits", "I", false)
  | 8 => ("DurableLoom$Branch", "waitsFor", "I", false)
  | 9 => ("DurableLoom$Branch", "doomed", "Z", false)
  | _ => ("DurableLoom$Branch", "handlers", "I", false)
def tyX1 : Nat → FieldType := fun k => match k with
  | 0 => .int
  | 1 => .int
  | 2 => .int
  | 3 => .int
  | 4 => .int
  | 5 => .int
  | 6 => .boolean
  | 7 => .int
  | 8 => .int
  | 9 => .boolean
  | _ => .int
abbrev wsX10 : List Cond := u_ws RX1 TX1 11
theorem nmX1 : ∀ a, a < 11 → ∀ b, b < 11 → a ≠ b → (TX1 a).2.1 ≠ (TX1 b).2.1 := by decide +kernel
theorem tyX1_ok : ∀ k, k < 11 → parseFieldDescriptor (TX1 k).2.2.1 = some (tyX1 k) := by decide +kernel
abbrev cX1_init : ByteArray := prog_3_method_1_code
def yX1_init : MethodName := ⟨RX1, "<init>", "()V"⟩
abbrev cX1_start : ByteArray := prog_3_method_2_code
def yX1_start : MethodName := ⟨RX1, "start", "(III)V"⟩
abbrev cX1_waitFor : ByteArray := prog_3_method_3_code
def yX1_waitFor : MethodName := ⟨RX1, "waitFor", "(II)V"⟩
abbrev cX1_goOnAt : ByteArray := prog_3_method_4_code
def yX1_goOnAt : MethodName := ⟨RX1, "goOnAt", "(I)V"⟩
abbrev cX1_isBare : ByteArray := prog_3_method_5_code
def yX1_isBare : MethodName := ⟨RX1, "isBare", "()Z"⟩
abbrev cX1_waitsForEvent : ByteArray := prog_3_method_6_code
def yX1_waitsForEvent : MethodName := ⟨RX1, "waitsForEvent", "()Z"⟩
def RX2 : String := "DurableLoom$History"
def TX2 : u_T := fun k => match k with
  | 0 => ("DurableLoom$History", "events", "LDurableLoom$Row;", true)
  | 1 => ("DurableLoom$History", "size", "I", false)
  | 2 => ("DurableLoom$History", "arrivals", "I", false)
  | 3 => ("DurableLoom$History", "tasks", "I", false)
  | _ => ("DurableLoom$History", "counted", "I", false)
def tyX2 : Nat → FieldType := fun k => match k with
  | 0 => .object "DurableLoom$Row"
  | 1 => .int
  | 2 => .int
  | 3 => .int
  | _ => .int
abbrev wsX20 : List Cond := u_ws RX2 TX2 5
theorem nmX2 : ∀ a, a < 5 → ∀ b, b < 5 → a ≠ b → (TX2 a).2.1 ≠ (TX2 b).2.1 := by decide +kernel
theorem tyX2_ok : ∀ k, k < 5 → parseFieldDescriptor (TX2 k).2.2.1 = some (tyX2 k) := by decide +kernel
abbrev cX2_init : ByteArray := prog_4_method_1_code
def yX2_init : MethodName := ⟨RX2, "<init>", "(LDurableLoom$Row;)V"⟩
abbrev cX2_kind : ByteArray := prog_4_method_2_code
def yX2_kind : MethodName := ⟨RX2, "kind", "(I)I"⟩
abbrev cX2_x : ByteArray := prog_4_method_3_code
def yX2_x : MethodName := ⟨RX2, "x", "(I)I"⟩
abbrev cX2_y : ByteArray := prog_4_method_4_code
def yX2_y : MethodName := ⟨RX2, "y", "(I)I"⟩
abbrev cX2_timeOfCommand : ByteArray := prog_4_method_5_code
def yX2_timeOfCommand : MethodName := ⟨RX2, "timeOfCommand", "(I)I"⟩
abbrev cX2_clockOfArrival : ByteArray := prog_4_method_6_code
def yX2_clockOfArrival : MethodName := ⟨RX2, "clockOfArrival", "(I)I"⟩
abbrev cX2_orderOfArrival : ByteArray := prog_4_method_7_code
def yX2_orderOfArrival : MethodName := ⟨RX2, "orderOfArrival", "(I)I"⟩
abbrev cX2_put : ByteArray := prog_4_method_8_code
def yX2_put : MethodName := ⟨RX2, "put", "(IIIII)V"⟩
abbrev cX2_cut : ByteArray := prog_4_method_9_code
def yX2_cut : MethodName := ⟨RX2, "cut", "(I)V"⟩
abbrev cX2_becomeFirst : ByteArray := prog_4_method_10_code
def yX2_becomeFirst : MethodName := ⟨RX2, "becomeFirst", "(LDurableLoom$History;I)V"⟩
abbrev cX2_countAgain : ByteArray := prog_4_method_11_code
def yX2_countAgain : MethodName := ⟨RX2, "countAgain", "()V"⟩
abbrev cX2_has : ByteArray := prog_4_method_12_code
def yX2_has : MethodName := ⟨RX2, "has", "(I)Z"⟩
abbrev cX2_is : ByteArray := prog_4_method_13_code
def yX2_is : MethodName := ⟨RX2, "is", "(IIII)Z"⟩
abbrev cX2_nextArrival : ByteArray := prog_4_method_14_code
def yX2_nextArrival : MethodName := ⟨RX2, "nextArrival", "(I)I"⟩
abbrev cX2_nextCommand : ByteArray := prog_4_method_15_code
def yX2_nextCommand : MethodName := ⟨RX2, "nextCommand", "(I)I"⟩
abbrev cX2_taskBeyond : ByteArray := prog_4_method_16_code
def yX2_taskBeyond : MethodName := ⟨RX2, "taskBeyond", "(I)I"⟩
abbrev cX2_taskAt : ByteArray := prog_4_method_17_code
def yX2_taskAt : MethodName := ⟨RX2, "taskAt", "(I)I"⟩
abbrev cX2_firstNew : ByteArray := prog_4_method_18_code
def yX2_firstNew : MethodName := ⟨RX2, "firstNew", "()I"⟩
abbrev cX2_hasNewSignal : ByteArray := prog_4_method_19_code
def yX2_hasNewSignal : MethodName := ⟨RX2, "hasNewSignal", "(I)Z"⟩
abbrev cX2_hasEnded : ByteArray := prog_4_method_20_code
def yX2_hasEnded : MethodName := ⟨RX2, "hasEnded", "(I)Z"⟩
def RX3 : String := "DurableLoom$Kind"
def TX3 : u_T := fun k => match k with
  | 0 => ("DurableLoom$Kind", "attempts", "I", false)
  | 1 => ("DurableLoom$Kind", "pause", "I", false)
  | 2 => ("DurableLoom$Kind", "toBegin", "I", false)
  | 3 => ("DurableLoom$Kind", "toEnd", "I", false)
  | _ => ("DurableLoom$Kind", "beats", "I", false)
def tyX3 : Nat → FieldType := fun k => match k with
  | 0 => .int
  | 1 => .int
  | 2 => .int
  | 3 => .int
  | _ => .int
abbrev wsX30 : List Cond := u_ws RX3 TX3 5
theorem nmX3 : ∀ a, a < 5 → ∀ b, b < 5 → a ≠ b → (TX3 a).2.1 ≠ (TX3 b).2.1 := by decide +kernel
theorem tyX3_ok : ∀ k, k < 5 → parseFieldDescriptor (TX3 k).2.2.1 = some (tyX3 k) := by decide +kernel
abbrev cX3_init : ByteArray := prog_5_method_1_code
def yX3_init : MethodName := ⟨RX3, "<init>", "()V"⟩
def RX4 : String := "DurableLoom$Machine"
def TX4 : u_T := fun k => match k with
  | 0 => ("DurableLoom$Machine", "state", "LDurableLoom$State;", true)
  | 1 => ("DurableLoom$Machine", "news", "LDurableLoom$History;", true)
  | 2 => ("DurableLoom$Machine", "history", "LDurableLoom$History;", false)
  | 3 => ("DurableLoom$Machine", "code", "LDurableLoom$Row;", false)
  | 4 => ("DurableLoom$Machine", "way", "I", false)
  | 5 => ("DurableLoom$Machine", "seenCounted", "I", false)
  | 6 => ("DurableLoom$Machine", "seenEvents", "I", false)
  | 7 => ("DurableLoom$Machine", "known", "LDurableLoom$Run;", false)
  | 8 => ("DurableLoom$Machine", "taking", "I", false)
  | 9 => ("DurableLoom$Machine", "steps", "I", false)
  | 10 => ("DurableLoom$Machine", "stuck", "Z", false)
  | _ => ("DurableLoom$Machine", "difference", "I", false)
def tyX4 : Nat → FieldType := fun k => match k with
  | 0 => .object "DurableLoom$State"
  | 1 => .object "DurableLoom$History"
  | 2 => .object "DurableLoom$History"
  | 3 => .object "DurableLoom$Row"
  | 4 => .int
  | 5 => .int
  | 6 => .int
  | 7 => .object "DurableLoom$Run"
  | 8 => .int
  | 9 => .int
  | 10 => .boolean
  | _ => .int
abbrev wsX40 : List Cond := u_ws RX4 TX4 12
theorem nmX4 : ∀ a, a < 12 → ∀ b, b < 12 → a ≠ b → (TX4 a).2.1 ≠ (TX4 b).2.1 := by decide +kernel
theorem tyX4_ok : ∀ k, k < 12 → parseFieldDescriptor (TX4 k).2.2.1 = some (tyX4 k) := by decide +kernel
abbrev cX4_init : ByteArray := prog_6_method_1_code
def yX4_init : MethodName := ⟨RX4, "<init>", "()V"⟩
abbrev cX4_follow : ByteArray := prog_6_method_2_code
def yX4_follow : MethodName := ⟨RX4, "follow", "(LDurableLoom$Run;LDurableLoom$Row;II)Z"⟩
abbrev cX4_load : ByteArray := prog_6_method_3_code
def yX4_load : MethodName := ⟨RX4, "load", "(LDurableLoom$Run;LDurableLoom$Row;I)V"⟩
abbrev cX4_knows : ByteArray := prog_6_method_4_code
def yX4_knows : MethodName := ⟨RX4, "knows", "(LDurableLoom$Run;)V"⟩
abbrev cX4_goes : ByteArray := prog_6_method_5_code
def yX4_goes : MethodName := ⟨RX4, "goes", "()Z"⟩
abbrev cX4_getStuck : ByteArray := prog_6_method_6_code
def yX4_getStuck : MethodName := ⟨RX4, "getStuck", "(I)V"⟩
abbrev cX4_passTasks : ByteArray := prog_6_method_7_code
def yX4_passTasks : MethodName := ⟨RX4, "passTasks", "()V"⟩
abbrev cX4_isLeft : ByteArray := prog_6_method_8_code
def yX4_isLeft : MethodName := ⟨RX4, "isLeft", "()Z"⟩
abbrev cX4_seen : ByteArray := prog_6_method_9_code
def yX4_seen : MethodName := ⟨RX4, "seen", "()I"⟩
abbrev cX4_note : ByteArray := prog_6_method_10_code
def yX4_note : MethodName := ⟨RX4, "note", "(III)V"⟩
abbrev cX4_noteEnd : ByteArray := prog_6_method_11_code
def yX4_noteEnd : MethodName := ⟨RX4, "noteEnd", "(LDurableLoom$Branch;II)V"⟩
abbrev cX4_noteFailure : ByteArray := prog_6_method_12_code
def yX4_noteFailure : MethodName := ⟨RX4, "noteFailure", "(LDurableLoom$Branch;)V"⟩
abbrev cX4_tellCancel : ByteArray := prog_6_method_13_code
def yX4_tellCancel : MethodName := ⟨RX4, "tellCancel", "()V"⟩
abbrev cX4_failBranch : ByteArray := prog_6_method_14_code
def yX4_failBranch : MethodName := ⟨RX4, "failBranch", "(LDurableLoom$Branch;)V"⟩
abbrev cX4_endBranch : ByteArray := prog_6_method_15_code
def yX4_endBranch : MethodName := ⟨RX4, "endBranch", "(LDurableLoom$Branch;)V"⟩
abbrev cX4_command : ByteArray := prog_6_method_16_code
def yX4_command : MethodName := ⟨RX4, "command", "(III)I"⟩
abbrev cX4_goOn : ByteArray := prog_6_method_17_code
def yX4_goOn : MethodName := ⟨RX4, "goOn", "()V"⟩
abbrev cX4_awake : ByteArray := prog_6_method_18_code
def yX4_awake : MethodName := ⟨RX4, "awake", "(LDurableLoom$Branch;)V"⟩
abbrev cX4_doPlainLine : ByteArray := prog_6_method_19_code
def yX4_doPlainLine : MethodName := ⟨RX4, "doPlainLine", "(LDurableLoom$Branch;III)V"⟩
abbrev cX4_doBranchLine : ByteArray := prog_6_method_20_code
def yX4_doBranchLine : MethodName := ⟨RX4, "doBranchLine", "(LDurableLoom$Branch;II)V"⟩
abbrev cX4_beginBelow : ByteArray := prog_6_method_21_code
def yX4_beginBelow : MethodName := ⟨RX4, "beginBelow", "(LDurableLoom$Branch;I)LDurableLoom$Branch;"⟩
abbrev cX4_race : ByteArray := prog_6_method_22_code
def yX4_race : MethodName := ⟨RX4, "race", "(LDurableLoom$Branch;LDurableLoom$Branch;)V"⟩
abbrev cX4_win : ByteArray := prog_6_method_23_code
def yX4_win : MethodName := ⟨RX4, "win", "(LDurableLoom$Branch;)V"⟩
abbrev cX4_dropDoomed : ByteArray := prog_6_method_24_code
def yX4_dropDoomed : MethodName := ⟨RX4, "dropDoomed", "()V"⟩
abbrev cX4_doEndingLine : ByteArray := prog_6_method_25_code
def yX4_doEndingLine : MethodName := ⟨RX4, "doEndingLine", "(LDurableLoom$Branch;III)V"⟩
abbrev cX4_undo : ByteArray := prog_6_method_26_code
def yX4_undo : MethodName := ⟨RX4, "undo", "(LDurableLoom$Branch;)V"⟩
abbrev cX4_doOtherLine : ByteArray := prog_6_method_27_code
def yX4_doOtherLine : MethodName := ⟨RX4, "doOtherLine", "(LDurableLoom$Branch;III)V"⟩
abbrev cX4_patch : ByteArray := prog_6_method_28_code
def yX4_patch : MethodName := ⟨RX4, "patch", "(I)Z"⟩
def RX5 : String := "DurableLoom$Row"
def TX5 : u_T := fun k => match k with
  | 0 => ("DurableLoom$Row", "parts", "[[J", false)
  | 1 => ("DurableLoom$Row", "shared", "I", false)
  | _ => ("DurableLoom$Row", "size", "I", false)
def tyX5 : Nat → FieldType := fun k => match k with
  | 0 => .array (.array .long)
  | 1 => .int
  | _ => .int
abbrev wsX50 : List Cond := u_ws RX5 TX5 3
theorem nmX5 : ∀ a, a < 3 → ∀ b, b < 3 → a ≠ b → (TX5 a).2.1 ≠ (TX5 b).2.1 := by decide +kernel
theorem tyX5_ok : ∀ k, k < 3 → parseFieldDescriptor (TX5 k).2.2.1 = some (tyX5 k) := by decide +kernel
abbrev cX5_init : ByteArray := prog_7_method_1_code
def yX5_init : MethodName := ⟨RX5, "<init>", "()V"⟩
abbrev cX5_wide : ByteArray := prog_7_method_2_code
def yX5_wide : MethodName := ⟨RX5, "wide", "(I)J"⟩
abbrev cX5_at : ByteArray := prog_7_method_3_code
def yX5_at : MethodName := ⟨RX5, "at", "(I)I"⟩
abbrev cX5_add : ByteArray := prog_7_method_4_code
def yX5_add : MethodName := ⟨RX5, "add", "(J)V"⟩
abbrev cX5_removeAt : ByteArray := prog_7_method_5_code
def yX5_removeAt : MethodName := ⟨RX5, "removeAt", "(I)V"⟩
abbrev cX5_put : ByteArray := prog_7_method_6_code
def yX5_put : MethodName := ⟨RX5, "put", "(IJ)V"⟩
abbrev cX5_cut : ByteArray := prog_7_method_7_code
def yX5_cut : MethodName := ⟨RX5, "cut", "(I)V"⟩
abbrev cX5_becomeFirst : ByteArray := prog_7_method_8_code
def yX5_becomeFirst : MethodName := ⟨RX5, "becomeFirst", "(LDurableLoom$Row;I)V"⟩
def RX6 : String := "DurableLoom$Run"
def TX6 : u_T := fun k => match k with
  | 0 => ("DurableLoom$Run", "number", "I", true)
  | 1 => ("DurableLoom$Run", "type", "I", true)
  | 2 => ("DurableLoom$Run", "tenant", "I", true)
  | 3 => ("DurableLoom$Run", "version", "I", false)
  | 4 => ("DurableLoom$Run", "parent", "I", false)
  | 5 => ("DurableLoom$Run", "parentEvent", "I", true)
  | 6 => ("DurableLoom$Run", "status", "I", false)
  | 7 => ("DurableLoom$Run", "difference", "I", false)
  | 8 => ("DurableLoom$Run", "copied", "I", false)
  | 9 => ("DurableLoom$Run", "cuts", "I", false)
  | 10 => ("DurableLoom$Run", "lastTask", "I", false)
  | 11 => ("DurableLoom$Run", "tag", "I", false)
  | 12 => ("DurableLoom$Run", "keeper", "I", false)
  | 13 => ("DurableLoom$Run", "keptMark", "I", false)
  | 14 => ("DurableLoom$Run", "seenCounted", "I", false)
  | 15 => ("DurableLoom$Run", "seenEvents", "I", false)
  | 16 => ("DurableLoom$Run", "history", "LDurableLoom$History;", true)
  | 17 => ("DurableLoom$Run", "timers", "LDurableLoom$Row;", true)
  | 18 => ("DurableLoom$Run", "dues", "LDurableLoom$Row;", true)
  | _ => ("DurableLoom$Run", "lost", "LDurableLoom$Row;", true)
def tyX6 : Nat → FieldType := fun k => match k with
  | 0 => .int
  | 1 => .int
  | 2 => .int
  | 3 => .int
  | 4 => .int
  | 5 => .int
  | 6 => .int
  | 7 => .int
  | 8 => .int
  | 9 => .int
  | 10 => .int
  | 11 => .int
  | 12 => .int
  | 13 => .int
  | 14 => .int
  | 15 => .int
  | 16 => .object "DurableLoom$History"
  | 17 => .object "DurableLoom$Row"
  | 18 => .object "DurableLoom$Row"
  | _ => .object "DurableLoom$Row"
abbrev wsX60 : List Cond := u_ws RX6 TX6 20
theorem nmX6 : ∀ a, a < 20 → ∀ b, b < 20 → a ≠ b → (TX6 a).2.1 ≠ (TX6 b).2.1 := by decide +kernel
theorem tyX6_ok : ∀ k, k < 20 → parseFieldDescriptor (TX6 k).2.2.1 = some (tyX6 k) := by decide +kernel
abbrev cX6_init : ByteArray := prog_8_method_1_code
def yX6_init : MethodName := ⟨RX6, "<init>", "(IIIIII)V"⟩
abbrev cX6_isAlive : ByteArray := prog_8_method_2_code
def yX6_isAlive : MethodName := ⟨RX6, "isAlive", "()Z"⟩
abbrev cX6_hasWork : ByteArray := prog_8_method_3_code
def yX6_hasWork : MethodName := ⟨RX6, "hasWork", "()Z"⟩
abbrev cX6_firstOrder : ByteArray := prog_8_method_4_code
def yX6_firstOrder : MethodName := ⟨RX6, "firstOrder", "()I"⟩
abbrev cX6_mark : ByteArray := prog_8_method_5_code
def yX6_mark : MethodName := ⟨RX6, "mark", "()I"⟩
abbrev cX6_isKeptBy : ByteArray := prog_8_method_6_code
def yX6_isKeptBy : MethodName := ⟨RX6, "isKeptBy", "(I)Z"⟩
abbrev cX6_addTimer : ByteArray := prog_8_method_7_code
def yX6_addTimer : MethodName := ⟨RX6, "addTimer", "(II)V"⟩
abbrev cX6_dropTimer : ByteArray := prog_8_method_8_code
def yX6_dropTimer : MethodName := ⟨RX6, "dropTimer", "(I)V"⟩
def RX7 : String := "DurableLoom$Schedule"
def TX7 : u_T := fun k => match k with
  | 0 => ("DurableLoom$Schedule", "type", "I", true)
  | 1 => ("DurableLoom$Schedule", "tenant", "I", true)
  | 2 => ("DurableLoom$Schedule", "period", "I", true)
  | 3 => ("DurableLoom$Schedule", "overlap", "I", true)
  | 4 => ("DurableLoom$Schedule", "lookedTo", "I", false)
  | 5 => ("DurableLoom$Schedule", "paused", "Z", false)
  | 6 => ("DurableLoom$Schedule", "lastRun", "I", false)
  | 7 => ("DurableLoom$Schedule", "waiting", "Z", false)
  | _ => ("DurableLoom$Schedule", "waitingInput", "I", false)
def tyX7 : Nat → FieldType := fun k => match k with
  | 0 => .int
  | 1 => .int
  | 2 => .int
  | 3 => .int
  | 4 => .int
  | 5 => .boolean
  | 6 => .int
  | 7 => .boolean
  | _ => .int
abbrev wsX70 : List Cond := u_ws RX7 TX7 9
theorem nmX7 : ∀ a, a < 9 → ∀ b, b < 9 → a ≠ b → (TX7 a).2.1 ≠ (TX7 b).2.1 := by decide +kernel
theorem tyX7_ok : ∀ k, k < 9 → parseFieldDescriptor (TX7 k).2.2.1 = some (tyX7 k) := by decide +kernel
abbrev cX7_init : ByteArray := prog_9_method_1_code
def yX7_init : MethodName := ⟨RX7, "<init>", "(IIIII)V"⟩
abbrev cX7_isPoint : ByteArray := prog_9_method_2_code
def yX7_isPoint : MethodName := ⟨RX7, "isPoint", "(I)Z"⟩
abbrev cX7_pointsSoFar : ByteArray := prog_9_method_3_code
def yX7_pointsSoFar : MethodName := ⟨RX7, "pointsSoFar", "()I"⟩
def RX8 : String := "DurableLoom$State"
def TX8 : u_T := fun k => match k with
  | 0 => ("DurableLoom$State", "variables", "[I", true)
  | 1 => ("DurableLoom$State", "branches", "[LDurableLoom$Branch;", true)
  | 2 => ("DurableLoom$State", "queues", "[LDurableLoom$Row;", true)
  | 3 => ("DurableLoom$State", "stacked", "LDurableLoom$Row;", true)
  | 4 => ("DurableLoom$State", "compensations", "I", false)
  | 5 => ("DurableLoom$State", "there", "I", false)
  | 6 => ("DurableLoom$State", "begun", "I", false)
  | 7 => ("DurableLoom$State", "patches", "I", false)
  | 8 => ("DurableLoom$State", "cancelTaken", "Z", false)
  | 9 => ("DurableLoom$State", "over", "I", false)
  | 10 => ("DurableLoom$State", "taken", "I", false)
  | 11 => ("DurableLoom$State", "arrivalAt", "I", false)
  | 12 => ("DurableLoom$State", "commandAt", "I", false)
  | _ => ("DurableLoom$State", "taskAt", "I", false)
def tyX8 : Nat → FieldType := fun k => match k with
  | 0 => .array .int
  | 1 => .array (.object "DurableLoom$Branch")
  | 2 => .array (.object "DurableLoom$Row")
  | 3 => .object "DurableLoom$Row"
  | 4 => .int
  | 5 => .int
  | 6 => .int
  | 7 => .int
  | 8 => .boolean
  | 9 => .int
  | 10 => .int
  | 11 => .int
  | 12 => .int
  | _ => .int
abbrev wsX80 : List Cond := u_ws RX8 TX8 14
theorem nmX8 : ∀ a, a < 14 → ∀ b, b < 14 → a ≠ b → (TX8 a).2.1 ≠ (TX8 b).2.1 := by decide +kernel
theorem tyX8_ok : ∀ k, k < 14 → parseFieldDescriptor (TX8 k).2.2.1 = some (tyX8 k) := by decide +kernel
abbrev cX8_init : ByteArray := prog_10_method_1_code
def yX8_init : MethodName := ⟨RX8, "<init>", "()V"⟩
abbrev cX8_clear : ByteArray := prog_10_method_2_code
def yX8_clear : MethodName := ⟨RX8, "clear", "()V"⟩
abbrev cX8_pushed : ByteArray := prog_10_method_3_code
def yX8_pushed : MethodName := ⟨RX8, "pushed", "(II)I"⟩
abbrev cX8_top : ByteArray := prog_10_method_4_code
def yX8_top : MethodName := ⟨RX8, "top", "(I)I"⟩
abbrev cX8_popped : ByteArray := prog_10_method_5_code
def yX8_popped : MethodName := ⟨RX8, "popped", "(I)I"⟩
abbrev cX8_value : ByteArray := prog_10_method_6_code
def yX8_value : MethodName := ⟨RX8, "value", "(I)I"⟩
abbrev cX8_set : ByteArray := prog_10_method_7_code
def yX8_set : MethodName := ⟨RX8, "set", "(II)V"⟩
abbrev cX8_queue : ByteArray := prog_10_method_8_code
def yX8_queue : MethodName := ⟨RX8, "queue", "(I)LDurableLoom$Row;"⟩
abbrev cX8_branchAt : ByteArray := prog_10_method_9_code
def yX8_branchAt : MethodName := ⟨RX8, "branchAt", "(I)LDurableLoom$Branch;"⟩
abbrev cX8_find : ByteArray := prog_10_method_10_code
def yX8_find : MethodName := ⟨RX8, "find", "(I)LDurableLoom$Branch;"⟩
abbrev cX8_beginBranch : ByteArray := prog_10_method_11_code
def yX8_beginBranch : MethodName := ⟨RX8, "beginBranch", "(II)I"⟩
abbrev cX8_remove : ByteArray := prog_10_method_12_code
def yX8_remove : MethodName := ⟨RX8, "remove", "(LDurableLoom$Branch;)V"⟩
abbrev cX8_firstAble : ByteArray := prog_10_method_13_code
def yX8_firstAble : MethodName := ⟨RX8, "firstAble", "()LDurableLoom$Branch;"⟩
abbrev cX8_isAble : ByteArray := prog_10_method_14_code
def yX8_isAble : MethodName := ⟨RX8, "isAble", "(LDurableLoom$Branch;)Z"⟩
abbrev cX8_isParent : ByteArray := prog_10_method_15_code
def yX8_isParent : MethodName := ⟨RX8, "isParent", "(I)Z"⟩
abbrev cX8_waiterFor : ByteArray := prog_10_method_16_code
def yX8_waiterFor : MethodName := ⟨RX8, "waiterFor", "(I)LDurableLoom$Branch;"⟩
abbrev cX8_waitsForSignal : ByteArray := prog_10_method_17_code
def yX8_waitsForSignal : MethodName := ⟨RX8, "waitsForSignal", "(I)Z"⟩
abbrev cX8_doom : ByteArray := prog_10_method_18_code
def yX8_doom : MethodName := ⟨RX8, "doom", "(LDurableLoom$Branch;)V"⟩
def RX9 : String := "DurableLoom$Task"
def TX9 : u_T := fun k => match k with
  | 0 => ("DurableLoom$Task", "worker", "I", true)
  | 1 => ("DurableLoom$Task", "run", "LDurableLoom$Run;", true)
  | 2 => ("DurableLoom$Task", "givenAt", "I", true)
  | 3 => ("DurableLoom$Task", "arrivals", "I", true)
  | 4 => ("DurableLoom$Task", "mark", "I", true)
  | _ => ("DurableLoom$Task", "over", "Z", false)
def tyX9 : Nat → FieldType := fun k => match k with
  | 0 => .int
  | 1 => .object "DurableLoom$Run"
  | 2 => .int
  | 3 => .int
  | 4 => .int
  | _ => .boolean
abbrev wsX90 : List Cond := u_ws RX9 TX9 6
theorem nmX9 : ∀ a, a < 6 → ∀ b, b < 6 → a ≠ b → (TX9 a).2.1 ≠ (TX9 b).2.1 := by decide +kernel
theorem tyX9_ok : ∀ k, k < 6 → parseFieldDescriptor (TX9 k).2.2.1 = some (tyX9 k) := by decide +kernel
abbrev cX9_init : ByteArray := prog_11_method_1_code
def yX9_init : MethodName := ⟨RX9, "<init>", "(ILDurableLoom$Run;I)V"⟩
def RX10 : String := "DurableLoom$Type"
def TX10 : u_T := fun k => match k with
  | 0 => ("DurableLoom$Type", "versions", "Ljava/util/ArrayList;", true)
  | 1 => ("DurableLoom$Type", "draft", "LDurableLoom$Row;", false)
  | _ => ("DurableLoom$Type", "policy", "I", false)
def tyX10 : Nat → FieldType := fun k => match k with
  | 0 => .object "java/util/ArrayList"
  | 1 => .object "DurableLoom$Row"
  | _ => .int
abbrev wsX100 : List Cond := u_ws RX10 TX10 3
theorem nmX10 : ∀ a, a < 3 → ∀ b, b < 3 → a ≠ b → (TX10 a).2.1 ≠ (TX10 b).2.1 := by decide +kernel
theorem tyX10_ok : ∀ k, k < 3 → parseFieldDescriptor (TX10 k).2.2.1 = some (tyX10 k) := by decide +kernel
abbrev cX10_init : ByteArray := prog_12_method_1_code
def yX10_init : MethodName := ⟨RX10, "<init>", "()V"⟩
abbrev cX10_packed : ByteArray := prog_12_method_2_code
def yX10_packed : MethodName := ⟨RX10, "packed", "(III)I"⟩
abbrev cX10_code : ByteArray := prog_12_method_3_code
def yX10_code : MethodName := ⟨RX10, "code", "(I)LDurableLoom$Row;"⟩
abbrev cX10_draftBecomesVersion : ByteArray := prog_12_method_4_code
def yX10_draftBecomesVersion : MethodName := ⟨RX10, "draftBecomesVersion", "()V"⟩
def RX11 : String := "DurableLoom"
def TX11 : u_T := fun k => match k with
  | 0 => ("DurableLoom", "types", "[LDurableLoom$Type;", true)
  | 1 => ("DurableLoom", "kinds", "[LDurableLoom$Kind;", true)
  | 2 => ("DurableLoom", "allRuns", "Ljava/util/ArrayList;", true)
  | 3 => ("DurableLoom", "allActivities", "Ljava/util/ArrayList;", true)
  | 4 => ("DurableLoom", "allTasks", "Ljava/util/ArrayList;", true)
  | 5 => ("DurableLoom", "allSchedules", "Ljava/util/ArrayList;", true)
  | 6 => ("DurableLoom", "replayed", "[I", true)
  | 7 => ("DurableLoom", "given", "[I", true)
  | 8 => ("DurableLoom", "givenNow", "[I", true)
  | 9 => ("DurableLoom", "tagQueue", "LDurableLoom$Row;", true)
  | 10 => ("DurableLoom", "machine", "LDurableLoom$Machine;", true)
  | 11 => ("DurableLoom", "tagsPut", "I", false)
  | 12 => ("DurableLoom", "tagsKnown", "I", false)
  | 13 => ("DurableLoom", "rate", "I", false)
  | 14 => ("DurableLoom", "time", "I", false)
  | 15 => ("DurableLoom", "offset", "I", false)
  | 16 => ("DurableLoom", "arrivalsSoFar", "I", false)
  | _ => ("DurableLoom", "joined", "Z", false)
def tyX11 : Nat → FieldType := fun k => match k with
  | 0 => .array (.object "DurableLoom$Type")
  | 1 => .array (.object "DurableLoom$Kind")
  | 2 => .object "java/util/ArrayList"
  | 3 => .object "java/util/ArrayList"
  | 4 => .object "java/util/ArrayList"
  | 5 => .object "java/util/ArrayList"
  | 6 => .array .int
  | 7 => .array .int
  | 8 => .array .int
  | 9 => .object "DurableLoom$Row"
  | 10 => .object "DurableLoom$Machine"
  | 11 => .int
  | 12 => .int
  | 13 => .int
  | 14 => .int
  | 15 => .int
  | 16 => .int
  | _ => .boolean
abbrev wsX110 : List Cond := u_ws RX11 TX11 18
theorem nmX11 : ∀ a, a < 18 → ∀ b, b < 18 → a ≠ b → (TX11 a).2.1 ≠ (TX11 b).2.1 := by decide +kernel
theorem tyX11_ok : ∀ k, k < 18 → parseFieldDescriptor (TX11 k).2.2.1 = some (tyX11 k) := by decide +kernel
abbrev cX11_init : ByteArray := prog_1_method_1_code
def yX11_init : MethodName := ⟨RX11, "<init>", "()V"⟩
abbrev cX11_line : ByteArray := prog_1_method_2_code
def yX11_line : MethodName := ⟨RX11, "line", "(IIII)I"⟩
abbrev cX11_deploy : ByteArray := prog_1_method_3_code
def yX11_deploy : MethodName := ⟨RX11, "deploy", "(I)I"⟩
abbrev cX11_setKind : ByteArray := prog_1_method_4_code
def yX11_setKind : MethodName := ⟨RX11, "setKind", "(IIIIII)V"⟩
abbrev cX11_setPolicy : ByteArray := prog_1_method_5_code
def yX11_setPolicy : MethodName := ⟨RX11, "setPolicy", "(II)I"⟩
abbrev cX11_begin : ByteArray := prog_1_method_6_code
def yX11_begin : MethodName := ⟨RX11, "begin", "(III)I"⟩
abbrev cX11_signal : ByteArray := prog_1_method_7_code
def yX11_signal : MethodName := ⟨RX11, "signal", "(III)I"⟩
abbrev cX11_update : ByteArray := prog_1_method_8_code
def yX11_update : MethodName := ⟨RX11, "update", "(III)Z"⟩
abbrev cX11_cancel : ByteArray := prog_1_method_9_code
def yX11_cancel : MethodName := ⟨RX11, "cancel", "(I)Z"⟩
abbrev cX11_query : ByteArray := prog_1_method_10_code
def yX11_query : MethodName := ⟨RX11, "query", "(II)I"⟩
abbrev cX11_plain : ByteArray := prog_1_method_11_code
def yX11_plain : MethodName := ⟨RX11, "plain", "(II)I"⟩
abbrev cX11_standing : ByteArray := prog_1_method_12_code
def yX11_standing : MethodName := ⟨RX11, "standing", "(I)I"⟩
abbrev cX11_event : ByteArray := prog_1_method_13_code
def yX11_event : MethodName := ⟨RX11, "event", "(II)I"⟩
abbrev cX11_difference : ByteArray := prog_1_method_14_code
def yX11_difference : MethodName := ⟨RX11, "difference", "(I)I"⟩
abbrev cX11_runs : ByteArray := prog_1_method_15_code
def yX11_runs : MethodName := ⟨RX11, "runs", "()I"⟩
abbrev cX11_setRate : ByteArray := prog_1_method_16_code
def yX11_setRate : MethodName := ⟨RX11, "setRate", "(I)I"⟩
abbrev cX11_poll : ByteArray := prog_1_method_17_code
def yX11_poll : MethodName := ⟨RX11, "poll", "(I)I"⟩
abbrev cX11_complete : ByteArray := prog_1_method_18_code
def yX11_complete : MethodName := ⟨RX11, "complete", "(I)I"⟩
abbrev cX11_die : ByteArray := prog_1_method_19_code
def yX11_die : MethodName := ⟨RX11, "die", "(I)I"⟩
abbrev cX11_replays : ByteArray := prog_1_method_20_code
def yX11_replays : MethodName := ⟨RX11, "replays", "(I)I"⟩
abbrev cX11_take : ByteArray := prog_1_method_21_code
def yX11_take : MethodName := ⟨RX11, "take", "(I)I"⟩
abbrev cX11_answer : ByteArray := prog_1_method_22_code
def yX11_answer : MethodName := ⟨RX11, "answer", "(II)Z"⟩
abbrev cX11_fail : ByteArray := prog_1_method_23_code
def yX11_fail : MethodName := ⟨RX11, "fail", "(IZ)Z"⟩
abbrev cX11_beat : ByteArray := prog_1_method_24_code
def yX11_beat : MethodName := ⟨RX11, "beat", "(II)I"⟩
abbrev cX11_activity : ByteArray := prog_1_method_25_code
def yX11_activity : MethodName := ⟨RX11, "activity", "(I)I"⟩
abbrev cX11_pass : ByteArray := prog_1_method_26_code
def yX11_pass : MethodName := ⟨RX11, "pass", "(I)I"⟩
abbrev cX11_unsafe : ByteArray := prog_1_method_27_code
def yX11_unsafe : MethodName := ⟨RX11, "\x75nsafe", "(II)I"⟩
abbrev cX11_move : ByteArray := prog_1_method_28_code
def yX11_move : MethodName := ⟨RX11, "move", "(II)Z"⟩
abbrev cX11_setBack : ByteArray := prog_1_method_29_code
def yX11_setBack : MethodName := ⟨RX11, "setBack", "(II)I"⟩
abbrev cX11_copy : ByteArray := prog_1_method_30_code
def yX11_copy : MethodName := ⟨RX11, "copy", "(II)I"⟩
abbrev cX11_takeOver : ByteArray := prog_1_method_31_code
def yX11_takeOver : MethodName := ⟨RX11, "takeOver", "()I"⟩
abbrev cX11_join : ByteArray := prog_1_method_32_code
def yX11_join : MethodName := ⟨RX11, "join", "()I"⟩
abbrev cX11_schedule : ByteArray := prog_1_method_33_code
def yX11_schedule : MethodName := ⟨RX11, "schedule", "(IIII)I"⟩
abbrev cX11_togglePause : ByteArray := prog_1_method_34_code
def yX11_togglePause : MethodName := ⟨RX11, "togglePause", "(I)Z"⟩
abbrev cX11_backfill : ByteArray := prog_1_method_35_code
def yX11_backfill : MethodName := ⟨RX11, "backfill", "(II)I"⟩
abbrev cX11_shift : ByteArray := prog_1_method_36_code
def yX11_shift : MethodName := ⟨RX11, "shift", "(I)I"⟩
abbrev cX11_bringIn : ByteArray := prog_1_method_37_code
def yX11_bringIn : MethodName := ⟨RX11, "bringIn", "(I)I"⟩
abbrev cX11_search : ByteArray := prog_1_method_38_code
def yX11_search : MethodName := ⟨RX11, "search", "(I)I"⟩
abbrev cX11_typeAt : ByteArray := prog_1_method_39_code
def yX11_typeAt : MethodName := ⟨RX11, "typeAt", "(I)LDurableLoom$Type;"⟩
abbrev cX11_kindAt : ByteArray := prog_1_method_40_code
def yX11_kindAt : MethodName := ⟨RX11, "kindAt", "(I)LDurableLoom$Kind;"⟩
abbrev cX11_runAt : ByteArray := prog_1_method_41_code
def yX11_runAt : MethodName := ⟨RX11, "runAt", "(I)LDurableLoom$Run;"⟩
abbrev cX11_activityAt : ByteArray := prog_1_method_42_code
def yX11_activityAt : MethodName := ⟨RX11, "activityAt", "(I)LDurableLoom$Activity;"⟩
abbrev cX11_scheduleAt : ByteArray := prog_1_method_43_code
def yX11_scheduleAt : MethodName := ⟨RX11, "scheduleAt", "(I)LDurableLoom$Schedule;"⟩
abbrev cX11_checkVersion : ByteArray := prog_1_method_44_code
def yX11_checkVersion : MethodName := ⟨RX11, "checkVersion", "(LDurableLoom$Type;I)V"⟩
abbrev cX11_checkTenant : ByteArray := prog_1_method_45_code
def yX11_checkTenant : MethodName := ⟨RX11, "checkTenant", "(I)V"⟩
abbrev cX11_checkWorker : ByteArray := prog_1_method_46_code
def yX11_checkWorker : MethodName := ⟨RX11, "checkWorker", "(I)V"⟩
abbrev cX11_checkName : ByteArray := prog_1_method_47_code
def yX11_checkName : MethodName := ⟨RX11, "checkName", "(I)V"⟩
abbrev cX11_checkVariable : ByteArray := prog_1_method_48_code
def yX11_checkVariable : MethodName := ⟨RX11, "checkVariable", "(I)V"⟩
abbrev cX11_checkValue : ByteArray := prog_1_method_49_code
def yX11_checkValue : MethodName := ⟨RX11, "checkValue", "(I)V"⟩
abbrev cX11_typeOf : ByteArray := prog_1_method_50_code
def yX11_typeOf : MethodName := ⟨RX11, "typeOf", "(LDurableLoom$Run;)LDurableLoom$Type;"⟩
abbrev cX11_codeOf : ByteArray := prog_1_method_51_code
def yX11_codeOf : MethodName := ⟨RX11, "codeOf", "(LDurableLoom$Run;I)LDurableLoom$Row;"⟩
abbrev cX11_addRun : ByteArray := prog_1_method_52_code
def yX11_addRun : MethodName := ⟨RX11, "addRun", "(IIIII)LDurableLoom$Run;"⟩
abbrev cX11_startRun : ByteArray := prog_1_method_53_code
def yX11_startRun : MethodName := ⟨RX11, "startRun", "(IIIII)LDurableLoom$Run;"⟩
abbrev cX11_arrive : ByteArray := prog_1_method_54_code
def yX11_arrive : MethodName := ⟨RX11, "arrive", "(LDurableLoom$Run;III)V"⟩
abbrev cX11_cancelRun : ByteArray := prog_1_method_55_code
def yX11_cancelRun : MethodName := ⟨RX11, "cancelRun", "(LDurableLoom$Run;)Z"⟩
abbrev cX11_closeRun : ByteArray := prog_1_method_56_code
def yX11_closeRun : MethodName := ⟨RX11, "closeRun", "(LDurableLoom$Run;III)V"⟩
abbrev cX11_parentOf : ByteArray := prog_1_method_57_code
def yX11_parentOf : MethodName := ⟨RX11, "parentOf", "(LDurableLoom$Run;)LDurableLoom$Run;"⟩
abbrev cX11_dealWithChildren : ByteArray := prog_1_method_58_code
def yX11_dealWithChildren : MethodName := ⟨RX11, "dealWithChildren", "(LDurableLoom$Run;I)V"⟩
abbrev cX11_endWork : ByteArray := prog_1_method_59_code
def yX11_endWork : MethodName := ⟨RX11, "endWork", "(LDurableLoom$Run;)V"⟩
abbrev cX11_partFromChildren : ByteArray := prog_1_method_60_code
def yX11_partFromChildren : MethodName := ⟨RX11, "partFromChildren", "(II)V"⟩
abbrev cX11_firstRunWithWork : ByteArray := prog_1_method_61_code
def yX11_firstRunWithWork : MethodName := ⟨RX11, "firstRunWithWork", "(I)LDurableLoom$Run;"⟩
abbrev cX11_isHeld : ByteArray := prog_1_method_62_code
def yX11_isHeld : MethodName := ⟨RX11, "isHeld", "(LDurableLoom$Run;)Z"⟩
abbrev cX11_givenTo : ByteArray := prog_1_method_63_code
def yX11_givenTo : MethodName := ⟨RX11, "givenTo", "(I)I"⟩
abbrev cX11_countGiven : ByteArray := prog_1_method_64_code
def yX11_countGiven : MethodName := ⟨RX11, "countGiven", "(I)V"⟩
abbrev cX11_isStale : ByteArray := prog_1_method_65_code
def yX11_isStale : MethodName := ⟨RX11, "isStale", "(LDurableLoom$Task;)Z"⟩
abbrev cX11_countReplay : ByteArray := prog_1_method_66_code
def yX11_countReplay : MethodName := ⟨RX11, "countReplay", "(I)V"⟩
abbrev cX11_putNews : ByteArray := prog_1_method_67_code
def yX11_putNews : MethodName := ⟨RX11, "putNews", "(LDurableLoom$Run;LDurableLoom$Task;Z)I"⟩
abbrev cX11_carryOut : ByteArray := prog_1_method_68_code
def yX11_carryOut : MethodName := ⟨RX11, "carryOut", "(LDurableLoom$Run;I)V"⟩
abbrev cX11_queueTag : ByteArray := prog_1_method_69_code
def yX11_queueTag : MethodName := ⟨RX11, "queueTag", "(LDurableLoom$Run;I)V"⟩
abbrev cX11_makeActivity : ByteArray := prog_1_method_70_code
def yX11_makeActivity : MethodName := ⟨RX11, "makeActivity", "(LDurableLoom$Run;III)V"⟩
abbrev cX11_beginChild : ByteArray := prog_1_method_71_code
def yX11_beginChild : MethodName := ⟨RX11, "beginChild", "(LDurableLoom$Run;III)V"⟩
abbrev cX11_dropEvent : ByteArray := prog_1_method_72_code
def yX11_dropEvent : MethodName := ⟨RX11, "dropEvent", "(LDurableLoom$Run;I)V"⟩
abbrev cX11_goOnAsNew : ByteArray := prog_1_method_73_code
def yX11_goOnAsNew : MethodName := ⟨RX11, "goOnAsNew", "(LDurableLoom$Run;I)V"⟩
abbrev cX11_sendSignals : ByteArray := prog_1_method_74_code
def yX11_sendSignals : MethodName := ⟨RX11, "sendSignals", "(LDurableLoom$Run;LDurableLoom$History;I)V"⟩
abbrev cX11_loseEvents : ByteArray := prog_1_method_75_code
def yX11_loseEvents : MethodName := ⟨RX11, "loseEvents", "(LDurableLoom$Run;)I"⟩
abbrev cX11_restoreWork : ByteArray := prog_1_method_76_code
def yX11_restoreWork : MethodName := ⟨RX11, "restoreWork", "(LDurableLoom$Run;)V"⟩
abbrev cX11_beginTick : ByteArray := prog_1_method_77_code
def yX11_beginTick : MethodName := ⟨RX11, "beginTick", "()V"⟩
abbrev cX11_fireTimers : ByteArray := prog_1_method_78_code
def yX11_fireTimers : MethodName := ⟨RX11, "fireTimers", "(LDurableLoom$Run;)V"⟩
abbrev cX11_lookAtActivity : ByteArray := prog_1_method_79_code
def yX11_lookAtActivity : MethodName := ⟨RX11, "lookAtActivity", "(LDurableLoom$Activity;)V"⟩
abbrev cX11_isReached : ByteArray := prog_1_method_80_code
def yX11_isReached : MethodName := ⟨RX11, "isReached", "(II)Z"⟩
abbrev cX11_failAttempt : ByteArray := prog_1_method_81_code
def yX11_failAttempt : MethodName := ⟨RX11, "failAttempt", "(LDurableLoom$Activity;Z)V"⟩
abbrev cX11_lookAtSchedule : ByteArray := prog_1_method_82_code
def yX11_lookAtSchedule : MethodName := ⟨RX11, "lookAtSchedule", "(LDurableLoom$Schedule;)V"⟩
abbrev cX11_meetPoint : ByteArray := prog_1_method_83_code
def yX11_meetPoint : MethodName := ⟨RX11, "meetPoint", "(LDurableLoom$Schedule;I)V"⟩
abbrev cX11_lastIsOpen : ByteArray := prog_1_method_84_code
def yX11_lastIsOpen : MethodName := ⟨RX11, "lastIsOpen", "(LDurableLoom$Schedule;)Z"⟩
abbrev cX11_startFor : ByteArray := prog_1_method_85_code
def yX11_startFor : MethodName := ⟨RX11, "startFor", "(LDurableLoom$Schedule;I)V"⟩
def RX12 : String := "DurableLoomModel"
def TX12 : u_T := fun k => match k with
  | 0 => ("DurableLoomModel", "time", "I", false)
  | 1 => ("DurableLoomModel", "versions", "[I", true)
  | 2 => ("DurableLoomModel", "size", "[I", true)
  | 3 => ("DurableLoomModel", "command", "[I", true)
  | 4 => ("DurableLoomModel", "numberA", "[I", true)
  | 5 => ("DurableLoomModel", "numberB", "[I", true)
  | 6 => ("DurableLoomModel", "attempts", "[I", true)
  | 7 => ("DurableLoomModel", "pause", "[I", true)
  | 8 => ("DurableLoomModel", "toBegin", "[I", true)
  | 9 => ("DurableLoomModel", "toEnd", "[I", true)
  | 10 => ("DurableLoomModel", "beats", "[I", true)
  | 11 => ("DurableLoomModel", "policy", "[I", true)
  | 12 => ("DurableLoomModel", "runs", "I", false)
  | 13 => ("DurableLoomModel", "type", "[I", true)
  | 14 => ("DurableLoomModel", "tenant", "[I", true)
  | 15 => ("DurableLoomModel", "version", "[I", true)
  | 16 => ("DurableLoomModel", "status", "[I", true)
  | 17 => ("DurableLoomModel", "parent", "[I", true)
  | 18 => ("DurableLoomModel", "parentEvent", "[I", true)
  | 19 => ("DurableLoomModel", "events", "[I", true)
  | 20 => ("DurableLoomModel", "sharedFrom", "[I", true)
  | 21 => ("DurableLoomModel", "sharedTo", "[I", true)
  | 22 => ("DurableLoomModel", "arrived", "[I", true)
  | 23 => ("DurableLoomModel", "tasked", "[I", true)
  | 24 => ("DurableLoomModel", "countedBy", "[I", true)
  | 25 => ("DurableLoomModel", "copied", "[I", true)
  | 26 => ("DurableLoomModel", "cuts", "[I", true)
  | 27 => ("DurableLoomModel", "difference", "[I", true)
  | 28 => ("DurableLoomModel", "happened", "[J", true)
  | 29 => ("DurableLoomModel", "orders", "I", false)
  | 30 => ("DurableLoomModel", "orderRun", "I", false)
  | 31 => ("DurableLoomModel", "piece", "[I", true)
  | 32 => ("DurableLoomModel", "pieces", "I", false)
  | 33 => ("DurableLoomModel", "backs", "[I", true)
  | 34 => ("DurableLoomModel", "activities", "I", false)
  | 35 => ("DurableLoomModel", "ofRun", "[I", true)
  | 36 => ("DurableLoomModel", "ofEvent", "[I", true)
  | 37 => ("DurableLoomModel", "ofKind", "[I", true)
  | 38 => ("DurableLoomModel", "input", "[I", true)
  | 39 => ("DurableLoomModel", "state", "[I", true)
  | 40 => ("DurableLoomModel", "tried", "[I", true)
  | 41 => ("DurableLoomModel", "began", "[I", true)
  | 42 => ("DurableLoomModel", "due", "[I", true)
  | 43 => ("DurableLoomModel", "taken", "[I", true)
  | 44 => ("DurableLoomModel", "beaten", "[I", true)
  | 45 => ("DurableLoomModel", "progress", "[I", true)
  | 46 => ("DurableLoomModel", "timers", "I", false)
  | 47 => ("DurableLoomModel", "timerRun", "[I", true)
  | 48 => ("DurableLoomModel", "timerEvent", "[I", true)
  | 49 => ("DurableLoomModel", "timerDue", "[I", true)
  | 50 => ("DurableLoomModel", "rate", "I", false)
  | 51 => ("DurableLoomModel", "tasks", "I", false)
  | 52 => ("DurableLoomModel", "taskWorker", "[I", true)
  | 53 => ("DurableLoomModel", "taskRun", "[I", true)
  | 54 => ("DurableLoomModel", "taskKnows", "[I", true)
  | 55 => ("DurableLoomModel", "taskGiven", "[I", true)
  | 56 => ("DurableLoomModel", "taskHas", "[I", true)
  | 57 => ("DurableLoomModel", "taskVersion", "[I", true)
  | 58 => ("DurableLoomModel", "taskCuts", "[I", true)
  | 59 => ("DurableLoomModel", "isOver", "[Z", true)
  | 60 => ("DurableLoomModel", "givenNow", "[I", true)
  | 61 => ("DurableLoomModel", "givenAll", "[I", true)
  | 62 => ("DurableLoomModel", "replays", "[I", true)
  | 63 => ("DurableLoomModel", "keepsTasks", "[I", true)
  | 64 => ("DurableLoomModel", "keepsVersion", "[I", true)
  | 65 => ("DurableLoomModel", "keepsCuts", "[I", true)
  | 66 => ("DurableLoomModel", "keepsEvents", "[I", true)
  | 67 => ("DurableLoomModel", "keepsCounted", "[I", true)
  | 68 => ("DurableLoomModel", "offset", "I", false)
  | 69 => ("DurableLoomModel", "schedules", "I", false)
  | 70 => ("DurableLoomModel", "scheduleType", "[I", true)
  | 71 => ("DurableLoomModel", "scheduleTenant", "[I", true)
  | 72 => ("DurableLoomModel", "period", "[I", true)
  | 73 => ("DurableLoomModel", "overlap", "[I", true)
  | 74 => ("DurableLoomModel", "looked", "[I", true)
  | 75 => ("DurableLoomModel", "isPaused", "[Z", true)
  | 76 => ("DurableLoomModel", "latest", "[I", true)
  | 77 => ("DurableLoomModel", "isAwaited", "[Z", true)
  | 78 => ("DurableLoomModel", "awaited", "[I", true)
  | 79 => ("DurableLoomModel", "tagsFrom", "I", false)
  | 80 => ("DurableLoomModel", "tagsTo", "I", false)
  | 81 => ("DurableLoomModel", "tags", "[I", true)
  | 82 => ("DurableLoomModel", "known", "[I", true)
  | 83 => ("DurableLoomModel", "isTakenOver", "Z", false)
  | 84 => ("DurableLoomModel", "lost", "I", false)
  | 85 => ("DurableLoomModel", "lostRun", "[I", true)
  | 86 => ("DurableLoomModel", "lostName", "[I", true)
  | 87 => ("DurableLoomModel", "lostValue", "[I", true)
  | 88 => ("DurableLoomModel", "told", "I", false)
  | 89 => ("DurableLoomModel", "toldVersion", "I", false)
  | 90 => ("DurableLoomModel", "variable", "[I", true)
  | 91 => ("DurableLoomModel", "branches", "I", false)
  | 92 => ("DurableLoomModel", "begun", "I", false)
  | 93 => ("DurableLoomModel", "number", "[I", true)
  | 94 => ("DurableLoomModel", "line", "[I", true)
  | 95 => ("DurableLoomModel", "waits", "[I", true)
  | 96 => ("DurableLoomModel", "waitsFor", "[I", true)
  | 97 => ("DurableLoomModel", "into", "[I", true)
  | 98 => ("DurableLoomModel", "handler", "[I", true)
  | 99 => ("DurableLoomModel", "rival", "[I", true)
  | 100 => ("DurableLoomModel", "shields", "[I", true)
  | 101 => ("DurableLoomModel", "isTold", "[Z", true)
  | 102 => ("DurableLoomModel", "above", "[I", true)
  | 103 => ("DurableLoomModel", "handlers", "I", false)
  | 104 => ("DurableLoomModel", "handlerRow", "[I", true)
  | 105 => ("DurableLoomModel", "undos", "I", false)
  | 106 => ("DurableLoomModel", "undoRow", "[I", true)
  | 107 => ("DurableLoomModel", "queued", "[I", true)
  | 108 => ("DurableLoomModel", "queueFrom", "[I", true)
  | 109 => ("DurableLoomModel", "queue", "[I", true)
  | 110 => ("DurableLoomModel", "patches", "I", false)
  | 111 => ("DurableLoomModel", "wasCancelled", "Z", false)
  | 112 => ("DurableLoomModel", "over", "I", false)
  | 113 => ("DurableLoomModel", "steps", "I", false)
  | 114 => ("DurableLoomModel", "isStuck", "Z", false)
  | 115 => ("DurableLoomModel", "wrong", "I", false)
  | 116 => ("DurableLoomModel", "met", "I", false)
  | 117 => ("DurableLoomModel", "arrival", "I", false)
  | 118 => ("DurableLoomModel", "arrivalTime", "I", false)
  | 119 => ("DurableLoomModel", "counted", "I", false)
  | 120 => ("DurableLoomModel", "fresh", "I", false)
  | 121 => ("DurableLoomModel", "freshKind", "[I", true)
  | 122 => ("DurableLoomModel", "freshX", "[I", true)
  | 123 => ("DurableLoomModel", "takenArrivals", "I", false)
  | 124 => ("DurableLoomModel", "seen", "I", false)
  | 125 => ("DurableLoomModel", "later", "I", false)
  | 126 => ("DurableLoomModel", "nextTask", "I", false)
  | 127 => ("DurableLoomModel", "closing", "[I", true)
  | 128 => ("DurableLoomModel", "closingNext", "[I", true)
  | _ => ("DurableLoomModel", "thrown", "I", false)
def tyX12 : Nat → FieldType := fun k => match k with
  | 0 => .int
  | 1 => .array .int
  | 2 => .array .int
  | 3 => .array .int
  | 4 => .array .int
  | 5 => .array .int
  | 6 => .array .int
  | 7 => .array .int
  | 8 => .array .int
  | 9 => .array .int
  | 10 => .array .int
  | 11 => .array .int
  | 12 => .int
  | 13 => .array .int
  | 14 => .array .int
  | 15 => .array .int
  | 16 => .array .int
  | 17 => .array .int
  | 18 => .array .int
  | 19 => .array .int
  | 20 => .array .int
  | 21 => .array .int
  | 22 => .array .int
  | 23 => .array .int
  | 24 => .array .int
  | 25 => .array .int
  | 26 => .array .int
  | 27 => .array .int
  | 28 => .array .long
  | 29 => .int
  | 30 => .int
  | 31 => .array .int
  | 32 => .int
  | 33 => .array .int
  | 34 => .int
  | 35 => .array .int
  | 36 => .array .int
  | 37 => .array .int
  | 38 => .array .int
  | 39 => .array .int
  | 40 => .array .int
  | 41 => .array .int
  | 42 => .array .int
  | 43 => .array .int
  | 44 => .array .int
  | 45 => .array .int
  | 46 => .int
  | 47 => .array .int
  | 48 => .array .int
  | 49 => .array .int
  | 50 => .int
  | 51 => .int
  | 52 => .array .int
  | 53 => .array .int
  | 54 => .array .int
  | 55 => .array .int
  | 56 => .array .int
  | 57 => .array .int
  | 58 => .array .int
  | 59 => .array .boolean
  | 60 => .array .int
  | 61 => .array .int
  | 62 => .array .int
  | 63 => .array .int
  | 64 => .array .int
  | 65 => .array .int
  | 66 => .array .int
  | 67 => .array .int
  | 68 => .int
  | 69 => .int
  | 70 => .array .int
  | 71 => .array .int
  | 72 => .array .int
  | 73 => .array .int
  | 74 => .array .int
  | 75 => .array .boolean
  | 76 => .array .int
  | 77 => .array .boolean
  | 78 => .array .int
  | 79 => .int
  | 80 => .int
  | 81 => .array .int
  | 82 => .array .int
  | 83 => .boolean
  | 84 => .int
  | 85 => .array .int
  | 86 => .array .int
  | 87 => .array .int
  | 88 => .int
  | 89 => .int
  | 90 => .array .int
  | 91 => .int
  | 92 => .int
  | 93 => .array .int
  | 94 => .array .int
  | 95 => .array .int
  | 96 => .array .int
  | 97 => .array .int
  | 98 => .array .int
  | 99 => .array .int
  | 100 => .array .int
  | 101 => .array .boolean
  | 102 => .array .int
  | 103 => .int
  | 104 => .array .int
  | 105 => .int
  | 106 => .array .int
  | 107 => .array .int
  | 108 => .array .int
  | 109 => .array .int
  | 110 => .int
  | 111 => .boolean
  | 112 => .int
  | 113 => .int
  | 114 => .boolean
  | 115 => .int
  | 116 => .int
  | 117 => .int
  | 118 => .int
  | 119 => .int
  | 120 => .int
  | 121 => .array .int
  | 122 => .array .int
  | 123 => .int
  | 124 => .int
  | 125 => .int
  | 126 => .int
  | 127 => .array .int
  | 128 => .array .int
  | _ => .int
abbrev wsX120 : List Cond := u_ws RX12 TX12 130
theorem nmX12 : ∀ a, a < 130 → ∀ b, b < 130 → a ≠ b → (TX12 a).2.1 ≠ (TX12 b).2.1 := by decide +kernel
theorem tyX12_ok : ∀ k, k < 130 → parseFieldDescriptor (TX12 k).2.2.1 = some (tyX12 k) := by decide +kernel
abbrev cX12_init : ByteArray := prog_14_method_1_code
def yX12_init : MethodName := ⟨RX12, "<init>", "()V"⟩
abbrev cX12_thrown : ByteArray := prog_14_method_2_code
def yX12_thrown : MethodName := ⟨RX12, "thrown", "()I"⟩
abbrev cX12_fails : ByteArray := prog_14_method_3_code
def yX12_fails : MethodName := ⟨RX12, "fails", "(I)Z"⟩
abbrev cX12_tells : ByteArray := prog_14_method_4_code
def yX12_tells : MethodName := ⟨RX12, "tells", "(I)I"⟩
abbrev cX12_isIn : ByteArray := prog_14_method_5_code
def yX12_isIn : MethodName := ⟨RX12, "isIn", "(III)Z"⟩
abbrev cX12_least : ByteArray := prog_14_method_6_code
def yX12_least : MethodName := ⟨RX12, "least", "(II)I"⟩
abbrev cX12_most : ByteArray := prog_14_method_7_code
def yX12_most : MethodName := ⟨RX12, "most", "(II)I"⟩
abbrev cX12_isType : ByteArray := prog_14_method_8_code
def yX12_isType : MethodName := ⟨RX12, "isType", "(I)Z"⟩
abbrev cX12_isTenant : ByteArray := prog_14_method_9_code
def yX12_isTenant : MethodName := ⟨RX12, "isTenant", "(I)Z"⟩
abbrev cX12_isRun : ByteArray := prog_14_method_10_code
def yX12_isRun : MethodName := ⟨RX12, "isRun", "(I)Z"⟩
abbrev cX12_isValue : ByteArray := prog_14_method_11_code
def yX12_isValue : MethodName := ⟨RX12, "isValue", "(I)Z"⟩
abbrev cX12_ofThousand : ByteArray := prog_14_method_12_code
def yX12_ofThousand : MethodName := ⟨RX12, "ofThousand", "(I)I"⟩
abbrev cX12_code : ByteArray := prog_14_method_13_code
def yX12_code : MethodName := ⟨RX12, "code", "(II)I"⟩
abbrev cX12_mostA : ByteArray := prog_14_method_14_code
def yX12_mostA : MethodName := ⟨RX12, "mostA", "(I)I"⟩
abbrev cX12_mostB : ByteArray := prog_14_method_15_code
def yX12_mostB : MethodName := ⟨RX12, "mostB", "(I)I"⟩
abbrev cX12_line : ByteArray := prog_14_method_16_code
def yX12_line : MethodName := ⟨RX12, "line", "(IIII)I"⟩
abbrev cX12_deploy : ByteArray := prog_14_method_17_code
def yX12_deploy : MethodName := ⟨RX12, "deploy", "(I)I"⟩
abbrev cX12_setKind : ByteArray := prog_14_method_18_code
def yX12_setKind : MethodName := ⟨RX12, "setKind", "(IIIIII)V"⟩
abbrev cX12_setPolicy : ByteArray := prog_14_method_19_code
def yX12_setPolicy : MethodName := ⟨RX12, "setPolicy", "(II)I"⟩
abbrev cX12_at : ByteArray := prog_14_method_20_code
def yX12_at : MethodName := ⟨RX12, "at", "(II)I"⟩
abbrev cX12_kindAt : ByteArray := prog_14_method_21_code
def yX12_kindAt : MethodName := ⟨RX12, "kindAt", "(II)I"⟩
abbrev cX12_yAt : ByteArray := prog_14_method_22_code
def yX12_yAt : MethodName := ⟨RX12, "yAt", "(II)I"⟩
abbrev cX12_xAt : ByteArray := prog_14_method_23_code
def yX12_xAt : MethodName := ⟨RX12, "xAt", "(II)I"⟩
abbrev cX12_whenAt : ByteArray := prog_14_method_24_code
def yX12_whenAt : MethodName := ⟨RX12, "whenAt", "(II)I"⟩
abbrev cX12_counts : ByteArray := prog_14_method_25_code
def yX12_counts : MethodName := ⟨RX12, "counts", "(III)V"⟩
abbrev cX12_recounts : ByteArray := prog_14_method_26_code
def yX12_recounts : MethodName := ⟨RX12, "recounts", "(I)V"⟩
abbrev cX12_puts : ByteArray := prog_14_method_27_code
def yX12_puts : MethodName := ⟨RX12, "puts", "(IIII)I"⟩
abbrev cX12_hasCome : ByteArray := prog_14_method_28_code
def yX12_hasCome : MethodName := ⟨RX12, "hasCome", "(II)Z"⟩
abbrev cX12_makes : ByteArray := prog_14_method_29_code
def yX12_makes : MethodName := ⟨RX12, "makes", "(IIIIII)I"⟩
abbrev cX12_isAlive : ByteArray := prog_14_method_30_code
def yX12_isAlive : MethodName := ⟨RX12, "isAlive", "(I)Z"⟩
abbrev cX12_cancels : ByteArray := prog_14_method_31_code
def yX12_cancels : MethodName := ⟨RX12, "cancels", "(I)Z"⟩
abbrev cX12_slot : ByteArray := prog_14_method_32_code
def yX12_slot : MethodName := ⟨RX12, "slot", "(I)I"⟩
abbrev cX12_goes : ByteArray := prog_14_method_33_code
def yX12_goes : MethodName := ⟨RX12, "goes", "()Z"⟩
abbrev cX12_spins : ByteArray := prog_14_method_34_code
def yX12_spins : MethodName := ⟨RX12, "spins", "()V"⟩
abbrev cX12_differs : ByteArray := prog_14_method_35_code
def yX12_differs : MethodName := ⟨RX12, "differs", "(I)V"⟩
abbrev cX12_nextCommand : ByteArray := prog_14_method_36_code
def yX12_nextCommand : MethodName := ⟨RX12, "nextCommand", "()I"⟩
abbrev cX12_nextLater : ByteArray := prog_14_method_37_code
def yX12_nextLater : MethodName := ⟨RX12, "nextLater", "()I"⟩
abbrev cX12_commands : ByteArray := prog_14_method_38_code
def yX12_commands : MethodName := ⟨RX12, "commands", "(III)I"⟩
abbrev cX12_firstTask : ByteArray := prog_14_method_39_code
def yX12_firstTask : MethodName := ⟨RX12, "firstTask", "()I"⟩
abbrev cX12_begins : ByteArray := prog_14_method_40_code
def yX12_begins : MethodName := ⟨RX12, "begins", "(II)V"⟩
abbrev cX12_removes : ByteArray := prog_14_method_41_code
def yX12_removes : MethodName := ⟨RX12, "removes", "(I)V"⟩
abbrev cX12_endsRun : ByteArray := prog_14_method_42_code
def yX12_endsRun : MethodName := ⟨RX12, "endsRun", "(II)V"⟩
abbrev cX12_endsBranch : ByteArray := prog_14_method_43_code
def yX12_endsBranch : MethodName := ⟨RX12, "endsBranch", "(I)V"⟩
abbrev cX12_failsBranch : ByteArray := prog_14_method_44_code
def yX12_failsBranch : MethodName := ⟨RX12, "failsBranch", "(I)V"⟩
abbrev cX12_lets : ByteArray := prog_14_method_45_code
def yX12_lets : MethodName := ⟨RX12, "lets", "(I)V"⟩
abbrev cX12_cancelsBranch : ByteArray := prog_14_method_46_code
def yX12_cancelsBranch : MethodName := ⟨RX12, "cancelsBranch", "(I)V"⟩
abbrev cX12_isBelow : ByteArray := prog_14_method_47_code
def yX12_isBelow : MethodName := ⟨RX12, "isBelow", "(II)Z"⟩
abbrev cX12_dropsBranch : ByteArray := prog_14_method_48_code
def yX12_dropsBranch : MethodName := ⟨RX12, "dropsBranch", "(I)V"⟩
abbrev cX12_wins : ByteArray := prog_14_method_49_code
def yX12_wins : MethodName := ⟨RX12, "wins", "(I)V"⟩
abbrev cX12_races : ByteArray := prog_14_method_50_code
def yX12_races : MethodName := ⟨RX12, "races", "(II)V"⟩
abbrev cX12_hasChild : ByteArray := prog_14_method_51_code
def yX12_hasChild : MethodName := ⟨RX12, "hasChild", "(I)Z"⟩
abbrev cX12_awaits : ByteArray := prog_14_method_52_code
def yX12_awaits : MethodName := ⟨RX12, "awaits", "(IIII)V"⟩
abbrev cX12_undoes : ByteArray := prog_14_method_53_code
def yX12_undoes : MethodName := ⟨RX12, "undoes", "(I)V"⟩
abbrev cX12_patches : ByteArray := prog_14_method_54_code
def yX12_patches : MethodName := ⟨RX12, "patches", "(III)V"⟩
abbrev cX12_bares : ByteArray := prog_14_method_55_code
def yX12_bares : MethodName := ⟨RX12, "bares", "(I)V"⟩
abbrev cX12_does : ByteArray := prog_14_method_56_code
def yX12_does : MethodName := ⟨RX12, "does", "(I)V"⟩
abbrev cX12_doesMore : ByteArray := prog_14_method_57_code
def yX12_doesMore : MethodName := ⟨RX12, "doesMore", "(IIII)V"⟩
abbrev cX12_canGoOn : ByteArray := prog_14_method_58_code
def yX12_canGoOn : MethodName := ⟨RX12, "canGoOn", "(I)Z"⟩
abbrev cX12_goOn : ByteArray := prog_14_method_59_code
def yX12_goOn : MethodName := ⟨RX12, "goOn", "()V"⟩
abbrev cX12_walks : ByteArray := prog_14_method_60_code
def yX12_walks : MethodName := ⟨RX12, "walks", "(I)V"⟩
abbrev cX12_waiting : ByteArray := prog_14_method_61_code
def yX12_waiting : MethodName := ⟨RX12, "waiting", "(I)I"⟩
abbrev cX12_comesBack : ByteArray := prog_14_method_62_code
def yX12_comesBack : MethodName := ⟨RX12, "comesBack", "(III)V"⟩
abbrev cX12_isCancelled : ByteArray := prog_14_method_63_code
def yX12_isCancelled : MethodName := ⟨RX12, "isCancelled", "()V"⟩
abbrev cX12_takes : ByteArray := prog_14_method_64_code
def yX12_takes : MethodName := ⟨RX12, "takes", "(I)V"⟩
abbrev cX12_goesBy : ByteArray := prog_14_method_65_code
def yX12_goesBy : MethodName := ⟨RX12, "goesBy", "(I)V"⟩
abbrev cX12_tellsRun : ByteArray := prog_14_method_66_code
def yX12_tellsRun : MethodName := ⟨RX12, "tellsRun", "(IIIII)V"⟩
abbrev cX12_isSafe : ByteArray := prog_14_method_67_code
def yX12_isSafe : MethodName := ⟨RX12, "isSafe", "(II)Z"⟩
abbrev cX12_makesActivity : ByteArray := prog_14_method_68_code
def yX12_makesActivity : MethodName := ⟨RX12, "makesActivity", "(IIII)V"⟩
abbrev cX12_makesTimer : ByteArray := prog_14_method_69_code
def yX12_makesTimer : MethodName := ⟨RX12, "makesTimer", "(III)V"⟩
abbrev cX12_removesTimer : ByteArray := prog_14_method_70_code
def yX12_removesTimer : MethodName := ⟨RX12, "removesTimer", "(I)V"⟩
abbrev cX12_stops : ByteArray := prog_14_method_71_code
def yX12_stops : MethodName := ⟨RX12, "stops", "(I)V"⟩
abbrev cX12_drops : ByteArray := prog_14_method_72_code
def yX12_drops : MethodName := ⟨RX12, "drops", "(II)V"⟩
abbrev cX12_tellsParent : ByteArray := prog_14_method_73_code
def yX12_tellsParent : MethodName := ⟨RX12, "tellsParent", "(II)V"⟩
abbrev cX12_closes : ByteArray := prog_14_method_74_code
def yX12_closes : MethodName := ⟨RX12, "closes", "(IZI)V"⟩
abbrev cX12_begin : ByteArray := prog_14_method_75_code
def yX12_begin : MethodName := ⟨RX12, "begin", "(III)I"⟩
abbrev cX12_isName : ByteArray := prog_14_method_76_code
def yX12_isName : MethodName := ⟨RX12, "isName", "(I)Z"⟩
abbrev cX12_signal : ByteArray := prog_14_method_77_code
def yX12_signal : MethodName := ⟨RX12, "signal", "(III)I"⟩
abbrev cX12_isWanted : ByteArray := prog_14_method_78_code
def yX12_isWanted : MethodName := ⟨RX12, "isWanted", "(II)Z"⟩
abbrev cX12_update : ByteArray := prog_14_method_79_code
def yX12_update : MethodName := ⟨RX12, "update", "(III)Z"⟩
abbrev cX12_cancel : ByteArray := prog_14_method_80_code
def yX12_cancel : MethodName := ⟨RX12, "cancel", "(I)Z"⟩
abbrev cX12_asks : ByteArray := prog_14_method_81_code
def yX12_asks : MethodName := ⟨RX12, "asks", "(II)I"⟩
abbrev cX12_query : ByteArray := prog_14_method_82_code
def yX12_query : MethodName := ⟨RX12, "query", "(II)I"⟩
abbrev cX12_plain : ByteArray := prog_14_method_83_code
def yX12_plain : MethodName := ⟨RX12, "plain", "(II)I"⟩
abbrev cX12_standing : ByteArray := prog_14_method_84_code
def yX12_standing : MethodName := ⟨RX12, "standing", "(I)I"⟩
abbrev cX12_event : ByteArray := prog_14_method_85_code
def yX12_event : MethodName := ⟨RX12, "event", "(II)I"⟩
abbrev cX12_difference : ByteArray := prog_14_method_86_code
def yX12_difference : MethodName := ⟨RX12, "difference", "(I)I"⟩
abbrev cX12_runs : ByteArray := prog_14_method_87_code
def yX12_runs : MethodName := ⟨RX12, "runs", "()I"⟩
abbrev cX12_setRate : ByteArray := prog_14_method_88_code
def yX12_setRate : MethodName := ⟨RX12, "setRate", "(I)I"⟩
abbrev cX12_isHeld : ByteArray := prog_14_method_89_code
def yX12_isHeld : MethodName := ⟨RX12, "isHeld", "(I)Z"⟩
abbrev cX12_isReady : ByteArray := prog_14_method_90_code
def yX12_isReady : MethodName := ⟨RX12, "isReady", "(I)Z"⟩
abbrev cX12_firstOrder : ByteArray := prog_14_method_91_code
def yX12_firstOrder : MethodName := ⟨RX12, "firstOrder", "(I)I"⟩
abbrev cX12_isWorker : ByteArray := prog_14_method_92_code
def yX12_isWorker : MethodName := ⟨RX12, "isWorker", "(I)Z"⟩
abbrev cX12_poll : ByteArray := prog_14_method_93_code
def yX12_poll : MethodName := ⟨RX12, "poll", "(I)I"⟩
abbrev cX12_isStale : ByteArray := prog_14_method_94_code
def yX12_isStale : MethodName := ⟨RX12, "isStale", "(I)Z"⟩
abbrev cX12_hasState : ByteArray := prog_14_method_95_code
def yX12_hasState : MethodName := ⟨RX12, "hasState", "(II)Z"⟩
abbrev cX12_complete : ByteArray := prog_14_method_96_code
def yX12_complete : MethodName := ⟨RX12, "complete", "(I)I"⟩
abbrev cX12_carriesOut : ByteArray := prog_14_method_97_code
def yX12_carriesOut : MethodName := ⟨RX12, "carriesOut", "(IIIII)V"⟩
abbrev cX12_goesOnAsNew : ByteArray := prog_14_method_98_code
def yX12_goesOnAsNew : MethodName := ⟨RX12, "goesOnAsNew", "(II)V"⟩
abbrev cX12_die : ByteArray := prog_14_method_99_code
def yX12_die : MethodName := ⟨RX12, "die", "(I)I"⟩
abbrev cX12_replays : ByteArray := prog_14_method_100_code
def yX12_replays : MethodName := ⟨RX12, "replays", "(I)I"⟩
abbrev cX12_take : ByteArray := prog_14_method_101_code
def yX12_take : MethodName := ⟨RX12, "take", "(I)I"⟩
abbrev cX12_isActivity : ByteArray := prog_14_method_102_code
def yX12_isActivity : MethodName := ⟨RX12, "isActivity", "(I)Z"⟩
abbrev cX12_answer : ByteArray := prog_14_method_103_code
def yX12_answer : MethodName := ⟨RX12, "answer", "(II)Z"⟩
abbrev cX12_misses : ByteArray := prog_14_method_104_code
def yX12_misses : MethodName := ⟨RX12, "misses", "(IZ)V"⟩
abbrev cX12_fail : ByteArray := prog_14_method_105_code
def yX12_fail : MethodName := ⟨RX12, "fail", "(IZ)Z"⟩
abbrev cX12_beat : ByteArray := prog_14_method_106_code
def yX12_beat : MethodName := ⟨RX12, "beat", "(II)I"⟩
abbrev cX12_activity : ByteArray := prog_14_method_107_code
def yX12_activity : MethodName := ⟨RX12, "activity", "(I)I"⟩
abbrev cX12_fires : ByteArray := prog_14_method_108_code
def yX12_fires : MethodName := ⟨RX12, "fires", "()V"⟩
abbrev cX12_looksAtActivities : ByteArray := prog_14_method_109_code
def yX12_looksAtActivities : MethodName := ⟨RX12, "looksAtActivities", "()V"⟩
abbrev cX12_pass : ByteArray := prog_14_method_110_code
def yX12_pass : MethodName := ⟨RX12, "pass", "(I)I"⟩
abbrev cX12_isVersion : ByteArray := prog_14_method_111_code
def yX12_isVersion : MethodName := ⟨RX12, "isVersion", "(II)Z"⟩
abbrev cX12_unsafe : ByteArray := prog_14_method_112_code
def yX12_unsafe : MethodName := ⟨RX12, "\x75nsafe", "(II)I"⟩
abbrev cX12_move : ByteArray := prog_14_method_113_code
def yX12_move : MethodName := ⟨RX12, "move", "(II)Z"⟩
abbrev cX12_marks : ByteArray := prog_14_method_114_code
def yX12_marks : MethodName := ⟨RX12, "marks", "(I)V"⟩
abbrev cX12_isBack : ByteArray := prog_14_method_115_code
def yX12_isBack : MethodName := ⟨RX12, "isBack", "(I)Z"⟩
abbrev cX12_beginsAnew : ByteArray := prog_14_method_116_code
def yX12_beginsAnew : MethodName := ⟨RX12, "beginsAnew", "(I)V"⟩
abbrev cX12_taskAt : ByteArray := prog_14_method_117_code
def yX12_taskAt : MethodName := ⟨RX12, "taskAt", "(II)I"⟩
abbrev cX12_setBack : ByteArray := prog_14_method_118_code
def yX12_setBack : MethodName := ⟨RX12, "setBack", "(II)I"⟩
abbrev cX12_copy : ByteArray := prog_14_method_119_code
def yX12_copy : MethodName := ⟨RX12, "copy", "(II)I"⟩
abbrev cX12_cutsRun : ByteArray := prog_14_method_120_code
def yX12_cutsRun : MethodName := ⟨RX12, "cutsRun", "(I)I"⟩
abbrev cX12_takeOver : ByteArray := prog_14_method_121_code
def yX12_takeOver : MethodName := ⟨RX12, "takeOver", "()I"⟩
abbrev cX12_join : ByteArray := prog_14_method_122_code
def yX12_join : MethodName := ⟨RX12, "join", "()I"⟩
abbrev cX12_isSchedule : ByteArray := prog_14_method_123_code
def yX12_isSchedule : MethodName := ⟨RX12, "isSchedule", "(I)Z"⟩
abbrev cX12_schedule : ByteArray := prog_14_method_124_code
def yX12_schedule : MethodName := ⟨RX12, "schedule", "(IIII)I"⟩
abbrev cX12_beginsFor : ByteArray := prog_14_method_125_code
def yX12_beginsFor : MethodName := ⟨RX12, "beginsFor", "(II)I"⟩
abbrev cX12_isRunning : ByteArray := prog_14_method_126_code
def yX12_isRunning : MethodName := ⟨RX12, "isRunning", "(I)Z"⟩
abbrev cX12_comes : ByteArray := prog_14_method_127_code
def yX12_comes : MethodName := ⟨RX12, "comes", "(II)V"⟩
abbrev cX12_looksAtSchedule : ByteArray := prog_14_method_128_code
def yX12_looksAtSchedule : MethodName := ⟨RX12, "looksAtSchedule", "(I)V"⟩
abbrev cX12_point : ByteArray := prog_14_method_129_code
def yX12_point : MethodName := ⟨RX12, "point", "(II)V"⟩
abbrev cX12_togglePause : ByteArray := prog_14_method_130_code
def yX12_togglePause : MethodName := ⟨RX12, "togglePause", "(I)Z"⟩
abbrev cX12_backfill : ByteArray := prog_14_method_131_code
def yX12_backfill : MethodName := ⟨RX12, "backfill", "(II)I"⟩
abbrev cX12_shift : ByteArray := prog_14_method_132_code
def yX12_shift : MethodName := ⟨RX12, "shift", "(I)I"⟩
abbrev cX12_bringIn : ByteArray := prog_14_method_133_code
def yX12_bringIn : MethodName := ⟨RX12, "bringIn", "(I)I"⟩
abbrev cX12_search : ByteArray := prog_14_method_134_code
def yX12_search : MethodName := ⟨RX12, "search", "(I)I"⟩
def RJx145de : String := "java/io/Serializable"
def TJx145de : u_T := fun k => match k with
  | _ => ("", "", "", false)
def tyJx145de : Nat → FieldType := fun k => match k with
  | _ => .int
abbrev wsJx145de0 : List Cond := u_ws RJx145de TJx145de 0
theorem nmJx145de : ∀ a, a < 0 → ∀ b, b < 0 → a ≠ b → (TJx145de a).2.1 ≠ (TJx145de b).2.1 := by decide +kernel
theorem tyJx145de_ok : ∀ k, k < 0 → parseFieldDescriptor (TJx145de k).2.2.1 = some (tyJx145de k) := by decide +kernel
def RJx8e188 : String := "java/lang/Cloneable"
def TJx8e188 : u_T := fun k => match k with
  | _ => ("", "", "", false)
def tyJx8e188 : Nat → FieldType := fun k => match k with
  | _ => .int
abbrev wsJx8e1880 : List Cond := u_ws RJx8e188 TJx8e188 0
theorem nmJx8e188 : ∀ a, a < 0 → ∀ b, b < 0 → a ≠ b → (TJx8e188 a).2.1 ≠ (TJx8e188 b).2.1 := by decide +kernel
theorem tyJx8e188_ok : ∀ k, k < 0 → parseFieldDescriptor (TJx8e188 k).2.2.1 = some (tyJx8e188 k) := by decide +kernel
def RJxab1ab : String := "java/lang/Iterable"
def TJxab1ab : u_T := fun k => match k with
  | _ => ("", "", "", false)
def tyJxab1ab : Nat → FieldType := fun k => match k with
  | _ => .int
abbrev wsJxab1ab0 : List Cond := u_ws RJxab1ab TJxab1ab 0
theorem nmJxab1ab : ∀ a, a < 0 → ∀ b, b < 0 → a ≠ b → (TJxab1ab a).2.1 ≠ (TJxab1ab b).2.1 := by decide +kernel
theorem tyJxab1ab_ok : ∀ k, k < 0 → parseFieldDescriptor (TJxab1ab k).2.2.1 = some (tyJxab1ab k) := by decide +kernel
def RJ9 : String := "java/lang/Math"
def TJ9 : u_T := fun k => match k with
  | _ => ("", "", "", false)
def tyJ9 : Nat → FieldType := fun k => match k with
  | _ => .int
abbrev wsJ90 : List Cond := u_ws RJ9 TJ9 0
theorem nmJ9 : ∀ a, a < 0 → ∀ b, b < 0 → a ≠ b → (TJ9 a).2.1 ≠ (TJ9 b).2.1 := by decide +kernel
theorem tyJ9_ok : ∀ k, k < 0 → parseFieldDescriptor (TJ9 k).2.2.1 = some (tyJ9 k) := by decide +kernel
abbrev cJ9_floorMod_7cf53 : ByteArray := prog_22_method_50_code
def yJ9_floorMod_7cf53 : MethodName := ⟨RJ9, "floorMod", "(II)I"⟩
abbrev cJ9_max_7cf53 : ByteArray := prog_22_method_65_code
def yJ9_max_7cf53 : MethodName := ⟨RJ9, "max", "(II)I"⟩
abbrev cJ9_min_7cf53 : ByteArray := prog_22_method_69_code
def yJ9_min_7cf53 : MethodName := ⟨RJ9, "min", "(II)I"⟩
def RJ0 : String := "java/lang/String"
def TJ0 : u_T := fun k => match k with
  | _ => ("", "", "", false)
def tyJ0 : Nat → FieldType := fun k => match k with
  | _ => .int
abbrev wsJ00 : List Cond := u_ws RJ0 TJ0 0
theorem nmJ0 : ∀ a, a < 0 → ∀ b, b < 0 → a ≠ b → (TJ0 a).2.1 ≠ (TJ0 b).2.1 := by decide +kernel
theorem tyJ0_ok : ∀ k, k < 0 → parseFieldDescriptor (TJ0 k).2.2.1 = some (tyJ0 k) := by decide +kernel
def RJ10 : String := "java/lang/System"
def TJ10 : u_T := fun k => match k with
  | _ => ("", "", "", false)
def tyJ10 : Nat → FieldType := fun k => match k with
  | _ => .int
abbrev wsJ100 : List Cond := u_ws RJ10 TJ10 0
theorem nmJ10 : ∀ a, a < 0 → ∀ b, b < 0 → a ≠ b → (TJ10 a).2.1 ≠ (TJ10 b).2.1 := by decide +kernel
theorem tyJ10_ok : ∀ k, k < 0 → parseFieldDescriptor (TJ10 k).2.2.1 = some (tyJ10 k) := by decide +kernel
def RJxa1e45 : String := "java/util/AbstractCollection"
def TJxa1e45 : u_T := fun k => match k with
  | _ => ("", "", "", false)
def tyJxa1e45 : Nat → FieldType := fun k => match k with
  | _ => .int
abbrev wsJxa1e450 : List Cond := u_ws RJxa1e45 TJxa1e45 0
theorem nmJxa1e45 : ∀ a, a < 0 → ∀ b, b < 0 → a ≠ b → (TJxa1e45 a).2.1 ≠ (TJxa1e45 b).2.1 := by decide +kernel
theorem tyJxa1e45_ok : ∀ k, k < 0 → parseFieldDescriptor (TJxa1e45 k).2.2.1 = some (tyJxa1e45 k) := by decide +kernel
abbrev cJxa1e45_init_da8c8 : ByteArray := prog_27_method_1_code
def yJxa1e45_init_da8c8 : MethodName := ⟨RJxa1e45, "<init>", "()V"⟩
def RJxc12de : String := "java/util/AbstractList"
def TJxc12de : u_T := fun k => match k with
  | _ => ("", "", "", false)
def tyJxc12de : Nat → FieldType := fun k => match k with
  | _ => .int
abbrev wsJxc12de0 : List Cond := u_ws RJxc12de TJxc12de 0
theorem nmJxc12de : ∀ a, a < 0 → ∀ b, b < 0 → a ≠ b → (TJxc12de a).2.1 ≠ (TJxc12de b).2.1 := by decide +kernel
theorem tyJxc12de_ok : ∀ k, k < 0 → parseFieldDescriptor (TJxc12de k).2.2.1 = some (tyJxc12de k) := by decide +kernel
abbrev cJxc12de_init_da8c8 : ByteArray := prog_28_method_1_code
def yJxc12de_init_da8c8 : MethodName := ⟨RJxc12de, "<init>", "()V"⟩
def RJx4a65c : String := "java/util/ArrayList"
def TJx4a65c : u_T := fun k => match k with
  | 0 => ("java/util/AbstractList", "modCount", "I", false)
  | 1 => ("java/util/ArrayList", "elementData", "[Ljava/lang/Object;", false)
  | _ => ("java/util/ArrayList", "size", "I", false)
def tyJx4a65c : Nat → FieldType := fun k => match k with
  | 0 => .int
  | 1 => .array (.object "java/lang/Object")
  | _ => .int
abbrev wsJx4a65c0 : List Cond := u_ws RJx4a65c TJx4a65c 3
theorem nmJx4a65c : ∀ a, a < 3 → ∀ b, b < 3 → a ≠ b → (TJx4a65c a).2.1 ≠ (TJx4a65c b).2.1 := by decide +kernel
theorem tyJx4a65c_ok : ∀ k, k < 3 → parseFieldDescriptor (TJx4a65c k).2.2.1 = some (tyJx4a65c k) := by decide +kernel
abbrev cJx4a65c_init_da8c8 : ByteArray := prog_29_method_2_code
def yJx4a65c_init_da8c8 : MethodName := ⟨RJx4a65c, "<init>", "()V"⟩
abbrev cJx4a65c_grow_92f84 : ByteArray := prog_29_method_6_code
def yJx4a65c_grow_92f84 : MethodName := ⟨RJx4a65c, "grow", "(I)[Ljava/lang/Object;"⟩
abbrev cJx4a65c_grow_d5877 : ByteArray := prog_29_method_7_code
def yJx4a65c_grow_d5877 : MethodName := ⟨RJx4a65c, "grow", "()[Ljava/lang/Object;"⟩
abbrev cJx4a65c_size_8abf5 : ByteArray := prog_29_method_8_code
def yJx4a65c_size_8abf5 : MethodName := ⟨RJx4a65c, "size", "()I"⟩
abbrev cJx4a65c_isEmpty_aae02 : ByteArray := prog_29_method_9_code
def yJx4a65c_isEmpty_aae02 : MethodName := ⟨RJx4a65c, "isEmpty", "()Z"⟩
abbrev cJx4a65c_elementData_915e3 : ByteArray := prog_29_method_18_code
def yJx4a65c_elementData_915e3 : MethodName := ⟨RJx4a65c, "elementData", "(I)Ljava/lang/Object;"⟩
abbrev cJx4a65c_get_915e3 : ByteArray := prog_29_method_20_code
def yJx4a65c_get_915e3 : MethodName := ⟨RJx4a65c, "get", "(I)Ljava/lang/Object;"⟩
abbrev cJx4a65c_add_72be8 : ByteArray := prog_29_method_24_code
def yJx4a65c_add_72be8 : MethodName := ⟨RJx4a65c, "add", "(Ljava/lang/Object;[Ljava/lang/Object;I)V"⟩
abbrev cJx4a65c_add_9ea2d : ByteArray := prog_29_method_25_code
def yJx4a65c_add_9ea2d : MethodName := ⟨RJx4a65c, "add", "(Ljava/lang/Object;)Z"⟩
def RJ7 : String := "java/util/Arrays"
def TJ7 : u_T := fun k => match k with
  | _ => ("", "", "", false)
def tyJ7 : Nat → FieldType := fun k => match k with
  | _ => .int
abbrev wsJ70 : List Cond := u_ws RJ7 TJ7 0
theorem nmJ7 : ∀ a, a < 0 → ∀ b, b < 0 → a ≠ b → (TJ7 a).2.1 ≠ (TJ7 b).2.1 := by decide +kernel
theorem tyJ7_ok : ∀ k, k < 0 → parseFieldDescriptor (TJ7 k).2.2.1 = some (tyJ7 k) := by decide +kernel
abbrev cJ7_fill_53178 : ByteArray := prog_30_method_103_code
def yJ7_fill_53178 : MethodName := ⟨RJ7, "fill", "([II)V"⟩
abbrev cJ7_copyOf_1904c : ByteArray := prog_30_method_119_code
def yJ7_copyOf_1904c : MethodName := ⟨RJ7, "copyOf", "([Ljava/lang/Object;I)[Ljava/lang/Object;"⟩
abbrev cJ7_copyOf_6403c : ByteArray := prog_30_method_120_code
def yJ7_copyOf_6403c : MethodName := ⟨RJ7, "copyOf", "([Ljava/lang/Object;ILjava/lang/Class;)[Ljava/lang/Object;"⟩
abbrev cJ7_copyOf_c38d5 : ByteArray := prog_30_method_124_code
def yJ7_copyOf_c38d5 : MethodName := ⟨RJ7, "copyOf", "([JI)[J"⟩
def RJx5ef63 : String := "java/util/Collection"
def TJx5ef63 : u_T := fun k => match k with
  | _ => ("", "", "", false)
def tyJx5ef63 : Nat → FieldType := fun k => match k with
  | _ => .int
abbrev wsJx5ef630 : List Cond := u_ws RJx5ef63 TJx5ef63 0
theorem nmJx5ef63 : ∀ a, a < 0 → ∀ b, b < 0 → a ≠ b → (TJx5ef63 a).2.1 ≠ (TJx5ef63 b).2.1 := by decide +kernel
theorem tyJx5ef63_ok : ∀ k, k < 0 → parseFieldDescriptor (TJx5ef63 k).2.2.1 = some (tyJx5ef63 k) := by decide +kernel
def RJxbd725 : String := "java/util/List"
def TJxbd725 : u_T := fun k => match k with
  | _ => ("", "", "", false)
def tyJxbd725 : Nat → FieldType := fun k => match k with
  | _ => .int
abbrev wsJxbd7250 : List Cond := u_ws RJxbd725 TJxbd725 0
theorem nmJxbd725 : ∀ a, a < 0 → ∀ b, b < 0 → a ≠ b → (TJxbd725 a).2.1 ≠ (TJxbd725 b).2.1 := by decide +kernel
theorem tyJxbd725_ok : ∀ k, k < 0 → parseFieldDescriptor (TJxbd725 k).2.2.1 = some (tyJxbd725 k) := by decide +kernel
def RJ15 : String := "java/util/Objects"
def TJ15 : u_T := fun k => match k with
  | _ => ("", "", "", false)
def tyJ15 : Nat → FieldType := fun k => match k with
  | _ => .int
abbrev wsJ150 : List Cond := u_ws RJ15 TJ15 0
theorem nmJ15 : ∀ a, a < 0 → ∀ b, b < 0 → a ≠ b → (TJ15 a).2.1 ≠ (TJ15 b).2.1 := by decide +kernel
theorem tyJ15_ok : ∀ k, k < 0 → parseFieldDescriptor (TJ15 k).2.2.1 = some (tyJ15 k) := by decide +kernel
abbrev cJ15_checkIndex_7cf53 : ByteArray := prog_33_method_17_code
def yJ15_checkIndex_7cf53 : MethodName := ⟨RJ15, "checkIndex", "(II)I"⟩
def RJxf0a74 : String := "java/util/RandomAccess"
def TJxf0a74 : u_T := fun k => match k with
  | _ => ("", "", "", false)
def tyJxf0a74 : Nat → FieldType := fun k => match k with
  | _ => .int
abbrev wsJxf0a740 : List Cond := u_ws RJxf0a74 TJxf0a74 0
theorem nmJxf0a74 : ∀ a, a < 0 → ∀ b, b < 0 → a ≠ b → (TJxf0a74 a).2.1 ≠ (TJxf0a74 b).2.1 := by decide +kernel
theorem tyJxf0a74_ok : ∀ k, k < 0 → parseFieldDescriptor (TJxf0a74 k).2.2.1 = some (tyJxf0a74 k) := by decide +kernel
def RJxa66e6 : String := "java/util/SequencedCollection"
def TJxa66e6 : u_T := fun k => match k with
  | _ => ("", "", "", false)
def tyJxa66e6 : Nat → FieldType := fun k => match k with
  | _ => .int
abbrev wsJxa66e60 : List Cond := u_ws RJxa66e6 TJxa66e6 0
theorem nmJxa66e6 : ∀ a, a < 0 → ∀ b, b < 0 → a ≠ b → (TJxa66e6 a).2.1 ≠ (TJxa66e6 b).2.1 := by decide +kernel
theorem tyJxa66e6_ok : ∀ k, k < 0 → parseFieldDescriptor (TJxa66e6 k).2.2.1 = some (tyJxa66e6 k) := by decide +kernel
def RJ8 : String := "jdk/internal/util/ArraysSupport"
def TJ8 : u_T := fun k => match k with
  | _ => ("", "", "", false)
def tyJ8 : Nat → FieldType := fun k => match k with
  | _ => .int
abbrev wsJ80 : List Cond := u_ws RJ8 TJ8 0
theorem nmJ8 : ∀ a, a < 0 → ∀ b, b < 0 → a ≠ b → (TJ8 a).2.1 ≠ (TJ8 b).2.1 := by decide +kernel
theorem tyJ8_ok : ∀ k, k < 0 → parseFieldDescriptor (TJ8 k).2.2.1 = some (tyJ8 k) := by decide +kernel
abbrev cJ8_newLength_cabcc : ByteArray := prog_36_method_27_code
def yJ8_newLength_cabcc : MethodName := ⟨RJ8, "newLength", "(III)I"⟩
abbrev cJ8_hugeLength_7cf53 : ByteArray := prog_36_method_28_code
def yJ8_hugeLength_7cf53 : MethodName := ⟨RJ8, "hugeLength", "(II)I"⟩
def RJ3 : String := "jdk/internal/util/Preconditions"
def TJ3 : u_T := fun k => match k with
  | _ => ("", "", "", false)
def tyJ3 : Nat → FieldType := fun k => match k with
  | _ => .int
abbrev wsJ30 : List Cond := u_ws RJ3 TJ3 0
theorem nmJ3 : ∀ a, a < 0 → ∀ b, b < 0 → a ≠ b → (TJ3 a).2.1 ≠ (TJ3 b).2.1 := by decide +kernel
theorem tyJ3_ok : ∀ k, k < 0 → parseFieldDescriptor (TJ3 k).2.2.1 = some (tyJ3 k) := by decide +kernel
abbrev cJ3_checkIndex_8e157 : ByteArray := prog_37_method_11_code
def yJ3_checkIndex_8e157 : MethodName := ⟨RJ3, "checkIndex", "(IILjava/util/function/BiFunction;)I"⟩
def RL : String := "DurableLoomLaw"
abbrev cL_line : ByteArray := method_3_code
def yL_line : MethodName := ⟨RL, "line", "(LDurableLoom;IIII[J)I"⟩
abbrev cL_deploy : ByteArray := method_4_code
def yL_deploy : MethodName := ⟨RL, "deploy", "(LDurableLoom;I[J)I"⟩
abbrev cL_setKind : ByteArray := method_5_code
def yL_setKind : MethodName := ⟨RL, "setKind", "(LDurableLoom;IIIIII)I"⟩
abbrev cL_setPolicy : ByteArray := method_6_code
def yL_setPolicy : MethodName := ⟨RL, "setPolicy", "(LDurableLoom;II[J)I"⟩
abbrev cL_begin : ByteArray := method_7_code
def yL_begin : MethodName := ⟨RL, "begin", "(LDurableLoom;III[J)I"⟩
abbrev cL_signal : ByteArray := method_8_code
def yL_signal : MethodName := ⟨RL, "signal", "(LDurableLoom;III[J)I"⟩
abbrev cL_update : ByteArray := method_9_code
def yL_update : MethodName := ⟨RL, "update", "(LDurableLoom;III[J)I"⟩
abbrev cL_cancel : ByteArray := method_10_code
def yL_cancel : MethodName := ⟨RL, "cancel", "(LDurableLoom;I[J)I"⟩
abbrev cL_query : ByteArray := method_11_code
def yL_query : MethodName := ⟨RL, "query", "(LDurableLoom;II[J)I"⟩
abbrev cL_plain : ByteArray := method_12_code
def yL_plain : MethodName := ⟨RL, "plain", "(LDurableLoom;II[J)I"⟩
abbrev cL_standing : ByteArray := method_13_code
def yL_standing : MethodName := ⟨RL, "standing", "(LDurableLoom;I[J)I"⟩
abbrev cL_event : ByteArray := method_14_code
def yL_event : MethodName := ⟨RL, "event", "(LDurableLoom;II[J)I"⟩
abbrev cL_difference : ByteArray := method_15_code
def yL_difference : MethodName := ⟨RL, "difference", "(LDurableLoom;I[J)I"⟩
abbrev cL_setRate : ByteArray := method_16_code
def yL_setRate : MethodName := ⟨RL, "setRate", "(LDurableLoom;I[J)I"⟩
abbrev cL_poll : ByteArray := method_17_code
def yL_poll : MethodName := ⟨RL, "poll", "(LDurableLoom;I[J)I"⟩
abbrev cL_complete : ByteArray := method_18_code
def yL_complete : MethodName := ⟨RL, "complete", "(LDurableLoom;I[J)I"⟩
abbrev cL_die : ByteArray := method_19_code
def yL_die : MethodName := ⟨RL, "die", "(LDurableLoom;I[J)I"⟩
abbrev cL_replays : ByteArray := method_20_code
def yL_replays : MethodName := ⟨RL, "replays", "(LDurableLoom;I[J)I"⟩
abbrev cL_take : ByteArray := method_21_code
def yL_take : MethodName := ⟨RL, "take", "(LDurableLoom;I[J)I"⟩
abbrev cL_answer : ByteArray := method_22_code
def yL_answer : MethodName := ⟨RL, "answer", "(LDurableLoom;II[J)I"⟩
abbrev cL_fail : ByteArray := method_23_code
def yL_fail : MethodName := ⟨RL, "fail", "(LDurableLoom;IZ[J)I"⟩
abbrev cL_beat : ByteArray := method_24_code
def yL_beat : MethodName := ⟨RL, "beat", "(LDurableLoom;II[J)I"⟩
abbrev cL_activity : ByteArray := method_25_code
def yL_activity : MethodName := ⟨RL, "activity", "(LDurableLoom;I[J)I"⟩
abbrev cL_pass : ByteArray := method_26_code
def yL_pass : MethodName := ⟨RL, "pass", "(LDurableLoom;I[J)I"⟩
abbrev cL_unsafe : ByteArray := method_27_code
def yL_unsafe : MethodName := ⟨RL, "\x75nsafe", "(LDurableLoom;II[J)I"⟩
abbrev cL_move : ByteArray := method_28_code
def yL_move : MethodName := ⟨RL, "move", "(LDurableLoom;II[J)I"⟩
abbrev cL_setBack : ByteArray := method_29_code
def yL_setBack : MethodName := ⟨RL, "setBack", "(LDurableLoom;II[J)I"⟩
abbrev cL_copy : ByteArray := method_30_code
def yL_copy : MethodName := ⟨RL, "copy", "(LDurableLoom;II[J)I"⟩
abbrev cL_takeOver : ByteArray := method_31_code
def yL_takeOver : MethodName := ⟨RL, "takeOver", "(LDurableLoom;[J)I"⟩
abbrev cL_join : ByteArray := method_32_code
def yL_join : MethodName := ⟨RL, "join", "(LDurableLoom;[J)I"⟩
abbrev cL_schedule : ByteArray := method_33_code
def yL_schedule : MethodName := ⟨RL, "schedule", "(LDurableLoom;IIII[J)I"⟩
abbrev cL_togglePause : ByteArray := method_34_code
def yL_togglePause : MethodName := ⟨RL, "togglePause", "(LDurableLoom;I[J)I"⟩
abbrev cL_backfill : ByteArray := method_35_code
def yL_backfill : MethodName := ⟨RL, "backfill", "(LDurableLoom;II[J)I"⟩
abbrev cL_shift : ByteArray := method_36_code
def yL_shift : MethodName := ⟨RL, "shift", "(LDurableLoom;I[J)I"⟩
abbrev cL_bringIn : ByteArray := method_37_code
def yL_bringIn : MethodName := ⟨RL, "bringIn", "(LDurableLoom;I[J)I"⟩
abbrev cL_search : ByteArray := method_38_code
def yL_search : MethodName := ⟨RL, "search", "(LDurableLoom;I[J)I"⟩
abbrev cL_law : ByteArray := code
def yL_law : MethodName := ⟨RL, "law", "([I)Z"⟩
abbrev vwCl : List vw_C := [(RJx4a65c, TJx4a65c, 3), (RX0, TX0, 11), (RX1, TX1, 11), (RX2, TX2, 5), (RX3, TX3, 5), (RX4, TX4, 12), (RX5, TX5, 3), (RX6, TX6, 20), (RX7, TX7, 9), (RX8, TX8, 14), (RX9, TX9, 6), (RX10, TX10, 3), (RX11, TX11, 18), (RX12, TX12, 130)]
end
section
def wsL_law0_r1 : List Cond := [Cond.classLink RL 8 RX11, Cond.instantiable RX11 18, Cond.initialized RX11, Cond.classLink RL 134 RX12, Cond.instantiable RX12 130, Cond.initialized RX12, Cond.arrayClass .long, Cond.methodLink RL 133 yX11_init, Cond.instanceMethod yX11_init, Cond.code yX11_init cX11_init 2 none, Cond.methodLink RX11 1 objectInit, Cond.instanceMethod objectInit, Cond.code objectInit ⟨#[0xb1]⟩ 1 none, Cond.classLink RX11 9 RX10, Cond.fieldLink RX11 11 "DurableLoom" "types" "[LDurableLoom$Type;", Cond.classLink RX11 15 RX3, Cond.fieldLink RX11 17 "DurableLoom" "kinds" "[LDurableLoom$Kind;", Cond.classLink RX11 21 RJx4a65c, Cond.instantiable RJx4a65c 3, Cond.initialized RJx4a65c, Cond.fieldLink RX11 24 "DurableLoom" "allRuns" "Ljava/util/ArrayList;", Cond.fieldLink RX11 28 "DurableLoom" "allActivities" "Ljava/util/ArrayList;", Cond.fieldLink RX11 31 "DurableLoom" "allTasks" "Ljava/util/ArrayList;", Cond.fieldLink RX11 34 "DurableLoom" "allSchedules" "Ljava/util/ArrayList;"]
def wsL_law0_r2 : List Cond := [Cond.arrayClass .int, Cond.fieldLink RX11 37 "DurableLoom" "replayed" "[I", Cond.fieldLink RX11 41 "DurableLoom" "given" "[I", Cond.fieldLink RX11 44 "DurableLoom" "givenNow" "[I", Cond.classLink RX11 47 RX5, Cond.instantiable RX5 3, Cond.initialized RX5, Cond.fieldLink RX11 50 "DurableLoom" "tagQueue" "LDurableLoom$Row;", Cond.classLink RX11 54 RX4, Cond.instantiable RX4 12, Cond.initialized RX4, Cond.fieldLink RX11 57 "DurableLoom" "machine" "LDurableLoom$Machine;", Cond.fieldLink RX11 61 "DurableLoom" "tagsPut" "I", Cond.fieldLink RX11 65 "DurableLoom" "tagsKnown" "I", Cond.fieldLink RX11 68 "DurableLoom" "rate" "I", Cond.fieldLink RX11 71 "DurableLoom" "time" "I", Cond.fieldLink RX11 74 "DurableLoom" "offset" "I", Cond.fieldLink RX11 77 "DurableLoom" "arrivalsSoFar" "I", Cond.fieldLink RX11 80 "DurableLoom" "joined" "Z", Cond.instantiable RX10 3, Cond.initialized RX10, Cond.instantiable RX3 5, Cond.initialized RX3, Cond.methodLink RX11 23 yJx4a65c_init_da8c8]
def wsL_law0_r3 : List Cond := [Cond.instanceMethod yJx4a65c_init_da8c8, Cond.code yJx4a65c_init_da8c8 cJx4a65c_init_da8c8 1 none, Cond.fieldLink RJx4a65c 39 "java/util/ArrayList" "DEFAULTCAPACITY_EMPTY_ELEMENTDATA" "[Ljava/lang/Object;", Cond.fieldLink RJx4a65c 9 "java/util/ArrayList" "elementData" "[Ljava/lang/Object;", Cond.methodLink RJx4a65c 1 yJxc12de_init_da8c8, Cond.instanceMethod yJxc12de_init_da8c8, Cond.initialized RJxc12de, Cond.code yJxc12de_init_da8c8 cJxc12de_init_da8c8 1 none, Cond.fieldLink RJxc12de 7 "java/util/AbstractList" "modCount" "I", Cond.methodLink RJxc12de 1 yJxa1e45_init_da8c8, Cond.instanceMethod yJxa1e45_init_da8c8, Cond.initialized RJxa1e45, Cond.code yJxa1e45_init_da8c8 cJxa1e45_init_da8c8 1 none, Cond.methodLink RJxa1e45 1 objectInit, Cond.instanceMethod yX5_init, Cond.code yX5_init cX5_init 1 none, Cond.methodLink RX5 3 objectInit, Cond.classLink RX5 9 "[J", Cond.fieldLink RX5 11 "DurableLoom$Row" "parts" "[[J", Cond.fieldLink RX5 15 "DurableLoom$Row" "shared" "I", Cond.fieldLink RX5 19 "DurableLoom$Row" "size" "I", Cond.instanceMethod yX4_init, Cond.code yX4_init cX4_init 1 none, Cond.methodLink RX4 1 objectInit]
def wsL_law0_r4 : List Cond := [Cond.classLink RX4 7 RX8, Cond.instantiable RX8 14, Cond.initialized RX8, Cond.fieldLink RX4 10 "DurableLoom$Machine" "state" "LDurableLoom$State;", Cond.classLink RX4 16 RX2, Cond.instantiable RX2 5, Cond.initialized RX2, Cond.classLink RX4 18 RX5, Cond.fieldLink RX4 24 "DurableLoom$Machine" "news" "LDurableLoom$History;", Cond.fieldLink RX4 28 "DurableLoom$Machine" "history" "LDurableLoom$History;", Cond.fieldLink RX4 31 "DurableLoom$Machine" "code" "LDurableLoom$Row;", Cond.fieldLink RX4 35 "DurableLoom$Machine" "way" "I", Cond.fieldLink RX4 39 "DurableLoom$Machine" "seenCounted" "I", Cond.fieldLink RX4 42 "DurableLoom$Machine" "seenEvents" "I", Cond.fieldLink RX4 45 "DurableLoom$Machine" "known" "LDurableLoom$Run;", Cond.fieldLink RX4 49 "DurableLoom$Machine" "taking" "I", Cond.fieldLink RX4 52 "DurableLoom$Machine" "steps" "I", Cond.fieldLink RX4 55 "DurableLoom$Machine" "stuck" "Z", Cond.fieldLink RX4 59 "DurableLoom$Machine" "difference" "I", Cond.methodLink RX4 9 yX8_init, Cond.instanceMethod yX8_init, Cond.code yX8_init cX8_init 2 none, Cond.methodLink RX8 3 objectInit, Cond.fieldLink RX8 9 "DurableLoom$State" "variables" "[I"]
def wsL_law0_r5 : List Cond := [Cond.classLink RX8 15 RX1, Cond.fieldLink RX8 17 "DurableLoom$State" "branches" "[LDurableLoom$Branch;", Cond.classLink RX8 21 RX5, Cond.fieldLink RX8 23 "DurableLoom$State" "queues" "[LDurableLoom$Row;", Cond.fieldLink RX8 28 "DurableLoom$State" "stacked" "LDurableLoom$Row;", Cond.fieldLink RX8 32 "DurableLoom$State" "compensations" "I", Cond.fieldLink RX8 36 "DurableLoom$State" "there" "I", Cond.fieldLink RX8 39 "DurableLoom$State" "begun" "I", Cond.fieldLink RX8 42 "DurableLoom$State" "patches" "I", Cond.fieldLink RX8 45 "DurableLoom$State" "cancelTaken" "Z", Cond.fieldLink RX8 49 "DurableLoom$State" "over" "I", Cond.fieldLink RX8 52 "DurableLoom$State" "taken" "I", Cond.fieldLink RX8 55 "DurableLoom$State" "arrivalAt" "I", Cond.fieldLink RX8 58 "DurableLoom$State" "commandAt" "I", Cond.fieldLink RX8 61 "DurableLoom$State" "taskAt" "I", Cond.instantiable RX1 11, Cond.initialized RX1, Cond.instanceMethod yX1_init, Cond.code yX1_init cX1_init 1 none, Cond.methodLink RX1 1 objectInit, Cond.fieldLink RX1 7 "DurableLoom$Branch" "number" "I", Cond.fieldLink RX1 13 "DurableLoom$Branch" "parent" "I", Cond.fieldLink RX1 16 "DurableLoom$Branch" "above" "I", Cond.fieldLink RX1 19 "DurableLoom$Branch" "rival" "I"]
def wsL_law0_r6 : List Cond := [Cond.fieldLink RX1 22 "DurableLoom$Branch" "line" "I", Cond.fieldLink RX1 25 "DurableLoom$Branch" "shields" "I", Cond.fieldLink RX1 28 "DurableLoom$Branch" "owed" "Z", Cond.fieldLink RX1 32 "DurableLoom$Branch" "waits" "I", Cond.fieldLink RX1 35 "DurableLoom$Branch" "waitsFor" "I", Cond.fieldLink RX1 38 "DurableLoom$Branch" "doomed" "Z", Cond.fieldLink RX1 41 "DurableLoom$Branch" "handlers" "I", Cond.methodLink RX4 21 yX2_init, Cond.instanceMethod yX2_init, Cond.code yX2_init cX2_init 2 none, Cond.methodLink RX2 3 objectInit, Cond.fieldLink RX2 9 "DurableLoom$History" "size" "I", Cond.fieldLink RX2 13 "DurableLoom$History" "arrivals" "I", Cond.fieldLink RX2 16 "DurableLoom$History" "tasks" "I", Cond.fieldLink RX2 19 "DurableLoom$History" "counted" "I", Cond.fieldLink RX2 22 "DurableLoom$History" "events" "LDurableLoom$Row;", Cond.instanceMethod yX10_init, Cond.code yX10_init cX10_init 1 none, Cond.methodLink RX10 1 objectInit, Cond.classLink RX10 7 RJx4a65c, Cond.fieldLink RX10 10 "DurableLoom$Type" "versions" "Ljava/util/ArrayList;", Cond.classLink RX10 16 RX5, Cond.fieldLink RX10 19 "DurableLoom$Type" "draft" "LDurableLoom$Row;", Cond.fieldLink RX10 23 "DurableLoom$Type" "policy" "I"]
def wsL_law0_r7 : List Cond := [Cond.methodLink RX10 9 yJx4a65c_init_da8c8, Cond.instanceMethod yX3_init, Cond.code yX3_init cX3_init 1 none, Cond.methodLink RX3 1 objectInit, Cond.fieldLink RX3 7 "DurableLoom$Kind" "attempts" "I", Cond.fieldLink RX3 13 "DurableLoom$Kind" "pause" "I", Cond.fieldLink RX3 16 "DurableLoom$Kind" "toBegin" "I", Cond.fieldLink RX3 19 "DurableLoom$Kind" "toEnd" "I", Cond.fieldLink RX3 22 "DurableLoom$Kind" "beats" "I", Cond.methodLink RL 136 yX12_init, Cond.instanceMethod yX12_init, Cond.code yX12_init cX12_init 2 none, Cond.methodLink RX12 1 objectInit, Cond.fieldLink RX12 7 "DurableLoomModel" "versions" "[I", Cond.fieldLink RX12 13 "DurableLoomModel" "size" "[I", Cond.fieldLink RX12 16 "DurableLoomModel" "command" "[I", Cond.fieldLink RX12 19 "DurableLoomModel" "numberA" "[I", Cond.fieldLink RX12 22 "DurableLoomModel" "numberB" "[I", Cond.fieldLink RX12 25 "DurableLoomModel" "attempts" "[I", Cond.fieldLink RX12 28 "DurableLoomModel" "pause" "[I", Cond.fieldLink RX12 31 "DurableLoomModel" "toBegin" "[I", Cond.fieldLink RX12 34 "DurableLoomModel" "toEnd" "[I", Cond.fieldLink RX12 37 "DurableLoomModel" "beats" "[I", Cond.fieldLink RX12 40 "DurableLoomModel" "policy" "[I"]
def wsL_law0_r8 : List Cond := [Cond.fieldLink RX12 43 "DurableLoomModel" "type" "[I", Cond.fieldLink RX12 46 "DurableLoomModel" "tenant" "[I", Cond.fieldLink RX12 49 "DurableLoomModel" "version" "[I", Cond.fieldLink RX12 52 "DurableLoomModel" "status" "[I", Cond.fieldLink RX12 55 "DurableLoomModel" "parent" "[I", Cond.fieldLink RX12 58 "DurableLoomModel" "parentEvent" "[I", Cond.fieldLink RX12 61 "DurableLoomModel" "events" "[I", Cond.fieldLink RX12 64 "DurableLoomModel" "sharedFrom" "[I", Cond.fieldLink RX12 67 "DurableLoomModel" "sharedTo" "[I", Cond.fieldLink RX12 70 "DurableLoomModel" "arrived" "[I", Cond.fieldLink RX12 73 "DurableLoomModel" "tasked" "[I", Cond.fieldLink RX12 76 "DurableLoomModel" "countedBy" "[I", Cond.fieldLink RX12 79 "DurableLoomModel" "copied" "[I", Cond.fieldLink RX12 82 "DurableLoomModel" "cuts" "[I", Cond.fieldLink RX12 85 "DurableLoomModel" "difference" "[I", Cond.constant RX12 88 (1310720), Cond.fieldLink RX12 89 "DurableLoomModel" "happened" "[J", Cond.fieldLink RX12 93 "DurableLoomModel" "orderRun" "I", Cond.constant RX12 97 (61440), Cond.fieldLink RX12 98 "DurableLoomModel" "piece" "[I", Cond.fieldLink RX12 101 "DurableLoomModel" "backs" "[I", Cond.fieldLink RX12 104 "DurableLoomModel" "ofRun" "[I", Cond.fieldLink RX12 107 "DurableLoomModel" "ofEvent" "[I", Cond.fieldLink RX12 110 "DurableLoomModel" "ofKind" "[I"]
def wsL_law0_r9 : List Cond := [Cond.fieldLink RX12 113 "DurableLoomModel" "input" "[I", Cond.fieldLink RX12 116 "DurableLoomModel" "state" "[I", Cond.fieldLink RX12 119 "DurableLoomModel" "tried" "[I", Cond.fieldLink RX12 122 "DurableLoomModel" "began" "[I", Cond.fieldLink RX12 125 "DurableLoomModel" "due" "[I", Cond.fieldLink RX12 128 "DurableLoomModel" "taken" "[I", Cond.fieldLink RX12 131 "DurableLoomModel" "beaten" "[I", Cond.fieldLink RX12 134 "DurableLoomModel" "progress" "[I", Cond.fieldLink RX12 137 "DurableLoomModel" "timerRun" "[I", Cond.fieldLink RX12 140 "DurableLoomModel" "timerEvent" "[I", Cond.fieldLink RX12 143 "DurableLoomModel" "timerDue" "[I", Cond.fieldLink RX12 146 "DurableLoomModel" "rate" "I", Cond.fieldLink RX12 149 "DurableLoomModel" "taskWorker" "[I", Cond.fieldLink RX12 152 "DurableLoomModel" "taskRun" "[I", Cond.fieldLink RX12 155 "DurableLoomModel" "taskKnows" "[I", Cond.fieldLink RX12 158 "DurableLoomModel" "taskGiven" "[I", Cond.fieldLink RX12 161 "DurableLoomModel" "taskHas" "[I", Cond.fieldLink RX12 164 "DurableLoomModel" "taskVersion" "[I", Cond.fieldLink RX12 167 "DurableLoomModel" "taskCuts" "[I", Cond.arrayClass .boolean, Cond.fieldLink RX12 170 "DurableLoomModel" "isOver" "[Z", Cond.fieldLink RX12 174 "DurableLoomModel" "givenNow" "[I", Cond.fieldLink RX12 177 "DurableLoomModel" "givenAll" "[I", Cond.fieldLink RX12 180 "DurableLoomModel" "replays" "[I"]
def wsL_law0_r10 : List Cond := [Cond.fieldLink RX12 183 "DurableLoomModel" "keepsTasks" "[I", Cond.fieldLink RX12 186 "DurableLoomModel" "keepsVersion" "[I", Cond.fieldLink RX12 189 "DurableLoomModel" "keepsCuts" "[I", Cond.fieldLink RX12 192 "DurableLoomModel" "keepsEvents" "[I", Cond.fieldLink RX12 195 "DurableLoomModel" "keepsCounted" "[I", Cond.fieldLink RX12 198 "DurableLoomModel" "scheduleType" "[I", Cond.fieldLink RX12 201 "DurableLoomModel" "scheduleTenant" "[I", Cond.fieldLink RX12 204 "DurableLoomModel" "period" "[I", Cond.fieldLink RX12 207 "DurableLoomModel" "overlap" "[I", Cond.fieldLink RX12 210 "DurableLoomModel" "looked" "[I", Cond.fieldLink RX12 213 "DurableLoomModel" "isPaused" "[Z", Cond.fieldLink RX12 216 "DurableLoomModel" "latest" "[I", Cond.fieldLink RX12 219 "DurableLoomModel" "isAwaited" "[Z", Cond.fieldLink RX12 222 "DurableLoomModel" "awaited" "[I", Cond.constant RX12 225 (1048576), Cond.fieldLink RX12 226 "DurableLoomModel" "tags" "[I", Cond.fieldLink RX12 229 "DurableLoomModel" "known" "[I", Cond.fieldLink RX12 232 "DurableLoomModel" "lostRun" "[I", Cond.fieldLink RX12 235 "DurableLoomModel" "lostName" "[I", Cond.fieldLink RX12 238 "DurableLoomModel" "lostValue" "[I", Cond.fieldLink RX12 241 "DurableLoomModel" "variable" "[I", Cond.fieldLink RX12 244 "DurableLoomModel" "number" "[I", Cond.fieldLink RX12 247 "DurableLoomModel" "line" "[I", Cond.fieldLink RX12 250 "DurableLoomModel" "waits" "[I"]
def wsL_law0_r11 : List Cond := [Cond.fieldLink RX12 253 "DurableLoomModel" "waitsFor" "[I", Cond.fieldLink RX12 256 "DurableLoomModel" "into" "[I", Cond.fieldLink RX12 259 "DurableLoomModel" "handler" "[I", Cond.fieldLink RX12 262 "DurableLoomModel" "rival" "[I", Cond.fieldLink RX12 265 "DurableLoomModel" "shields" "[I", Cond.fieldLink RX12 268 "DurableLoomModel" "isTold" "[Z", Cond.constant RX12 271 (196608), Cond.fieldLink RX12 272 "DurableLoomModel" "above" "[I", Cond.fieldLink RX12 275 "DurableLoomModel" "handlerRow" "[I", Cond.fieldLink RX12 278 "DurableLoomModel" "undoRow" "[I", Cond.fieldLink RX12 281 "DurableLoomModel" "queued" "[I", Cond.fieldLink RX12 284 "DurableLoomModel" "queueFrom" "[I", Cond.fieldLink RX12 287 "DurableLoomModel" "queue" "[I", Cond.constant RX12 290 (65536), Cond.fieldLink RX12 291 "DurableLoomModel" "freshKind" "[I", Cond.fieldLink RX12 294 "DurableLoomModel" "freshX" "[I", Cond.fieldLink RX12 297 "DurableLoomModel" "closing" "[I", Cond.fieldLink RX12 300 "DurableLoomModel" "closingNext" "[I", Cond.methodLink RL 137 yL_line, Cond.static yL_line, Cond.initialized RL, Cond.codeWith yL_line cL_line 7 (some .int) [(0, 14, 17, 13), (0, 14, 21, 15), (0, 14, 25, 17)], Cond.classLink RL 13 "java/lang/IndexOutOfBoundsException", Cond.methodLink RL 7 yX11_line]
def wsL_law0_r12 : List Cond := [Cond.instanceMethod yX11_line, Cond.selects RX11 yX11_line yX11_line, Cond.code yX11_line cX11_line 7 (some .int), Cond.classLink RX11 96 "java/lang/IllegalArgumentException", Cond.initialized "java/lang/IllegalArgumentException", Cond.classLink RX11 111 "java/lang/IllegalStateException", Cond.initialized "java/lang/IllegalStateException", Cond.fieldLink RX11 90 "DurableLoom" "TOP_A" "[I", Cond.fieldLink RX11 93 "DurableLoom" "TOP_B" "[I", Cond.fieldLink RX11 105 "DurableLoom$Type" "draft" "LDurableLoom$Row;", Cond.fieldLink RX11 108 "DurableLoom$Row" "size" "I", Cond.methodLink RX11 86 yX11_typeAt, Cond.instanceMethod yX11_typeAt, Cond.selects RX11 yX11_typeAt yX11_typeAt, Cond.code yX11_typeAt cX11_typeAt 2 (some (.object "DurableLoom$Type")), Cond.classLink RX11 255 "java/lang/IndexOutOfBoundsException", Cond.initialized "java/lang/IndexOutOfBoundsException", Cond.methodLink RX11 116 yX10_packed, Cond.static yX10_packed, Cond.code yX10_packed cX10_packed 3 (some .int), Cond.constant RX10 27 (1000000), Cond.methodLink RX11 120 yX5_add, Cond.instanceMethod yX5_add, Cond.selects RX5 yX5_add yX5_add]
def wsL_law0_r13 : List Cond := [Cond.code yX5_add cX5_add 7 none, Cond.methodLink RL 142 yX12_line, Cond.instanceMethod yX12_line, Cond.selects RX12 yX12_line yX12_line, Cond.code yX12_line cX12_line 9 (some .int), Cond.methodLink RX12 313 yX12_isType, Cond.static yX12_isType, Cond.code yX12_isType cX12_isType 1 (some .boolean), Cond.methodLink RX12 306 yX12_isIn, Cond.static yX12_isIn, Cond.code yX12_isIn cX12_isIn 3 (some .boolean), Cond.methodLink RX12 317 yX12_mostA, Cond.static yX12_mostA, Cond.code yX12_mostA cX12_mostA 1 (some .int), Cond.methodLink RX12 321 yX12_mostB, Cond.static yX12_mostB, Cond.code yX12_mostB cX12_mostB 1 (some .int), Cond.methodLink RX12 324 yX12_fails, Cond.instanceMethod yX12_fails, Cond.selects RX12 yX12_fails yX12_fails, Cond.code yX12_fails cX12_fails 2 (some .boolean), Cond.fieldLink RX12 303 "DurableLoomModel" "thrown" "I", Cond.methodLink RX12 327 yX12_code, Cond.static yX12_code]
def wsL_law0_r14 : List Cond := [Cond.code yX12_code cX12_code 2 (some .int), Cond.methodLink RL 143 yX12_thrown, Cond.instanceMethod yX12_thrown, Cond.selects RX12 yX12_thrown yX12_thrown, Cond.code yX12_thrown cX12_thrown 1 (some .int), Cond.methodLink RL 146 yL_deploy, Cond.static yL_deploy, Cond.codeWith yL_deploy cL_deploy 4 (some .int) [(0, 9, 12, 13), (0, 9, 15, 17)], Cond.methodLink RL 19 yX11_deploy, Cond.instanceMethod yX11_deploy, Cond.selects RX11 yX11_deploy yX11_deploy, Cond.code yX11_deploy cX11_deploy 3 (some .int), Cond.fieldLink RX11 124 "DurableLoom$Type" "versions" "Ljava/util/ArrayList;", Cond.methodLink RX11 127 yJx4a65c_size_8abf5, Cond.instanceMethod yJx4a65c_size_8abf5, Cond.selects RJx4a65c yJx4a65c_size_8abf5 yJx4a65c_size_8abf5, Cond.code yJx4a65c_size_8abf5 cJx4a65c_size_8abf5 1 (some .int), Cond.fieldLink RJx4a65c 48 "java/util/ArrayList" "size" "I", Cond.methodLink RX11 132 yX10_draftBecomesVersion, Cond.instanceMethod yX10_draftBecomesVersion, Cond.selects RX10 yX10_draftBecomesVersion yX10_draftBecomesVersion, Cond.code yX10_draftBecomesVersion cX10_draftBecomesVersion 1 none, Cond.methodLink RX10 36 yJx4a65c_add_9ea2d, Cond.instanceMethod yJx4a65c_add_9ea2d]
def wsL_law0_r15 : List Cond := [Cond.selects RJx4a65c yJx4a65c_add_9ea2d yJx4a65c_add_9ea2d, Cond.code yJx4a65c_add_9ea2d cJx4a65c_add_9ea2d 2 (some .boolean), Cond.fieldLink RJx4a65c 63 "java/util/ArrayList" "modCount" "I", Cond.sameField "java/util/ArrayList" "java/util/AbstractList" "modCount" "I", Cond.methodLink RJx4a65c 131 yJx4a65c_add_72be8, Cond.instanceMethod yJx4a65c_add_72be8, Cond.selects RJx4a65c yJx4a65c_add_72be8 yJx4a65c_add_72be8, Cond.code yJx4a65c_add_72be8 cJx4a65c_add_72be8 4 none, Cond.methodLink RJx4a65c 129 yJx4a65c_grow_d5877, Cond.instanceMethod yJx4a65c_grow_d5877, Cond.selects RJx4a65c yJx4a65c_grow_d5877 yJx4a65c_grow_d5877, Cond.code yJx4a65c_grow_d5877 cJx4a65c_grow_d5877 1 (some (.array (.object "java/lang/Object"))), Cond.methodLink RJx4a65c 69 yJx4a65c_grow_92f84, Cond.instanceMethod yJx4a65c_grow_92f84, Cond.selects RJx4a65c yJx4a65c_grow_92f84 yJx4a65c_grow_92f84, Cond.code yJx4a65c_grow_92f84 cJx4a65c_grow_92f84 4 (some (.array (.object "java/lang/Object"))), Cond.methodLink RJx4a65c 79 Lib.Math.max.name, Cond.static Lib.Math.max.name, Cond.initialized "java/lang/Math", Cond.code Lib.Math.max.name Lib.Math.max.code 2 (some .int), Cond.classLink RJx4a65c 7 "java/lang/Object", Cond.methodLink RJx4a65c 73 yJ8_newLength_cabcc, Cond.static yJ8_newLength_cabcc, Cond.initialized RJ8]
def wsL_law0_r16 : List Cond := [Cond.code yJ8_newLength_cabcc cJ8_newLength_cabcc 4 (some .int), Cond.methodLink RJ8 194 Lib.Math.max.name, Cond.constant RJ8 200 (2147483639), Cond.methodLink RJ8 201 yJ8_hugeLength_7cf53, Cond.static yJ8_hugeLength_7cf53, Cond.code yJ8_hugeLength_7cf53 cJ8_hugeLength_7cf53 3 (some .int), Cond.methodLink RJx4a65c 66 yJ7_copyOf_1904c, Cond.static yJ7_copyOf_1904c, Cond.initialized RJ7, Cond.code yJ7_copyOf_1904c cJ7_copyOf_1904c 2 (some (.array (.object "java/lang/Object"))), Cond.methodLink RJ7 86 ⟨"java/lang/Object", "getClass", "()Ljava/lang/Class;"⟩, Cond.selects "[Ljava/lang/Object;" ⟨"java/lang/Object", "getClass", "()Ljava/lang/Class;"⟩ ⟨"java/lang/Object", "getClass", "()Ljava/lang/Class;"⟩, Cond.instanceMethod ⟨"java/lang/Object", "getClass", "()Ljava/lang/Class;"⟩, Cond.native ⟨"java/lang/Object", "getClass", "()Ljava/lang/Class;"⟩, Cond.methodLink RJ7 300 yJ7_copyOf_6403c, Cond.static yJ7_copyOf_6403c, Cond.code yJ7_copyOf_6403c cJ7_copyOf_6403c 4 (some (.array (.object "java/lang/Object"))), Cond.classLink RJ7 110 "[Ljava/lang/Object;", Cond.classLink RJ7 2 "java/lang/Object", Cond.methodLink RJ7 304 Lib.Math.min.name, Cond.static Lib.Math.min.name, Cond.code Lib.Math.min.name Lib.Math.min.code 2 (some .int), Cond.methodLink RJ7 150 arraycopyName, Cond.native arraycopyName]
def wsL_law0_r17 : List Cond := [Cond.static arraycopyName, Cond.initialized "java/lang/System", Cond.methodLink RL 149 yX12_deploy, Cond.instanceMethod yX12_deploy, Cond.selects RX12 yX12_deploy yX12_deploy, Cond.code yX12_deploy cX12_deploy 6 (some .int), Cond.methodLink RL 150 yL_setKind, Cond.static yL_setKind, Cond.codeWith yL_setKind cL_setKind 8 (some .int) [(0, 13, 16, 13), (0, 13, 20, 15)], Cond.methodLink RL 23 yX11_setKind, Cond.instanceMethod yX11_setKind, Cond.selects RX11 yX11_setKind yX11_setKind, Cond.code yX11_setKind cX11_setKind 8 none, Cond.fieldLink RX11 143 "DurableLoom$Kind" "attempts" "I", Cond.fieldLink RX11 146 "DurableLoom$Kind" "pause" "I", Cond.fieldLink RX11 149 "DurableLoom$Kind" "toBegin" "I", Cond.fieldLink RX11 152 "DurableLoom$Kind" "toEnd" "I", Cond.fieldLink RX11 155 "DurableLoom$Kind" "beats" "I", Cond.methodLink RX11 135 yX11_kindAt, Cond.instanceMethod yX11_kindAt, Cond.selects RX11 yX11_kindAt yX11_kindAt, Cond.code yX11_kindAt cX11_kindAt 2 (some (.object "DurableLoom$Kind")), Cond.methodLink RL 153 yX12_setKind, Cond.instanceMethod yX12_setKind]
def wsL_law0_r18 : List Cond := [Cond.selects RX12 yX12_setKind yX12_setKind, Cond.code yX12_setKind cX12_setKind 9 none, Cond.methodLink RL 154 yL_setPolicy, Cond.static yL_setPolicy, Cond.codeWith yL_setPolicy cL_setPolicy 5 (some .int) [(0, 10, 13, 13), (0, 10, 17, 15)], Cond.methodLink RL 27 yX11_setPolicy, Cond.instanceMethod yX11_setPolicy, Cond.selects RX11 yX11_setPolicy yX11_setPolicy, Cond.code yX11_setPolicy cX11_setPolicy 5 (some .int), Cond.fieldLink RX11 160 "DurableLoom$Type" "policy" "I", Cond.methodLink RL 157 yX12_setPolicy, Cond.instanceMethod yX12_setPolicy, Cond.selects RX12 yX12_setPolicy yX12_setPolicy, Cond.code yX12_setPolicy cX12_setPolicy 4 (some .int), Cond.methodLink RL 158 yL_begin, Cond.static yL_begin, Cond.codeWith yL_begin cL_begin 6 (some .int) [(0, 12, 15, 13), (0, 12, 19, 15), (0, 12, 23, 17)], Cond.methodLink RL 31 yX11_begin, Cond.instanceMethod yX11_begin, Cond.selects RX11 yX11_begin yX11_begin, Cond.code yX11_begin cX11_begin 5 (some .int), Cond.fieldLink RX11 180 "DurableLoom$Run" "number" "I", Cond.methodLink RX11 163 yX11_checkTenant, Cond.instanceMethod yX11_checkTenant]
def wsL_law0_r19 : List Cond := [Cond.selects RX11 yX11_checkTenant yX11_checkTenant, Cond.code yX11_checkTenant cX11_checkTenant 2 none, Cond.methodLink RX11 167 yX11_checkValue, Cond.instanceMethod yX11_checkValue, Cond.selects RX11 yX11_checkValue yX11_checkValue, Cond.code yX11_checkValue cX11_checkValue 2 none, Cond.methodLink RX11 170 yJx4a65c_isEmpty_aae02, Cond.instanceMethod yJx4a65c_isEmpty_aae02, Cond.selects RJx4a65c yJx4a65c_isEmpty_aae02 yJx4a65c_isEmpty_aae02, Cond.code yJx4a65c_isEmpty_aae02 cJx4a65c_isEmpty_aae02 1 (some .boolean), Cond.methodLink RX11 176 yX11_startRun, Cond.instanceMethod yX11_startRun, Cond.selects RX11 yX11_startRun yX11_startRun, Cond.code yX11_startRun cX11_startRun 8 (some (.object "DurableLoom$Run")), Cond.methodLink RX11 496 yJ9_floorMod_7cf53, Cond.static yJ9_floorMod_7cf53, Cond.initialized RJ9, Cond.code yJ9_floorMod_7cf53 cJ9_floorMod_7cf53 3 (some .int), Cond.methodLink RX11 420 yX11_addRun, Cond.instanceMethod yX11_addRun, Cond.selects RX11 yX11_addRun yX11_addRun, Cond.code yX11_addRun cX11_addRun 7 (some (.object "DurableLoom$Run")), Cond.classLink RX11 181 RX6, Cond.instantiable RX6 20]
def wsL_law0_r20 : List Cond := [Cond.initialized RX6, Cond.methodLink RX11 534 yX6_init, Cond.instanceMethod yX6_init, Cond.code yX6_init cX6_init 7 none, Cond.methodLink RX6 3 objectInit, Cond.fieldLink RX6 9 "DurableLoom$Run" "status" "I", Cond.fieldLink RX6 15 "DurableLoom$Run" "difference" "I", Cond.fieldLink RX6 18 "DurableLoom$Run" "copied" "I", Cond.fieldLink RX6 21 "DurableLoom$Run" "cuts" "I", Cond.fieldLink RX6 24 "DurableLoom$Run" "lastTask" "I", Cond.fieldLink RX6 27 "DurableLoom$Run" "tag" "I", Cond.fieldLink RX6 30 "DurableLoom$Run" "keeper" "I", Cond.fieldLink RX6 33 "DurableLoom$Run" "keptMark" "I", Cond.fieldLink RX6 36 "DurableLoom$Run" "seenCounted" "I", Cond.fieldLink RX6 39 "DurableLoom$Run" "seenEvents" "I", Cond.classLink RX6 42 RX2, Cond.classLink RX6 44 RX5, Cond.fieldLink RX6 50 "DurableLoom$Run" "history" "LDurableLoom$History;", Cond.fieldLink RX6 54 "DurableLoom$Run" "timers" "LDurableLoom$Row;", Cond.fieldLink RX6 58 "DurableLoom$Run" "dues" "LDurableLoom$Row;", Cond.fieldLink RX6 61 "DurableLoom$Run" "lost" "LDurableLoom$Row;", Cond.fieldLink RX6 64 "DurableLoom$Run" "number" "I", Cond.fieldLink RX6 67 "DurableLoom$Run" "type" "I", Cond.fieldLink RX6 70 "DurableLoom$Run" "tenant" "I"]
def wsL_law0_r21 : List Cond := [Cond.fieldLink RX6 73 "DurableLoom$Run" "version" "I", Cond.fieldLink RX6 76 "DurableLoom$Run" "parent" "I", Cond.fieldLink RX6 79 "DurableLoom$Run" "parentEvent" "I", Cond.methodLink RX6 47 yX2_init, Cond.methodLink RX11 300 yJx4a65c_add_9ea2d, Cond.methodLink RX11 204 yX11_arrive, Cond.instanceMethod yX11_arrive, Cond.selects RX11 yX11_arrive yX11_arrive, Cond.code yX11_arrive cX11_arrive 5 none, Cond.fieldLink RX11 195 "DurableLoom$Run" "history" "LDurableLoom$History;", Cond.methodLink RX11 537 yX2_put, Cond.instanceMethod yX2_put, Cond.selects RX2 yX2_put yX2_put, Cond.code yX2_put cX2_put 7 none, Cond.constant RX2 34 (1048575), Cond.constant RX2 32 (524287), Cond.constant RX2 33 (1073741823), Cond.fieldLink RX2 39 "DurableLoom$Row" "size" "I", Cond.methodLink RX2 35 yX5_add, Cond.methodLink RL 161 yX12_begin, Cond.instanceMethod yX12_begin, Cond.selects RX12 yX12_begin yX12_begin, Cond.code yX12_begin cX12_begin 5 (some .int), Cond.fieldLink RX12 310 "DurableLoomModel" "runs" "I"]
def wsL_law0_r22 : List Cond := [Cond.methodLink RX12 570 yX12_isTenant, Cond.static yX12_isTenant, Cond.code yX12_isTenant cX12_isTenant 1 (some .boolean), Cond.methodLink RX12 573 yX12_isValue, Cond.static yX12_isValue, Cond.code yX12_isValue cX12_isValue 1 (some .boolean), Cond.methodLink RX12 576 yX12_makes, Cond.instanceMethod yX12_makes, Cond.selects RX12 yX12_makes yX12_makes, Cond.code yX12_makes cX12_makes 8 (some .int), Cond.methodLink RX12 360 yX12_puts, Cond.instanceMethod yX12_puts, Cond.selects RX12 yX12_puts yX12_puts, Cond.code yX12_puts cX12_puts 7 (some .int), Cond.fieldLink RX12 351 "DurableLoomModel" "pieces" "I", Cond.fieldLink RX12 354 "DurableLoomModel" "orders" "I", Cond.fieldLink RX12 357 "DurableLoomModel" "time" "I", Cond.methodLink RX12 331 yX12_at, Cond.instanceMethod yX12_at, Cond.selects RX12 yX12_at yX12_at, Cond.code yX12_at cX12_at 5 (some .int), Cond.methodLink RX12 347 yX12_counts, Cond.instanceMethod yX12_counts, Cond.selects RX12 yX12_counts yX12_counts]
def wsL_law0_r23 : List Cond := [Cond.code yX12_counts cX12_counts 4 none, Cond.methodLink RX12 338 yX12_most, Cond.static yX12_most, Cond.code yX12_most cX12_most 2 (some .int), Cond.methodLink RL 162 yL_signal, Cond.static yL_signal, Cond.codeWith yL_signal cL_signal 6 (some .int) [(0, 12, 15, 13), (0, 12, 19, 15), (0, 12, 23, 17)], Cond.methodLink RL 35 yX11_signal, Cond.instanceMethod yX11_signal, Cond.selects RX11 yX11_signal yX11_signal, Cond.code yX11_signal cX11_signal 5 (some .int), Cond.fieldLink RX11 199 "DurableLoom$History" "size" "I", Cond.methodLink RX11 185 yX11_runAt, Cond.instanceMethod yX11_runAt, Cond.selects RX11 yX11_runAt yX11_runAt, Cond.code yX11_runAt cX11_runAt 2 (some (.object "DurableLoom$Run")), Cond.classLink RX11 181 "DurableLoom$Run", Cond.methodLink RX11 305 yJx4a65c_get_915e3, Cond.instanceMethod yJx4a65c_get_915e3, Cond.selects RJx4a65c yJx4a65c_get_915e3 yJx4a65c_get_915e3, Cond.code yJx4a65c_get_915e3 cJx4a65c_get_915e3 2 (some (.object "java/lang/Object")), Cond.methodLink RJx4a65c 118 yJ15_checkIndex_7cf53, Cond.static yJ15_checkIndex_7cf53, Cond.initialized RJ15]
def wsL_law0_r24 : List Cond := [Cond.code yJ15_checkIndex_7cf53 cJ15_checkIndex_7cf53 2 (some .int), Cond.methodLink RJ15 105 yJ3_checkIndex_8e157, Cond.static yJ3_checkIndex_8e157, Cond.initialized RJ3, Cond.code yJ3_checkIndex_8e157 cJ3_checkIndex_8e157 3 (some .int), Cond.methodLink RJx4a65c 123 yJx4a65c_elementData_915e3, Cond.instanceMethod yJx4a65c_elementData_915e3, Cond.selects RJx4a65c yJx4a65c_elementData_915e3 yJx4a65c_elementData_915e3, Cond.code yJx4a65c_elementData_915e3 cJx4a65c_elementData_915e3 2 (some (.object "java/lang/Object")), Cond.methodLink RX11 189 yX11_checkName, Cond.instanceMethod yX11_checkName, Cond.selects RX11 yX11_checkName yX11_checkName, Cond.code yX11_checkName cX11_checkName 2 none, Cond.methodLink RX11 192 yX6_isAlive, Cond.instanceMethod yX6_isAlive, Cond.selects RX6 yX6_isAlive yX6_isAlive, Cond.code yX6_isAlive cX6_isAlive 1 (some .boolean), Cond.methodLink RL 164 yX12_signal, Cond.instanceMethod yX12_signal, Cond.selects RX12 yX12_signal yX12_signal, Cond.code yX12_signal cX12_signal 5 (some .int), Cond.methodLink RX12 580 yX12_isRun, Cond.instanceMethod yX12_isRun, Cond.selects RX12 yX12_isRun yX12_isRun]
def wsL_law0_r25 : List Cond := [Cond.code yX12_isRun cX12_isRun 2 (some .boolean), Cond.methodLink RX12 583 yX12_isName, Cond.static yX12_isName, Cond.code yX12_isName cX12_isName 1 (some .boolean), Cond.methodLink RX12 561 yX12_isAlive, Cond.instanceMethod yX12_isAlive, Cond.selects RX12 yX12_isAlive yX12_isAlive, Cond.code yX12_isAlive cX12_isAlive 2 (some .boolean), Cond.methodLink RL 165 yL_update, Cond.static yL_update, Cond.codeWith yL_update cL_update 6 (some .int) [(0, 19, 22, 13), (0, 19, 26, 15), (0, 19, 30, 17)], Cond.methodLink RL 38 yX11_update, Cond.instanceMethod yX11_update, Cond.selects RX11 yX11_update yX11_update, Cond.code yX11_update cX11_update 6 (some .boolean), Cond.fieldLink RX11 208 "DurableLoom$Run" "status" "I", Cond.fieldLink RX11 213 "DurableLoom$Run" "version" "I", Cond.fieldLink RX11 220 "DurableLoom$History" "counted" "I", Cond.fieldLink RX11 231 "DurableLoom$Machine" "state" "LDurableLoom$State;", Cond.methodLink RX11 216 yX11_codeOf, Cond.instanceMethod yX11_codeOf, Cond.selects RX11 yX11_codeOf yX11_codeOf, Cond.code yX11_codeOf cX11_codeOf 3 (some (.object "DurableLoom$Row")), Cond.methodLink RX11 526 yX11_typeOf]
def wsL_law0_r26 : List Cond := [Cond.instanceMethod yX11_typeOf, Cond.selects RX11 yX11_typeOf yX11_typeOf, Cond.code yX11_typeOf cX11_typeOf 2 (some (.object "DurableLoom$Type")), Cond.fieldLink RX11 404 "DurableLoom$Run" "type" "I", Cond.methodLink RX11 530 yX10_code, Cond.instanceMethod yX10_code, Cond.selects RX10 yX10_code yX10_code, Cond.code yX10_code cX10_code 2 (some (.object "DurableLoom$Row")), Cond.classLink RX10 16 "DurableLoom$Row", Cond.methodLink RX10 28 yJx4a65c_size_8abf5, Cond.methodLink RX10 32 yJx4a65c_get_915e3, Cond.methodLink RX11 223 yX4_follow, Cond.instanceMethod yX4_follow, Cond.selects RX4 yX4_follow yX4_follow, Cond.code yX4_follow cX4_follow 6 (some .boolean), Cond.fieldLink RX4 66 "DurableLoom$State" "taken" "I", Cond.fieldLink RX4 73 "DurableLoom$State" "arrivalAt" "I", Cond.fieldLink RX4 80 "DurableLoom$History" "size" "I", Cond.methodLink RX4 62 yX4_load, Cond.instanceMethod yX4_load, Cond.selects RX4 yX4_load yX4_load, Cond.code yX4_load cX4_load 4 none, Cond.fieldLink RX4 102 "DurableLoom$Run" "history" "LDurableLoom$History;", Cond.fieldLink RX4 105 "DurableLoom$Run" "seenCounted" "I"]
def wsL_law0_r27 : List Cond := [Cond.fieldLink RX4 106 "DurableLoom$Run" "seenEvents" "I", Cond.methodLink RX4 107 yX8_clear, Cond.instanceMethod yX8_clear, Cond.selects RX8 yX8_clear yX8_clear, Cond.code yX8_clear cX8_clear 2 none, Cond.methodLink RX8 65 yJ7_fill_53178, Cond.static yJ7_fill_53178, Cond.code yJ7_fill_53178 cJ7_fill_53178 4 none, Cond.methodLink RX8 71 yX5_cut, Cond.instanceMethod yX5_cut, Cond.selects RX5 yX5_cut yX5_cut, Cond.code yX5_cut cX5_cut 5 none, Cond.methodLink RX5 30 Lib.Math.max.name, Cond.methodLink RX5 36 Lib.Math.min.name, Cond.methodLink RX5 39 yJ7_copyOf_c38d5, Cond.static yJ7_copyOf_c38d5, Cond.code yJ7_copyOf_c38d5 cJ7_copyOf_c38d5 3 (some (.array .long)), Cond.methodLink RJ7 319 ⟨"[J", "clone", "()Ljava/lang/Object;"⟩, Cond.sameMethod "[J" "java/lang/Object" "clone" "()Ljava/lang/Object;", Cond.native ⟨"java/lang/Object", "clone", "()Ljava/lang/Object;"⟩, Cond.instanceMethod ⟨"java/lang/Object", "clone", "()Ljava/lang/Object;"⟩, Cond.selects "[J" ⟨"[J", "clone", "()Ljava/lang/Object;"⟩ ⟨"java/lang/Object", "clone", "()Ljava/lang/Object;"⟩, Cond.classLink RJ7 320 "[J", Cond.methodLink RX4 110 yX2_cut]
def wsL_law0_r28 : List Cond := [Cond.instanceMethod yX2_cut, Cond.selects RX2 yX2_cut yX2_cut, Cond.code yX2_cut cX2_cut 2 none, Cond.methodLink RX2 40 yX5_cut, Cond.methodLink RX2 44 yX2_countAgain, Cond.instanceMethod yX2_countAgain, Cond.selects RX2 yX2_countAgain yX2_countAgain, Cond.code yX2_countAgain cX2_countAgain 3 none, Cond.methodLink RX2 51 yX2_kind, Cond.instanceMethod yX2_kind, Cond.selects RX2 yX2_kind yX2_kind, Cond.code yX2_kind cX2_kind 2 (some .int), Cond.methodLink RX2 26 yX5_wide, Cond.instanceMethod yX5_wide, Cond.selects RX5 yX5_wide yX5_wide, Cond.code yX5_wide cX5_wide 4 (some .long), Cond.methodLink RX2 55 yX2_x, Cond.instanceMethod yX2_x, Cond.selects RX2 yX2_x yX2_x, Cond.code yX2_x cX2_x 2 (some .int), Cond.methodLink RX4 69 yX4_goes, Cond.instanceMethod yX4_goes, Cond.selects RX4 yX4_goes yX4_goes, Cond.code yX4_goes cX4_goes 1 (some .boolean)]
def wsL_law0_r29 : List Cond := [Cond.fieldLink RX4 120 "DurableLoom$State" "over" "I", Cond.methodLink RX4 76 yX2_nextArrival, Cond.instanceMethod yX2_nextArrival, Cond.selects RX2 yX2_nextArrival yX2_nextArrival, Cond.code yX2_nextArrival cX2_nextArrival 3 (some .int), Cond.methodLink RX2 58 Lib.Math.max.name, Cond.constantLong RX2 64 (7), Cond.methodLink RX4 83 yX2_kind, Cond.methodLink RX4 86 yX2_x, Cond.methodLink RX4 89 yX2_y, Cond.instanceMethod yX2_y, Cond.selects RX2 yX2_y yX2_y, Cond.code yX2_y cX2_y 2 (some .int), Cond.methodLink RX4 92 yX4_note, Cond.instanceMethod yX4_note, Cond.selects RX4 yX4_note yX4_note, Cond.code yX4_note cX4_note 4 none, Cond.fieldLink RX4 145 "DurableLoom$State" "cancelTaken" "Z", Cond.methodLink RX4 129 yX8_set, Cond.instanceMethod yX8_set, Cond.selects RX8 yX8_set yX8_set, Cond.code yX8_set cX8_set 3 none, Cond.methodLink RX4 133 yX8_beginBranch, Cond.instanceMethod yX8_beginBranch]
def wsL_law0_r30 : List Cond := [Cond.selects RX8 yX8_beginBranch yX8_beginBranch, Cond.code yX8_beginBranch cX8_beginBranch 4 (some .int), Cond.methodLink RX8 97 yX1_start, Cond.instanceMethod yX1_start, Cond.selects RX1 yX1_start yX1_start, Cond.code yX1_start cX1_start 4 none, Cond.methodLink RX4 137 yX8_queue, Cond.instanceMethod yX8_queue, Cond.selects RX8 yX8_queue yX8_queue, Cond.code yX8_queue cX8_queue 2 (some (.object "DurableLoom$Row")), Cond.methodLink RX8 88 yJ9_floorMod_7cf53, Cond.methodLink RX4 141 yX5_add, Cond.methodLink RX4 148 yX4_tellCancel, Cond.instanceMethod yX4_tellCancel, Cond.selects RX4 yX4_tellCancel yX4_tellCancel, Cond.code yX4_tellCancel cX4_tellCancel 3 none, Cond.fieldLink RX4 180 "DurableLoom$State" "there" "I", Cond.fieldLink RX4 186 "DurableLoom$Branch" "shields" "I", Cond.fieldLink RX4 189 "DurableLoom$Branch" "owed" "Z", Cond.fieldLink RX4 195 "DurableLoom$Branch" "waitsFor" "I", Cond.methodLink RX4 183 yX8_branchAt, Cond.instanceMethod yX8_branchAt, Cond.selects RX8 yX8_branchAt yX8_branchAt, Cond.code yX8_branchAt cX8_branchAt 2 (some (.object "DurableLoom$Branch"))]
def wsL_law0_r31 : List Cond := [Cond.methodLink RX4 192 yX1_waitsForEvent, Cond.instanceMethod yX1_waitsForEvent, Cond.selects RX1 yX1_waitsForEvent yX1_waitsForEvent, Cond.code yX1_waitsForEvent cX1_waitsForEvent 1 (some .boolean), Cond.methodLink RX4 198 yX4_command, Cond.instanceMethod yX4_command, Cond.selects RX4 yX4_command yX4_command, Cond.code yX4_command cX4_command 5 (some .int), Cond.fieldLink RX4 114 "DurableLoom$State" "commandAt" "I", Cond.fieldLink RX4 228 "DurableLoom$History" "counted" "I", Cond.methodLink RX4 123 yX2_nextCommand, Cond.instanceMethod yX2_nextCommand, Cond.selects RX2 yX2_nextCommand yX2_nextCommand, Cond.code yX2_nextCommand cX2_nextCommand 3 (some .int), Cond.constantLong RX2 66 (17), Cond.methodLink RX4 220 yX4_seen, Cond.instanceMethod yX4_seen, Cond.selects RX4 yX4_seen yX4_seen, Cond.code yX4_seen cX4_seen 1 (some .int), Cond.methodLink RX4 224 yX2_is, Cond.instanceMethod yX2_is, Cond.selects RX2 yX2_is yX2_is, Cond.code yX2_is cX2_is 7 (some .boolean), Cond.methodLink RX4 126 yX4_getStuck]
def wsL_law0_r32 : List Cond := [Cond.instanceMethod yX4_getStuck, Cond.selects RX4 yX4_getStuck yX4_getStuck, Cond.code yX4_getStuck cX4_getStuck 2 none, Cond.methodLink RX4 231 yX2_taskBeyond, Cond.instanceMethod yX2_taskBeyond, Cond.selects RX2 yX2_taskBeyond yX2_taskBeyond, Cond.code yX2_taskBeyond cX2_taskBeyond 3 (some .int), Cond.methodLink RX4 234 yX2_put, Cond.methodLink RX4 177 yX4_failBranch, Cond.instanceMethod yX4_failBranch, Cond.selects RX4 yX4_failBranch yX4_failBranch, Cond.code yX4_failBranch cX4_failBranch 2 none, Cond.fieldLink RX4 168 "DurableLoom$Branch" "line" "I", Cond.fieldLink RX4 202 "DurableLoom$Branch" "handlers" "I", Cond.methodLink RX4 171 yX1_goOnAt, Cond.instanceMethod yX1_goOnAt, Cond.selects RX1 yX1_goOnAt yX1_goOnAt, Cond.code yX1_goOnAt cX1_goOnAt 2 none, Cond.methodLink RX4 205 yX8_top, Cond.instanceMethod yX8_top, Cond.selects RX8 yX8_top yX8_top, Cond.code yX8_top cX8_top 2 (some .int), Cond.constantLong RX8 75 (10000), Cond.methodLink RX8 84 yX5_wide]
def wsL_law0_r33 : List Cond := [Cond.methodLink RX4 208 yX8_popped, Cond.instanceMethod yX8_popped, Cond.selects RX8 yX8_popped yX8_popped, Cond.code yX8_popped cX8_popped 2 (some .int), Cond.methodLink RX4 151 yX8_waiterFor, Cond.instanceMethod yX8_waiterFor, Cond.selects RX8 yX8_waiterFor yX8_waiterFor, Cond.code yX8_waiterFor cX8_waiterFor 3 (some (.object "DurableLoom$Branch")), Cond.fieldLink RX8 111 "DurableLoom$Branch" "waitsFor" "I", Cond.methodLink RX8 125 yX1_waitsForEvent, Cond.methodLink RX4 155 yX4_noteFailure, Cond.instanceMethod yX4_noteFailure, Cond.selects RX4 yX4_noteFailure yX4_noteFailure, Cond.code yX4_noteFailure cX4_noteFailure 2 none, Cond.fieldLink RX4 163 "DurableLoom$Branch" "waits" "I", Cond.methodLink RX4 159 yX4_noteEnd, Cond.instanceMethod yX4_noteEnd, Cond.selects RX4 yX4_noteEnd yX4_noteEnd, Cond.code yX4_noteEnd cX4_noteEnd 4 none, Cond.methodLink RX4 174 yX5_at, Cond.instanceMethod yX5_at, Cond.selects RX5 yX5_at yX5_at, Cond.code yX5_at cX5_at 2 (some .int), Cond.methodLink RX5 22 yX5_wide]
def wsL_law0_r34 : List Cond := [Cond.methodLink RX4 96 yX4_goOn, Cond.instanceMethod yX4_goOn, Cond.selects RX4 yX4_goOn yX4_goOn, Cond.code yX4_goOn cX4_goOn 5 none, Cond.fieldLink RX4 245 "DurableLoom$Row" "size" "I", Cond.constant RX4 249 (1000000), Cond.methodLink RX4 238 yX8_firstAble, Cond.instanceMethod yX8_firstAble, Cond.selects RX8 yX8_firstAble yX8_firstAble, Cond.code yX8_firstAble cX8_firstAble 2 (some (.object "DurableLoom$Branch")), Cond.methodLink RX8 104 yX8_isAble, Cond.instanceMethod yX8_isAble, Cond.selects RX8 yX8_isAble yX8_isAble, Cond.code yX8_isAble cX8_isAble 2 (some .boolean), Cond.fieldLink RX8 108 "DurableLoom$Branch" "waits" "I", Cond.fieldLink RX8 81 "DurableLoom$Row" "size" "I", Cond.fieldLink RX8 94 "DurableLoom$Branch" "number" "I", Cond.methodLink RX8 114 yX8_queue, Cond.methodLink RX8 118 yX8_isParent, Cond.instanceMethod yX8_isParent, Cond.selects RX8 yX8_isParent yX8_isParent, Cond.code yX8_isParent cX8_isParent 3 (some .boolean), Cond.fieldLink RX8 122 "DurableLoom$Branch" "parent" "I", Cond.methodLink RX4 242 yX4_awake]
def wsL_law0_r35 : List Cond := [Cond.instanceMethod yX4_awake, Cond.selects RX4 yX4_awake yX4_awake, Cond.code yX4_awake cX4_awake 3 none, Cond.methodLink RX4 263 yX5_removeAt, Cond.instanceMethod yX5_removeAt, Cond.selects RX5 yX5_removeAt yX5_removeAt, Cond.code yX5_removeAt cX5_removeAt 3 none, Cond.methodLink RX5 26 yX5_put, Cond.instanceMethod yX5_put, Cond.selects RX5 yX5_put yX5_put, Cond.code yX5_put cX5_put 6 none, Cond.methodLink RX4 246 yX4_endBranch, Cond.instanceMethod yX4_endBranch, Cond.selects RX4 yX4_endBranch yX4_endBranch, Cond.code yX4_endBranch cX4_endBranch 2 none, Cond.fieldLink RX4 211 "DurableLoom$Branch" "number" "I", Cond.methodLink RX4 214 yX8_remove, Cond.instanceMethod yX8_remove, Cond.selects RX8 yX8_remove yX8_remove, Cond.code yX8_remove cX8_remove 4 none, Cond.fieldLink RX8 101 "DurableLoom$Branch" "above" "I", Cond.methodLink RX4 217 yX8_value, Cond.instanceMethod yX8_value, Cond.selects RX8 yX8_value yX8_value]
def wsL_law0_r36 : List Cond := [Cond.code yX8_value cX8_value 2 (some .int), Cond.methodLink RX4 250 yX4_doPlainLine, Cond.instanceMethod yX4_doPlainLine, Cond.selects RX4 yX4_doPlainLine yX4_doPlainLine, Cond.code yX4_doPlainLine cX4_doPlainLine 6 none, Cond.methodLink RX4 266 yX1_waitFor, Cond.instanceMethod yX1_waitFor, Cond.selects RX1 yX1_waitFor yX1_waitFor, Cond.code yX1_waitFor cX1_waitFor 3 none, Cond.methodLink RX4 254 yX4_doBranchLine, Cond.instanceMethod yX4_doBranchLine, Cond.selects RX4 yX4_doBranchLine yX4_doBranchLine, Cond.code yX4_doBranchLine cX4_doBranchLine 4 none, Cond.methodLink RX4 269 yX4_beginBelow, Cond.instanceMethod yX4_beginBelow, Cond.selects RX4 yX4_beginBelow yX4_beginBelow, Cond.code yX4_beginBelow cX4_beginBelow 3 (some (.object "DurableLoom$Branch")), Cond.methodLink RX4 286 yX8_find, Cond.instanceMethod yX8_find, Cond.selects RX8 yX8_find yX8_find, Cond.code yX8_find cX8_find 3 (some (.object "DurableLoom$Branch")), Cond.methodLink RX4 273 yX4_race, Cond.instanceMethod yX4_race, Cond.selects RX4 yX4_race yX4_race]
def wsL_law0_r37 : List Cond := [Cond.code yX4_race cX4_race 4 none, Cond.fieldLink RX4 289 "DurableLoom$Branch" "rival" "I", Cond.methodLink RX4 277 yX4_win, Cond.instanceMethod yX4_win, Cond.selects RX4 yX4_win yX4_win, Cond.code yX4_win cX4_win 3 none, Cond.fieldLink RX4 292 "DurableLoom$Branch" "parent" "I", Cond.methodLink RX4 295 yX8_doom, Cond.instanceMethod yX8_doom, Cond.selects RX8 yX8_doom yX8_doom, Cond.code yX8_doom cX8_doom 4 none, Cond.fieldLink RX8 129 "DurableLoom$Branch" "doomed" "Z", Cond.methodLink RX8 132 yX8_find, Cond.methodLink RX4 280 yX4_dropDoomed, Cond.instanceMethod yX4_dropDoomed, Cond.selects RX4 yX4_dropDoomed yX4_dropDoomed, Cond.code yX4_dropDoomed cX4_dropDoomed 3 none, Cond.fieldLink RX4 298 "DurableLoom$Branch" "doomed" "Z", Cond.methodLink RX4 283 yX8_pushed, Cond.instanceMethod yX8_pushed, Cond.selects RX8 yX8_pushed yX8_pushed, Cond.code yX8_pushed cX8_pushed 3 (some .int), Cond.methodLink RX8 77 yX5_add, Cond.methodLink RX4 257 yX4_doEndingLine]
def wsL_law0_r38 : List Cond := [Cond.instanceMethod yX4_doEndingLine, Cond.selects RX4 yX4_doEndingLine yX4_doEndingLine, Cond.code yX4_doEndingLine cX4_doEndingLine 5 none, Cond.fieldLink RX4 301 "DurableLoom$State" "compensations" "I", Cond.methodLink RX4 304 yX4_undo, Cond.instanceMethod yX4_undo, Cond.selects RX4 yX4_undo yX4_undo, Cond.code yX4_undo cX4_undo 3 none, Cond.methodLink RX4 260 yX4_doOtherLine, Cond.instanceMethod yX4_doOtherLine, Cond.selects RX4 yX4_doOtherLine yX4_doOtherLine, Cond.code yX4_doOtherLine cX4_doOtherLine 7 none, Cond.methodLink RX4 307 yX4_patch, Cond.instanceMethod yX4_patch, Cond.selects RX4 yX4_patch yX4_patch, Cond.code yX4_patch cX4_patch 5 (some .boolean), Cond.fieldLink RX4 317 "DurableLoom$State" "patches" "I", Cond.methodLink RX4 311 yX2_clockOfArrival, Cond.instanceMethod yX2_clockOfArrival, Cond.selects RX2 yX2_clockOfArrival yX2_clockOfArrival, Cond.code yX2_clockOfArrival cX2_clockOfArrival 2 (some .int), Cond.methodLink RX4 314 yX1_isBare, Cond.instanceMethod yX1_isBare, Cond.selects RX1 yX1_isBare yX1_isBare]
def wsL_law0_r39 : List Cond := [Cond.code yX1_isBare cX1_isBare 2 (some .boolean), Cond.methodLink RX1 44 Lib.Math.max.name, Cond.methodLink RX4 99 yX4_passTasks, Cond.instanceMethod yX4_passTasks, Cond.selects RX4 yX4_passTasks yX4_passTasks, Cond.code yX4_passTasks cX4_passTasks 3 none, Cond.fieldLink RX4 117 "DurableLoom$State" "taskAt" "I", Cond.methodLink RX11 227 yX2_hasNewSignal, Cond.instanceMethod yX2_hasNewSignal, Cond.selects RX2 yX2_hasNewSignal yX2_hasNewSignal, Cond.code yX2_hasNewSignal cX2_hasNewSignal 3 (some .boolean), Cond.methodLink RX2 68 yX2_firstNew, Cond.instanceMethod yX2_firstNew, Cond.selects RX2 yX2_firstNew yX2_firstNew, Cond.code yX2_firstNew cX2_firstNew 3 (some .int), Cond.methodLink RX11 235 yX8_waitsForSignal, Cond.instanceMethod yX8_waitsForSignal, Cond.selects RX8 yX8_waitsForSignal yX8_waitsForSignal, Cond.code yX8_waitsForSignal cX8_waitsForSignal 3 (some .boolean), Cond.methodLink RL 167 yX12_update, Cond.instanceMethod yX12_update, Cond.selects RX12 yX12_update yX12_update, Cond.code yX12_update cX12_update 6 (some .boolean), Cond.methodLink RX12 586 yX12_isSafe]
def wsL_law0_r40 : List Cond := [Cond.instanceMethod yX12_isSafe, Cond.selects RX12 yX12_isSafe yX12_isSafe, Cond.code yX12_isSafe cX12_isSafe 4 (some .boolean), Cond.fieldLink RX12 374 "DurableLoomModel" "isStuck" "Z", Cond.methodLink RX12 545 yX12_tellsRun, Cond.instanceMethod yX12_tellsRun, Cond.selects RX12 yX12_tellsRun yX12_tellsRun, Cond.code yX12_tellsRun cX12_tellsRun 7 none, Cond.fieldLink RX12 387 "DurableLoomModel" "told" "I", Cond.fieldLink RX12 384 "DurableLoomModel" "seen" "I", Cond.fieldLink RX12 390 "DurableLoomModel" "later" "I", Cond.fieldLink RX12 533 "DurableLoomModel" "nextTask" "I", Cond.fieldLink RX12 471 "DurableLoomModel" "toldVersion" "I", Cond.fieldLink RX12 368 "DurableLoomModel" "branches" "I", Cond.fieldLink RX12 422 "DurableLoomModel" "begun" "I", Cond.fieldLink RX12 483 "DurableLoomModel" "handlers" "I", Cond.fieldLink RX12 458 "DurableLoomModel" "undos" "I", Cond.fieldLink RX12 465 "DurableLoomModel" "patches" "I", Cond.fieldLink RX12 518 "DurableLoomModel" "wasCancelled" "Z", Cond.fieldLink RX12 371 "DurableLoomModel" "over" "I", Cond.fieldLink RX12 381 "DurableLoomModel" "met" "I", Cond.fieldLink RX12 404 "DurableLoomModel" "arrival" "I", Cond.fieldLink RX12 416 "DurableLoomModel" "fresh" "I", Cond.fieldLink RX12 536 "DurableLoomModel" "takenArrivals" "I"]
def wsL_law0_r41 : List Cond := [Cond.fieldLink RX12 407 "DurableLoomModel" "counted" "I", Cond.methodLink RX12 341 yX12_kindAt, Cond.instanceMethod yX12_kindAt, Cond.selects RX12 yX12_kindAt yX12_kindAt, Cond.code yX12_kindAt cX12_kindAt 3 (some .int), Cond.methodLink RX12 539 yX12_takes, Cond.instanceMethod yX12_takes, Cond.selects RX12 yX12_takes yX12_takes, Cond.code yX12_takes cX12_takes 5 none, Cond.fieldLink RX12 494 "DurableLoomModel" "arrivalTime" "I", Cond.methodLink RX12 344 yX12_xAt, Cond.instanceMethod yX12_xAt, Cond.selects RX12 yX12_xAt yX12_xAt, Cond.code yX12_xAt cX12_xAt 3 (some .int), Cond.constantLong RX12 334 (524287), Cond.methodLink RX12 397 yX12_yAt, Cond.instanceMethod yX12_yAt, Cond.selects RX12 yX12_yAt yX12_yAt, Cond.code yX12_yAt cX12_yAt 3 (some .int), Cond.methodLink RX12 521 yX12_whenAt, Cond.instanceMethod yX12_whenAt, Cond.selects RX12 yX12_whenAt yX12_whenAt, Cond.code yX12_whenAt cX12_whenAt 3 (some .int), Cond.constantLong RX12 336 (536870911)]
def wsL_law0_r42 : List Cond := [Cond.methodLink RX12 455 yX12_begins, Cond.instanceMethod yX12_begins, Cond.selects RX12 yX12_begins yX12_begins, Cond.code yX12_begins cX12_begins 3 none, Cond.methodLink RX12 419 yX12_spins, Cond.instanceMethod yX12_spins, Cond.selects RX12 yX12_spins yX12_spins, Cond.code yX12_spins cX12_spins 1 none, Cond.fieldLink RX12 378 "DurableLoomModel" "wrong" "I", Cond.methodLink RX12 524 yX12_isCancelled, Cond.instanceMethod yX12_isCancelled, Cond.selects RX12 yX12_isCancelled yX12_isCancelled, Cond.code yX12_isCancelled cX12_isCancelled 2 none, Cond.methodLink RX12 439 yX12_goes, Cond.instanceMethod yX12_goes, Cond.selects RX12 yX12_goes yX12_goes, Cond.code yX12_goes cX12_goes 1 (some .boolean), Cond.methodLink RX12 468 yX12_cancelsBranch, Cond.instanceMethod yX12_cancelsBranch, Cond.selects RX12 yX12_cancelsBranch yX12_cancelsBranch, Cond.code yX12_cancelsBranch cX12_cancelsBranch 2 none, Cond.methodLink RX12 436 yX12_lets, Cond.instanceMethod yX12_lets, Cond.selects RX12 yX12_lets yX12_lets]
def wsL_law0_r43 : List Cond := [Cond.code yX12_lets cX12_lets 2 none, Cond.methodLink RX12 425 yX12_commands, Cond.instanceMethod yX12_commands, Cond.selects RX12 yX12_commands yX12_commands, Cond.code yX12_commands cX12_commands 5 (some .int), Cond.methodLink RX12 393 yX12_nextCommand, Cond.instanceMethod yX12_nextCommand, Cond.selects RX12 yX12_nextCommand yX12_nextCommand, Cond.code yX12_nextCommand cX12_nextCommand 1 (some .int), Cond.methodLink RX12 400 yX12_differs, Cond.instanceMethod yX12_differs, Cond.selects RX12 yX12_differs yX12_differs, Cond.code yX12_differs cX12_differs 2 none, Cond.methodLink RX12 410 yX12_firstTask, Cond.instanceMethod yX12_firstTask, Cond.selects RX12 yX12_firstTask yX12_firstTask, Cond.code yX12_firstTask cX12_firstTask 2 (some .int), Cond.methodLink RX12 413 yX12_nextLater, Cond.instanceMethod yX12_nextLater, Cond.selects RX12 yX12_nextLater yX12_nextLater, Cond.code yX12_nextLater cX12_nextLater 1 (some .int), Cond.methodLink RX12 443 yX12_failsBranch, Cond.instanceMethod yX12_failsBranch, Cond.selects RX12 yX12_failsBranch yX12_failsBranch]
def wsL_law0_r44 : List Cond := [Cond.code yX12_failsBranch cX12_failsBranch 2 none, Cond.methodLink RX12 429 yX12_endsRun, Cond.instanceMethod yX12_endsRun, Cond.selects RX12 yX12_endsRun yX12_endsRun, Cond.code yX12_endsRun cX12_endsRun 4 none, Cond.methodLink RX12 527 yX12_comesBack, Cond.instanceMethod yX12_comesBack, Cond.selects RX12 yX12_comesBack yX12_comesBack, Cond.code yX12_comesBack cX12_comesBack 6 none, Cond.methodLink RX12 515 yX12_waiting, Cond.instanceMethod yX12_waiting, Cond.selects RX12 yX12_waiting yX12_waiting, Cond.code yX12_waiting cX12_waiting 4 (some .int), Cond.methodLink RX12 530 yX12_goOn, Cond.instanceMethod yX12_goOn, Cond.selects RX12 yX12_goOn yX12_goOn, Cond.code yX12_goOn cX12_goOn 2 none, Cond.fieldLink RX12 503 "DurableLoomModel" "steps" "I", Cond.methodLink RX12 506 yX12_canGoOn, Cond.instanceMethod yX12_canGoOn, Cond.selects RX12 yX12_canGoOn yX12_canGoOn, Cond.code yX12_canGoOn cX12_canGoOn 3 (some .boolean), Cond.methodLink RX12 500 yX12_hasChild, Cond.instanceMethod yX12_hasChild]
def wsL_law0_r45 : List Cond := [Cond.selects RX12 yX12_hasChild yX12_hasChild, Cond.code yX12_hasChild cX12_hasChild 4 (some .boolean), Cond.methodLink RX12 509 yX12_walks, Cond.instanceMethod yX12_walks, Cond.selects RX12 yX12_walks yX12_walks, Cond.code yX12_walks cX12_walks 3 none, Cond.methodLink RX12 449 yX12_slot, Cond.instanceMethod yX12_slot, Cond.selects RX12 yX12_slot yX12_slot, Cond.code yX12_slot cX12_slot 4 (some .int), Cond.methodLink RX12 489 yX12_endsBranch, Cond.instanceMethod yX12_endsBranch, Cond.selects RX12 yX12_endsBranch yX12_endsBranch, Cond.code yX12_endsBranch cX12_endsBranch 2 none, Cond.methodLink RX12 433 yX12_removes, Cond.instanceMethod yX12_removes, Cond.selects RX12 yX12_removes yX12_removes, Cond.code yX12_removes cX12_removes 3 none, Cond.methodLink RX12 512 yX12_does, Cond.instanceMethod yX12_does, Cond.selects RX12 yX12_does yX12_does, Cond.code yX12_does cX12_does 5 none, Cond.methodLink RX12 461 yX12_awaits, Cond.instanceMethod yX12_awaits]
def wsL_law0_r46 : List Cond := [Cond.selects RX12 yX12_awaits yX12_awaits, Cond.code yX12_awaits cX12_awaits 5 none, Cond.methodLink RX12 474 yX12_races, Cond.instanceMethod yX12_races, Cond.selects RX12 yX12_races yX12_races, Cond.code yX12_races cX12_races 4 none, Cond.methodLink RX12 477 yX12_wins, Cond.instanceMethod yX12_wins, Cond.selects RX12 yX12_wins yX12_wins, Cond.code yX12_wins cX12_wins 6 none, Cond.methodLink RX12 452 yX12_dropsBranch, Cond.instanceMethod yX12_dropsBranch, Cond.selects RX12 yX12_dropsBranch yX12_dropsBranch, Cond.code yX12_dropsBranch cX12_dropsBranch 3 none, Cond.methodLink RX12 446 yX12_isBelow, Cond.instanceMethod yX12_isBelow, Cond.selects RX12 yX12_isBelow yX12_isBelow, Cond.code yX12_isBelow cX12_isBelow 4 (some .boolean), Cond.methodLink RX12 480 yX12_doesMore, Cond.instanceMethod yX12_doesMore, Cond.selects RX12 yX12_doesMore yX12_doesMore, Cond.code yX12_doesMore cX12_doesMore 5 none, Cond.methodLink RX12 486 yX12_undoes, Cond.instanceMethod yX12_undoes]
def wsL_law0_r47 : List Cond := [Cond.selects RX12 yX12_undoes yX12_undoes, Cond.code yX12_undoes cX12_undoes 3 none, Cond.methodLink RX12 492 yX12_patches, Cond.instanceMethod yX12_patches, Cond.selects RX12 yX12_patches yX12_patches, Cond.code yX12_patches cX12_patches 7 none, Cond.methodLink RX12 497 yX12_bares, Cond.instanceMethod yX12_bares, Cond.selects RX12 yX12_bares yX12_bares, Cond.code yX12_bares cX12_bares 2 none, Cond.methodLink RX12 542 yX12_goesBy, Cond.instanceMethod yX12_goesBy, Cond.selects RX12 yX12_goesBy yX12_goesBy, Cond.code yX12_goesBy cX12_goesBy 2 none, Cond.methodLink RX12 589 yX12_isWanted, Cond.instanceMethod yX12_isWanted, Cond.selects RX12 yX12_isWanted yX12_isWanted, Cond.code yX12_isWanted cX12_isWanted 7 (some .boolean), Cond.methodLink RL 168 yL_cancel, Cond.static yL_cancel, Cond.codeWith yL_cancel cL_cancel 4 (some .int) [(0, 16, 19, 13), (0, 16, 22, 17)], Cond.methodLink RL 42 yX11_cancel, Cond.instanceMethod yX11_cancel, Cond.selects RX11 yX11_cancel yX11_cancel]
def wsL_law0_r48 : List Cond := [Cond.code yX11_cancel cX11_cancel 3 (some .boolean), Cond.methodLink RX11 242 yX11_cancelRun, Cond.instanceMethod yX11_cancelRun, Cond.selects RX11 yX11_cancelRun yX11_cancelRun, Cond.code yX11_cancelRun cX11_cancelRun 2 (some .boolean), Cond.methodLink RX11 540 yX2_has, Cond.instanceMethod yX2_has, Cond.selects RX2 yX2_has yX2_has, Cond.code yX2_has cX2_has 3 (some .boolean), Cond.methodLink RL 170 yX12_cancel, Cond.instanceMethod yX12_cancel, Cond.selects RX12 yX12_cancel yX12_cancel, Cond.code yX12_cancel cX12_cancel 3 (some .boolean), Cond.methodLink RX12 558 yX12_cancels, Cond.instanceMethod yX12_cancels, Cond.selects RX12 yX12_cancels yX12_cancels, Cond.code yX12_cancels cX12_cancels 3 (some .boolean), Cond.methodLink RX12 364 yX12_hasCome, Cond.instanceMethod yX12_hasCome, Cond.selects RX12 yX12_hasCome yX12_hasCome, Cond.code yX12_hasCome cX12_hasCome 5 (some .boolean), Cond.methodLink RL 171 yL_query, Cond.static yL_query, Cond.codeWith yL_query cL_query 5 (some .int) [(0, 10, 13, 13), (0, 10, 17, 17)]]
def wsL_law0_r49 : List Cond := [Cond.methodLink RL 46 yX11_query, Cond.instanceMethod yX11_query, Cond.selects RX11 yX11_query yX11_query, Cond.code yX11_query cX11_query 4 (some .int), Cond.methodLink RX11 246 yX11_checkVariable, Cond.instanceMethod yX11_checkVariable, Cond.selects RX11 yX11_checkVariable yX11_checkVariable, Cond.code yX11_checkVariable cX11_checkVariable 2 none, Cond.methodLink RX11 251 yX8_value, Cond.methodLink RL 173 yX12_query, Cond.instanceMethod yX12_query, Cond.selects RX12 yX12_query yX12_query, Cond.code yX12_query cX12_query 3 (some .int), Cond.methodLink RX12 592 yX12_asks, Cond.instanceMethod yX12_asks, Cond.selects RX12 yX12_asks yX12_asks, Cond.code yX12_asks cX12_asks 5 (some .int), Cond.methodLink RL 174 yL_plain, Cond.static yL_plain, Cond.codeWith yL_plain cL_plain 5 (some .int) [(0, 10, 13, 13), (0, 10, 17, 17)], Cond.methodLink RL 49 yX11_plain, Cond.instanceMethod yX11_plain, Cond.selects RX11 yX11_plain yX11_plain, Cond.code yX11_plain cX11_plain 4 (some .int)]
def wsL_law0_r50 : List Cond := [Cond.methodLink RL 176 yX12_plain, Cond.instanceMethod yX12_plain, Cond.selects RX12 yX12_plain yX12_plain, Cond.code yX12_plain cX12_plain 3 (some .int), Cond.methodLink RL 177 yL_standing, Cond.static yL_standing, Cond.codeWith yL_standing cL_standing 4 (some .int) [(0, 9, 12, 13)], Cond.methodLink RL 52 yX11_standing, Cond.instanceMethod yX11_standing, Cond.selects RX11 yX11_standing yX11_standing, Cond.code yX11_standing cX11_standing 3 (some .int), Cond.methodLink RL 179 yX12_standing, Cond.instanceMethod yX12_standing, Cond.selects RX12 yX12_standing yX12_standing, Cond.code yX12_standing cX12_standing 2 (some .int), Cond.methodLink RL 180 yL_event, Cond.static yL_event, Cond.codeWith yL_event cL_event 5 (some .int) [(0, 10, 13, 13)], Cond.methodLink RL 55 yX11_event, Cond.instanceMethod yX11_event, Cond.selects RX11 yX11_event yX11_event, Cond.code yX11_event cX11_event 4 (some .int), Cond.constant RX11 260 (1000000), Cond.methodLink RX11 261 yX2_kind]
def wsL_law0_r51 : List Cond := [Cond.methodLink RX11 264 yX2_x, Cond.methodLink RX11 267 yX2_y, Cond.methodLink RL 182 yX12_event, Cond.instanceMethod yX12_event, Cond.selects RX12 yX12_event yX12_event, Cond.code yX12_event cX12_event 4 (some .int), Cond.constant RX12 595 (1000000), Cond.methodLink RL 183 yL_difference, Cond.static yL_difference, Cond.codeWith yL_difference cL_difference 4 (some .int) [(0, 9, 12, 13), (0, 9, 15, 17)], Cond.methodLink RL 58 yX11_difference, Cond.instanceMethod yX11_difference, Cond.selects RX11 yX11_difference yX11_difference, Cond.code yX11_difference cX11_difference 3 (some .int), Cond.fieldLink RX11 272 "DurableLoom$Run" "difference" "I", Cond.methodLink RL 185 yX12_difference, Cond.instanceMethod yX12_difference, Cond.selects RX12 yX12_difference yX12_difference, Cond.code yX12_difference cX12_difference 3 (some .int), Cond.methodLink RL 186 yX11_runs, Cond.instanceMethod yX11_runs, Cond.selects RX11 yX11_runs yX11_runs, Cond.code yX11_runs cX11_runs 1 (some .int), Cond.methodLink RL 189 yX12_runs]
def wsL_law0_r52 : List Cond := [Cond.instanceMethod yX12_runs, Cond.selects RX12 yX12_runs yX12_runs, Cond.code yX12_runs cX12_runs 1 (some .int), Cond.methodLink RX12 596 yX12_tells, Cond.instanceMethod yX12_tells, Cond.selects RX12 yX12_tells yX12_tells, Cond.code yX12_tells cX12_tells 2 (some .int), Cond.methodLink RL 190 yL_setRate, Cond.static yL_setRate, Cond.codeWith yL_setRate cL_setRate 4 (some .int) [(0, 9, 12, 15)], Cond.classLink RL 15 "java/lang/IllegalArgumentException", Cond.methodLink RL 61 yX11_setRate, Cond.instanceMethod yX11_setRate, Cond.selects RX11 yX11_setRate yX11_setRate, Cond.code yX11_setRate cX11_setRate 3 (some .int), Cond.methodLink RL 192 yX12_setRate, Cond.instanceMethod yX12_setRate, Cond.selects RX12 yX12_setRate yX12_setRate, Cond.code yX12_setRate cX12_setRate 3 (some .int), Cond.methodLink RL 193 yL_poll, Cond.static yL_poll, Cond.codeWith yL_poll cL_poll 4 (some .int) [(0, 9, 12, 13)], Cond.methodLink RL 64 yX11_poll, Cond.instanceMethod yX11_poll]
def wsL_law0_r53 : List Cond := [Cond.selects RX11 yX11_poll yX11_poll, Cond.code yX11_poll cX11_poll 5 (some .int), Cond.fieldLink RX11 283 "DurableLoom$Run" "tenant" "I", Cond.classLink RX11 292 RX9, Cond.instantiable RX9 6, Cond.initialized RX9, Cond.fieldLink RX11 297 "DurableLoom$Run" "lastTask" "I", Cond.methodLink RX11 277 yX11_checkWorker, Cond.instanceMethod yX11_checkWorker, Cond.selects RX11 yX11_checkWorker yX11_checkWorker, Cond.code yX11_checkWorker cX11_checkWorker 2 none, Cond.methodLink RX11 280 yX11_firstRunWithWork, Cond.instanceMethod yX11_firstRunWithWork, Cond.selects RX11 yX11_firstRunWithWork yX11_firstRunWithWork, Cond.code yX11_firstRunWithWork cX11_firstRunWithWork 5 (some (.object "DurableLoom$Run")), Cond.methodLink RX11 556 yX6_hasWork, Cond.instanceMethod yX6_hasWork, Cond.selects RX6 yX6_hasWork yX6_hasWork, Cond.code yX6_hasWork cX6_hasWork 1 (some .boolean), Cond.fieldLink RX6 82 "DurableLoom$History" "arrivals" "I", Cond.fieldLink RX6 85 "DurableLoom$History" "counted" "I", Cond.methodLink RX11 559 yX11_isHeld, Cond.instanceMethod yX11_isHeld, Cond.selects RX11 yX11_isHeld yX11_isHeld]
def wsL_law0_r54 : List Cond := [Cond.code yX11_isHeld cX11_isHeld 3 (some .boolean), Cond.classLink RX11 292 "DurableLoom$Task", Cond.fieldLink RX11 317 "DurableLoom$Task" "over" "Z", Cond.fieldLink RX11 565 "DurableLoom$Task" "givenAt" "I", Cond.methodLink RX11 562 yX6_firstOrder, Cond.instanceMethod yX6_firstOrder, Cond.selects RX6 yX6_firstOrder yX6_firstOrder, Cond.code yX6_firstOrder cX6_firstOrder 1 (some .int), Cond.methodLink RX6 88 yX2_firstNew, Cond.methodLink RX6 92 yX2_orderOfArrival, Cond.instanceMethod yX2_orderOfArrival, Cond.selects RX2 yX2_orderOfArrival yX2_orderOfArrival, Cond.code yX2_orderOfArrival cX2_orderOfArrival 2 (some .int), Cond.methodLink RX11 286 yX11_givenTo, Cond.instanceMethod yX11_givenTo, Cond.selects RX11 yX11_givenTo yX11_givenTo, Cond.code yX11_givenTo cX11_givenTo 2 (some .int), Cond.methodLink RX11 289 yX11_countGiven, Cond.instanceMethod yX11_countGiven, Cond.selects RX11 yX11_countGiven yX11_countGiven, Cond.code yX11_countGiven cX11_countGiven 2 none, Cond.methodLink RX11 294 yX9_init, Cond.instanceMethod yX9_init, Cond.code yX9_init cX9_init 4 none]
def wsL_law0_r55 : List Cond := [Cond.methodLink RX9 1 objectInit, Cond.fieldLink RX9 7 "DurableLoom$Task" "over" "Z", Cond.fieldLink RX9 13 "DurableLoom$Task" "worker" "I", Cond.fieldLink RX9 17 "DurableLoom$Task" "run" "LDurableLoom$Run;", Cond.fieldLink RX9 21 "DurableLoom$Task" "givenAt" "I", Cond.fieldLink RX9 24 "DurableLoom$Run" "history" "LDurableLoom$History;", Cond.fieldLink RX9 30 "DurableLoom$History" "arrivals" "I", Cond.fieldLink RX9 35 "DurableLoom$Task" "arrivals" "I", Cond.fieldLink RX9 40 "DurableLoom$Task" "mark" "I", Cond.methodLink RX9 36 yX6_mark, Cond.instanceMethod yX6_mark, Cond.selects RX6 yX6_mark yX6_mark, Cond.code yX6_mark cX6_mark 1 (some .int), Cond.fieldLink RX6 96 "DurableLoom$History" "tasks" "I", Cond.methodLink RL 195 yX12_poll, Cond.instanceMethod yX12_poll, Cond.selects RX12 yX12_poll yX12_poll, Cond.code yX12_poll cX12_poll 7 (some .int), Cond.fieldLink RX12 599 "DurableLoomModel" "tasks" "I", Cond.methodLink RX12 605 yX12_isWorker, Cond.static yX12_isWorker, Cond.code yX12_isWorker cX12_isWorker 1 (some .boolean), Cond.methodLink RX12 608 yX12_isReady, Cond.instanceMethod yX12_isReady]
def wsL_law0_r56 : List Cond := [Cond.selects RX12 yX12_isReady yX12_isReady, Cond.code yX12_isReady cX12_isReady 2 (some .boolean), Cond.methodLink RX12 602 yX12_isHeld, Cond.instanceMethod yX12_isHeld, Cond.selects RX12 yX12_isHeld yX12_isHeld, Cond.code yX12_isHeld cX12_isHeld 4 (some .boolean), Cond.methodLink RX12 611 yX12_firstOrder, Cond.instanceMethod yX12_firstOrder, Cond.selects RX12 yX12_firstOrder yX12_firstOrder, Cond.code yX12_firstOrder cX12_firstOrder 4 (some .int), Cond.methodLink RL 196 yL_complete, Cond.static yL_complete, Cond.codeWith yL_complete cL_complete 4 (some .int) [(0, 9, 12, 13)], Cond.methodLink RL 67 yX11_complete, Cond.instanceMethod yX11_complete, Cond.selects RX11 yX11_complete yX11_complete, Cond.code yX11_complete cX11_complete 10 (some .int), Cond.fieldLink RX11 309 "DurableLoom$Task" "run" "LDurableLoom$Run;", Cond.fieldLink RX11 320 "DurableLoom$Task" "worker" "I", Cond.fieldLink RX11 329 "DurableLoom$Task" "arrivals" "I", Cond.fieldLink RX11 335 "DurableLoom$Machine" "difference" "I", Cond.methodLink RX11 313 yX11_isStale, Cond.instanceMethod yX11_isStale, Cond.selects RX11 yX11_isStale yX11_isStale]
def wsL_law0_r57 : List Cond := [Cond.code yX11_isStale cX11_isStale 3 (some .boolean), Cond.fieldLink RX11 571 "DurableLoom$Task" "mark" "I", Cond.methodLink RX11 568 yX6_mark, Cond.methodLink RX11 323 yX6_isKeptBy, Cond.instanceMethod yX6_isKeptBy, Cond.selects RX6 yX6_isKeptBy yX6_isKeptBy, Cond.code yX6_isKeptBy cX6_isKeptBy 2 (some .boolean), Cond.methodLink RX6 99 yX6_mark, Cond.methodLink RX11 326 yX11_countReplay, Cond.instanceMethod yX11_countReplay, Cond.selects RX11 yX11_countReplay yX11_countReplay, Cond.code yX11_countReplay cX11_countReplay 2 none, Cond.methodLink RX11 332 yX4_isLeft, Cond.instanceMethod yX4_isLeft, Cond.selects RX4 yX4_isLeft yX4_isLeft, Cond.code yX4_isLeft cX4_isLeft 2 (some .boolean), Cond.methodLink RX11 336 yX11_putNews, Cond.instanceMethod yX11_putNews, Cond.selects RX11 yX11_putNews yX11_putNews, Cond.code yX11_putNews cX11_putNews 6 (some .int), Cond.fieldLink RX11 573 "DurableLoom$Run" "seenEvents" "I", Cond.fieldLink RX11 576 "DurableLoom$Run" "seenCounted" "I", Cond.fieldLink RX11 579 "DurableLoom$Machine" "news" "LDurableLoom$History;", Cond.fieldLink RX11 344 "DurableLoom$Run" "keeper" "I"]
def wsL_law0_r58 : List Cond := [Cond.fieldLink RX11 582 "DurableLoom$Run" "keptMark" "I", Cond.methodLink RX11 585 yX4_knows, Cond.instanceMethod yX4_knows, Cond.selects RX4 yX4_knows yX4_knows, Cond.code yX4_knows cX4_knows 2 none, Cond.methodLink RX11 340 yX11_carryOut, Cond.instanceMethod yX11_carryOut, Cond.selects RX11 yX11_carryOut yX11_carryOut, Cond.code yX11_carryOut cX11_carryOut 5 none, Cond.fieldLink RX11 603 "DurableLoom$State" "cancelTaken" "Z", Cond.methodLink RX11 588 yX11_makeActivity, Cond.instanceMethod yX11_makeActivity, Cond.selects RX11 yX11_makeActivity yX11_makeActivity, Cond.code yX11_makeActivity cX11_makeActivity 5 none, Cond.classLink RX11 347 RX0, Cond.instantiable RX0 11, Cond.initialized RX0, Cond.methodLink RX11 610 yX0_init, Cond.instanceMethod yX0_init, Cond.code yX0_init cX0_init 6 none, Cond.methodLink RX0 1 objectInit, Cond.fieldLink RX0 9 "DurableLoom$Activity" "state" "I", Cond.fieldLink RX0 13 "DurableLoom$Activity" "attempts" "I", Cond.fieldLink RX0 16 "DurableLoom$Activity" "ready" "I"]
def wsL_law0_r59 : List Cond := [Cond.fieldLink RX0 19 "DurableLoom$Activity" "takenAt" "I", Cond.fieldLink RX0 22 "DurableLoom$Activity" "beatAt" "I", Cond.fieldLink RX0 25 "DurableLoom$Activity" "progress" "I", Cond.fieldLink RX0 28 "DurableLoom$Activity" "run" "LDurableLoom$Run;", Cond.fieldLink RX0 32 "DurableLoom$Activity" "event" "I", Cond.fieldLink RX0 35 "DurableLoom$Activity" "kind" "I", Cond.fieldLink RX0 38 "DurableLoom$Activity" "input" "I", Cond.fieldLink RX0 41 "DurableLoom$Activity" "madeAt" "I", Cond.methodLink RX11 591 yX6_addTimer, Cond.instanceMethod yX6_addTimer, Cond.selects RX6 yX6_addTimer yX6_addTimer, Cond.code yX6_addTimer cX6_addTimer 3 none, Cond.methodLink RX6 102 yX5_add, Cond.methodLink RX11 594 yX11_beginChild, Cond.instanceMethod yX11_beginChild, Cond.selects RX11 yX11_beginChild yX11_beginChild, Cond.code yX11_beginChild cX11_beginChild 5 none, Cond.methodLink RX11 597 yX11_dropEvent, Cond.instanceMethod yX11_dropEvent, Cond.selects RX11 yX11_dropEvent yX11_dropEvent, Cond.code yX11_dropEvent cX11_dropEvent 5 none, Cond.classLink RX11 347 "DurableLoom$Activity", Cond.fieldLink RX11 366 "DurableLoom$Activity" "run" "LDurableLoom$Run;", Cond.fieldLink RX11 367 "DurableLoom$Activity" "event" "I"]
def wsL_law0_r60 : List Cond := [Cond.fieldLink RX11 351 "DurableLoom$Activity" "state" "I", Cond.fieldLink RX11 414 "DurableLoom$Run" "parent" "I", Cond.fieldLink RX11 417 "DurableLoom$Run" "parentEvent" "I", Cond.methodLink RX11 613 yX6_dropTimer, Cond.instanceMethod yX6_dropTimer, Cond.selects RX6 yX6_dropTimer yX6_dropTimer, Cond.code yX6_dropTimer cX6_dropTimer 3 none, Cond.fieldLink RX6 106 "DurableLoom$Row" "size" "I", Cond.methodLink RX6 109 yX5_at, Cond.methodLink RX6 112 yX5_removeAt, Cond.methodLink RX11 600 yX11_queueTag, Cond.instanceMethod yX11_queueTag, Cond.selects RX11 yX11_queueTag yX11_queueTag, Cond.code yX11_queueTag cX11_queueTag 3 none, Cond.constant RX11 609 (51200), Cond.methodLink RX11 458 yX11_closeRun, Cond.instanceMethod yX11_closeRun, Cond.selects RX11 yX11_closeRun yX11_closeRun, Cond.code yX11_closeRun cX11_closeRun 6 none, Cond.methodLink RX11 427 yX11_endWork, Cond.instanceMethod yX11_endWork, Cond.selects RX11 yX11_endWork yX11_endWork, Cond.code yX11_endWork cX11_endWork 4 none, Cond.fieldLink RX11 550 "DurableLoom$Run" "timers" "LDurableLoom$Row;"]
def wsL_law0_r61 : List Cond := [Cond.fieldLink RX11 553 "DurableLoom$Run" "dues" "LDurableLoom$Row;", Cond.methodLink RX11 469 yX5_cut, Cond.methodLink RX11 543 yX11_dealWithChildren, Cond.instanceMethod yX11_dealWithChildren, Cond.selects RX11 yX11_dealWithChildren yX11_dealWithChildren, Cond.methodLink RX11 546 yX11_parentOf, Cond.instanceMethod yX11_parentOf, Cond.selects RX11 yX11_parentOf yX11_parentOf, Cond.code yX11_parentOf cX11_parentOf 2 (some (.object "DurableLoom$Run")), Cond.code yX11_dealWithChildren cX11_dealWithChildren 6 none, Cond.methodLink RX11 606 yX11_goOnAsNew, Cond.instanceMethod yX11_goOnAsNew, Cond.selects RX11 yX11_goOnAsNew yX11_goOnAsNew, Cond.code yX11_goOnAsNew cX11_goOnAsNew 7 none, Cond.fieldLink RX11 619 "DurableLoom$State" "arrivalAt" "I", Cond.methodLink RX11 616 yX8_queue, Cond.methodLink RX11 466 yX5_at, Cond.methodLink RX11 437 yX11_sendSignals, Cond.instanceMethod yX11_sendSignals, Cond.selects RX11 yX11_sendSignals yX11_sendSignals, Cond.code yX11_sendSignals cX11_sendSignals 6 none, Cond.methodLink RL 198 yX12_complete, Cond.instanceMethod yX12_complete, Cond.selects RX12 yX12_complete yX12_complete]
def wsL_law0_r62 : List Cond := [Cond.code yX12_complete cX12_complete 11 (some .int), Cond.methodLink RX12 614 yX12_isStale, Cond.instanceMethod yX12_isStale, Cond.selects RX12 yX12_isStale yX12_isStale, Cond.code yX12_isStale cX12_isStale 3 (some .boolean), Cond.methodLink RX12 617 yX12_hasState, Cond.instanceMethod yX12_hasState, Cond.selects RX12 yX12_hasState yX12_hasState, Cond.code yX12_hasState cX12_hasState 4 (some .boolean), Cond.methodLink RX12 620 yX12_carriesOut, Cond.instanceMethod yX12_carriesOut, Cond.selects RX12 yX12_carriesOut yX12_carriesOut, Cond.code yX12_carriesOut cX12_carriesOut 6 none, Cond.fieldLink RX12 632 "DurableLoomModel" "tagsTo" "I", Cond.methodLink RX12 623 yX12_makesActivity, Cond.instanceMethod yX12_makesActivity, Cond.selects RX12 yX12_makesActivity yX12_makesActivity, Cond.code yX12_makesActivity cX12_makesActivity 5 none, Cond.fieldLink RX12 549 "DurableLoomModel" "activities" "I", Cond.methodLink RX12 626 yX12_makesTimer, Cond.instanceMethod yX12_makesTimer, Cond.selects RX12 yX12_makesTimer yX12_makesTimer, Cond.code yX12_makesTimer cX12_makesTimer 4 none, Cond.fieldLink RX12 552 "DurableLoomModel" "timers" "I"]
def wsL_law0_r63 : List Cond := [Cond.methodLink RX12 629 yX12_drops, Cond.instanceMethod yX12_drops, Cond.selects RX12 yX12_drops yX12_drops, Cond.code yX12_drops cX12_drops 4 none, Cond.methodLink RX12 555 yX12_removesTimer, Cond.instanceMethod yX12_removesTimer, Cond.selects RX12 yX12_removesTimer yX12_removesTimer, Cond.code yX12_removesTimer cX12_removesTimer 2 none, Cond.methodLink RX12 635 yX12_closes, Cond.instanceMethod yX12_closes, Cond.selects RX12 yX12_closes yX12_closes, Cond.code yX12_closes cX12_closes 7 none, Cond.methodLink RX12 564 yX12_stops, Cond.instanceMethod yX12_stops, Cond.selects RX12 yX12_stops yX12_stops, Cond.code yX12_stops cX12_stops 3 none, Cond.methodLink RX12 567 yX12_tellsParent, Cond.instanceMethod yX12_tellsParent, Cond.selects RX12 yX12_tellsParent yX12_tellsParent, Cond.code yX12_tellsParent cX12_tellsParent 4 none, Cond.methodLink RX12 639 yX12_goesOnAsNew, Cond.instanceMethod yX12_goesOnAsNew, Cond.selects RX12 yX12_goesOnAsNew yX12_goesOnAsNew, Cond.code yX12_goesOnAsNew cX12_goesOnAsNew 7 none]
def wsL_law0_r64 : List Cond := [Cond.methodLink RL 199 yL_die, Cond.static yL_die, Cond.codeWith yL_die cL_die 4 (some .int) [(0, 9, 12, 13)], Cond.methodLink RL 70 yX11_die, Cond.instanceMethod yX11_die, Cond.selects RX11 yX11_die yX11_die, Cond.code yX11_die cX11_die 5 (some .int), Cond.methodLink RL 201 yX12_die, Cond.instanceMethod yX12_die, Cond.selects RX12 yX12_die yX12_die, Cond.code yX12_die cX12_die 5 (some .int), Cond.methodLink RL 202 yL_replays, Cond.static yL_replays, Cond.codeWith yL_replays cL_replays 4 (some .int) [(0, 9, 12, 13)], Cond.methodLink RL 73 yX11_replays, Cond.instanceMethod yX11_replays, Cond.selects RX11 yX11_replays yX11_replays, Cond.code yX11_replays cX11_replays 2 (some .int), Cond.methodLink RL 204 yX12_replays, Cond.instanceMethod yX12_replays, Cond.selects RX12 yX12_replays yX12_replays, Cond.code yX12_replays cX12_replays 2 (some .int), Cond.methodLink RL 205 yL_take, Cond.static yL_take]
def wsL_law0_r65 : List Cond := [Cond.codeWith yL_take cL_take 4 (some .int) [(0, 9, 12, 13)], Cond.methodLink RL 76 yX11_take, Cond.instanceMethod yX11_take, Cond.selects RX11 yX11_take yX11_take, Cond.code yX11_take cX11_take 4 (some .int), Cond.fieldLink RX11 349 "DurableLoom$Activity" "kind" "I", Cond.fieldLink RX11 353 "DurableLoom$Activity" "ready" "I", Cond.fieldLink RX11 359 "DurableLoom$Activity" "input" "I", Cond.methodLink RX11 356 yX0_beTaken, Cond.instanceMethod yX0_beTaken, Cond.selects RX0 yX0_beTaken yX0_beTaken, Cond.code yX0_beTaken cX0_beTaken 2 none, Cond.methodLink RL 207 yX12_take, Cond.instanceMethod yX12_take, Cond.selects RX12 yX12_take yX12_take, Cond.code yX12_take cX12_take 3 (some .int), Cond.methodLink RL 208 yL_answer, Cond.static yL_answer, Cond.codeWith yL_answer cL_answer 5 (some .int) [(0, 17, 20, 13), (0, 17, 24, 15)], Cond.methodLink RL 79 yX11_answer, Cond.instanceMethod yX11_answer, Cond.selects RX11 yX11_answer yX11_answer, Cond.code yX11_answer cX11_answer 4 (some .boolean), Cond.methodLink RX11 362 yX11_activityAt]
def wsL_law0_r66 : List Cond := [Cond.instanceMethod yX11_activityAt, Cond.selects RX11 yX11_activityAt yX11_activityAt, Cond.code yX11_activityAt cX11_activityAt 2 (some (.object "DurableLoom$Activity")), Cond.methodLink RL 210 yX12_answer, Cond.instanceMethod yX12_answer, Cond.selects RX12 yX12_answer yX12_answer, Cond.code yX12_answer cX12_answer 4 (some .boolean), Cond.methodLink RX12 642 yX12_isActivity, Cond.instanceMethod yX12_isActivity, Cond.selects RX12 yX12_isActivity yX12_isActivity, Cond.code yX12_isActivity cX12_isActivity 2 (some .boolean), Cond.methodLink RL 211 yL_fail, Cond.static yL_fail, Cond.codeWith yL_fail cL_fail 5 (some .int) [(0, 17, 20, 13)], Cond.methodLink RL 83 yX11_fail, Cond.instanceMethod yX11_fail, Cond.selects RX11 yX11_fail yX11_fail, Cond.code yX11_fail cX11_fail 4 (some .boolean), Cond.methodLink RX11 370 yX11_failAttempt, Cond.instanceMethod yX11_failAttempt, Cond.selects RX11 yX11_failAttempt yX11_failAttempt, Cond.code yX11_failAttempt cX11_failAttempt 4 none, Cond.fieldLink RX11 380 "DurableLoom$Activity" "attempts" "I", Cond.methodLink RL 214 yX12_fail]
def wsL_law0_r67 : List Cond := [Cond.instanceMethod yX12_fail, Cond.selects RX12 yX12_fail yX12_fail, Cond.code yX12_fail cX12_fail 3 (some .boolean), Cond.methodLink RX12 645 yX12_misses, Cond.instanceMethod yX12_misses, Cond.selects RX12 yX12_misses yX12_misses, Cond.code yX12_misses cX12_misses 3 none, Cond.methodLink RL 215 yL_beat, Cond.static yL_beat, Cond.codeWith yL_beat cL_beat 5 (some .int) [(0, 10, 13, 13), (0, 10, 17, 15)], Cond.methodLink RL 87 yX11_beat, Cond.instanceMethod yX11_beat, Cond.selects RX11 yX11_beat yX11_beat, Cond.code yX11_beat cX11_beat 5 (some .int), Cond.fieldLink RX11 374 "DurableLoom$Activity" "progress" "I", Cond.fieldLink RX11 377 "DurableLoom$Activity" "beatAt" "I", Cond.methodLink RL 217 yX12_beat, Cond.instanceMethod yX12_beat, Cond.selects RX12 yX12_beat yX12_beat, Cond.code yX12_beat cX12_beat 5 (some .int), Cond.methodLink RL 218 yL_activity, Cond.static yL_activity, Cond.codeWith yL_activity cL_activity 4 (some .int) [(0, 9, 12, 13)], Cond.methodLink RL 90 yX11_activity]
def wsL_law0_r68 : List Cond := [Cond.instanceMethod yX11_activity, Cond.selects RX11 yX11_activity yX11_activity, Cond.code yX11_activity cX11_activity 3 (some .int), Cond.methodLink RL 220 yX12_activity, Cond.instanceMethod yX12_activity, Cond.selects RX12 yX12_activity yX12_activity, Cond.code yX12_activity cX12_activity 2 (some .int), Cond.methodLink RL 221 yL_pass, Cond.static yL_pass, Cond.codeWith yL_pass cL_pass 4 (some .int) [(0, 9, 12, 15)], Cond.methodLink RL 93 yX11_pass, Cond.instanceMethod yX11_pass, Cond.selects RX11 yX11_pass yX11_pass, Cond.code yX11_pass cX11_pass 4 (some .int), Cond.classLink RX11 394 "DurableLoom$Schedule", Cond.methodLink RX11 383 yX11_beginTick, Cond.instanceMethod yX11_beginTick, Cond.selects RX11 yX11_beginTick yX11_beginTick, Cond.code yX11_beginTick cX11_beginTick 2 none, Cond.methodLink RX11 386 yX11_fireTimers, Cond.instanceMethod yX11_fireTimers, Cond.selects RX11 yX11_fireTimers yX11_fireTimers, Cond.code yX11_fireTimers cX11_fireTimers 5 none, Cond.methodLink RX11 635 yX5_removeAt]
def wsL_law0_r69 : List Cond := [Cond.methodLink RX11 390 yX11_lookAtActivity, Cond.instanceMethod yX11_lookAtActivity, Cond.selects RX11 yX11_lookAtActivity yX11_lookAtActivity, Cond.code yX11_lookAtActivity cX11_lookAtActivity 3 none, Cond.fieldLink RX11 638 "DurableLoom$Activity" "madeAt" "I", Cond.fieldLink RX11 645 "DurableLoom$Activity" "takenAt" "I", Cond.methodLink RX11 641 yX11_isReached, Cond.instanceMethod yX11_isReached, Cond.selects RX11 yX11_isReached yX11_isReached, Cond.code yX11_isReached cX11_isReached 3 (some .boolean), Cond.methodLink RX11 396 yX11_lookAtSchedule, Cond.instanceMethod yX11_lookAtSchedule, Cond.selects RX11 yX11_lookAtSchedule yX11_lookAtSchedule, Cond.code yX11_lookAtSchedule cX11_lookAtSchedule 4 none, Cond.fieldLink RX11 648 "DurableLoom$Schedule" "waiting" "Z", Cond.fieldLink RX11 655 "DurableLoom$Schedule" "waitingInput" "I", Cond.fieldLink RX11 662 "DurableLoom$Schedule" "lookedTo" "I", Cond.fieldLink RX11 483 "DurableLoom$Schedule" "paused" "Z", Cond.methodLink RX11 632 Lib.Math.max.name, Cond.methodLink RX11 651 yX11_lastIsOpen, Cond.instanceMethod yX11_lastIsOpen, Cond.selects RX11 yX11_lastIsOpen yX11_lastIsOpen, Cond.code yX11_lastIsOpen cX11_lastIsOpen 2 (some .boolean), Cond.fieldLink RX11 674 "DurableLoom$Schedule" "lastRun" "I"]
def wsL_law0_r70 : List Cond := [Cond.methodLink RX11 658 yX11_startFor, Cond.instanceMethod yX11_startFor, Cond.selects RX11 yX11_startFor yX11_startFor, Cond.code yX11_startFor cX11_startFor 3 none, Cond.fieldLink RX11 491 "DurableLoom$Schedule" "type" "I", Cond.fieldLink RX11 492 "DurableLoom$Schedule" "tenant" "I", Cond.methodLink RX11 665 yX7_isPoint, Cond.instanceMethod yX7_isPoint, Cond.selects RX7 yX7_isPoint yX7_isPoint, Cond.initialized RX7, Cond.code yX7_isPoint cX7_isPoint 2 (some .boolean), Cond.fieldLink RX7 29 "DurableLoom$Schedule" "period" "I", Cond.methodLink RX7 38 yJ9_floorMod_7cf53, Cond.methodLink RX11 668 yX11_meetPoint, Cond.instanceMethod yX11_meetPoint, Cond.selects RX11 yX11_meetPoint yX11_meetPoint, Cond.code yX11_meetPoint cX11_meetPoint 3 none, Cond.fieldLink RX11 671 "DurableLoom$Schedule" "overlap" "I", Cond.methodLink RL 223 yX12_pass, Cond.instanceMethod yX12_pass, Cond.selects RX12 yX12_pass yX12_pass, Cond.code yX12_pass cX12_pass 4 (some .int), Cond.fieldLink RX12 655 "DurableLoomModel" "schedules" "I", Cond.methodLink RX12 649 yX12_fires]
def wsL_law0_r71 : List Cond := [Cond.instanceMethod yX12_fires, Cond.selects RX12 yX12_fires yX12_fires, Cond.code yX12_fires cX12_fires 5 none, Cond.methodLink RX12 652 yX12_looksAtActivities, Cond.instanceMethod yX12_looksAtActivities, Cond.selects RX12 yX12_looksAtActivities yX12_looksAtActivities, Cond.code yX12_looksAtActivities cX12_looksAtActivities 6 none, Cond.methodLink RX12 658 yX12_looksAtSchedule, Cond.instanceMethod yX12_looksAtSchedule, Cond.selects RX12 yX12_looksAtSchedule yX12_looksAtSchedule, Cond.code yX12_looksAtSchedule cX12_looksAtSchedule 4 none, Cond.fieldLink RX12 691 "DurableLoomModel" "offset" "I", Cond.methodLink RX12 697 yX12_isRunning, Cond.instanceMethod yX12_isRunning, Cond.selects RX12 yX12_isRunning yX12_isRunning, Cond.code yX12_isRunning cX12_isRunning 2 (some .boolean), Cond.methodLink RX12 700 yX12_comes, Cond.instanceMethod yX12_comes, Cond.selects RX12 yX12_comes yX12_comes, Cond.code yX12_comes cX12_comes 4 none, Cond.methodLink RX12 694 yX12_beginsFor, Cond.instanceMethod yX12_beginsFor, Cond.selects RX12 yX12_beginsFor yX12_beginsFor, Cond.code yX12_beginsFor cX12_beginsFor 4 (some .int)]
def wsL_law0_r72 : List Cond := [Cond.methodLink RX12 703 yX12_ofThousand, Cond.static yX12_ofThousand, Cond.code yX12_ofThousand cX12_ofThousand 2 (some .int), Cond.methodLink RX12 706 yX12_point, Cond.instanceMethod yX12_point, Cond.selects RX12 yX12_point yX12_point, Cond.code yX12_point cX12_point 3 none, Cond.methodLink RL 224 yL_unsafe, Cond.static yL_unsafe, Cond.codeWith yL_unsafe cL_unsafe 5 (some .int) [(0, 10, 13, 13)], Cond.methodLink RL 96 yX11_unsafe, Cond.instanceMethod yX11_unsafe, Cond.selects RX11 yX11_unsafe yX11_unsafe, Cond.code yX11_unsafe cX11_unsafe 6 (some .int), Cond.methodLink RX11 400 yX11_checkVersion, Cond.instanceMethod yX11_checkVersion, Cond.selects RX11 yX11_checkVersion yX11_checkVersion, Cond.code yX11_checkVersion cX11_checkVersion 3 none, Cond.methodLink RL 226 yX12_unsafe, Cond.instanceMethod yX12_unsafe, Cond.selects RX12 yX12_unsafe yX12_unsafe, Cond.code yX12_unsafe cX12_unsafe 5 (some .int), Cond.methodLink RX12 661 yX12_isVersion, Cond.instanceMethod yX12_isVersion]
def wsL_law0_r73 : List Cond := [Cond.selects RX12 yX12_isVersion yX12_isVersion, Cond.code yX12_isVersion cX12_isVersion 3 (some .boolean), Cond.methodLink RL 227 yL_move, Cond.static yL_move, Cond.codeWith yL_move cL_move 5 (some .int) [(0, 17, 20, 13), (0, 17, 24, 17)], Cond.methodLink RL 99 yX11_move, Cond.instanceMethod yX11_move, Cond.selects RX11 yX11_move yX11_move, Cond.code yX11_move cX11_move 4 (some .boolean), Cond.methodLink RL 229 yX12_move, Cond.instanceMethod yX12_move, Cond.selects RX12 yX12_move yX12_move, Cond.code yX12_move cX12_move 4 (some .boolean), Cond.methodLink RL 230 yL_setBack, Cond.static yL_setBack, Cond.codeWith yL_setBack cL_setBack 5 (some .int) [(0, 10, 13, 13), (0, 10, 17, 17)], Cond.methodLink RL 102 yX11_setBack, Cond.instanceMethod yX11_setBack, Cond.selects RX11 yX11_setBack yX11_setBack, Cond.code yX11_setBack cX11_setBack 6 (some .int), Cond.methodLink RX11 407 yX2_taskAt, Cond.instanceMethod yX2_taskAt, Cond.selects RX2 yX2_taskAt yX2_taskAt, Cond.code yX2_taskAt cX2_taskAt 4 (some .int)]
def wsL_law0_r74 : List Cond := [Cond.methodLink RX11 423 yX2_becomeFirst, Cond.instanceMethod yX2_becomeFirst, Cond.selects RX2 yX2_becomeFirst yX2_becomeFirst, Cond.code yX2_becomeFirst cX2_becomeFirst 3 none, Cond.methodLink RX2 47 yX5_becomeFirst, Cond.instanceMethod yX5_becomeFirst, Cond.selects RX5 yX5_becomeFirst yX5_becomeFirst, Cond.code yX5_becomeFirst cX5_becomeFirst 6 none, Cond.methodLink RX5 45 yX5_add, Cond.methodLink RX11 430 yX11_partFromChildren, Cond.instanceMethod yX11_partFromChildren, Cond.selects RX11 yX11_partFromChildren yX11_partFromChildren, Cond.code yX11_partFromChildren cX11_partFromChildren 5 none, Cond.methodLink RX11 434 yX11_restoreWork, Cond.instanceMethod yX11_restoreWork, Cond.selects RX11 yX11_restoreWork yX11_restoreWork, Cond.code yX11_restoreWork cX11_restoreWork 6 none, Cond.methodLink RX11 626 yX2_hasEnded, Cond.instanceMethod yX2_hasEnded, Cond.selects RX2 yX2_hasEnded yX2_hasEnded, Cond.code yX2_hasEnded cX2_hasEnded 4 (some .boolean), Cond.methodLink RX11 629 yX2_timeOfCommand, Cond.instanceMethod yX2_timeOfCommand, Cond.selects RX2 yX2_timeOfCommand yX2_timeOfCommand]
def wsL_law0_r75 : List Cond := [Cond.code yX2_timeOfCommand cX2_timeOfCommand 2 (some .int), Cond.methodLink RL 232 yX12_setBack, Cond.instanceMethod yX12_setBack, Cond.selects RX12 yX12_setBack yX12_setBack, Cond.code yX12_setBack cX12_setBack 7 (some .int), Cond.methodLink RX12 670 yX12_taskAt, Cond.instanceMethod yX12_taskAt, Cond.selects RX12 yX12_taskAt yX12_taskAt, Cond.code yX12_taskAt cX12_taskAt 5 (some .int), Cond.methodLink RX12 673 yX12_recounts, Cond.instanceMethod yX12_recounts, Cond.selects RX12 yX12_recounts yX12_recounts, Cond.code yX12_recounts cX12_recounts 3 none, Cond.methodLink RX12 676 yX12_beginsAnew, Cond.instanceMethod yX12_beginsAnew, Cond.selects RX12 yX12_beginsAnew yX12_beginsAnew, Cond.code yX12_beginsAnew cX12_beginsAnew 5 none, Cond.methodLink RX12 664 yX12_marks, Cond.instanceMethod yX12_marks, Cond.selects RX12 yX12_marks yX12_marks, Cond.code yX12_marks cX12_marks 5 none, Cond.methodLink RX12 667 yX12_isBack, Cond.instanceMethod yX12_isBack, Cond.selects RX12 yX12_isBack yX12_isBack]
def wsL_law0_r76 : List Cond := [Cond.code yX12_isBack cX12_isBack 2 (some .boolean), Cond.methodLink RL 233 yL_copy, Cond.static yL_copy, Cond.codeWith yL_copy cL_copy 5 (some .int) [(0, 10, 13, 13), (0, 10, 17, 15)], Cond.methodLink RL 105 yX11_copy, Cond.instanceMethod yX11_copy, Cond.selects RX11 yX11_copy yX11_copy, Cond.code yX11_copy cX11_copy 4 (some .int), Cond.fieldLink RX11 443 "DurableLoom$Run" "copied" "I", Cond.methodLink RX11 446 Lib.Math.min.name, Cond.methodLink RL 235 yX12_copy, Cond.instanceMethod yX12_copy, Cond.selects RX12 yX12_copy yX12_copy, Cond.code yX12_copy cX12_copy 3 (some .int), Cond.methodLink RX12 679 yX12_least, Cond.static yX12_least, Cond.code yX12_least cX12_least 2 (some .int), Cond.methodLink RL 236 yL_takeOver, Cond.static yL_takeOver, Cond.codeWith yL_takeOver cL_takeOver 3 (some .int) [(0, 8, 11, 17)], Cond.classLink RL 17 "java/lang/IllegalStateException", Cond.methodLink RL 108 yX11_takeOver, Cond.instanceMethod yX11_takeOver, Cond.selects RX11 yX11_takeOver yX11_takeOver]
def wsL_law0_r77 : List Cond := [Cond.code yX11_takeOver cX11_takeOver 4 (some .int), Cond.methodLink RX11 454 yX11_loseEvents, Cond.instanceMethod yX11_loseEvents, Cond.selects RX11 yX11_loseEvents yX11_loseEvents, Cond.code yX11_loseEvents cX11_loseEvents 5 (some .int), Cond.fieldLink RX11 463 "DurableLoom$Run" "lost" "LDurableLoom$Row;", Cond.fieldLink RX11 623 "DurableLoom$Run" "cuts" "I", Cond.methodLink RX11 622 yX2_cut, Cond.methodLink RL 239 yX12_takeOver, Cond.instanceMethod yX12_takeOver, Cond.selects RX12 yX12_takeOver yX12_takeOver, Cond.code yX12_takeOver cX12_takeOver 3 (some .int), Cond.fieldLink RX12 685 "DurableLoomModel" "isTakenOver" "Z", Cond.methodLink RX12 688 yX12_cutsRun, Cond.instanceMethod yX12_cutsRun, Cond.selects RX12 yX12_cutsRun yX12_cutsRun, Cond.code yX12_cutsRun cX12_cutsRun 4 (some .int), Cond.fieldLink RX12 682 "DurableLoomModel" "lost" "I", Cond.methodLink RL 240 yL_join, Cond.static yL_join, Cond.codeWith yL_join cL_join 3 (some .int) [(0, 8, 11, 17)], Cond.methodLink RL 112 yX11_join, Cond.instanceMethod yX11_join, Cond.selects RX11 yX11_join yX11_join]
def wsL_law0_r78 : List Cond := [Cond.code yX11_join cX11_join 6 (some .int), Cond.methodLink RL 242 yX12_join, Cond.instanceMethod yX12_join, Cond.selects RX12 yX12_join yX12_join, Cond.code yX12_join cX12_join 3 (some .int), Cond.methodLink RL 243 yL_schedule, Cond.static yL_schedule, Cond.codeWith yL_schedule cL_schedule 7 (some .int) [(0, 14, 17, 13), (0, 14, 21, 15), (0, 14, 25, 17)], Cond.methodLink RL 115 yX11_schedule, Cond.instanceMethod yX11_schedule, Cond.selects RX11 yX11_schedule yX11_schedule, Cond.code yX11_schedule cX11_schedule 6 (some .int), Cond.classLink RX11 394 RX7, Cond.instantiable RX7 9, Cond.methodLink RX11 476 yX7_init, Cond.instanceMethod yX7_init, Cond.code yX7_init cX7_init 6 none, Cond.methodLink RX7 1 objectInit, Cond.fieldLink RX7 7 "DurableLoom$Schedule" "paused" "Z", Cond.fieldLink RX7 13 "DurableLoom$Schedule" "lastRun" "I", Cond.fieldLink RX7 17 "DurableLoom$Schedule" "waiting" "Z", Cond.fieldLink RX7 20 "DurableLoom$Schedule" "waitingInput" "I", Cond.fieldLink RX7 23 "DurableLoom$Schedule" "type" "I", Cond.fieldLink RX7 26 "DurableLoom$Schedule" "tenant" "I"]
def wsL_law0_r79 : List Cond := [Cond.fieldLink RX7 32 "DurableLoom$Schedule" "overlap" "I", Cond.fieldLink RX7 35 "DurableLoom$Schedule" "lookedTo" "I", Cond.methodLink RL 245 yX12_schedule, Cond.instanceMethod yX12_schedule, Cond.selects RX12 yX12_schedule yX12_schedule, Cond.code yX12_schedule cX12_schedule 7 (some .int), Cond.methodLink RL 246 yL_togglePause, Cond.static yL_togglePause, Cond.codeWith yL_togglePause cL_togglePause 4 (some .int) [(0, 16, 19, 13)], Cond.methodLink RL 118 yX11_togglePause, Cond.instanceMethod yX11_togglePause, Cond.selects RX11 yX11_togglePause yX11_togglePause, Cond.code yX11_togglePause cX11_togglePause 3 (some .boolean), Cond.methodLink RX11 479 yX11_scheduleAt, Cond.instanceMethod yX11_scheduleAt, Cond.selects RX11 yX11_scheduleAt yX11_scheduleAt, Cond.code yX11_scheduleAt cX11_scheduleAt 2 (some (.object "DurableLoom$Schedule")), Cond.methodLink RL 248 yX12_togglePause, Cond.instanceMethod yX12_togglePause, Cond.selects RX12 yX12_togglePause yX12_togglePause, Cond.code yX12_togglePause cX12_togglePause 2 (some .boolean), Cond.methodLink RX12 709 yX12_isSchedule, Cond.instanceMethod yX12_isSchedule, Cond.selects RX12 yX12_isSchedule yX12_isSchedule]
def wsL_law0_r80 : List Cond := [Cond.code yX12_isSchedule cX12_isSchedule 2 (some .boolean), Cond.methodLink RL 249 yL_backfill, Cond.static yL_backfill, Cond.codeWith yL_backfill cL_backfill 5 (some .int) [(0, 10, 13, 13), (0, 10, 17, 15)], Cond.methodLink RL 121 yX11_backfill, Cond.instanceMethod yX11_backfill, Cond.selects RX11 yX11_backfill yX11_backfill, Cond.code yX11_backfill cX11_backfill 8 (some .int), Cond.fieldLink RX11 493 "DurableLoom$Schedule" "period" "I", Cond.methodLink RX11 488 yX7_pointsSoFar, Cond.instanceMethod yX7_pointsSoFar, Cond.selects RX7 yX7_pointsSoFar yX7_pointsSoFar, Cond.code yX7_pointsSoFar cX7_pointsSoFar 1 (some .int), Cond.methodLink RL 251 yX12_backfill, Cond.instanceMethod yX12_backfill, Cond.selects RX12 yX12_backfill yX12_backfill, Cond.code yX12_backfill cX12_backfill 6 (some .int), Cond.methodLink RL 252 yL_shift, Cond.static yL_shift, Cond.codeWith yL_shift cL_shift 4 (some .int) [(0, 9, 12, 15)], Cond.methodLink RL 124 yX11_shift, Cond.instanceMethod yX11_shift, Cond.selects RX11 yX11_shift yX11_shift, Cond.code yX11_shift cX11_shift 2 (some .int)]
def wsL_law0_r81 : List Cond := [Cond.methodLink RL 254 yX12_shift, Cond.instanceMethod yX12_shift, Cond.selects RX12 yX12_shift yX12_shift, Cond.code yX12_shift cX12_shift 2 (some .int), Cond.methodLink RL 255 yL_bringIn, Cond.static yL_bringIn, Cond.codeWith yL_bringIn cL_bringIn 4 (some .int) [(0, 9, 12, 15)], Cond.methodLink RL 127 yX11_bringIn, Cond.instanceMethod yX11_bringIn, Cond.selects RX11 yX11_bringIn yX11_bringIn, Cond.code yX11_bringIn cX11_bringIn 5 (some .int), Cond.fieldLink RX11 501 "DurableLoom$Run" "tag" "I", Cond.methodLink RL 257 yX12_bringIn, Cond.instanceMethod yX12_bringIn, Cond.selects RX12 yX12_bringIn yX12_bringIn, Cond.code yX12_bringIn cX12_bringIn 3 (some .int), Cond.fieldLink RX12 712 "DurableLoomModel" "tagsFrom" "I", Cond.methodLink RL 258 yL_search, Cond.static yL_search, Cond.codeWith yL_search cL_search 4 (some .int) [(0, 9, 12, 15)], Cond.methodLink RL 130 yX11_search, Cond.instanceMethod yX11_search, Cond.selects RX11 yX11_search yX11_search, Cond.code yX11_search cX11_search 4 (some .int)]
def wsL_law0_r82 : List Cond := [Cond.methodLink RL 260 yX12_search, Cond.instanceMethod yX12_search, Cond.selects RX12 yX12_search yX12_search, Cond.code yX12_search cX12_search 4 (some .int)]
def wsL_law0 : List Cond := (wsL_law0_r1 ++ (wsL_law0_r2 ++ (wsL_law0_r3 ++ (wsL_law0_r4 ++ (wsL_law0_r5 ++ (wsL_law0_r6 ++ (wsL_law0_r7 ++ (wsL_law0_r8 ++ (wsL_law0_r9 ++ (wsL_law0_r10 ++ (wsL_law0_r11 ++ (wsL_law0_r12 ++ (wsL_law0_r13 ++ (wsL_law0_r14 ++ (wsL_law0_r15 ++ (wsL_law0_r16 ++ (wsL_law0_r17 ++ (wsL_law0_r18 ++ (wsL_law0_r19 ++ (wsL_law0_r20 ++ (wsL_law0_r21 ++ (wsL_law0_r22 ++ (wsL_law0_r23 ++ (wsL_law0_r24 ++ (wsL_law0_r25 ++ (wsL_law0_r26 ++ (wsL_law0_r27 ++ (wsL_law0_r28 ++ (wsL_law0_r29 ++ (wsL_law0_r30 ++ (wsL_law0_r31 ++ (wsL_law0_r32 ++ (wsL_law0_r33 ++ (wsL_law0_r34 ++ (wsL_law0_r35 ++ (wsL_law0_r36 ++ (wsL_law0_r37 ++ (wsL_law0_r38 ++ (wsL_law0_r39 ++ (wsL_law0_r40 ++ (wsL_law0_r41 ++ (wsL_law0_r42 ++ (wsL_law0_r43 ++ (wsL_law0_r44 ++ (wsL_law0_r45 ++ (wsL_law0_r46 ++ (wsL_law0_r47 ++ (wsL_law0_r48 ++ (wsL_law0_r49 ++ (wsL_law0_r50 ++ (wsL_law0_r51 ++ (wsL_law0_r52 ++ (wsL_law0_r53 ++ (wsL_law0_r54 ++ (wsL_law0_r55 ++ (wsL_law0_r56 ++ (wsL_law0_r57 ++ (wsL_law0_r58 ++ (wsL_law0_r59 ++ (wsL_law0_r60 ++ (wsL_law0_r61 ++ (wsL_law0_r62 ++ (wsL_law0_r63 ++ (wsL_law0_r64 ++ (wsL_law0_r65 ++ (wsL_law0_r66 ++ (wsL_law0_r67 ++ (wsL_law0_r68 ++ (wsL_law0_r69 ++ (wsL_law0_r70 ++ (wsL_law0_r71 ++ (wsL_law0_r72 ++ (wsL_law0_r73 ++ (wsL_law0_r74 ++ (wsL_law0_r75 ++ (wsL_law0_r76 ++ (wsL_law0_r77 ++ (wsL_law0_r78 ++ (wsL_law0_r79 ++ (wsL_law0_r80 ++ (wsL_law0_r81 ++ wsL_law0_r82))))))))))))))))))))))))))))))))))))))))))))))))))))))))))))))))))))))))))))))))) ++ wsX110 ++ wsX120 ++ wsJx4a65c0 ++ wsX50 ++ wsX40 ++ wsX100 ++ wsX30 ++ wsX80 ++ wsX20 ++ wsX10 ++ wsX60 ++ wsX90 ++ wsX00 ++ wsX70 ++ ([] : List Cond)
def wsL_law : List Cond := wsL_law0 ++ (vx_atS RX11 100 "java/lang/IllegalArgumentException" ["java/lang/RuntimeException", "java/lang/Exception"]).filter goodWord ++ (vx_atS RX11 115 "java/lang/IllegalStateException" ["java/lang/RuntimeException", "java/lang/Exception"]).filter goodWord ++ (vx_atS RX11 259 "java/lang/IndexOutOfBoundsException" ["java/lang/RuntimeException", "java/lang/Exception"]).filter goodWord
theorem gd_wsL_law0_r1 : wsL_law0_r1.all goodWord = true := by decide +kernel
theorem gd_wsL_law0_r2 : wsL_law0_r2.all goodWord = true := by decide +kernel
theorem gd_wsL_law0_r3 : wsL_law0_r3.all goodWord = true := by decide +kernel
theorem gd_wsL_law0_r4 : wsL_law0_r4.all goodWord = true := by decide +kernel
theorem gd_wsL_law0_r5 : wsL_law0_r5.all goodWord = true := by decide +kernel
theorem gd_wsL_law0_r6 : wsL_law0_r6.all goodWord = true := by decide +kernel
theorem gd_wsL_law0_r7 : wsL_law0_r7.all goodWord = true := by decide +kernel
theorem gd_wsL_law0_r8 : wsL_law0_r8.all goodWord = true := by decide +kernel
theorem gd_wsL_law0_r9 : wsL_law0_r9.all goodWord = true := by decide +kernel
theorem gd_wsL_law0_r10 : wsL_law0_r10.all goodWord = true := by decide +kernel
theorem gd_wsL_law0_r11 : wsL_law0_r11.all goodWord = true := by decide +kernel
theorem gd_wsL_law0_r12 : wsL_law0_r12.all goodWord = true := by decide +kernel
theorem gd_wsL_law0_r13 : wsL_law0_r13.all goodWord = true := by decide +kernel
theorem gd_wsL_law0_r14 : wsL_law0_r14.all goodWord = true := by decide +kernel
theorem gd_wsL_law0_r15 : wsL_law0_r15.all goodWord = true := by decide +kernel
theorem gd_wsL_law0_r16 : wsL_law0_r16.all goodWord = true := by decide +kernel
theorem gd_wsL_law0_r17 : wsL_law0_r17.all goodWord = true := by decide +kernel
theorem gd_wsL_law0_r18 : wsL_law0_r18.all goodWord = true := by decide +kernel
theorem gd_wsL_law0_r19 : wsL_law0_r19.all goodWord = true := by decide +kernel
theorem gd_wsL_law0_r20 : wsL_law0_r20.all goodWord = true := by decide +kernel
theorem gd_wsL_law0_r21 : wsL_law0_r21.all goodWord = true := by decide +kernel
theorem gd_wsL_law0_r22 : wsL_law0_r22.all goodWord = true := by decide +kernel
theorem gd_wsL_law0_r23 : wsL_law0_r23.all goodWord = true := by decide +kernel
theorem gd_wsL_law0_r24 : wsL_law0_r24.all goodWord = true := by decide +kernel
theorem gd_wsL_law0_r25 : wsL_law0_r25.all goodWord = true := by decide +kernel
theorem gd_wsL_law0_r26 : wsL_law0_r26.all goodWord = true := by decide +kernel
theorem gd_wsL_law0_r27 : wsL_law0_r27.all goodWord = true := by decide +kernel
theorem gd_wsL_law0_r28 : wsL_law0_r28.all goodWord = true := by decide +kernel
theorem gd_wsL_law0_r29 : wsL_law0_r29.all goodWord = true := by decide +kernel
theorem gd_wsL_law0_r30 : wsL_law0_r30.all goodWord = true := by decide +kernel
theorem gd_wsL_law0_r31 : wsL_law0_r31.all goodWord = true := by decide +kernel
theorem gd_wsL_law0_r32 : wsL_law0_r32.all goodWord = true := by decide +kernel
theorem gd_wsL_law0_r33 : wsL_law0_r33.all goodWord = true := by decide +kernel
theorem gd_wsL_law0_r34 : wsL_law0_r34.all goodWord = true := by decide +kernel
theorem gd_wsL_law0_r35 : wsL_law0_r35.all goodWord = true := by decide +kernel
theorem gd_wsL_law0_r36 : wsL_law0_r36.all goodWord = true := by decide +kernel
theorem gd_wsL_law0_r37 : wsL_law0_r37.all goodWord = true := by decide +kernel
theorem gd_wsL_law0_r38 : wsL_law0_r38.all goodWord = true := by decide +kernel
theorem gd_wsL_law0_r39 : wsL_law0_r39.all goodWord = true := by decide +kernel
theorem gd_wsL_law0_r40 : wsL_law0_r40.all goodWord = true := by decide +kernel
theorem gd_wsL_law0_r41 : wsL_law0_r41.all goodWord = true := by decide +kernel
theorem gd_wsL_law0_r42 : wsL_law0_r42.all goodWord = true := by decide +kernel
theorem gd_wsL_law0_r43 : wsL_law0_r43.all goodWord = true := by decide +kernel
theorem gd_wsL_law0_r44 : wsL_law0_r44.all goodWord = true := by decide +kernel
theorem gd_wsL_law0_r45 : wsL_law0_r45.all goodWord = true := by decide +kernel
theorem gd_wsL_law0_r46 : wsL_law0_r46.all goodWord = true := by decide +kernel
theorem gd_wsL_law0_r47 : wsL_law0_r47.all goodWord = true := by decide +kernel
theorem gd_wsL_law0_r48 : wsL_law0_r48.all goodWord = true := by decide +kernel
theorem gd_wsL_law0_r49 : wsL_law0_r49.all goodWord = true := by decide +kernel
theorem gd_wsL_law0_r50 : wsL_law0_r50.all goodWord = true := by decide +kernel
theorem gd_wsL_law0_r51 : wsL_law0_r51.all goodWord = true := by decide +kernel
theorem gd_wsL_law0_r52 : wsL_law0_r52.all goodWord = true := by decide +kernel
theorem gd_wsL_law0_r53 : wsL_law0_r53.all goodWord = true := by decide +kernel
theorem gd_wsL_law0_r54 : wsL_law0_r54.all goodWord = true := by decide +kernel
theorem gd_wsL_law0_r55 : wsL_law0_r55.all goodWord = true := by decide +kernel
theorem gd_wsL_law0_r56 : wsL_law0_r56.all goodWord = true := by decide +kernel
theorem gd_wsL_law0_r57 : wsL_law0_r57.all goodWord = true := by decide +kernel
theorem gd_wsL_law0_r58 : wsL_law0_r58.all goodWord = true := by decide +kernel
theorem gd_wsL_law0_r59 : wsL_law0_r59.all goodWord = true := by decide +kernel
theorem gd_wsL_law0_r60 : wsL_law0_r60.all goodWord = true := by decide +kernel
theorem gd_wsL_law0_r61 : wsL_law0_r61.all goodWord = true := by decide +kernel
theorem gd_wsL_law0_r62 : wsL_law0_r62.all goodWord = true := by decide +kernel
theorem gd_wsL_law0_r63 : wsL_law0_r63.all goodWord = true := by decide +kernel
theorem gd_wsL_law0_r64 : wsL_law0_r64.all goodWord = true := by decide +kernel
theorem gd_wsL_law0_r65 : wsL_law0_r65.all goodWord = true := by decide +kernel
theorem gd_wsL_law0_r66 : wsL_law0_r66.all goodWord = true := by decide +kernel
theorem gd_wsL_law0_r67 : wsL_law0_r67.all goodWord = true := by decide +kernel
theorem gd_wsL_law0_r68 : wsL_law0_r68.all goodWord = true := by decide +kernel
theorem gd_wsL_law0_r69 : wsL_law0_r69.all goodWord = true := by decide +kernel
theorem gd_wsL_law0_r70 : wsL_law0_r70.all goodWord = true := by decide +kernel
theorem gd_wsL_law0_r71 : wsL_law0_r71.all goodWord = true := by decide +kernel
theorem gd_wsL_law0_r72 : wsL_law0_r72.all goodWord = true := by decide +kernel
theorem gd_wsL_law0_r73 : wsL_law0_r73.all goodWord = true := by decide +kernel
theorem gd_wsL_law0_r74 : wsL_law0_r74.all goodWord = true := by decide +kernel
theorem gd_wsL_law0_r75 : wsL_law0_r75.all goodWord = true := by decide +kernel
theorem gd_wsL_law0_r76 : wsL_law0_r76.all goodWord = true := by decide +kernel
theorem gd_wsL_law0_r77 : wsL_law0_r77.all goodWord = true := by decide +kernel
theorem gd_wsL_law0_r78 : wsL_law0_r78.all goodWord = true := by decide +kernel
theorem gd_wsL_law0_r79 : wsL_law0_r79.all goodWord = true := by decide +kernel
theorem gd_wsL_law0_r80 : wsL_law0_r80.all goodWord = true := by decide +kernel
theorem gd_wsL_law0_r81 : wsL_law0_r81.all goodWord = true := by decide +kernel
theorem gd_wsL_law0_r82 : wsL_law0_r82.all goodWord = true := by decide +kernel
theorem gd_wsX110 : (wsX110).all goodWord = true := by decide +kernel
theorem gd_wsX120 : (wsX120).all goodWord = true := by decide +kernel
theorem gd_wsJx4a65c0 : (wsJx4a65c0).all goodWord = true := by decide +kernel
theorem gd_wsX50 : (wsX50).all goodWord = true := by decide +kernel
theorem gd_wsX40 : (wsX40).all goodWord = true := by decide +kernel
theorem gd_wsX100 : (wsX100).all goodWord = true := by decide +kernel
theorem gd_wsX30 : (wsX30).all goodWord = true := by decide +kernel
theorem gd_wsX80 : (wsX80).all goodWord = true := by decide +kernel
theorem gd_wsX20 : (wsX20).all goodWord = true := by decide +kernel
theorem gd_wsX10 : (wsX10).all goodWord = true := by decide +kernel
theorem gd_wsX60 : (wsX60).all goodWord = true := by decide +kernel
theorem gd_wsX90 : (wsX90).all goodWord = true := by decide +kernel
theorem gd_wsX00 : (wsX00).all goodWord = true := by decide +kernel
theorem gd_wsX70 : (wsX70).all goodWord = true := by decide +kernel
set_option maxRecDepth 100000 in
theorem wsL_law_gd0 : ∀ w ∈ wsL_law0, goodWord w = true := by
  unfold wsL_law0
  exact List.forall_mem_append.mpr ⟨List.forall_mem_append.mpr ⟨List.forall_mem_append.mpr ⟨List.forall_mem_append.mpr ⟨List.forall_mem_append.mpr ⟨List.forall_mem_append.mpr ⟨List.forall_mem_append.mpr ⟨List.forall_mem_append.mpr ⟨List.forall_mem_append.mpr ⟨List.forall_mem_append.mpr ⟨List.forall_mem_append.mpr ⟨List.forall_mem_append.mpr ⟨List.forall_mem_append.mpr ⟨List.forall_mem_append.mpr ⟨List.forall_mem_append.mpr ⟨List.forall_mem_append.mpr ⟨List.all_eq_true.mp gd_wsL_law0_r1, List.forall_mem_append.mpr ⟨List.all_eq_true.mp gd_wsL_law0_r2, List.forall_mem_append.mpr ⟨List.all_eq_true.mp gd_wsL_law0_r3, List.forall_mem_append.mpr ⟨List.all_eq_true.mp gd_wsL_law0_r4, List.forall_mem_append.mpr ⟨List.all_eq_true.mp gd_wsL_law0_r5, List.forall_mem_append.mpr ⟨List.all_eq_true.mp gd_wsL_law0_r6, List.forall_mem_append.mpr ⟨List.all_eq_true.mp gd_wsL_law0_r7, List.forall_mem_append.mpr ⟨List.all_eq_true.mp gd_wsL_law0_r8, List.forall_mem_append.mpr ⟨List.all_eq_true.mp gd_wsL_law0_r9, List.forall_mem_append.mpr ⟨List.all_eq_true.mp gd_wsL_law0_r10, List.forall_mem_append.mpr ⟨List.all_eq_true.mp gd_wsL_law0_r11, List.forall_mem_append.mpr ⟨List.all_eq_true.mp gd_wsL_law0_r12, List.forall_mem_append.mpr ⟨List.all_eq_true.mp gd_wsL_law0_r13, List.forall_mem_append.mpr ⟨List.all_eq_true.mp gd_wsL_law0_r14, List.forall_mem_append.mpr ⟨List.all_eq_true.mp gd_wsL_law0_r15, List.forall_mem_append.mpr ⟨List.all_eq_true.mp gd_wsL_law0_r16, List.forall_mem_append.mpr ⟨List.all_eq_true.mp gd_wsL_law0_r17, List.forall_mem_append.mpr ⟨List.all_eq_true.mp gd_wsL_law0_r18, List.forall_mem_append.mpr ⟨List.all_eq_true.mp gd_wsL_law0_r19, List.forall_mem_append.mpr ⟨List.all_eq_true.mp gd_wsL_law0_r20, List.forall_mem_append.mpr ⟨List.all_eq_true.mp gd_wsL_law0_r21, List.forall_mem_append.mpr ⟨List.all_eq_true.mp gd_wsL_law0_r22, List.forall_mem_append.mpr ⟨List.all_eq_true.mp gd_wsL_law0_r23, List.forall_mem_append.mpr ⟨List.all_eq_true.mp gd_wsL_law0_r24, List.forall_mem_append.mpr ⟨List.all_eq_true.mp gd_wsL_law0_r25, List.forall_mem_append.mpr ⟨List.all_eq_true.mp gd_wsL_law0_r26, List.forall_mem_append.mpr ⟨List.all_eq_true.mp gd_wsL_law0_r27, List.forall_mem_append.mpr ⟨List.all_eq_true.mp gd_wsL_law0_r28, List.forall_mem_append.mpr ⟨List.all_eq_true.mp gd_wsL_law0_r29, List.forall_mem_append.mpr ⟨List.all_eq_true.mp gd_wsL_law0_r30, List.forall_mem_append.mpr ⟨List.all_eq_true.mp gd_wsL_law0_r31, List.forall_mem_append.mpr ⟨List.all_eq_true.mp gd_wsL_law0_r32, List.forall_mem_append.mpr ⟨List.all_eq_true.mp gd_wsL_law0_r33, List.forall_mem_append.mpr ⟨List.all_eq_true.mp gd_wsL_law0_r34, List.forall_mem_append.mpr ⟨List.all_eq_true.mp gd_wsL_law0_r35, List.forall_mem_append.mpr ⟨List.all_eq_true.mp gd_wsL_law0_r36, List.forall_mem_append.mpr ⟨List.all_eq_true.mp gd_wsL_law0_r37, List.forall_mem_append.mpr ⟨List.all_eq_true.mp gd_wsL_law0_r38, List.forall_mem_append.mpr ⟨List.all_eq_true.mp gd_wsL_law0_r39, List.forall_mem_append.mpr ⟨List.all_eq_true.mp gd_wsL_law0_r40, List.forall_mem_append.mpr ⟨List.all_eq_true.mp gd_wsL_law0_r41, List.forall_mem_append.mpr ⟨List.all_eq_true.mp gd_wsL_law0_r42, List.forall_mem_append.mpr ⟨List.all_eq_true.mp gd_wsL_law0_r43, List.forall_mem_append.mpr ⟨List.all_eq_true.mp gd_wsL_law0_r44, List.forall_mem_append.mpr ⟨List.all_eq_true.mp gd_wsL_law0_r45, List.forall_mem_append.mpr ⟨List.all_eq_true.mp gd_wsL_law0_r46, List.forall_mem_append.mpr ⟨List.all_eq_true.mp gd_wsL_law0_r47, List.forall_mem_append.mpr ⟨List.all_eq_true.mp gd_wsL_law0_r48, List.forall_mem_append.mpr ⟨List.all_eq_true.mp gd_wsL_law0_r49, List.forall_mem_append.mpr ⟨List.all_eq_true.mp gd_wsL_law0_r50, List.forall_mem_append.mpr ⟨List.all_eq_true.mp gd_wsL_law0_r51, List.forall_mem_append.mpr ⟨List.all_eq_true.mp gd_wsL_law0_r52, List.forall_mem_append.mpr ⟨List.all_eq_true.mp gd_wsL_law0_r53, List.forall_mem_append.mpr ⟨List.all_eq_true.mp gd_wsL_law0_r54, List.forall_mem_append.mpr ⟨List.all_eq_true.mp gd_wsL_law0_r55, List.forall_mem_append.mpr ⟨List.all_eq_true.mp gd_wsL_law0_r56, List.forall_mem_append.mpr ⟨List.all_eq_true.mp gd_wsL_law0_r57, List.forall_mem_append.mpr ⟨List.all_eq_true.mp gd_wsL_law0_r58, List.forall_mem_append.mpr ⟨List.all_eq_true.mp gd_wsL_law0_r59, List.forall_mem_append.mpr ⟨List.all_eq_true.mp gd_wsL_law0_r60, List.forall_mem_append.mpr ⟨List.all_eq_true.mp gd_wsL_law0_r61, List.forall_mem_append.mpr ⟨List.all_eq_true.mp gd_wsL_law0_r62, List.forall_mem_append.mpr ⟨List.all_eq_true.mp gd_wsL_law0_r63, List.forall_mem_append.mpr ⟨List.all_eq_true.mp gd_wsL_law0_r64, List.forall_mem_append.mpr ⟨List.all_eq_true.mp gd_wsL_law0_r65, List.forall_mem_append.mpr ⟨List.all_eq_true.mp gd_wsL_law0_r66, List.forall_mem_append.mpr ⟨List.all_eq_true.mp gd_wsL_law0_r67, List.forall_mem_append.mpr ⟨List.all_eq_true.mp gd_wsL_law0_r68, List.forall_mem_append.mpr ⟨List.all_eq_true.mp gd_wsL_law0_r69, List.forall_mem_append.mpr ⟨List.all_eq_true.mp gd_wsL_law0_r70, List.forall_mem_append.mpr ⟨List.all_eq_true.mp gd_wsL_law0_r71, List.forall_mem_append.mpr ⟨List.all_eq_true.mp gd_wsL_law0_r72, List.forall_mem_append.mpr ⟨List.all_eq_true.mp gd_wsL_law0_r73, List.forall_mem_append.mpr ⟨List.all_eq_true.mp gd_wsL_law0_r74, List.forall_mem_append.mpr ⟨List.all_eq_true.mp gd_wsL_law0_r75, List.forall_mem_append.mpr ⟨List.all_eq_true.mp gd_wsL_law0_r76, List.forall_mem_append.mpr ⟨List.all_eq_true.mp gd_wsL_law0_r77, List.forall_mem_append.mpr ⟨List.all_eq_true.mp gd_wsL_law0_r78, List.forall_mem_append.mpr ⟨List.all_eq_true.mp gd_wsL_law0_r79, List.forall_mem_append.mpr ⟨List.all_eq_true.mp gd_wsL_law0_r80, List.forall_mem_append.mpr ⟨List.all_eq_true.mp gd_wsL_law0_r81, List.all_eq_true.mp gd_wsL_law0_r82⟩⟩⟩⟩⟩⟩⟩⟩⟩⟩⟩⟩⟩⟩⟩⟩⟩⟩⟩⟩⟩⟩⟩⟩⟩⟩⟩⟩⟩⟩⟩⟩⟩⟩⟩⟩⟩⟩⟩⟩⟩⟩⟩⟩⟩⟩⟩⟩⟩⟩⟩⟩⟩⟩⟩⟩⟩⟩⟩⟩⟩⟩⟩⟩⟩⟩⟩⟩⟩⟩⟩⟩⟩⟩⟩⟩⟩⟩⟩⟩⟩, List.all_eq_true.mp gd_wsX110⟩, List.all_eq_true.mp gd_wsX120⟩, List.all_eq_true.mp gd_wsJx4a65c0⟩, List.all_eq_true.mp gd_wsX50⟩, List.all_eq_true.mp gd_wsX40⟩, List.all_eq_true.mp gd_wsX100⟩, List.all_eq_true.mp gd_wsX30⟩, List.all_eq_true.mp gd_wsX80⟩, List.all_eq_true.mp gd_wsX20⟩, List.all_eq_true.mp gd_wsX10⟩, List.all_eq_true.mp gd_wsX60⟩, List.all_eq_true.mp gd_wsX90⟩, List.all_eq_true.mp gd_wsX00⟩, List.all_eq_true.mp gd_wsX70⟩, fun _ h => (List.not_mem_nil h).elim⟩
theorem inlX0 : ∀ w ∈ wsX00, w ∈ wsL_law := fun _ h => List.mem_append_left _ (List.mem_append_left _ (List.mem_append_left _ (List.mem_append_left _ (List.mem_append_left _ (List.mem_append_right _ h)))))
theorem inlX1 : ∀ w ∈ wsX10, w ∈ wsL_law := fun _ h => List.mem_append_left _ (List.mem_append_left _ (List.mem_append_left _ (List.mem_append_left _ (List.mem_append_left _ (List.mem_append_left _ (List.mem_append_left _ (List.mem_append_left _ (List.mem_append_right _ h))))))))
theorem inlX2 : ∀ w ∈ wsX20, w ∈ wsL_law := fun _ h => List.mem_append_left _ (List.mem_append_left _ (List.mem_append_left _ (List.mem_append_left _ (List.mem_append_left _ (List.mem_append_left _ (List.mem_append_left _ (List.mem_append_left _ (List.mem_append_left _ (List.mem_append_right _ h)))))))))
theorem inlX3 : ∀ w ∈ wsX30, w ∈ wsL_law := fun _ h => List.mem_append_left _ (List.mem_append_left _ (List.mem_append_left _ (List.mem_append_left _ (List.mem_append_left _ (List.mem_append_left _ (List.mem_append_left _ (List.mem_append_left _ (List.mem_append_left _ (List.mem_append_left _ (List.mem_append_left _ (List.mem_append_right _ h)))))))))))
theorem inlX4 : ∀ w ∈ wsX40, w ∈ wsL_law := fun _ h => List.mem_append_left _ (List.mem_append_left _ (List.mem_append_left _ (List.mem_append_left _ (List.mem_append_left _ (List.mem_append_left _ (List.mem_append_left _ (List.mem_append_left _ (List.mem_append_left _ (List.mem_append_left _ (List.mem_append_left _ (List.mem_append_left _ (List.mem_append_left _ (List.mem_append_right _ h)))))))))))))
theorem inlX5 : ∀ w ∈ wsX50, w ∈ wsL_law := fun _ h => List.mem_append_left _ (List.mem_append_left _ (List.mem_append_left _ (List.mem_append_left _ (List.mem_append_left _ (List.mem_append_left _ (List.mem_append_left _ (List.mem_append_left _ (List.mem_append_left _ (List.mem_append_left _ (List.mem_append_left _ (List.mem_append_left _ (List.mem_append_left _ (List.mem_append_left _ (List.mem_append_right _ h))))))))))))))
theorem inlX6 : ∀ w ∈ wsX60, w ∈ wsL_law := fun _ h => List.mem_append_left _ (List.mem_append_left _ (List.mem_append_left _ (List.mem_append_left _ (List.mem_append_left _ (List.mem_append_left _ (List.mem_append_left _ (List.mem_append_right _ h)))))))
theorem inlX7 : ∀ w ∈ wsX70, w ∈ wsL_law := fun _ h => List.mem_append_left _ (List.mem_append_left _ (List.mem_append_left _ (List.mem_append_left _ (List.mem_append_right _ h))))
theorem inlX8 : ∀ w ∈ wsX80, w ∈ wsL_law := fun _ h => List.mem_append_left _ (List.mem_append_left _ (List.mem_append_left _ (List.mem_append_left _ (List.mem_append_left _ (List.mem_append_left _ (List.mem_append_left _ (List.mem_append_left _ (List.mem_append_left _ (List.mem_append_left _ (List.mem_append_right _ h))))))))))
theorem inlX9 : ∀ w ∈ wsX90, w ∈ wsL_law := fun _ h => List.mem_append_left _ (List.mem_append_left _ (List.mem_append_left _ (List.mem_append_left _ (List.mem_append_left _ (List.mem_append_left _ (List.mem_append_right _ h))))))
theorem inlX10 : ∀ w ∈ wsX100, w ∈ wsL_law := fun _ h => List.mem_append_left _ (List.mem_append_left _ (List.mem_append_left _ (List.mem_append_left _ (List.mem_append_left _ (List.mem_append_left _ (List.mem_append_left _ (List.mem_append_left _ (List.mem_append_left _ (List.mem_append_left _ (List.mem_append_left _ (List.mem_append_left _ (List.mem_append_right _ h))))))))))))
theorem inlX11 : ∀ w ∈ wsX110, w ∈ wsL_law := fun _ h => List.mem_append_left _ (List.mem_append_left _ (List.mem_append_left _ (List.mem_append_left _ (List.mem_append_left _ (List.mem_append_left _ (List.mem_append_left _ (List.mem_append_left _ (List.mem_append_left _ (List.mem_append_left _ (List.mem_append_left _ (List.mem_append_left _ (List.mem_append_left _ (List.mem_append_left _ (List.mem_append_left _ (List.mem_append_left _ (List.mem_append_left _ (List.mem_append_right _ h)))))))))))))))))
theorem inlX12 : ∀ w ∈ wsX120, w ∈ wsL_law := fun _ h => List.mem_append_left _ (List.mem_append_left _ (List.mem_append_left _ (List.mem_append_left _ (List.mem_append_left _ (List.mem_append_left _ (List.mem_append_left _ (List.mem_append_left _ (List.mem_append_left _ (List.mem_append_left _ (List.mem_append_left _ (List.mem_append_left _ (List.mem_append_left _ (List.mem_append_left _ (List.mem_append_left _ (List.mem_append_left _ (List.mem_append_right _ h))))))))))))))))
theorem inlJx4a65c : ∀ w ∈ wsJx4a65c0, w ∈ wsL_law := fun _ h => List.mem_append_left _ (List.mem_append_left _ (List.mem_append_left _ (List.mem_append_left _ (List.mem_append_left _ (List.mem_append_left _ (List.mem_append_left _ (List.mem_append_left _ (List.mem_append_left _ (List.mem_append_left _ (List.mem_append_left _ (List.mem_append_left _ (List.mem_append_left _ (List.mem_append_left _ (List.mem_append_left _ (List.mem_append_right _ h)))))))))))))))
/-- links to private constructors of nest mates; their host is the class itself -/
def q_NL : List (String × Nat × MethodName) := [(RX11, 49, yX5_init), (RX11, 56, yX4_init), (RX8, 27, yX5_init), (RX8, 64, yX1_init), (RX4, 20, yX5_init), (RX11, 84, yX10_init), (RX10, 18, yX5_init), (RX11, 85, yX3_init), (RX6, 46, yX5_init)]
end
section
/-! A PURE INTERPRETER of the bytecode: values as the machine's, but a reference is the number of a cell of the pure store + 4 (0: the script, 1: ArrayList's empty array, 2 and 3: the class's two arrays of constants). -/
section QI
/-- a cell of the pure store: its kind (below 50: the class of that number in vwCl; 99: a thing that nobody looks at; from 100 on: arrays), its length, what was written into it (the rest is the default) -/
abbrev QC : Type := Nat × Nat × List (Nat × Value)
/-- the pure store: its cells, how many were made, with how many slots -/
abbrev QS : Type := List QC × Nat × Nat
/-- what the constant pool's entries are: entry, tag, three numbers -/
abbrev QK : Type := List (Nat × Nat × Nat × Nat × Nat)
/-- a method: name, bytes, locals, what it returns, its class, whether it is a constructor, handlers (from, to, at, exception), entries, instructions -/
abbrev QM : Type := MethodName × ByteArray × Nat × Option FieldType × String × Bool × List (Nat × Nat × Nat × Nat) × QK × List (Nat × Instr)
abbrev qm_y (M : QM) : MethodName := M.1
abbrev qm_b (M : QM) : ByteArray := M.2.1
abbrev qm_l (M : QM) : Nat := M.2.2.1
abbrev qm_r (M : QM) : Option FieldType := M.2.2.2.1
abbrev qm_o (M : QM) : String := M.2.2.2.2.1
abbrev qm_i (M : QM) : Bool := M.2.2.2.2.2.1
abbrev qm_h (M : QM) : List (Nat × Nat × Nat × Nat) := M.2.2.2.2.2.2.1
abbrev qm_k (M : QM) : QK := M.2.2.2.2.2.2.2.1
abbrev qm_c (M : QM) : List (Nat × Instr) := M.2.2.2.2.2.2.2.2
abbrev QO : Type := Option Value ⊕ Nat
abbrev QL : Type := List (Nat × Value)
def q_ty (k : Nat) : FieldType := if k = 100 then .int else if k = 101 then .long else if k = 102 then .boolean else if k = 103 then .object RX1 else if k = 104 then .object RX3 else if k = 105 then .object RX5 else if k = 106 then .object RX10 else if k = 107 then .object "java/lang/Object" else .array .long
def q_fty (c k : Nat) : FieldType := match c with
  | 0 => tyJx4a65c k
  | 1 => tyX0 k
  | 2 => tyX1 k
  | 3 => tyX2 k
  | 4 => tyX3 k
  | 5 => tyX4 k
  | 6 => tyX5 k
  | 7 => tyX6 k
  | 8 => tyX7 k
  | 9 => tyX8 k
  | 10 => tyX9 k
  | 11 => tyX10 k
  | 12 => tyX11 k
  | _ => tyX12 k
def q_dv (kd i : Nat) : Value := if kd < 50 then defaultValue (q_fty kd i) else defaultValue (q_ty kd)
def q_rd (c : QC) (i : Nat) : Value := match c.2.2.find? (fun q => q.1 == i) with
  | some q => q.2
  | none => q_dv c.1 i
def q_wr (c : QC) (i : Nat) (v : Value) : QC := (c.1, c.2.1, (i, v) :: c.2.2.filter (fun q => !(q.1 == i)))
def q_lo (L : QL) (i : Nat) : Option Value := (L.find? (fun q => q.1 == i)).map (·.2)
def q_s1 (L : QL) (i : Nat) (v : Value) : QL := (i, v) :: L.filter (fun q => !(q.1 == i) && !(q.1 + 1 == i && q.2.category == 2))
def q_s2 (L : QL) (i : Nat) (v : Value) : QL := (i, v) :: L.filter (fun q => !(q.1 == i) && (!(q.1 == i + 1) && !(q.1 + 1 == i && q.2.category == 2)))
def q_rm (L : QL) (i : Nat) : QL := L.filter (fun q => !(q.1 == i) && !(q.1 + 1 == i && q.2.category == 2))
/-- the cell of a reference -/
def q_at (S : QS) (r : Nat) : Option QC := if r < 4 then none else S.1[r - 4]?
def q_put (S : QS) (r : Nat) (c : QC) : QS := (S.1.set (r - 4) c, S.2)
def q_new (S : QS) (c : QC) : QS := (S.1 ++ [c], S.2.1 + 1, S.2.2 + c.2.1)
def q_ii (f : Int32 → Int32 → Value) : List Value → Option (List Value)
  | .int y :: .int x :: st => some (f x y :: st)
  | _ => none
def q_ll (f : Int64 → Int64 → Value) : List Value → Option (List Value)
  | .long y :: .long x :: st => some (f x y :: st)
  | _ => none
def q_li (f : Int64 → Int32 → Value) : List Value → Option (List Value)
  | .int y :: .long x :: st => some (f x y :: st)
  | _ => none
def q_i1 (f : Int32 → Value) : List Value → Option (List Value)
  | .int x :: st => some (f x :: st)
  | _ => none
def q_l1 (f : Int64 → Value) : List Value → Option (List Value)
  | .long x :: st => some (f x :: st)
  | _ => none
def q_iz (f : Int32 → Int32 → Value) : List Value → Option (List Value)
  | .int y :: .int x :: st => if y = 0 then none else some (f x y :: st)
  | _ => none
def q_lz (f : Int64 → Int64 → Value) : List Value → Option (List Value)
  | .long y :: .long x :: st => if y = 0 then none else some (f x y :: st)
  | _ => none
def q_v1 (f : Value → List Value → List Value) : List Value → Option (List Value)
  | v :: st => if v.category = 1 then some (f v st) else none
  | _ => none
def q_v2 (f : Value → Value → List Value → List Value) : List Value → Option (List Value)
  | v :: w :: st => if v.category = 1 ∧ w.category = 1 then some (f v w st) else none
  | _ => none
/-- instructions that look at the stack alone -/
def q_simple (i : Instr) (st : List Value) : Option (List Value) := match i with
  | .iconst n => some (.int (Int32.ofInt n) :: st)
  | .bipush n => some (.int (Int8.ofInt n).toInt32 :: st)
  | .sipush n => some (.int (Int16.ofInt n).toInt32 :: st)
  | .lconst n => some (.long (Int64.ofNat (n : Nat)) :: st)
  | .aconst_null => some (.null :: st)
  | .iadd => q_ii (fun x y => .int (x + y)) st
  | .isub => q_ii (fun x y => .int (x - y)) st
  | .imul => q_ii (fun x y => .int (x * y)) st
  | .iand => q_ii (fun x y => .int (x &&& y)) st
  | .ior => q_ii (fun x y => .int (x ||| y)) st
  | .ixor => q_ii (fun x y => .int (x ^^^ y)) st
  | .ishl => q_ii (fun x y => .int (x <<< (y &&& 31))) st
  | .ishr => q_ii (fun x y => .int (x >>> (y &&& 31))) st
  | .idiv => q_iz (fun x y => .int (x / y)) st
  | .irem => q_iz (fun x y => .int (x - x / y * y)) st
  | .i2l => q_i1 (fun x => .long x.toInt64) st
  | .l2i => q_l1 (fun x => .int x.toInt32) st
  | .ladd => q_ll (fun x y => .long (x + y)) st
  | .lmul => q_ll (fun x y => .long (x * y)) st
  | .land => q_ll (fun x y => .long (x &&& y)) st
  | .lor => q_ll (fun x y => .long (x ||| y)) st
  | .ldiv => q_lz (fun x y => .long (x / y)) st
  | .lrem => q_lz (fun x y => .long (x - x / y * y)) st
  | .lushr => q_li (fun x y => .long (x.toUInt64 >>> (y.toInt64.toUInt64 &&& Int64.toUInt64 63)).toInt64) st
  | .lshl => q_li (fun x y => .long (x <<< (y.toInt64 &&& 63))) st
  | .lshr => q_li (fun x y => .long (x >>> (y.toInt64 &&& 63))) st
  | .lcmp => q_ll (fun x y => .int (lg_cmp x y)) st
  | .dup => q_v1 (fun v st => v :: v :: st) st
  | .pop => q_v1 (fun _ st => st) st
  | .dup_x1 => q_v2 (fun v w st => v :: w :: v :: st) st
  | .dup2 => q_v2 (fun v w st => v :: w :: v :: w :: st) st
  | _ => none
def q_len (i : Instr) : Nat := match i with
  | .bipush _ => 2
  | .sipush _ => 3
  | .iload _ => 2
  | .lload _ => 2
  | .aload _ => 2
  | .istore _ => 2
  | .lstore _ => 2
  | .astore _ => 2
  | .iinc _ _ => 3
  | .goto _ => 3
  | .ifCond _ _ => 3
  | .if_icmp _ _ => 3
  | .if_acmp _ _ => 3
  | .ifnull _ => 3
  | .ifnonnull _ => 3
  | .getfield _ => 3
  | .putfield _ => 3
  | .getstatic _ => 3
  | .invokevirtual _ => 3
  | .invokespecial _ => 3
  | .invokestatic _ => 3
  | .new _ => 3
  | .anewarray _ => 3
  | .checkcast _ => 3
  | .newarray _ => 2
  | .ldc _ => 2
  | .ldc_w _ => 3
  | .ldc2_w _ => 3
  | _ => 1
def q_isSw (i : Instr) : Bool := match i with
  | .tableswitch _ _ _ _ => true
  | _ => false
/-- which local is loaded, and of which tag -/
def q_ldi (i : Instr) : Option (Nat × Nat) := match i with
  | .iload n => some (0, n)
  | .iload_n k => some (0, (k : Nat))
  | .lload n => some (1, n)
  | .lload_n k => some (1, (k : Nat))
  | .aload n => some (2, n)
  | .aload_n k => some (2, (k : Nat))
  | _ => none
def q_sti (i : Instr) : Option (Nat × Nat) := match i with
  | .istore n => some (0, n)
  | .istore_n k => some (0, (k : Nat))
  | .lstore n => some (1, n)
  | .lstore_n k => some (1, (k : Nat))
  | .astore n => some (2, n)
  | .astore_n k => some (2, (k : Nat))
  | _ => none
def q_tag (v : Value) : Nat := match v with
  | .int _ => 0
  | .long _ => 1
  | .ref _ => 2
  | .null => 2
  | _ => 9
def q_cmp (c : ClassFile.Cond) (x y : Int32) : Bool := match c with
  | .eq => decide (x = y)
  | .ne => decide (¬ x = y)
  | .lt => decide (x < y)
  | .ge => decide (y ≤ x)
  | .gt => decide (y < x)
  | .le => decide (x ≤ y)
def q_same (v w : Value) : Option Bool := match v, w with
  | .null, .null => some true
  | .null, .ref _ => some false
  | .ref _, .null => some false
  | .ref a, .ref b => if (a = 1 ∨ 4 ≤ a) ∧ (b = 1 ∨ 4 ≤ b) then some (decide (a = b)) else none
  | _, _ => none
/-- branches: whether it goes by the offset, the offset, the stack behind -/
def q_br (i : Instr) (st : List Value) : Option (Bool × Int × List Value) := match i with
  | .goto o => some (true, o, st)
  | .ifCond c o => (match st with
    | .int x :: r => some (q_cmp c x 0, o, r)
    | _ => none)
  | .if_icmp c o => (match st with
    | .int y :: .int x :: r => some (q_cmp c x y, o, r)
    | _ => none)
  | .ifnull o => (match st with
    | .null :: r => some (true, o, r)
    | .ref _ :: r => some (false, o, r)
    | _ => none)
  | .ifnonnull o => (match st with
    | .null :: r => some (false, o, r)
    | .ref _ :: r => some (true, o, r)
    | _ => none)
  | .if_acmp c o => (match st with
    | w :: v :: r => (q_same v w).map (fun b => ((match c with
      | .eq => b
      | .ne => !b), o, r))
    | _ => none)
  | .tableswitch d lo hi offs => (match st with
    | .int x :: r => if x.toInt < lo ∨ hi < x.toInt then some (true, d, r) else (offs[(x.toInt - lo).toNat]?).map (fun o => (true, o, r))
    | _ => none)
  | _ => none
def q_jump (pc : Nat) (o : Int) : Option Nat := if 0 ≤ (pc : Int) + o then some ((pc : Int) + o).toNat else none
def q_lk (K : QK) (idx : Nat) : Option (Nat × Nat × Nat × Nat) := (K.find? (fun q => q.1 == idx)).map (·.2)
/-- the class's two arrays of constants -/
def q_ta : List Int32 := [5, 5, 3, 100, 3, 3, 5, 23, 23, 0, 23, 0, 23, 0, 3, 0, 0, 0, 5, 9, 5, 0, 0, 5]
def q_tb : List Int32 := [999, 5, 5, 0, 5, 5, 23, 0, 0, 0, 0, 0, 0, 0, 5, 0, 0, 0, 0, 23, 0, 0, 0, 0]
def q_idx (i : Int32) (n : Nat) : Option Nat := if i < 0 ∨ n ≤ i.toNatClampNeg then none else some i.toNatClampNeg
/-- an array's kind, by the instruction that reads or writes it -/
def q_akd (i : Instr) (k : Nat) : Bool := match i with
  | .iaload => k == 100
  | .iastore => k == 100
  | .laload => k == 101
  | .lastore => k == 101
  | .baload => k == 102
  | .bastore => k == 102
  | .aaload => decide (103 ≤ k)
  | _ => false
/-- reads of fields, arrays, lengths: the stack behind -/
def q_read (M : QM) (xs : List Int32) (i : Instr) (st : List Value) (S : QS) : Option (List Value) := match i with
  | .getfield x => (match q_lk (qm_k M) x, st with
    | some (0, ci, k, _), .ref r :: rest => (match q_at S r with
      | some c => if c.1 = ci then some (q_rd c k :: rest) else none
      | none => none)
    | _, _ => none)
  | .arraylength => (match st with
    | .ref 0 :: rest => some (.int (Int32.ofNat xs.length) :: rest)
    | .ref 1 :: rest => some (.int 0 :: rest)
    | .ref 2 :: rest => some (.int (Int32.ofNat 24) :: rest)
    | .ref 3 :: rest => some (.int (Int32.ofNat 24) :: rest)
    | .ref r :: rest => (match q_at S r with
      | some c => if 100 ≤ c.1 then some (.int (Int32.ofNat c.2.1) :: rest) else none
      | none => none)
    | _ => none)
  | .ldc x => (match q_lk (qm_k M) x with
    | some (7, n, _, _) => some (.int (Int32.ofNat n) :: st)
    | _ => none)
  | .ldc_w x => (match q_lk (qm_k M) x with
    | some (7, n, _, _) => some (.int (Int32.ofNat n) :: st)
    | _ => none)
  | .ldc2_w x => (match q_lk (qm_k M) x with
    | some (8, n, _, _) => some (.long (Int64.ofNat n) :: st)
    | _ => none)
  | .getstatic x => (match q_lk (qm_k M) x with
    | some (9, a, _, _) => some (.ref a :: st)
    | _ => none)
  | .iaload => (match st with
    | .int i :: .ref 0 :: rest => (q_idx i xs.length).map (fun j => .int (xs.getD j 0) :: rest)
    | .int i :: .ref 2 :: rest => (q_idx i 24).map (fun j => .int (q_ta.getD j 0) :: rest)
    | .int i :: .ref 3 :: rest => (q_idx i 24).map (fun j => .int (q_tb.getD j 0) :: rest)
    | .int i :: .ref r :: rest => (match q_at S r with
      | some c => if q_akd .iaload c.1 then (q_idx i c.2.1).map (fun j => q_rd c j :: rest) else none
      | none => none)
    | _ => none)
  | i => (match st with
    | .int x :: .ref r :: rest => (match q_at S r with
      | some c => if q_akd i c.1 && (decide (i = .laload) || (decide (i = .baload) || decide (i = .aaload))) then (q_idx x c.2.1).map (fun j => q_rd c j :: rest) else none
      | none => none)
    | _ => none)
/-- writes and makings: the stack and the store behind -/
def q_write (M : QM) (i : Instr) (st : List Value) (S : QS) : Option (List Value × QS) := match i with
  | .putfield x => (match q_lk (qm_k M) x, st with
    | some (0, ci, k, fin), v :: .ref r :: rest => (match q_at S r with
      | some c => if c.1 = ci ∧ narrow (q_fty ci k) v = v ∧ fits (q_fty ci k) v = true ∧ (fin = 0 ∨ (fin = 1 ∧ (qm_i M) = true)) then some (rest, q_put S r (q_wr c k v)) else none
      | none => none)
    | _, _ => none)
  | .iastore => (match st with
    | .int x :: .int i :: .ref r :: rest => (match q_at S r with
      | some c => if c.1 = 100 then (q_idx i c.2.1).map (fun j => (rest, q_put S r (q_wr c j (.int x)))) else none
      | none => none)
    | _ => none)
  | .lastore => (match st with
    | .long x :: .int i :: .ref r :: rest => (match q_at S r with
      | some c => if c.1 = 101 then (q_idx i c.2.1).map (fun j => (rest, q_put S r (q_wr c j (.long x)))) else none
      | none => none)
    | _ => none)
  | .bastore => (match st with
    | .int x :: .int i :: .ref r :: rest => (match q_at S r with
      | some c => if c.1 = 102 then (q_idx i c.2.1).map (fun j => (rest, q_put S r (q_wr c j (narrow .boolean (.int x))))) else none
      | none => none)
    | _ => none)
  | .aastore => (match st with
    | .ref v :: .int i :: .ref r :: rest => (match q_at S r, q_at S v with
      | some c, some d => if (c.1 = 103 ∧ d.1 = 2) ∨ (c.1 = 104 ∧ d.1 = 4) ∨ (c.1 = 105 ∧ d.1 = 6) ∨ (c.1 = 106 ∧ d.1 = 11) ∨ (c.1 = 108 ∧ d.1 = 101) then (q_idx i c.2.1).map (fun j => (rest, q_put S r (q_wr c j (.ref v)))) else none
      | _, _ => none)
    | _ => none)
  | .new x => (match q_lk (qm_k M) x with
    | some (5, ci, n, _) => some (.ref (S.1.length + 4) :: st, q_new S (ci, n, []))
    | _ => none)
  | .newarray t => (match st with
    | .int n :: rest => if n < 0 ∨ 60000000 ≤ n.toNatClampNeg then none else (match t with
      | .int => some (.ref (S.1.length + 4) :: rest, q_new S (100, n.toNatClampNeg, []))
      | .long => some (.ref (S.1.length + 4) :: rest, q_new S (101, n.toNatClampNeg, []))
      | .boolean => some (.ref (S.1.length + 4) :: rest, q_new S (102, n.toNatClampNeg, []))
      | _ => none)
    | _ => none)
  | .anewarray x => (match q_lk (qm_k M) x, st with
    | some (6, kd, _, _), .int n :: rest => if n < 0 ∨ 60000000 ≤ n.toNatClampNeg then none else some (.ref (S.1.length + 4) :: rest, q_new S (kd, n.toNatClampNeg, []))
    | _, _ => none)
  | _ => none
def q_inc (M : QM) (i : Instr) (L : QL) : Option QL := match i with
  | .iinc n k => (match q_lo L n with
    | some (.int x) => if n < (qm_l M) then some (q_s1 L n (.int (x + Int32.ofInt k))) else none
    | _ => none)
  | _ => none
/-- Object's own constructor -/
def q_oi (M : QM) (i : Instr) (st : List Value) : Option (List Value) := match i with
  | .invokespecial x => (match q_lk (qm_k M) x, st with
    | some (4, _, _, _), .ref _ :: rest => if (rest.map fun v => v.category).sum ≤ 8 then some rest else none
    | _, _ => none)
  | _ => none
/-- all that neither calls, nor returns, nor throws: where it goes on, with what -/
def q_step (M : QM) (xs : List Int32) (pc : Nat) (i : Instr) (L : QL) (st : List Value) (S : QS) : Option (Nat × QL × List Value × QS) :=
  match q_simple i st with
  | some st' => some (pc + q_len i, L, st', S)
  | none => match q_ldi i with
    | some (t, n) => (match q_lo L n with
      | some v => if q_tag v = t then some (pc + q_len i, L, v :: st, S) else none
      | none => none)
    | none => match q_sti i with
      | some (t, n) => (match st with
        | v :: rest => if q_tag v = t ∧ n + 1 < (qm_l M) + (if t = 1 then 0 else 1) then some (pc + q_len i, (if t = 1 then q_s2 L n v else q_s1 L n v), rest, S) else none
        | [] => none)
      | none => match q_br i st with
        | some (b, o, rest) => (q_jump pc o).map (fun t => ((if b = true then t else pc + q_len i), L, rest, S))
        | none => match q_inc M i L with
          | some L' => some (pc + 3, L', st, S)
          | none => match q_oi M i st with
            | some st' => some (pc + 3, L, st', S)
            | none => match q_read M xs i st S with
              | some st' => some (pc + q_len i, L, st', S)
              | none => (q_write M i st S).map (fun r => (pc + q_len i, L, r.1, r.2))
/-- a call: which method, its arguments, the stack behind -/
def q_call (M : QM) (i : Instr) (st : List Value) (S : QS) : Option (Nat × List Value × List Value) := match i with
  | .invokevirtual x => (match q_lk (qm_k M) x with
    | some (1, mi, n, ci) => (match st.drop n with
      | .ref b :: rest => (match q_at S b with
        | some c => if c.1 = ci ∧ n ≤ st.length ∧ (rest.map fun v => v.category).sum ≤ 8 then some (mi, .ref b :: (st.take n).reverse, rest) else none
        | none => none)
      | _ => none)
    | _ => none)
  | .invokestatic x => (match q_lk (qm_k M) x with
    | some (2, mi, n, _) => if n ≤ st.length ∧ ((st.drop n).map fun v => v.category).sum ≤ 8 then some (mi, (st.take n).reverse, st.drop n) else none
    | _ => none)
  | .invokespecial x => (match q_lk (qm_k M) x with
    | some (3, mi, n, _) => (match st.drop n with
      | .ref b :: rest => if n ≤ st.length ∧ (rest.map fun v => v.category).sum ≤ 8 then some (mi, .ref b :: (st.take n).reverse, rest) else none
      | _ => none)
    | some (15, mi, n, _) => (match st.drop n with
      | .ref b :: rest => if n ≤ st.length ∧ (rest.map fun v => v.category).sum ≤ 8 then some (mi, .ref b :: (st.take n).reverse, rest) else none
      | _ => none)
    | _ => none)
  | _ => none
def q_ret (M : QM) (i : Instr) (st : List Value) : Option (Option Value) := match i, st with
  | .return_, [] => if (qm_r M) = none then some none else none
  | .ireturn, [.int x] => (match (qm_r M) with
    | some ty => if narrow ty (.int x) = .int x then some (some (.int x)) else none
    | none => none)
  | .lreturn, [.long x] => if (qm_r M) = some .long then some (some (.long x)) else none
  | .areturn, [v] => (match (qm_r M) with
    | some (.object _) => if q_tag v = 2 then some (some v) else none
    | some (.array _) => if q_tag v = 2 then some (some v) else none
    | _ => none)
  | _, _ => none
def q_code (M : QM) (pc : Nat) : Option Instr := ((qm_c M).find? (fun q => q.1 == pc)).map (·.2)
/-- 'throw new E(text)' begins here: which E -/
def q_thr (M : QM) (pc : Nat) (i : Instr) (st : List Value) : Option Nat := match i with
  | .new x => (match q_lk (qm_k M) x with
    | some (11, e, ic, _) => if (st.map fun v => v.category).sum ≤ 8 ∧ (qm_h M) = [] ∧ e < 3 ∧ q_code M (pc + 3) = some .dup then (match q_code M (pc + 4) with
      | some (.ldc z) => if q_lk (qm_k M) z = some (13, 0, 0, 0) ∧ q_code M (pc + 6) = some (.invokespecial ic) ∧ q_code M (pc + 9) = some .athrow then some e else none
      | some (.ldc_w z) => if q_lk (qm_k M) z = some (13, 0, 0, 0) ∧ q_code M (pc + 7) = some (.invokespecial ic) ∧ q_code M (pc + 10) = some .athrow then some e else none
      | _ => none) else none
    | _ => none)
  | _ => none
/-- whether a handler takes the exception e at pc -/
def q_hx (M : QM) (pc e : Nat) (h : Nat × Nat × Nat × Nat) : Bool := decide (h.1 ≤ pc) && (decide (pc < h.2.1) && (match q_lk (qm_k M) h.2.2.2 with
  | some (12, f, _, _) => f == e
  | _ => false))
/-- the handler of an exception: behind its astore -/
def q_hand (M : QM) (pc e : Nat) (L : QL) : Option (Nat × QL) := match (qm_h M).find? (q_hx M pc e) with
  | some h => (match q_code M h.2.2.1 with
    | some (.astore n) => if n < (qm_l M) then some (h.2.2.1 + 2, q_rm L n) else none
    | some (.astore_n k) => if (k : Nat) < (qm_l M) then some (h.2.2.1 + 1, q_rm L (k : Nat)) else none
    | _ => none)
  | none => none
def q_run (call : Nat → List Value → QS → Option (QO × QS)) (M : QM) (xs : List Int32) : Nat → Nat → QL → List Value → QS → Option (QO × QS)
  | 0, _, _, _, _ => none
  | n + 1, pc, L, st, S => match q_code M pc with
    | none => none
    | some i => match q_step M xs pc i L st S with
      | some (pc', L', st', S') => q_run call M xs n pc' L' st' S'
      | none => match q_call M i st S with
        | some (mi, as, rest) => (match call mi as S with
          | some (.inl v, S') => q_run call M xs n (pc + 3) L (v.toList ++ rest) S'
          | some (.inr e, S') => if (qm_h M) = [] then some (.inr e, S') else (match q_hand M pc e L with
            | some (pc', L') => q_run call M xs n pc' L' [] S'
            | none => none)
          | none => none)
        | none => match q_ret M i st with
          | some v => some (.inl v, S)
          | none => (q_thr M pc i st).map (fun e => (.inr e, (S.1 ++ [(99, 0, [])], S.2.1 + 1, S.2.2 + 6)))
/-- a call of a method of the table T, at most d deep, each of at most n steps -/
def q_pc (T : List QM) (xs : List Int32) (n : Nat) : Nat → Nat → List Value → QS → Option (QO × QS)
  | 0, _, _, _ => none
  | d + 1, mi, as, S => match T[mi]? with
    | none => none
    | some M => if (lg_sl as).length ≤ qm_l M then q_run (q_pc T xs n d) M xs n 0 (lv_args 0 as) [] S else none
end QI
end
section
/-! SOUNDNESS of the pure interpreter, I: the stack, the locals, branches. P: the cells of the old things 0 to 3, and the first new cell. -/
section QR
def q_ad (P : (Nat → Nat) × Nat) (r : Nat) : Nat := match r with
  | 0 => P.1 0
  | 1 => P.1 1
  | 2 => P.1 2
  | 3 => P.1 3
  | k + 4 => P.2 + k
def q_rv (P : (Nat → Nat) × Nat) (v : Value) : Value := match v with
  | .ref r => .ref (q_ad P r)
  | v => v
def q_rL (P : (Nat → Nat) × Nat) (L : QL) : QL := L.map (fun q => (q.1, q_rv P q.2))
theorem q_rv_cat (P : (Nat → Nat) × Nat) (v : Value) : (q_rv P v).category = v.category := by cases v <;> rfl
theorem q_sum_cat (P : (Nat → Nat) × Nat) (st : List Value) : ((st.map (q_rv P)).map fun v => v.category).sum = (st.map fun v => v.category).sum := by
  rw [List.map_map]
  congr 1
  exact List.map_congr_left fun v _ => q_rv_cat P v
theorem q_s1_rv (P : (Nat → Nat) × Nat) (L : QL) (i : Nat) (v : Value) : q_rL P (q_s1 L i v) = q_s1 (q_rL P L) i (q_rv P v) := by
  simp only [q_s1, q_rL, List.map_cons, List.filter_map, Function.comp_def, q_rv_cat]
theorem q_s2_rv (P : (Nat → Nat) × Nat) (L : QL) (i : Nat) (v : Value) : q_rL P (q_s2 L i v) = q_s2 (q_rL P L) i (q_rv P v) := by
  simp only [q_s2, q_rL, List.map_cons, List.filter_map, Function.comp_def, q_rv_cat]
theorem q_rm_rv (P : (Nat → Nat) × Nat) (L : QL) (i : Nat) : q_rL P (q_rm L i) = q_rm (q_rL P L) i := by
  simp only [q_rm, q_rL, List.filter_map, Function.comp_def, q_rv_cat]
theorem q_lo_mem {L : QL} {i : Nat} {v : Value} (h : q_lo L i = some v) : (i, v) ∈ L := by
  unfold q_lo at h
  obtain ⟨q, h1, h2⟩ := Option.map_eq_some_iff.mp h
  have h3 := List.mem_of_find?_eq_some h1
  have h4 := List.find?_some h1
  simp only [beq_iff_eq] at h4
  subst h2
  rw [← h4]
  exact h3
theorem q_lo_at {P : (Nat → Nat) × Nat} {ls : Array Slot} {nL : Nat} {L : QL} {i : Nat} {v : Value} (hl : lv_has ls nL (q_rL P L)) (h : q_lo L i = some v) : ls[i]? = some (.val (q_rv P v)) :=
  hl.2.2 (i, q_rv P v) (List.mem_map.mpr ⟨(i, v), q_lo_mem h, rfl⟩)
theorem q_ii_s {f : Int32 → Int32 → Value} {st st' : List Value} (h : q_ii f st = some st') : ∃ x y r, st = .int y :: .int x :: r ∧ st' = f x y :: r := by
  unfold q_ii at h
  split at h
  · cases h; exact ⟨_, _, _, rfl, rfl⟩
  · cases h
theorem q_ll_s {f : Int64 → Int64 → Value} {st st' : List Value} (h : q_ll f st = some st') : ∃ x y r, st = .long y :: .long x :: r ∧ st' = f x y :: r := by
  unfold q_ll at h
  split at h
  · cases h; exact ⟨_, _, _, rfl, rfl⟩
  · cases h
theorem q_li_s {f : Int64 → Int32 → Value} {st st' : List Value} (h : q_li f st = some st') : ∃ x y r, st = .int y :: .long x :: r ∧ st' = f x y :: r := by
  unfold q_li at h
  split at h
  · cases h; exact ⟨_, _, _, rfl, rfl⟩
  · cases h
theorem q_i1_s {f : Int32 → Value} {st st' : List Value} (h : q_i1 f st = some st') : ∃ x r, st = .int x :: r ∧ st' = f x :: r := by
  unfold q_i1 at h
  split at h
  · cases h; exact ⟨_, _, rfl, rfl⟩
  · cases h
theorem q_l1_s {f : Int64 → Value} {st st' : List Value} (h : q_l1 f st = some st') : ∃ x r, st = .long x :: r ∧ st' = f x :: r := by
  unfold q_l1 at h
  split at h
  · cases h; exact ⟨_, _, rfl, rfl⟩
  · cases h
theorem q_iz_s {f : Int32 → Int32 → Value} {st st' : List Value} (h : q_iz f st = some st') : ∃ x y r, st = .int y :: .int x :: r ∧ st' = f x y :: r ∧ ¬ y = 0 := by
  unfold q_iz at h
  split at h
  · split at h
    · cases h
    · rename_i hy
      cases h; exact ⟨_, _, _, rfl, rfl, hy⟩
  · cases h
theorem q_lz_s {f : Int64 → Int64 → Value} {st st' : List Value} (h : q_lz f st = some st') : ∃ x y r, st = .long y :: .long x :: r ∧ st' = f x y :: r ∧ ¬ y = 0 := by
  unfold q_lz at h
  split at h
  · split at h
    · cases h
    · rename_i hy
      cases h; exact ⟨_, _, _, rfl, rfl, hy⟩
  · cases h
theorem q_v1_s {f : Value → List Value → List Value} {st st' : List Value} (h : q_v1 f st = some st') : ∃ v r, st = v :: r ∧ st' = f v r ∧ v.category = 1 := by
  unfold q_v1 at h
  split at h
  · split at h
    · rename_i hv
      cases h; exact ⟨_, _, rfl, rfl, hv⟩
    · cases h
  · cases h
theorem q_v2_s {f : Value → Value → List Value → List Value} {st st' : List Value} (h : q_v2 f st = some st') : ∃ v w r, st = v :: w :: r ∧ st' = f v w r ∧ v.category = 1 ∧ w.category = 1 := by
  unfold q_v2 at h
  split at h
  · split at h
    · rename_i hv
      cases h; exact ⟨_, _, _, rfl, rfl, hv.1, hv.2⟩
    · cases h
  · cases h
section QA
variable {p : Program} {l : Launch} {e : Env} {R : Room} {s : State} {m : MethodId} {args : Array Value} {below : List Frame} {meth : Method} {c : Code} {H : Heap} {locs : List Loc} {cells slots : Nat} {Q : State → Prop} {cc : ByteArray} {pc nL : Nat} {ls : Array Slot} {P : (Nat → Nat) × Nat}
set_option maxHeartbeats 2000000 in
theorem q_simple_ok (hx : p.tables.exec = Jvm.exec) (hb : c.code = cc) {i : Instr} {st st' : List Value} (h : q_simple i st = some st') (hd : decode cc pc = .ok (i, q_len i))
    (k : W p l e R s m args below meth c H locs cells slots Q (F0 m (pc + q_len i) ls (st'.map (q_rv P)))) : W p l e R s m args below meth c H locs cells slots Q (F0 m pc ls (st.map (q_rv P))) := by
  unfold q_simple at h
  split at h
  · cases h; exact lv_iconst hx hb hd rfl k
  · cases h; exact lv_bipush hx hb hd rfl k
  · cases h; exact lv_sipush hx hb hd rfl k
  · cases h; exact lv_lconst hx hb hd rfl k
  · cases h; exact lv_null hx hb hd k
  · obtain ⟨x, y, r, rfl, rfl⟩ := q_ii_s h; exact lv_iadd hx hb hd k
  · obtain ⟨x, y, r, rfl, rfl⟩ := q_ii_s h; exact lv_isub hx hb hd k
  · obtain ⟨x, y, r, rfl, rfl⟩ := q_ii_s h; exact lv_imul hx hb hd k
  · obtain ⟨x, y, r, rfl, rfl⟩ := q_ii_s h; exact lv_iand hx hb hd k
  · obtain ⟨x, y, r, rfl, rfl⟩ := q_ii_s h; exact lv_ior hx hb hd k
  · obtain ⟨x, y, r, rfl, rfl⟩ := q_ii_s h; exact lv_ixor hx hb hd k
  · obtain ⟨x, y, r, rfl, rfl⟩ := q_ii_s h; exact lv_ishl hx hb hd k
  · obtain ⟨x, y, r, rfl, rfl⟩ := q_ii_s h; exact lv_ishr hx hb hd k
  · obtain ⟨x, y, r, rfl, rfl, hy⟩ := q_iz_s h; exact lv_idiv hx hb hd hy k
  · obtain ⟨x, y, r, rfl, rfl, hy⟩ := q_iz_s h; exact lv_irem hx hb hd hy k
  · obtain ⟨x, r, rfl, rfl⟩ := q_i1_s h; exact lv_i2l hx hb hd rfl k
  · obtain ⟨x, r, rfl, rfl⟩ := q_l1_s h; exact lv_l2i hx hb hd rfl k
  · obtain ⟨x, y, r, rfl, rfl⟩ := q_ll_s h; exact lv_ladd hx hb hd k
  · obtain ⟨x, y, r, rfl, rfl⟩ := q_ll_s h; exact lv_lmul hx hb hd k
  · obtain ⟨x, y, r, rfl, rfl⟩ := q_ll_s h; exact lv_land hx hb hd k
  · obtain ⟨x, y, r, rfl, rfl⟩ := q_ll_s h; exact lv_lor hx hb hd k
  · obtain ⟨x, y, r, rfl, rfl, hy⟩ := q_lz_s h; exact lv_ldiv hx hb hd hy k
  · obtain ⟨x, y, r, rfl, rfl, hy⟩ := q_lz_s h; exact lv_lrem hx hb hd hy k
  · obtain ⟨x, y, r, rfl, rfl⟩ := q_li_s h; exact lv_lushr hx hb hd rfl k
  · obtain ⟨x, y, r, rfl, rfl⟩ := q_li_s h; exact lv_lshl hx hb hd rfl k
  · obtain ⟨x, y, r, rfl, rfl⟩ := q_li_s h; exact lv_lshr hx hb hd rfl k
  · obtain ⟨x, y, r, rfl, rfl⟩ := q_ll_s h; exact W.lcmp hx hb hd k
  · obtain ⟨v, r, rfl, rfl, hv⟩ := q_v1_s h; exact lv_dup hx hb hd ((q_rv_cat P v).trans hv) k
  · obtain ⟨v, r, rfl, rfl, hv⟩ := q_v1_s h; exact lv_pop hx hb hd ((q_rv_cat P v).trans hv) k
  · obtain ⟨v, w, r, rfl, rfl, hv, hw⟩ := q_v2_s h; exact lv_dup_x1 hx hb hd ((q_rv_cat P v).trans hv) ((q_rv_cat P w).trans hw) k
  · obtain ⟨v, w, r, rfl, rfl, hv, hw⟩ := q_v2_s h; exact lv_dup2_11 hx hb hd ((q_rv_cat P v).trans hv) ((q_rv_cat P w).trans hw) k
  · cases h
theorem q_tag0 {v : Value} (h : q_tag v = 0) : ∃ x, v = .int x := by cases v <;> first | exact ⟨_, rfl⟩ | (simp [q_tag] at h)
theorem q_tag1 {v : Value} (h : q_tag v = 1) : ∃ x, v = .long x := by cases v <;> first | exact ⟨_, rfl⟩ | (simp [q_tag] at h)
theorem q_tag2 {v : Value} (h : q_tag v = 2) : v = .null ∨ ∃ x, v = .ref x := by cases v <;> first | exact Or.inl rfl | exact Or.inr ⟨_, rfl⟩ | (simp [q_tag] at h)
theorem q_ld_ok (hx : p.tables.exec = Jvm.exec) (hb : c.code = cc) {i : Instr} {t n : Nat} {v : Value} {L : QL} {st : List Value} (h : q_ldi i = some (t, n)) (hv : q_lo L n = some v) (ht : q_tag v = t) (hd : decode cc pc = .ok (i, q_len i)) (hl : lv_has ls nL (q_rL P L))
    (k : W p l e R s m args below meth c H locs cells slots Q (F0 m (pc + q_len i) ls ((v :: st).map (q_rv P)))) : W p l e R s m args below meth c H locs cells slots Q (F0 m pc ls (st.map (q_rv P))) := by
  have hm := q_lo_at hl hv
  unfold q_ldi at h
  split at h
  · cases h; obtain ⟨x, rfl⟩ := q_tag0 ht; exact lv_iload hx hb hd hm k
  · cases h; obtain ⟨x, rfl⟩ := q_tag0 ht; exact lv_iload_n hx hb hd rfl hm k
  · cases h; obtain ⟨x, rfl⟩ := q_tag1 ht; exact lv_lload hx hb hd hm k
  · cases h; obtain ⟨x, rfl⟩ := q_tag1 ht; exact lv_lload_n hx hb hd rfl hm k
  · cases h
    rcases q_tag2 ht with rfl | ⟨x, rfl⟩
    · exact lv_aloadN hx hb hd hm k
    · exact lv_aload hx hb hd hm k
  · cases h
    rcases q_tag2 ht with rfl | ⟨x, rfl⟩
    · exact lv_aload_nN hx hb hd rfl hm k
    · exact lv_aload_n hx hb hd rfl hm k
  · cases h
theorem q_st_ok (hx : p.tables.exec = Jvm.exec) (hb : c.code = cc) {i : Instr} {t n : Nat} {v : Value} {L : QL} {rest : List Value} (h : q_sti i = some (t, n)) (ht : q_tag v = t) (hn : n + 1 < nL + (if t = 1 then 0 else 1)) (hd : decode cc pc = .ok (i, q_len i)) (hl : lv_has ls nL (q_rL P L))
    (k : ∀ ls' : Array Slot, lv_has ls' nL (q_rL P (if t = 1 then q_s2 L n v else q_s1 L n v)) → W p l e R s m args below meth c H locs cells slots Q (F0 m (pc + q_len i) ls' (rest.map (q_rv P)))) : W p l e R s m args below meth c H locs cells slots Q (F0 m pc ls ((v :: rest).map (q_rv P))) := by
  unfold q_sti at h
  split at h
  · cases h; obtain ⟨x, rfl⟩ := q_tag0 ht
    rw [if_neg (by decide)] at hn k
    exact lv_istore (lv' := q_rL P (q_s1 L _ (.int x))) hx hb hd hl (by omega) (q_s1_rv P L _ (.int x)).symm k
  · cases h; obtain ⟨x, rfl⟩ := q_tag0 ht
    rw [if_neg (by decide)] at hn k
    exact lv_istore_n (lv' := q_rL P (q_s1 L _ (.int x))) hx hb hd rfl hl (by omega) (q_s1_rv P L _ (.int x)).symm k
  · cases h; obtain ⟨x, rfl⟩ := q_tag1 ht
    rw [if_pos rfl] at hn k
    exact lv_lstore (lv' := q_rL P (q_s2 L _ (.long x))) hx hb hd hl (by omega) (q_s2_rv P L _ (.long x)).symm k
  · cases h; obtain ⟨x, rfl⟩ := q_tag1 ht
    rw [if_pos rfl] at hn k
    exact lv_lstore_n (lv' := q_rL P (q_s2 L _ (.long x))) hx hb hd rfl hl (by omega) (q_s2_rv P L _ (.long x)).symm k
  · cases h
    rw [if_neg (by decide)] at hn k
    rcases q_tag2 ht with rfl | ⟨x, rfl⟩
    · exact lv_astoreN (lv' := q_rL P (q_s1 L _ (.null))) hx hb hd hl (by omega) (q_s1_rv P L _ (.null)).symm k
    · exact lv_astore (lv' := q_rL P (q_s1 L _ (.ref x))) hx hb hd hl (by omega) (q_s1_rv P L _ (.ref x)).symm k
  · cases h
    rw [if_neg (by decide)] at hn k
    rcases q_tag2 ht with rfl | ⟨x, rfl⟩
    · exact lv_astore_nN (lv' := q_rL P (q_s1 L _ (.null))) hx hb hd rfl hl (by omega) (q_s1_rv P L _ (.null)).symm k
    · exact lv_astore_n (lv' := q_rL P (q_s1 L _ (.ref x))) hx hb hd rfl hl (by omega) (q_s1_rv P L _ (.ref x)).symm k
  · cases h
theorem q_jump_s {o : Int} {t : Nat} (h : q_jump pc o = some t) : (pc : Int) + o = (t : Int) := by
  unfold q_jump at h
  split at h
  · cases h; omega
  · cases h
theorem q_if {b : Bool} {d : Prop} [Decidable d] {x y : Nat} (hb : b = decide d) {F : Nat → Prop} (k : F (if b = true then x else y)) : (d → F x) ∧ (¬ d → F y) := by
  subst hb
  refine ⟨fun hd => ?_, fun hd => ?_⟩
  · simpa [hd] using k
  · simpa [hd] using k
set_option maxHeartbeats 2000000 in
theorem q_br_ok (hx : p.tables.exec = Jvm.exec) (hb : c.code = cc) {i : Instr} {st rest : List Value} {b : Bool} {o : Int} {t n : Nat} (h : q_br i st = some (b, o, rest)) (hj : q_jump pc o = some t) (hd : decode cc pc = .ok (i, n)) (hn : n = q_len i ∨ q_isSw i = true) (hP : P.1 1 < P.2)
    (k : W p l e R s m args below meth c H locs cells slots Q (F0 m (if b = true then t else pc + q_len i) ls (rest.map (q_rv P)))) : W p l e R s m args below meth c H locs cells slots Q (F0 m pc ls (st.map (q_rv P))) := by
  have ht := q_jump_s hj
  unfold q_br at h
  split at h
  · cases h
    rcases hn with rfl | hn
    · exact lv_goto hx hb hd ht k
    · cases hn
  · rename_i cd o'
    rcases hn with rfl | hn
    · split at h
      · cases h
        cases cd with
        | eq => obtain ⟨k1, k2⟩ := q_if (F := fun z => W p l e R s m args below meth c H locs cells slots Q (F0 m z ls _)) rfl k; exact lv_if_eq hx hb hd ht k1 k2
        | ne =>
          obtain ⟨k1, k2⟩ := q_if (F := fun z => W p l e R s m args below meth c H locs cells slots Q (F0 m z ls _)) rfl k
          exact lv_if_ne hx hb hd ht k1 (fun h9 => k2 (fun h8 => h8 h9))
        | lt => obtain ⟨k1, k2⟩ := q_if (F := fun z => W p l e R s m args below meth c H locs cells slots Q (F0 m z ls _)) rfl k; exact lv_if_lt hx hb hd ht k1 k2
        | ge => obtain ⟨k1, k2⟩ := q_if (F := fun z => W p l e R s m args below meth c H locs cells slots Q (F0 m z ls _)) rfl k; exact lv_if_ge hx hb hd ht k1 k2
        | gt => obtain ⟨k1, k2⟩ := q_if (F := fun z => W p l e R s m args below meth c H locs cells slots Q (F0 m z ls _)) rfl k; exact lv_if_gt hx hb hd ht k1 k2
        | le => obtain ⟨k1, k2⟩ := q_if (F := fun z => W p l e R s m args below meth c H locs cells slots Q (F0 m z ls _)) rfl k; exact lv_if_le hx hb hd ht k1 k2
      · cases h
    · cases hn
  · rename_i cd o'
    rcases hn with rfl | hn
    · split at h
      · cases h
        cases cd with
        | eq => obtain ⟨k1, k2⟩ := q_if (F := fun z => W p l e R s m args below meth c H locs cells slots Q (F0 m z ls _)) rfl k; exact lv_icmp_eq hx hb hd ht k1 k2
        | ne =>
          obtain ⟨k1, k2⟩ := q_if (F := fun z => W p l e R s m args below meth c H locs cells slots Q (F0 m z ls _)) rfl k
          exact lv_icmp_ne hx hb hd ht k1 (fun h9 => k2 (fun h8 => h8 h9))
        | lt => obtain ⟨k1, k2⟩ := q_if (F := fun z => W p l e R s m args below meth c H locs cells slots Q (F0 m z ls _)) rfl k; exact lv_icmp_lt hx hb hd ht k1 k2
        | ge => obtain ⟨k1, k2⟩ := q_if (F := fun z => W p l e R s m args below meth c H locs cells slots Q (F0 m z ls _)) rfl k; exact lv_icmp_ge hx hb hd ht k1 k2
        | gt => obtain ⟨k1, k2⟩ := q_if (F := fun z => W p l e R s m args below meth c H locs cells slots Q (F0 m z ls _)) rfl k; exact lv_icmp_gt hx hb hd ht k1 k2
        | le => obtain ⟨k1, k2⟩ := q_if (F := fun z => W p l e R s m args below meth c H locs cells slots Q (F0 m z ls _)) rfl k; exact lv_icmp_le hx hb hd ht k1 k2
      · cases h
    · cases hn
  · rcases hn with rfl | hn
    · split at h
      · cases h; exact lv_ifnullN hx hb hd ht k
      · cases h; exact lv_ifnull hx hb hd k
      · cases h
    · cases hn
  · rcases hn with rfl | hn
    · split at h
      · cases h; exact lv_ifnonnullN hx hb hd k
      · cases h; exact lv_ifnonnull hx hb hd ht k
      · cases h
    · cases hn
  · rename_i cd o'
    rcases hn with rfl | hn
    · split at h
      · rename_i w v r
        obtain ⟨bb, h1, h2⟩ := Option.map_eq_some_iff.mp h
        cases h2
        have key : ∃ rx ry : Option Nat, q_rv P v = va_rf rx ∧ q_rv P w = va_rf ry ∧ (bb = decide (rx = ry)) := by
          unfold q_same at h1
          split at h1
          · cases h1; exact ⟨none, none, rfl, rfl, rfl⟩
          · cases h1; exact ⟨none, some _, rfl, rfl, by simp⟩
          · cases h1; exact ⟨some _, none, rfl, rfl, by simp⟩
          · rename_i a9 b9
            split at h1
            · rename_i h12
              cases h1
              refine ⟨some (q_ad P a9), some (q_ad P b9), rfl, rfl, ?_⟩
              have hinj : (some (q_ad P a9) = some (q_ad P b9)) ↔ a9 = b9 := by
                constructor
                · intro he
                  have he := Option.some.inj he
                  obtain ⟨g1, g2⟩ := h12
                  have r1 : ∀ a : Nat, (a = 1 ∨ 4 ≤ a) → a = 1 ∨ ∃ k1, a = k1 + 4 := fun a ha => ha.imp id fun z => ⟨a - 4, by omega⟩
                  rcases r1 a9 g1 with rfl | ⟨k1, rfl⟩ <;> rcases r1 b9 g2 with rfl | ⟨k2, rfl⟩
                  · rfl
                  · exact absurd hP (Nat.not_lt.mpr (Nat.le_trans (Nat.le_add_right P.2 k2) (Nat.le_of_eq (show P.2 + k2 = P.1 1 from he.symm))))
                  · exact absurd hP (Nat.not_lt.mpr (Nat.le_trans (Nat.le_add_right P.2 k1) (Nat.le_of_eq (show P.2 + k1 = P.1 1 from he))))
                  · exact congrArg (· + 4) (Nat.add_left_cancel (show P.2 + k1 = P.2 + k2 from he))
                · intro he; rw [he]
              by_cases ha : a9 = b9
              · simp [ha]
              · have : ¬ (some (q_ad P a9) = some (q_ad P b9)) := fun z => ha (hinj.mp z)
                simp only [ha, this]
            · cases h1
          · cases h1
        obtain ⟨rx, ry, e1, e2, e3⟩ := key
        rw [List.map_cons, List.map_cons, e1, e2]
        cases cd with
        | eq => obtain ⟨k1, k2⟩ := q_if (F := fun z => W p l e R s m args below meth c H locs cells slots Q (F0 m z ls _)) e3 k; exact lv_acmp_eq hx hb hd ht k1 k2
        | ne =>
          obtain ⟨k1, k2⟩ := q_if (d := ¬ rx = ry) (F := fun z => W p l e R s m args below meth c H locs cells slots Q (F0 m z ls _)) (by rw [e3]; simp) k
          exact lv_acmp_ne hx hb hd ht k1 (fun h9 => k2 (fun h8 => h8 h9))
      · cases h
    · cases hn
  · split at h
    · split at h
      · rename_i hout
        cases h
        exact lv_tableOut hx hb hd hout ht k
      · rename_i hin
        obtain ⟨o9, h1, h2⟩ := Option.map_eq_some_iff.mp h
        cases h2
        exact lv_tableIn hx hb hd (fun z => hin (Or.inl z)) (fun z => hin (Or.inr z)) h1 ht k
    · cases h
  · cases h
end QA
end QR
end
section
/-! SOUNDNESS of the pure interpreter, II: the store. -/
section QH
/-- what the tables say of an array class -/
def q_cn (ty : FieldType) : String := match ty with
  | .object C => C
  | t => t.toString
def q_AC (U : State) (cA : ClassId) (ty : FieldType) : Prop := ArrOfT U cA ty ∧ U.vm.findClass ("[" ++ ty.toString) = some cA ∧ (ty.isReference = true → ∃ (kA : Class) (comp : ClassId), U.vm.classes[cA]? = some kA ∧ kA.kind = .array comp ty ∧ U.vm.findClass (q_cn ty) = some comp)
theorem q_AC.moved {u U : State} (hvm : u.vm.Alike U.vm) {cA : ClassId} {ty : FieldType} (h : q_AC u cA ty) : q_AC U cA ty := by
  obtain ⟨h1, h2, h3⟩ := h
  refine ⟨arrOfT_moved hvm h1, by rw [hvm.findClass]; exact h2, fun hr => ?_⟩
  obtain ⟨kA, comp, g1, g2, g3⟩ := h3 hr
  obtain ⟨k', hk', he⟩ := hvm.2.2 _ _ g1
  exact ⟨k', comp, hk', by rw [he]; exact g2, by rw [hvm.findClass]; exact g3⟩
/-- the cell number k of the store lies in the heap -/
def q_C (P : (Nat → Nat) × Nat) (D : va_G) (U : State) (H : Heap) (k : Nat) (c : QC) : Prop :=
  if c.1 < 50 then ∃ row : vw_C, vwCl[c.1]? = some row ∧ t_OB (P.2 + k) (D.1 c.1) row.2.2 (D.2 c.1) H (fun i => q_rv P (q_rd c i))
  else c.1 = 99 ∨ ∃ cA : ClassId, H[P.2 + k]? = some (arrV cA c.2.1 (fun i => q_rv P (q_rd c i))) ∧ q_AC U cA (q_ty c.1)
def q_W (P : (Nat → Nat) × Nat) (D : va_G) (S : QS) (U : State) (H : Heap) : Prop :=
  H.size = P.2 + S.1.length ∧ (∀ (n : Nat) (q : vw_C), vwCl[n]? = some q → u_Kn U q.1 q.2.1 q.2.2 (D.1 n) (D.2 n)) ∧ ∀ (k : Nat) (c : QC), S.1[k]? = some c → q_C P D U H k c
theorem q_C.kept {P : (Nat → Nat) × Nat} {D : va_G} {U : State} {H H1 : Heap} {k : Nat} {c : QC} (h : q_C P D U H k c) (hq : H1[P.2 + k]? = H[P.2 + k]?) : q_C P D U H1 k c := by
  unfold q_C at h ⊢
  split
  · rename_i hc
    rw [if_pos hc] at h
    obtain ⟨row, h1, h2⟩ := h
    exact ⟨row, h1, h2.kept hq⟩
  · rename_i hc
    rw [if_neg hc] at h
    rcases h with h | ⟨cA, h1, h2⟩
    · exact Or.inl h
    · exact Or.inr ⟨cA, by rw [hq]; exact h1, h2⟩
theorem q_C.moved {P : (Nat → Nat) × Nat} {D : va_G} {u U : State} (hvm : u.vm.Alike U.vm) {H : Heap} {k : Nat} {c : QC} (h : q_C P D u H k c) : q_C P D U H k c := by
  unfold q_C at h ⊢
  split
  · rename_i hc
    rw [if_pos hc] at h
    exact h
  · rename_i hc
    rw [if_neg hc] at h
    rcases h with h | ⟨cA, h1, h2⟩
    · exact Or.inl h
    · exact Or.inr ⟨cA, h1, h2.moved hvm⟩
theorem q_W.moved {P : (Nat → Nat) × Nat} {D : va_G} {S : QS} {u U : State} (hvm : u.vm.Alike U.vm) {H : Heap} (h : q_W P D S u H) : q_W P D S U H :=
  ⟨h.1, fun n q hq => u_Kn_moved hvm (h.2.1 n q hq), fun k c hk => (h.2.2 k c hk).moved hvm⟩
theorem q_W.set {P : (Nat → Nat) × Nat} {D : va_G} {S : QS} {U : State} {H H1 : Heap} {k : Nat} {c' : QC} (h : q_W P D S U H) (hz : H1.size = H.size) (ho : ∀ q : Nat, q ≠ P.2 + k → H1[q]? = H[q]?) (hc : q_C P D U H1 k c') : q_W P D (S.1.set k c', S.2) U H1 := by
  refine ⟨by rw [hz, h.1]; simp, h.2.1, fun j x hx => ?_⟩
  by_cases hj : j = k
  · subst hj
    have hx' : (S.1.set j c')[j]? = some x := hx
    have hl : j < S.1.length := by
      have := (List.getElem?_eq_some_iff.mp hx').1
      simpa using this
    rw [List.getElem?_set_self hl] at hx'
    cases hx'
    exact hc
  · have hx' : (S.1.set k c')[j]? = some x := hx
    rw [List.getElem?_set_ne (fun q => hj q.symm)] at hx'
    exact (h.2.2 j x hx').kept (ho _ (by omega))
theorem q_W.push {P : (Nat → Nat) × Nat} {D : va_G} {S : QS} {U : State} {H H1 : Heap} {c' : QC} {n : Nat × Nat} (h : q_W P D S U H) (hz : H1.size = H.size + 1) (ho : ∀ q : Nat, q < H.size → H1[q]? = H[q]?) (hc : q_C P D U H1 S.1.length c') : q_W P D (S.1 ++ [c'], n) U H1 := by
  refine ⟨by rw [hz, h.1]; simp; omega, h.2.1, fun j x hx => ?_⟩
  have hx' : (S.1 ++ [c'])[j]? = some x := hx
  by_cases hj : j < S.1.length
  · rw [List.getElem?_append_left hj] at hx'
    exact (h.2.2 j x hx').kept (ho _ (by rw [h.1]; omega))
  · have hl : j < (S.1 ++ [c']).length := (List.getElem?_eq_some_iff.mp hx').1
    rw [List.length_append, List.length_singleton] at hl
    have he : j = S.1.length := by omega
    subst he
    rw [List.getElem?_append_right (Nat.le_refl _), Nat.sub_self] at hx'
    cases hx'
    exact hc
theorem q_rd_wr (c : QC) (i j : Nat) (v : Value) : q_rd (q_wr c i v) j = if j = i then v else q_rd c j := by
  unfold q_rd q_wr
  by_cases hj : j = i
  · subst hj
    simp
  · rw [if_neg hj]
    have h1 : (i == j) = false := by simpa using fun z : i = j => hj z.symm
    simp only [List.find?_cons, h1]
    have h2 : (c.2.2.filter (fun q => !(q.1 == i))).find? (fun q => q.1 == j) = c.2.2.find? (fun q => q.1 == j) := by
      rw [List.find?_filter]
      congr 1
      funext q
      by_cases hq : q.1 = j
      · have : ¬ q.1 = i := fun z => hj (hq.symm.trans z)
        simp [hq, hj]
      · simp [hq]
    rw [h2]
theorem q_at_s {S : QS} {r : Nat} {c : QC} (h : q_at S r = some c) : ∃ k, r = k + 4 ∧ S.1[k]? = some c := by
  unfold q_at at h
  split at h
  · cases h
  · exact ⟨r - 4, by omega, h⟩
/-- a class of the table: its words, its fields' types, its fields' names -/
def q_cok (n : Nat) (q : vw_C) : Prop := n < 50 ∧ (∀ w ∈ u_ws q.1 q.2.1 q.2.2, w ∈ wsL_law) ∧ (∀ k, k < q.2.2 → parseFieldDescriptor (q.2.1 k).2.2.1 = some (q_fty n k)) ∧ ∀ a, a < q.2.2 → ∀ b, b < q.2.2 → a ≠ b → (q.2.1 a).2.1 ≠ (q.2.1 b).2.1
theorem q_clok : ∀ (n : Nat) (q : vw_C), vwCl[n]? = some q → q_cok n q := by
  intro n q h
  match n, h with
  | 0, h => cases h; exact ⟨by decide, inlJx4a65c, tyJx4a65c_ok, nmJx4a65c⟩
  | 1, h => cases h; exact ⟨by decide, inlX0, tyX0_ok, nmX0⟩
  | 2, h => cases h; exact ⟨by decide, inlX1, tyX1_ok, nmX1⟩
  | 3, h => cases h; exact ⟨by decide, inlX2, tyX2_ok, nmX2⟩
  | 4, h => cases h; exact ⟨by decide, inlX3, tyX3_ok, nmX3⟩
  | 5, h => cases h; exact ⟨by decide, inlX4, tyX4_ok, nmX4⟩
  | 6, h => cases h; exact ⟨by decide, inlX5, tyX5_ok, nmX5⟩
  | 7, h => cases h; exact ⟨by decide, inlX6, tyX6_ok, nmX6⟩
  | 8, h => cases h; exact ⟨by decide, inlX7, tyX7_ok, nmX7⟩
  | 9, h => cases h; exact ⟨by decide, inlX8, tyX8_ok, nmX8⟩
  | 10, h => cases h; exact ⟨by decide, inlX9, tyX9_ok, nmX9⟩
  | 11, h => cases h; exact ⟨by decide, inlX10, tyX10_ok, nmX10⟩
  | 12, h => cases h; exact ⟨by decide, inlX11, tyX11_ok, nmX11⟩
  | 13, h => cases h; exact ⟨by decide, inlX12, tyX12_ok, nmX12⟩
  | n + 14, h => cases h
/-- the entry idx of class own names field k of the class ci -/
def q_fok (own : String) (idx ci k fin : Nat) : Prop := ∃ (row : vw_C) (ref : String), vwCl[ci]? = some row ∧ k < row.2.2 ∧ Cond.fieldLink own idx ref (row.2.1 k).2.1 (row.2.1 k).2.2.1 ∈ wsL_law ∧ (ref = (row.2.1 k).1 ∨ Cond.sameField ref (row.2.1 k).1 (row.2.1 k).2.1 (row.2.1 k).2.2.1 ∈ wsL_law) ∧ ((fin = 0 ∧ (row.2.1 k).2.2.2 = false) ∨ (fin = 1 ∧ (row.2.1 k).2.2.2 = true ∧ (row.2.1 k).1 = own) ∨ fin = 2)
theorem q_via {s : State} {args : Array Value} {ref O n d : String} (h : ref = O ∨ (Cond.sameField ref O n d).before args s = true) : ∀ x, s.fieldFound? O n d = some x → s.fieldFound? ref n d = some x := by
  rcases h with rfl | w
  · exact fun _ h => h
  · intro x hx
    cases hr : s.fieldFound? ref n d with
    | none => simp [Cond.before, Cond.holds, Cond.value, hr] at w
    | some y => obtain ⟨c1, k1, i1, f1⟩ := y; rw [Cond.sameField_spec hr w] at hx; exact hx
def q_A (P : (Nat → Nat) × Nat) : Nat → Prop := fun q => P.2 ≤ q
section QB
variable {p : Program} {l : Launch} {e : Env} {R : Room} {s : State} {m : MethodId} {args : Array Value} {below : List Frame} {meth : Method} {c : Code} {H H0 : Heap} {locs : List Loc} {cells slots : Nat} {Q : State → Prop} {cc : ByteArray} {pc nL : Nat} {ls : Array Slot} {P : (Nat → Nat) × Nat} {D : va_G} {S : QS} {own : String} {rest : List Value}
theorem q_getf_ok (F : CallFix p m c cc nL s args wsL_law own) (hW : q_W P D S s H) {k ci j idx fin : Nat} {x : QC} (hk : S.1[k]? = some x) (hci : x.1 = ci) (hf : q_fok own idx ci j fin) (hd : decode cc pc = .ok (.getfield idx, 3))
    (kk : W p l e R s m args below meth c H locs cells slots Q (F0 m (pc + 3) ls (q_rv P (q_rd x j) :: rest))) : W p l e R s m args below meth c H locs cells slots Q (F0 m pc ls (.ref (P.2 + k) :: rest)) := by
  obtain ⟨hx, hb, hml, hown, hts⟩ := F
  obtain ⟨hz, hcls, hcell⟩ := hW
  obtain ⟨row, ref, hrow, hjN, hmem, hsame, -⟩ := hf
  subst hci
  obtain ⟨h50, hin, hty, hnm⟩ := q_clok _ _ hrow
  have hC := hcell k x hk
  unfold q_C at hC
  rw [if_pos h50] at hC
  obtain ⟨row', hrow', cell, h1, h2, h3, h4⟩ := hC
  cases Option.some.inj (hrow.symm.trans hrow')
  obtain ⟨hS, hfc, kC, hkC, hkind⟩ := hcls x.1 row hrow
  obtain ⟨cf, kf, fi, f, hi, hsl⟩ := hS j hjN
  have hl := u_lays hts hin hjN
  refine W.getf hx hb hown (hts _ hmem) (q_via (hsame.imp id (fun w => hts _ w)) _ hi) (u_facts hfc hkC hl hi).1 h1 (by rw [h3]; exact fun h => by cases h) (v := q_rv P (q_rd x j)) ?_ rfl rfl hd kk
  rw [hsl, h4 j hjN]
theorem q_putf_ok (F : CallFix p m c cc nL s args wsL_law own) (hW : q_W P D S s H) (hS0 : va_S (q_A P) H0 H locs) {k ci j idx fin : Nat} {x : QC} {v : Value} (hk : S.1[k]? = some x) (hci : x.1 = ci) (hf : q_fok own idx ci j fin) (hn : narrow (q_fty ci j) v = v) (hfit : fits (q_fty ci j) v = true) (hfin : fin = 0 ∨ (fin = 1 ∧ meth.name = "<init>")) (hd : decode cc pc = .ok (.putfield idx, 3))
    (kk : ∀ (H1 : Heap) (locs1 : List Loc), q_W P D (S.1.set k (q_wr x j v), S.2) s H1 → va_S (q_A P) H0 H1 locs1 → W p l e R s m args below meth c H1 locs1 cells slots Q (F0 m (pc + 3) ls rest)) : W p l e R s m args below meth c H locs cells slots Q (F0 m pc ls (q_rv P v :: .ref (P.2 + k) :: rest)) := by
  have hW0 := hW
  obtain ⟨hx, hb, hml, hown, hts⟩ := F
  obtain ⟨hz, hcls, hcell⟩ := hW
  obtain ⟨row, ref, hrow, hjN, hmem, hsame, hfl⟩ := hf
  subst hci
  obtain ⟨h50, hin, hty, hnm⟩ := q_clok _ _ hrow
  have hC := hcell k x hk
  unfold q_C at hC
  rw [if_pos h50] at hC
  obtain ⟨row', hrow', cell, h1, h2, h3, h4⟩ := hC
  cases Option.some.inj (hrow.symm.trans hrow')
  obtain ⟨hS, hfc, kC, hkC, hkind⟩ := hcls x.1 row hrow
  obtain ⟨cf, kf, fi, f, hi, hsl⟩ := hS j hjN
  have hlay := hts _ (hin _ (u_in_lay hjN))
  have hls := u_lays hts hin hjN
  have hst := (u_facts hfc hkC hls hi).1
  have hap : ∀ a b, a < row.2.2 → b < row.2.2 → a ≠ b → (D.2 x.1) a ≠ (D.2 x.1) b := by
    intro a b ha hb9 hne
    obtain ⟨_, _, _, fa, hia, ea⟩ := hS a ha
    obtain ⟨_, _, _, fb, hib, eb⟩ := hS b hb9
    rw [← ea, ← eb]
    refine u_apart (u_lays hts hin ha) (u_lays hts hin hb9) hia hib ?_
    rw [(State.fieldFound?_type hia (hty a ha)).1, (State.fieldFound?_type hib (hty b hb9)).1]
    exact hnm a ha b hb9 hne
  have hn2 : narrow (q_fty x.1 j) (q_rv P v) = q_rv P v := by
    cases v <;> first | exact hn | (simp only [q_rv]; cases q_fty x.1 j <;> rfl)
  have hfit2 : fits (q_fty x.1 j) (q_rv P v) = true := by
    cases v <;> first | exact hfit | (simp only [q_rv]; revert hfit; cases q_fty x.1 j <;> exact id)
  have hcell9 : ∀ H1 : Heap, H1[P.2 + k]? = some (cell.setSlot (D.2 x.1 j) (q_rv P v)) → q_C P D s H1 k (q_wr x j v) := by
    intro H1 e1
    unfold q_C
    rw [if_pos (show (q_wr x j v).1 < 50 from h50)]
    refine ⟨row, hrow, _, e1, h2, h3, fun i hi9 => ?_⟩
    show (cell.setSlot (D.2 x.1 j) (q_rv P v)).slots[D.2 x.1 i]? = some (q_rv P (q_rd (q_wr x j v) i))
    rw [t_set h4 hap hjN (q_rv P v) i hi9, q_rd_wr]
    simp only [updV]
    split <;> rfl
  have hAk : q_A P (P.2 + k) := Nat.le_add_right _ _
  rcases hfl with ⟨hf0, hfl⟩ | ⟨hf0, hfl, hdecl⟩ | hf2
  · unfold u_lay at hlay
    rw [if_neg (by rw [hfl]; decide)] at hlay
    have h6 := u_store hfc hkC hkind hlay hi (hty j hjN) hn2 hfit2
    refine W.putK hx hb (f := f) ⟨hown, hts _ hmem, ⟨_, _, _, q_via (hsame.imp id (fun w => hts _ w)) _ hi⟩, hst⟩ (by rw [h2]; exact h6) h1 h3 (by rw [hsl]; exact k2_hasslot (h4 j hjN)) rfl rfl hd fun H' e1 e2 e3 => ?_
    rw [hsl] at e1 ⊢
    exact kk H' _ (hW0.set e2 e3 (hcell9 H' e1)) (hS0.put e2 e3 hAk)
  · have hin2 : meth.name = "<init>" := (hfin.resolve_left (by omega)).2
    unfold u_lay at hlay
    rw [if_pos hfl] at hlay
    have hcf : m.cls = cf := by
      obtain ⟨_, _, c', _, _, _, -, -, hf', -, -, -, hown2, -⟩ := Cond.laysFinal_spec hlay
      have e1 : c' = cf := by have := hi.symm.trans hf'; simp at this; exact this.1.symm
      rw [hdecl] at hown2
      rw [← e1]; exact Option.some.inj (hown.symm.trans hown2)
    have h6 := u_fits hfc hkC hkind (Or.inr hlay) hi (hty j hjN) hn2 hfit2
    refine W.putFinK hx hb hown (hts _ hmem) (q_via (hsame.imp id (fun w => hts _ w)) _ hi) hst hcf hin2 (by rw [h2]; exact h6) h1 h3 (by rw [hsl]; exact k2_hasslot (h4 j hjN)) rfl rfl hd fun H' e1 e2 e3 => ?_
    rw [hsl] at e1 ⊢
    exact kk H' _ (hW0.set e2 e3 (hcell9 H' e1)) (hS0.put e2 e3 hAk)
  · rcases hfin with h9 | ⟨h9, -⟩ <;> omega
theorem q_idx_s {i : Int32} {n j : Nat} (h : q_idx i n = some j) : ¬ (i < 0 ∨ n ≤ i.toNatClampNeg) ∧ j = i.toNatClampNeg ∧ j < n := by
  unfold q_idx at h
  split at h
  · cases h
  · rename_i hi
    cases h
    exact ⟨hi, rfl, Nat.not_le.mp fun z => hi (Or.inr z)⟩
/-- an array of the store, as the heap has it -/
theorem q_arr_of (hW : q_W P D S s H) {k : Nat} {x : QC} (hk : S.1[k]? = some x) (h100 : 100 ≤ x.1) : ∃ cA : ClassId, H[P.2 + k]? = some (arrV cA x.2.1 (fun i => q_rv P (q_rd x i))) ∧ q_AC s cA (q_ty x.1) := by
  have hC := hW.2.2 k x hk
  unfold q_C at hC
  rw [if_neg (by omega)] at hC
  rcases hC with h | h
  · omega
  · exact h
theorem q_alen_ok (F : CallFix p m c cc nL s args wsL_law own) (hW : q_W P D S s H) {k : Nat} {x : QC} (hk : S.1[k]? = some x) (h100 : 100 ≤ x.1) (hd : decode cc pc = .ok (.arraylength, 1))
    (kk : W p l e R s m args below meth c H locs cells slots Q (F0 m (pc + 1) ls (.int (Int32.ofNat x.2.1) :: rest))) : W p l e R s m args below meth c H locs cells slots Q (F0 m pc ls (.ref (P.2 + k) :: rest)) := by
  obtain ⟨cA, h1, h2, -⟩ := q_arr_of hW hk h100
  exact W.alen (n := Int32.ofNat x.2.1) F.1 F.2.1 h1 (h2 _ _) (by rw [arrV_size]) rfl rfl hd kk
theorem q_ald_ok (F : CallFix p m c cc nL s args wsL_law own) (hW : q_W P D S s H) {k j : Nat} {x : QC} {i : Instr} {y : Int32} (hk : S.1[k]? = some x) (hkd : q_akd i x.1 = true) (hi : i = .iaload ∨ i = .laload ∨ i = .baload ∨ i = .aaload) (hix : q_idx y x.2.1 = some j) (hd : decode cc pc = .ok (i, 1))
    (kk : W p l e R s m args below meth c H locs cells slots Q (F0 m (pc + 1) ls (q_rv P (q_rd x j) :: rest))) : W p l e R s m args below meth c H locs cells slots Q (F0 m pc ls (.int y :: .ref (P.2 + k) :: rest)) := by
  obtain ⟨hin, rfl, hlt⟩ := q_idx_s hix
  have h100 : 100 ≤ x.1 := by
    rcases hi with rfl | rfl | rfl | rfl <;> simp [q_akd] at hkd <;> omega
  obtain ⟨cA, h1, h2, h3, h4⟩ := q_arr_of hW hk h100
  have hin' : ¬ (y < 0 ∨ (arrV cA x.2.1 (fun i => q_rv P (q_rd x i))).slots.size ≤ y.toNatClampNeg) := by rw [arrV_size]; exact hin
  have hv : (arrV cA x.2.1 (fun i => q_rv P (q_rd x i))).slots[y.toNatClampNeg]? = some (q_rv P (q_rd x y.toNatClampNeg)) := arrV_read _ _ hlt
  have hvm : (arrV cA x.2.1 (fun i => q_rv P (q_rd x i))).vm ≠ .unknown := fun z => by cases z
  rcases hi with rfl | rfl | rfl | rfl
  · have e : q_ty x.1 = .int := by simp [q_akd] at hkd; rw [hkd]; rfl
    rw [e] at h2
    exact W.iald F.1 F.2.1 h1 (h2 _ _) hvm hin' hv rfl rfl hd kk
  · have e : q_ty x.1 = .long := by simp [q_akd] at hkd; rw [hkd]; rfl
    rw [e] at h2
    exact W.lald F.1 F.2.1 h1 (h2 _ _) hvm hin' hv rfl rfl hd kk
  · have e : q_ty x.1 = .boolean := by simp [q_akd] at hkd; rw [hkd]; rfl
    rw [e] at h2
    exact W.zald F.1 F.2.1 h1 (h2 _ _) hvm hin' hv rfl rfl hd kk
  · have e : (q_ty x.1).isReference = true := by
      simp [q_akd] at hkd
      unfold q_ty
      rw [if_neg (by omega), if_neg (by omega), if_neg (by omega)]
      split; rfl
      split; rfl
      split; rfl
      split; rfl
      split; rfl
      rfl
    exact W.aald F.1 F.2.1 h1 (h2 _ _) e hvm hin' hv rfl rfl hd kk
/-- a place of an array is written -/
theorem q_arr_set (hW : q_W P D S s H) {k j : Nat} {x : QC} {cA : ClassId} {v : Value} {H1 : Heap} (hk : S.1[k]? = some x) (h100 : 100 ≤ x.1) (h2 : q_AC s cA (q_ty x.1)) (e1 : H1[P.2 + k]? = some ((arrV cA x.2.1 (fun i => q_rv P (q_rd x i))).setSlot j (q_rv P v))) (e2 : H1.size = H.size) (e3 : ∀ q : Nat, q ≠ P.2 + k → H1[q]? = H[q]?) : q_W P D (S.1.set k (q_wr x j v), S.2) s H1 := by
  refine hW.set e2 e3 ?_
  unfold q_C
  rw [if_neg (show ¬ (q_wr x j v).1 < 50 by show ¬ x.1 < 50; omega)]
  refine Or.inr ⟨cA, ?_, h2⟩
  rw [e1, arrV_store]
  congr 2
  funext i
  simp only [updV, q_rd_wr]
  split <;> rfl
theorem q_iast_ok (F : CallFix p m c cc nL s args wsL_law own) (hW : q_W P D S s H) (hS0 : va_S (q_A P) H0 H locs) {k j : Nat} {x : QC} {y z : Int32} (hk : S.1[k]? = some x) (hkd : x.1 = 100) (hix : q_idx y x.2.1 = some j) (hd : decode cc pc = .ok (.iastore, 1))
    (kk : ∀ (H1 : Heap) (locs1 : List Loc), q_W P D (S.1.set k (q_wr x j (.int z)), S.2) s H1 → va_S (q_A P) H0 H1 locs1 → W p l e R s m args below meth c H1 locs1 cells slots Q (F0 m (pc + 1) ls rest)) : W p l e R s m args below meth c H locs cells slots Q (F0 m pc ls (.int z :: .int y :: .ref (P.2 + k) :: rest)) := by
  obtain ⟨hin, rfl, hlt⟩ := q_idx_s hix
  obtain ⟨cA, h1, h2⟩ := q_arr_of hW hk (by omega)
  have h3 := h2.1
  rw [hkd] at h3
  exact W.iast F.1 F.2.1 h1 (h3 _ _) (fun q => by cases q) (by rw [arrV_size]; exact hin) rfl rfl hd fun H1 e1 e2 e3 => kk H1 _ (q_arr_set (v := .int z) hW hk (by omega) h2 e1 e2 e3) (hS0.put e2 e3 (Nat.le_add_right _ _))
theorem q_last_ok (F : CallFix p m c cc nL s args wsL_law own) (hW : q_W P D S s H) (hS0 : va_S (q_A P) H0 H locs) {k j : Nat} {x : QC} {y : Int32} {z : Int64} (hk : S.1[k]? = some x) (hkd : x.1 = 101) (hix : q_idx y x.2.1 = some j) (hd : decode cc pc = .ok (.lastore, 1))
    (kk : ∀ (H1 : Heap) (locs1 : List Loc), q_W P D (S.1.set k (q_wr x j (.long z)), S.2) s H1 → va_S (q_A P) H0 H1 locs1 → W p l e R s m args below meth c H1 locs1 cells slots Q (F0 m (pc + 1) ls rest)) : W p l e R s m args below meth c H locs cells slots Q (F0 m pc ls (.long z :: .int y :: .ref (P.2 + k) :: rest)) := by
  obtain ⟨hin, rfl, hlt⟩ := q_idx_s hix
  obtain ⟨cA, h1, h2⟩ := q_arr_of hW hk (by omega)
  have h3 := h2.1
  rw [hkd] at h3
  exact W.last F.1 F.2.1 h1 (h3 _ _) (fun q => by cases q) (by rw [arrV_size]; exact hin) rfl rfl hd fun H1 e1 e2 e3 => kk H1 _ (q_arr_set (v := .long z) hW hk (by omega) h2 e1 e2 e3) (hS0.put e2 e3 (Nat.le_add_right _ _))
theorem q_zast_ok (F : CallFix p m c cc nL s args wsL_law own) (hW : q_W P D S s H) (hS0 : va_S (q_A P) H0 H locs) {k j : Nat} {x : QC} {y z : Int32} (hk : S.1[k]? = some x) (hkd : x.1 = 102) (hix : q_idx y x.2.1 = some j) (hd : decode cc pc = .ok (.bastore, 1))
    (kk : ∀ (H1 : Heap) (locs1 : List Loc), q_W P D (S.1.set k (q_wr x j (narrow .boolean (.int z))), S.2) s H1 → va_S (q_A P) H0 H1 locs1 → W p l e R s m args below meth c H1 locs1 cells slots Q (F0 m (pc + 1) ls rest)) : W p l e R s m args below meth c H locs cells slots Q (F0 m pc ls (.int z :: .int y :: .ref (P.2 + k) :: rest)) := by
  obtain ⟨hin, rfl, hlt⟩ := q_idx_s hix
  obtain ⟨cA, h1, h2⟩ := q_arr_of hW hk (by omega)
  have h3 := h2.1
  rw [hkd] at h3
  exact W.zast F.1 F.2.1 h1 (h3 _ _) (fun q => by cases q) (by rw [arrV_size]; exact hin) rfl rfl hd fun H1 e1 e2 e3 => kk H1 _ (q_arr_set (v := narrow .boolean (.int z)) hW hk (by omega) h2 e1 e2 e3) (hS0.put e2 e3 (Nat.le_add_right _ _))
/-- which array takes which thing -/
def q_aok (a b : Nat) : Prop := (a = 103 ∧ b = 2) ∨ (a = 104 ∧ b = 4) ∨ (a = 105 ∧ b = 6) ∨ (a = 106 ∧ b = 11) ∨ (a = 108 ∧ b = 101)
theorem q_aast_ok (F : CallFix p m c cc nL s args wsL_law own) (hW : q_W P D S s H) (hS0 : va_S (q_A P) H0 H locs) {k k2 j : Nat} {x x2 : QC} {y : Int32} (hk : S.1[k]? = some x) (hk2 : S.1[k2]? = some x2) (hkd : q_aok x.1 x2.1) (hix : q_idx y x.2.1 = some j) (hd : decode cc pc = .ok (.aastore, 1))
    (kk : ∀ (H1 : Heap) (locs1 : List Loc), q_W P D (S.1.set k (q_wr x j (.ref (k2 + 4))), S.2) s H1 → va_S (q_A P) H0 H1 locs1 → W p l e R s m args below meth c H1 locs1 cells slots Q (F0 m (pc + 1) ls rest)) : W p l e R s m args below meth c H locs cells slots Q (F0 m pc ls (.ref (P.2 + k2) :: .int y :: .ref (P.2 + k) :: rest)) := by
  obtain ⟨hin, rfl, hlt⟩ := q_idx_s hix
  have h100 : 100 ≤ x.1 := by rcases hkd with h | h | h | h | h <;> omega
  obtain ⟨cA, h1, h2⟩ := q_arr_of hW hk h100
  have href : (q_ty x.1).isReference = true := by rcases hkd with h | h | h | h | h <;> rw [h.1] <;> rfl
  obtain ⟨kA, comp, g1, g2, g3⟩ := h2.2.2 href
  have hval : ∃ (cv : Cell) (kv : Class), H[P.2 + k2]? = some cv ∧ cv.vm = .none ∧ cv.cls = comp ∧ s.vm.classes[comp]? = some kv := by
    have hC := hW.2.2 k2 x2 hk2
    have obj : ∀ (n : Nat) (q : vw_C), x2.1 = n → vwCl[n]? = some q → q_cn (q_ty x.1) = q.1 → ∃ (cv : Cell) (kv : Class), H[P.2 + k2]? = some cv ∧ cv.vm = .none ∧ cv.cls = comp ∧ s.vm.classes[comp]? = some kv := by
      intro n q hn hq hcn
      subst hn
      obtain ⟨h50, -⟩ := q_clok _ _ hq
      unfold q_C at hC
      rw [if_pos h50] at hC
      obtain ⟨row', hrow', cell, c1, c2, c3, -⟩ := hC
      obtain ⟨-, hfc, kC, hkC, -⟩ := hW.2.1 _ _ hq
      rw [hcn] at g3
      have hcomp := Option.some.inj (g3.symm.trans hfc)
      subst hcomp
      exact ⟨cell, kC, c1, c3, c2, hkC⟩
    rcases hkd with ⟨ha, hb9⟩ | ⟨ha, hb9⟩ | ⟨ha, hb9⟩ | ⟨ha, hb9⟩ | ⟨ha, hb9⟩
    · exact obj 2 _ hb9 rfl (by rw [ha]; rfl)
    · exact obj 4 _ hb9 rfl (by rw [ha]; rfl)
    · exact obj 6 _ hb9 rfl (by rw [ha]; rfl)
    · exact obj 11 _ hb9 rfl (by rw [ha]; rfl)
    · obtain ⟨cB, b1, b2⟩ := q_arr_of hW hk2 (by omega)
      have hn : q_cn (q_ty x.1) = "[" ++ (q_ty x2.1).toString := by rw [ha, hb9]; decide
      rw [hn] at g3
      have hcomp := Option.some.inj (g3.symm.trans b2.2.1)
      obtain ⟨kB, q1, -⟩ := Vm.findClass_spec b2.2.1
      subst hcomp
      exact ⟨_, kB, b1, rfl, rfl, q1⟩
  obtain ⟨cv, kv, v1, v2, v3, v4⟩ := hval
  have hself : s.vm.assignable cv.cls comp = true := by
    rw [v3]
    first | (show s.vm.assignableAux _ comp comp = true; unfold Vm.assignableAux; simp)
  refine W.aast F.1 F.2.1 h1 (fun q h => by cases h) (fun h => by cases h) g1 g2 href v4 ⟨fun z => hin (Or.inl z), by rw [arrV_size]; exact hlt⟩ v1 (fun q h => by rw [v2] at h; cases h) (by rw [v3]; exact v4) hself rfl rfl hd fun H1 e1 e2 e3 => ?_
  exact kk H1 _ (q_arr_set (v := .ref (k2 + 4)) hW hk h100 h2 e1 e2 e3) (hS0.put e2 e3 (Nat.le_add_right _ _))
end QB
end QH
end
section
/-! SOUNDNESS of the pure interpreter, III: what the Statement gives of the start (old things), makings, throws. -/
section QE
def q_en (e : Nat) : String := if e = 0 then "java/lang/IndexOutOfBoundsException" else if e = 1 then "java/lang/IllegalArgumentException" else "java/lang/IllegalStateException"
def q_nms : List String := ["java/lang/RuntimeException", "java/lang/Exception"]
/-- the old static arrays 1, 2, 3: class, name, descriptor, what their elements are, length, elements -/
def q_zc (a : Nat) : String := if a = 1 then "java/util/ArrayList" else "DurableLoom"
def q_zn (a : Nat) : String := if a = 1 then "DEFAULTCAPACITY_EMPTY_ELEMENTDATA" else if a = 2 then "TOP_A" else "TOP_B"
def q_zd (a : Nat) : String := if a = 1 then "[Ljava/lang/Object;" else "[I"
def q_zt (a : Nat) : FieldType := if a = 1 then .object "java/lang/Object" else .int
def q_zl (a : Nat) : Nat := if a = 1 then 0 else 24
def q_zf (a j : Nat) : Value := if a = 1 then .null else if a = 2 then .int (q_ta.getD j 0) else .int (q_tb.getD j 0)
/-- old things: the script, ArrayList's empty array, two statics of Throwable, the texts of the throws -/
def q_V (P : (Nat → Nat) × Nat) (xs : List Int32) (TX : List (String × Nat × String)) (U : State) (H : Heap) : Prop :=
  (P.1 0 < P.2 ∧ P.1 1 < P.2 ∧ P.2 ≤ H.size) ∧ va_X (P.1 0) xs.length (fun j => xs.getD j 0) U H ∧
  (vx_Zq Bundle.tN "UNASSIGNED_STACK" Bundle.steD (q_A P) U H ∧ vx_Zq Bundle.tN "SUPPRESSED_SENTINEL" Bundle.listD (q_A P) U H) ∧
  (∀ a, 1 ≤ a → a < 4 → va_Z (q_zc a) (q_zn a) (q_zd a) (.ref (P.1 a)) (q_A P) U H) ∧ (∀ a, 1 ≤ a → a < 4 → va_T (q_zt a) (P.1 a) (q_zl a) (q_zf a) (q_A P) U H) ∧
  (∀ q ∈ TX, ∃ sa : Nat, vk_R q.1 q.2.1 q.2.2 sa U) ∧ (∀ e, e < 3 → va_Nw (.castable (q_en e) (q_en e)) U) ∧ (∀ e f, e < 3 → f < 3 → e ≠ f → va_Nc (q_en e) (q_en f) U) ∧
  (∀ kd, 103 ≤ kd → kd ≤ 108 → (Cond.arrayOver (q_ty kd)).before #[] U = true) ∧ ∀ q ∈ q_NL, va_Nw (.methodLinkNest q.1 q.2.1 q.2.2 "DurableLoom") U
theorem q_over_moved {ty : FieldType} (hty : (∃ C, ty = .object C) ∨ ty = .array .long) {u U : State} (hvm : u.vm.Alike U.vm) (h : (Cond.arrayOver ty).before #[] u = true) : (Cond.arrayOver ty).before #[] U = true := by
  have h2 := Cond.arrayOver_setVmC (args := #[]) (s := u) hvm ty
  rw [h] at h2
  rcases hty with ⟨C, rfl⟩ | rfl
  · exact h2
  · exact h2
theorem q_V.moved {P : (Nat → Nat) × Nat} {xs : List Int32} {TX : List (String × Nat × String)} {u U : State} {H : Heap} (hW : u.WarmedH U.vm) (h : q_V P xs TX u H) : q_V P xs TX U H := by
  obtain ⟨h1, h2, ⟨h3, h4⟩, h5, h6, h7, h8, h9, h10, h11⟩ := h
  have hvm : u.vm.Alike U.vm := hW.alike
  refine ⟨h1, h2.moved hvm, ⟨h3.moved hvm, h4.moved hvm⟩, fun a a1 a2 => (h5 a a1 a2).moved hvm, fun a a1 a2 => (h6 a a1 a2).moved hvm, fun q hq => ?_, fun e he => va_Nw.warmC hW (h8 e he), fun e f he hf hne => (h9 e f he hf hne).moved hvm, fun kd k1 k2 => ?_, fun q hq => va_Nw.warmM hW (h11 q hq)⟩
  · obtain ⟨sa, hs⟩ := h7 q hq
    exact ⟨sa, vk_R.warm hW hs⟩
  · refine q_over_moved ?_ hvm (h10 kd k1 k2)
    unfold q_ty
    rw [if_neg (by omega), if_neg (by omega), if_neg (by omega)]
    split; exact Or.inl ⟨_, rfl⟩
    split; exact Or.inl ⟨_, rfl⟩
    split; exact Or.inl ⟨_, rfl⟩
    split; exact Or.inl ⟨_, rfl⟩
    split; exact Or.inl ⟨_, rfl⟩
    exact Or.inr rfl
theorem q_V.blind {P : (Nat → Nat) × Nat} {xs : List Int32} {TX : List (String × Nat × String)} {u U : State} {H : Heap} (hv : u.vm = U.vm) (h : q_V P xs TX u H) : q_V P xs TX U H := q_V.moved (by rw [← hv]; exact State.WarmedH.refl u) h
theorem q_V.kept {P : (Nat → Nat) × Nat} {xs : List Int32} {TX : List (String × Nat × String)} {U : State} {H H1 : Heap} (h : q_V P xs TX U H) (hz : H.size ≤ H1.size) (hq : ∀ q : Nat, q < H.size → ¬ q_A P q → H1[q]? = H[q]?) : q_V P xs TX U H1 := by
  obtain ⟨⟨h1, h1b, h1c⟩, h2, ⟨h3, h4⟩, h5, h6, h7, h8, h9, h10, h11⟩ := h
  exact ⟨⟨h1, h1b, Nat.le_trans h1c hz⟩, h2.kept (hq _ (Nat.lt_of_lt_of_le h1 h1c) (Nat.not_le.mpr h1)), ⟨h3.kept hq, h4.kept hq⟩, fun a a1 a2 => (h5 a a1 a2).kept hq, fun a a1 a2 => (h6 a a1 a2).kept hq, h7, h8, h9, h10, h11⟩
section QB
variable {p : Program} {l : Launch} {e : Env} {R : Room} {s : State} {m : MethodId} {args : Array Value} {below : List Frame} {meth : Method} {c : Code} {H : Heap} {locs : List Loc} {cells slots : Nat} {Q : State → Prop} {cc : ByteArray} {pc nL : Nat} {ls : Array Slot} {P : (Nat → Nat) × Nat} {D : va_G} {S : QS} {own : String} {rest : List Value} {xs : List Int32} {TX : List (String × Nat × String)}
theorem q_slen_ok (F : CallFix p m c cc nL s args wsL_law own) (hV : q_V P xs TX s s.heap) (hS : va_S (q_A P) s.heap H locs) (hd : decode cc pc = .ok (.arraylength, 1))
    (kk : W p l e R s m args below meth c H locs cells slots Q (F0 m (pc + 1) ls (.int (Int32.ofNat xs.length) :: rest))) : W p l e R s m args below meth c H locs cells slots Q (F0 m pc ls (.ref (P.1 0) :: rest)) :=
  va_slen F.1 F.2.1 hV.2.1 (Nat.lt_of_lt_of_le hV.1.1 hV.1.2.2) (Nat.not_le.mpr hV.1.1) hS hd kk
theorem q_sld_ok (F : CallFix p m c cc nL s args wsL_law own) (hV : q_V P xs TX s s.heap) (hS : va_S (q_A P) s.heap H locs) {i : Int32} {j : Nat} (hi : q_idx i xs.length = some j) (hd : decode cc pc = .ok (.iaload, 1))
    (kk : W p l e R s m args below meth c H locs cells slots Q (F0 m (pc + 1) ls (.int (xs.getD j 0) :: rest))) : W p l e R s m args below meth c H locs cells slots Q (F0 m pc ls (.int i :: .ref (P.1 0) :: rest)) := by
  obtain ⟨h1, rfl, h3⟩ := q_idx_s hi
  exact va_sld F.1 F.2.1 hV.2.1 (Nat.lt_of_lt_of_le hV.1.1 hV.1.2.2) (Nat.not_le.mpr hV.1.1) hS h1 hd kk
theorem q_elen_ok (F : CallFix p m c cc nL s args wsL_law own) (hV : q_V P xs TX s s.heap) (hS : va_S (q_A P) s.heap H locs) {a : Nat} (a1 : 1 ≤ a) (a2 : a < 4) (hd : decode cc pc = .ok (.arraylength, 1))
    (kk : W p l e R s m args below meth c H locs cells slots Q (F0 m (pc + 1) ls (.int (Int32.ofNat (q_zl a)) :: rest))) : W p l e R s m args below meth c H locs cells slots Q (F0 m pc ls (.ref (P.1 a) :: rest)) :=
  va_tlen F.1 F.2.1 (hV.2.2.2.2.1 a a1 a2) hS rfl hd kk
theorem q_eld_ok (F : CallFix p m c cc nL s args wsL_law own) (hV : q_V P xs TX s s.heap) (hS : va_S (q_A P) s.heap H locs) {a : Nat} (a1 : 2 ≤ a) (a2 : a < 4) {i v : Int32} {j : Nat} (hi : q_idx i 24 = some j) (hv : q_zf a j = .int v) (hd : decode cc pc = .ok (.iaload, 1))
    (kk : W p l e R s m args below meth c H locs cells slots Q (F0 m (pc + 1) ls (.int v :: rest))) : W p l e R s m args below meth c H locs cells slots Q (F0 m pc ls (.int i :: .ref (P.1 a) :: rest)) := by
  obtain ⟨h1, rfl, h3⟩ := q_idx_s hi
  have hT := hV.2.2.2.2.1 a (by omega) a2
  have e1 : q_zt a = .int := by unfold q_zt; rw [if_neg (by omega)]
  have e2 : q_zl a = 24 := by unfold q_zl; rw [if_neg (by omega)]
  rw [e1, e2] at hT
  exact va_ti F.1 F.2.1 hT hS h1 hv hd kk
theorem q_gets_ok (F : CallFix p m c cc nL s args wsL_law own) (hV : q_V P xs TX s s.heap) (hS : va_S (q_A P) s.heap H locs) {idx a : Nat} (a1 : 1 ≤ a) (a2 : a < 4) (hlk : Cond.fieldLink own idx (q_zc a) (q_zn a) (q_zd a) ∈ wsL_law) (hd : decode cc pc = .ok (.getstatic idx, 3))
    (kk : W p l e R s m args below meth c H locs cells slots Q (F0 m (pc + 3) ls (.ref (P.1 a) :: rest))) : W p l e R s m args below meth c H locs cells slots Q (F0 m pc ls rest) :=
  va_gets F.1 F.2.1 (hV.2.2.2.1 a a1 a2) hS F.2.2.2.1 (F.2.2.2.2 _ hlk) (fun _ h => h) hd kk
theorem q_rv_old {a : Nat} (h : a < 4) : q_rv P (.ref a) = .ref (P.1 a) := by
  match a, h with
  | 0, _ => rfl
  | 1, _ => rfl
  | 2, _ => rfl
  | 3, _ => rfl
theorem q_S_push {H1 : Heap} (hS : va_S (q_A P) s.heap H locs) (hz : H1.size = H.size + 1) (ho : ∀ q : Nat, q < H.size → H1[q]? = H[q]?) : va_S (q_A P) s.heap H1 locs :=
  ⟨Nat.le_trans hS.1 (by omega), fun x h1 h2 => (ho x (Nat.lt_of_lt_of_le h1 hS.1)).trans (hS.2.1 x h1 h2), hS.2.2⟩
theorem q_rd_new (kd n i : Nat) : q_rd (kd, n, []) i = q_dv kd i := rfl
theorem q_dv_rv (kd i : Nat) : q_rv P (q_dv kd i) = q_dv kd i := by
  have h : ∀ ty : FieldType, q_rv P (defaultValue ty) = defaultValue ty := fun ty => by cases ty <;> rfl
  unfold q_dv
  split
  · exact h _
  · exact h _
theorem q_new_ok (F : CallFix p m c cc nL s args wsL_law own) (hW : q_W P D S s H) (hS : va_S (q_A P) s.heap H locs) {idx ci n : Nat} {row : vw_C} (hrow : vwCl[ci]? = some row) (hN : row.2.2 = n) (hcl : Cond.classLink own idx row.1 ∈ wsL_law) (hinst : Cond.instantiable row.1 n ∈ wsL_law) (hini : Cond.initialized row.1 ∈ wsL_law) (hcells : cells + 1 ≤ R.cells) (hslots : slots + n ≤ R.slots) (hd : decode cc pc = .ok (.new idx, 3))
    (kk : ∀ H1 : Heap, q_W P D (q_new S (ci, n, [])) s H1 → va_S (q_A P) s.heap H1 locs → W p l e R s m args below meth c H1 locs (cells + 1) (slots + n) Q (F0 m (pc + 3) ls (.ref (P.2 + S.1.length) :: rest))) : W p l e R s m args below meth c H locs cells slots Q (F0 m pc ls rest) := by
  obtain ⟨hx, hb, hml, hown, hts⟩ := F
  obtain ⟨h50, hin, hty, hnm⟩ := q_clok _ _ hrow
  have hKn := hW.2.1 _ _ hrow
  rw [← hW.1] at kk
  subst hN
  refine W.newcK hx hb hown (hts _ hcl) (hts _ hinst) (hts _ hini) rfl hd hcells hslots hKn.2.1 rfl fun H1 kC hkC e1 z1 o1 => ?_
  refine kk H1 (hW.push z1 o1 ?_) (q_S_push hS z1 o1)
  unfold q_C
  rw [if_pos (show ci < 50 from h50)]
  refine ⟨row, hrow, ?_⟩
  have hb9 := (u_born (q_fty ci) hts hin hKn hkC (by rw [hW.1] at e1; exact e1) hty)
  refine hb9.to fun i hi => ?_
  rw [q_rd_new, q_dv_rv]
  unfold q_dv
  rw [if_pos h50]
theorem q_newa_ok (F : CallFix p m c cc nL s args wsL_law own) (hW : q_W P D S s H) (hS : va_S (q_A P) s.heap H locs) {at9 : ArrayType} {kd : Nat} {n : Int32} (h100 : 100 ≤ kd) (hk : newarray.typeOf at9 = q_ty kd) (href : (q_ty kd).isReference = false) (hac : Cond.arrayClass (newarray.typeOf at9) ∈ wsL_law) (hcb : componentBytes (newarray.typeOf at9) ≤ 8) (hn : ¬ (n < 0 ∨ 60000000 ≤ n.toNatClampNeg)) (hcells : cells + 1 ≤ R.cells) (hslots : slots + n.toNatClampNeg ≤ R.slots) (hd : decode cc pc = .ok (.newarray at9, 2))
    (kk : ∀ H1 : Heap, q_W P D (q_new S (kd, n.toNatClampNeg, [])) s H1 → va_S (q_A P) s.heap H1 locs → W p l e R s m args below meth c H1 locs (cells + 1) (slots + n.toNatClampNeg) Q (F0 m (pc + 2) ls (.ref (P.2 + S.1.length) :: rest))) : W p l e R s m args below meth c H locs cells slots Q (F0 m pc ls (.int n :: rest)) := by
  obtain ⟨hx, hb, hml, hown, hts⟩ := F
  rw [← hW.1] at kk
  have hn2 : n.toNatClampNeg < 60000000 := Nat.not_le.mp fun z => hn (Or.inr z)
  refine va_newaK hx hb (hts _ hac) rfl hd rfl (fun z => hn (Or.inl z)) rfl ?_ hcells hslots rfl fun H1 cA e1 z1 o1 hAr hNm => ?_
  · exact Nat.le_trans (Nat.mul_le_mul (Nat.le_of_lt hn2) hcb) (Nat.le_of_ble_eq_true rfl)
  refine kk H1 (hW.push z1 o1 ?_) (q_S_push hS z1 o1)
  unfold q_C
  rw [if_neg (show ¬ kd < 50 by omega)]
  rw [hk] at e1 hAr hNm
  refine Or.inr ⟨cA, ?_, hAr, hNm, fun h => ?_⟩
  · rw [← hW.1, e1]
    congr 2
    funext i
    rw [q_rd_new, q_dv_rv]
    unfold q_dv
    rw [if_neg (show ¬ kd < 50 by omega)]
  · rw [href] at h; cases h
theorem q_newq_ok (F : CallFix p m c cc nL s args wsL_law own) (hV : q_V P xs TX s s.heap) (hW : q_W P D S s H) (hS : va_S (q_A P) s.heap H locs) {idx kd : Nat} {n : Int32} (h1 : 103 ≤ kd) (h2 : kd ≤ 108) (hlk : Cond.classLink own idx (q_cn (q_ty kd)) ∈ wsL_law) (hn : ¬ (n < 0 ∨ 60000000 ≤ n.toNatClampNeg)) (hcells : cells + 1 ≤ R.cells) (hslots : slots + n.toNatClampNeg ≤ R.slots) (hd : decode cc pc = .ok (.anewarray idx, 3))
    (kk : ∀ H1 : Heap, q_W P D (q_new S (kd, n.toNatClampNeg, [])) s H1 → va_S (q_A P) s.heap H1 locs → W p l e R s m args below meth c H1 locs (cells + 1) (slots + n.toNatClampNeg) Q (F0 m (pc + 3) ls (.ref (P.2 + S.1.length) :: rest))) : W p l e R s m args below meth c H locs cells slots Q (F0 m pc ls (.int n :: rest)) := by
  obtain ⟨hx, hb, hml, hown, hts⟩ := F
  rw [← hW.1] at kk
  have hn2 : n.toNatClampNeg < 60000000 := Nat.not_le.mp fun z => hn (Or.inr z)
  have hbytes : n.toNatClampNeg * 4 ≤ 536870912 := Nat.le_trans (Nat.mul_le_mul_right 4 (Nat.le_of_lt hn2)) (Nat.le_of_ble_eq_true rfl)
  have hov : (Cond.arrayOver (q_ty kd)).before args s = true := hV.2.2.2.2.2.2.2.2.1 kd h1 h2
  have fin : ∀ (cA : ClassId) (kA : Class) (comp : ClassId), s.vm.findClass ("[" ++ (q_ty kd).toString) = some cA → s.vm.classes[cA]? = some kA → kA.kind = .array comp (q_ty kd) → s.vm.findClass (q_cn (q_ty kd)) = some comp →
      W p l e R s m args below meth c (H.push { cls := cA, slots := Array.replicate n.toNatClampNeg .null, vm := .none }) locs (cells + 1) (slots + n.toNatClampNeg) Q (F0 m (pc + 3) ls (.ref H.size :: rest)) := by
    intro cA kA comp g1 g2 g3 g4
    have z1 : (H.push { cls := cA, slots := Array.replicate n.toNatClampNeg .null, vm := .none }).size = H.size + 1 := by simp
    have o1 : ∀ q : Nat, q < H.size → (H.push { cls := cA, slots := Array.replicate n.toNatClampNeg .null, vm := .none })[q]? = H[q]? := fun q hq => by rw [Array.getElem?_push, if_neg (Nat.ne_of_lt hq)]
    refine kk _ (hW.push z1 o1 ?_) (q_S_push hS z1 o1)
    unfold q_C
    rw [if_neg (show ¬ kd < 50 by omega)]
    refine Or.inr ⟨cA, ?_, fun n z => ⟨fun k h => (by cases h), kA, g2, comp, g3⟩, g1, fun _ => ⟨kA, comp, g2, g3, g4⟩⟩
    rw [← hW.1, arrV_new]
    simp only [Array.getElem?_push_size]
    congr 2
    funext i
    rw [q_rd_new, q_dv_rv]
    unfold q_dv
    rw [if_neg (show ¬ kd < 50 by omega)]
    unfold q_ty
    rw [if_neg (by omega), if_neg (by omega), if_neg (by omega)]
    split; rfl
    split; rfl
    split; rfl
    split; rfl
    split; rfl
    rfl
  by_cases h8 : kd = 108
  · subst h8
    exact W.anewA (t := .long) hx hb hown (hts _ hlk) hov rfl hd rfl (fun z => hn (Or.inl z)) hbytes hcells hslots fun cA kA comp g1 g2 g3 g4 => fin cA kA comp g1 g2 g3 g4
  · have hobj : ∃ C, q_ty kd = .object C := by
      unfold q_ty
      rw [if_neg (by omega), if_neg (by omega), if_neg (by omega)]
      split; exact ⟨_, rfl⟩
      split; exact ⟨_, rfl⟩
      split; exact ⟨_, rfl⟩
      split; exact ⟨_, rfl⟩
      split; exact ⟨_, rfl⟩
      omega
    obtain ⟨C, hC⟩ := hobj
    rw [hC] at hlk hov fin
    exact W.anew (C := C) hx hb hown (hts _ hlk) hov rfl hd rfl (fun z => hn (Or.inl z)) hbytes hcells hslots fun cA kA comp g1 g2 g3 g4 => fin cA kA comp g1 g2 g3 g4
end QB
end QE
end
section
/-! SOUNDNESS of the pure interpreter, IV: one step that neither calls, nor returns, nor throws. -/
section QT
/-- a method that can be called with n arguments -/
def q_cal (M : QM) (n : Nat) : Prop := (parseMethodDescriptor (qm_y M).desc).map (fun d => d.parameters.length) = some n ∧ ((qm_y M).cls ≠ "java/lang/invoke/MethodHandle" ∧ (qm_y M).cls ≠ "java/lang/invoke/VarHandle") ∧ Cond.initialized (qm_y M).cls ∈ wsL_law
def q_cw (M : QM) : Cond := if qm_h M = [] then Cond.code (qm_y M) (qm_b M) (qm_l M) (qm_r M) else Cond.codeWith (qm_y M) (qm_b M) (qm_l M) (qm_r M) (qm_h M)
/-- an exception e that class own throws by the constructor's entry ic -/
def q_tok (own : String) (idx e ic : Nat) : Prop := e < 3 ∧ Cond.classLink own idx (q_en e) ∈ wsL_law ∧ Cond.initialized (q_en e) ∈ wsL_law ∧ (∀ w ∈ (vx_atS own ic (q_en e) q_nms).filter goodWord, w ∈ wsL_law) ∧ (∀ w ∈ (vx_atS own ic (q_en e) q_nms).filter (fun w => !goodWord w), w = .castable (q_en e) (q_en e)) ∧
  Bundle.fit (q_en e) = true ∧ (∀ n ∈ q_nms, Bundle.fit n = true) ∧ ∀ w ∈ Cond.classLink own idx (q_en e) :: Cond.initialized (q_en e) :: vx_atS own ic (q_en e) q_nms, vx_ot w = true
/-- what an entry of the constant pool is -/
def q_kok (T : List QM) (TX : List (String × Nat × String)) (own : String) (q : Nat × Nat × Nat × Nat × Nat) : Prop := match q with
  | (idx, 0, a, b, c) => q_fok own idx a b c
  | (idx, 1, a, b, c) => ∃ (M : QM) (row : vw_C), T[a]? = some M ∧ vwCl[c]? = some row ∧ row.1 = (qm_y M).cls ∧ qm_h M = [] ∧ Cond.methodLink own idx (qm_y M) ∈ wsL_law ∧ Cond.instanceMethod (qm_y M) ∈ wsL_law ∧ Cond.selects (qm_y M).cls (qm_y M) (qm_y M) ∈ wsL_law ∧ q_cal M b
  | (idx, 2, a, b, _) => ∃ M : QM, T[a]? = some M ∧ Cond.methodLink own idx (qm_y M) ∈ wsL_law ∧ Cond.static (qm_y M) ∈ wsL_law ∧ q_cal M b
  | (idx, 3, a, b, _) => ∃ M : QM, T[a]? = some M ∧ qm_h M = [] ∧ (qm_y M).name = "<init>" ∧ qm_r M = none ∧ Cond.methodLink own idx (qm_y M) ∈ wsL_law ∧ Cond.instanceMethod (qm_y M) ∈ wsL_law ∧ q_cal M b
  | (idx, 15, a, b, _) => ∃ M : QM, T[a]? = some M ∧ qm_h M = [] ∧ (qm_y M).name = "<init>" ∧ qm_r M = none ∧ (own, idx, qm_y M) ∈ q_NL ∧ Cond.instanceMethod (qm_y M) ∈ wsL_law ∧ q_cal M b
  | (idx, 4, _, _, _) => Cond.methodLink own idx Lib.objectInit ∈ wsL_law ∧ Cond.instanceMethod Lib.objectInit ∈ wsL_law ∧ Cond.code Lib.objectInit ⟨#[0xb1]⟩ 1 none ∈ wsL_law
  | (idx, 5, a, b, _) => ∃ row : vw_C, vwCl[a]? = some row ∧ row.2.2 = b ∧ Cond.classLink own idx row.1 ∈ wsL_law ∧ Cond.instantiable row.1 b ∈ wsL_law ∧ Cond.initialized row.1 ∈ wsL_law
  | (idx, 6, a, _, _) => 103 ≤ a ∧ a ≤ 108 ∧ Cond.classLink own idx (q_cn (q_ty a)) ∈ wsL_law
  | (idx, 7, a, _, _) => Cond.constant own idx (Int32.ofNat a) ∈ wsL_law
  | (idx, 8, a, _, _) => Cond.constantLong own idx (Int64.ofNat a) ∈ wsL_law
  | (idx, 9, a, _, _) => 1 ≤ a ∧ a < 4 ∧ Cond.fieldLink own idx (q_zc a) (q_zn a) (q_zd a) ∈ wsL_law
  | (idx, 11, a, b, _) => q_tok own idx a b
  | (idx, 12, a, _, _) => a < 3 ∧ Cond.classLink own idx (q_en a) ∈ wsL_law
  | (idx, 13, _, _, _) => ∃ tx : String, (own, idx, tx) ∈ TX
  | _ => True
def q_dok (M : QM) : Prop := ∀ q ∈ qm_c M, ∃ n : Nat, decode (qm_b M) q.1 = .ok (q.2, n) ∧ (n = q_len q.2 ∨ q_isSw q.2 = true)
/-- a good method; b: a word of its own (of a method that is called: its code's word) -/
def q_mokG (b : Prop) (T : List QM) (TX : List (String × Nat × String)) (M : QM) : Prop := plainName (qm_y M).cls = true ∧ qm_o M = (qm_y M).cls ∧ (qm_i M = true → (qm_y M).name = "<init>") ∧ qm_l M ≤ 41 ∧ b ∧ q_dok M ∧ (∀ q ∈ qm_k M, q_kok T TX (qm_o M) q) ∧ ∀ h ∈ qm_h M, ∃ f, f < 3 ∧ q_lk (qm_k M) h.2.2.2 = some (12, f, 0, 0) ∧ h.2.2.2 ≠ 0
abbrev q_mok (T : List QM) (TX : List (String × Nat × String)) (M : QM) : Prop := q_mokG (q_cw M ∈ wsL_law) T TX M
theorem q_lk_mem {K : QK} {idx : Nat} {t : Nat × Nat × Nat × Nat} (h : q_lk K idx = some t) : (idx, t) ∈ K := by
  unfold q_lk at h
  obtain ⟨q, h1, h2⟩ := Option.map_eq_some_iff.mp h
  have h3 := List.mem_of_find?_eq_some h1
  have h4 := List.find?_some h1
  simp only [beq_iff_eq] at h4
  subst h2
  rw [← h4]
  exact h3
theorem q_code_mem {M : QM} {pc : Nat} {i : Instr} (h : q_code M pc = some i) : (pc, i) ∈ qm_c M := by
  unfold q_code at h
  obtain ⟨q, h1, h2⟩ := Option.map_eq_some_iff.mp h
  have h3 := List.mem_of_find?_eq_some h1
  have h4 := List.find?_some h1
  simp only [beq_iff_eq] at h4
  subst h2
  rw [← h4]
  exact h3
theorem q_dec {T : List QM} {TX : List (String × Nat × String)} {M : QM} {bw : Prop} (hM : q_mokG bw T TX M) {pc : Nat} {i : Instr} (h : q_code M pc = some i) : ∃ n : Nat, decode (qm_b M) pc = .ok (i, n) ∧ (n = q_len i ∨ q_isSw i = true) :=
  hM.2.2.2.2.2.1 (pc, i) (q_code_mem h)
theorem q_decL {T : List QM} {TX : List (String × Nat × String)} {M : QM} {bw : Prop} (hM : q_mokG bw T TX M) {pc : Nat} {i : Instr} (h : q_code M pc = some i) (hs : q_isSw i = false) : decode (qm_b M) pc = .ok (i, q_len i) := by
  obtain ⟨n, h1, h2⟩ := q_dec hM h
  rcases h2 with rfl | h2
  · exact h1
  · rw [hs] at h2; cases h2
theorem q_rv2 (P : (Nat → Nat) × Nat) (k : Nat) : q_rv P (.ref (k + 4)) = .ref (P.2 + k) := rfl
section QB
variable {p : Program} {l : Launch} {e : Env} {R : Room} {s : State} {m : MethodId} {args : Array Value} {below : List Frame} {meth : Method} {c : Code} {H : Heap} {locs : List Loc} {cells slots : Nat} {Q : State → Prop} {pc : Nat} {ls : Array Slot} {P : (Nat → Nat) × Nat} {D : va_G} {S S' : QS} {xs : List Int32} {T : List QM} {TX : List (String × Nat × String)} {M : QM} {i : Instr} {st st' : List Value}
/-- what stays while a method runs -/
def q_Fr (P : (Nat → Nat) × Nat) (xs : List Int32) (TX : List (String × Nat × String)) (M : QM) (p : Program) (m : MethodId) (c : Code) (s : State) (args : Array Value) (meth : Method) : Prop :=
  CallFix p m c (qm_b M) (qm_l M) s args wsL_law (qm_o M) ∧ meth.locks = false ∧ meth.sig.returnType = qm_r M ∧ (qm_i M = true → meth.name = "<init>") ∧ q_V P xs TX s s.heap
set_option maxHeartbeats 4000000 in
theorem q_read_ok {bw : Prop} (hM : q_mokG bw T TX M) (F : q_Fr P xs TX M p m c s args meth) (hW : q_W P D S s H) (hS : va_S (q_A P) s.heap H locs) (h : q_read M xs i st S = some st') (hd : decode (qm_b M) pc = .ok (i, q_len i))
    (k : W p l e R s m args below meth c H locs cells slots Q (F0 m (pc + q_len i) ls (st'.map (q_rv P)))) : W p l e R s m args below meth c H locs cells slots Q (F0 m pc ls (st.map (q_rv P))) := by
  obtain ⟨F1, -, -, -, hV⟩ := F
  have hK := hM.2.2.2.2.2.2.1
  unfold q_read at h
  split at h
  · -- getfield
    split at h
    · rename_i x ci kf fin r rest hlk
      split at h
      · rename_i cc hc
        split at h
        · rename_i hci
          cases h
          obtain ⟨k9, rfl, hk9⟩ := q_at_s hc
          have hf := hK _ (q_lk_mem hlk)
          exact q_getf_ok F1 hW hk9 hci hf hd k
        · cases h
      · cases h
    · cases h
  · -- arraylength
    split at h
    · cases h; exact q_slen_ok F1 hV hS hd k
    · cases h; exact q_elen_ok F1 hV hS (a := 1) (by decide) (by decide) hd k
    · cases h; exact q_elen_ok F1 hV hS (a := 2) (by decide) (by decide) hd k
    · cases h; exact q_elen_ok F1 hV hS (a := 3) (by decide) (by decide) hd k
    · split at h
      · rename_i cc hc
        split at h
        · rename_i h100
          cases h
          obtain ⟨k9, rfl, hk9⟩ := q_at_s hc
          exact q_alen_ok F1 hW hk9 h100 hd k
        · cases h
      · cases h
    · cases h
  · -- ldc
    split at h
    · rename_i x n a b hlk
      cases h
      exact lv_ldc F1.1 F1.2.1 F1.2.2.2.1 (F1.2.2.2.2 _ (hK _ (q_lk_mem hlk))) hd k
    · cases h
  · split at h
    · rename_i x n a b hlk
      cases h
      exact lv_ldcw F1.1 F1.2.1 F1.2.2.2.1 (F1.2.2.2.2 _ (hK _ (q_lk_mem hlk))) hd k
    · cases h
  · split at h
    · rename_i x n a b hlk
      cases h
      exact lv_ldc2 F1.1 F1.2.1 F1.2.2.2.1 (F1.2.2.2.2 _ (hK _ (q_lk_mem hlk))) hd k
    · cases h
  · split at h
    · rename_i x a b d hlk
      cases h
      obtain ⟨a1, a2, a3⟩ := hK _ (q_lk_mem hlk)
      rw [List.map_cons, q_rv_old a2] at k
      exact q_gets_ok F1 hV hS a1 a2 a3 hd k
    · cases h
  · -- iaload
    split at h
    · obtain ⟨j, h1, h2⟩ := Option.map_eq_some_iff.mp h
      cases h2
      exact q_sld_ok F1 hV hS h1 hd k
    · obtain ⟨j, h1, h2⟩ := Option.map_eq_some_iff.mp h
      cases h2
      exact q_eld_ok F1 hV hS (a := 2) (by decide) (by decide) h1 rfl hd k
    · obtain ⟨j, h1, h2⟩ := Option.map_eq_some_iff.mp h
      cases h2
      exact q_eld_ok F1 hV hS (a := 3) (by decide) (by decide) h1 rfl hd k
    · split at h
      · rename_i cc hc
        split at h
        · rename_i hkd
          obtain ⟨j, h1, h2⟩ := Option.map_eq_some_iff.mp h
          cases h2
          obtain ⟨k9, rfl, hk9⟩ := q_at_s hc
          exact q_ald_ok F1 hW hk9 hkd (Or.inl rfl) h1 hd k
        · cases h
      · cases h
    · cases h
  · split at h
    · split at h
      · rename_i cc hc
        split at h
        · rename_i hkd
          obtain ⟨j, h1, h2⟩ := Option.map_eq_some_iff.mp h
          cases h2
          obtain ⟨k9, rfl, hk9⟩ := q_at_s hc
          simp only [Bool.and_eq_true, Bool.or_eq_true, decide_eq_true_eq] at hkd
          obtain ⟨hkd, hi⟩ := hkd
          rcases hi with rfl | rfl | rfl
          · exact q_ald_ok F1 hW hk9 hkd (Or.inr (Or.inl rfl)) h1 hd k
          · exact q_ald_ok F1 hW hk9 hkd (Or.inr (Or.inr (Or.inl rfl))) h1 hd k
          · exact q_ald_ok F1 hW hk9 hkd (Or.inr (Or.inr (Or.inr rfl))) h1 hd k
        · cases h
      · cases h
    · cases h
set_option maxHeartbeats 4000000 in
theorem q_write_ok {bw : Prop} (hM : q_mokG bw T TX M) (hac : Cond.arrayClass .int ∈ wsL_law ∧ Cond.arrayClass .long ∈ wsL_law ∧ Cond.arrayClass .boolean ∈ wsL_law) (F : q_Fr P xs TX M p m c s args meth) (hW : q_W P D S s H) (hS : va_S (q_A P) s.heap H locs) (h : q_write M i st S = some (st', S')) (hd : decode (qm_b M) pc = .ok (i, q_len i))
    (hc : cells + (S'.2.1 - S.2.1) ≤ R.cells) (hs : slots + (S'.2.2 - S.2.2) ≤ R.slots)
    (k : ∀ (H1 : Heap) (locs1 : List Loc), q_W P D S' s H1 → va_S (q_A P) s.heap H1 locs1 → W p l e R s m args below meth c H1 locs1 (cells + (S'.2.1 - S.2.1)) (slots + (S'.2.2 - S.2.2)) Q (F0 m (pc + q_len i) ls (st'.map (q_rv P)))) : W p l e R s m args below meth c H locs cells slots Q (F0 m pc ls (st.map (q_rv P))) := by
  obtain ⟨F1, -, -, hinit, hV⟩ := F
  have hK := hM.2.2.2.2.2.2.1
  have z1 : ∀ {a b : Nat}, a + (b - b) = a := fun {a b} => by rw [Nat.sub_self]; rfl
  unfold q_write at h
  split at h
  · -- putfield
    split at h
    · rename_i x ci kf fin v r rest hlk
      split at h
      · rename_i cc hc9
        split at h
        · rename_i hci
          obtain ⟨h1, h2, h3, h4⟩ := hci
          cases h
          obtain ⟨k9, rfl, hk9⟩ := q_at_s hc9
          have hf := hK _ (q_lk_mem hlk)
          refine q_putf_ok F1 hW hS hk9 h1 hf h2 h3 (h4.imp id (fun z => ⟨z.1, hinit z.2⟩)) hd fun H1 locs1 g1 g2 => ?_
          have k2 := k H1 locs1 g1 g2
          rw [show (q_put S (k9 + 4) (q_wr cc kf v)).2 = S.2 from rfl, z1, z1] at k2
          exact k2
        · cases h
      · cases h
    · cases h
  · split at h
    · split at h
      · rename_i cc hc9
        split at h
        · rename_i hkd
          obtain ⟨j, h1, h2⟩ := Option.map_eq_some_iff.mp h
          cases h2
          obtain ⟨k9, rfl, hk9⟩ := q_at_s hc9
          refine q_iast_ok F1 hW hS hk9 hkd h1 hd fun H1 locs1 g1 g2 => ?_
          have k2 := k H1 locs1 g1 g2
          rw [show ∀ y, (q_put S (k9 + 4) y).2 = S.2 from fun _ => rfl, z1, z1] at k2
          exact k2
        · cases h
      · cases h
    · cases h
  · split at h
    · split at h
      · rename_i cc hc9
        split at h
        · rename_i hkd
          obtain ⟨j, h1, h2⟩ := Option.map_eq_some_iff.mp h
          cases h2
          obtain ⟨k9, rfl, hk9⟩ := q_at_s hc9
          refine q_last_ok F1 hW hS hk9 hkd h1 hd fun H1 locs1 g1 g2 => ?_
          have k2 := k H1 locs1 g1 g2
          rw [show ∀ y, (q_put S (k9 + 4) y).2 = S.2 from fun _ => rfl, z1, z1] at k2
          exact k2
        · cases h
      · cases h
    · cases h
  · split at h
    · split at h
      · rename_i cc hc9
        split at h
        · rename_i hkd
          obtain ⟨j, h1, h2⟩ := Option.map_eq_some_iff.mp h
          cases h2
          obtain ⟨k9, rfl, hk9⟩ := q_at_s hc9
          refine q_zast_ok F1 hW hS hk9 hkd h1 hd fun H1 locs1 g1 g2 => ?_
          have k2 := k H1 locs1 g1 g2
          rw [show ∀ y, (q_put S (k9 + 4) y).2 = S.2 from fun _ => rfl, z1, z1] at k2
          exact k2
        · cases h
      · cases h
    · cases h
  · -- aastore
    split at h
    · split at h
      · rename_i cc dd hc9 hc8
        split at h
        · rename_i hkd
          obtain ⟨j, h1, h2⟩ := Option.map_eq_some_iff.mp h
          cases h2
          obtain ⟨k9, rfl, hk9⟩ := q_at_s hc9
          obtain ⟨k8, rfl, hk8⟩ := q_at_s hc8
          refine q_aast_ok F1 hW hS hk9 hk8 hkd h1 hd fun H1 locs1 g1 g2 => ?_
          have k2 := k H1 locs1 g1 g2
          rw [show ∀ y, (q_put S (k9 + 4) y).2 = S.2 from fun _ => rfl, z1, z1] at k2
          exact k2
        · cases h
      · cases h
    · cases h
  · -- new
    split at h
    · rename_i x ci n a hlk
      cases h
      obtain ⟨row, g1, g2, g3, g4, g5⟩ := hK _ (q_lk_mem hlk)
      have e1 : (q_new S (ci, n, [])).2.1 - S.2.1 = 1 := by show S.2.1 + 1 - S.2.1 = 1; omega
      have e2 : (q_new S (ci, n, [])).2.2 - S.2.2 = n := by show S.2.2 + n - S.2.2 = n; omega
      rw [e1] at hc k
      rw [e2] at hs k
      exact q_new_ok F1 hW hS g1 g2 g3 g4 g5 hc hs hd fun H1 w1 w2 => k H1 locs w1 w2
    · cases h
  · -- newarray
    split at h
    · rename_i n rest
      split at h
      · cases h
      · rename_i hn
        split at h
        · cases h
          have e1 : (q_new S (100, n.toNatClampNeg, [])).2.1 - S.2.1 = 1 := by show S.2.1 + 1 - S.2.1 = 1; omega
          have e2 : (q_new S (100, n.toNatClampNeg, [])).2.2 - S.2.2 = n.toNatClampNeg := by show S.2.2 + n.toNatClampNeg - S.2.2 = _; omega
          rw [e1] at hc k
          rw [e2] at hs k
          exact q_newa_ok F1 hW hS (at9 := .int) (kd := 100) (by decide) rfl rfl hac.1 (by decide) hn hc hs hd fun H1 w1 w2 => k H1 locs w1 w2
        · cases h
          have e1 : (q_new S (101, n.toNatClampNeg, [])).2.1 - S.2.1 = 1 := by show S.2.1 + 1 - S.2.1 = 1; omega
          have e2 : (q_new S (101, n.toNatClampNeg, [])).2.2 - S.2.2 = n.toNatClampNeg := by show S.2.2 + n.toNatClampNeg - S.2.2 = _; omega
          rw [e1] at hc k
          rw [e2] at hs k
          exact q_newa_ok F1 hW hS (at9 := .long) (kd := 101) (by decide) rfl rfl hac.2.1 (by decide) hn hc hs hd fun H1 w1 w2 => k H1 locs w1 w2
        · cases h
          have e1 : (q_new S (102, n.toNatClampNeg, [])).2.1 - S.2.1 = 1 := by show S.2.1 + 1 - S.2.1 = 1; omega
          have e2 : (q_new S (102, n.toNatClampNeg, [])).2.2 - S.2.2 = n.toNatClampNeg := by show S.2.2 + n.toNatClampNeg - S.2.2 = _; omega
          rw [e1] at hc k
          rw [e2] at hs k
          exact q_newa_ok F1 hW hS (at9 := .boolean) (kd := 102) (by decide) rfl rfl hac.2.2 (by decide) hn hc hs hd fun H1 w1 w2 => k H1 locs w1 w2
        · cases h
    · cases h
  · -- anewarray
    split at h
    · rename_i x kd a b n rest hlk
      split at h
      · cases h
      · rename_i hn
        cases h
        obtain ⟨g1, g2, g3⟩ := hK _ (q_lk_mem hlk)
        have e1 : (q_new S (kd, n.toNatClampNeg, [])).2.1 - S.2.1 = 1 := by show S.2.1 + 1 - S.2.1 = 1; omega
        have e2 : (q_new S (kd, n.toNatClampNeg, [])).2.2 - S.2.2 = n.toNatClampNeg := by show S.2.2 + n.toNatClampNeg - S.2.2 = _; omega
        rw [e1] at hc k
        rw [e2] at hs k
        exact q_newq_ok F1 hV hW hS g1 g2 g3 hn hc hs hd fun H1 w1 w2 => k H1 locs w1 w2
    · cases h
  · cases h
/-- a step never takes room back -/
theorem q_write_mono (h : q_write M i st S = some (st', S')) : S.2.1 ≤ S'.2.1 ∧ S.2.2 ≤ S'.2.2 := by
  have hp : ∀ r x, S.2.1 ≤ (q_put S r x).2.1 ∧ S.2.2 ≤ (q_put S r x).2.2 := fun r x => ⟨Nat.le_refl _, Nat.le_refl _⟩
  have hn : ∀ x, S.2.1 ≤ (q_new S x).2.1 ∧ S.2.2 ≤ (q_new S x).2.2 := fun x => ⟨Nat.le_succ _, Nat.le_add_right _ _⟩
  unfold q_write at h
  repeat' (split at h)
  all_goals first
    | (cases h; done)
    | (cases h; exact hp _ _)
    | (cases h; exact hn _)
    | (obtain ⟨j, h1, h2⟩ := Option.map_eq_some_iff.mp h; cases h2; exact hp _ _)
end QB
end QT
end
section
/-! Throws: the kit's vx_throwS, vx_throwSW with one word more (the heap grows by one cell). -/
section QX
variable {p : Program} {l : Launch} {e : Env} {R : Room} {s : State} {m : MethodId} {args : Array Value} {below : List Frame} {meth : Method} {c : Code} {H : Heap} {locs : List Loc} {cells slots : Nat} {Q : State → Prop}
variable {mc ms : Nat} {free : Addr → Prop} {A0 A1 : Nat → Prop} {H0 : Heap} {a : Array Value} {ls : Array Slot} {st0 rest : List Value}
variable {Qc : Array Value → State → Outcome → State → Prop} {XC : String → State → State → Prop}
/-- 'throw new E("text")': new; dup; ldc; invokespecial; athrow -/
theorem q_throwS {cc : ByteArray} {pc : Nat} (hexec : p.tables.exec = Jvm.exec) (hb : c.code = cc) (hl : l.stackTraces = false) {own cls text : String} {names : List String} {ik is ic mc ms sa : Nat} {A : Nat → Prop}
    (hown : s.vm.findClass own = some m.cls) (hcls : Bundle.fit cls = true) (hnames : ∀ n ∈ names, Bundle.fit n = true)
    (hk : (Cond.classLink own ik cls).before args s = true) (hini : (Cond.initialized cls).before args s = true) (hstr : vk_R own is text sa s) (hat : ∀ w ∈ vx_atS own ic cls names, w.before args s = true)
    (hgood : ∀ w ∈ Cond.classLink own ik cls :: Cond.initialized cls :: vx_atS own ic cls names, vx_ot w = true)
    (hU : vx_Zq Bundle.tN "UNASSIGNED_STACK" Bundle.steD A s s.heap) (hN : vx_Zq Bundle.tN "SUPPRESSED_SENTINEL" Bundle.listD A s s.heap) (hS : va_S A s.heap H locs) (hsize : ls.size = c.maxLocals)
    (d0 : decode cc pc = .ok (.new ik, 3)) (d3 : decode cc (pc + 3) = .ok (.dup, 1)) (d4 : decode cc (pc + 4) = .ok (.ldc is, 2)) (d6 : decode cc (pc + 6) = .ok (.invokespecial ic, 3)) (d9 : decode cc (pc + 9) = .ok (.athrow, 1))
    (hout : ∀ x ∈ c.exceptionTable.toList, covers x (pc + 9) = false)
    (hRframes : names.length + 3 < R.frames) (hRlocals : (rest.map fun v => v.category).sum + (13 * (names.length + 1) + 43) ≤ R.locals) (hRcells : cells + 1 ≤ R.cells) (hRslots : slots + 6 ≤ R.slots) (hlocks : meth.locks = false)
    (hx : ∀ t : State, s.vm.Alike t.vm → t.heap.size = H.size + 1 → (∀ q : Nat, q < H.size → t.heap[q]? = H[q]?) → XC cls s t)
    (hf : ∀ z ∈ locs, free z.base) (hc : cells + 1 ≤ mc) (hs : slots + 6 ≤ ms) :
    W p l e R s m args below meth c H locs cells slots (vx_MQ below Qc XC args s mc ms free) (F0 m pc ls rest) := by
  intro T hT X
  have htr : e.platform.stackTraces = false := (show e.platform.stackTraces = l.stackTraces by rw [X.admits.platform]).trans hl
  have Y := vx_rebase X (R' := { frames := R.frames, locals := R.locals, cells := 1, slots := 6 }) (Nat.le_refl _) (Nat.le_refl _) hRcells hRslots
  obtain ⟨s', hA⟩ : ∃ z, z = (T.setVm s.vm).setFrames (.invoking m args :: below) := ⟨_, rfl⟩
  rw [← hA] at Y
  have hvm : s'.vm = s.vm := by rw [hA]; rfl
  have hhp : s'.heap = H := by rw [hA]; exact hT
  have hW0 : s.WarmedH s'.vm := by rw [hvm]; exact State.WarmedH.refl s
  have hat' : ∀ w ∈ vx_atS own ic cls names, w.before args s' = true := fun w hw => vx_ot_at hW0 hvm.symm (hgood w (List.mem_cons_of_mem _ (List.mem_cons_of_mem _ hw))) (hat w hw)
  have hk' : (Cond.classLink own ik cls).before args s' = true := vx_ot_at hW0 hvm.symm (hgood _ List.mem_cons_self) hk
  have hini' : (Cond.initialized cls).before args s' = true := vx_ot_at hW0 hvm.symm (hgood _ (List.mem_cons_of_mem _ List.mem_cons_self)) hini
  have hU' : vx_Zq Bundle.tN "UNASSIGNED_STACK" Bundle.steD A s' s'.heap := by rw [hhp]; exact vx_Zq.moved hW0.alike (hU.kept hS.2.1)
  have hN' : vx_Zq Bundle.tN "SUPPRESSED_SENTINEL" Bundle.listD A s' s'.heap := by rw [hhp]; exact vx_Zq.moved hW0.alike (hN.kept hS.2.1)
  have h : ∀ w ∈ Bundle.ownAtoms own ic cls names, w.before args s' = true := vx_own hat' (vx_isRefq hU'.1) (vx_isRefq hN'.1) hU'.2.word hN'.2.word
  have hown' : s'.vm.findClass own = some m.cls := by rw [hvm]; exact hown
  have hins : (Cond.instantiable cls 6).before args s' = true := h _ (by simp [Bundle.ownAtoms])
  obtain ⟨vm₁, cX, kX, hfX, hkX, -, -, X₁, st1⟩ := Y.newCold hexec (own := own) (C := cls) (index := ik) (n := 6) hown' hk' hins hini'
    (g := F0 m pc ls rest) rfl (by rw [hb]; exact d0) (Nat.le_refl _) (Nat.le_refl _)
  generalize hT1 : (T.setVm vm₁).pushCell { cls := cX, slots := kX.instanceTypes.map defaultValue, vm := .none } = T1 at X₁ st1
  have hcat : (Value.ref T.heap.size).category = 1 := rfl
  have hcellA : T1.heap[T.heap.size]? = some (freshCell cX kX) := by rw [← hT1]; exact State.heap_pushCell_size _ _
  have d3' : decode c.code (pc + 3) = .ok (.dup, 1) := by rw [hb]; exact d3
  have d4' : decode c.code (pc + 4) = .ok (.ldc is, 2) := by rw [hb]; exact d4
  have hstr' : vk_R own is text sa s' := vk_R.warm hW0 hstr
  obtain ⟨U, hsteps, hrun, hend, hW, hsame, ce, hce, hO⟩ := X₁.ctorThrowS hexec htr (own := own) (cls := cls) (names := names) (ic := ic) hown' hcls hnames h (fun x hx => nomatch hx) hfX hkX hcellA (by rw [hhp, hT]; exact Nat.le_refl _) (msg := .ref sa) rfl
    (g := { method := m, pc := pc + 6, locals := ls, stack := .ref sa :: .ref T.heap.size :: .ref T.heap.size :: rest, locked := none }) rfl hsize rfl rfl (rest := rest) rfl
    (by rw [hb]; exact d6) (by rw [hb]; exact d9) hout hRframes (by simp only [List.map_cons, List.sum_cons, hcat]; omega) hlocks
  obtain ⟨f1, f2⟩ := vx_frame hsame
  rw [hhp] at f1 f2
  have f3 : U.heap.size = H.size + 1 := by
    have g1 : T.heap.size < U.heap.size := (Array.getElem?_eq_some_iff.mp hce).1
    have g2 : U.heap.size ≤ s'.heap.size + 1 := by simpa using hsame.2.2.1
    rw [hhp] at g2
    rw [hT] at g1
    omega
  have hWs : s.WarmedH U.vm := State.WarmedH.trans hW0 hW
  have hcl : s.vm.findClass cls = some ce.cls := by
    have h9 := hO.cls
    rw [hvm] at h9
    exact h9
  have hall : s.sameButNew ({ U with vm := s.vm } : State) locs mc ms := by
    subst hA
    obtain ⟨e1, e2⟩ := hsame
    rw [State.setFrames_setFrames] at e1
    have h2 : (T.setVm s.vm).sameButNew ({ U with vm := s.vm } : State) [] (0 + 1) (0 + 6) := ⟨e1, e2⟩
    have h3 := X.same.trans h2
    rw [List.append_nil] at h3
    exact h3.mono hc hs
  refine ⟨U, ?_, .threw T.heap.size, hrun, hend, Or.inr ⟨T.heap.size, rfl, cls, ce, locs, hx U hWs.alike f3 (fun q hq => f2 q hq (fun z hz => nomatch hz)), hce, hO.vm, hcl, hWs, hall, hf⟩⟩
  refine st1 _ ?_
  show Steps p.tables e below (T1.setTop { method := m, pc := pc + 3, locals := ls, stack := .ref T.heap.size :: rest, locked := none }) _
  jvm_step X₁.here [X₁.here.top, hexec, d3', Value.category]
  exact X₁.ldcString hexec (own := own) (text := text) (index := is) (a := sa) hown' hstr'.1 hstr'.2
    (g := { method := m, pc := pc + 4, locals := ls, stack := .ref T.heap.size :: .ref T.heap.size :: rest, locked := none }) rfl d4' _ hsteps
/-- 'throw new E("text")', the text by a wide index -/
theorem q_throwSW {cc : ByteArray} {pc : Nat} (hexec : p.tables.exec = Jvm.exec) (hb : c.code = cc) (hl : l.stackTraces = false) {own cls text : String} {names : List String} {ik is ic mc ms sa : Nat} {A : Nat → Prop}
    (hown : s.vm.findClass own = some m.cls) (hcls : Bundle.fit cls = true) (hnames : ∀ n ∈ names, Bundle.fit n = true)
    (hk : (Cond.classLink own ik cls).before args s = true) (hini : (Cond.initialized cls).before args s = true) (hstr : vk_R own is text sa s) (hat : ∀ w ∈ vx_atS own ic cls names, w.before args s = true)
    (hgood : ∀ w ∈ Cond.classLink own ik cls :: Cond.initialized cls :: vx_atS own ic cls names, vx_ot w = true)
    (hU : vx_Zq Bundle.tN "UNASSIGNED_STACK" Bundle.steD A s s.heap) (hN : vx_Zq Bundle.tN "SUPPRESSED_SENTINEL" Bundle.listD A s s.heap) (hS : va_S A s.heap H locs) (hsize : ls.size = c.maxLocals)
    (d0 : decode cc pc = .ok (.new ik, 3)) (d3 : decode cc (pc + 3) = .ok (.dup, 1)) (d4 : decode cc (pc + 4) = .ok (.ldc_w is, 3)) (d7 : decode cc (pc + 7) = .ok (.invokespecial ic, 3)) (d10 : decode cc (pc + 10) = .ok (.athrow, 1))
    (hout : ∀ x ∈ c.exceptionTable.toList, covers x (pc + 10) = false)
    (hRframes : names.length + 3 < R.frames) (hRlocals : (rest.map fun v => v.category).sum + (13 * (names.length + 1) + 43) ≤ R.locals) (hRcells : cells + 1 ≤ R.cells) (hRslots : slots + 6 ≤ R.slots) (hlocks : meth.locks = false)
    (hx : ∀ t : State, s.vm.Alike t.vm → t.heap.size = H.size + 1 → (∀ q : Nat, q < H.size → t.heap[q]? = H[q]?) → XC cls s t)
    (hf : ∀ z ∈ locs, free z.base) (hc : cells + 1 ≤ mc) (hs : slots + 6 ≤ ms) :
    W p l e R s m args below meth c H locs cells slots (vx_MQ below Qc XC args s mc ms free) (F0 m pc ls rest) := by
  intro T hT X
  have htr : e.platform.stackTraces = false := (show e.platform.stackTraces = l.stackTraces by rw [X.admits.platform]).trans hl
  have Y := vx_rebase X (R' := { frames := R.frames, locals := R.locals, cells := 1, slots := 6 }) (Nat.le_refl _) (Nat.le_refl _) hRcells hRslots
  obtain ⟨s', hA⟩ : ∃ z, z = (T.setVm s.vm).setFrames (.invoking m args :: below) := ⟨_, rfl⟩
  rw [← hA] at Y
  have hvm : s'.vm = s.vm := by rw [hA]; rfl
  have hhp : s'.heap = H := by rw [hA]; exact hT
  have hW0 : s.WarmedH s'.vm := by rw [hvm]; exact State.WarmedH.refl s
  have hat' : ∀ w ∈ vx_atS own ic cls names, w.before args s' = true := fun w hw => vx_ot_at hW0 hvm.symm (hgood w (List.mem_cons_of_mem _ (List.mem_cons_of_mem _ hw))) (hat w hw)
  have hk' : (Cond.classLink own ik cls).before args s' = true := vx_ot_at hW0 hvm.symm (hgood _ List.mem_cons_self) hk
  have hini' : (Cond.initialized cls).before args s' = true := vx_ot_at hW0 hvm.symm (hgood _ (List.mem_cons_of_mem _ List.mem_cons_self)) hini
  have hU' : vx_Zq Bundle.tN "UNASSIGNED_STACK" Bundle.steD A s' s'.heap := by rw [hhp]; exact vx_Zq.moved hW0.alike (hU.kept hS.2.1)
  have hN' : vx_Zq Bundle.tN "SUPPRESSED_SENTINEL" Bundle.listD A s' s'.heap := by rw [hhp]; exact vx_Zq.moved hW0.alike (hN.kept hS.2.1)
  have h : ∀ w ∈ Bundle.ownAtoms own ic cls names, w.before args s' = true := vx_own hat' (vx_isRefq hU'.1) (vx_isRefq hN'.1) hU'.2.word hN'.2.word
  have hown' : s'.vm.findClass own = some m.cls := by rw [hvm]; exact hown
  have hins : (Cond.instantiable cls 6).before args s' = true := h _ (by simp [Bundle.ownAtoms])
  obtain ⟨vm₁, cX, kX, hfX, hkX, -, -, X₁, st1⟩ := Y.newCold hexec (own := own) (C := cls) (index := ik) (n := 6) hown' hk' hins hini'
    (g := F0 m pc ls rest) rfl (by rw [hb]; exact d0) (Nat.le_refl _) (Nat.le_refl _)
  generalize hT1 : (T.setVm vm₁).pushCell { cls := cX, slots := kX.instanceTypes.map defaultValue, vm := .none } = T1 at X₁ st1
  have hcat : (Value.ref T.heap.size).category = 1 := rfl
  have hcellA : T1.heap[T.heap.size]? = some (freshCell cX kX) := by rw [← hT1]; exact State.heap_pushCell_size _ _
  have d3' : decode c.code (pc + 3) = .ok (.dup, 1) := by rw [hb]; exact d3
  have d4' : decode c.code (pc + 4) = .ok (.ldc_w is, 3) := by rw [hb]; exact d4
  have hstr' : vk_R own is text sa s' := vk_R.warm hW0 hstr
  obtain ⟨U, hsteps, hrun, hend, hW, hsame, ce, hce, hO⟩ := X₁.ctorThrowS hexec htr (own := own) (cls := cls) (names := names) (ic := ic) hown' hcls hnames h (fun x hx => nomatch hx) hfX hkX hcellA (by rw [hhp, hT]; exact Nat.le_refl _) (msg := .ref sa) rfl
    (g := { method := m, pc := pc + 7, locals := ls, stack := .ref sa :: .ref T.heap.size :: .ref T.heap.size :: rest, locked := none }) rfl hsize rfl rfl (rest := rest) rfl
    (by rw [hb]; exact d7) (by rw [hb]; exact d10) hout hRframes (by simp only [List.map_cons, List.sum_cons, hcat]; omega) hlocks
  obtain ⟨f1, f2⟩ := vx_frame hsame
  rw [hhp] at f1 f2
  have f3 : U.heap.size = H.size + 1 := by
    have g1 : T.heap.size < U.heap.size := (Array.getElem?_eq_some_iff.mp hce).1
    have g2 : U.heap.size ≤ s'.heap.size + 1 := by simpa using hsame.2.2.1
    rw [hhp] at g2
    rw [hT] at g1
    omega
  have hWs : s.WarmedH U.vm := State.WarmedH.trans hW0 hW
  have hcl : s.vm.findClass cls = some ce.cls := by
    have h9 := hO.cls
    rw [hvm] at h9
    exact h9
  have hall : s.sameButNew ({ U with vm := s.vm } : State) locs mc ms := by
    subst hA
    obtain ⟨e1, e2⟩ := hsame
    rw [State.setFrames_setFrames] at e1
    have h2 : (T.setVm s.vm).sameButNew ({ U with vm := s.vm } : State) [] (0 + 1) (0 + 6) := ⟨e1, e2⟩
    have h3 := X.same.trans h2
    rw [List.append_nil] at h3
    exact h3.mono hc hs
  refine ⟨U, ?_, .threw T.heap.size, hrun, hend, Or.inr ⟨T.heap.size, rfl, cls, ce, locs, hx U hWs.alike f3 (fun q hq => f2 q hq (fun z hz => nomatch hz)), hce, hO.vm, hcl, hWs, hall, hf⟩⟩
  refine st1 _ ?_
  show Steps p.tables e below (T1.setTop { method := m, pc := pc + 3, locals := ls, stack := .ref T.heap.size :: rest, locked := none }) _
  jvm_step X₁.here [X₁.here.top, hexec, d3', Value.category]
  exact X₁.ldcStringW hexec (own := own) (text := text) (index := is) (a := sa) hown' hstr'.1 hstr'.2
    (g := { method := m, pc := pc + 4, locals := ls, stack := .ref T.heap.size :: .ref T.heap.size :: rest, locked := none }) rfl d4' _ hsteps
end QX
section VXIA
variable {p : Program} {l : Launch} {e : Env} {R : Room} {s : State} {m : MethodId} {args : Array Value} {below : List Frame} {meth : Method} {c : Code} {T : State} {locs : List Loc} {cells slots : Nat}
theorem q_callI (X : Stand p l e R s m args below meth c T locs cells slots) (hexec : p.tables.exec = Jvm.exec) {own : String} {index : Nat} {y : MethodName} {bytes : ByteArray} {maxL : Nat}
    (hown : s.vm.findClass own = some m.cls) (hy1 : y.name = "<init>") (hlink : (Cond.methodLink own index y).before args s = true) (hinst : (Cond.instanceMethod y).before args s = true)
    (hcode : (Cond.code y bytes maxL none).before args s = true) (hy : y.cls ≠ "java/lang/invoke/MethodHandle" ∧ y.cls ≠ "java/lang/invoke/VarHandle")
    {W9 : Nat} {Pre : Pt → Array Value → Prop} {Post : Pt → Array Value → Option Value → Pt → Prop} {PostX : Pt → Array Value → Addr → Pt → Prop} (hK : vx_Back l R p e below s args y 3 W9 Pre Post PostX)
    {g : JFrame} (hg : g.method = m) (hsize : g.locals.size = c.maxLocals) {a : Addr} {argsL rest : List Value} (hlen : ∀ sig, parseMethodDescriptor y.desc = some sig → argsL.length = sig.parameters.length)
    (hstack : g.stack = argsL.reverse ++ .ref a :: rest) (hW : 2 * g.monitorRoom + (rest.map fun v => v.category).sum ≤ W9) (hdg : decode c.code g.pc = .ok (.invokespecial index, 3))
    (hpre : ∀ vm₁, s.WarmedH vm₁ → Pre ⟨T.setVm vm₁, locs, cells, slots⟩ (Value.ref a :: argsL).toArray) :
    (∃ (v : Option Value) (vm₁ : Vm) (B : Pt), s.WarmedH vm₁ ∧ Stand p l e R s m args below meth c B.U B.locs B.cells B.slots ∧ Post ⟨T.setVm vm₁, locs, cells, slots⟩ (Value.ref a :: argsL).toArray v B ∧
      ∀ target, Steps p.tables e below (B.U.setTop { g with pc := g.pc + 3, stack := v.toList ++ rest }) target → Steps p.tables e below (T.setTop g) target) ∨
    (∃ (q : Addr) (vm₁ : Vm) (B : Pt), s.WarmedH vm₁ ∧ Stand p l e R s m args below meth c B.U B.locs B.cells B.slots ∧ PostX ⟨T.setVm vm₁, locs, cells, slots⟩ (Value.ref a :: argsL).toArray q B ∧
      Steps p.tables e below (T.setTop g) ((B.U.setTop { g with stack := rest }).pushFrame (.throwing q))) := by
  subst hg
  have hpl : e.platform.magicAccessors = ({} : Platform).magicAccessors := by rw [X.admits.platform]
  obtain ⟨mk, methM, cM, kP, vm₁, hnamed, hmethM, hcodeM, -, hlocalsM, -, hkP, -, hW₁, hstep₁⟩ := Steps.initColdArgs (e := e) X.here hexec X.warmed hpl hown hy1 hy hlink hinst hcode (f := g) rfl hlen hstack hdg
  have X₁ := X.noted hW₁
  rcases hK g.method meth c ⟨T.setVm vm₁, locs, cells, slots⟩ { g with stack := rest } (.invokespecial index) mk (Value.ref a :: argsL).toArray X₁ rfl hsize hdg hW (X₁.named hnamed) (hpre vm₁ X₁.warmed) with ⟨v, B, X', hpost, hsteps⟩ | ⟨q, B, X', hpost, hsteps⟩
  · exact Or.inl ⟨v, vm₁, B, X₁.warmed, X', hpost, fun target h => hstep₁ _ fun acts => by rw [doInvoke_state]; exact hsteps.trans h⟩
  · exact Or.inr ⟨q, vm₁, B, X₁.warmed, X', hpost, hstep₁ _ fun acts => by rw [doInvoke_state]; exact hsteps⟩
end VXIA
section VXIB
variable {p : Program} {l : Launch} {e : Env} {R : Room} {s : State} {m : MethodId} {args : Array Value} {below : List Frame} {meth : Method} {c : Code} {H : Heap} {locs : List Loc} {cells slots : Nat}
variable {y : MethodName} {bytes cc : ByteArray} {maxL nL mc ms n index : Nat} {ret : Option FieldType} {ws : List Cond} {rm : Room} {Pc : Array Value → State → Prop} {Qc : Array Value → State → Outcome → State → Prop} {XC : String → State → State → Prop} {free : Addr → Prop} {Ts : List Cond} {own C : String} {b : Addr} {As rest : List Value} {g : JFrame}
theorem q_runI (S : CallFix p m c cc nL s args Ts own) (hM : vx_Met l y ws rm Pc Qc XC mc ms free) (cw : CallB R s args own index y bytes maxL none ws rm mc ms n ∧ y.name = "<init>" ∧ (Cond.instanceMethod y).before args s = true) (hp : PreS s H Pc (.ref b :: As))
    (hg : g.method = m) (hn : As.length = n) (hsize : g.locals.size = nL) (hstack : g.stack = As.reverse ++ .ref b :: rest) (hW : 2 * g.monitorRoom + (rest.map fun v => v.category).sum ≤ 8) (hdg : decode cc g.pc = .ok (.invokespecial index, 3)) (hf : cells + mc ≤ R.cells ∧ slots + ms ≤ R.slots) :
    vx_Run p l e R s m args below meth c H locs cells slots mc ms g rest (Qc (Value.ref b :: As).toArray) XC free := by
  have hK : vx_Back l R p e below s args y 3 8 (PreOf R mc ms Pc) (PostOf Qc mc ms free) (vx_Post XC mc ms free) := vx_callBack cw.1 hM hp.1
  obtain ⟨⟨-, -, -, -, -, -, hcode, -, hy, hlen, hl⟩, hy1, hin⟩ := cw
  obtain ⟨hx, hb, hml, ho, -⟩ := S
  have hPc := hp.2
  intro T hT X
  rcases q_callI X hx (bytes := bytes) (maxL := maxL) ho hy1 hl hin hcode hy hK hg (hsize.trans hml.symm) (a := b) (argsL := As) (rest := rest) (fun sig h => hn.trans (hlen sig h)) hstack hW (by rw [hb]; exact hdg)
    (fun vm₁ hW₁ => ⟨hf.1, hf.2, hPc (T.setVm vm₁) hT hW₁⟩) with ⟨v, vm₁, ⟨U', l2, c2, s2⟩, hW₁, X', ⟨g', mk, t, L, e1, e2, hq, h1, hL, h2, h3⟩, st⟩ | ⟨q, vm₁, ⟨U', l2, c2, s2⟩, hW₁, X', ⟨g', mk, t, L, E, ce, e1, e2, hq, hce, hcv, hcl, h1, hL, h2, h3⟩, st⟩
  · dsimp only [Pt.U, Pt.locs, Pt.cells, Pt.slots] at X' e1 e2 h1 h2 h3 st
    subst h1; subst h2; subst h3
    exact Or.inl ⟨v, (T.setVm vm₁).calling g' mk (Value.ref b :: As).toArray, t, U', L, hT, X', hL, e1, e2, hq, st⟩
  · dsimp only [Pt.U, Pt.locs, Pt.cells, Pt.slots] at X' e1 e2 h1 h2 h3 st hcl
    subst h1; subst h2; subst h3
    exact Or.inr ⟨q, (T.setVm vm₁).calling g' mk (Value.ref b :: As).toArray, t, U', L, E, ce, hT, X', hL, e1, e2, hq, hce, hcv, vx_cls hW₁ hcl, st⟩
end VXIB
section VXIC
variable {p : Program} {l : Launch} {e : Env} {R : Room} {s : State} {m : MethodId} {args : Array Value} {below : List Frame} {meth : Method} {c : Code} {T : State} {locs : List Loc} {cells slots : Nat}
theorem q_callIN (X : Stand p l e R s m args below meth c T locs cells slots) (hexec : p.tables.exec = Jvm.exec) {own : String} {index : Nat} {host : String} {y : MethodName} {bytes : ByteArray} {maxL : Nat}
    (hown : s.vm.findClass own = some m.cls) (hy1 : y.name = "<init>") (hlink : (Cond.methodLinkNest own index y host).before args s = true) (hinst : (Cond.instanceMethod y).before args s = true)
    (hcode : (Cond.code y bytes maxL none).before args s = true) (hy : y.cls ≠ "java/lang/invoke/MethodHandle" ∧ y.cls ≠ "java/lang/invoke/VarHandle")
    {W9 : Nat} {Pre : Pt → Array Value → Prop} {Post : Pt → Array Value → Option Value → Pt → Prop} {PostX : Pt → Array Value → Addr → Pt → Prop} (hK : vx_Back l R p e below s args y 3 W9 Pre Post PostX)
    {g : JFrame} (hg : g.method = m) (hsize : g.locals.size = c.maxLocals) {a : Addr} {argsL rest : List Value} (hlen : ∀ sig, parseMethodDescriptor y.desc = some sig → argsL.length = sig.parameters.length)
    (hstack : g.stack = argsL.reverse ++ .ref a :: rest) (hW : 2 * g.monitorRoom + (rest.map fun v => v.category).sum ≤ W9) (hdg : decode c.code g.pc = .ok (.invokespecial index, 3))
    (hpre : ∀ vm₁, s.WarmedH vm₁ → Pre ⟨T.setVm vm₁, locs, cells, slots⟩ (Value.ref a :: argsL).toArray) :
    (∃ (v : Option Value) (vm₁ : Vm) (B : Pt), s.WarmedH vm₁ ∧ Stand p l e R s m args below meth c B.U B.locs B.cells B.slots ∧ Post ⟨T.setVm vm₁, locs, cells, slots⟩ (Value.ref a :: argsL).toArray v B ∧
      ∀ target, Steps p.tables e below (B.U.setTop { g with pc := g.pc + 3, stack := v.toList ++ rest }) target → Steps p.tables e below (T.setTop g) target) ∨
    (∃ (q : Addr) (vm₁ : Vm) (B : Pt), s.WarmedH vm₁ ∧ Stand p l e R s m args below meth c B.U B.locs B.cells B.slots ∧ PostX ⟨T.setVm vm₁, locs, cells, slots⟩ (Value.ref a :: argsL).toArray q B ∧
      Steps p.tables e below (T.setTop g) ((B.U.setTop { g with stack := rest }).pushFrame (.throwing q))) := by
  subst hg
  have hpl : e.platform.magicAccessors = ({} : Platform).magicAccessors := by rw [X.admits.platform]
  obtain ⟨mk, methM, cM, kP, vm₁, hnamed, hmethM, hcodeM, -, hlocalsM, -, hkP, -, hW₁, hstep₁⟩ := Steps.initColdArgsNest (e := e) X.here hexec X.warmed hpl hown hy1 hy hlink hinst hcode (f := g) rfl hlen hstack hdg
  have X₁ := X.noted hW₁
  rcases hK g.method meth c ⟨T.setVm vm₁, locs, cells, slots⟩ { g with stack := rest } (.invokespecial index) mk (Value.ref a :: argsL).toArray X₁ rfl hsize hdg hW (X₁.named hnamed) (hpre vm₁ X₁.warmed) with ⟨v, B, X', hpost, hsteps⟩ | ⟨q, B, X', hpost, hsteps⟩
  · exact Or.inl ⟨v, vm₁, B, X₁.warmed, X', hpost, fun target h => hstep₁ _ fun acts => by rw [doInvoke_state]; exact hsteps.trans h⟩
  · exact Or.inr ⟨q, vm₁, B, X₁.warmed, X', hpost, hstep₁ _ fun acts => by rw [doInvoke_state]; exact hsteps⟩
end VXIC
section VXID
variable {p : Program} {l : Launch} {e : Env} {R : Room} {s : State} {m : MethodId} {args : Array Value} {below : List Frame} {meth : Method} {c : Code} {H : Heap} {locs : List Loc} {cells slots : Nat}
theorem q_runIN {y : MethodName} {bytes cc : ByteArray} {maxL nL mc ms n index : Nat} {ws : List Cond} {rm : Room} {Pc : Array Value → State → Prop} {Qc : Array Value → State → Outcome → State → Prop} {XC : String → State → State → Prop} {free : Addr → Prop} {Ts : List Cond} {own host : String} {b : Addr} {As rest : List Value} {g : JFrame}
    (S : CallFix p m c cc nL s args Ts own) (hM : vx_Met l y ws rm Pc Qc XC mc ms free) (cw : va_CN R s args own index y host bytes maxL none ws rm mc ms n ∧ y.name = "<init>" ∧ (Cond.instanceMethod y).before args s = true) (hp : PreS s H Pc (.ref b :: As))
    (hg : g.method = m) (hn : As.length = n) (hsize : g.locals.size = nL) (hstack : g.stack = As.reverse ++ .ref b :: rest) (hW : 2 * g.monitorRoom + (rest.map fun v => v.category).sum ≤ 8) (hdg : decode cc g.pc = .ok (.invokespecial index, 3)) (hf : cells + mc ≤ R.cells ∧ slots + ms ≤ R.slots) :
    vx_Run p l e R s m args below meth c H locs cells slots mc ms g rest (Qc (Value.ref b :: As).toArray) XC free := by
  obtain ⟨⟨⟨hrc, hrs, hfr, hlo, hws, hcw⟩, hcode, hini, hy, hlen, hl⟩, hx1, hx2⟩ := cw
  have hK : vx_Back l R p e below s args y 3 8 (PreOf R mc ms Pc) (PostOf Qc mc ms free) (vx_Post XC mc ms free) := vx_back (bytes := bytes) (maxL := maxL) (ret := none) hM hp.1 hrc hrs hfr hlo hws hcw (fun a' U hW => word_at hW (Or.inl (by first | rfl | simp [Cond.onTables, Cond.keeps, Cond.steady])) hini)
  obtain ⟨hx, hb, hml, ho, -⟩ := S
  have hPc := hp.2
  intro T hT X
  rcases q_callIN X hx (bytes := bytes) (maxL := maxL) ho hx1 hl hx2 hcode hy hK hg (hsize.trans hml.symm) (a := b) (argsL := As) (rest := rest) (fun sig h => hn.trans (hlen sig h)) hstack hW (by rw [hb]; exact hdg)
    (fun vm₁ hW₁ => ⟨hf.1, hf.2, hPc (T.setVm vm₁) hT hW₁⟩) with ⟨v, vm₁, ⟨U', l2, c2, s2⟩, hW₁, X', ⟨g', mk, t, L, e1, e2, hq, h1, hL, h2, h3⟩, st⟩ | ⟨q, vm₁, ⟨U', l2, c2, s2⟩, hW₁, X', ⟨g', mk, t, L, E, ce, e1, e2, hq, hce, hcv, hcl, h1, hL, h2, h3⟩, st⟩
  · dsimp only [Pt.U, Pt.locs, Pt.cells, Pt.slots] at X' e1 e2 h1 h2 h3 st
    subst h1; subst h2; subst h3
    exact Or.inl ⟨v, (T.setVm vm₁).calling g' mk (Value.ref b :: As).toArray, t, U', L, hT, X', hL, e1, e2, hq, st⟩
  · dsimp only [Pt.U, Pt.locs, Pt.cells, Pt.slots] at X' e1 e2 h1 h2 h3 st hcl
    subst h1; subst h2; subst h3
    exact Or.inr ⟨q, (T.setVm vm₁).calling g' mk (Value.ref b :: As).toArray, t, U', L, E, ce, hT, X', hL, e1, e2, hq, hce, hcv, vx_cls hW₁ hcl, st⟩
end VXID
end
section
/-! SOUNDNESS of the pure interpreter, V: whole methods. -/
section QZ
def q_Pc (P : (Nat → Nat) × Nat) (D : va_G) (xs : List Int32) (TX : List (String × Nat × String)) (as : List Value) (S : QS) : Array Value → State → Prop := fun v U => v = (as.map (q_rv P)).toArray ∧ q_W P D S U U.heap ∧ q_V P xs TX U U.heap
def q_Qc (P : (Nat → Nat) × Nat) (D : va_G) (o : QO) (S' : QS) : Array Value → State → Outcome → State → Prop := fun _ st oc t => ∃ v : Option Value, o = .inl v ∧ oc = .returned (v.map (q_rv P)) ∧ q_W P D S' t t.heap ∧ va_F (q_A P) st t
def q_XC (P : (Nat → Nat) × Nat) (D : va_G) (o : QO) (S' : QS) : String → State → State → Prop := fun E st t => ∃ e : Nat, o = .inr e ∧ e < 3 ∧ E = q_en e ∧ q_W P D S' t t.heap ∧ va_F (q_A P) st t
/-- the contract of a method at these arguments and this store: it comes to o and S' -/
def q_Met (l : Launch) (P : (Nat → Nat) × Nat) (D : va_G) (xs : List Int32) (TX : List (String × Nat × String)) (M : QM) (d : Nat) (as : List Value) (S : QS) (o : QO) (S' : QS) : Prop :=
  vx_Met l (qm_y M) (q_cw M :: wsL_law) ({ frames := d + 8, cells := S'.2.1 - S.2.1, slots := S'.2.2 - S.2.2, locals := 60 * d + 200 }) (q_Pc P D xs TX as S) (q_Qc P D o S') (q_XC P D o S') (S'.2.1 - S.2.1) (S'.2.2 - S.2.2) (q_A P)
theorem q_Pc_blind {P : (Nat → Nat) × Nat} {D : va_G} {xs : List Int32} {TX : List (String × Nat × String)} {as : List Value} {S : QS} : FrameBlind (q_Pc P D xs TX as S) := fun _ U _ _ h => ⟨h.1, q_W.moved (u := U) (Vm.Alike.refl U.vm) h.2.1, q_V.blind (u := U) rfl h.2.2⟩
section QB
variable {p : Program} {l : Launch} {e : Env} {R : Room} {s : State} {m : MethodId} {args : Array Value} {below : List Frame} {meth : Method} {c : Code} {H : Heap} {locs : List Loc} {cells slots mc ms : Nat} {Q : State → Prop} {pc : Nat} {ls : Array Slot} {P : (Nat → Nat) × Nat} {D : va_G} {S S' : QS} {xs : List Int32} {T : List QM} {TX : List (String × Nat × String)} {M : QM} {i : Instr} {st st' : List Value} {o : QO} {L L' : QL}
theorem q_goOn {a9 : Array Value} {st0 rest : List Value} (hr : vx_Run p l e R s m args below meth c H locs cells slots mc ms (F0 m pc ls st0) rest (q_Qc P D o S' a9) (q_XC P D o S') (q_A P)) (hS : va_S (q_A P) s.heap H locs)
    (kk : ∀ (v : Option Value) (H1 : Heap) (locs1 : List Loc), o = .inl v → q_W P D S' s H1 → va_S (q_A P) s.heap H1 locs1 → W p l e R s m args below meth c H1 locs1 (cells + mc) (slots + ms) Q (F0 m (pc + 3) ls ((v.map (q_rv P)).toList ++ rest)))
    (kx : ∀ (f q : Nat) (ce : Cell) (H1 : Heap) (locs1 : List Loc), o = .inr f → f < 3 → q_W P D S' s H1 → va_S (q_A P) s.heap H1 locs1 → H1[q]? = some ce → ce.vm = .none → s.vm.findClass (q_en f) = some ce.cls → vx_W p l e R s m args below meth c H1 locs1 (cells + mc) (slots + ms) Q (F0 m pc ls rest) q) : W p l e R s m args below meth c H locs cells slots Q (F0 m pc ls st0) := by
  intro T hT X
  rcases hr T hT X with ⟨v, st₀, t, T', L, h0, X', hL, e1, e2, ⟨v9, ho, hoc, hW9, hF⟩, st⟩ | ⟨q, st₀, t, T', L, E, ce, h0, X', hL, e1, e2, ⟨f, ho, hf, hE, hW9, hF⟩, hce, hcv, hcl, st⟩
  · cases hoc
    obtain ⟨k1, k2, k3⟩ := vx_keep (A1 := q_A P) h0 e1 hS (fun _ _ h => h) (fun _ h => h) hL hF
    have hal : s.vm.Alike t.vm := by rw [← e2]; exact X'.warmed.alike
    obtain ⟨t2, a1, b1⟩ := kk v9 T'.heap (locs ++ L) ho (by rw [e1]; exact hW9.moved hal.symm) k3 T' rfl X'
    exact ⟨t2, st t2 a1, b1⟩
  · obtain ⟨k1, k2, k3⟩ := vx_keep (A1 := q_A P) h0 e1 hS (fun _ _ h => h) (fun _ h => h) hL hF
    have hal : s.vm.Alike t.vm := by rw [← e2]; exact X'.warmed.alike
    obtain ⟨t2, a1, b1⟩ := kx f q ce T'.heap (locs ++ L) ho hf (by rw [e1]; exact hW9.moved hal.symm) k3 (by rw [e1]; exact hce) hcv (by rw [← hE]; exact hcl) T' rfl X'
    exact ⟨t2, st.trans a1, b1⟩
theorem q_good : ∀ w ∈ wsL_law, goodWord w = true := by
  intro w h
  unfold wsL_law at h
  rcases List.mem_append.mp h with h | h
  · rcases List.mem_append.mp h with h | h
    · rcases List.mem_append.mp h with h | h
      · exact wsL_law_gd0 w h
      · exact (List.mem_filter.mp h).2
    · exact (List.mem_filter.mp h).2
  · exact (List.mem_filter.mp h).2
theorem q_goodIn (hM : q_mok T TX M) : GoodIn wsL_law (q_cw M :: wsL_law) := by
  intro w h
  rcases List.mem_cons.mp h with rfl | h
  · exact ⟨hM.2.2.2.2.1, good_of_word (q_good _ hM.2.2.2.2.1)⟩
  · exact ⟨h, good_of_word (q_good _ h)⟩
theorem q_read_sw (h : q_read M xs i st S = some st') : q_isSw i = false := by
  cases i with
  | tableswitch d lo hi offs =>
    exfalso
    unfold q_read at h
    simp only at h
    split at h
    · split at h
      · simp [q_akd] at h
      · cases h
    · cases h
  | _ => rfl
theorem q_write_sw (h : q_write M i st S = some (st', S')) : q_isSw i = false := by
  cases i <;> first
    | rfl
    | (exfalso
       simp only [q_write] at h
       cases h)
theorem q_inc_ok {bw : Prop} (hM : q_mokG bw T TX M) (F : q_Fr P xs TX M p m c s args meth) (hcode : q_code M pc = some i) (h : q_inc M i L = some L') (hl : lv_has ls (qm_l M) (q_rL P L))
    (k : ∀ ls1 : Array Slot, lv_has ls1 (qm_l M) (q_rL P L') → W p l e R s m args below meth c H locs cells slots Q (F0 m (pc + 3) ls1 (st.map (q_rv P)))) : W p l e R s m args below meth c H locs cells slots Q (F0 m pc ls (st.map (q_rv P))) := by
  unfold q_inc at h
  split at h
  · split at h
    · rename_i x hx
      split at h
      · rename_i hn
        cases h
        have hm2 := List.mem_map_of_mem (f := fun q : Nat × Value => (q.1, q_rv P q.2)) (q_lo_mem hx)
        obtain ⟨j, hj⟩ := List.getElem?_of_mem hm2
        exact lv_iinc (lv' := q_rL P (q_s1 L _ (.int (x + Int32.ofInt _)))) F.1.1 F.1.2.1 (q_decL hM hcode rfl) hl hj rfl hn (q_s1_rv P L _ (.int (x + Int32.ofInt _))).symm k
      · cases h
    · cases h
  · cases h
theorem q_oi_ok {bw : Prop} (hM : q_mokG bw T TX M) (F : q_Fr P xs TX M p m c s args meth) (hR : 1 ≤ R.frames ∧ 20 ≤ R.locals) (hcode : q_code M pc = some i) (h : q_oi M i st = some st') (hl : lv_has ls (qm_l M) (q_rL P L))
    (k : W p l e R s m args below meth c H locs cells slots Q (F0 m (pc + 3) ls (st'.map (q_rv P)))) : W p l e R s m args below meth c H locs cells slots Q (F0 m pc ls (st.map (q_rv P))) := by
  have F1 := F.1
  unfold q_oi at h
  split at h
  · split at h
    · rename_i hlk
      split at h
      · rename_i hsum
        cases h
        obtain ⟨g1, g2, g3⟩ := hM.2.2.2.2.2.2.1 _ (q_lk_mem hlk)
        have hsz : ∀ g : List Value, (F0 m pc ls g).locals.size = c.maxLocals := fun _ => hl.1.trans F1.2.2.1.symm
        refine W.objInit F1.1 F1.2.1 F1.2.2.2.1 (F1.2.2.2.2 _ g1) (F1.2.2.2.2 _ g2) (F1.2.2.2.2 _ g3) rfl (hsz _) rfl (q_decL hM hcode rfl) hR.1 ?_ k
        rw [q_sum_cat]
        show 2 * 0 + _ + 12 ≤ R.locals
        omega
      · cases h
    · cases h
  · cases h
set_option maxHeartbeats 4000000 in
theorem q_step_ok {bw : Prop} (hM : q_mokG bw T TX M) (hac : Cond.arrayClass .int ∈ wsL_law ∧ Cond.arrayClass .long ∈ wsL_law ∧ Cond.arrayClass .boolean ∈ wsL_law) (F : q_Fr P xs TX M p m c s args meth) (hR : 1 ≤ R.frames ∧ 20 ≤ R.locals) (hcode : q_code M pc = some i) {pc' : Nat} (h : q_step M xs pc i L st S = some (pc', L', st', S'))
    (hl : lv_has ls (qm_l M) (q_rL P L)) (hW : q_W P D S s H) (hS : va_S (q_A P) s.heap H locs) {c0 s0 : Nat} (hc : cells + c0 = S.2.1) (hs : slots + s0 = S.2.2) (hC : S'.2.1 ≤ R.cells + c0) (hSl : S'.2.2 ≤ R.slots + s0)
    (k : ∀ (ls1 : Array Slot) (H1 : Heap) (locs1 : List Loc) (c1 s1 : Nat), lv_has ls1 (qm_l M) (q_rL P L') → q_W P D S' s H1 → va_S (q_A P) s.heap H1 locs1 → c1 + c0 = S'.2.1 → s1 + s0 = S'.2.2 → W p l e R s m args below meth c H1 locs1 c1 s1 Q (F0 m pc' ls1 (st'.map (q_rv P)))) : W p l e R s m args below meth c H locs cells slots Q (F0 m pc ls (st.map (q_rv P))) := by
  have F1 := F.1
  unfold q_step at h
  split at h
  · rename_i st9 hs9
    cases h
    have hsw : q_isSw i = false := by
      cases i <;> first | rfl | (simp only [q_simple] at hs9; cases hs9)
    exact q_simple_ok F1.1 F1.2.1 hs9 (q_decL hM hcode hsw) (k ls H locs cells slots hl hW hS hc hs)
  · split at h
    · rename_i t n hld
      have hsw : q_isSw i = false := by
        cases i <;> first | rfl | (simp only [q_ldi] at hld; cases hld)
      split at h
      · rename_i v hv
        split at h
        · rename_i ht
          cases h
          exact q_ld_ok F1.1 F1.2.1 hld hv ht (q_decL hM hcode hsw) hl (k ls H locs cells slots hl hW hS hc hs)
        · cases h
      · cases h
    · split at h
      · rename_i t n hsti
        have hsw : q_isSw i = false := by
          cases i <;> first | rfl | (simp only [q_sti] at hsti; cases hsti)
        cases st with
        | nil => cases h
        | cons v9 rest9 =>
          by_cases ht : q_tag v9 = t ∧ n + 1 < qm_l M + (if t = 1 then 0 else 1)
          · simp only [if_pos ht] at h
            cases h
            exact q_st_ok F1.1 F1.2.1 hsti ht.1 ht.2 (q_decL hM hcode hsw) hl fun ls1 hl1 => k ls1 H locs cells slots hl1 hW hS hc hs
          · simp only [if_neg ht] at h
            cases h
      · split at h
        · rename_i b o9 rest hbr
          obtain ⟨t, h1, h2⟩ := Option.map_eq_some_iff.mp h
          cases h2
          obtain ⟨n9, hd, hn⟩ := q_dec hM hcode
          exact q_br_ok F1.1 F1.2.1 hbr h1 hd hn F.2.2.2.2.1.2.1 (k ls H locs cells slots hl hW hS hc hs)
        · split at h
          · rename_i L9 hinc
            cases h
            exact q_inc_ok hM F hcode hinc hl fun ls1 hl1 => k ls1 H locs cells slots hl1 hW hS hc hs
          · split at h
            · rename_i st9 hoi
              cases h
              exact q_oi_ok hM F hR hcode hoi hl (k ls H locs cells slots hl hW hS hc hs)
            · split at h
              · rename_i st9 hrd
                cases h
                exact q_read_ok hM F hW hS hrd (q_decL hM hcode (q_read_sw hrd)) (k ls H locs cells slots hl hW hS hc hs)
              · obtain ⟨⟨st9, S9⟩, h1, h2⟩ := Option.map_eq_some_iff.mp h
                cases h2
                have hmn := q_write_mono h1
                have hC9 : S9.2.1 ≤ R.cells + c0 := hC
                have hS9 : S9.2.2 ≤ R.slots + s0 := hSl
                exact q_write_ok hM hac F hW hS h1 (q_decL hM hcode (q_write_sw h1)) (by omega) (by omega) fun H1 locs1 w1 w2 => k ls H1 locs1 _ _ hl w1 w2 (by show _ + c0 = S9.2.1; omega) (by show _ + s0 = S9.2.2; omega)
theorem q_step_mono {pc' : Nat} (h : q_step M xs pc i L st S = some (pc', L', st', S')) : S.2.1 ≤ S'.2.1 ∧ S.2.2 ≤ S'.2.2 := by
  have hr : S.2.1 ≤ S.2.1 ∧ S.2.2 ≤ S.2.2 := ⟨Nat.le_refl _, Nat.le_refl _⟩
  unfold q_step at h
  split at h
  · cases h; exact hr
  · split at h
    · repeat' (split at h)
      all_goals first | (cases h; done) | (cases h; exact hr)
    · split at h
      · repeat' (split at h)
        all_goals first | (cases h; done) | (cases h; exact hr)
      · split at h
        · obtain ⟨t, h1, h2⟩ := Option.map_eq_some_iff.mp h
          cases h2; exact hr
        · split at h
          · cases h; exact hr
          · split at h
            · cases h; exact hr
            · split at h
              · cases h; exact hr
              · obtain ⟨⟨st9, S9⟩, h1, h2⟩ := Option.map_eq_some_iff.mp h
                cases h2
                exact q_write_mono h1
/-- what is known of the calls that a method makes -/
def q_CallOK (l : Launch) (P : (Nat → Nat) × Nat) (D : va_G) (xs : List Int32) (TX : List (String × Nat × String)) (T : List QM) (d : Nat) (call : Nat → List Value → QS → Option (QO × QS)) : Prop := ∀ (mi : Nat) (as : List Value) (S : QS) (o : QO) (S' : QS), call mi as S = some (o, S') → (S.2.1 ≤ S'.2.1 ∧ S.2.2 ≤ S'.2.2) ∧ ∃ M : QM, T[mi]? = some M ∧ q_mok T TX M ∧ q_Met l P D xs TX M d as S o S'
theorem q_run_mono {call : Nat → List Value → QS → Option (QO × QS)} {d : Nat} (hcall : q_CallOK l P D xs TX T d call) : ∀ (n pc : Nat) (L : QL) (st : List Value) (S : QS) (o : QO) (S' : QS), q_run call M xs n pc L st S = some (o, S') → S.2.1 ≤ S'.2.1 ∧ S.2.2 ≤ S'.2.2 := by
  intro n
  induction n with
  | zero => intro pc L st S o S' h; simp [q_run] at h
  | succ n ih =>
    intro pc L st S o S' h
    rw [q_run] at h
    split at h
    · cases h
    · split at h
      · rename_i hst
        have h1 := q_step_mono hst
        have h2 := ih _ _ _ _ _ _ h
        omega
      · split at h
        · split at h
          · rename_i hcl
            have h1 := (hcall _ _ _ _ _ hcl).1
            have h2 := ih _ _ _ _ _ _ h
            omega
          · rename_i hcl
            have h1 := (hcall _ _ _ _ _ hcl).1
            split at h
            · cases h; exact h1
            · split at h
              · have h2 := ih _ _ _ _ _ _ h
                omega
              · cases h
          · cases h
        · split at h
          · cases h; exact ⟨Nat.le_refl _, Nat.le_refl _⟩
          · obtain ⟨f, h1, h2⟩ := Option.map_eq_some_iff.mp h
            cases h2
            exact ⟨Nat.le_succ _, Nat.le_add_right _ _⟩
end QB
end QZ
end
section
/-! SOUNDNESS of the pure interpreter, VI: calls, returns, throws, handlers; then the table of all methods. -/
section QY
variable {p : Program} {l : Launch} {e : Env} {R : Room} {s : State} {m : MethodId} {args : Array Value} {below : List Frame} {meth : Method} {c : Code} {H : Heap} {locs : List Loc} {cells slots mc ms : Nat} {Q : State → Prop} {pc : Nat} {ls : Array Slot} {P : (Nat → Nat) × Nat} {D : va_G} {S S' : QS} {xs : List Int32} {T : List QM} {TX : List (String × Nat × String)} {M : QM} {i : Instr} {st st' : List Value} {o : QO} {L L' : QL}
theorem q_V.at (hV : q_V P xs TX s s.heap) (hS : va_S (q_A P) s.heap H locs) {U : State} (hU : U.heap = H) (hW : s.WarmedH U.vm) : q_V P xs TX U U.heap := by
  rw [hU]
  exact (hV.kept hS.1 hS.2.1).moved hW
theorem q_W.at (hW : q_W P D S s H) {U : State} (hU : U.heap = H) (hv : s.WarmedH U.vm) : q_W P D S U U.heap := by
  rw [hU]
  exact hW.moved hv.alike
theorem q_split (st : List Value) (n : Nat) : st.map (q_rv P) = (((st.take n).reverse).map (q_rv P)).reverse ++ (st.drop n).map (q_rv P) := by
  rw [← List.map_reverse, List.reverse_reverse, ← List.map_append, List.take_append_drop]
theorem q_takelen {st : List Value} {n : Nat} (h : n ≤ st.length) : (((st.take n).reverse).map (q_rv P)).length = n := by
  rw [List.length_map, List.length_reverse, List.length_take]
  omega
set_option maxHeartbeats 4000000 in
theorem q_call_ok {bw : Prop} (hM : q_mokG bw T TX M) (F : q_Fr P xs TX M p m c s args meth) {d : Nat} (hR : d + 9 ≤ R.frames ∧ 60 * d + 260 ≤ R.locals) (hcode : q_code M pc = some i) {mi : Nat} {as rest : List Value} (h : q_call M i st S = some (mi, as, rest)) {M' : QM} (hT : T[mi]? = some M') (hM' : q_mok T TX M') (hMet : q_Met l P D xs TX M' d as S o S')
    (hl : lv_has ls (qm_l M) (q_rL P L)) (hW : q_W P D S s H) (hS : va_S (q_A P) s.heap H locs) (hf : cells + (S'.2.1 - S.2.1) ≤ R.cells ∧ slots + (S'.2.2 - S.2.2) ≤ R.slots)
    (kk : ∀ (v : Option Value) (H1 : Heap) (locs1 : List Loc), o = .inl v → q_W P D S' s H1 → va_S (q_A P) s.heap H1 locs1 → W p l e R s m args below meth c H1 locs1 (cells + (S'.2.1 - S.2.1)) (slots + (S'.2.2 - S.2.2)) Q (F0 m (pc + 3) ls ((v.toList ++ rest).map (q_rv P))))
    (kx : ∀ (f q : Nat) (ce : Cell) (H1 : Heap) (locs1 : List Loc), o = .inr f → f < 3 → q_W P D S' s H1 → va_S (q_A P) s.heap H1 locs1 → H1[q]? = some ce → ce.vm = .none → s.vm.findClass (q_en f) = some ce.cls → vx_W p l e R s m args below meth c H1 locs1 (cells + (S'.2.1 - S.2.1)) (slots + (S'.2.2 - S.2.2)) Q (F0 m pc ls (rest.map (q_rv P))) q) : W p l e R s m args below meth c H locs cells slots Q (F0 m pc ls (st.map (q_rv P))) := by
  obtain ⟨F1, -, -, -, hV⟩ := F
  have hts := F1.2.2.2.2
  have hK := hM.2.2.2.2.2.2.1
  have hml := hM'.2.2.2.1
  have hR2 : (d + 8) + 1 ≤ R.frames ∧ 8 + (qm_l M' + 11) + (60 * d + 200) ≤ R.locals := by omega
  have hsz : ∀ g : List Value, (F0 m pc ls g).locals.size = qm_l M := fun _ => hl.1
  have hG := q_goodIn hM'
  have kk2 : ∀ (v : Option Value) (H1 : Heap) (locs1 : List Loc), o = .inl v → q_W P D S' s H1 → va_S (q_A P) s.heap H1 locs1 → W p l e R s m args below meth c H1 locs1 (cells + (S'.2.1 - S.2.1)) (slots + (S'.2.2 - S.2.2)) Q (F0 m (pc + 3) ls ((v.map (q_rv P)).toList ++ rest.map (q_rv P))) := by
    intro v H1 locs1 h1 h2 h3
    have h4 := kk v H1 locs1 h1 h2 h3
    rw [List.map_append] at h4
    cases v <;> exact h4
  unfold q_call at h
  split at h
  · rename_i x
    split at h
    · rename_i mi9 n ci hlk
      obtain ⟨M2, row, g1, g2, g3, g4, g5, g6, g7, g8, g9, g10⟩ := hK _ (q_lk_mem hlk)
      split at h
      · rename_i b rest9 hdr
        split at h
        · rename_i cl hcl
          split at h
          · rename_i hcond
            obtain ⟨hci, hn, hsum⟩ := hcond
            cases h
            cases Option.some.inj (hT.symm.trans g1)
            obtain ⟨k9, rfl, hk9⟩ := q_at_s hcl
            have hcw : q_cw M' = Cond.code (qm_y M') (qm_b M') (qm_l M') (qm_r M') := if_pos g4
            unfold q_Met at hMet
            rw [hcw] at hMet hG
            have hsp : st.map (q_rv P) = (((st.take n).reverse).map (q_rv P)).reverse ++ .ref (P.2 + k9) :: rest.map (q_rv P) := by
              rw [q_split (P := P) st n, hdr]; rfl
            have hrecv : ∃ cellB : Cell, H[P.2 + k9]? = some cellB ∧ cellB.vm.isStatics = false ∧ s.vm.findClass (qm_y M').cls = some cellB.cls := by
              have hC := hW.2.2 k9 cl hk9
              obtain ⟨h50, -⟩ := q_clok _ _ g2
              unfold q_C at hC
              rw [hci, if_pos h50] at hC
              obtain ⟨row', hrow', cell, c1, c2, c3, -⟩ := hC
              exact ⟨cell, c1, by rw [c3]; rfl, by rw [c2, ← g3]; exact (hW.2.1 _ _ g2).2.1⟩
            rw [hsp]
            refine q_goOn (vx_runV (C := (qm_y M').cls) (b := P.2 + k9) (As := ((st.take n).reverse).map (q_rv P)) (rest := rest.map (q_rv P)) F1 hMet ⟨callB_of n hts hG rfl rfl rfl (hts _ g10) (hts _ g5) ⟨g9.1, g9.2, g8⟩ hR2, hts _ g6, hts _ g7⟩ ⟨q_Pc_blind, hrecv, fun U hU hv => ⟨rfl, hW.at hU hv, hV.at hS hU hv⟩⟩ rfl (q_takelen hn) (hsz _) rfl ?_ (q_decL hM hcode rfl) hf) hS kk2 kx
            rw [q_sum_cat]
            show 2 * 0 + _ ≤ 8
            omega
          · cases h
        · cases h
      · cases h
    · cases h
  · rename_i x
    split at h
    · rename_i mi9 n ci hlk
      obtain ⟨M2, g1, g5, g6, g8, g9, g10⟩ := hK _ (q_lk_mem hlk)
      split at h
      · rename_i hcond
        obtain ⟨hn, hsum⟩ := hcond
        cases h
        cases Option.some.inj (hT.symm.trans g1)
        have hsp := q_split (P := P) st n
        have hsum2 : 2 * (F0 m pc ls (st.map (q_rv P))).monitorRoom + (((st.drop n).map (q_rv P)).map fun v => v.category).sum ≤ 8 := by
          rw [q_sum_cat]
          show 2 * 0 + _ ≤ 8
          omega
        by_cases hh : qm_h M' = []
        · have hcw : q_cw M' = Cond.code (qm_y M') (qm_b M') (qm_l M') (qm_r M') := if_pos hh
          unfold q_Met at hMet
          rw [hcw] at hMet hG
          exact q_goOn (vx_runS (As := ((st.take n).reverse).map (q_rv P)) (rest := (st.drop n).map (q_rv P)) F1 hMet ⟨callB_of n hts hG rfl rfl rfl (hts _ g10) (hts _ g5) ⟨g9.1, g9.2, g8⟩ hR2, hts _ g6⟩ ⟨q_Pc_blind, fun U hU hv => ⟨rfl, hW.at hU hv, hV.at hS hU hv⟩⟩ rfl (q_takelen hn) (hsz _) hsp hsum2 (q_decL hM hcode rfl) hf) hS kk2 kx
        · have hcw : q_cw M' = Cond.codeWith (qm_y M') (qm_b M') (qm_l M') (qm_r M') (qm_h M') := if_neg hh
          unfold q_Met at hMet
          rw [hcw] at hMet hG
          have hG2 : GoodIn wsL_law (va_wsS (qm_o M) x (qm_y M') (Cond.codeWith (qm_y M') (qm_b M') (qm_l M') (qm_r M') (qm_h M') :: wsL_law)) := by
            intro w hw
            unfold va_wsS at hw
            rcases List.mem_append.mp hw with hw | hw
            · have : w ∈ wsL_law := by
                simp only [List.mem_cons, List.not_mem_nil, or_false] at hw
                rcases hw with rfl | rfl | rfl
                · exact g5
                · exact g6
                · exact g10
              exact ⟨this, good_of_word (q_good _ this)⟩
            · exact hG w hw
          exact q_goOn (vx_runSX (As := ((st.take n).reverse).map (q_rv P)) (rest := (st.drop n).map (q_rv P)) F1 hMet (vx_cwSW n hts hG2 rfl rfl rfl ⟨g9.1, g9.2, g8⟩ hR2) ⟨q_Pc_blind, fun U hU hv => ⟨rfl, hW.at hU hv, hV.at hS hU hv⟩⟩ rfl (q_takelen hn) (hsz _) hsp hsum2 (q_decL hM hcode rfl) hf) hS kk2 kx
      · cases h
    · cases h
  · rename_i x
    split at h
    · rename_i mi9 n ci hlk
      obtain ⟨M2, g1, g2, g3, g4, g5, g6, g8, g9, g10⟩ := hK _ (q_lk_mem hlk)
      split at h
      · rename_i b rest9 hdr
        split at h
        · rename_i hcond
          obtain ⟨hn, hsum⟩ := hcond
          cases h
          cases Option.some.inj (hT.symm.trans g1)
          have hcw : q_cw M' = Cond.code (qm_y M') (qm_b M') (qm_l M') none := by unfold q_cw; rw [if_pos g2, g4]
          unfold q_Met at hMet
          rw [hcw] at hMet hG
          have hsp : st.map (q_rv P) = (((st.take n).reverse).map (q_rv P)).reverse ++ .ref (q_ad P b) :: rest.map (q_rv P) := by
            rw [q_split (P := P) st n, hdr]; rfl
          rw [hsp]
          refine q_goOn (q_runI (b := q_ad P b) (As := ((st.take n).reverse).map (q_rv P)) (rest := rest.map (q_rv P)) F1 hMet ⟨callB_of n hts hG rfl rfl rfl (hts _ g10) (hts _ g5) ⟨g9.1, g9.2, g8⟩ hR2, g3, hts _ g6⟩ ⟨q_Pc_blind, fun U hU hv => ⟨rfl, hW.at hU hv, hV.at hS hU hv⟩⟩ rfl (q_takelen hn) (hsz _) rfl ?_ (q_decL hM hcode rfl) hf) hS kk2 kx
          rw [q_sum_cat]
          show 2 * 0 + _ ≤ 8
          omega
        · cases h
      · cases h
    · rename_i mi9 n ci hlk
      obtain ⟨M2, g1, g2, g3, g4, g5, g6, g8, g9, g10⟩ := hK _ (q_lk_mem hlk)
      split at h
      · rename_i b rest9 hdr
        split at h
        · rename_i hcond
          obtain ⟨hn, hsum⟩ := hcond
          cases h
          cases Option.some.inj (hT.symm.trans g1)
          have hcw : q_cw M' = Cond.code (qm_y M') (qm_b M') (qm_l M') none := by unfold q_cw; rw [if_pos g2, g4]
          unfold q_Met at hMet
          rw [hcw] at hMet hG
          have hsp : st.map (q_rv P) = (((st.take n).reverse).map (q_rv P)).reverse ++ .ref (q_ad P b) :: rest.map (q_rv P) := by
            rw [q_split (P := P) st n, hdr]; rfl
          rw [hsp]
          refine q_goOn (q_runIN (host := "DurableLoom") (b := q_ad P b) (As := ((st.take n).reverse).map (q_rv P)) (rest := rest.map (q_rv P)) F1 hMet ⟨va_cnB n hts hG rfl rfl rfl (hV.2.2.2.2.2.2.2.2.2 _ g5) (hts _ g10) ⟨g9.1, g9.2, g8⟩ hR2, g3, hts _ g6⟩ ⟨q_Pc_blind, fun U hU hv => ⟨rfl, hW.at hU hv, hV.at hS hU hv⟩⟩ rfl (q_takelen hn) (hsz _) rfl ?_ (q_decL hM hcode rfl) hf) hS kk2 kx
          rw [q_sum_cat]
          show 2 * 0 + _ ≤ 8
          omega
        · cases h
      · cases h
    · cases h
  · cases h
/-- a handler takes it -/
theorem q_hand_ok {bw : Prop} (hM : q_mokG bw T TX M) (F : q_Fr P xs TX M p m c s args meth) (htab : c.exceptionTable.toList = tableOf (qm_h M)) {f q pc' : Nat} {ce : Cell} {rest : List Value} (h : q_hand M pc f L = some (pc', L')) (hf : f < 3) (hl : lv_has ls (qm_l M) (q_rL P L)) (hcell : H[q]? = some ce) (hv : ce.vm = .none) (hcl : s.vm.findClass (q_en f) = some ce.cls)
    (k : ∀ ls1 : Array Slot, lv_has ls1 (qm_l M) (q_rL P L') → W p l e R s m args below meth c H locs cells slots Q (F0 m pc' ls1 [])) : vx_W p l e R s m args below meth c H locs cells slots Q (F0 m pc ls rest) q := by
  obtain ⟨F1, -, -, -, hV⟩ := F
  have hts := F1.2.2.2.2
  have hK := hM.2.2.2.2.2.2.1
  have hHd := hM.2.2.2.2.2.2.2
  unfold q_hand at h
  split at h
  · rename_i hh hfind
    obtain ⟨hp, pre, suf, hsp, hpre⟩ := List.find?_eq_some_iff_append.mp hfind
    have hspl : c.exceptionTable.toList = tableOf pre ++ ⟨hh.1, hh.2.1, hh.2.2.1, hh.2.2.2⟩ :: tableOf suf := by
      rw [htab, hsp]; simp [tableOf]
    have hmem : hh ∈ qm_h M := by rw [hsp]; simp
    obtain ⟨f1, hf1, hlk, hne⟩ := hHd hh hmem
    unfold q_hx at hp
    simp only [hlk, Bool.and_eq_true, decide_eq_true_eq, beq_iff_eq] at hp
    obtain ⟨hp1, hp2, hp3⟩ := hp
    subst hp3
    have hcov : covers (⟨hh.1, hh.2.1, hh.2.2.1, hh.2.2.2⟩ : ExceptionTableEntry) pc = true := by
      simp [covers, hp1, hp2]
    have hpass : ∀ z ∈ tableOf pre, covers z pc = false ∨ (z.catchType ≠ 0 ∧ ∃ nm : String, (Cond.classLink (qm_o M) z.catchType nm).before args s = true ∧ va_Nc (q_en f1) nm s) := by
      intro z hz
      obtain ⟨h9, hz1, rfl⟩ := List.mem_map.mp hz
      have hmem9 : h9 ∈ qm_h M := by rw [hsp]; simp [hz1]
      obtain ⟨f2, hf2, hlk2, hne2⟩ := hHd h9 hmem9
      by_cases hcv : covers (⟨h9.1, h9.2.1, h9.2.2.1, h9.2.2.2⟩ : ExceptionTableEntry) pc = true
      · refine Or.inr ⟨hne2, q_en f2, hts _ (hK _ (q_lk_mem hlk2)).2, hV.2.2.2.2.2.2.2.1 f1 f2 hf1 hf2 ?_⟩
        intro he
        have h8 := hpre h9 hz1
        unfold q_hx at h8
        simp [covers] at hcv
        simp [hlk2, hcv.1, hcv.2, he] at h8
      · exact Or.inl (by simpa using hcv)
    have hgo : ∀ kk : W p l e R s m args below meth c H locs cells slots Q (F0 m hh.2.2.1 ls [.ref q]), vx_W p l e R s m args below meth c H locs cells slots Q (F0 m pc ls rest) q := fun kk =>
      vx_catch (name := q_en f1) F1.2.2.2.1 (tableOf pre) ⟨hh.1, hh.2.1, hh.2.2.1, hh.2.2.2⟩ (tableOf suf) hspl hpass hcov hne (hts _ (hK _ (q_lk_mem hlk)).2) (va_Nw.use rfl (hV.2.2.2.2.2.2.1 f1 hf1)) hcell hv hcl kk
    have hdrop : ∀ (n : Nat) (ls1 : Array Slot), lv_has ls1 (qm_l M) ((n, Value.ref q) :: (q_rL P L).filter (fun q => !(q.1 == n) && !(q.1 + 1 == n && q.2.category == 2))) → lv_has ls1 (qm_l M) (q_rL P (q_rm L n)) := by
      intro n ls1 h1
      rw [q_rm_rv]
      exact ⟨h1.1, h1.2.1, fun z hz => h1.2.2 z (List.mem_cons_of_mem _ hz)⟩
    split at h
    · rename_i n hc9
      split at h
      · rename_i hn
        cases h
        exact hgo (lv_astore F1.1 F1.2.1 (q_decL hM hc9 rfl) hl hn rfl fun ls1 hl1 => k ls1 (hdrop n ls1 hl1))
      · cases h
    · rename_i n hc9
      split at h
      · rename_i hn
        cases h
        exact hgo (lv_astore_n F1.1 F1.2.1 (q_decL hM hc9 rfl) rfl hl hn rfl fun ls1 hl1 => k ls1 (hdrop _ ls1 hl1))
      · cases h
    · cases h
  · cases h
set_option maxHeartbeats 4000000 in
theorem q_run_ok {bw : Prop} (hM : q_mokG bw T TX M) (hac : Cond.arrayClass .int ∈ wsL_law ∧ Cond.arrayClass .long ∈ wsL_law ∧ Cond.arrayClass .boolean ∈ wsL_law) (F : q_Fr P xs TX M p m c s args meth) {d : Nat} (hR : d + 9 ≤ R.frames ∧ 60 * d + 260 ≤ R.locals) {call : Nat → List Value → QS → Option (QO × QS)} (hcall : q_CallOK l P D xs TX T d call) {Sf : QS} {c0 s0 : Nat} (hC : Sf.2.1 ≤ R.cells + c0) (hSl : Sf.2.2 ≤ R.slots + s0)
    (htab : qm_h M ≠ [] → c.exceptionTable.toList = tableOf (qm_h M))
    (hret : ∀ (v : Option Value) (pc : Nat) (i : Instr) (ls : Array Slot) (st : List Value) (H : Heap) (locs : List Loc) (c1 s1 : Nat), o = .inl v → q_code M pc = some i → q_ret M i st = some v → q_W P D Sf s H → va_S (q_A P) s.heap H locs → c1 + c0 = Sf.2.1 → s1 + s0 = Sf.2.2 → W p l e R s m args below meth c H locs c1 s1 Q (F0 m pc ls (st.map (q_rv P))))
    (hthr : ∀ (f pc : Nat) (i : Instr) (ls : Array Slot) (st : List Value) (S1 : QS) (H : Heap) (locs : List Loc) (c1 s1 : Nat), o = .inr f → q_code M pc = some i → q_thr M pc i st = some f → Sf = (S1.1 ++ [(99, 0, [])], S1.2.1 + 1, S1.2.2 + 6) → ls.size = qm_l M → q_W P D S1 s H → va_S (q_A P) s.heap H locs → c1 + c0 = S1.2.1 → s1 + s0 = S1.2.2 → W p l e R s m args below meth c H locs c1 s1 Q (F0 m pc ls (st.map (q_rv P))))
    (hprop : ∀ (f q : Nat) (ce : Cell) (pc : Nat) (ls : Array Slot) (rest : List Value) (H : Heap) (locs : List Loc) (c1 s1 : Nat), o = .inr f → f < 3 → qm_h M = [] → q_W P D Sf s H → va_S (q_A P) s.heap H locs → c1 + c0 = Sf.2.1 → s1 + s0 = Sf.2.2 → H[q]? = some ce → ce.vm = .none → s.vm.findClass (q_en f) = some ce.cls → vx_W p l e R s m args below meth c H locs c1 s1 Q (F0 m pc ls rest) q) :
    ∀ (n pc : Nat) (L : QL) (st : List Value) (S : QS) (ls : Array Slot) (H : Heap) (locs : List Loc) (cells slots : Nat), q_run call M xs n pc L st S = some (o, Sf) → lv_has ls (qm_l M) (q_rL P L) → q_W P D S s H → va_S (q_A P) s.heap H locs → cells + c0 = S.2.1 → slots + s0 = S.2.2 → W p l e R s m args below meth c H locs cells slots Q (F0 m pc ls (st.map (q_rv P))) := by
  intro n
  induction n with
  | zero => intro pc L st S ls H locs cells slots h; simp [q_run] at h
  | succ n ih =>
    intro pc L st S ls H locs cells slots h hl hW hS hc hs
    rw [q_run] at h
    split at h
    · cases h
    · rename_i i hcode
      split at h
      · rename_i pc' L' st' S' hst
        have hm1 := q_run_mono hcall _ _ _ _ _ _ _ h
        exact q_step_ok hM hac F ⟨by omega, by omega⟩ hcode hst hl hW hS hc hs (by omega) (by omega) fun ls1 H1 locs1 c1 s1 g1 g2 g3 g4 g5 => ih pc' L' st' S' ls1 H1 locs1 c1 s1 h g1 g2 g3 g4 g5
      · split at h
        · rename_i mi as rest hcl
          split at h
          · rename_i v S' hca
            obtain ⟨hmn, M', hT, hM', hMet⟩ := hcall _ _ _ _ _ hca
            have hm1 := q_run_mono hcall _ _ _ _ _ _ _ h
            refine q_call_ok hM F hR hcode hcl hT hM' hMet hl hW hS ⟨by omega, by omega⟩ (fun v9 H1 locs1 h1 h2 h3 => ?_) (fun f q ce H1 locs1 h1 => by cases h1)
            cases h1
            exact ih _ _ _ _ ls H1 locs1 _ _ h hl h2 h3 (by omega) (by omega)
          · rename_i f S' hca
            obtain ⟨hmn, M', hT, hM', hMet⟩ := hcall _ _ _ _ _ hca
            split at h
            · rename_i hh
              cases h
              exact q_call_ok hM F hR hcode hcl hT hM' hMet hl hW hS ⟨by omega, by omega⟩ (fun v9 H1 locs1 h1 => by cases h1) (fun f9 q ce H1 locs1 h1 h2 h3 h4 h5 h6 h7 => hprop f9 q ce pc ls _ H1 locs1 _ _ h1 h2 hh h3 h4 (by omega) (by omega) h5 h6 h7)
            · rename_i hh
              split at h
              · rename_i pc' L' hhd
                have hm1 := q_run_mono hcall _ _ _ _ _ _ _ h
                refine q_call_ok hM F hR hcode hcl hT hM' hMet hl hW hS ⟨by omega, by omega⟩ (fun v9 H1 locs1 h1 => by cases h1) (fun f9 q ce H1 locs1 h1 h2 h3 h4 h5 h6 h7 => ?_)
                cases h1
                exact q_hand_ok hM F (htab hh) hhd h2 hl h5 h6 h7 fun ls1 hl1 => ih pc' L' [] S' ls1 H1 locs1 _ _ h hl1 h3 h4 (by omega) (by omega)
              · cases h
          · cases h
        · split at h
          · rename_i v hr9
            cases h
            exact hret v pc i ls st H locs cells slots rfl hcode hr9 hW hS hc hs
          · obtain ⟨f, h1, h2⟩ := Option.map_eq_some_iff.mp h
            cases h2
            exact hthr f pc i ls st S H locs cells slots rfl hcode h1 rfl hl.1 hW hS hc hs
end QY
end
section
/-! SOUNDNESS of the pure interpreter, VII: every method of a good table keeps its contract. -/
section QV
theorem q_sl_len (P : (Nat → Nat) × Nat) (as : List Value) : (lg_sl (as.map (q_rv P))).length = (lg_sl as).length := by
  induction as with
  | nil => rfl
  | cons v t ih =>
    simp only [lg_sl, List.map_cons, List.flatMap_cons, List.length_append] at ih ⊢
    rw [ih, q_rv_cat]
    split <;> rfl
theorem q_args_rv (P : (Nat → Nat) × Nat) (as : List Value) : ∀ i : Nat, lv_args i (as.map (q_rv P)) = q_rL P (lv_args i as) := by
  induction as with
  | nil => intro i; rfl
  | cons v t ih =>
    intro i
    simp only [List.map_cons, lv_args, q_rL, q_rv_cat]
    congr 1
    exact ih _
section QB
variable {p : Program} {l : Launch} {e : Env} {R : Room} {s : State} {m : MethodId} {args : Array Value} {below : List Frame} {meth : Method} {c : Code} {H : Heap} {locs : List Loc} {cells slots mc ms : Nat} {Q : State → Prop} {pc : Nat} {ls : Array Slot} {P : (Nat → Nat) × Nat} {D : va_G} {S S' : QS} {xs : List Int32} {T : List QM} {TX : List (String × Nat × String)} {M : QM} {i : Instr} {st st' : List Value} {o : QO} {L L' : QL}
/-- the end of a method that returns -/
theorem q_ret_ok {bw : Prop} (hM : q_mokG bw T TX M) (F : q_Fr P xs TX M p m c s args meth) {v : Option Value} (hcode : q_code M pc = some i) (h : q_ret M i st = some v) (hW : q_W P D S' s H) (hS : va_S (q_A P) s.heap H locs) :
    W p l e R s m args below meth c H locs cells slots (vx_MQ below (q_Qc P D (.inl v) S') (q_XC P D (.inl v) S') args s cells slots (q_A P)) (F0 m pc ls (st.map (q_rv P))) := by
  obtain ⟨F1, hlocks, hr, -, hV⟩ := F
  have hq : ∀ w : Option Value, w = v → ∀ t : State, t.heap = H → s.WarmedH t.vm → q_Qc P D (.inl v) S' args s (.returned (w.map (q_rv P))) t := fun w hw t ht hW9 => ⟨v, rfl, by rw [hw], hW.at ht hW9, hS.F ht⟩
  refine vx_ret ?_
  unfold q_ret at h
  split at h
  · split at h
    · rename_i hn
      cases h
      exact W.vret F1.1 F1.2.1 (hr.trans hn) (hq none rfl) hS.2.2 (q_decL hM hcode rfl) hlocks
    · cases h
  · split at h
    · rename_i x ty hn
      split at h
      · rename_i hnar
        cases h
        exact W.zret F1.1 F1.2.1 (hr.trans hn) hnar (hq (some (.int _)) rfl) hS.2.2 (q_decL hM hcode rfl) hlocks
      · cases h
    · cases h
  · split at h
    · rename_i x hn
      cases h
      exact W.lret F1.1 F1.2.1 (hr.trans hn) (hq (some (.long _)) rfl) hS.2.2 (q_decL hM hcode rfl) hlocks
    · cases h
  · have href : ∀ w : Value, q_tag w = 2 → (q_rv P w = .null ∨ ∃ a, q_rv P w = .ref a) := by
      intro w hw
      rcases q_tag2 hw with rfl | ⟨x, rfl⟩
      · exact Or.inl rfl
      · exact Or.inr ⟨_, rfl⟩
    split at h
    · rename_i w nm hn
      split at h
      · rename_i ht
        cases h
        exact W.aret F1.1 F1.2.1 (hr.trans hn) (Or.inl ⟨_, rfl⟩) (href _ ht) (hq (some _) rfl) hS.2.2 (q_decL hM hcode rfl) hlocks
      · cases h
    · rename_i w nm hn
      split at h
      · rename_i ht
        cases h
        exact W.aret F1.1 F1.2.1 (hr.trans hn) (Or.inr ⟨_, rfl⟩) (href _ ht) (hq (some _) rfl) hS.2.2 (q_decL hM hcode rfl) hlocks
      · cases h
    · cases h
  · cases h
/-- 'throw new E(text)' -/
theorem q_thr_ok (hl0 : l.stackTraces = false) {bw : Prop} (hM : q_mokG bw T TX M) (F : q_Fr P xs TX M p m c s args meth) (hR : 9 ≤ R.frames ∧ 100 ≤ R.locals) {f : Nat} (hcode : q_code M pc = some i) (h : q_thr M pc i st = some f) (hnoh : qm_h M = [] → ∀ x ∈ c.exceptionTable.toList, False) (hsz : ls.size = qm_l M) (hW : q_W P D S s H) (hS : va_S (q_A P) s.heap H locs) (hc : cells + 1 ≤ R.cells) (hs : slots + 6 ≤ R.slots) {n9 : Nat × Nat} :
    W p l e R s m args below meth c H locs cells slots (vx_MQ below (q_Qc P D (.inr f) (S.1 ++ [(99, 0, [])], n9)) (q_XC P D (.inr f) (S.1 ++ [(99, 0, [])], n9)) args s (cells + 1) (slots + 6) (q_A P)) (F0 m pc ls (st.map (q_rv P))) := by
  obtain ⟨F1, hlocks, hr, -, hV⟩ := F
  have hts := F1.2.2.2.2
  have hK := hM.2.2.2.2.2.2.1
  unfold q_thr at h
  split at h
  · rename_i x
    split at h
    · rename_i e9 ic z9 hlk
      split at h
      · rename_i hcond
        obtain ⟨hsum, hh, hf, hc3⟩ := hcond
        obtain ⟨-, t1, t2, t3, t4, t5, t6, t7⟩ := hK _ (q_lk_mem hlk)
        have hat : ∀ w ∈ vx_atS (qm_o M) ic (q_en e9) q_nms, w.before args s = true := vx_hat (B := [.castable (q_en e9) (q_en e9)]) (fun w hw => hts w (t3 w hw)) (fun w hw => by rw [t4 w hw]; exact List.mem_cons_self) (fun w hw => by
          rw [List.mem_singleton.mp hw]
          exact va_Nw.use rfl (hV.2.2.2.2.2.2.1 e9 hf))
        have hx : ∀ t : State, s.vm.Alike t.vm → t.heap.size = H.size + 1 → (∀ q : Nat, q < H.size → t.heap[q]? = H[q]?) → q_XC P D (.inr e9) (S.1 ++ [(99, 0, [])], n9) (q_en e9) s t := by
          intro t hal hz ho
          refine ⟨e9, rfl, hf, rfl, (hW.push hz ho ?_).moved hal, ?_, fun q h1 h2 => ?_⟩
          · unfold q_C
            rw [if_neg (by decide)]
            exact Or.inl rfl
          · rw [hz]; exact Nat.le_trans hS.1 (Nat.le_succ _)
          · rw [ho q (Nat.lt_of_lt_of_le h1 hS.1)]
            exact hS.2.1 q h1 h2
        have hsum2 : ((st.map (q_rv P)).map fun v => v.category).sum ≤ 8 := by rw [q_sum_cat]; exact hsum
        have hlen : q_nms.length = 2 := rfl
        split at h
        · rename_i z hc4
          split at h
          · rename_i hcc
            obtain ⟨hz, hc6, hc9⟩ := hcc
            cases h
            obtain ⟨tx, htx⟩ := hK _ (q_lk_mem hz)
            obtain ⟨sa, hsa⟩ := hV.2.2.2.2.2.1 _ htx
            exact q_throwS (names := q_nms) F1.1 F1.2.1 hl0 F1.2.2.2.1 t5 t6 (hts _ t1) (hts _ t2) hsa hat t7 hV.2.2.1.1 hV.2.2.1.2 hS (hsz.trans F1.2.2.1.symm) (q_decL hM hcode rfl) (q_decL hM hc3 rfl) (q_decL hM hc4 rfl) (q_decL hM hc6 rfl) (q_decL hM hc9 rfl) (fun x hx => (hnoh hh x hx).elim) (by rw [hlen]; omega) (by rw [hlen]; omega) hc hs hlocks hx hS.2.2 (Nat.le_refl _) (Nat.le_refl _)
          · cases h
        · rename_i z hc4
          split at h
          · rename_i hcc
            obtain ⟨hz, hc6, hc9⟩ := hcc
            cases h
            obtain ⟨tx, htx⟩ := hK _ (q_lk_mem hz)
            obtain ⟨sa, hsa⟩ := hV.2.2.2.2.2.1 _ htx
            exact q_throwSW (names := q_nms) F1.1 F1.2.1 hl0 F1.2.2.2.1 t5 t6 (hts _ t1) (hts _ t2) hsa hat t7 hV.2.2.1.1 hV.2.2.1.2 hS (hsz.trans F1.2.2.1.symm) (q_decL hM hcode rfl) (q_decL hM hc3 rfl) (q_decL hM hc4 rfl) (q_decL hM hc6 rfl) (q_decL hM hc9 rfl) (fun x hx => (hnoh hh x hx).elim) (by rw [hlen]; omega) (by rw [hlen]; omega) hc hs hlocks hx hS.2.2 (Nat.le_refl _) (Nat.le_refl _)
          · cases h
        · cases h
      · cases h
    · cases h
  · cases h
end QB
set_option maxHeartbeats 4000000 in
/-- THE SOUNDNESS: what the pure interpreter comes to, the machine comes to -/
theorem q_pc_ok (l : Launch) (hl0 : l.stackTraces = false) (P : (Nat → Nat) × Nat) (D : va_G) (xs : List Int32) (TX : List (String × Nat × String)) (T : List QM) (hT : ∀ (mi : Nat) (M : QM), T[mi]? = some M → q_mok T TX M) (hac : Cond.arrayClass .int ∈ wsL_law ∧ Cond.arrayClass .long ∈ wsL_law ∧ Cond.arrayClass .boolean ∈ wsL_law) (n : Nat) : ∀ d : Nat, q_CallOK l P D xs TX T d (q_pc T xs n d) := by
  intro d
  induction d with
  | zero => intro mi as S o S' h; simp [q_pc] at h
  | succ d ih =>
    intro mi as S o Sf h
    rw [q_pc] at h
    split at h
    · cases h
    · rename_i M hTM
      split at h
      · rename_i hlen
        have hmn := q_run_mono ih _ _ _ _ _ _ _ h
        refine ⟨hmn, M, hTM, hT _ _ hTM, ?_⟩
        have hM := hT _ _ hTM
        have main : ∀ (p : Program) (e : Env) (s : State) (m : MethodId) (args : Array Value) (below : List Frame) (meth : Method) (c : Code) (s₁ : State), BodyLoose p l (qm_y M) (headSpec (q_cw M :: wsL_law) ({ frames := (d + 1) + 8, cells := Sf.2.1 - S.2.1, slots := Sf.2.2 - S.2.2, locals := 60 * (d + 1) + 200 })) (qm_b M) (qm_l M) (qm_r M) e s m args below meth c s₁ → c.maxLocals = qm_l M → (qm_h M = [] → ∀ x ∈ c.exceptionTable.toList, False) → (qm_h M ≠ [] → c.exceptionTable.toList = tableOf (qm_h M)) → q_Pc P D xs TX as S args s →
            W p l e ({ frames := (d + 1) + 8, cells := Sf.2.1 - S.2.1, slots := Sf.2.2 - S.2.2, locals := 60 * (d + 1) + 200 }) s m args below meth c s.heap [] 0 0 (vx_MQ below (q_Qc P D o Sf) (q_XC P D o Sf) args s (Sf.2.1 - S.2.1) (Sf.2.2 - S.2.2) (q_A P)) (entryFrame m args (qm_l M)) := by
          intro p e s m args below meth c s₁ B hml hnoh htab hv
          obtain ⟨rfl, hWd, hV⟩ := hv
          have hts : ∀ w ∈ q_cw M :: wsL_law, w.before ((as.map (q_rv P)).toArray) s = true := atoms_spec (ws := q_cw M :: wsL_law) B.pre
          have hown : s.vm.findClass (qm_o M) = some m.cls := by rw [hM.2.1]; exact findClass_of_methodNamed B.named
          have F : q_Fr P xs TX M p m c s ((as.map (q_rv P)).toArray) meth := ⟨⟨B.exec, B.bytes, hml, hown, fun w hw => hts w (List.mem_cons_of_mem _ hw)⟩, B.notSynchronized, B.returns, fun hi => by rw [(name_of_methodNamed B.named B.method).1]; exact hM.2.2.1 hi, hV⟩
          rw [lg_entry_eq]
          have hl := lv_entry (as.map (q_rv P)) (n := qm_l M) (by rw [q_sl_len]; exact hlen)
          rw [q_args_rv] at hl
          refine q_run_ok (c0 := S.2.1) (s0 := S.2.2) hM hac F (d := d) ⟨by show d + 9 ≤ d + 1 + 8; omega, by show 60 * d + 260 ≤ 60 * (d + 1) + 200; omega⟩ ih (by show Sf.2.1 ≤ Sf.2.1 - S.2.1 + S.2.1; omega) (by show Sf.2.2 ≤ Sf.2.2 - S.2.2 + S.2.2; omega) htab ?_ ?_ ?_ n 0 _ [] S _ s.heap [] 0 0 h hl hWd va_S.rf (by omega) (by omega)
          · intro v pc i ls st H locs c1 s1 ho hcode hr hW1 hS1 hc1 hs1
            subst ho
            obtain rfl : c1 = Sf.2.1 - S.2.1 := by omega
            obtain rfl : s1 = Sf.2.2 - S.2.2 := by omega
            exact q_ret_ok hM F hcode hr hW1 hS1
          · intro f pc i ls st S1 H locs c1 s1 ho hcode hr hSf hsz hW1 hS1 hc1 hs1
            subst ho
            have e1 : Sf.2.1 - S.2.1 = c1 + 1 := by rw [hSf]; show S1.2.1 + 1 - S.2.1 = c1 + 1; omega
            have e2 : Sf.2.2 - S.2.2 = s1 + 6 := by rw [hSf]; show S1.2.2 + 6 - S.2.2 = s1 + 6; omega
            have k9 := q_thr_ok (l := l) (e := e) (below := below) (R := { frames := (d + 1) + 8, cells := Sf.2.1 - S.2.1, slots := Sf.2.2 - S.2.2, locals := 60 * (d + 1) + 200 }) (n9 := (S1.2.1 + 1, S1.2.2 + 6)) hl0 hM F ⟨by show 9 ≤ d + 1 + 8; omega, by show 100 ≤ 60 * (d + 1) + 200; omega⟩ hcode hr hnoh hsz hW1 hS1 (by show c1 + 1 ≤ Sf.2.1 - S.2.1; omega) (by show s1 + 6 ≤ Sf.2.2 - S.2.2; omega)
            rw [← e1, ← e2] at k9
            rw [hSf] at k9 ⊢
            exact k9
          · intro f q ce pc ls rest H locs c1 s1 ho hf hh hW1 hS1 hc1 hs1 hce hcv hcl
            subst ho
            exact vx_out (fun x hx => (hnoh hh x hx).elim) B.notSynchronized hce hcv hcl (fun t ht hal => ⟨f, rfl, hf, rfl, by rw [ht]; exact hW1.moved hal, hS1.F ht⟩) hS1.2.2 (by omega) (by omega)
        unfold q_Met
        by_cases hh : qm_h M = []
        · have hcw : q_cw M = Cond.code (qm_y M) (qm_b M) (qm_l M) (qm_r M) := if_pos hh
          rw [hcw] at main ⊢
          exact vx_ofW hM.1 rfl fun p e s m args below meth c s₁ B hml ht hv => main p e s m args below meth c s₁ B hml (fun _ => ht) (fun z => (z hh).elim) hv
        · have hcw : q_cw M = Cond.codeWith (qm_y M) (qm_b M) (qm_l M) (qm_r M) (qm_h M) := if_neg hh
          rw [hcw] at main ⊢
          exact vx_ofWH hM.1 rfl fun p e s m args below meth c s₁ B hml hv => main p e s m args below meth c s₁ B hml (fun z => (hh z).elim) (fun _ => vx_table (x := qm_y M) B (atoms_spec (ws := Cond.codeWith (qm_y M) (qm_b M) (qm_l M) (qm_r M) (qm_h M) :: wsL_law) B.pre _ List.mem_cons_self)) hv
      · cases h
end QV
end
section
/-! THE TABLE, I: code lists, entries of the constant pools, methods (written by wip/interp/gen_table.py). -/
def qK_X11 : QK := [(1, 4, 0, 0, 0), (9, 6, 106, 0, 0), (11, 0, 12, 0, 1), (15, 6, 104, 0, 0), (17, 0, 12, 1, 1), (21, 5, 0, 3, 0), (23, 3, 323, 0, 0), (24, 0, 12, 2, 1), (28, 0, 12, 3, 1), (31, 0, 12, 4, 1), (34, 0, 12, 5, 1), (37, 0, 12, 6, 1), (41, 0, 12, 7, 1), (44, 0, 12, 8, 1), (47, 5, 6, 3, 0), (49, 15, 57, 0, 0), (50, 0, 12, 9, 1), (54, 5, 5, 12, 0), (56, 15, 29, 0, 0), (57, 0, 12, 10, 1), (61, 0, 12, 11, 0), (65, 0, 12, 12, 0), (68, 0, 12, 13, 0), (71, 0, 12, 14, 0), (74, 0, 12, 15, 0), (77, 0, 12, 16, 0), (80, 0, 12, 17, 0), (84, 15, 95, 0, 0), (85, 15, 28, 0, 0), (86, 1, 137, 1, 12), (90, 9, 2, 0, 0), (93, 9, 3, 0, 0), (96, 11, 1, 100, 0), (98, 13, 0, 0, 0), (100, 14, 1, 0, 0), (103, 13, 0, 0, 0), (105, 0, 11, 1, 0), (108, 0, 6, 2, 0), (111, 11, 2, 115, 0), (113, 13, 0, 0, 0), (115, 14, 2, 0, 0), (116, 2, 96, 3, 0), (120, 1, 60, 1, 6), (124, 0, 11, 0, 2), (127, 1, 326, 0, 0), (130, 13, 0, 0, 0), (132, 1, 98, 0, 11), (135, 1, 138, 1, 12), (139, 13, 0, 0, 0), (141, 13, 0, 0, 0), (143, 0, 4, 0, 0), (146, 0, 4, 1, 0), (149, 0, 4, 2, 0), (152, 0, 4, 3, 0), (155, 0, 4, 4, 0), (158, 13, 0, 0, 0), (160, 0, 11, 2, 0), (163, 1, 143, 1, 12), (167, 1, 147, 1, 12), (170, 1, 327, 0, 0), (174, 13, 0, 0, 0), (176, 1, 151, 5, 12), (180, 0, 7, 0, 2), (181, 5, 7, 20, 0), (185, 1, 139, 1, 12), (189, 1, 145, 1, 12), (192, 1, 66, 0, 7), (195, 0, 7, 16, 2), (199, 0, 3, 1, 0), (202, 13, 0, 0, 0), (204, 1, 152, 4, 12), (208, 0, 7, 6, 0), (211, 13, 0, 0, 0), (213, 0, 7, 3, 0), (216, 1, 149, 2, 12), (220, 0, 3, 4, 0), (223, 1, 30, 4, 5), (227, 1, 26, 1, 3), (231, 0, 5, 0, 2), (235, 1, 92, 1, 9), (240, 13, 0, 0, 0), (242, 1, 153, 1, 12), (246, 1, 146, 1, 12), (249, 13, 0, 0, 0), (251, 1, 81, 1, 9), (255, 11, 0, 259, 0), (257, 13, 0, 0, 0), (259, 14, 0, 0, 0), (260, 7, 1000000, 0, 0), (261, 1, 9, 1, 3), (264, 1, 10, 1, 3), (267, 1, 11, 1, 3), (270, 13, 0, 0, 0), (272, 0, 7, 7, 0), (275, 13, 0, 0, 0), (277, 1, 144, 1, 12), (280, 1, 159, 1, 12), (283, 0, 7, 2, 2), (286, 1, 161, 1, 12), (289, 1, 162, 1, 12), (292, 5, 10, 6, 0), (294, 3, 94, 3, 0), (297, 0, 7, 10, 0), (300, 1, 331, 1, 0), (303, 13, 0, 0, 0), (305, 1, 329, 1, 0), (309, 0, 10, 1, 2), (313, 1, 163, 1, 12), (317, 0, 10, 5, 0), (320, 0, 10, 0, 2), (323, 1, 70, 1, 7), (326, 1, 164, 1, 12), (329, 0, 10, 3, 2), (332, 1, 36, 0, 5), (335, 0, 5, 11, 0), (336, 1, 165, 3, 12), (340, 1, 166, 2, 12), (344, 0, 7, 12, 0), (347, 5, 1, 11, 0), (349, 0, 1, 2, 2), (351, 0, 1, 5, 0), (353, 0, 1, 7, 0), (356, 1, 1, 1, 1), (359, 0, 1, 3, 2), (362, 1, 140, 1, 12), (366, 0, 1, 0, 2), (367, 0, 1, 1, 2), (370, 1, 179, 2, 12), (374, 0, 1, 10, 0), (377, 0, 1, 9, 0), (380, 0, 1, 6, 0), (381, 13, 0, 0, 0), (383, 1, 175, 0, 12), (386, 1, 176, 1, 12), (390, 1, 177, 1, 12), (394, 5, 8, 9, 0), (396, 1, 180, 1, 12), (400, 1, 142, 2, 12), (404, 0, 7, 1, 2), (407, 1, 24, 1, 3), (410, 13, 0, 0, 0), (412, 13, 0, 0, 0), (414, 0, 7, 4, 0), (417, 0, 7, 5, 2), (420, 1, 150, 5, 12), (423, 1, 17, 2, 3), (427, 1, 157, 1, 12), (430, 1, 158, 2, 12), (434, 1, 174, 1, 12), (437, 1, 172, 3, 12), (441, 13, 0, 0, 0), (443, 0, 7, 8, 0), (446, 2, 320, 2, 0), (452, 13, 0, 0, 0), (454, 1, 173, 1, 12), (458, 1, 154, 4, 12), (461, 13, 0, 0, 0), (463, 0, 7, 19, 2), (466, 1, 59, 1, 6), (469, 1, 63, 1, 6), (472, 13, 0, 0, 0), (474, 13, 0, 0, 0), (476, 3, 73, 5, 0), (479, 1, 141, 1, 12), (483, 0, 8, 5, 0), (486, 13, 0, 0, 0), (488, 1, 75, 0, 8), (491, 0, 8, 0, 2), (492, 0, 8, 1, 2), (493, 0, 8, 2, 2), (496, 2, 318, 2, 0), (499, 13, 0, 0, 0), (501, 0, 7, 11, 0), (504, 13, 0, 0, 0), (506, 13, 0, 0, 0), (508, 13, 0, 0, 0), (510, 13, 0, 0, 0), (512, 13, 0, 0, 0), (514, 13, 0, 0, 0), (516, 13, 0, 0, 0), (518, 13, 0, 0, 0), (520, 13, 0, 0, 0), (522, 13, 0, 0, 0), (524, 13, 0, 0, 0), (526, 1, 148, 1, 12), (530, 1, 97, 1, 11), (534, 3, 65, 6, 0), (537, 1, 15, 5, 3), (540, 1, 19, 1, 3), (543, 1, 156, 2, 12), (546, 1, 155, 1, 12), (550, 0, 7, 17, 2), (553, 0, 7, 18, 2), (556, 1, 67, 0, 7), (559, 1, 160, 1, 12), (562, 1, 68, 0, 7), (565, 0, 10, 2, 2), (568, 1, 69, 0, 7), (571, 0, 10, 4, 2), (573, 0, 7, 15, 0), (576, 0, 7, 14, 0), (579, 0, 5, 1, 2), (582, 0, 7, 13, 0), (585, 1, 32, 1, 5), (588, 1, 168, 4, 12), (591, 1, 71, 2, 7), (594, 1, 169, 4, 12), (597, 1, 170, 2, 12), (600, 1, 167, 2, 12), (603, 0, 9, 8, 0), (606, 1, 171, 2, 12), (609, 7, 51200, 0, 0), (610, 3, 0, 5, 0), (613, 1, 72, 1, 7), (616, 1, 83, 1, 9), (619, 0, 9, 11, 0), (622, 1, 16, 1, 3), (623, 0, 7, 9, 0), (626, 1, 27, 1, 3), (629, 1, 12, 1, 3), (632, 2, 319, 2, 0), (635, 1, 61, 1, 6), (638, 0, 1, 4, 2), (641, 1, 178, 2, 12), (645, 0, 1, 8, 0), (648, 0, 8, 7, 0), (651, 1, 182, 1, 12), (655, 0, 8, 8, 0), (658, 1, 183, 2, 12), (662, 0, 8, 4, 0), (665, 1, 74, 1, 8), (668, 1, 181, 2, 12), (671, 0, 8, 3, 2), (674, 0, 8, 6, 0)]
def qK_X0 : QK := [(1, 4, 0, 0, 0), (9, 0, 1, 5, 0), (13, 0, 1, 6, 0), (16, 0, 1, 7, 0), (19, 0, 1, 8, 0), (22, 0, 1, 9, 0), (25, 0, 1, 10, 0), (28, 0, 1, 0, 1), (32, 0, 1, 1, 1), (35, 0, 1, 2, 1), (38, 0, 1, 3, 1), (41, 0, 1, 4, 1)]
def qK_X1 : QK := [(1, 4, 0, 0, 0), (7, 0, 2, 0, 0), (13, 0, 2, 1, 0), (16, 0, 2, 2, 0), (19, 0, 2, 3, 0), (22, 0, 2, 4, 0), (25, 0, 2, 5, 0), (28, 0, 2, 6, 0), (32, 0, 2, 7, 0), (35, 0, 2, 8, 0), (38, 0, 2, 9, 0), (41, 0, 2, 10, 0), (44, 2, 319, 2, 0)]
def qK_X2 : QK := [(3, 4, 0, 0, 0), (9, 0, 3, 1, 0), (13, 0, 3, 2, 0), (16, 0, 3, 3, 0), (19, 0, 3, 4, 0), (22, 0, 3, 0, 1), (26, 1, 58, 1, 6), (32, 7, 524287, 0, 0), (33, 7, 1073741823, 0, 0), (34, 7, 1048575, 0, 0), (35, 1, 60, 1, 6), (39, 0, 6, 2, 0), (40, 1, 63, 1, 6), (44, 1, 18, 0, 3), (47, 1, 64, 2, 6), (51, 1, 9, 1, 3), (55, 1, 10, 1, 3), (58, 2, 319, 2, 0), (64, 8, 7, 0, 0), (66, 8, 17, 0, 0), (68, 1, 25, 0, 3)]
def qK_X3 : QK := [(1, 4, 0, 0, 0), (7, 0, 4, 0, 0), (13, 0, 4, 1, 0), (16, 0, 4, 2, 0), (19, 0, 4, 3, 0), (22, 0, 4, 4, 0)]
def qK_X4 : QK := [(1, 4, 0, 0, 0), (7, 5, 9, 14, 0), (9, 3, 76, 0, 0), (10, 0, 5, 0, 1), (16, 5, 3, 5, 0), (18, 5, 6, 3, 0), (20, 15, 57, 0, 0), (21, 3, 8, 1, 0), (24, 0, 5, 1, 1), (28, 0, 5, 2, 0), (31, 0, 5, 3, 0), (35, 0, 5, 4, 0), (39, 0, 5, 5, 0), (42, 0, 5, 6, 0), (45, 0, 5, 7, 0), (49, 0, 5, 8, 0), (52, 0, 5, 9, 0), (55, 0, 5, 10, 0), (59, 0, 5, 11, 0), (62, 1, 31, 3, 5), (66, 0, 9, 10, 0), (69, 1, 33, 0, 5), (73, 0, 9, 11, 0), (76, 1, 21, 1, 3), (80, 0, 3, 1, 0), (83, 1, 9, 1, 3), (86, 1, 10, 1, 3), (89, 1, 11, 1, 3), (92, 1, 38, 3, 5), (96, 1, 45, 0, 5), (99, 1, 35, 0, 5), (102, 0, 7, 16, 2), (105, 0, 7, 14, 0), (106, 0, 7, 15, 0), (107, 1, 77, 0, 9), (110, 1, 16, 1, 3), (114, 0, 9, 12, 0), (117, 0, 9, 13, 0), (120, 0, 9, 9, 0), (123, 1, 22, 1, 3), (126, 1, 34, 1, 5), (129, 1, 82, 2, 9), (133, 1, 86, 2, 9), (137, 1, 83, 1, 9), (141, 1, 60, 1, 6), (145, 0, 9, 8, 0), (148, 1, 41, 0, 5), (151, 1, 91, 1, 9), (155, 1, 40, 1, 5), (159, 1, 39, 3, 5), (163, 0, 2, 7, 0), (168, 0, 2, 4, 0), (171, 1, 5, 1, 2), (174, 1, 59, 1, 6), (177, 1, 42, 1, 5), (180, 0, 9, 5, 0), (183, 1, 84, 1, 9), (186, 0, 2, 5, 0), (189, 0, 2, 6, 0), (192, 1, 7, 0, 2), (195, 0, 2, 8, 0), (198, 1, 44, 3, 5), (202, 0, 2, 10, 0), (205, 1, 79, 1, 9), (208, 1, 80, 1, 9), (211, 0, 2, 0, 0), (214, 1, 87, 1, 9), (217, 1, 81, 1, 9), (220, 1, 37, 0, 5), (224, 1, 20, 4, 3), (228, 0, 3, 4, 0), (231, 1, 23, 1, 3), (234, 1, 15, 5, 3), (238, 1, 88, 0, 9), (242, 1, 46, 1, 5), (245, 0, 6, 2, 0), (246, 1, 43, 1, 5), (249, 7, 1000000, 0, 0), (250, 1, 47, 4, 5), (254, 1, 48, 3, 5), (257, 1, 53, 4, 5), (260, 1, 55, 4, 5), (263, 1, 61, 1, 6), (266, 1, 4, 2, 2), (269, 1, 49, 2, 5), (273, 1, 50, 2, 5), (277, 1, 51, 1, 5), (280, 1, 52, 0, 5), (283, 1, 78, 2, 9), (286, 1, 85, 1, 9), (289, 0, 2, 3, 0), (292, 0, 2, 1, 0), (295, 1, 93, 1, 9), (298, 0, 2, 9, 0), (301, 0, 9, 4, 0), (304, 1, 54, 1, 5), (307, 1, 56, 1, 5), (311, 1, 13, 1, 3), (314, 1, 6, 0, 2), (317, 0, 9, 7, 0)]
def qK_X5 : QK := [(3, 4, 0, 0, 0), (9, 6, 108, 0, 0), (11, 0, 6, 0, 0), (15, 0, 6, 1, 0), (19, 0, 6, 2, 0), (22, 1, 58, 1, 6), (26, 1, 62, 2, 6), (30, 2, 319, 2, 0), (36, 2, 320, 2, 0), (39, 2, 335, 2, 0), (45, 1, 60, 1, 6)]
def qK_X6 : QK := [(3, 4, 0, 0, 0), (9, 0, 7, 6, 0), (15, 0, 7, 7, 0), (18, 0, 7, 8, 0), (21, 0, 7, 9, 0), (24, 0, 7, 10, 0), (27, 0, 7, 11, 0), (30, 0, 7, 12, 0), (33, 0, 7, 13, 0), (36, 0, 7, 14, 0), (39, 0, 7, 15, 0), (42, 5, 3, 5, 0), (44, 5, 6, 3, 0), (46, 15, 57, 0, 0), (47, 3, 8, 1, 0), (50, 0, 7, 16, 1), (54, 0, 7, 17, 1), (58, 0, 7, 18, 1), (61, 0, 7, 19, 1), (64, 0, 7, 0, 1), (67, 0, 7, 1, 1), (70, 0, 7, 2, 1), (73, 0, 7, 3, 0), (76, 0, 7, 4, 0), (79, 0, 7, 5, 1), (82, 0, 3, 2, 0), (85, 0, 3, 4, 0), (88, 1, 25, 0, 3), (92, 1, 14, 1, 3), (96, 0, 3, 3, 0), (99, 1, 69, 0, 7), (102, 1, 60, 1, 6), (106, 0, 6, 2, 0), (109, 1, 59, 1, 6), (112, 1, 61, 1, 6)]
def qK_X7 : QK := [(1, 4, 0, 0, 0), (7, 0, 8, 5, 0), (13, 0, 8, 6, 0), (17, 0, 8, 7, 0), (20, 0, 8, 8, 0), (23, 0, 8, 0, 1), (26, 0, 8, 1, 1), (29, 0, 8, 2, 1), (32, 0, 8, 3, 1), (35, 0, 8, 4, 0), (38, 2, 318, 2, 0)]
def qK_X8 : QK := [(3, 4, 0, 0, 0), (9, 0, 9, 0, 1), (15, 6, 103, 0, 0), (17, 0, 9, 1, 1), (21, 6, 105, 0, 0), (23, 0, 9, 2, 1), (27, 15, 57, 0, 0), (28, 0, 9, 3, 1), (32, 0, 9, 4, 0), (36, 0, 9, 5, 0), (39, 0, 9, 6, 0), (42, 0, 9, 7, 0), (45, 0, 9, 8, 0), (49, 0, 9, 9, 0), (52, 0, 9, 10, 0), (55, 0, 9, 11, 0), (58, 0, 9, 12, 0), (61, 0, 9, 13, 0), (64, 15, 2, 0, 0), (65, 2, 332, 2, 0), (71, 1, 63, 1, 6), (75, 8, 10000, 0, 0), (77, 1, 60, 1, 6), (81, 0, 6, 2, 0), (84, 1, 58, 1, 6), (88, 2, 318, 2, 0), (94, 0, 2, 0, 0), (97, 1, 3, 3, 2), (101, 0, 2, 2, 0), (104, 1, 89, 1, 9), (108, 0, 2, 7, 0), (111, 0, 2, 8, 0), (114, 1, 83, 1, 9), (118, 1, 90, 1, 9), (122, 0, 2, 1, 0), (125, 1, 7, 0, 2), (129, 0, 2, 9, 0), (132, 1, 85, 1, 9)]
def qK_X9 : QK := [(1, 4, 0, 0, 0), (7, 0, 10, 5, 0), (13, 0, 10, 0, 1), (17, 0, 10, 1, 1), (21, 0, 10, 2, 1), (24, 0, 7, 16, 2), (30, 0, 3, 2, 0), (35, 0, 10, 3, 1), (36, 1, 69, 0, 7), (40, 0, 10, 4, 1)]
def qK_X10 : QK := [(1, 4, 0, 0, 0), (7, 5, 0, 3, 0), (9, 3, 323, 0, 0), (10, 0, 11, 0, 1), (16, 5, 6, 3, 0), (18, 15, 57, 0, 0), (19, 0, 11, 1, 0), (23, 0, 11, 2, 0), (27, 7, 1000000, 0, 0), (28, 1, 326, 0, 0), (32, 1, 329, 1, 0), (36, 1, 331, 1, 0)]
def qK_L : QK := [(7, 1, 100, 4, 12), (8, 5, 12, 18, 0), (13, 12, 0, 0, 0), (15, 12, 1, 0, 0), (17, 12, 2, 0, 0), (19, 1, 101, 1, 12), (23, 1, 102, 6, 12), (27, 1, 103, 2, 12), (31, 1, 104, 3, 12), (35, 1, 105, 3, 12), (38, 1, 106, 3, 12), (42, 1, 107, 1, 12), (46, 1, 108, 2, 12), (49, 1, 109, 2, 12), (52, 1, 110, 1, 12), (55, 1, 111, 2, 12), (58, 1, 112, 1, 12), (61, 1, 114, 1, 12), (64, 1, 115, 1, 12), (67, 1, 116, 1, 12), (70, 1, 117, 1, 12), (73, 1, 118, 1, 12), (76, 1, 119, 1, 12), (79, 1, 120, 2, 12), (83, 1, 121, 2, 12), (87, 1, 122, 2, 12), (90, 1, 123, 1, 12), (93, 1, 124, 1, 12), (96, 1, 125, 2, 12), (99, 1, 126, 2, 12), (102, 1, 127, 2, 12), (105, 1, 128, 2, 12), (108, 1, 129, 0, 12), (112, 1, 130, 0, 12), (115, 1, 131, 4, 12), (118, 1, 132, 1, 12), (121, 1, 133, 2, 12), (124, 1, 134, 1, 12), (127, 1, 135, 1, 12), (130, 1, 136, 1, 12), (133, 3, 99, 0, 0), (134, 5, 13, 130, 0), (136, 3, 184, 0, 0), (137, 2, 340, 6, 0), (142, 1, 199, 4, 13), (143, 1, 185, 0, 13), (146, 2, 341, 3, 0), (149, 1, 200, 1, 13), (150, 2, 342, 7, 0), (153, 1, 201, 6, 13), (154, 2, 343, 4, 0), (157, 1, 202, 2, 13), (158, 2, 344, 5, 0), (161, 1, 258, 3, 13), (162, 2, 345, 5, 0), (164, 1, 260, 3, 13), (165, 2, 346, 5, 0), (167, 1, 262, 3, 13), (168, 2, 347, 3, 0), (170, 1, 263, 1, 13), (171, 2, 348, 4, 0), (173, 1, 265, 2, 13), (174, 2, 349, 4, 0), (176, 1, 266, 2, 13), (177, 2, 350, 3, 0), (179, 1, 267, 1, 13), (180, 2, 351, 4, 0), (182, 1, 268, 2, 13), (183, 2, 352, 3, 0), (185, 1, 269, 1, 13), (186, 1, 113, 0, 12), (189, 1, 270, 0, 13), (190, 2, 353, 3, 0), (192, 1, 271, 1, 13), (193, 2, 354, 3, 0), (195, 1, 276, 1, 13), (196, 2, 355, 3, 0), (198, 1, 279, 1, 13), (199, 2, 356, 3, 0), (201, 1, 282, 1, 13), (202, 2, 357, 3, 0), (204, 1, 283, 1, 13), (205, 2, 358, 3, 0), (207, 1, 284, 1, 13), (208, 2, 359, 4, 0), (210, 1, 286, 2, 13), (211, 2, 360, 4, 0), (214, 1, 288, 2, 13), (215, 2, 361, 4, 0), (217, 1, 289, 2, 13), (218, 2, 362, 3, 0), (220, 1, 290, 1, 13), (221, 2, 363, 3, 0), (223, 1, 293, 1, 13), (224, 2, 364, 4, 0), (226, 1, 295, 2, 13), (227, 2, 365, 4, 0), (229, 1, 296, 2, 13), (230, 2, 366, 4, 0), (232, 1, 301, 2, 13), (233, 2, 367, 4, 0), (235, 1, 302, 2, 13), (236, 2, 368, 2, 0), (239, 1, 304, 0, 13), (240, 2, 369, 2, 0), (242, 1, 305, 0, 13), (243, 2, 370, 6, 0), (245, 1, 307, 4, 13), (246, 2, 371, 3, 0), (248, 1, 313, 1, 13), (249, 2, 372, 4, 0), (251, 1, 314, 2, 13), (252, 2, 373, 3, 0), (254, 1, 315, 1, 13), (255, 2, 374, 3, 0), (257, 1, 316, 1, 13), (258, 2, 375, 3, 0), (260, 1, 317, 1, 13)]
def qK_X12 : QK := [(1, 4, 0, 0, 0), (7, 0, 13, 1, 1), (13, 0, 13, 2, 1), (16, 0, 13, 3, 1), (19, 0, 13, 4, 1), (22, 0, 13, 5, 1), (25, 0, 13, 6, 1), (28, 0, 13, 7, 1), (31, 0, 13, 8, 1), (34, 0, 13, 9, 1), (37, 0, 13, 10, 1), (40, 0, 13, 11, 1), (43, 0, 13, 13, 1), (46, 0, 13, 14, 1), (49, 0, 13, 15, 1), (52, 0, 13, 16, 1), (55, 0, 13, 17, 1), (58, 0, 13, 18, 1), (61, 0, 13, 19, 1), (64, 0, 13, 20, 1), (67, 0, 13, 21, 1), (70, 0, 13, 22, 1), (73, 0, 13, 23, 1), (76, 0, 13, 24, 1), (79, 0, 13, 25, 1), (82, 0, 13, 26, 1), (85, 0, 13, 27, 1), (88, 7, 1310720, 0, 0), (89, 0, 13, 28, 1), (93, 0, 13, 30, 0), (97, 7, 61440, 0, 0), (98, 0, 13, 31, 1), (101, 0, 13, 33, 1), (104, 0, 13, 35, 1), (107, 0, 13, 36, 1), (110, 0, 13, 37, 1), (113, 0, 13, 38, 1), (116, 0, 13, 39, 1), (119, 0, 13, 40, 1), (122, 0, 13, 41, 1), (125, 0, 13, 42, 1), (128, 0, 13, 43, 1), (131, 0, 13, 44, 1), (134, 0, 13, 45, 1), (137, 0, 13, 47, 1), (140, 0, 13, 48, 1), (143, 0, 13, 49, 1), (146, 0, 13, 50, 0), (149, 0, 13, 52, 1), (152, 0, 13, 53, 1), (155, 0, 13, 54, 1), (158, 0, 13, 55, 1), (161, 0, 13, 56, 1), (164, 0, 13, 57, 1), (167, 0, 13, 58, 1), (170, 0, 13, 59, 1), (174, 0, 13, 60, 1), (177, 0, 13, 61, 1), (180, 0, 13, 62, 1), (183, 0, 13, 63, 1), (186, 0, 13, 64, 1), (189, 0, 13, 65, 1), (192, 0, 13, 66, 1), (195, 0, 13, 67, 1), (198, 0, 13, 70, 1), (201, 0, 13, 71, 1), (204, 0, 13, 72, 1), (207, 0, 13, 73, 1), (210, 0, 13, 74, 1), (213, 0, 13, 75, 1), (216, 0, 13, 76, 1), (219, 0, 13, 77, 1), (222, 0, 13, 78, 1), (225, 7, 1048576, 0, 0), (226, 0, 13, 81, 1), (229, 0, 13, 82, 1), (232, 0, 13, 85, 1), (235, 0, 13, 86, 1), (238, 0, 13, 87, 1), (241, 0, 13, 90, 1), (244, 0, 13, 93, 1), (247, 0, 13, 94, 1), (250, 0, 13, 95, 1), (253, 0, 13, 96, 1), (256, 0, 13, 97, 1), (259, 0, 13, 98, 1), (262, 0, 13, 99, 1), (265, 0, 13, 100, 1), (268, 0, 13, 101, 1), (271, 7, 196608, 0, 0), (272, 0, 13, 102, 1), (275, 0, 13, 104, 1), (278, 0, 13, 106, 1), (281, 0, 13, 107, 1), (284, 0, 13, 108, 1), (287, 0, 13, 109, 1), (290, 7, 65536, 0, 0), (291, 0, 13, 121, 1), (294, 0, 13, 122, 1), (297, 0, 13, 127, 1), (300, 0, 13, 128, 1), (303, 0, 13, 129, 0), (306, 2, 188, 3, 0), (310, 0, 13, 12, 0), (313, 2, 191, 1, 0), (317, 2, 197, 1, 0), (321, 2, 198, 1, 0), (324, 1, 186, 1, 13), (327, 2, 196, 2, 0), (331, 1, 203, 2, 13), (334, 8, 524287, 0, 0), (336, 8, 536870911, 0, 0), (338, 2, 190, 2, 0), (341, 1, 204, 2, 13), (344, 1, 206, 2, 13), (347, 1, 208, 3, 13), (351, 0, 13, 32, 0), (354, 0, 13, 29, 0), (357, 0, 13, 0, 0), (360, 1, 210, 4, 13), (364, 1, 211, 2, 13), (368, 0, 13, 91, 0), (371, 0, 13, 112, 0), (374, 0, 13, 114, 0), (378, 0, 13, 115, 0), (381, 0, 13, 116, 0), (384, 0, 13, 124, 0), (387, 0, 13, 88, 0), (390, 0, 13, 125, 0), (393, 1, 219, 0, 13), (397, 1, 205, 2, 13), (400, 1, 218, 1, 13), (404, 0, 13, 117, 0), (407, 0, 13, 119, 0), (410, 1, 222, 0, 13), (413, 1, 220, 0, 13), (416, 0, 13, 120, 0), (419, 1, 217, 0, 13), (422, 0, 13, 92, 0), (425, 1, 221, 3, 13), (429, 1, 225, 2, 13), (433, 1, 224, 1, 13), (436, 1, 228, 1, 13), (439, 1, 216, 0, 13), (443, 1, 227, 1, 13), (446, 1, 230, 2, 13), (449, 1, 215, 1, 13), (452, 1, 231, 1, 13), (455, 1, 223, 2, 13), (458, 0, 13, 105, 0), (461, 1, 235, 4, 13), (465, 0, 13, 110, 0), (468, 1, 229, 1, 13), (471, 0, 13, 89, 0), (474, 1, 233, 2, 13), (477, 1, 232, 1, 13), (480, 1, 240, 4, 13), (483, 0, 13, 103, 0), (486, 1, 236, 1, 13), (489, 1, 226, 1, 13), (492, 1, 237, 3, 13), (494, 0, 13, 118, 0), (497, 1, 238, 1, 13), (500, 1, 234, 1, 13), (503, 0, 13, 113, 0), (506, 1, 241, 1, 13), (509, 1, 243, 1, 13), (512, 1, 239, 1, 13), (515, 1, 244, 1, 13), (518, 0, 13, 111, 0), (521, 1, 207, 2, 13), (524, 1, 246, 0, 13), (527, 1, 245, 3, 13), (530, 1, 242, 0, 13), (533, 0, 13, 126, 0), (536, 0, 13, 123, 0), (539, 1, 247, 1, 13), (542, 1, 248, 1, 13), (545, 1, 249, 5, 13), (549, 0, 13, 34, 0), (552, 0, 13, 46, 0), (555, 1, 253, 1, 13), (558, 1, 214, 1, 13), (561, 1, 213, 1, 13), (564, 1, 254, 1, 13), (567, 1, 256, 2, 13), (570, 2, 192, 1, 0), (573, 2, 194, 1, 0), (576, 1, 212, 6, 13), (580, 1, 193, 1, 13), (583, 2, 259, 1, 0), (586, 1, 250, 2, 13), (589, 1, 261, 2, 13), (592, 1, 264, 2, 13), (595, 7, 1000000, 0, 0), (596, 1, 187, 1, 13), (599, 0, 13, 51, 0), (602, 1, 272, 1, 13), (605, 2, 275, 1, 0), (608, 1, 273, 1, 13), (611, 1, 274, 1, 13), (614, 1, 277, 1, 13), (617, 1, 278, 2, 13), (620, 1, 280, 5, 13), (623, 1, 251, 4, 13), (626, 1, 252, 3, 13), (629, 1, 255, 2, 13), (632, 0, 13, 80, 0), (635, 1, 257, 3, 13), (639, 1, 281, 2, 13), (642, 1, 285, 1, 13), (645, 1, 287, 2, 13), (649, 1, 291, 0, 13), (652, 1, 292, 0, 13), (655, 0, 13, 69, 0), (658, 1, 311, 1, 13), (661, 1, 294, 2, 13), (664, 1, 297, 1, 13), (667, 1, 298, 1, 13), (670, 1, 300, 2, 13), (673, 1, 209, 1, 13), (676, 1, 299, 1, 13), (679, 2, 189, 2, 0), (682, 0, 13, 84, 0), (685, 0, 13, 83, 0), (688, 1, 303, 1, 13), (691, 0, 13, 68, 0), (694, 1, 308, 2, 13), (697, 1, 309, 1, 13), (700, 1, 310, 2, 13), (703, 2, 195, 1, 0), (706, 1, 312, 2, 13), (709, 1, 306, 1, 13), (712, 0, 13, 79, 0)]
def qK_Jxa1e45 : QK := [(1, 4, 0, 0, 0)]
def qK_Jxc12de : QK := [(1, 3, 321, 0, 0), (7, 0, 0, 0, 0)]
def qK_Jx4a65c : QK := [(1, 3, 322, 0, 0), (7, 6, 107, 0, 0), (9, 0, 0, 1, 0), (39, 9, 1, 0, 0), (48, 0, 0, 2, 0), (63, 0, 0, 0, 0), (66, 2, 333, 2, 0), (69, 1, 324, 1, 0), (73, 2, 337, 3, 0), (79, 2, 319, 2, 0), (118, 2, 336, 2, 0), (123, 1, 328, 1, 0), (129, 1, 325, 0, 0), (131, 1, 330, 3, 0)]
def qK_J7 : QK := [(2, 6, 107, 0, 0), (300, 2, 334, 3, 0), (304, 2, 320, 2, 0)]
def qK_J15 : QK := [(105, 2, 339, 3, 0)]
def qK_J8 : QK := [(194, 2, 319, 2, 0), (200, 7, 2147483639, 0, 0), (201, 2, 338, 2, 0)]
def qK_J3 : QK := []
def qK_J9 : QK := []
def qC_X0_init_0 : List (Nat × Instr) := [(0, .aload_n 0), (1, .invokespecial 1), (4, .aload_n 0), (5, .iconst 0), (6, .putfield 9), (9, .aload_n 0), (10, .iconst 0), (11, .putfield 13), (14, .aload_n 0), (15, .iconst 0), (16, .putfield 16), (19, .aload_n 0), (20, .iconst 0), (21, .putfield 19), (24, .aload_n 0), (25, .iconst 0), (26, .putfield 22), (29, .aload_n 0), (30, .iconst 0), (31, .putfield 25), (34, .aload_n 0), (35, .aload_n 1), (36, .putfield 28), (39, .aload_n 0), (40, .iload_n 2), (41, .putfield 32), (44, .aload_n 0), (45, .iload_n 3), (46, .putfield 35), (49, .aload_n 0), (50, .iload 4), (52, .putfield 38), (55, .aload_n 0), (56, .iload 5), (58, .putfield 41), (61, .return_)]
def qM_X0_init : QM := (yX0_init, cX0_init, 6, none, RX0, true, [], qK_X0, qC_X0_init_0)
def qC_X0_beTaken_0 : List (Nat × Instr) := [(0, .aload_n 0), (1, .iconst 1), (2, .putfield 9), (5, .aload_n 0), (6, .dup), (7, .getfield 13), (10, .iconst 1), (11, .iadd), (12, .putfield 13), (15, .aload_n 0), (16, .iload_n 1), (17, .putfield 19), (20, .aload_n 0), (21, .iload_n 1), (22, .putfield 22), (25, .return_)]
def qM_X0_beTaken : QM := (yX0_beTaken, cX0_beTaken, 2, none, RX0, false, [], qK_X0, qC_X0_beTaken_0)
def qC_X1_init_0 : List (Nat × Instr) := [(0, .aload_n 0), (1, .invokespecial 1), (4, .aload_n 0), (5, .iconst 0), (6, .putfield 7), (9, .aload_n 0), (10, .iconst (-1)), (11, .putfield 13), (14, .aload_n 0), (15, .iconst (-1)), (16, .putfield 16), (19, .aload_n 0), (20, .iconst (-1)), (21, .putfield 19), (24, .aload_n 0), (25, .iconst 0), (26, .putfield 22), (29, .aload_n 0), (30, .iconst 0), (31, .putfield 25), (34, .aload_n 0), (35, .iconst 0), (36, .putfield 28), (39, .aload_n 0), (40, .iconst 0), (41, .putfield 32), (44, .aload_n 0), (45, .iconst 0), (46, .putfield 35), (49, .aload_n 0), (50, .iconst 0), (51, .putfield 38), (54, .aload_n 0), (55, .iconst 0), (56, .putfield 41), (59, .return_)]
def qM_X1_init : QM := (yX1_init, cX1_init, 1, none, RX1, true, [], qK_X1, qC_X1_init_0)
def qC_X1_start_0 : List (Nat × Instr) := [(0, .aload_n 0), (1, .iload_n 1), (2, .putfield 7), (5, .aload_n 0), (6, .iload_n 2), (7, .putfield 13), (10, .aload_n 0), (11, .iload_n 2), (12, .putfield 16), (15, .aload_n 0), (16, .iconst (-1)), (17, .putfield 19), (20, .aload_n 0), (21, .iload_n 3), (22, .putfield 22), (25, .aload_n 0), (26, .iconst 0), (27, .putfield 25), (30, .aload_n 0), (31, .iconst 0), (32, .putfield 28), (35, .aload_n 0), (36, .iconst 0), (37, .putfield 32), (40, .aload_n 0), (41, .iconst 0), (42, .putfield 35), (45, .aload_n 0), (46, .iconst 0), (47, .putfield 38), (50, .aload_n 0), (51, .iconst 0), (52, .putfield 41), (55, .return_)]
def qM_X1_start : QM := (yX1_start, cX1_start, 4, none, RX1, false, [], qK_X1, qC_X1_start_0)
def qC_X1_waitFor_0 : List (Nat × Instr) := [(0, .aload_n 0), (1, .iload_n 1), (2, .putfield 32), (5, .aload_n 0), (6, .iload_n 2), (7, .putfield 35), (10, .return_)]
def qM_X1_waitFor : QM := (yX1_waitFor, cX1_waitFor, 3, none, RX1, false, [], qK_X1, qC_X1_waitFor_0)
def qC_X1_goOnAt_0 : List (Nat × Instr) := [(0, .aload_n 0), (1, .iconst 0), (2, .putfield 32), (5, .aload_n 0), (6, .iload_n 1), (7, .putfield 22), (10, .return_)]
def qM_X1_goOnAt : QM := (yX1_goOnAt, cX1_goOnAt, 2, none, RX1, false, [], qK_X1, qC_X1_goOnAt_0)
def qC_X1_isBare_0 : List (Nat × Instr) := [(0, .aload_n 0), (1, .iconst 0), (2, .aload_n 0), (3, .getfield 25), (6, .iconst 1), (7, .isub), (8, .invokestatic 44), (11, .putfield 25), (14, .aload_n 0), (15, .getfield 28), (18, .ifCond .eq 14), (21, .aload_n 0), (22, .getfield 25), (25, .ifCond .ne 7), (28, .iconst 1), (29, .goto 4), (32, .iconst 0), (33, .istore_n 1), (34, .aload_n 0), (35, .aload_n 0), (36, .getfield 28), (39, .ifCond .eq 11), (42, .iload_n 1), (43, .ifCond .ne 7), (46, .iconst 1), (47, .goto 4), (50, .iconst 0), (51, .putfield 28), (54, .iload_n 1), (55, .ireturn)]
def qM_X1_isBare : QM := (yX1_isBare, cX1_isBare, 2, (some .boolean), RX1, false, [], qK_X1, qC_X1_isBare_0)
def qC_X1_waitsForEvent_0 : List (Nat × Instr) := [(0, .aload_n 0), (1, .getfield 32), (4, .iconst 1), (5, .if_icmp .eq 11), (8, .aload_n 0), (9, .getfield 32), (12, .iconst 2), (13, .if_icmp .ne 7), (16, .iconst 1), (17, .goto 4), (20, .iconst 0), (21, .ireturn)]
def qM_X1_waitsForEvent : QM := (yX1_waitsForEvent, cX1_waitsForEvent, 1, (some .boolean), RX1, false, [], qK_X1, qC_X1_waitsForEvent_0)
def qC_X2_init_0 : List (Nat × Instr) := [(0, .aload_n 0), (1, .invokespecial 3), (4, .aload_n 0), (5, .iconst 0), (6, .putfield 9), (9, .aload_n 0), (10, .iconst 0), (11, .putfield 13), (14, .aload_n 0), (15, .iconst 0), (16, .putfield 16), (19, .aload_n 0), (20, .iconst 0), (21, .putfield 19), (24, .aload_n 0), (25, .aload_n 1), (26, .putfield 22), (29, .return_)]
def qM_X2_init : QM := (yX2_init, cX2_init, 2, none, RX2, true, [], qK_X2, qC_X2_init_0)
def qC_X2_kind_0 : List (Nat × Instr) := [(0, .aload_n 0), (1, .getfield 22), (4, .iload_n 1), (5, .invokevirtual 26), (8, .bipush 59), (10, .lushr), (11, .l2i), (12, .ireturn)]
def qM_X2_kind : QM := (yX2_kind, cX2_kind, 2, (some .int), RX2, false, [], qK_X2, qC_X2_kind_0)
def qC_X2_x_0 : List (Nat × Instr) := [(0, .aload_n 0), (1, .getfield 22), (4, .iload_n 1), (5, .invokevirtual 26), (8, .bipush 40), (10, .lushr), (11, .l2i), (12, .ldc 32), (14, .iand), (15, .ireturn)]
def qM_X2_x : QM := (yX2_x, cX2_x, 2, (some .int), RX2, false, [], qK_X2, qC_X2_x_0)
def qC_X2_y_0 : List (Nat × Instr) := [(0, .aload_n 0), (1, .getfield 22), (4, .iload_n 1), (5, .invokevirtual 26), (8, .bipush 30), (10, .lushr), (11, .l2i), (12, .sipush 1023), (15, .iand), (16, .ireturn)]
def qM_X2_y : QM := (yX2_y, cX2_y, 2, (some .int), RX2, false, [], qK_X2, qC_X2_y_0)
def qC_X2_timeOfCommand_0 : List (Nat × Instr) := [(0, .aload_n 0), (1, .getfield 22), (4, .iload_n 1), (5, .invokevirtual 26), (8, .l2i), (9, .ldc 33), (11, .iand), (12, .ireturn)]
def qM_X2_timeOfCommand : QM := (yX2_timeOfCommand, cX2_timeOfCommand, 2, (some .int), RX2, false, [], qK_X2, qC_X2_timeOfCommand_0)
def qC_X2_clockOfArrival_0 : List (Nat × Instr) := [(0, .aload_n 0), (1, .getfield 22), (4, .iload_n 1), (5, .invokevirtual 26), (8, .l2i), (9, .sipush 1023), (12, .iand), (13, .ireturn)]
def qM_X2_clockOfArrival : QM := (yX2_clockOfArrival, cX2_clockOfArrival, 2, (some .int), RX2, false, [], qK_X2, qC_X2_clockOfArrival_0)
def qC_X2_orderOfArrival_0 : List (Nat × Instr) := [(0, .aload_n 0), (1, .getfield 22), (4, .iload_n 1), (5, .invokevirtual 26), (8, .bipush 10), (10, .lushr), (11, .l2i), (12, .ldc 34), (14, .iand), (15, .ireturn)]
def qM_X2_orderOfArrival : QM := (yX2_orderOfArrival, cX2_orderOfArrival, 2, (some .int), RX2, false, [], qK_X2, qC_X2_orderOfArrival_0)
def qC_X2_put_0 : List (Nat × Instr) := [(0, .iload 4), (2, .istore 6), (4, .iload_n 1), (5, .bipush 7), (7, .if_icmp .gt 20), (10, .iload 5), (12, .ldc 34), (14, .iand), (15, .bipush 10), (17, .ishl), (18, .iload 4), (20, .sipush 1000), (23, .irem), (24, .ior), (25, .istore 6), (27, .aload_n 0), (28, .getfield 22), (31, .iload_n 1), (32, .i2l), (33, .bipush 59), (35, .lshl), (36, .iload_n 2), (37, .ldc 32), (39, .iand), (40, .i2l), (41, .bipush 40), (43, .lshl), (44, .lor), (45, .iload_n 3), (46, .sipush 1023), (49, .iand), (50, .i2l), (51, .bipush 30), (53, .lshl), (54, .lor), (55, .iload 6), (57, .ldc 33), (59, .iand), (60, .i2l), (61, .lor), (62, .invokevirtual 35), (65, .aload_n 0), (66, .aload_n 0), (67, .getfield 22), (70, .getfield 39), (73, .putfield 9), (76, .iload_n 1), (77, .bipush 7), (79, .if_icmp .gt 16), (82, .aload_n 0), (83, .dup), (84, .getfield 13), (87, .iconst 1), (88, .iadd), (89, .putfield 13), (92, .goto 24), (95, .iload_n 1), (96, .bipush 17), (98, .if_icmp .ne 18), (101, .aload_n 0)]
def qC_X2_put_1 : List (Nat × Instr) := [(102, .dup), (103, .getfield 16), (106, .iconst 1), (107, .iadd), (108, .putfield 16), (111, .aload_n 0), (112, .iload_n 2), (113, .putfield 19), (116, .return_)]
def qM_X2_put : QM := (yX2_put, cX2_put, 7, none, RX2, false, [], qK_X2, qC_X2_put_0 ++ qC_X2_put_1)
def qC_X2_cut_0 : List (Nat × Instr) := [(0, .aload_n 0), (1, .getfield 22), (4, .iload_n 1), (5, .invokevirtual 40), (8, .aload_n 0), (9, .invokevirtual 44), (12, .return_)]
def qM_X2_cut : QM := (yX2_cut, cX2_cut, 2, none, RX2, false, [], qK_X2, qC_X2_cut_0)
def qC_X2_becomeFirst_0 : List (Nat × Instr) := [(0, .aload_n 0), (1, .getfield 22), (4, .aload_n 1), (5, .getfield 22), (8, .iload_n 2), (9, .invokevirtual 47), (12, .aload_n 0), (13, .invokevirtual 44), (16, .return_)]
def qM_X2_becomeFirst : QM := (yX2_becomeFirst, cX2_becomeFirst, 3, none, RX2, false, [], qK_X2, qC_X2_becomeFirst_0)
def qC_X2_countAgain_0 : List (Nat × Instr) := [(0, .aload_n 0), (1, .aload_n 0), (2, .getfield 22), (5, .getfield 39), (8, .putfield 9), (11, .aload_n 0), (12, .iconst 0), (13, .putfield 13), (16, .aload_n 0), (17, .iconst 0), (18, .putfield 16), (21, .aload_n 0), (22, .iconst 0), (23, .putfield 19), (26, .iconst 0), (27, .istore_n 1), (28, .iload_n 1), (29, .aload_n 0), (30, .getfield 9), (33, .if_icmp .ge 59), (36, .aload_n 0), (37, .iload_n 1), (38, .invokevirtual 51), (41, .istore_n 2), (42, .iload_n 2), (43, .bipush 7), (45, .if_icmp .gt 16), (48, .aload_n 0), (49, .dup), (50, .getfield 13), (53, .iconst 1), (54, .iadd), (55, .putfield 13), (58, .goto 28), (61, .iload_n 2), (62, .bipush 17), (64, .if_icmp .ne 22), (67, .aload_n 0), (68, .dup), (69, .getfield 16), (72, .iconst 1), (73, .iadd), (74, .putfield 16), (77, .aload_n 0), (78, .aload_n 0), (79, .iload_n 1), (80, .invokevirtual 55), (83, .putfield 19), (86, .iinc 1 1), (89, .goto (-61)), (92, .return_)]
def qM_X2_countAgain : QM := (yX2_countAgain, cX2_countAgain, 3, none, RX2, false, [], qK_X2, qC_X2_countAgain_0)
def qC_X2_has_0 : List (Nat × Instr) := [(0, .iconst 0), (1, .istore_n 2), (2, .iload_n 2), (3, .aload_n 0), (4, .getfield 9), (7, .if_icmp .ge 20), (10, .aload_n 0), (11, .iload_n 2), (12, .invokevirtual 51), (15, .iload_n 1), (16, .if_icmp .ne 5), (19, .iconst 1), (20, .ireturn), (21, .iinc 2 1), (24, .goto (-22)), (27, .iconst 0), (28, .ireturn)]
def qM_X2_has : QM := (yX2_has, cX2_has, 3, (some .boolean), RX2, false, [], qK_X2, qC_X2_has_0)
def qC_X2_is_0 : List (Nat × Instr) := [(0, .iload_n 2), (1, .i2l), (2, .bipush 29), (4, .lshl), (5, .iload_n 3), (6, .ldc 32), (8, .iand), (9, .i2l), (10, .bipush 10), (12, .lshl), (13, .lor), (14, .iload 4), (16, .sipush 1023), (19, .iand), (20, .i2l), (21, .lor), (22, .lstore 5), (24, .iload_n 1), (25, .ifCond .lt 32), (28, .iload_n 1), (29, .aload_n 0), (30, .getfield 9), (33, .if_icmp .ge 24), (36, .aload_n 0), (37, .getfield 22), (40, .iload_n 1), (41, .invokevirtual 26), (44, .bipush 30), (46, .lushr), (47, .lload 5), (49, .lcmp), (50, .ifCond .ne 7), (53, .iconst 1), (54, .goto 4), (57, .iconst 0), (58, .ireturn)]
def qM_X2_is : QM := (yX2_is, cX2_is, 7, (some .boolean), RX2, false, [], qK_X2, qC_X2_is_0)
def qC_X2_nextArrival_0 : List (Nat × Instr) := [(0, .iconst 0), (1, .iload_n 1), (2, .invokestatic 58), (5, .istore_n 2), (6, .iload_n 2), (7, .aload_n 0), (8, .getfield 9), (11, .if_icmp .ge 27), (14, .aload_n 0), (15, .getfield 22), (18, .iload_n 2), (19, .invokevirtual 26), (22, .bipush 59), (24, .lushr), (25, .ldc2_w 64), (28, .lcmp), (29, .ifCond .le 9), (32, .iinc 2 1), (35, .goto (-29)), (38, .iload_n 2), (39, .ireturn)]
def qM_X2_nextArrival : QM := (yX2_nextArrival, cX2_nextArrival, 3, (some .int), RX2, false, [], qK_X2, qC_X2_nextArrival_0)
def qC_X2_nextCommand_0 : List (Nat × Instr) := [(0, .iconst 0), (1, .iload_n 1), (2, .invokestatic 58), (5, .istore_n 2), (6, .iload_n 2), (7, .aload_n 0), (8, .getfield 9), (11, .if_icmp .ge 45), (14, .aload_n 0), (15, .getfield 22), (18, .iload_n 2), (19, .invokevirtual 26), (22, .bipush 59), (24, .lushr), (25, .ldc2_w 64), (28, .lcmp), (29, .ifCond .le 21), (32, .aload_n 0), (33, .getfield 22), (36, .iload_n 2), (37, .invokevirtual 26), (40, .bipush 59), (42, .lushr), (43, .ldc2_w 66), (46, .lcmp), (47, .ifCond .ne 9), (50, .iinc 2 1), (53, .goto (-47)), (56, .iload_n 2), (57, .ireturn)]
def qM_X2_nextCommand : QM := (yX2_nextCommand, cX2_nextCommand, 3, (some .int), RX2, false, [], qK_X2, qC_X2_nextCommand_0)
def qC_X2_taskBeyond_0 : List (Nat × Instr) := [(0, .iconst 0), (1, .istore_n 2), (2, .iload_n 2), (3, .aload_n 0), (4, .getfield 9), (7, .if_icmp .ge 46), (10, .aload_n 0), (11, .getfield 22), (14, .iload_n 2), (15, .invokevirtual 26), (18, .bipush 59), (20, .lushr), (21, .ldc2_w 66), (24, .lcmp), (25, .ifCond .ne 22), (28, .aload_n 0), (29, .getfield 22), (32, .iload_n 2), (33, .invokevirtual 26), (36, .bipush 40), (38, .lushr), (39, .l2i), (40, .ldc 32), (42, .iand), (43, .iload_n 1), (44, .if_icmp .gt 9), (47, .iinc 2 1), (50, .goto (-48)), (53, .iload_n 2), (54, .ireturn)]
def qM_X2_taskBeyond : QM := (yX2_taskBeyond, cX2_taskBeyond, 3, (some .int), RX2, false, [], qK_X2, qC_X2_taskBeyond_0)
def qC_X2_taskAt_0 : List (Nat × Instr) := [(0, .iconst 0), (1, .istore_n 2), (2, .iconst 0), (3, .istore_n 3), (4, .iload_n 3), (5, .aload_n 0), (6, .getfield 9), (9, .if_icmp .ge 29), (12, .aload_n 0), (13, .iload_n 3), (14, .invokevirtual 51), (17, .bipush 17), (19, .if_icmp .ne 13), (22, .iload_n 2), (23, .iload_n 1), (24, .if_icmp .ne 5), (27, .iload_n 3), (28, .ireturn), (29, .iinc 2 1), (32, .iinc 3 1), (35, .goto (-31)), (38, .iconst (-1)), (39, .ireturn)]
def qM_X2_taskAt : QM := (yX2_taskAt, cX2_taskAt, 4, (some .int), RX2, false, [], qK_X2, qC_X2_taskAt_0)
def qC_X2_firstNew_0 : List (Nat × Instr) := [(0, .iconst 0), (1, .istore_n 1), (2, .iconst 0), (3, .istore_n 2), (4, .iload_n 2), (5, .aload_n 0), (6, .getfield 9), (9, .if_icmp .ge 32), (12, .aload_n 0), (13, .iload_n 2), (14, .invokevirtual 51), (17, .bipush 7), (19, .if_icmp .gt 16), (22, .iload_n 1), (23, .aload_n 0), (24, .getfield 19), (27, .if_icmp .lt 5), (30, .iload_n 2), (31, .ireturn), (32, .iinc 1 1), (35, .iinc 2 1), (38, .goto (-34)), (41, .aload_n 0), (42, .getfield 9), (45, .ireturn)]
def qM_X2_firstNew : QM := (yX2_firstNew, cX2_firstNew, 3, (some .int), RX2, false, [], qK_X2, qC_X2_firstNew_0)
def qC_X2_hasNewSignal_0 : List (Nat × Instr) := [(0, .aload_n 0), (1, .invokevirtual 68), (4, .istore_n 2), (5, .iload_n 2), (6, .aload_n 0), (7, .getfield 9), (10, .if_icmp .ge 29), (13, .aload_n 0), (14, .iload_n 2), (15, .invokevirtual 51), (18, .iconst 4), (19, .if_icmp .ne 14), (22, .aload_n 0), (23, .iload_n 2), (24, .invokevirtual 55), (27, .iload_n 1), (28, .if_icmp .ne 5), (31, .iconst 1), (32, .ireturn), (33, .iinc 2 1), (36, .goto (-31)), (39, .iconst 0), (40, .ireturn)]
def qM_X2_hasNewSignal : QM := (yX2_hasNewSignal, cX2_hasNewSignal, 3, (some .boolean), RX2, false, [], qK_X2, qC_X2_hasNewSignal_0)
def qC_X2_hasEnded_0 : List (Nat × Instr) := [(0, .iload_n 1), (1, .iconst 1), (2, .iadd), (3, .istore_n 2), (4, .iload_n 2), (5, .aload_n 0), (6, .getfield 9), (9, .if_icmp .ge 47), (12, .aload_n 0), (13, .iload_n 2), (14, .invokevirtual 51), (17, .istore_n 3), (18, .aload_n 0), (19, .iload_n 2), (20, .invokevirtual 55), (23, .iload_n 1), (24, .if_icmp .ne 26), (27, .iload_n 3), (28, .iconst 1), (29, .if_icmp .eq 19), (32, .iload_n 3), (33, .iconst 2), (34, .if_icmp .eq 14), (37, .iload_n 3), (38, .iconst 3), (39, .if_icmp .eq 9), (42, .iload_n 3), (43, .bipush 11), (45, .if_icmp .ne 5), (48, .iconst 1), (49, .ireturn), (50, .iinc 2 1), (53, .goto (-49)), (56, .iconst 0), (57, .ireturn)]
def qM_X2_hasEnded : QM := (yX2_hasEnded, cX2_hasEnded, 4, (some .boolean), RX2, false, [], qK_X2, qC_X2_hasEnded_0)
def qC_X3_init_0 : List (Nat × Instr) := [(0, .aload_n 0), (1, .invokespecial 1), (4, .aload_n 0), (5, .iconst 3), (6, .putfield 7), (9, .aload_n 0), (10, .iconst 2), (11, .putfield 13), (14, .aload_n 0), (15, .iconst 0), (16, .putfield 16), (19, .aload_n 0), (20, .iconst 0), (21, .putfield 19), (24, .aload_n 0), (25, .iconst 0), (26, .putfield 22), (29, .return_)]
def qM_X3_init : QM := (yX3_init, cX3_init, 1, none, RX3, true, [], qK_X3, qC_X3_init_0)
def qC_X4_init_0 : List (Nat × Instr) := [(0, .aload_n 0), (1, .invokespecial 1), (4, .aload_n 0), (5, .new 7), (8, .dup), (9, .invokespecial 9), (12, .putfield 10), (15, .aload_n 0), (16, .new 16), (19, .dup), (20, .new 18), (23, .dup), (24, .invokespecial 20), (27, .invokespecial 21), (30, .putfield 24), (33, .aload_n 0), (34, .aload_n 0), (35, .getfield 24), (38, .putfield 28), (41, .aload_n 0), (42, .new 18), (45, .dup), (46, .invokespecial 20), (49, .putfield 31), (52, .aload_n 0), (53, .iconst 0), (54, .putfield 35), (57, .aload_n 0), (58, .iconst 0), (59, .putfield 39), (62, .aload_n 0), (63, .iconst 0), (64, .putfield 42), (67, .aload_n 0), (68, .aconst_null), (69, .putfield 45), (72, .aload_n 0), (73, .iconst 0), (74, .putfield 49), (77, .aload_n 0), (78, .iconst 0), (79, .putfield 52), (82, .aload_n 0), (83, .iconst 0), (84, .putfield 55), (87, .aload_n 0), (88, .iconst (-1)), (89, .putfield 59), (92, .return_)]
def qM_X4_init : QM := (yX4_init, cX4_init, 1, none, RX4, true, [], qK_X4, qC_X4_init_0)
def qC_X4_follow_0 : List (Nat × Instr) := [(0, .aload_n 0), (1, .aload_n 1), (2, .aload_n 2), (3, .iload 4), (5, .invokevirtual 62), (8, .aload_n 0), (9, .getfield 10), (12, .getfield 66), (15, .istore 5), (17, .iload 5), (19, .iload_n 3), (20, .if_icmp .ge 127), (23, .aload_n 0), (24, .invokevirtual 69), (27, .ifCond .eq 120), (30, .aload_n 0), (31, .aload_n 0), (32, .getfield 28), (35, .aload_n 0), (36, .getfield 10), (39, .getfield 73), (42, .invokevirtual 76), (45, .putfield 49), (48, .aload_n 0), (49, .getfield 49), (52, .aload_n 0), (53, .getfield 28), (56, .getfield 80), (59, .if_icmp .lt 6), (62, .goto 85), (65, .aload_n 0), (66, .getfield 10), (69, .aload_n 0), (70, .getfield 49), (73, .iconst 1), (74, .iadd), (75, .putfield 73), (78, .aload_n 0), (79, .iconst 0), (80, .putfield 52), (83, .aload_n 0), (84, .aload_n 0), (85, .getfield 28), (88, .aload_n 0), (89, .getfield 49), (92, .invokevirtual 83), (95, .aload_n 0), (96, .getfield 28), (99, .aload_n 0), (100, .getfield 49), (103, .invokevirtual 86), (106, .aload_n 0), (107, .getfield 28), (110, .aload_n 0), (111, .getfield 49), (114, .invokevirtual 89), (117, .invokevirtual 92), (120, .aload_n 0), (121, .invokevirtual 96), (124, .aload_n 0)]
def qC_X4_follow_1 : List (Nat × Instr) := [(125, .getfield 10), (128, .dup), (129, .getfield 66), (132, .iconst 1), (133, .iadd), (134, .putfield 66), (137, .aload_n 0), (138, .invokevirtual 99), (141, .iinc 5 1), (144, .goto (-127)), (147, .aload_n 0), (148, .getfield 55), (151, .ifCond .ne 7), (154, .iconst 1), (155, .goto 4), (158, .iconst 0), (159, .ireturn)]
def qM_X4_follow : QM := (yX4_follow, cX4_follow, 6, (some .boolean), RX4, false, [], qK_X4, qC_X4_follow_0 ++ qC_X4_follow_1)
def qC_X4_load_0 : List (Nat × Instr) := [(0, .aload_n 0), (1, .aload_n 1), (2, .getfield 102), (5, .putfield 28), (8, .aload_n 0), (9, .aload_n 2), (10, .putfield 31), (13, .aload_n 0), (14, .iload_n 3), (15, .putfield 35), (18, .aload_n 0), (19, .iload_n 3), (20, .iconst 2), (21, .if_icmp .ne 10), (24, .aload_n 1), (25, .getfield 105), (28, .goto 4), (31, .iconst 0), (32, .putfield 39), (35, .aload_n 0), (36, .aload_n 1), (37, .getfield 106), (40, .putfield 42), (43, .iload_n 3), (44, .iconst 2), (45, .if_icmp .ne 11), (48, .aload_n 0), (49, .getfield 45), (52, .aload_n 1), (53, .if_acmp .eq 10), (56, .aload_n 0), (57, .getfield 10), (60, .invokevirtual 107), (63, .aload_n 0), (64, .aconst_null), (65, .putfield 45), (68, .aload_n 0), (69, .getfield 24), (72, .iconst 0), (73, .invokevirtual 110), (76, .aload_n 0), (77, .iconst 0), (78, .putfield 49), (81, .aload_n 0), (82, .iconst 0), (83, .putfield 52), (86, .aload_n 0), (87, .iconst 0), (88, .putfield 55), (91, .aload_n 0), (92, .iconst (-1)), (93, .putfield 59), (96, .return_)]
def qM_X4_load : QM := (yX4_load, cX4_load, 4, none, RX4, false, [], qK_X4, qC_X4_load_0)
def qC_X4_knows_0 : List (Nat × Instr) := [(0, .aload_n 0), (1, .getfield 10), (4, .aload_n 1), (5, .getfield 102), (8, .getfield 80), (11, .putfield 114), (14, .aload_n 0), (15, .getfield 10), (18, .aload_n 1), (19, .getfield 102), (22, .getfield 80), (25, .putfield 117), (28, .aload_n 0), (29, .aload_n 1), (30, .putfield 45), (33, .return_)]
def qM_X4_knows : QM := (yX4_knows, cX4_knows, 2, none, RX4, false, [], qK_X4, qC_X4_knows_0)
def qC_X4_goes_0 : List (Nat × Instr) := [(0, .aload_n 0), (1, .getfield 55), (4, .ifCond .ne 17), (7, .aload_n 0), (8, .getfield 10), (11, .getfield 120), (14, .ifCond .ne 7), (17, .iconst 1), (18, .goto 4), (21, .iconst 0), (22, .ireturn)]
def qM_X4_goes : QM := (yX4_goes, cX4_goes, 1, (some .boolean), RX4, false, [], qK_X4, qC_X4_goes_0)
def qC_X4_getStuck_0 : List (Nat × Instr) := [(0, .aload_n 0), (1, .iconst 1), (2, .putfield 55), (5, .aload_n 0), (6, .iload_n 1), (7, .putfield 59), (10, .return_)]
def qM_X4_getStuck : QM := (yX4_getStuck, cX4_getStuck, 2, none, RX4, false, [], qK_X4, qC_X4_getStuck_0)
def qC_X4_passTasks_0 : List (Nat × Instr) := [(0, .aload_n 0), (1, .getfield 10), (4, .getfield 117), (7, .istore_n 1), (8, .iload_n 1), (9, .aload_n 0), (10, .getfield 28), (13, .getfield 80), (16, .if_icmp .ge 89), (19, .aload_n 0), (20, .getfield 55), (23, .ifCond .ne 82), (26, .aload_n 0), (27, .getfield 28), (30, .iload_n 1), (31, .invokevirtual 83), (34, .bipush 17), (36, .if_icmp .ne 21), (39, .aload_n 0), (40, .getfield 28), (43, .iload_n 1), (44, .invokevirtual 86), (47, .aload_n 0), (48, .getfield 10), (51, .getfield 66), (54, .if_icmp .gt 51), (57, .aload_n 0), (58, .getfield 28), (61, .iload_n 1), (62, .invokevirtual 83), (65, .bipush 17), (67, .if_icmp .ne 20), (70, .aload_n 0), (71, .getfield 28), (74, .aload_n 0), (75, .getfield 10), (78, .getfield 114), (81, .invokevirtual 123), (84, .goto 4), (87, .iload_n 1), (88, .istore_n 2), (89, .iload_n 2), (90, .iload_n 1), (91, .if_icmp .ge 8), (94, .aload_n 0), (95, .iload_n 2), (96, .invokevirtual 126), (99, .iinc 1 1), (102, .goto (-94)), (105, .aload_n 0), (106, .getfield 10), (109, .iload_n 1), (110, .putfield 117), (113, .return_)]
def qM_X4_passTasks : QM := (yX4_passTasks, cX4_passTasks, 3, none, RX4, false, [], qK_X4, qC_X4_passTasks_0)
def qC_X4_isLeft_0 : List (Nat × Instr) := [(0, .aload_n 0), (1, .getfield 28), (4, .aload_n 0), (5, .getfield 10), (8, .getfield 114), (11, .invokevirtual 123), (14, .istore_n 1), (15, .iload_n 1), (16, .aload_n 0), (17, .getfield 28), (20, .getfield 80), (23, .if_icmp .ge 8), (26, .aload_n 0), (27, .iload_n 1), (28, .invokevirtual 126), (31, .aload_n 0), (32, .getfield 55), (35, .ireturn)]
def qM_X4_isLeft : QM := (yX4_isLeft, cX4_isLeft, 2, (some .boolean), RX4, false, [], qK_X4, qC_X4_isLeft_0)
def qC_X4_seen_0 : List (Nat × Instr) := [(0, .aload_n 0), (1, .getfield 10), (4, .getfield 66), (7, .aload_n 0), (8, .getfield 39), (11, .if_icmp .ge 10), (14, .aload_n 0), (15, .getfield 42), (18, .goto 10), (21, .aload_n 0), (22, .getfield 28), (25, .getfield 80), (28, .ireturn)]
def qM_X4_seen : QM := (yX4_seen, cX4_seen, 1, (some .int), RX4, false, [], qK_X4, qC_X4_seen_0)
def qC_X4_note_0 : List (Nat × Instr) := [(0, .iload_n 1), (1, .tableswitch 115 0 7 #[47, 115, 100, 115, 69, 115, 100, 85]), (48, .aload_n 0), (49, .getfield 10), (52, .iconst 0), (53, .iload_n 2), (54, .invokevirtual 129), (57, .aload_n 0), (58, .getfield 10), (61, .iconst (-1)), (62, .iconst 0), (63, .invokevirtual 133), (66, .pop), (67, .goto 63), (70, .aload_n 0), (71, .getfield 10), (74, .iload_n 2), (75, .invokevirtual 137), (78, .iload_n 3), (79, .i2l), (80, .invokevirtual 141), (83, .goto 47), (86, .aload_n 0), (87, .getfield 10), (90, .iconst 1), (91, .putfield 145), (94, .aload_n 0), (95, .invokevirtual 148), (98, .goto 32), (101, .aload_n 0), (102, .aload_n 0), (103, .getfield 10), (106, .iload_n 2), (107, .invokevirtual 151), (110, .invokevirtual 155), (113, .goto 17), (116, .aload_n 0), (117, .aload_n 0), (118, .getfield 10), (121, .iload_n 2), (122, .invokevirtual 151), (125, .iload_n 1), (126, .iload_n 3), (127, .invokevirtual 159), (130, .return_)]
def qM_X4_note : QM := (yX4_note, cX4_note, 4, none, RX4, false, [], qK_X4, qC_X4_note_0)
def qC_X4_noteEnd_0 : List (Nat × Instr) := [(0, .aload_n 1), (1, .ifnonnull 4), (4, .return_), (5, .aload_n 1), (6, .getfield 163), (9, .iconst 2), (10, .if_icmp .ne 12), (13, .aload_n 1), (14, .aload_n 1), (15, .getfield 168), (18, .invokevirtual 171), (21, .return_), (22, .iload_n 2), (23, .iconst 3), (24, .if_icmp .eq 26), (27, .aload_n 0), (28, .getfield 10), (31, .aload_n 0), (32, .getfield 31), (35, .aload_n 1), (36, .getfield 168), (39, .invokevirtual 174), (42, .sipush 1000), (45, .irem), (46, .iload_n 3), (47, .invokevirtual 129), (50, .aload_n 1), (51, .aload_n 1), (52, .getfield 168), (55, .iconst 1), (56, .iadd), (57, .invokevirtual 171), (60, .return_)]
def qM_X4_noteEnd : QM := (yX4_noteEnd, cX4_noteEnd, 4, none, RX4, false, [], qK_X4, qC_X4_noteEnd_0)
def qC_X4_noteFailure_0 : List (Nat × Instr) := [(0, .aload_n 1), (1, .ifnonnull 4), (4, .return_), (5, .aload_n 1), (6, .getfield 163), (9, .iconst 2), (10, .if_icmp .ne 14), (13, .aload_n 1), (14, .aload_n 1), (15, .getfield 168), (18, .invokevirtual 171), (21, .goto 8), (24, .aload_n 0), (25, .aload_n 1), (26, .invokevirtual 177), (29, .return_)]
def qM_X4_noteFailure : QM := (yX4_noteFailure, cX4_noteFailure, 2, none, RX4, false, [], qK_X4, qC_X4_noteFailure_0)
def qC_X4_tellCancel_0 : List (Nat × Instr) := [(0, .iconst 0), (1, .istore_n 1), (2, .iload_n 1), (3, .aload_n 0), (4, .getfield 10), (7, .getfield 180), (10, .if_icmp .ge 71), (13, .aload_n 0), (14, .invokevirtual 69), (17, .ifCond .eq 64), (20, .aload_n 0), (21, .getfield 10), (24, .iload_n 1), (25, .invokevirtual 183), (28, .astore_n 2), (29, .aload_n 2), (30, .ifnonnull 4), (33, .return_), (34, .aload_n 2), (35, .getfield 186), (38, .ifCond .le 11), (41, .aload_n 2), (42, .iconst 1), (43, .putfield 189), (46, .goto 29), (49, .aload_n 2), (50, .invokevirtual 192), (53, .ifCond .eq 17), (56, .aload_n 0), (57, .bipush 11), (59, .aload_n 2), (60, .getfield 195), (63, .iconst 0), (64, .invokevirtual 198), (67, .ifCond .lt 8), (70, .aload_n 0), (71, .aload_n 2), (72, .invokevirtual 177), (75, .iinc 1 1), (78, .goto (-76)), (81, .return_)]
def qM_X4_tellCancel : QM := (yX4_tellCancel, cX4_tellCancel, 3, none, RX4, false, [], qK_X4, qC_X4_tellCancel_0)
def qC_X4_failBranch_0 : List (Nat × Instr) := [(0, .aload_n 1), (1, .aload_n 1), (2, .getfield 168), (5, .invokevirtual 171), (8, .aload_n 1), (9, .getfield 202), (12, .ifCond .le 36), (15, .aload_n 1), (16, .aload_n 0), (17, .getfield 10), (20, .aload_n 1), (21, .getfield 202), (24, .invokevirtual 205), (27, .invokevirtual 171), (30, .aload_n 1), (31, .aload_n 0), (32, .getfield 10), (35, .aload_n 1), (36, .getfield 202), (39, .invokevirtual 208), (42, .putfield 202), (45, .goto 23), (48, .aload_n 0), (49, .bipush 15), (51, .iconst 0), (52, .iconst 0), (53, .invokevirtual 198), (56, .ifCond .lt 12), (59, .aload_n 0), (60, .getfield 10), (63, .bipush 15), (65, .putfield 120), (68, .return_)]
def qM_X4_failBranch : QM := (yX4_failBranch, cX4_failBranch, 2, none, RX4, false, [], qK_X4, qC_X4_failBranch_0)
def qC_X4_endBranch_0 : List (Nat × Instr) := [(0, .aload_n 1), (1, .getfield 211), (4, .ifCond .eq 14), (7, .aload_n 0), (8, .getfield 10), (11, .aload_n 1), (12, .invokevirtual 214), (15, .goto 30), (18, .aload_n 0), (19, .bipush 14), (21, .aload_n 0), (22, .getfield 10), (25, .iconst 0), (26, .invokevirtual 217), (29, .iconst 0), (30, .invokevirtual 198), (33, .ifCond .lt 12), (36, .aload_n 0), (37, .getfield 10), (40, .bipush 14), (42, .putfield 120), (45, .return_)]
def qM_X4_endBranch : QM := (yX4_endBranch, cX4_endBranch, 2, none, RX4, false, [], qK_X4, qC_X4_endBranch_0)
def qC_X4_command_0 : List (Nat × Instr) := [(0, .aload_n 0), (1, .getfield 28), (4, .aload_n 0), (5, .getfield 10), (8, .getfield 114), (11, .invokevirtual 123), (14, .istore 4), (16, .aload_n 0), (17, .getfield 10), (20, .iload 4), (22, .putfield 114), (25, .iload 4), (27, .aload_n 0), (28, .invokevirtual 220), (31, .if_icmp .ge 48), (34, .aload_n 0), (35, .getfield 35), (38, .iconst 1), (39, .if_icmp .eq 26), (42, .aload_n 0), (43, .getfield 28), (46, .iload 4), (48, .iload_n 1), (49, .iload_n 2), (50, .iload_n 3), (51, .invokevirtual 224), (54, .ifCond .ne 11), (57, .aload_n 0), (58, .iload 4), (60, .invokevirtual 126), (63, .iconst (-1)), (64, .ireturn), (65, .aload_n 0), (66, .getfield 10), (69, .iload 4), (71, .iconst 1), (72, .iadd), (73, .putfield 114), (76, .iload 4), (78, .ireturn), (79, .aload_n 0), (80, .getfield 10), (83, .getfield 66), (86, .aload_n 0), (87, .getfield 28), (90, .getfield 228), (93, .if_icmp .ge 23), (96, .aload_n 0), (97, .aload_n 0), (98, .getfield 28), (101, .aload_n 0), (102, .getfield 10), (105, .getfield 66), (108, .invokevirtual 231), (111, .invokevirtual 126), (114, .iconst (-1)), (115, .ireturn), (116, .aload_n 0), (117, .getfield 24), (120, .iload_n 1)]
def qC_X4_command_1 : List (Nat × Instr) := [(121, .iload_n 2), (122, .iload_n 3), (123, .iconst 0), (124, .iconst 0), (125, .invokevirtual 234), (128, .aload_n 0), (129, .getfield 28), (132, .getfield 80), (135, .aload_n 0), (136, .getfield 24), (139, .getfield 80), (142, .iadd), (143, .iconst 1), (144, .isub), (145, .ireturn)]
def qM_X4_command : QM := (yX4_command, cX4_command, 5, (some .int), RX4, false, [], qK_X4, qC_X4_command_0 ++ qC_X4_command_1)
def qC_X4_goOn_0 : List (Nat × Instr) := [(0, .aload_n 0), (1, .getfield 10), (4, .invokevirtual 238), (7, .astore_n 1), (8, .iconst 0), (9, .istore_n 2), (10, .iload_n 2), (11, .sipush 1000), (14, .if_icmp .ge 219), (17, .aload_n 1), (18, .ifnull 215), (21, .aload_n 0), (22, .invokevirtual 69), (25, .ifCond .eq 208), (28, .aload_n 1), (29, .getfield 163), (32, .ifCond .eq 11), (35, .aload_n 0), (36, .aload_n 1), (37, .invokevirtual 242), (40, .goto 179), (43, .aload_n 1), (44, .getfield 168), (47, .aload_n 0), (48, .getfield 31), (51, .getfield 245), (54, .if_icmp .lt 11), (57, .aload_n 0), (58, .aload_n 1), (59, .invokevirtual 246), (62, .goto 157), (65, .aload_n 0), (66, .getfield 52), (69, .bipush 60), (71, .if_icmp .lt 11), (74, .aload_n 0), (75, .iconst (-1)), (76, .invokevirtual 126), (79, .goto 140), (82, .aload_n 0), (83, .dup), (84, .getfield 52), (87, .iconst 1), (88, .iadd), (89, .putfield 52), (92, .aload_n 0), (93, .getfield 31), (96, .aload_n 1), (97, .getfield 168), (100, .invokevirtual 174), (103, .istore_n 3), (104, .iload_n 3), (105, .ldc 249), (107, .idiv), (108, .istore 4), (110, .iload 4), (112, .bipush 7), (114, .if_icmp .gt 27), (117, .aload_n 0), (118, .aload_n 1)]
def qC_X4_goOn_1 : List (Nat × Instr) := [(119, .iload 4), (121, .iload_n 3), (122, .sipush 1000), (125, .idiv), (126, .sipush 1000), (129, .irem), (130, .iload_n 3), (131, .sipush 1000), (134, .irem), (135, .invokevirtual 250), (138, .goto 81), (141, .iload 4), (143, .bipush 13), (145, .if_icmp .gt 22), (148, .aload_n 0), (149, .aload_n 1), (150, .iload 4), (152, .iload_n 3), (153, .sipush 1000), (156, .idiv), (157, .sipush 1000), (160, .irem), (161, .invokevirtual 254), (164, .goto 55), (167, .iload 4), (169, .bipush 18), (171, .if_icmp .gt 27), (174, .aload_n 0), (175, .aload_n 1), (176, .iload 4), (178, .iload_n 3), (179, .sipush 1000), (182, .idiv), (183, .sipush 1000), (186, .irem), (187, .iload_n 3), (188, .sipush 1000), (191, .irem), (192, .invokevirtual 257), (195, .goto 24), (198, .aload_n 0), (199, .aload_n 1), (200, .iload 4), (202, .iload_n 3), (203, .sipush 1000), (206, .idiv), (207, .sipush 1000), (210, .irem), (211, .iload_n 3), (212, .sipush 1000), (215, .irem), (216, .invokevirtual 260), (219, .aload_n 0), (220, .getfield 10), (223, .invokevirtual 238), (226, .astore_n 1), (227, .iinc 2 1), (230, .goto (-220)), (233, .return_)]
def qM_X4_goOn : QM := (yX4_goOn, cX4_goOn, 5, none, RX4, false, [], qK_X4, qC_X4_goOn_0 ++ qC_X4_goOn_1)
def qC_X4_awake_0 : List (Nat × Instr) := [(0, .aload_n 1), (1, .getfield 163), (4, .iconst 3), (5, .if_icmp .ne 47), (8, .aload_n 0), (9, .getfield 10), (12, .aload_n 1), (13, .getfield 195), (16, .invokevirtual 137), (19, .astore_n 2), (20, .aload_n 0), (21, .getfield 10), (24, .aload_n 0), (25, .getfield 31), (28, .aload_n 1), (29, .getfield 168), (32, .invokevirtual 174), (35, .sipush 1000), (38, .irem), (39, .aload_n 2), (40, .iconst 0), (41, .invokevirtual 174), (44, .invokevirtual 129), (47, .aload_n 2), (48, .iconst 0), (49, .invokevirtual 263), (52, .aload_n 1), (53, .aload_n 1), (54, .getfield 168), (57, .iconst 1), (58, .iadd), (59, .invokevirtual 171), (62, .return_)]
def qM_X4_awake : QM := (yX4_awake, cX4_awake, 3, none, RX4, false, [], qK_X4, qC_X4_awake_0)
def qC_X4_doPlainLine_0 : List (Nat × Instr) := [(0, .aload_n 1), (1, .getfield 168), (4, .iconst 1), (5, .iadd), (6, .istore 5), (8, .iload_n 2), (9, .tableswitch 177 0 6 #[43, 56, 89, 111, 125, 132, 154]), (52, .aload_n 0), (53, .getfield 10), (56, .iload_n 3), (57, .iload 4), (59, .invokevirtual 129), (62, .goto 127), (65, .aload_n 0), (66, .getfield 10), (69, .iload_n 3), (70, .aload_n 0), (71, .getfield 10), (74, .iload_n 3), (75, .invokevirtual 217), (78, .aload_n 0), (79, .getfield 10), (82, .iload 4), (84, .invokevirtual 217), (87, .iadd), (88, .sipush 1000), (91, .irem), (92, .invokevirtual 129), (95, .goto 94), (98, .aload_n 1), (99, .iconst 1), (100, .aload_n 0), (101, .bipush 8), (103, .iload_n 3), (104, .aload_n 0), (105, .getfield 10), (108, .iload 4), (110, .invokevirtual 217), (113, .invokevirtual 198), (116, .invokevirtual 266), (119, .return_), (120, .aload_n 1), (121, .iconst 1), (122, .aload_n 0), (123, .bipush 9), (125, .iload_n 3), (126, .iconst 0), (127, .invokevirtual 198), (130, .invokevirtual 266), (133, .return_), (134, .aload_n 1), (135, .iconst 3), (136, .iload_n 3), (137, .invokevirtual 266), (140, .return_), (141, .aload_n 1), (142, .iconst 1), (143, .aload_n 0), (144, .bipush 10), (146, .iload_n 3)]
def qC_X4_doPlainLine_1 : List (Nat × Instr) := [(147, .aload_n 0), (148, .getfield 10), (151, .iload 4), (153, .invokevirtual 217), (156, .invokevirtual 198), (159, .invokevirtual 266), (162, .return_), (163, .aload_n 0), (164, .getfield 10), (167, .iload_n 3), (168, .invokevirtual 217), (171, .ifCond .ne 8), (174, .iload 4), (176, .goto 5), (179, .iload 5), (181, .istore 5), (183, .goto 6), (186, .iload_n 3), (187, .istore 5), (189, .aload_n 1), (190, .iload 5), (192, .invokevirtual 171), (195, .return_)]
def qM_X4_doPlainLine : QM := (yX4_doPlainLine, cX4_doPlainLine, 6, none, RX4, false, [], qK_X4, qC_X4_doPlainLine_0 ++ qC_X4_doPlainLine_1)
def qC_X4_doBranchLine_0 : List (Nat × Instr) := [(0, .iload_n 2), (1, .bipush 9), (3, .if_icmp .ne 10), (6, .aload_n 1), (7, .iconst 4), (8, .iconst 0), (9, .invokevirtual 266), (12, .return_), (13, .aload_n 1), (14, .aload_n 1), (15, .getfield 168), (18, .iconst 1), (19, .iadd), (20, .invokevirtual 171), (23, .iload_n 2), (24, .tableswitch 91 8 12 #[36, 91, 46, 60, 72]), (60, .aload_n 0), (61, .aload_n 1), (62, .iload_n 3), (63, .invokevirtual 269), (66, .pop), (67, .goto 63), (70, .aload_n 0), (71, .aload_n 1), (72, .aload_n 0), (73, .aload_n 1), (74, .iload_n 3), (75, .invokevirtual 269), (78, .invokevirtual 273), (81, .goto 49), (84, .aload_n 0), (85, .aload_n 1), (86, .invokevirtual 277), (89, .aload_n 0), (90, .invokevirtual 280), (93, .goto 37), (96, .aload_n 1), (97, .aload_n 0), (98, .getfield 10), (101, .aload_n 1), (102, .getfield 202), (105, .iload_n 3), (106, .invokevirtual 283), (109, .putfield 202), (112, .goto 18), (115, .aload_n 1), (116, .aload_n 0), (117, .getfield 10), (120, .aload_n 1), (121, .getfield 202), (124, .invokevirtual 208), (127, .putfield 202), (130, .return_)]
def qM_X4_doBranchLine : QM := (yX4_doBranchLine, cX4_doBranchLine, 4, none, RX4, false, [], qK_X4, qC_X4_doBranchLine_0)
def qC_X4_beginBelow_0 : List (Nat × Instr) := [(0, .aload_n 0), (1, .getfield 10), (4, .getfield 180), (7, .bipush 12), (9, .if_icmp .lt 10), (12, .aload_n 0), (13, .iconst (-1)), (14, .invokevirtual 126), (17, .aconst_null), (18, .areturn), (19, .aload_n 0), (20, .getfield 10), (23, .aload_n 0), (24, .getfield 10), (27, .aload_n 1), (28, .getfield 211), (31, .iload_n 2), (32, .invokevirtual 133), (35, .invokevirtual 286), (38, .areturn)]
def qM_X4_beginBelow : QM := (yX4_beginBelow, cX4_beginBelow, 3, (some (.object "DurableLoom$Branch")), RX4, false, [], qK_X4, qC_X4_beginBelow_0)
def qC_X4_race_0 : List (Nat × Instr) := [(0, .aload_n 2), (1, .ifnonnull 4), (4, .return_), (5, .aload_n 0), (6, .getfield 10), (9, .aload_n 1), (10, .getfield 289), (13, .invokevirtual 286), (16, .astore_n 3), (17, .aload_n 3), (18, .ifnull 8), (21, .aload_n 3), (22, .iconst (-1)), (23, .putfield 289), (26, .aload_n 1), (27, .aload_n 2), (28, .getfield 211), (31, .putfield 289), (34, .aload_n 2), (35, .aload_n 1), (36, .getfield 211), (39, .putfield 289), (42, .return_)]
def qM_X4_race : QM := (yX4_race, cX4_race, 4, none, RX4, false, [], qK_X4, qC_X4_race_0)
def qC_X4_win_0 : List (Nat × Instr) := [(0, .aload_n 0), (1, .getfield 10), (4, .aload_n 1), (5, .getfield 289), (8, .invokevirtual 286), (11, .astore_n 2), (12, .aload_n 2), (13, .ifnonnull 4), (16, .return_), (17, .aload_n 1), (18, .iconst (-1)), (19, .putfield 289), (22, .aload_n 2), (23, .iconst (-1)), (24, .putfield 289), (27, .aload_n 2), (28, .getfield 211), (31, .aload_n 1), (32, .getfield 292), (35, .if_icmp .eq 14), (38, .aload_n 0), (39, .getfield 10), (42, .aload_n 2), (43, .invokevirtual 295), (46, .goto 40), (49, .aload_n 2), (50, .invokevirtual 192), (53, .ifCond .eq 17), (56, .aload_n 0), (57, .bipush 11), (59, .aload_n 2), (60, .getfield 195), (63, .iconst 0), (64, .invokevirtual 198), (67, .ifCond .lt 19), (70, .aload_n 2), (71, .aload_n 1), (72, .getfield 168), (75, .invokevirtual 171), (78, .aload_n 0), (79, .getfield 10), (82, .aload_n 1), (83, .invokevirtual 295), (86, .return_)]
def qM_X4_win : QM := (yX4_win, cX4_win, 3, none, RX4, false, [], qK_X4, qC_X4_win_0)
def qC_X4_dropDoomed_0 : List (Nat × Instr) := [(0, .iconst 0), (1, .istore_n 1), (2, .iload_n 1), (3, .aload_n 0), (4, .getfield 10), (7, .getfield 180), (10, .if_icmp .ge 55), (13, .aload_n 0), (14, .invokevirtual 69), (17, .ifCond .eq 48), (20, .aload_n 0), (21, .getfield 10), (24, .iload_n 1), (25, .invokevirtual 183), (28, .astore_n 2), (29, .aload_n 2), (30, .ifnull 29), (33, .aload_n 2), (34, .getfield 298), (37, .ifCond .eq 22), (40, .aload_n 2), (41, .invokevirtual 192), (44, .ifCond .eq 15), (47, .aload_n 0), (48, .bipush 11), (50, .aload_n 2), (51, .getfield 195), (54, .iconst 0), (55, .invokevirtual 198), (58, .pop), (59, .iinc 1 1), (62, .goto (-60)), (65, .aload_n 0), (66, .getfield 10), (69, .getfield 180), (72, .iconst 1), (73, .isub), (74, .istore_n 1), (75, .iload_n 1), (76, .ifCond .lt 37), (79, .aload_n 0), (80, .getfield 10), (83, .iload_n 1), (84, .invokevirtual 183), (87, .astore_n 2), (88, .aload_n 2), (89, .ifnull 18), (92, .aload_n 2), (93, .getfield 298), (96, .ifCond .eq 11), (99, .aload_n 0), (100, .getfield 10), (103, .aload_n 2), (104, .invokevirtual 214), (107, .iinc 1 (-1)), (110, .goto (-35)), (113, .return_)]
def qM_X4_dropDoomed : QM := (yX4_dropDoomed, cX4_dropDoomed, 3, none, RX4, false, [], qK_X4, qC_X4_dropDoomed_0)
def qC_X4_doEndingLine_0 : List (Nat × Instr) := [(0, .iload_n 2), (1, .tableswitch 104 14 17 #[31, 80, 88, 96]), (32, .aload_n 0), (33, .getfield 10), (36, .aload_n 0), (37, .getfield 10), (40, .aload_n 0), (41, .getfield 10), (44, .getfield 301), (47, .sipush 1000), (50, .iload_n 3), (51, .imul), (52, .aload_n 0), (53, .getfield 10), (56, .iload 4), (58, .invokevirtual 217), (61, .iadd), (62, .invokevirtual 283), (65, .putfield 301), (68, .aload_n 1), (69, .aload_n 1), (70, .getfield 168), (73, .iconst 1), (74, .iadd), (75, .invokevirtual 171), (78, .goto 54), (81, .aload_n 0), (82, .aload_n 1), (83, .invokevirtual 304), (86, .goto 46), (89, .aload_n 0), (90, .aload_n 1), (91, .invokevirtual 246), (94, .goto 38), (97, .aload_n 0), (98, .aload_n 1), (99, .invokevirtual 177), (102, .goto 30), (105, .aload_n 0), (106, .bipush 16), (108, .aload_n 0), (109, .getfield 10), (112, .iload_n 3), (113, .invokevirtual 217), (116, .iconst 0), (117, .invokevirtual 198), (120, .ifCond .lt 12), (123, .aload_n 0), (124, .getfield 10), (127, .bipush 16), (129, .putfield 120), (132, .return_)]
def qM_X4_doEndingLine : QM := (yX4_doEndingLine, cX4_doEndingLine, 5, none, RX4, false, [], qK_X4, qC_X4_doEndingLine_0)
def qC_X4_undo_0 : List (Nat × Instr) := [(0, .aload_n 0), (1, .getfield 10), (4, .getfield 301), (7, .ifCond .ne 14), (10, .aload_n 1), (11, .aload_n 1), (12, .getfield 168), (15, .iconst 1), (16, .iadd), (17, .invokevirtual 171), (20, .return_), (21, .aload_n 0), (22, .getfield 10), (25, .aload_n 0), (26, .getfield 10), (29, .getfield 301), (32, .invokevirtual 205), (35, .istore_n 2), (36, .aload_n 0), (37, .getfield 10), (40, .aload_n 0), (41, .getfield 10), (44, .aload_n 0), (45, .getfield 10), (48, .getfield 301), (51, .invokevirtual 208), (54, .putfield 301), (57, .aload_n 1), (58, .iconst 2), (59, .aload_n 0), (60, .bipush 8), (62, .iload_n 2), (63, .sipush 1000), (66, .idiv), (67, .iload_n 2), (68, .sipush 1000), (71, .irem), (72, .invokevirtual 198), (75, .invokevirtual 266), (78, .return_)]
def qM_X4_undo : QM := (yX4_undo, cX4_undo, 3, none, RX4, false, [], qK_X4, qC_X4_undo_0)
def qC_X4_doOtherLine_0 : List (Nat × Instr) := [(0, .aload_n 1), (1, .getfield 168), (4, .iconst 1), (5, .iadd), (6, .istore 5), (8, .iconst 0), (9, .istore 6), (11, .iload_n 2), (12, .tableswitch 110 19 23 #[36, 56, 78, 110, 91]), (48, .aload_n 0), (49, .iload_n 3), (50, .invokevirtual 307), (53, .ifCond .eq 8), (56, .iload 5), (58, .goto 5), (61, .iload 4), (63, .istore 5), (65, .goto 63), (68, .aload_n 0), (69, .getfield 10), (72, .iload_n 3), (73, .aload_n 0), (74, .getfield 28), (77, .aload_n 0), (78, .getfield 49), (81, .invokevirtual 311), (84, .invokevirtual 129), (87, .goto 41), (90, .aload_n 1), (91, .dup), (92, .getfield 186), (95, .iconst 1), (96, .iadd), (97, .putfield 186), (100, .goto 28), (103, .aload_n 0), (104, .bipush 13), (106, .aload_n 0), (107, .getfield 10), (110, .iload_n 3), (111, .invokevirtual 217), (114, .iconst 0), (115, .invokevirtual 198), (118, .pop), (119, .goto 9), (122, .aload_n 1), (123, .invokevirtual 314), (126, .istore 6), (128, .aload_n 1), (129, .iload 5), (131, .invokevirtual 171), (134, .iload 6), (136, .ifCond .eq 8), (139, .aload_n 0), (140, .aload_n 1), (141, .invokevirtual 177), (144, .return_)]
def qM_X4_doOtherLine : QM := (yX4_doOtherLine, cX4_doOtherLine, 7, none, RX4, false, [], qK_X4, qC_X4_doOtherLine_0)
def qC_X4_patch_0 : List (Nat × Instr) := [(0, .aload_n 0), (1, .getfield 10), (4, .getfield 317), (7, .iload_n 1), (8, .ishr), (9, .iconst 1), (10, .iand), (11, .ifCond .eq 5), (14, .iconst 1), (15, .ireturn), (16, .aload_n 0), (17, .getfield 28), (20, .aload_n 0), (21, .getfield 10), (24, .getfield 114), (27, .invokevirtual 123), (30, .istore_n 2), (31, .iload_n 2), (32, .aload_n 0), (33, .invokevirtual 220), (36, .if_icmp .ge 22), (39, .aload_n 0), (40, .getfield 28), (43, .iload_n 2), (44, .bipush 12), (46, .iload_n 1), (47, .iconst 0), (48, .invokevirtual 224), (51, .ifCond .eq 7), (54, .iconst 1), (55, .goto 4), (58, .iconst 0), (59, .istore_n 3), (60, .iload_n 2), (61, .aload_n 0), (62, .invokevirtual 220), (65, .if_icmp .lt 24), (68, .aload_n 0), (69, .getfield 10), (72, .getfield 66), (75, .aload_n 0), (76, .getfield 28), (79, .getfield 228), (82, .if_icmp .lt 7), (85, .iconst 1), (86, .goto 4), (89, .iconst 0), (90, .istore 4), (92, .iload_n 3), (93, .ifCond .ne 8), (96, .iload 4), (98, .ifCond .eq 27), (101, .aload_n 0), (102, .getfield 10), (105, .dup), (106, .getfield 317), (109, .iconst 1), (110, .iload_n 1), (111, .ishl), (112, .ior)]
def qC_X4_patch_1 : List (Nat × Instr) := [(113, .putfield 317), (116, .aload_n 0), (117, .bipush 12), (119, .iload_n 1), (120, .iconst 0), (121, .invokevirtual 198), (124, .pop), (125, .iload_n 3), (126, .ifCond .ne 8), (129, .iload 4), (131, .ifCond .eq 7), (134, .iconst 1), (135, .goto 4), (138, .iconst 0), (139, .ireturn)]
def qM_X4_patch : QM := (yX4_patch, cX4_patch, 5, (some .boolean), RX4, false, [], qK_X4, qC_X4_patch_0 ++ qC_X4_patch_1)
def qC_X5_init_0 : List (Nat × Instr) := [(0, .aload_n 0), (1, .invokespecial 3), (4, .aload_n 0), (5, .iconst 1), (6, .anewarray 9), (9, .putfield 11), (12, .aload_n 0), (13, .iconst 0), (14, .putfield 15), (17, .aload_n 0), (18, .iconst 0), (19, .putfield 19), (22, .return_)]
def qM_X5_init : QM := (yX5_init, cX5_init, 1, none, RX5, true, [], qK_X5, qC_X5_init_0)
def qC_X5_wide_0 : List (Nat × Instr) := [(0, .iload_n 1), (1, .bipush 6), (3, .ishr), (4, .istore_n 2), (5, .iload_n 1), (6, .bipush 63), (8, .iand), (9, .istore_n 3), (10, .iload_n 1), (11, .ifCond .lt 40), (14, .iload_n 1), (15, .aload_n 0), (16, .getfield 19), (19, .if_icmp .ge 32), (22, .iload_n 2), (23, .aload_n 0), (24, .getfield 11), (27, .arraylength), (28, .if_icmp .ge 23), (31, .aload_n 0), (32, .getfield 11), (35, .iload_n 2), (36, .aaload), (37, .ifnull 14), (40, .iload_n 3), (41, .aload_n 0), (42, .getfield 11), (45, .iload_n 2), (46, .aaload), (47, .arraylength), (48, .if_icmp .lt 5), (51, .lconst 0), (52, .lreturn), (53, .aload_n 0), (54, .getfield 11), (57, .iload_n 2), (58, .aaload), (59, .iload_n 3), (60, .laload), (61, .lreturn)]
def qM_X5_wide : QM := (yX5_wide, cX5_wide, 4, (some .long), RX5, false, [], qK_X5, qC_X5_wide_0)
def qC_X5_at_0 : List (Nat × Instr) := [(0, .aload_n 0), (1, .iload_n 1), (2, .invokevirtual 22), (5, .l2i), (6, .ireturn)]
def qM_X5_at : QM := (yX5_at, cX5_at, 2, (some .int), RX5, false, [], qK_X5, qC_X5_at_0)
def qC_X5_add_0 : List (Nat × Instr) := [(0, .aload_n 0), (1, .getfield 19), (4, .bipush 6), (6, .ishr), (7, .istore_n 3), (8, .aload_n 0), (9, .getfield 19), (12, .bipush 63), (14, .iand), (15, .istore 4), (17, .iload_n 3), (18, .aload_n 0), (19, .getfield 11), (22, .arraylength), (23, .if_icmp .lt 60), (26, .iconst 2), (27, .aload_n 0), (28, .getfield 11), (31, .arraylength), (32, .imul), (33, .anewarray 9), (36, .astore 5), (38, .iconst 0), (39, .istore 6), (41, .iload 6), (43, .aload_n 0), (44, .getfield 11), (47, .arraylength), (48, .if_icmp .ge 29), (51, .iload 6), (53, .aload 5), (55, .arraylength), (56, .if_icmp .ge 21), (59, .aload 5), (61, .iload 6), (63, .aload_n 0), (64, .getfield 11), (67, .iload 6), (69, .aaload), (70, .aastore), (71, .iinc 6 1), (74, .goto (-33)), (77, .aload_n 0), (78, .aload 5), (80, .putfield 11), (83, .iload_n 3), (84, .aload_n 0), (85, .getfield 11), (88, .arraylength), (89, .if_icmp .lt 4), (92, .return_), (93, .aload_n 0), (94, .getfield 11), (97, .iload_n 3), (98, .aaload), (99, .ifnonnull 13), (102, .aload_n 0), (103, .getfield 11), (106, .iload_n 3), (107, .bipush 64)]
def qC_X5_add_1 : List (Nat × Instr) := [(109, .newarray .long), (111, .aastore), (112, .iload 4), (114, .aload_n 0), (115, .getfield 11), (118, .iload_n 3), (119, .aaload), (120, .arraylength), (121, .if_icmp .ge 23), (124, .aload_n 0), (125, .getfield 11), (128, .iload_n 3), (129, .aaload), (130, .iload 4), (132, .lload_n 1), (133, .lastore), (134, .aload_n 0), (135, .dup), (136, .getfield 19), (139, .iconst 1), (140, .iadd), (141, .putfield 19), (144, .return_)]
def qM_X5_add : QM := (yX5_add, cX5_add, 7, none, RX5, false, [], qK_X5, qC_X5_add_0 ++ qC_X5_add_1)
def qC_X5_removeAt_0 : List (Nat × Instr) := [(0, .iload_n 1), (1, .ifCond .lt 11), (4, .iload_n 1), (5, .aload_n 0), (6, .getfield 19), (9, .if_icmp .lt 4), (12, .return_), (13, .iload_n 1), (14, .iconst 1), (15, .iadd), (16, .istore_n 2), (17, .iload_n 2), (18, .aload_n 0), (19, .getfield 19), (22, .if_icmp .ge 21), (25, .aload_n 0), (26, .iload_n 2), (27, .iconst 1), (28, .isub), (29, .aload_n 0), (30, .iload_n 2), (31, .invokevirtual 22), (34, .invokevirtual 26), (37, .iinc 2 1), (40, .goto (-23)), (43, .aload_n 0), (44, .dup), (45, .getfield 19), (48, .iconst 1), (49, .isub), (50, .putfield 19), (53, .return_)]
def qM_X5_removeAt : QM := (yX5_removeAt, cX5_removeAt, 3, none, RX5, false, [], qK_X5, qC_X5_removeAt_0)
def qC_X5_put_0 : List (Nat × Instr) := [(0, .iload_n 1), (1, .bipush 6), (3, .ishr), (4, .istore 4), (6, .iload_n 1), (7, .bipush 63), (9, .iand), (10, .istore 5), (12, .iload_n 1), (13, .ifCond .lt 55), (16, .iload_n 1), (17, .aload_n 0), (18, .getfield 19), (21, .if_icmp .ge 47), (24, .iload 4), (26, .aload_n 0), (27, .getfield 11), (30, .arraylength), (31, .if_icmp .ge 37), (34, .aload_n 0), (35, .getfield 11), (38, .iload 4), (40, .aaload), (41, .ifnull 27), (44, .iload 5), (46, .aload_n 0), (47, .getfield 11), (50, .iload 4), (52, .aaload), (53, .arraylength), (54, .if_icmp .ge 14), (57, .aload_n 0), (58, .getfield 11), (61, .iload 4), (63, .aaload), (64, .iload 5), (66, .lload_n 2), (67, .lastore), (68, .return_)]
def qM_X5_put : QM := (yX5_put, cX5_put, 6, none, RX5, false, [], qK_X5, qC_X5_put_0)
def qC_X5_cut_0 : List (Nat × Instr) := [(0, .aload_n 0), (1, .aload_n 0), (2, .getfield 19), (5, .iconst 0), (6, .iload_n 1), (7, .invokestatic 30), (10, .invokestatic 36), (13, .putfield 19), (16, .aload_n 0), (17, .getfield 19), (20, .bipush 6), (22, .ishr), (23, .istore_n 2), (24, .iload_n 2), (25, .istore_n 3), (26, .iload_n 3), (27, .aload_n 0), (28, .getfield 15), (31, .if_icmp .ge 75), (34, .iload_n 3), (35, .aload_n 0), (36, .getfield 11), (39, .arraylength), (40, .if_icmp .ge 66), (43, .iload_n 3), (44, .iload_n 2), (45, .if_icmp .ne 26), (48, .aload_n 0), (49, .getfield 19), (52, .bipush 63), (54, .iand), (55, .ifCond .le 16), (58, .aload_n 0), (59, .getfield 11), (62, .iload_n 3), (63, .aaload), (64, .ifnull 7), (67, .iconst 1), (68, .goto 4), (71, .iconst 0), (72, .istore 4), (74, .aload_n 0), (75, .getfield 11), (78, .iload_n 3), (79, .iload 4), (81, .ifCond .eq 17), (84, .aload_n 0), (85, .getfield 11), (88, .iload_n 3), (89, .aaload), (90, .bipush 64), (92, .invokestatic 39), (95, .goto 4), (98, .aconst_null), (99, .aastore), (100, .iinc 3 1), (103, .goto (-77)), (106, .aload_n 0), (107, .aload_n 0), (108, .getfield 15)]
def qC_X5_cut_1 : List (Nat × Instr) := [(111, .iload_n 2), (112, .invokestatic 36), (115, .putfield 15), (118, .return_)]
def qM_X5_cut : QM := (yX5_cut, cX5_cut, 5, none, RX5, false, [], qK_X5, qC_X5_cut_0 ++ qC_X5_cut_1)
def qC_X5_becomeFirst_0 : List (Nat × Instr) := [(0, .aload_n 1), (1, .getfield 19), (4, .iconst 0), (5, .iload_n 2), (6, .invokestatic 30), (9, .invokestatic 36), (12, .istore_n 3), (13, .iload_n 3), (14, .bipush 6), (16, .ishr), (17, .aload_n 1), (18, .getfield 11), (21, .arraylength), (22, .invokestatic 36), (25, .istore 4), (27, .aload_n 0), (28, .iload 4), (30, .iconst 1), (31, .iadd), (32, .anewarray 9), (35, .putfield 11), (38, .iconst 0), (39, .istore 5), (41, .iload 5), (43, .iload 4), (45, .if_icmp .ge 23), (48, .aload_n 0), (49, .getfield 11), (52, .iload 5), (54, .aload_n 1), (55, .getfield 11), (58, .iload 5), (60, .aaload), (61, .aastore), (62, .iinc 5 1), (65, .goto (-24)), (68, .aload_n 0), (69, .iload 4), (71, .putfield 15), (74, .aload_n 0), (75, .iload 4), (77, .bipush 6), (79, .ishl), (80, .putfield 19), (83, .aload_n 0), (84, .getfield 19), (87, .istore 5), (89, .iload 5), (91, .iload_n 3), (92, .if_icmp .ge 19), (95, .aload_n 0), (96, .aload_n 1), (97, .iload 5), (99, .invokevirtual 22), (102, .invokevirtual 45), (105, .iinc 5 1), (108, .goto (-19)), (111, .return_)]
def qM_X5_becomeFirst : QM := (yX5_becomeFirst, cX5_becomeFirst, 6, none, RX5, false, [], qK_X5, qC_X5_becomeFirst_0)
def qC_X6_init_0 : List (Nat × Instr) := [(0, .aload_n 0), (1, .invokespecial 3), (4, .aload_n 0), (5, .iconst 0), (6, .putfield 9), (9, .aload_n 0), (10, .iconst (-1)), (11, .putfield 15), (14, .aload_n 0), (15, .iconst 0), (16, .putfield 18), (19, .aload_n 0), (20, .iconst 0), (21, .putfield 21), (24, .aload_n 0), (25, .iconst (-1)), (26, .putfield 24), (29, .aload_n 0), (30, .iconst (-1)), (31, .putfield 27), (34, .aload_n 0), (35, .iconst (-1)), (36, .putfield 30), (39, .aload_n 0), (40, .iconst 0), (41, .putfield 33), (44, .aload_n 0), (45, .iconst 0), (46, .putfield 36), (49, .aload_n 0), (50, .iconst 0), (51, .putfield 39), (54, .aload_n 0), (55, .new 42), (58, .dup), (59, .new 44), (62, .dup), (63, .invokespecial 46), (66, .invokespecial 47), (69, .putfield 50), (72, .aload_n 0), (73, .new 44), (76, .dup), (77, .invokespecial 46), (80, .putfield 54), (83, .aload_n 0), (84, .new 44), (87, .dup), (88, .invokespecial 46), (91, .putfield 58), (94, .aload_n 0), (95, .new 44), (98, .dup), (99, .invokespecial 46), (102, .putfield 61), (105, .aload_n 0), (106, .iload_n 1), (107, .putfield 64), (110, .aload_n 0), (111, .iload_n 2)]
def qC_X6_init_1 : List (Nat × Instr) := [(112, .putfield 67), (115, .aload_n 0), (116, .iload_n 3), (117, .putfield 70), (120, .aload_n 0), (121, .iload 4), (123, .putfield 73), (126, .aload_n 0), (127, .iload 5), (129, .putfield 76), (132, .aload_n 0), (133, .iload 6), (135, .putfield 79), (138, .return_)]
def qM_X6_init : QM := (yX6_init, cX6_init, 7, none, RX6, true, [], qK_X6, qC_X6_init_0 ++ qC_X6_init_1)
def qC_X6_isAlive_0 : List (Nat × Instr) := [(0, .aload_n 0), (1, .getfield 9), (4, .ifCond .eq 12), (7, .aload_n 0), (8, .getfield 9), (11, .bipush 6), (13, .if_icmp .ne 7), (16, .iconst 1), (17, .goto 4), (20, .iconst 0), (21, .ireturn)]
def qM_X6_isAlive : QM := (yX6_isAlive, cX6_isAlive, 1, (some .boolean), RX6, false, [], qK_X6, qC_X6_isAlive_0)
def qC_X6_hasWork_0 : List (Nat × Instr) := [(0, .aload_n 0), (1, .getfield 9), (4, .ifCond .ne 24), (7, .aload_n 0), (8, .getfield 50), (11, .getfield 82), (14, .aload_n 0), (15, .getfield 50), (18, .getfield 85), (21, .if_icmp .le 7), (24, .iconst 1), (25, .goto 4), (28, .iconst 0), (29, .ireturn)]
def qM_X6_hasWork : QM := (yX6_hasWork, cX6_hasWork, 1, (some .boolean), RX6, false, [], qK_X6, qC_X6_hasWork_0)
def qC_X6_firstOrder_0 : List (Nat × Instr) := [(0, .aload_n 0), (1, .getfield 50), (4, .aload_n 0), (5, .getfield 50), (8, .invokevirtual 88), (11, .invokevirtual 92), (14, .ireturn)]
def qM_X6_firstOrder : QM := (yX6_firstOrder, cX6_firstOrder, 1, (some .int), RX6, false, [], qK_X6, qC_X6_firstOrder_0)
def qC_X6_mark_0 : List (Nat × Instr) := [(0, .aload_n 0), (1, .getfield 21), (4, .sipush 1000), (7, .imul), (8, .aload_n 0), (9, .getfield 50), (12, .getfield 96), (15, .iadd), (16, .iconst 4), (17, .imul), (18, .aload_n 0), (19, .getfield 73), (22, .iadd), (23, .ireturn)]
def qM_X6_mark : QM := (yX6_mark, cX6_mark, 1, (some .int), RX6, false, [], qK_X6, qC_X6_mark_0)
def qC_X6_isKeptBy_0 : List (Nat × Instr) := [(0, .aload_n 0), (1, .getfield 30), (4, .iload_n 1), (5, .if_icmp .ne 18), (8, .aload_n 0), (9, .getfield 33), (12, .aload_n 0), (13, .invokevirtual 99), (16, .if_icmp .ne 7), (19, .iconst 1), (20, .goto 4), (23, .iconst 0), (24, .ireturn)]
def qM_X6_isKeptBy : QM := (yX6_isKeptBy, cX6_isKeptBy, 2, (some .boolean), RX6, false, [], qK_X6, qC_X6_isKeptBy_0)
def qC_X6_addTimer_0 : List (Nat × Instr) := [(0, .aload_n 0), (1, .getfield 54), (4, .iload_n 1), (5, .i2l), (6, .invokevirtual 102), (9, .aload_n 0), (10, .getfield 58), (13, .iload_n 2), (14, .i2l), (15, .invokevirtual 102), (18, .return_)]
def qM_X6_addTimer : QM := (yX6_addTimer, cX6_addTimer, 3, none, RX6, false, [], qK_X6, qC_X6_addTimer_0)
def qC_X6_dropTimer_0 : List (Nat × Instr) := [(0, .aload_n 0), (1, .getfield 54), (4, .getfield 106), (7, .iconst 1), (8, .isub), (9, .istore_n 2), (10, .iload_n 2), (11, .ifCond .lt 37), (14, .aload_n 0), (15, .getfield 54), (18, .iload_n 2), (19, .invokevirtual 109), (22, .iload_n 1), (23, .if_icmp .ne 19), (26, .aload_n 0), (27, .getfield 54), (30, .iload_n 2), (31, .invokevirtual 112), (34, .aload_n 0), (35, .getfield 58), (38, .iload_n 2), (39, .invokevirtual 112), (42, .iinc 2 (-1)), (45, .goto (-35)), (48, .return_)]
def qM_X6_dropTimer : QM := (yX6_dropTimer, cX6_dropTimer, 3, none, RX6, false, [], qK_X6, qC_X6_dropTimer_0)
def qC_X7_init_0 : List (Nat × Instr) := [(0, .aload_n 0), (1, .invokespecial 1), (4, .aload_n 0), (5, .iconst 0), (6, .putfield 7), (9, .aload_n 0), (10, .iconst (-1)), (11, .putfield 13), (14, .aload_n 0), (15, .iconst 0), (16, .putfield 17), (19, .aload_n 0), (20, .iconst 0), (21, .putfield 20), (24, .aload_n 0), (25, .iload_n 1), (26, .putfield 23), (29, .aload_n 0), (30, .iload_n 2), (31, .putfield 26), (34, .aload_n 0), (35, .iload_n 3), (36, .putfield 29), (39, .aload_n 0), (40, .iload 4), (42, .putfield 32), (45, .aload_n 0), (46, .iload 5), (48, .putfield 35), (51, .return_)]
def qM_X7_init : QM := (yX7_init, cX7_init, 6, none, RX7, true, [], qK_X7, qC_X7_init_0)
def qC_X7_isPoint_0 : List (Nat × Instr) := [(0, .aload_n 0), (1, .getfield 29), (4, .ifCond .le 18), (7, .iload_n 1), (8, .aload_n 0), (9, .getfield 29), (12, .invokestatic 38), (15, .ifCond .ne 7), (18, .iconst 1), (19, .goto 4), (22, .iconst 0), (23, .ireturn)]
def qM_X7_isPoint : QM := (yX7_isPoint, cX7_isPoint, 2, (some .boolean), RX7, false, [], qK_X7, qC_X7_isPoint_0)
def qC_X7_pointsSoFar_0 : List (Nat × Instr) := [(0, .aload_n 0), (1, .getfield 29), (4, .ifCond .le 22), (7, .aload_n 0), (8, .getfield 35), (11, .ifCond .le 15), (14, .aload_n 0), (15, .getfield 35), (18, .aload_n 0), (19, .getfield 29), (22, .idiv), (23, .goto 4), (26, .iconst 0), (27, .ireturn)]
def qM_X7_pointsSoFar : QM := (yX7_pointsSoFar, cX7_pointsSoFar, 1, (some .int), RX7, false, [], qK_X7, qC_X7_pointsSoFar_0)
def qC_X8_init_0 : List (Nat × Instr) := [(0, .aload_n 0), (1, .invokespecial 3), (4, .aload_n 0), (5, .bipush 6), (7, .newarray .int), (9, .putfield 9), (12, .aload_n 0), (13, .bipush 12), (15, .anewarray 15), (18, .putfield 17), (21, .aload_n 0), (22, .iconst 4), (23, .anewarray 21), (26, .putfield 23), (29, .aload_n 0), (30, .new 21), (33, .dup), (34, .invokespecial 27), (37, .putfield 28), (40, .aload_n 0), (41, .iconst 0), (42, .putfield 32), (45, .aload_n 0), (46, .iconst 0), (47, .putfield 36), (50, .aload_n 0), (51, .iconst 0), (52, .putfield 39), (55, .aload_n 0), (56, .iconst 0), (57, .putfield 42), (60, .aload_n 0), (61, .iconst 0), (62, .putfield 45), (65, .aload_n 0), (66, .iconst 0), (67, .putfield 49), (70, .aload_n 0), (71, .iconst 0), (72, .putfield 52), (75, .aload_n 0), (76, .iconst 0), (77, .putfield 55), (80, .aload_n 0), (81, .iconst 0), (82, .putfield 58), (85, .aload_n 0), (86, .iconst 0), (87, .putfield 61), (90, .iconst 0), (91, .istore_n 1), (92, .iload_n 1), (93, .aload_n 0), (94, .getfield 17), (97, .arraylength), (98, .if_icmp .ge 22), (101, .aload_n 0), (102, .getfield 17), (105, .iload_n 1), (106, .new 15)]
def qC_X8_init_1 : List (Nat × Instr) := [(109, .dup), (110, .invokespecial 64), (113, .aastore), (114, .iinc 1 1), (117, .goto (-25)), (120, .iconst 0), (121, .istore_n 1), (122, .iload_n 1), (123, .aload_n 0), (124, .getfield 23), (127, .arraylength), (128, .if_icmp .ge 22), (131, .aload_n 0), (132, .getfield 23), (135, .iload_n 1), (136, .new 21), (139, .dup), (140, .invokespecial 27), (143, .aastore), (144, .iinc 1 1), (147, .goto (-25)), (150, .return_)]
def qM_X8_init : QM := (yX8_init, cX8_init, 2, none, RX8, true, [], qK_X8, qC_X8_init_0 ++ qC_X8_init_1)
def qC_X8_clear_0 : List (Nat × Instr) := [(0, .aload_n 0), (1, .getfield 9), (4, .iconst 0), (5, .invokestatic 65), (8, .iconst 0), (9, .istore_n 1), (10, .iload_n 1), (11, .aload_n 0), (12, .getfield 23), (15, .arraylength), (16, .if_icmp .ge 19), (19, .aload_n 0), (20, .getfield 23), (23, .iload_n 1), (24, .aaload), (25, .iconst 0), (26, .invokevirtual 71), (29, .iinc 1 1), (32, .goto (-22)), (35, .aload_n 0), (36, .getfield 28), (39, .iconst 0), (40, .invokevirtual 71), (43, .aload_n 0), (44, .iconst 0), (45, .putfield 32), (48, .aload_n 0), (49, .iconst 0), (50, .putfield 36), (53, .aload_n 0), (54, .iconst 0), (55, .putfield 39), (58, .aload_n 0), (59, .iconst 0), (60, .putfield 42), (63, .aload_n 0), (64, .iconst 0), (65, .putfield 45), (68, .aload_n 0), (69, .iconst 0), (70, .putfield 49), (73, .aload_n 0), (74, .iconst 0), (75, .putfield 52), (78, .aload_n 0), (79, .iconst 0), (80, .putfield 55), (83, .aload_n 0), (84, .iconst 0), (85, .putfield 58), (88, .aload_n 0), (89, .iconst 0), (90, .putfield 61), (93, .return_)]
def qM_X8_clear : QM := (yX8_clear, cX8_clear, 2, none, RX8, false, [], qK_X8, qC_X8_clear_0)
def qC_X8_pushed_0 : List (Nat × Instr) := [(0, .aload_n 0), (1, .getfield 28), (4, .iload_n 1), (5, .i2l), (6, .ldc2_w 75), (9, .lmul), (10, .iload_n 2), (11, .i2l), (12, .ladd), (13, .invokevirtual 77), (16, .aload_n 0), (17, .getfield 28), (20, .getfield 81), (23, .ireturn)]
def qM_X8_pushed : QM := (yX8_pushed, cX8_pushed, 3, (some .int), RX8, false, [], qK_X8, qC_X8_pushed_0)
def qC_X8_top_0 : List (Nat × Instr) := [(0, .aload_n 0), (1, .getfield 28), (4, .iload_n 1), (5, .iconst 1), (6, .isub), (7, .invokevirtual 84), (10, .ldc2_w 75), (13, .lrem), (14, .l2i), (15, .ireturn)]
def qM_X8_top : QM := (yX8_top, cX8_top, 2, (some .int), RX8, false, [], qK_X8, qC_X8_top_0)
def qC_X8_popped_0 : List (Nat × Instr) := [(0, .aload_n 0), (1, .getfield 28), (4, .iload_n 1), (5, .iconst 1), (6, .isub), (7, .invokevirtual 84), (10, .ldc2_w 75), (13, .ldiv), (14, .l2i), (15, .ireturn)]
def qM_X8_popped : QM := (yX8_popped, cX8_popped, 2, (some .int), RX8, false, [], qK_X8, qC_X8_popped_0)
def qC_X8_value_0 : List (Nat × Instr) := [(0, .iload_n 1), (1, .ifCond .lt 21), (4, .iload_n 1), (5, .aload_n 0), (6, .getfield 9), (9, .arraylength), (10, .if_icmp .ge 12), (13, .aload_n 0), (14, .getfield 9), (17, .iload_n 1), (18, .iaload), (19, .goto 4), (22, .iconst 0), (23, .ireturn)]
def qM_X8_value : QM := (yX8_value, cX8_value, 2, (some .int), RX8, false, [], qK_X8, qC_X8_value_0)
def qC_X8_set_0 : List (Nat × Instr) := [(0, .iload_n 1), (1, .ifCond .lt 19), (4, .iload_n 1), (5, .aload_n 0), (6, .getfield 9), (9, .arraylength), (10, .if_icmp .ge 10), (13, .aload_n 0), (14, .getfield 9), (17, .iload_n 1), (18, .iload_n 2), (19, .iastore), (20, .return_)]
def qM_X8_set : QM := (yX8_set, cX8_set, 3, none, RX8, false, [], qK_X8, qC_X8_set_0)
def qC_X8_queue_0 : List (Nat × Instr) := [(0, .aload_n 0), (1, .getfield 23), (4, .iload_n 1), (5, .aload_n 0), (6, .getfield 23), (9, .arraylength), (10, .invokestatic 88), (13, .aaload), (14, .areturn)]
def qM_X8_queue : QM := (yX8_queue, cX8_queue, 2, (some (.object "DurableLoom$Row")), RX8, false, [], qK_X8, qC_X8_queue_0)
def qC_X8_branchAt_0 : List (Nat × Instr) := [(0, .iload_n 1), (1, .ifCond .lt 29), (4, .iload_n 1), (5, .aload_n 0), (6, .getfield 36), (9, .if_icmp .ge 21), (12, .iload_n 1), (13, .aload_n 0), (14, .getfield 17), (17, .arraylength), (18, .if_icmp .ge 12), (21, .aload_n 0), (22, .getfield 17), (25, .iload_n 1), (26, .aaload), (27, .goto 4), (30, .aconst_null), (31, .areturn)]
def qM_X8_branchAt : QM := (yX8_branchAt, cX8_branchAt, 2, (some (.object "DurableLoom$Branch")), RX8, false, [], qK_X8, qC_X8_branchAt_0)
def qC_X8_find_0 : List (Nat × Instr) := [(0, .iconst 0), (1, .istore_n 2), (2, .iload_n 2), (3, .aload_n 0), (4, .getfield 36), (7, .if_icmp .ge 38), (10, .iload_n 2), (11, .aload_n 0), (12, .getfield 17), (15, .arraylength), (16, .if_icmp .ge 29), (19, .aload_n 0), (20, .getfield 17), (23, .iload_n 2), (24, .aaload), (25, .getfield 94), (28, .iload_n 1), (29, .if_icmp .ne 10), (32, .aload_n 0), (33, .getfield 17), (36, .iload_n 2), (37, .aaload), (38, .areturn), (39, .iinc 2 1), (42, .goto (-40)), (45, .aconst_null), (46, .areturn)]
def qM_X8_find : QM := (yX8_find, cX8_find, 3, (some (.object "DurableLoom$Branch")), RX8, false, [], qK_X8, qC_X8_find_0)
def qC_X8_beginBranch_0 : List (Nat × Instr) := [(0, .aload_n 0), (1, .getfield 39), (4, .istore_n 3), (5, .aload_n 0), (6, .getfield 36), (9, .aload_n 0), (10, .getfield 17), (13, .arraylength), (14, .if_icmp .ge 38), (17, .aload_n 0), (18, .getfield 17), (21, .aload_n 0), (22, .getfield 36), (25, .aaload), (26, .iload_n 3), (27, .iload_n 1), (28, .iload_n 2), (29, .invokevirtual 97), (32, .aload_n 0), (33, .dup), (34, .getfield 36), (37, .iconst 1), (38, .iadd), (39, .putfield 36), (42, .aload_n 0), (43, .dup), (44, .getfield 39), (47, .iconst 1), (48, .iadd), (49, .putfield 39), (52, .iload_n 3), (53, .ireturn)]
def qM_X8_beginBranch : QM := (yX8_beginBranch, cX8_beginBranch, 4, (some .int), RX8, false, [], qK_X8, qC_X8_beginBranch_0)
def qC_X8_remove_0 : List (Nat × Instr) := [(0, .iconst 0), (1, .istore_n 2), (2, .iload_n 2), (3, .aload_n 0), (4, .getfield 36), (7, .if_icmp .ge 28), (10, .iload_n 2), (11, .aload_n 0), (12, .getfield 17), (15, .arraylength), (16, .if_icmp .ge 19), (19, .aload_n 0), (20, .getfield 17), (23, .iload_n 2), (24, .aaload), (25, .aload_n 1), (26, .if_acmp .eq 9), (29, .iinc 2 1), (32, .goto (-30)), (35, .iload_n 2), (36, .aload_n 0), (37, .getfield 36), (40, .if_icmp .ge 12), (43, .iload_n 2), (44, .aload_n 0), (45, .getfield 17), (48, .arraylength), (49, .if_icmp .lt 4), (52, .return_), (53, .iload_n 2), (54, .iconst 1), (55, .iadd), (56, .istore_n 3), (57, .iload_n 3), (58, .aload_n 0), (59, .getfield 36), (62, .if_icmp .ge 32), (65, .iload_n 3), (66, .aload_n 0), (67, .getfield 17), (70, .arraylength), (71, .if_icmp .ge 23), (74, .aload_n 0), (75, .getfield 17), (78, .iload_n 3), (79, .iconst 1), (80, .isub), (81, .aload_n 0), (82, .getfield 17), (85, .iload_n 3), (86, .aaload), (87, .aastore), (88, .iinc 3 1), (91, .goto (-34)), (94, .aload_n 0), (95, .dup), (96, .getfield 36), (99, .iconst 1), (100, .isub), (101, .putfield 36)]
def qC_X8_remove_1 : List (Nat × Instr) := [(104, .aload_n 0), (105, .getfield 17), (108, .aload_n 0), (109, .getfield 36), (112, .aload_n 1), (113, .aastore), (114, .iconst 0), (115, .istore_n 3), (116, .iload_n 3), (117, .aload_n 0), (118, .getfield 36), (121, .if_icmp .ge 38), (124, .aload_n 0), (125, .getfield 17), (128, .iload_n 3), (129, .aaload), (130, .getfield 101), (133, .aload_n 1), (134, .getfield 94), (137, .if_icmp .ne 16), (140, .aload_n 0), (141, .getfield 17), (144, .iload_n 3), (145, .aaload), (146, .aload_n 1), (147, .getfield 101), (150, .putfield 101), (153, .iinc 3 1), (156, .goto (-40)), (159, .return_)]
def qM_X8_remove : QM := (yX8_remove, cX8_remove, 4, none, RX8, false, [], qK_X8, qC_X8_remove_0 ++ qC_X8_remove_1)
def qC_X8_firstAble_0 : List (Nat × Instr) := [(0, .iconst 0), (1, .istore_n 1), (2, .iload_n 1), (3, .aload_n 0), (4, .getfield 36), (7, .if_icmp .ge 38), (10, .iload_n 1), (11, .aload_n 0), (12, .getfield 17), (15, .arraylength), (16, .if_icmp .ge 29), (19, .aload_n 0), (20, .aload_n 0), (21, .getfield 17), (24, .iload_n 1), (25, .aaload), (26, .invokevirtual 104), (29, .ifCond .eq 10), (32, .aload_n 0), (33, .getfield 17), (36, .iload_n 1), (37, .aaload), (38, .areturn), (39, .iinc 1 1), (42, .goto (-40)), (45, .aconst_null), (46, .areturn)]
def qM_X8_firstAble : QM := (yX8_firstAble, cX8_firstAble, 2, (some (.object "DurableLoom$Branch")), RX8, false, [], qK_X8, qC_X8_firstAble_0)
def qC_X8_isAble_0 : List (Nat × Instr) := [(0, .aload_n 1), (1, .getfield 108), (4, .tableswitch 75 0 4 #[36, 75, 75, 38, 58]), (40, .iconst 1), (41, .ireturn), (42, .aload_n 0), (43, .aload_n 1), (44, .getfield 111), (47, .invokevirtual 114), (50, .getfield 81), (53, .ifCond .le 7), (56, .iconst 1), (57, .goto 4), (60, .iconst 0), (61, .ireturn), (62, .aload_n 0), (63, .aload_n 1), (64, .getfield 94), (67, .invokevirtual 118), (70, .ifCond .ne 7), (73, .iconst 1), (74, .goto 4), (77, .iconst 0), (78, .ireturn), (79, .iconst 0), (80, .ireturn)]
def qM_X8_isAble : QM := (yX8_isAble, cX8_isAble, 2, (some .boolean), RX8, false, [], qK_X8, qC_X8_isAble_0)
def qC_X8_isParent_0 : List (Nat × Instr) := [(0, .iconst 0), (1, .istore_n 2), (2, .iload_n 2), (3, .aload_n 0), (4, .getfield 36), (7, .if_icmp .ge 33), (10, .iload_n 2), (11, .aload_n 0), (12, .getfield 17), (15, .arraylength), (16, .if_icmp .ge 24), (19, .aload_n 0), (20, .getfield 17), (23, .iload_n 2), (24, .aaload), (25, .getfield 122), (28, .iload_n 1), (29, .if_icmp .ne 5), (32, .iconst 1), (33, .ireturn), (34, .iinc 2 1), (37, .goto (-35)), (40, .iconst 0), (41, .ireturn)]
def qM_X8_isParent : QM := (yX8_isParent, cX8_isParent, 3, (some .boolean), RX8, false, [], qK_X8, qC_X8_isParent_0)
def qC_X8_waiterFor_0 : List (Nat × Instr) := [(0, .iconst 0), (1, .istore_n 2), (2, .iload_n 2), (3, .aload_n 0), (4, .getfield 36), (7, .if_icmp .ge 50), (10, .iload_n 2), (11, .aload_n 0), (12, .getfield 17), (15, .arraylength), (16, .if_icmp .ge 41), (19, .aload_n 0), (20, .getfield 17), (23, .iload_n 2), (24, .aaload), (25, .invokevirtual 125), (28, .ifCond .eq 23), (31, .aload_n 0), (32, .getfield 17), (35, .iload_n 2), (36, .aaload), (37, .getfield 111), (40, .iload_n 1), (41, .if_icmp .ne 10), (44, .aload_n 0), (45, .getfield 17), (48, .iload_n 2), (49, .aaload), (50, .areturn), (51, .iinc 2 1), (54, .goto (-52)), (57, .aconst_null), (58, .areturn)]
def qM_X8_waiterFor : QM := (yX8_waiterFor, cX8_waiterFor, 3, (some (.object "DurableLoom$Branch")), RX8, false, [], qK_X8, qC_X8_waiterFor_0)
def qC_X8_waitsForSignal_0 : List (Nat × Instr) := [(0, .iconst 0), (1, .istore_n 2), (2, .iload_n 2), (3, .aload_n 0), (4, .getfield 36), (7, .if_icmp .ge 46), (10, .iload_n 2), (11, .aload_n 0), (12, .getfield 17), (15, .arraylength), (16, .if_icmp .ge 37), (19, .aload_n 0), (20, .getfield 17), (23, .iload_n 2), (24, .aaload), (25, .getfield 108), (28, .iconst 3), (29, .if_icmp .ne 18), (32, .aload_n 0), (33, .getfield 17), (36, .iload_n 2), (37, .aaload), (38, .getfield 111), (41, .iload_n 1), (42, .if_icmp .ne 5), (45, .iconst 1), (46, .ireturn), (47, .iinc 2 1), (50, .goto (-48)), (53, .iconst 0), (54, .ireturn)]
def qM_X8_waitsForSignal : QM := (yX8_waitsForSignal, cX8_waitsForSignal, 3, (some .boolean), RX8, false, [], qK_X8, qC_X8_waitsForSignal_0)
def qC_X8_doom_0 : List (Nat × Instr) := [(0, .aload_n 1), (1, .iconst 1), (2, .putfield 129), (5, .iconst 0), (6, .istore_n 2), (7, .iload_n 2), (8, .aload_n 0), (9, .getfield 36), (12, .if_icmp .ge 53), (15, .iload_n 2), (16, .aload_n 0), (17, .getfield 17), (20, .arraylength), (21, .if_icmp .ge 44), (24, .aload_n 0), (25, .aload_n 0), (26, .getfield 17), (29, .iload_n 2), (30, .aaload), (31, .getfield 101), (34, .invokevirtual 132), (37, .astore_n 3), (38, .aload_n 3), (39, .ifnull 20), (42, .aload_n 3), (43, .getfield 129), (46, .ifCond .eq 13), (49, .aload_n 0), (50, .getfield 17), (53, .iload_n 2), (54, .aaload), (55, .iconst 1), (56, .putfield 129), (59, .iinc 2 1), (62, .goto (-55)), (65, .return_)]
def qM_X8_doom : QM := (yX8_doom, cX8_doom, 4, none, RX8, false, [], qK_X8, qC_X8_doom_0)
def qC_X9_init_0 : List (Nat × Instr) := [(0, .aload_n 0), (1, .invokespecial 1), (4, .aload_n 0), (5, .iconst 0), (6, .putfield 7), (9, .aload_n 0), (10, .iload_n 1), (11, .putfield 13), (14, .aload_n 0), (15, .aload_n 2), (16, .putfield 17), (19, .aload_n 0), (20, .iload_n 3), (21, .putfield 21), (24, .aload_n 0), (25, .aload_n 2), (26, .getfield 24), (29, .getfield 30), (32, .putfield 35), (35, .aload_n 0), (36, .aload_n 2), (37, .invokevirtual 36), (40, .putfield 40), (43, .return_)]
def qM_X9_init : QM := (yX9_init, cX9_init, 4, none, RX9, true, [], qK_X9, qC_X9_init_0)
def qC_X10_init_0 : List (Nat × Instr) := [(0, .aload_n 0), (1, .invokespecial 1), (4, .aload_n 0), (5, .new 7), (8, .dup), (9, .invokespecial 9), (12, .putfield 10), (15, .aload_n 0), (16, .new 16), (19, .dup), (20, .invokespecial 18), (23, .putfield 19), (26, .aload_n 0), (27, .iconst 0), (28, .putfield 23), (31, .return_)]
def qM_X10_init : QM := (yX10_init, cX10_init, 1, none, RX10, true, [], qK_X10, qC_X10_init_0)
def qC_X10_packed_0 : List (Nat × Instr) := [(0, .iload_n 0), (1, .ldc 27), (3, .imul), (4, .iload_n 1), (5, .sipush 1000), (8, .imul), (9, .iadd), (10, .iload_n 2), (11, .iadd), (12, .ireturn)]
def qM_X10_packed : QM := (yX10_packed, cX10_packed, 3, (some .int), RX10, false, [], qK_X10, qC_X10_packed_0)
def qC_X10_code_0 : List (Nat × Instr) := [(0, .iload_n 1), (1, .ifCond .lt 28), (4, .iload_n 1), (5, .aload_n 0), (6, .getfield 10), (9, .invokevirtual 28), (12, .if_icmp .ge 17), (15, .aload_n 0), (16, .getfield 10), (19, .iload_n 1), (20, .invokevirtual 32), (23, .checkcast 16), (26, .goto 7), (29, .aload_n 0), (30, .getfield 19), (33, .areturn)]
def qM_X10_code : QM := (yX10_code, cX10_code, 2, (some (.object "DurableLoom$Row")), RX10, false, [], qK_X10, qC_X10_code_0)
def qC_X10_draftBecomesVersion_0 : List (Nat × Instr) := [(0, .aload_n 0), (1, .getfield 10), (4, .aload_n 0), (5, .getfield 19), (8, .invokevirtual 36), (11, .pop), (12, .aload_n 0), (13, .new 16), (16, .dup), (17, .invokespecial 18), (20, .putfield 19), (23, .return_)]
def qM_X10_draftBecomesVersion : QM := (yX10_draftBecomesVersion, cX10_draftBecomesVersion, 1, none, RX10, false, [], qK_X10, qC_X10_draftBecomesVersion_0)
def qC_X11_init_0 : List (Nat × Instr) := [(0, .aload_n 0), (1, .invokespecial 1), (4, .aload_n 0), (5, .iconst 4), (6, .anewarray 9), (9, .putfield 11), (12, .aload_n 0), (13, .iconst 4), (14, .anewarray 15), (17, .putfield 17), (20, .aload_n 0), (21, .new 21), (24, .dup), (25, .invokespecial 23), (28, .putfield 24), (31, .aload_n 0), (32, .new 21), (35, .dup), (36, .invokespecial 23), (39, .putfield 28), (42, .aload_n 0), (43, .new 21), (46, .dup), (47, .invokespecial 23), (50, .putfield 31), (53, .aload_n 0), (54, .new 21), (57, .dup), (58, .invokespecial 23), (61, .putfield 34), (64, .aload_n 0), (65, .iconst 3), (66, .newarray .int), (68, .putfield 37), (71, .aload_n 0), (72, .iconst 3), (73, .newarray .int), (75, .putfield 41), (78, .aload_n 0), (79, .iconst 3), (80, .newarray .int), (82, .putfield 44), (85, .aload_n 0), (86, .new 47), (89, .dup), (90, .invokespecial 49), (93, .putfield 50), (96, .aload_n 0), (97, .new 54), (100, .dup), (101, .invokespecial 56), (104, .putfield 57), (107, .aload_n 0), (108, .iconst 0), (109, .putfield 61), (112, .aload_n 0), (113, .iconst 0), (114, .putfield 65), (117, .aload_n 0), (118, .iconst 3)]
def qC_X11_init_1 : List (Nat × Instr) := [(119, .putfield 68), (122, .aload_n 0), (123, .iconst 0), (124, .putfield 71), (127, .aload_n 0), (128, .iconst 0), (129, .putfield 74), (132, .aload_n 0), (133, .iconst 0), (134, .putfield 77), (137, .aload_n 0), (138, .iconst 1), (139, .putfield 80), (142, .iconst 0), (143, .istore_n 1), (144, .iload_n 1), (145, .aload_n 0), (146, .getfield 11), (149, .arraylength), (150, .if_icmp .ge 22), (153, .aload_n 0), (154, .getfield 11), (157, .iload_n 1), (158, .new 9), (161, .dup), (162, .invokespecial 84), (165, .aastore), (166, .iinc 1 1), (169, .goto (-25)), (172, .iconst 0), (173, .istore_n 1), (174, .iload_n 1), (175, .aload_n 0), (176, .getfield 17), (179, .arraylength), (180, .if_icmp .ge 22), (183, .aload_n 0), (184, .getfield 17), (187, .iload_n 1), (188, .new 15), (191, .dup), (192, .invokespecial 85), (195, .aastore), (196, .iinc 1 1), (199, .goto (-25)), (202, .return_)]
def qM_X11_init : QM := (yX11_init, cX11_init, 2, none, RX11, true, [], qK_X11, qC_X11_init_0 ++ qC_X11_init_1)
def qC_X11_line_0 : List (Nat × Instr) := [(0, .aload_n 0), (1, .iload_n 1), (2, .invokevirtual 86), (5, .astore 5), (7, .iload_n 2), (8, .ifCond .lt 25), (11, .iload_n 2), (12, .bipush 23), (14, .if_icmp .gt 19), (17, .iload_n 2), (18, .getstatic 90), (21, .arraylength), (22, .if_icmp .ge 11), (25, .iload_n 2), (26, .getstatic 93), (29, .arraylength), (30, .if_icmp .lt 13), (33, .new 96), (36, .dup), (37, .ldc 98), (39, .invokespecial 100), (42, .athrow), (43, .iload_n 2), (44, .iconst 3), (45, .if_icmp .ne 7), (48, .iconst 1), (49, .goto 4), (52, .iconst 0), (53, .istore 6), (55, .iload_n 3), (56, .iload 6), (58, .if_icmp .lt 27), (61, .iload_n 3), (62, .getstatic 90), (65, .iload_n 2), (66, .iaload), (67, .if_icmp .gt 18), (70, .iload 4), (72, .ifCond .lt 13), (75, .iload 4), (77, .getstatic 93), (80, .iload_n 2), (81, .iaload), (82, .if_icmp .le 13), (85, .new 96), (88, .dup), (89, .ldc 103), (91, .invokespecial 100), (94, .athrow), (95, .aload 5), (97, .getfield 105), (100, .getfield 108), (103, .bipush 24), (105, .if_icmp .lt 13), (108, .new 111), (111, .dup), (112, .ldc 113), (114, .invokespecial 115), (117, .athrow), (118, .aload 5)]
def qC_X11_line_1 : List (Nat × Instr) := [(120, .getfield 105), (123, .iload_n 2), (124, .iload_n 3), (125, .iload 4), (127, .invokestatic 116), (130, .i2l), (131, .invokevirtual 120), (134, .aload 5), (136, .getfield 105), (139, .getfield 108), (142, .ireturn)]
def qM_X11_line : QM := (yX11_line, cX11_line, 7, (some .int), RX11, false, [], qK_X11, qC_X11_line_0 ++ qC_X11_line_1)
def qC_X11_deploy_0 : List (Nat × Instr) := [(0, .aload_n 0), (1, .iload_n 1), (2, .invokevirtual 86), (5, .astore_n 2), (6, .aload_n 2), (7, .getfield 105), (10, .getfield 108), (13, .ifCond .eq 14), (16, .aload_n 2), (17, .getfield 124), (20, .invokevirtual 127), (23, .iconst 4), (24, .if_icmp .lt 13), (27, .new 111), (30, .dup), (31, .ldc 130), (33, .invokespecial 115), (36, .athrow), (37, .aload_n 2), (38, .invokevirtual 132), (41, .aload_n 2), (42, .getfield 124), (45, .invokevirtual 127), (48, .iconst 1), (49, .isub), (50, .ireturn)]
def qM_X11_deploy : QM := (yX11_deploy, cX11_deploy, 3, (some .int), RX11, false, [], qK_X11, qC_X11_deploy_0)
def qC_X11_setKind_0 : List (Nat × Instr) := [(0, .aload_n 0), (1, .iload_n 1), (2, .invokevirtual 135), (5, .astore 7), (7, .iload_n 2), (8, .iconst 1), (9, .if_icmp .lt 18), (12, .iload_n 2), (13, .iconst 4), (14, .if_icmp .gt 13), (17, .iload_n 3), (18, .ifCond .lt 9), (21, .iload_n 3), (22, .bipush 20), (24, .if_icmp .le 13), (27, .new 96), (30, .dup), (31, .ldc 139), (33, .invokespecial 100), (36, .athrow), (37, .iload 4), (39, .ifCond .lt 34), (42, .iload 4), (44, .bipush 50), (46, .if_icmp .gt 27), (49, .iload 5), (51, .ifCond .lt 22), (54, .iload 5), (56, .bipush 50), (58, .if_icmp .gt 15), (61, .iload 6), (63, .ifCond .lt 10), (66, .iload 6), (68, .bipush 50), (70, .if_icmp .le 13), (73, .new 96), (76, .dup), (77, .ldc 141), (79, .invokespecial 100), (82, .athrow), (83, .aload 7), (85, .iload_n 2), (86, .putfield 143), (89, .aload 7), (91, .iload_n 3), (92, .putfield 146), (95, .aload 7), (97, .iload 4), (99, .putfield 149), (102, .aload 7), (104, .iload 5), (106, .putfield 152), (109, .aload 7), (111, .iload 6), (113, .putfield 155), (116, .return_)]
def qM_X11_setKind : QM := (yX11_setKind, cX11_setKind, 8, none, RX11, false, [], qK_X11, qC_X11_setKind_0)
def qC_X11_setPolicy_0 : List (Nat × Instr) := [(0, .aload_n 0), (1, .iload_n 1), (2, .invokevirtual 86), (5, .astore_n 3), (6, .iload_n 2), (7, .ifCond .lt 8), (10, .iload_n 2), (11, .iconst 2), (12, .if_icmp .le 13), (15, .new 96), (18, .dup), (19, .ldc 158), (21, .invokespecial 100), (24, .athrow), (25, .aload_n 3), (26, .getfield 160), (29, .istore 4), (31, .aload_n 3), (32, .iload_n 2), (33, .putfield 160), (36, .iload 4), (38, .ireturn)]
def qM_X11_setPolicy : QM := (yX11_setPolicy, cX11_setPolicy, 5, (some .int), RX11, false, [], qK_X11, qC_X11_setPolicy_0)
def qC_X11_begin_0 : List (Nat × Instr) := [(0, .aload_n 0), (1, .iload_n 1), (2, .invokevirtual 86), (5, .astore 4), (7, .aload_n 0), (8, .iload_n 2), (9, .invokevirtual 163), (12, .aload_n 0), (13, .iload_n 3), (14, .invokevirtual 167), (17, .aload 4), (19, .getfield 124), (22, .invokevirtual 170), (25, .ifCond .ne 15), (28, .aload_n 0), (29, .getfield 24), (32, .invokevirtual 127), (35, .bipush 30), (37, .if_icmp .lt 13), (40, .new 111), (43, .dup), (44, .ldc 174), (46, .invokespecial 115), (49, .athrow), (50, .aload_n 0), (51, .iload_n 1), (52, .iload_n 2), (53, .iload_n 3), (54, .iconst (-1)), (55, .iconst 0), (56, .invokevirtual 176), (59, .getfield 180), (62, .ireturn)]
def qM_X11_begin : QM := (yX11_begin, cX11_begin, 5, (some .int), RX11, false, [], qK_X11, qC_X11_begin_0)
def qC_X11_signal_0 : List (Nat × Instr) := [(0, .aload_n 0), (1, .iload_n 1), (2, .invokevirtual 185), (5, .astore 4), (7, .aload_n 0), (8, .iload_n 2), (9, .invokevirtual 189), (12, .aload_n 0), (13, .iload_n 3), (14, .invokevirtual 167), (17, .aload 4), (19, .invokevirtual 192), (22, .ifCond .eq 16), (25, .aload 4), (27, .getfield 195), (30, .getfield 199), (33, .bipush 100), (35, .if_icmp .lt 13), (38, .new 111), (41, .dup), (42, .ldc 202), (44, .invokespecial 115), (47, .athrow), (48, .aload_n 0), (49, .aload 4), (51, .iconst 4), (52, .iload_n 2), (53, .iload_n 3), (54, .invokevirtual 204), (57, .aload 4), (59, .getfield 195), (62, .getfield 199), (65, .iconst 1), (66, .isub), (67, .ireturn)]
def qM_X11_signal : QM := (yX11_signal, cX11_signal, 5, (some .int), RX11, false, [], qK_X11, qC_X11_signal_0)
def qC_X11_update_0 : List (Nat × Instr) := [(0, .aload_n 0), (1, .iload_n 1), (2, .invokevirtual 185), (5, .astore 4), (7, .aload_n 0), (8, .iload_n 2), (9, .invokevirtual 189), (12, .aload_n 0), (13, .iload_n 3), (14, .invokevirtual 167), (17, .aload 4), (19, .getfield 208), (22, .ifCond .ne 16), (25, .aload 4), (27, .getfield 195), (30, .getfield 199), (33, .bipush 100), (35, .if_icmp .lt 13), (38, .new 111), (41, .dup), (42, .ldc 211), (44, .invokespecial 115), (47, .athrow), (48, .aload_n 0), (49, .getfield 57), (52, .aload 4), (54, .aload_n 0), (55, .aload 4), (57, .aload 4), (59, .getfield 213), (62, .invokevirtual 216), (65, .aload 4), (67, .getfield 195), (70, .getfield 220), (73, .iconst 0), (74, .invokevirtual 223), (77, .istore 5), (79, .iload 5), (81, .ifCond .eq 29), (84, .aload 4), (86, .getfield 195), (89, .iload_n 2), (90, .invokevirtual 227), (93, .ifCond .ne 17), (96, .aload_n 0), (97, .getfield 57), (100, .getfield 231), (103, .iload_n 2), (104, .invokevirtual 235), (107, .ifCond .ne 5), (110, .iconst 0), (111, .ireturn), (112, .aload_n 0), (113, .aload 4), (115, .iconst 4), (116, .iload_n 2), (117, .iload_n 3), (118, .invokevirtual 204), (121, .iconst 1), (122, .ireturn)]
def qM_X11_update : QM := (yX11_update, cX11_update, 6, (some .boolean), RX11, false, [], qK_X11, qC_X11_update_0)
def qC_X11_cancel_0 : List (Nat × Instr) := [(0, .aload_n 0), (1, .iload_n 1), (2, .invokevirtual 185), (5, .astore_n 2), (6, .aload_n 2), (7, .invokevirtual 192), (10, .ifCond .ne 13), (13, .new 111), (16, .dup), (17, .ldc 240), (19, .invokespecial 115), (22, .athrow), (23, .aload_n 0), (24, .aload_n 2), (25, .invokevirtual 242), (28, .ireturn)]
def qM_X11_cancel : QM := (yX11_cancel, cX11_cancel, 3, (some .boolean), RX11, false, [], qK_X11, qC_X11_cancel_0)
def qC_X11_query_0 : List (Nat × Instr) := [(0, .aload_n 0), (1, .iload_n 1), (2, .invokevirtual 185), (5, .astore_n 3), (6, .aload_n 0), (7, .iload_n 2), (8, .invokevirtual 246), (11, .aload_n 0), (12, .getfield 57), (15, .aload_n 3), (16, .aload_n 0), (17, .aload_n 3), (18, .aload_n 3), (19, .getfield 213), (22, .invokevirtual 216), (25, .aload_n 3), (26, .getfield 195), (29, .getfield 220), (32, .iconst 0), (33, .invokevirtual 223), (36, .ifCond .ne 13), (39, .new 111), (42, .dup), (43, .ldc 249), (45, .invokespecial 115), (48, .athrow), (49, .aload_n 0), (50, .getfield 57), (53, .getfield 231), (56, .iload_n 2), (57, .invokevirtual 251), (60, .ireturn)]
def qM_X11_query : QM := (yX11_query, cX11_query, 4, (some .int), RX11, false, [], qK_X11, qC_X11_query_0)
def qC_X11_plain_0 : List (Nat × Instr) := [(0, .aload_n 0), (1, .iload_n 1), (2, .invokevirtual 185), (5, .astore_n 3), (6, .aload_n 0), (7, .iload_n 2), (8, .invokevirtual 246), (11, .aload_n 0), (12, .getfield 57), (15, .aload_n 3), (16, .aload_n 0), (17, .aload_n 3), (18, .aload_n 3), (19, .getfield 213), (22, .invokevirtual 216), (25, .aload_n 3), (26, .getfield 195), (29, .getfield 220), (32, .iconst 0), (33, .invokevirtual 223), (36, .ifCond .ne 13), (39, .new 111), (42, .dup), (43, .ldc 249), (45, .invokespecial 115), (48, .athrow), (49, .aload_n 0), (50, .getfield 57), (53, .aload_n 3), (54, .aload_n 0), (55, .aload_n 3), (56, .aload_n 3), (57, .getfield 213), (60, .invokevirtual 216), (63, .aload_n 3), (64, .getfield 195), (67, .getfield 220), (70, .iconst 1), (71, .invokevirtual 223), (74, .pop), (75, .aload_n 0), (76, .getfield 57), (79, .getfield 231), (82, .iload_n 2), (83, .invokevirtual 251), (86, .ireturn)]
def qM_X11_plain : QM := (yX11_plain, cX11_plain, 4, (some .int), RX11, false, [], qK_X11, qC_X11_plain_0)
def qC_X11_standing_0 : List (Nat × Instr) := [(0, .aload_n 0), (1, .iload_n 1), (2, .invokevirtual 185), (5, .astore_n 2), (6, .bipush 10), (8, .aload_n 2), (9, .getfield 195), (12, .getfield 199), (15, .imul), (16, .aload_n 2), (17, .getfield 208), (20, .iadd), (21, .ireturn)]
def qM_X11_standing : QM := (yX11_standing, cX11_standing, 3, (some .int), RX11, false, [], qK_X11, qC_X11_standing_0)
def qC_X11_event_0 : List (Nat × Instr) := [(0, .aload_n 0), (1, .iload_n 1), (2, .invokevirtual 185), (5, .astore_n 3), (6, .iload_n 2), (7, .ifCond .lt 14), (10, .iload_n 2), (11, .aload_n 3), (12, .getfield 195), (15, .getfield 199), (18, .if_icmp .lt 14), (21, .new 255), (24, .dup), (25, .ldc_w 257), (28, .invokespecial 259), (31, .athrow), (32, .ldc_w 260), (35, .aload_n 3), (36, .getfield 195), (39, .iload_n 2), (40, .invokevirtual 261), (43, .imul), (44, .sipush 1000), (47, .aload_n 3), (48, .getfield 195), (51, .iload_n 2), (52, .invokevirtual 264), (55, .imul), (56, .iadd), (57, .aload_n 3), (58, .getfield 195), (61, .iload_n 2), (62, .invokevirtual 267), (65, .iadd), (66, .ireturn)]
def qM_X11_event : QM := (yX11_event, cX11_event, 4, (some .int), RX11, false, [], qK_X11, qC_X11_event_0)
def qC_X11_difference_0 : List (Nat × Instr) := [(0, .aload_n 0), (1, .iload_n 1), (2, .invokevirtual 185), (5, .astore_n 2), (6, .aload_n 2), (7, .getfield 208), (10, .bipush 6), (12, .if_icmp .eq 14), (15, .new 111), (18, .dup), (19, .ldc_w 270), (22, .invokespecial 115), (25, .athrow), (26, .aload_n 2), (27, .getfield 272), (30, .ireturn)]
def qM_X11_difference : QM := (yX11_difference, cX11_difference, 3, (some .int), RX11, false, [], qK_X11, qC_X11_difference_0)
def qC_X11_runs_0 : List (Nat × Instr) := [(0, .aload_n 0), (1, .getfield 24), (4, .invokevirtual 127), (7, .ireturn)]
def qM_X11_runs : QM := (yX11_runs, cX11_runs, 1, (some .int), RX11, false, [], qK_X11, qC_X11_runs_0)
def qC_X11_setRate_0 : List (Nat × Instr) := [(0, .iload_n 1), (1, .iconst 1), (2, .if_icmp .lt 9), (5, .iload_n 1), (6, .bipush 10), (8, .if_icmp .le 14), (11, .new 96), (14, .dup), (15, .ldc_w 275), (18, .invokespecial 100), (21, .athrow), (22, .aload_n 0), (23, .getfield 68), (26, .istore_n 2), (27, .aload_n 0), (28, .iload_n 1), (29, .putfield 68), (32, .iload_n 2), (33, .ireturn)]
def qM_X11_setRate : QM := (yX11_setRate, cX11_setRate, 3, (some .int), RX11, false, [], qK_X11, qC_X11_setRate_0)
def qC_X11_poll_0 : List (Nat × Instr) := [(0, .aload_n 0), (1, .iload_n 1), (2, .invokevirtual 277), (5, .aconst_null), (6, .astore_n 2), (7, .iconst 0), (8, .istore_n 3), (9, .iload_n 3), (10, .iconst 3), (11, .if_icmp .ge 58), (14, .aload_n 0), (15, .iload_n 3), (16, .invokevirtual 280), (19, .astore 4), (21, .aload 4), (23, .ifnull 40), (26, .aload_n 0), (27, .getfield 44), (30, .iload_n 3), (31, .iaload), (32, .aload_n 0), (33, .getfield 68), (36, .if_icmp .ge 27), (39, .aload_n 2), (40, .ifnull 20), (43, .aload_n 0), (44, .getfield 41), (47, .iload_n 3), (48, .iaload), (49, .aload_n 0), (50, .aload_n 2), (51, .getfield 283), (54, .invokevirtual 286), (57, .if_icmp .ge 6), (60, .aload 4), (62, .astore_n 2), (63, .iinc 3 1), (66, .goto (-57)), (69, .aload_n 2), (70, .ifnonnull 5), (73, .iconst (-1)), (74, .ireturn), (75, .aload_n 0), (76, .aload_n 2), (77, .getfield 283), (80, .invokevirtual 289), (83, .new 292), (86, .dup), (87, .iload_n 1), (88, .aload_n 2), (89, .aload_n 0), (90, .getfield 71), (93, .invokespecial 294), (96, .astore_n 3), (97, .aload_n 2), (98, .aload_n 0), (99, .getfield 31), (102, .invokevirtual 127), (105, .putfield 297), (108, .aload_n 0)]
def qC_X11_poll_1 : List (Nat × Instr) := [(109, .getfield 31), (112, .aload_n 3), (113, .invokevirtual 300), (116, .pop), (117, .bipush 100), (119, .aload_n 2), (120, .getfield 297), (123, .imul), (124, .aload_n 2), (125, .getfield 180), (128, .iadd), (129, .ireturn)]
def qM_X11_poll : QM := (yX11_poll, cX11_poll, 5, (some .int), RX11, false, [], qK_X11, qC_X11_poll_0 ++ qC_X11_poll_1)
def qC_X11_complete_0 : List (Nat × Instr) := [(0, .iload_n 1), (1, .ifCond .lt 14), (4, .iload_n 1), (5, .aload_n 0), (6, .getfield 31), (9, .invokevirtual 127), (12, .if_icmp .lt 14), (15, .new 255), (18, .dup), (19, .ldc_w 303), (22, .invokespecial 259), (25, .athrow), (26, .aload_n 0), (27, .getfield 31), (30, .iload_n 1), (31, .invokevirtual 305), (34, .checkcast 292), (37, .astore_n 2), (38, .aload_n 2), (39, .getfield 309), (42, .astore_n 3), (43, .aload_n 0), (44, .aload_n 2), (45, .invokevirtual 313), (48, .istore 4), (50, .aload_n 2), (51, .iconst 1), (52, .putfield 317), (55, .iload 4), (57, .ifCond .eq 5), (60, .iconst (-1)), (61, .ireturn), (62, .aload_n 3), (63, .aload_n 2), (64, .getfield 320), (67, .invokevirtual 323), (70, .istore 5), (72, .iload 5), (74, .ifCond .ne 11), (77, .aload_n 0), (78, .aload_n 2), (79, .getfield 320), (82, .invokevirtual 326), (85, .iload 5), (87, .ifCond .eq 7), (90, .iconst 2), (91, .goto 4), (94, .iconst 0), (95, .istore 6), (97, .aload_n 0), (98, .getfield 57), (101, .aload_n 3), (102, .aload_n 0), (103, .aload_n 3), (104, .aload_n 3), (105, .getfield 213), (108, .invokevirtual 216), (111, .aload_n 2), (112, .getfield 329), (115, .iload 6)]
def qC_X11_complete_1 : List (Nat × Instr) := [(117, .invokevirtual 223), (120, .ifCond .eq 13), (123, .aload_n 0), (124, .getfield 57), (127, .invokevirtual 332), (130, .ifCond .eq 23), (133, .aload_n 3), (134, .bipush 6), (136, .putfield 208), (139, .aload_n 3), (140, .aload_n 0), (141, .getfield 57), (144, .getfield 335), (147, .putfield 272), (150, .bipush (-2)), (152, .ireturn), (153, .aload_n 3), (154, .getfield 195), (157, .getfield 199), (160, .istore 7), (162, .aload_n 0), (163, .aload_n 3), (164, .aload_n 2), (165, .iload 5), (167, .invokevirtual 336), (170, .istore 8), (172, .iload 7), (174, .istore 9), (176, .iload 9), (178, .iload 7), (180, .iload 8), (182, .iadd), (183, .if_icmp .ge 28), (186, .iload 9), (188, .aload_n 3), (189, .getfield 195), (192, .getfield 199), (195, .if_icmp .ge 16), (198, .aload_n 0), (199, .aload_n 3), (200, .iload 9), (202, .invokevirtual 340), (205, .iinc 9 1), (208, .goto (-32)), (211, .iload 8), (213, .ireturn)]
def qM_X11_complete : QM := (yX11_complete, cX11_complete, 10, (some .int), RX11, false, [], qK_X11, qC_X11_complete_0 ++ qC_X11_complete_1)
def qC_X11_die_0 : List (Nat × Instr) := [(0, .aload_n 0), (1, .iload_n 1), (2, .invokevirtual 277), (5, .iconst 0), (6, .istore_n 2), (7, .iconst 0), (8, .istore_n 3), (9, .iload_n 3), (10, .aload_n 0), (11, .getfield 31), (14, .invokevirtual 127), (17, .if_icmp .ge 48), (20, .aload_n 0), (21, .getfield 31), (24, .iload_n 3), (25, .invokevirtual 305), (28, .checkcast 292), (31, .astore 4), (33, .aload 4), (35, .getfield 320), (38, .iload_n 1), (39, .if_icmp .ne 20), (42, .aload 4), (44, .getfield 317), (47, .ifCond .ne 12), (50, .aload 4), (52, .iconst 1), (53, .putfield 317), (56, .iinc 2 1), (59, .iinc 3 1), (62, .goto (-53)), (65, .iconst 0), (66, .istore_n 3), (67, .iload_n 3), (68, .aload_n 0), (69, .getfield 24), (72, .invokevirtual 127), (75, .if_icmp .ge 45), (78, .aload_n 0), (79, .getfield 24), (82, .iload_n 3), (83, .invokevirtual 305), (86, .checkcast 181), (89, .astore 4), (91, .aload 4), (93, .aload 4), (95, .getfield 344), (98, .iload_n 1), (99, .if_icmp .ne 7), (102, .iconst (-1)), (103, .goto 8), (106, .aload 4), (108, .getfield 344), (111, .putfield 344), (114, .iinc 3 1), (117, .goto (-50)), (120, .iload_n 2), (121, .ireturn)]
def qM_X11_die : QM := (yX11_die, cX11_die, 5, (some .int), RX11, false, [], qK_X11, qC_X11_die_0)
def qC_X11_replays_0 : List (Nat × Instr) := [(0, .aload_n 0), (1, .iload_n 1), (2, .invokevirtual 277), (5, .aload_n 0), (6, .getfield 37), (9, .iload_n 1), (10, .iaload), (11, .ireturn)]
def qM_X11_replays : QM := (yX11_replays, cX11_replays, 2, (some .int), RX11, false, [], qK_X11, qC_X11_replays_0)
def qC_X11_take_0 : List (Nat × Instr) := [(0, .aload_n 0), (1, .iload_n 1), (2, .invokevirtual 135), (5, .pop), (6, .iconst 0), (7, .istore_n 2), (8, .iload_n 2), (9, .aload_n 0), (10, .getfield 28), (13, .invokevirtual 127), (16, .if_icmp .ge 66), (19, .aload_n 0), (20, .getfield 28), (23, .iload_n 2), (24, .invokevirtual 305), (27, .checkcast 347), (30, .astore_n 3), (31, .aload_n 3), (32, .getfield 349), (35, .iload_n 1), (36, .if_icmp .ne 40), (39, .aload_n 3), (40, .getfield 351), (43, .ifCond .ne 33), (46, .aload_n 3), (47, .getfield 353), (50, .aload_n 0), (51, .getfield 71), (54, .if_icmp .gt 22), (57, .aload_n 3), (58, .aload_n 0), (59, .getfield 71), (62, .invokevirtual 356), (65, .sipush 1000), (68, .iload_n 2), (69, .imul), (70, .aload_n 3), (71, .getfield 359), (74, .iadd), (75, .ireturn), (76, .iinc 2 1), (79, .goto (-71)), (82, .iconst (-1)), (83, .ireturn)]
def qM_X11_take : QM := (yX11_take, cX11_take, 4, (some .int), RX11, false, [], qK_X11, qC_X11_take_0)
def qC_X11_answer_0 : List (Nat × Instr) := [(0, .aload_n 0), (1, .iload_n 1), (2, .invokevirtual 362), (5, .astore_n 3), (6, .aload_n 0), (7, .iload_n 2), (8, .invokevirtual 167), (11, .aload_n 3), (12, .getfield 351), (15, .iconst 1), (16, .if_icmp .eq 5), (19, .iconst 0), (20, .ireturn), (21, .aload_n 3), (22, .iconst 2), (23, .putfield 351), (26, .aload_n 0), (27, .aload_n 3), (28, .getfield 366), (31, .iconst 1), (32, .aload_n 3), (33, .getfield 367), (36, .iload_n 2), (37, .invokevirtual 204), (40, .iconst 1), (41, .ireturn)]
def qM_X11_answer : QM := (yX11_answer, cX11_answer, 4, (some .boolean), RX11, false, [], qK_X11, qC_X11_answer_0)
def qC_X11_fail_0 : List (Nat × Instr) := [(0, .aload_n 0), (1, .iload_n 1), (2, .invokevirtual 362), (5, .astore_n 3), (6, .aload_n 3), (7, .getfield 351), (10, .iconst 1), (11, .if_icmp .eq 5), (14, .iconst 0), (15, .ireturn), (16, .aload_n 0), (17, .aload_n 3), (18, .iload_n 2), (19, .invokevirtual 370), (22, .iconst 1), (23, .ireturn)]
def qM_X11_fail : QM := (yX11_fail, cX11_fail, 4, (some .boolean), RX11, false, [], qK_X11, qC_X11_fail_0)
def qC_X11_beat_0 : List (Nat × Instr) := [(0, .aload_n 0), (1, .iload_n 1), (2, .invokevirtual 362), (5, .astore_n 3), (6, .aload_n 0), (7, .iload_n 2), (8, .invokevirtual 167), (11, .aload_n 3), (12, .getfield 351), (15, .iconst 1), (16, .if_icmp .eq 5), (19, .iconst (-1)), (20, .ireturn), (21, .aload_n 3), (22, .getfield 374), (25, .istore 4), (27, .aload_n 3), (28, .iload_n 2), (29, .putfield 374), (32, .aload_n 3), (33, .aload_n 0), (34, .getfield 71), (37, .putfield 377), (40, .iload 4), (42, .ireturn)]
def qM_X11_beat : QM := (yX11_beat, cX11_beat, 5, (some .int), RX11, false, [], qK_X11, qC_X11_beat_0)
def qC_X11_activity_0 : List (Nat × Instr) := [(0, .aload_n 0), (1, .iload_n 1), (2, .invokevirtual 362), (5, .astore_n 2), (6, .bipush 100), (8, .aload_n 2), (9, .getfield 366), (12, .getfield 180), (15, .imul), (16, .bipush 10), (18, .aload_n 2), (19, .getfield 380), (22, .imul), (23, .iadd), (24, .aload_n 2), (25, .getfield 351), (28, .iadd), (29, .ireturn)]
def qM_X11_activity : QM := (yX11_activity, cX11_activity, 3, (some .int), RX11, false, [], qK_X11, qC_X11_activity_0)
def qC_X11_pass_0 : List (Nat × Instr) := [(0, .iload_n 1), (1, .iconst 1), (2, .if_icmp .lt 9), (5, .iload_n 1), (6, .bipush 100), (8, .if_icmp .le 14), (11, .new 96), (14, .dup), (15, .ldc_w 381), (18, .invokespecial 100), (21, .athrow), (22, .iconst 0), (23, .istore_n 2), (24, .iload_n 2), (25, .iload_n 1), (26, .if_icmp .ge 115), (29, .aload_n 0), (30, .invokevirtual 383), (33, .iconst 0), (34, .istore_n 3), (35, .iload_n 3), (36, .aload_n 0), (37, .getfield 24), (40, .invokevirtual 127), (43, .if_icmp .ge 24), (46, .aload_n 0), (47, .aload_n 0), (48, .getfield 24), (51, .iload_n 3), (52, .invokevirtual 305), (55, .checkcast 181), (58, .invokevirtual 386), (61, .iinc 3 1), (64, .goto (-29)), (67, .iconst 0), (68, .istore_n 3), (69, .iload_n 3), (70, .aload_n 0), (71, .getfield 28), (74, .invokevirtual 127), (77, .if_icmp .ge 24), (80, .aload_n 0), (81, .aload_n 0), (82, .getfield 28), (85, .iload_n 3), (86, .invokevirtual 305), (89, .checkcast 347), (92, .invokevirtual 390), (95, .iinc 3 1), (98, .goto (-29)), (101, .iconst 0), (102, .istore_n 3), (103, .iload_n 3), (104, .aload_n 0), (105, .getfield 34), (108, .invokevirtual 127), (111, .if_icmp .ge 24), (114, .aload_n 0), (115, .aload_n 0), (116, .getfield 34)]
def qC_X11_pass_1 : List (Nat × Instr) := [(119, .iload_n 3), (120, .invokevirtual 305), (123, .checkcast 394), (126, .invokevirtual 396), (129, .iinc 3 1), (132, .goto (-29)), (135, .iinc 2 1), (138, .goto (-114)), (141, .aload_n 0), (142, .getfield 71), (145, .ireturn)]
def qM_X11_pass : QM := (yX11_pass, cX11_pass, 4, (some .int), RX11, false, [], qK_X11, qC_X11_pass_0 ++ qC_X11_pass_1)
def qC_X11_unsafe_0 : List (Nat × Instr) := [(0, .aload_n 0), (1, .aload_n 0), (2, .iload_n 1), (3, .invokevirtual 86), (6, .iload_n 2), (7, .invokevirtual 400), (10, .iconst 0), (11, .istore_n 3), (12, .iconst 0), (13, .istore 4), (15, .iload 4), (17, .aload_n 0), (18, .getfield 24), (21, .invokevirtual 127), (24, .if_icmp .ge 71), (27, .aload_n 0), (28, .getfield 24), (31, .iload 4), (33, .invokevirtual 305), (36, .checkcast 181), (39, .astore 5), (41, .aload 5), (43, .getfield 404), (46, .iload_n 1), (47, .if_icmp .ne 42), (50, .aload 5), (52, .getfield 208), (55, .ifCond .ne 34), (58, .aload_n 0), (59, .getfield 57), (62, .aload 5), (64, .aload_n 0), (65, .aload 5), (67, .iload_n 2), (68, .invokevirtual 216), (71, .aload 5), (73, .getfield 195), (76, .getfield 220), (79, .iconst 0), (80, .invokevirtual 223), (83, .ifCond .ne 6), (86, .iinc 3 1), (89, .iinc 4 1), (92, .goto (-77)), (95, .iload_n 3), (96, .ireturn)]
def qM_X11_unsafe : QM := (yX11_unsafe, cX11_unsafe, 6, (some .int), RX11, false, [], qK_X11, qC_X11_unsafe_0)
def qC_X11_move_0 : List (Nat × Instr) := [(0, .aload_n 0), (1, .iload_n 1), (2, .invokevirtual 185), (5, .astore_n 3), (6, .aload_n 0), (7, .aload_n 0), (8, .aload_n 3), (9, .getfield 404), (12, .invokevirtual 86), (15, .iload_n 2), (16, .invokevirtual 400), (19, .aload_n 3), (20, .invokevirtual 192), (23, .ifCond .ne 13), (26, .new 111), (29, .dup), (30, .ldc 240), (32, .invokespecial 115), (35, .athrow), (36, .aload_n 3), (37, .iload_n 2), (38, .putfield 213), (41, .aload_n 3), (42, .iconst 0), (43, .putfield 208), (46, .aload_n 0), (47, .getfield 57), (50, .aload_n 3), (51, .aload_n 0), (52, .aload_n 3), (53, .iload_n 2), (54, .invokevirtual 216), (57, .aload_n 3), (58, .getfield 195), (61, .getfield 220), (64, .iconst 0), (65, .invokevirtual 223), (68, .ireturn)]
def qM_X11_move : QM := (yX11_move, cX11_move, 4, (some .boolean), RX11, false, [], qK_X11, qC_X11_move_0)
def qC_X11_setBack_0 : List (Nat × Instr) := [(0, .aload_n 0), (1, .iload_n 1), (2, .invokevirtual 185), (5, .astore_n 3), (6, .aload_n 3), (7, .getfield 195), (10, .iload_n 2), (11, .invokevirtual 407), (14, .istore 4), (16, .iload 4), (18, .ifCond .ge 14), (21, .new 255), (24, .dup), (25, .ldc_w 410), (28, .invokespecial 259), (31, .athrow), (32, .aload_n 3), (33, .invokevirtual 192), (36, .ifCond .eq 15), (39, .aload_n 0), (40, .getfield 24), (43, .invokevirtual 127), (46, .bipush 30), (48, .if_icmp .lt 14), (51, .new 111), (54, .dup), (55, .ldc_w 412), (58, .invokespecial 115), (61, .athrow), (62, .aload_n 0), (63, .aload_n 3), (64, .getfield 404), (67, .aload_n 3), (68, .getfield 283), (71, .aload_n 3), (72, .getfield 213), (75, .aload_n 3), (76, .getfield 414), (79, .aload_n 3), (80, .getfield 417), (83, .invokevirtual 420), (86, .astore 5), (88, .aload_n 3), (89, .iconst 5), (90, .putfield 208), (93, .aload 5), (95, .getfield 195), (98, .aload_n 3), (99, .getfield 195), (102, .iload 4), (104, .iconst 1), (105, .iadd), (106, .invokevirtual 423), (109, .aload_n 0), (110, .aload_n 3), (111, .invokevirtual 427), (114, .aload_n 0), (115, .aload_n 3), (116, .getfield 180), (119, .iconst 0)]
def qC_X11_setBack_1 : List (Nat × Instr) := [(120, .invokevirtual 430), (123, .aload_n 0), (124, .aload 5), (126, .invokevirtual 434), (129, .aload_n 0), (130, .aload 5), (132, .aload_n 3), (133, .getfield 195), (136, .iload 4), (138, .iconst 1), (139, .iadd), (140, .invokevirtual 437), (143, .aload 5), (145, .getfield 180), (148, .ireturn)]
def qM_X11_setBack : QM := (yX11_setBack, cX11_setBack, 6, (some .int), RX11, false, [], qK_X11, qC_X11_setBack_0 ++ qC_X11_setBack_1)
def qC_X11_copy_0 : List (Nat × Instr) := [(0, .aload_n 0), (1, .iload_n 1), (2, .invokevirtual 185), (5, .astore_n 3), (6, .iload_n 2), (7, .iconst 1), (8, .if_icmp .lt 9), (11, .iload_n 2), (12, .bipush 100), (14, .if_icmp .le 14), (17, .new 96), (20, .dup), (21, .ldc_w 441), (24, .invokespecial 100), (27, .athrow), (28, .aload_n 3), (29, .aload_n 3), (30, .getfield 195), (33, .getfield 199), (36, .aload_n 3), (37, .getfield 443), (40, .iload_n 2), (41, .iadd), (42, .invokestatic 446), (45, .putfield 443), (48, .aload_n 3), (49, .getfield 443), (52, .ireturn)]
def qM_X11_copy : QM := (yX11_copy, cX11_copy, 4, (some .int), RX11, false, [], qK_X11, qC_X11_copy_0)
def qC_X11_takeOver_0 : List (Nat × Instr) := [(0, .aload_n 0), (1, .getfield 80), (4, .ifCond .ne 14), (7, .new 111), (10, .dup), (11, .ldc_w 452), (14, .invokespecial 115), (17, .athrow), (18, .aload_n 0), (19, .iconst 0), (20, .putfield 80), (23, .iconst 0), (24, .istore_n 1), (25, .iconst 0), (26, .istore_n 2), (27, .iload_n 2), (28, .aload_n 0), (29, .getfield 24), (32, .invokevirtual 127), (35, .if_icmp .ge 36), (38, .aload_n 0), (39, .getfield 24), (42, .iload_n 2), (43, .invokevirtual 305), (46, .checkcast 181), (49, .astore_n 3), (50, .aload_n 3), (51, .getfield 208), (54, .ifCond .ne 11), (57, .iload_n 1), (58, .aload_n 0), (59, .aload_n 3), (60, .invokevirtual 454), (63, .iadd), (64, .istore_n 1), (65, .iinc 2 1), (68, .goto (-41)), (71, .iconst 0), (72, .istore_n 2), (73, .iload_n 2), (74, .aload_n 0), (75, .getfield 24), (78, .invokevirtual 127), (81, .if_icmp .ge 43), (84, .aload_n 0), (85, .getfield 24), (88, .iload_n 2), (89, .invokevirtual 305), (92, .checkcast 181), (95, .astore_n 3), (96, .aload_n 3), (97, .getfield 208), (100, .ifCond .ne 18), (103, .aload_n 3), (104, .getfield 443), (107, .ifCond .ne 11), (110, .aload_n 0), (111, .aload_n 3), (112, .iconst 5), (113, .iconst 0)]
def qC_X11_takeOver_1 : List (Nat × Instr) := [(114, .iconst 0), (115, .invokevirtual 458), (118, .iinc 2 1), (121, .goto (-48)), (124, .iconst 0), (125, .istore_n 2), (126, .iload_n 2), (127, .aload_n 0), (128, .getfield 24), (131, .invokevirtual 127), (134, .if_icmp .ge 33), (137, .aload_n 0), (138, .getfield 24), (141, .iload_n 2), (142, .invokevirtual 305), (145, .checkcast 181), (148, .astore_n 3), (149, .aload_n 3), (150, .getfield 208), (153, .ifCond .ne 8), (156, .aload_n 0), (157, .aload_n 3), (158, .invokevirtual 434), (161, .iinc 2 1), (164, .goto (-38)), (167, .iload_n 1), (168, .ireturn)]
def qM_X11_takeOver : QM := (yX11_takeOver, cX11_takeOver, 4, (some .int), RX11, false, [], qK_X11, qC_X11_takeOver_0 ++ qC_X11_takeOver_1)
def qC_X11_join_0 : List (Nat × Instr) := [(0, .aload_n 0), (1, .getfield 80), (4, .ifCond .eq 14), (7, .new 111), (10, .dup), (11, .ldc_w 461), (14, .invokespecial 115), (17, .athrow), (18, .aload_n 0), (19, .iconst 1), (20, .putfield 80), (23, .iconst 0), (24, .istore_n 1), (25, .iconst 0), (26, .istore_n 2), (27, .iload_n 2), (28, .aload_n 0), (29, .getfield 24), (32, .invokevirtual 127), (35, .if_icmp .ge 89), (38, .aload_n 0), (39, .getfield 24), (42, .iload_n 2), (43, .invokevirtual 305), (46, .checkcast 181), (49, .astore_n 3), (50, .iconst 0), (51, .istore 4), (53, .iload 4), (55, .aload_n 3), (56, .getfield 463), (59, .getfield 108), (62, .if_icmp .ge 48), (65, .aload_n 3), (66, .getfield 208), (69, .ifCond .ne 41), (72, .aload_n 3), (73, .getfield 463), (76, .iload 4), (78, .invokevirtual 466), (81, .istore 5), (83, .aload_n 0), (84, .aload_n 3), (85, .iconst 4), (86, .iload 5), (88, .sipush 1000), (91, .idiv), (92, .iload 5), (94, .sipush 1000), (97, .irem), (98, .invokevirtual 204), (101, .iinc 1 1), (104, .iinc 4 1), (107, .goto (-54)), (110, .aload_n 3), (111, .getfield 463), (114, .iconst 0), (115, .invokevirtual 469), (118, .iinc 2 1), (121, .goto (-94))]
def qC_X11_join_1 : List (Nat × Instr) := [(124, .iload_n 1), (125, .ireturn)]
def qM_X11_join : QM := (yX11_join, cX11_join, 6, (some .int), RX11, false, [], qK_X11, qC_X11_join_0 ++ qC_X11_join_1)
def qC_X11_schedule_0 : List (Nat × Instr) := [(0, .aload_n 0), (1, .iload_n 1), (2, .invokevirtual 86), (5, .astore 5), (7, .aload_n 0), (8, .iload_n 2), (9, .invokevirtual 163), (12, .iload_n 3), (13, .iconst 1), (14, .if_icmp .lt 20), (17, .iload_n 3), (18, .bipush 50), (20, .if_icmp .gt 14), (23, .iload 4), (25, .ifCond .lt 9), (28, .iload 4), (30, .iconst 3), (31, .if_icmp .le 14), (34, .new 96), (37, .dup), (38, .ldc_w 472), (41, .invokespecial 100), (44, .athrow), (45, .aload 5), (47, .getfield 124), (50, .invokevirtual 170), (53, .ifCond .ne 14), (56, .aload_n 0), (57, .getfield 34), (60, .invokevirtual 127), (63, .iconst 4), (64, .if_icmp .lt 14), (67, .new 111), (70, .dup), (71, .ldc_w 474), (74, .invokespecial 115), (77, .athrow), (78, .aload_n 0), (79, .getfield 34), (82, .new 394), (85, .dup), (86, .iload_n 1), (87, .iload_n 2), (88, .iload_n 3), (89, .iload 4), (91, .aload_n 0), (92, .getfield 71), (95, .aload_n 0), (96, .getfield 74), (99, .iadd), (100, .invokespecial 476), (103, .invokevirtual 300), (106, .pop), (107, .aload_n 0), (108, .getfield 34), (111, .invokevirtual 127), (114, .iconst 1), (115, .isub), (116, .ireturn)]
def qM_X11_schedule : QM := (yX11_schedule, cX11_schedule, 6, (some .int), RX11, false, [], qK_X11, qC_X11_schedule_0)
def qC_X11_togglePause_0 : List (Nat × Instr) := [(0, .aload_n 0), (1, .iload_n 1), (2, .invokevirtual 479), (5, .astore_n 2), (6, .aload_n 2), (7, .aload_n 2), (8, .getfield 483), (11, .ifCond .ne 7), (14, .iconst 1), (15, .goto 4), (18, .iconst 0), (19, .putfield 483), (22, .aload_n 2), (23, .getfield 483), (26, .ireturn)]
def qM_X11_togglePause : QM := (yX11_togglePause, cX11_togglePause, 3, (some .boolean), RX11, false, [], qK_X11, qC_X11_togglePause_0)
def qC_X11_backfill_0 : List (Nat × Instr) := [(0, .aload_n 0), (1, .iload_n 1), (2, .invokevirtual 479), (5, .astore_n 3), (6, .iload_n 2), (7, .iconst 1), (8, .if_icmp .lt 8), (11, .iload_n 2), (12, .iconst 5), (13, .if_icmp .le 14), (16, .new 96), (19, .dup), (20, .ldc_w 486), (23, .invokespecial 100), (26, .athrow), (27, .aload_n 3), (28, .invokevirtual 488), (31, .istore 4), (33, .iload_n 2), (34, .iload 4), (36, .invokestatic 446), (39, .istore 5), (41, .iconst 0), (42, .istore 6), (44, .iload 4), (46, .iload 5), (48, .isub), (49, .iconst 1), (50, .iadd), (51, .istore 7), (53, .iload 7), (55, .iload 4), (57, .if_icmp .gt 52), (60, .aload_n 0), (61, .getfield 24), (64, .invokevirtual 127), (67, .bipush 30), (69, .if_icmp .ge 40), (72, .aload_n 0), (73, .aload_n 3), (74, .getfield 491), (77, .aload_n 3), (78, .getfield 492), (81, .iload 7), (83, .aload_n 3), (84, .getfield 493), (87, .imul), (88, .sipush 1000), (91, .invokestatic 496), (94, .iconst (-1)), (95, .iconst 0), (96, .invokevirtual 176), (99, .pop), (100, .iinc 6 1), (103, .iinc 7 1), (106, .goto (-53)), (109, .iload 6), (111, .ireturn)]
def qM_X11_backfill : QM := (yX11_backfill, cX11_backfill, 8, (some .int), RX11, false, [], qK_X11, qC_X11_backfill_0)
def qC_X11_shift_0 : List (Nat × Instr) := [(0, .iload_n 1), (1, .bipush (-20)), (3, .if_icmp .lt 9), (6, .iload_n 1), (7, .bipush 20), (9, .if_icmp .le 14), (12, .new 96), (15, .dup), (16, .ldc_w 499), (19, .invokespecial 100), (22, .athrow), (23, .aload_n 0), (24, .dup), (25, .getfield 74), (28, .iload_n 1), (29, .iadd), (30, .putfield 74), (33, .aload_n 0), (34, .getfield 71), (37, .aload_n 0), (38, .getfield 74), (41, .iadd), (42, .ireturn)]
def qM_X11_shift : QM := (yX11_shift, cX11_shift, 2, (some .int), RX11, false, [], qK_X11, qC_X11_shift_0)
def qC_X11_bringIn_0 : List (Nat × Instr) := [(0, .iload_n 1), (1, .iconst 1), (2, .if_icmp .lt 9), (5, .iload_n 1), (6, .bipush 100), (8, .if_icmp .le 14), (11, .new 96), (14, .dup), (15, .ldc_w 486), (18, .invokespecial 100), (21, .athrow), (22, .iconst 0), (23, .istore_n 2), (24, .iload_n 2), (25, .iload_n 1), (26, .if_icmp .ge 86), (29, .aload_n 0), (30, .getfield 65), (33, .aload_n 0), (34, .getfield 61), (37, .if_icmp .ge 75), (40, .aload_n 0), (41, .getfield 50), (44, .aload_n 0), (45, .getfield 65), (48, .invokevirtual 466), (51, .istore_n 3), (52, .iload_n 3), (53, .sipush 1000), (56, .idiv), (57, .istore 4), (59, .iload 4), (61, .ifCond .lt 35), (64, .iload 4), (66, .aload_n 0), (67, .getfield 24), (70, .invokevirtual 127), (73, .if_icmp .ge 23), (76, .aload_n 0), (77, .getfield 24), (80, .iload 4), (82, .invokevirtual 305), (85, .checkcast 181), (88, .iload_n 3), (89, .sipush 1000), (92, .irem), (93, .putfield 501), (96, .aload_n 0), (97, .dup), (98, .getfield 65), (101, .iconst 1), (102, .iadd), (103, .putfield 65), (106, .iinc 2 1), (109, .goto (-85)), (112, .aload_n 0), (113, .getfield 61), (116, .aload_n 0), (117, .getfield 65), (120, .isub)]
def qC_X11_bringIn_1 : List (Nat × Instr) := [(121, .ireturn)]
def qM_X11_bringIn : QM := (yX11_bringIn, cX11_bringIn, 5, (some .int), RX11, false, [], qK_X11, qC_X11_bringIn_0 ++ qC_X11_bringIn_1)
def qC_X11_search_0 : List (Nat × Instr) := [(0, .aload_n 0), (1, .iload_n 1), (2, .invokevirtual 167), (5, .iconst 0), (6, .istore_n 2), (7, .iconst 0), (8, .istore_n 3), (9, .iload_n 3), (10, .aload_n 0), (11, .getfield 24), (14, .invokevirtual 127), (17, .if_icmp .ge 39), (20, .iload_n 3), (21, .bipush 30), (23, .if_icmp .ge 33), (26, .aload_n 0), (27, .getfield 24), (30, .iload_n 3), (31, .invokevirtual 305), (34, .checkcast 181), (37, .getfield 501), (40, .iload_n 1), (41, .if_icmp .ne 9), (44, .iload_n 2), (45, .iconst 1), (46, .iload_n 3), (47, .ishl), (48, .ior), (49, .istore_n 2), (50, .iinc 3 1), (53, .goto (-44)), (56, .iload_n 2), (57, .ireturn)]
def qM_X11_search : QM := (yX11_search, cX11_search, 4, (some .int), RX11, false, [], qK_X11, qC_X11_search_0)
def qC_X11_typeAt_0 : List (Nat × Instr) := [(0, .iload_n 1), (1, .ifCond .lt 12), (4, .iload_n 1), (5, .aload_n 0), (6, .getfield 11), (9, .arraylength), (10, .if_icmp .lt 14), (13, .new 255), (16, .dup), (17, .ldc_w 504), (20, .invokespecial 259), (23, .athrow), (24, .aload_n 0), (25, .getfield 11), (28, .iload_n 1), (29, .aaload), (30, .areturn)]
def qM_X11_typeAt : QM := (yX11_typeAt, cX11_typeAt, 2, (some (.object "DurableLoom$Type")), RX11, false, [], qK_X11, qC_X11_typeAt_0)
def qC_X11_kindAt_0 : List (Nat × Instr) := [(0, .iload_n 1), (1, .ifCond .lt 12), (4, .iload_n 1), (5, .aload_n 0), (6, .getfield 17), (9, .arraylength), (10, .if_icmp .lt 14), (13, .new 255), (16, .dup), (17, .ldc_w 506), (20, .invokespecial 259), (23, .athrow), (24, .aload_n 0), (25, .getfield 17), (28, .iload_n 1), (29, .aaload), (30, .areturn)]
def qM_X11_kindAt : QM := (yX11_kindAt, cX11_kindAt, 2, (some (.object "DurableLoom$Kind")), RX11, false, [], qK_X11, qC_X11_kindAt_0)
def qC_X11_runAt_0 : List (Nat × Instr) := [(0, .iload_n 1), (1, .ifCond .lt 14), (4, .iload_n 1), (5, .aload_n 0), (6, .getfield 24), (9, .invokevirtual 127), (12, .if_icmp .lt 14), (15, .new 255), (18, .dup), (19, .ldc_w 508), (22, .invokespecial 259), (25, .athrow), (26, .aload_n 0), (27, .getfield 24), (30, .iload_n 1), (31, .invokevirtual 305), (34, .checkcast 181), (37, .areturn)]
def qM_X11_runAt : QM := (yX11_runAt, cX11_runAt, 2, (some (.object "DurableLoom$Run")), RX11, false, [], qK_X11, qC_X11_runAt_0)
def qC_X11_activityAt_0 : List (Nat × Instr) := [(0, .iload_n 1), (1, .ifCond .lt 14), (4, .iload_n 1), (5, .aload_n 0), (6, .getfield 28), (9, .invokevirtual 127), (12, .if_icmp .lt 14), (15, .new 255), (18, .dup), (19, .ldc_w 510), (22, .invokespecial 259), (25, .athrow), (26, .aload_n 0), (27, .getfield 28), (30, .iload_n 1), (31, .invokevirtual 305), (34, .checkcast 347), (37, .areturn)]
def qM_X11_activityAt : QM := (yX11_activityAt, cX11_activityAt, 2, (some (.object "DurableLoom$Activity")), RX11, false, [], qK_X11, qC_X11_activityAt_0)
def qC_X11_scheduleAt_0 : List (Nat × Instr) := [(0, .iload_n 1), (1, .ifCond .lt 14), (4, .iload_n 1), (5, .aload_n 0), (6, .getfield 34), (9, .invokevirtual 127), (12, .if_icmp .lt 14), (15, .new 255), (18, .dup), (19, .ldc_w 512), (22, .invokespecial 259), (25, .athrow), (26, .aload_n 0), (27, .getfield 34), (30, .iload_n 1), (31, .invokevirtual 305), (34, .checkcast 394), (37, .areturn)]
def qM_X11_scheduleAt : QM := (yX11_scheduleAt, cX11_scheduleAt, 2, (some (.object "DurableLoom$Schedule")), RX11, false, [], qK_X11, qC_X11_scheduleAt_0)
def qC_X11_checkVersion_0 : List (Nat × Instr) := [(0, .iload_n 2), (1, .ifCond .lt 14), (4, .iload_n 2), (5, .aload_n 1), (6, .getfield 124), (9, .invokevirtual 127), (12, .if_icmp .lt 14), (15, .new 255), (18, .dup), (19, .ldc_w 514), (22, .invokespecial 259), (25, .athrow), (26, .return_)]
def qM_X11_checkVersion : QM := (yX11_checkVersion, cX11_checkVersion, 3, none, RX11, false, [], qK_X11, qC_X11_checkVersion_0)
def qC_X11_checkTenant_0 : List (Nat × Instr) := [(0, .iload_n 1), (1, .ifCond .lt 8), (4, .iload_n 1), (5, .iconst 3), (6, .if_icmp .lt 14), (9, .new 255), (12, .dup), (13, .ldc_w 516), (16, .invokespecial 259), (19, .athrow), (20, .return_)]
def qM_X11_checkTenant : QM := (yX11_checkTenant, cX11_checkTenant, 2, none, RX11, false, [], qK_X11, qC_X11_checkTenant_0)
def qC_X11_checkWorker_0 : List (Nat × Instr) := [(0, .iload_n 1), (1, .ifCond .lt 12), (4, .iload_n 1), (5, .aload_n 0), (6, .getfield 37), (9, .arraylength), (10, .if_icmp .lt 14), (13, .new 255), (16, .dup), (17, .ldc_w 518), (20, .invokespecial 259), (23, .athrow), (24, .return_)]
def qM_X11_checkWorker : QM := (yX11_checkWorker, cX11_checkWorker, 2, none, RX11, false, [], qK_X11, qC_X11_checkWorker_0)
def qC_X11_checkName_0 : List (Nat × Instr) := [(0, .iload_n 1), (1, .ifCond .lt 8), (4, .iload_n 1), (5, .iconst 4), (6, .if_icmp .lt 14), (9, .new 255), (12, .dup), (13, .ldc_w 520), (16, .invokespecial 259), (19, .athrow), (20, .return_)]
def qM_X11_checkName : QM := (yX11_checkName, cX11_checkName, 2, none, RX11, false, [], qK_X11, qC_X11_checkName_0)
def qC_X11_checkVariable_0 : List (Nat × Instr) := [(0, .iload_n 1), (1, .ifCond .lt 9), (4, .iload_n 1), (5, .bipush 6), (7, .if_icmp .lt 14), (10, .new 255), (13, .dup), (14, .ldc_w 522), (17, .invokespecial 259), (20, .athrow), (21, .return_)]
def qM_X11_checkVariable : QM := (yX11_checkVariable, cX11_checkVariable, 2, none, RX11, false, [], qK_X11, qC_X11_checkVariable_0)
def qC_X11_checkValue_0 : List (Nat × Instr) := [(0, .iload_n 1), (1, .ifCond .lt 10), (4, .iload_n 1), (5, .sipush 999), (8, .if_icmp .le 14), (11, .new 96), (14, .dup), (15, .ldc_w 524), (18, .invokespecial 100), (21, .athrow), (22, .return_)]
def qM_X11_checkValue : QM := (yX11_checkValue, cX11_checkValue, 2, none, RX11, false, [], qK_X11, qC_X11_checkValue_0)
def qC_X11_typeOf_0 : List (Nat × Instr) := [(0, .aload_n 0), (1, .getfield 11), (4, .aload_n 1), (5, .getfield 404), (8, .aload_n 0), (9, .getfield 11), (12, .arraylength), (13, .invokestatic 496), (16, .aaload), (17, .areturn)]
def qM_X11_typeOf : QM := (yX11_typeOf, cX11_typeOf, 2, (some (.object "DurableLoom$Type")), RX11, false, [], qK_X11, qC_X11_typeOf_0)
def qC_X11_codeOf_0 : List (Nat × Instr) := [(0, .aload_n 0), (1, .aload_n 1), (2, .invokevirtual 526), (5, .iload_n 2), (6, .invokevirtual 530), (9, .areturn)]
def qM_X11_codeOf : QM := (yX11_codeOf, cX11_codeOf, 3, (some (.object "DurableLoom$Row")), RX11, false, [], qK_X11, qC_X11_codeOf_0)
def qC_X11_addRun_0 : List (Nat × Instr) := [(0, .new 181), (3, .dup), (4, .aload_n 0), (5, .getfield 24), (8, .invokevirtual 127), (11, .iload_n 1), (12, .iload_n 2), (13, .iload_n 3), (14, .iload 4), (16, .iload 5), (18, .invokespecial 534), (21, .astore 6), (23, .aload_n 0), (24, .getfield 24), (27, .aload 6), (29, .invokevirtual 300), (32, .pop), (33, .aload 6), (35, .areturn)]
def qM_X11_addRun : QM := (yX11_addRun, cX11_addRun, 7, (some (.object "DurableLoom$Run")), RX11, false, [], qK_X11, qC_X11_addRun_0)
def qC_X11_startRun_0 : List (Nat × Instr) := [(0, .aload_n 0), (1, .getfield 11), (4, .iload_n 1), (5, .aload_n 0), (6, .getfield 11), (9, .arraylength), (10, .invokestatic 496), (13, .aaload), (14, .getfield 124), (17, .invokevirtual 127), (20, .iconst 1), (21, .isub), (22, .istore 6), (24, .aload_n 0), (25, .iload_n 1), (26, .iload_n 2), (27, .iload 6), (29, .iload 4), (31, .iload 5), (33, .invokevirtual 420), (36, .astore 7), (38, .aload_n 0), (39, .aload 7), (41, .iconst 0), (42, .iload_n 3), (43, .iconst 0), (44, .invokevirtual 204), (47, .aload 7), (49, .areturn)]
def qM_X11_startRun : QM := (yX11_startRun, cX11_startRun, 8, (some (.object "DurableLoom$Run")), RX11, false, [], qK_X11, qC_X11_startRun_0)
def qC_X11_arrive_0 : List (Nat × Instr) := [(0, .aload_n 1), (1, .getfield 195), (4, .iload_n 2), (5, .iload_n 3), (6, .iload 4), (8, .aload_n 0), (9, .getfield 71), (12, .aload_n 0), (13, .getfield 77), (16, .invokevirtual 537), (19, .aload_n 0), (20, .dup), (21, .getfield 77), (24, .iconst 1), (25, .iadd), (26, .putfield 77), (29, .return_)]
def qM_X11_arrive : QM := (yX11_arrive, cX11_arrive, 5, none, RX11, false, [], qK_X11, qC_X11_arrive_0)
def qC_X11_cancelRun_0 : List (Nat × Instr) := [(0, .aload_n 1), (1, .getfield 195), (4, .bipush 7), (6, .invokevirtual 540), (9, .ifCond .eq 5), (12, .iconst 0), (13, .ireturn), (14, .aload_n 0), (15, .aload_n 1), (16, .bipush 7), (18, .iconst 0), (19, .iconst 0), (20, .invokevirtual 204), (23, .iconst 1), (24, .ireturn)]
def qM_X11_cancelRun : QM := (yX11_cancelRun, cX11_cancelRun, 2, (some .boolean), RX11, false, [], qK_X11, qC_X11_cancelRun_0)
def qC_X11_closeRun_0 : List (Nat × Instr) := [(0, .aload_n 1), (1, .iload_n 2), (2, .putfield 208), (5, .aload_n 0), (6, .aload_n 1), (7, .invokevirtual 427), (10, .aload_n 0), (11, .aload_n 1), (12, .iload 4), (14, .invokevirtual 543), (17, .aload_n 0), (18, .aload_n 1), (19, .invokevirtual 546), (22, .astore 5), (24, .aload 5), (26, .ifnull 11), (29, .aload 5), (31, .invokevirtual 192), (34, .ifCond .ne 4), (37, .return_), (38, .iload_n 2), (39, .iconst 1), (40, .if_icmp .ne 18), (43, .aload_n 0), (44, .aload 5), (46, .iconst 5), (47, .aload_n 1), (48, .getfield 417), (51, .iload_n 3), (52, .invokevirtual 204), (55, .goto 16), (58, .aload_n 0), (59, .aload 5), (61, .bipush 6), (63, .aload_n 1), (64, .getfield 417), (67, .iconst 0), (68, .invokevirtual 204), (71, .return_)]
def qM_X11_closeRun : QM := (yX11_closeRun, cX11_closeRun, 6, none, RX11, false, [], qK_X11, qC_X11_closeRun_0)
def qC_X11_parentOf_0 : List (Nat × Instr) := [(0, .aload_n 1), (1, .getfield 414), (4, .ifCond .lt 34), (7, .aload_n 1), (8, .getfield 414), (11, .aload_n 0), (12, .getfield 24), (15, .invokevirtual 127), (18, .if_icmp .ge 20), (21, .aload_n 0), (22, .getfield 24), (25, .aload_n 1), (26, .getfield 414), (29, .invokevirtual 305), (32, .checkcast 181), (35, .goto 4), (38, .aconst_null), (39, .areturn)]
def qM_X11_parentOf : QM := (yX11_parentOf, cX11_parentOf, 2, (some (.object "DurableLoom$Run")), RX11, false, [], qK_X11, qC_X11_parentOf_0)
def qC_X11_dealWithChildren_0 : List (Nat × Instr) := [(0, .iconst 0), (1, .istore_n 3), (2, .iload_n 3), (3, .aload_n 0), (4, .getfield 24), (7, .invokevirtual 127), (10, .if_icmp .ge 95), (13, .aload_n 0), (14, .getfield 24), (17, .iload_n 3), (18, .invokevirtual 305), (21, .checkcast 181), (24, .astore 4), (26, .aload 4), (28, .getfield 414), (31, .aload_n 1), (32, .getfield 180), (35, .if_icmp .ne 64), (38, .aload 4), (40, .getfield 208), (43, .ifCond .eq 6), (46, .goto 53), (49, .aload_n 0), (50, .aload 4), (52, .invokevirtual 526), (55, .getfield 160), (58, .istore 5), (60, .iload 5), (62, .iconst 1), (63, .if_icmp .ne 13), (66, .aload_n 0), (67, .aload 4), (69, .invokevirtual 242), (72, .pop), (73, .goto 26), (76, .iload 5), (78, .iconst 2), (79, .if_icmp .ne 20), (82, .iload_n 2), (83, .bipush 40), (85, .if_icmp .ge 14), (88, .aload_n 0), (89, .aload 4), (91, .iconst 5), (92, .iconst 0), (93, .iload_n 2), (94, .iconst 1), (95, .iadd), (96, .invokevirtual 458), (99, .iinc 3 1), (102, .goto (-100)), (105, .return_)]
def qM_X11_dealWithChildren : QM := (yX11_dealWithChildren, cX11_dealWithChildren, 6, none, RX11, false, [], qK_X11, qC_X11_dealWithChildren_0)
def qC_X11_endWork_0 : List (Nat × Instr) := [(0, .iconst 0), (1, .istore_n 2), (2, .iload_n 2), (3, .aload_n 0), (4, .getfield 28), (7, .invokevirtual 127), (10, .if_icmp .ge 34), (13, .aload_n 0), (14, .getfield 28), (17, .iload_n 2), (18, .invokevirtual 305), (21, .checkcast 347), (24, .astore_n 3), (25, .aload_n 3), (26, .getfield 366), (29, .aload_n 1), (30, .if_acmp .ne 8), (33, .aload_n 3), (34, .iconst 2), (35, .putfield 351), (38, .iinc 2 1), (41, .goto (-39)), (44, .aload_n 1), (45, .getfield 550), (48, .iconst 0), (49, .invokevirtual 469), (52, .aload_n 1), (53, .getfield 553), (56, .iconst 0), (57, .invokevirtual 469), (60, .return_)]
def qM_X11_endWork : QM := (yX11_endWork, cX11_endWork, 4, none, RX11, false, [], qK_X11, qC_X11_endWork_0)
def qC_X11_partFromChildren_0 : List (Nat × Instr) := [(0, .iconst 0), (1, .istore_n 3), (2, .iload_n 3), (3, .aload_n 0), (4, .getfield 24), (7, .invokevirtual 127), (10, .if_icmp .ge 46), (13, .aload_n 0), (14, .getfield 24), (17, .iload_n 3), (18, .invokevirtual 305), (21, .checkcast 181), (24, .astore 4), (26, .aload 4), (28, .getfield 414), (31, .iload_n 1), (32, .if_icmp .ne 18), (35, .aload 4), (37, .getfield 417), (40, .iload_n 2), (41, .if_icmp .lt 9), (44, .aload 4), (46, .iconst (-1)), (47, .putfield 414), (50, .iinc 3 1), (53, .goto (-51)), (56, .return_)]
def qM_X11_partFromChildren : QM := (yX11_partFromChildren, cX11_partFromChildren, 5, none, RX11, false, [], qK_X11, qC_X11_partFromChildren_0)
def qC_X11_firstRunWithWork_0 : List (Nat × Instr) := [(0, .aconst_null), (1, .astore_n 2), (2, .iconst 0), (3, .istore_n 3), (4, .iload_n 3), (5, .aload_n 0), (6, .getfield 24), (9, .invokevirtual 127), (12, .if_icmp .ge 67), (15, .aload_n 0), (16, .getfield 24), (19, .iload_n 3), (20, .invokevirtual 305), (23, .checkcast 181), (26, .astore 4), (28, .aload 4), (30, .getfield 283), (33, .iload_n 1), (34, .if_icmp .ne 39), (37, .aload 4), (39, .invokevirtual 556), (42, .ifCond .eq 31), (45, .aload_n 0), (46, .aload 4), (48, .invokevirtual 559), (51, .ifCond .ne 22), (54, .aload_n 2), (55, .ifnull 15), (58, .aload 4), (60, .invokevirtual 562), (63, .aload_n 2), (64, .invokevirtual 562), (67, .if_icmp .ge 6), (70, .aload 4), (72, .astore_n 2), (73, .iinc 3 1), (76, .goto (-72)), (79, .aload_n 2), (80, .areturn)]
def qM_X11_firstRunWithWork : QM := (yX11_firstRunWithWork, cX11_firstRunWithWork, 5, (some (.object "DurableLoom$Run")), RX11, false, [], qK_X11, qC_X11_firstRunWithWork_0)
def qC_X11_isHeld_0 : List (Nat × Instr) := [(0, .aload_n 1), (1, .getfield 297), (4, .ifCond .lt 17), (7, .aload_n 1), (8, .getfield 297), (11, .aload_n 0), (12, .getfield 31), (15, .invokevirtual 127), (18, .if_icmp .lt 5), (21, .iconst 0), (22, .ireturn), (23, .aload_n 0), (24, .getfield 31), (27, .aload_n 1), (28, .getfield 297), (31, .invokevirtual 305), (34, .checkcast 292), (37, .astore_n 2), (38, .aload_n 2), (39, .getfield 317), (42, .ifCond .ne 20), (45, .aload_n 0), (46, .getfield 71), (49, .aload_n 2), (50, .getfield 565), (53, .isub), (54, .iconst 5), (55, .if_icmp .ge 7), (58, .iconst 1), (59, .goto 4), (62, .iconst 0), (63, .ireturn)]
def qM_X11_isHeld : QM := (yX11_isHeld, cX11_isHeld, 3, (some .boolean), RX11, false, [], qK_X11, qC_X11_isHeld_0)
def qC_X11_givenTo_0 : List (Nat × Instr) := [(0, .iload_n 1), (1, .ifCond .lt 21), (4, .iload_n 1), (5, .aload_n 0), (6, .getfield 41), (9, .arraylength), (10, .if_icmp .ge 12), (13, .aload_n 0), (14, .getfield 41), (17, .iload_n 1), (18, .iaload), (19, .goto 4), (22, .iconst 0), (23, .ireturn)]
def qM_X11_givenTo : QM := (yX11_givenTo, cX11_givenTo, 2, (some .int), RX11, false, [], qK_X11, qC_X11_givenTo_0)
def qC_X11_countGiven_0 : List (Nat × Instr) := [(0, .iload_n 1), (1, .ifCond .lt 41), (4, .iload_n 1), (5, .aload_n 0), (6, .getfield 41), (9, .arraylength), (10, .if_icmp .ge 32), (13, .iload_n 1), (14, .aload_n 0), (15, .getfield 44), (18, .arraylength), (19, .if_icmp .ge 23), (22, .aload_n 0), (23, .getfield 41), (26, .iload_n 1), (27, .dup2), (28, .iaload), (29, .iconst 1), (30, .iadd), (31, .iastore), (32, .aload_n 0), (33, .getfield 44), (36, .iload_n 1), (37, .dup2), (38, .iaload), (39, .iconst 1), (40, .iadd), (41, .iastore), (42, .return_)]
def qM_X11_countGiven : QM := (yX11_countGiven, cX11_countGiven, 2, none, RX11, false, [], qK_X11, qC_X11_countGiven_0)
def qC_X11_isStale_0 : List (Nat × Instr) := [(0, .aload_n 1), (1, .getfield 309), (4, .astore_n 2), (5, .aload_n 1), (6, .getfield 317), (9, .ifCond .ne 21), (12, .aload_n 2), (13, .getfield 208), (16, .ifCond .ne 14), (19, .aload_n 2), (20, .invokevirtual 568), (23, .aload_n 1), (24, .getfield 571), (27, .if_icmp .eq 7), (30, .iconst 1), (31, .goto 4), (34, .iconst 0), (35, .ireturn)]
def qM_X11_isStale : QM := (yX11_isStale, cX11_isStale, 3, (some .boolean), RX11, false, [], qK_X11, qC_X11_isStale_0)
def qC_X11_countReplay_0 : List (Nat × Instr) := [(0, .iload_n 1), (1, .ifCond .lt 22), (4, .iload_n 1), (5, .aload_n 0), (6, .getfield 37), (9, .arraylength), (10, .if_icmp .ge 13), (13, .aload_n 0), (14, .getfield 37), (17, .iload_n 1), (18, .dup2), (19, .iaload), (20, .iconst 1), (21, .iadd), (22, .iastore), (23, .return_)]
def qM_X11_countReplay : QM := (yX11_countReplay, cX11_countReplay, 2, none, RX11, false, [], qK_X11, qC_X11_countReplay_0)
def qC_X11_putNews_0 : List (Nat × Instr) := [(0, .iload_n 3), (1, .ifCond .ne 25), (4, .aload_n 1), (5, .aload_n 1), (6, .getfield 195), (9, .getfield 199), (12, .putfield 573), (15, .aload_n 1), (16, .aload_n 1), (17, .getfield 195), (20, .getfield 220), (23, .putfield 576), (26, .aload_n 0), (27, .getfield 57), (30, .getfield 579), (33, .astore 4), (35, .iconst 0), (36, .istore 5), (38, .iload 5), (40, .aload 4), (42, .getfield 199), (45, .if_icmp .ge 42), (48, .aload_n 1), (49, .getfield 195), (52, .aload 4), (54, .iload 5), (56, .invokevirtual 261), (59, .aload 4), (61, .iload 5), (63, .invokevirtual 264), (66, .aload 4), (68, .iload 5), (70, .invokevirtual 267), (73, .aload_n 0), (74, .getfield 71), (77, .iconst 0), (78, .invokevirtual 537), (81, .iinc 5 1), (84, .goto (-46)), (87, .aload_n 1), (88, .getfield 195), (91, .bipush 17), (93, .aload_n 2), (94, .getfield 329), (97, .iconst 0), (98, .aload_n 0), (99, .getfield 71), (102, .iconst 0), (103, .invokevirtual 537), (106, .aload_n 1), (107, .aload_n 2), (108, .getfield 320), (111, .putfield 344), (114, .aload_n 1), (115, .aload_n 1), (116, .invokevirtual 568), (119, .putfield 582), (122, .aload_n 0), (123, .getfield 57), (126, .aload_n 1)]
def qC_X11_putNews_1 : List (Nat × Instr) := [(127, .invokevirtual 585), (130, .aload 4), (132, .getfield 199), (135, .ireturn)]
def qM_X11_putNews : QM := (yX11_putNews, cX11_putNews, 6, (some .int), RX11, false, [], qK_X11, qC_X11_putNews_0 ++ qC_X11_putNews_1)
def qC_X11_carryOut_0 : List (Nat × Instr) := [(0, .aload_n 1), (1, .getfield 195), (4, .iload_n 2), (5, .invokevirtual 264), (8, .istore_n 3), (9, .aload_n 1), (10, .getfield 195), (13, .iload_n 2), (14, .invokevirtual 267), (17, .istore 4), (19, .aload_n 1), (20, .getfield 195), (23, .iload_n 2), (24, .invokevirtual 261), (27, .tableswitch 176 8 16 #[49, 61, 75, 87, 176, 96, 105, 116, 144]), (76, .aload_n 0), (77, .aload_n 1), (78, .iload_n 2), (79, .iload_n 3), (80, .iload 4), (82, .invokevirtual 588), (85, .goto 118), (88, .aload_n 1), (89, .iload_n 2), (90, .aload_n 0), (91, .getfield 71), (94, .iload_n 3), (95, .iadd), (96, .invokevirtual 591), (99, .goto 104), (102, .aload_n 0), (103, .aload_n 1), (104, .iload_n 2), (105, .iload_n 3), (106, .iload 4), (108, .invokevirtual 594), (111, .goto 92), (114, .aload_n 0), (115, .aload_n 1), (116, .iload_n 3), (117, .invokevirtual 597), (120, .goto 83), (123, .aload_n 0), (124, .aload_n 1), (125, .iload_n 3), (126, .invokevirtual 600), (129, .goto 74), (132, .aload_n 0), (133, .aload_n 1), (134, .iconst 1), (135, .iload_n 3), (136, .iconst 0), (137, .invokevirtual 458), (140, .goto 63), (143, .aload_n 0), (144, .aload_n 1), (145, .aload_n 0), (146, .getfield 57), (149, .getfield 231), (152, .getfield 603)]
def qC_X11_carryOut_1 : List (Nat × Instr) := [(155, .ifCond .eq 7), (158, .iconst 3), (159, .goto 4), (162, .iconst 2), (163, .iconst 0), (164, .iconst 0), (165, .invokevirtual 458), (168, .goto 35), (171, .aload_n 0), (172, .getfield 24), (175, .invokevirtual 127), (178, .bipush 30), (180, .if_icmp .ge 12), (183, .aload_n 0), (184, .aload_n 1), (185, .iload_n 3), (186, .invokevirtual 606), (189, .goto 14), (192, .aload_n 0), (193, .aload_n 1), (194, .iconst 2), (195, .iconst 0), (196, .iconst 0), (197, .invokevirtual 458), (200, .goto 3), (203, .return_)]
def qM_X11_carryOut : QM := (yX11_carryOut, cX11_carryOut, 5, none, RX11, false, [], qK_X11, qC_X11_carryOut_0 ++ qC_X11_carryOut_1)
def qC_X11_queueTag_0 : List (Nat × Instr) := [(0, .aload_n 0), (1, .getfield 50), (4, .getfield 108), (7, .ldc_w 609), (10, .if_icmp .ge 21), (13, .aload_n 0), (14, .getfield 50), (17, .aload_n 1), (18, .getfield 180), (21, .sipush 1000), (24, .imul), (25, .iload_n 2), (26, .iadd), (27, .i2l), (28, .invokevirtual 120), (31, .aload_n 0), (32, .dup), (33, .getfield 61), (36, .iconst 1), (37, .iadd), (38, .putfield 61), (41, .return_)]
def qM_X11_queueTag : QM := (yX11_queueTag, cX11_queueTag, 3, none, RX11, false, [], qK_X11, qC_X11_queueTag_0)
def qC_X11_makeActivity_0 : List (Nat × Instr) := [(0, .aload_n 0), (1, .getfield 28), (4, .invokevirtual 127), (7, .bipush 60), (9, .if_icmp .lt 14), (12, .aload_n 0), (13, .aload_n 1), (14, .iconst 2), (15, .iload_n 2), (16, .iconst 0), (17, .invokevirtual 204), (20, .goto 27), (23, .aload_n 0), (24, .getfield 28), (27, .new 347), (30, .dup), (31, .aload_n 1), (32, .iload_n 2), (33, .iload_n 3), (34, .iload 4), (36, .aload_n 0), (37, .getfield 71), (40, .invokespecial 610), (43, .invokevirtual 300), (46, .pop), (47, .return_)]
def qM_X11_makeActivity : QM := (yX11_makeActivity, cX11_makeActivity, 5, none, RX11, false, [], qK_X11, qC_X11_makeActivity_0)
def qC_X11_beginChild_0 : List (Nat × Instr) := [(0, .aload_n 0), (1, .getfield 24), (4, .invokevirtual 127), (7, .bipush 30), (9, .if_icmp .ge 26), (12, .aload_n 0), (13, .getfield 11), (16, .iload_n 3), (17, .aload_n 0), (18, .getfield 11), (21, .arraylength), (22, .invokestatic 496), (25, .aaload), (26, .getfield 124), (29, .invokevirtual 170), (32, .ifCond .eq 15), (35, .aload_n 0), (36, .aload_n 1), (37, .bipush 6), (39, .iload_n 2), (40, .iconst 0), (41, .invokevirtual 204), (44, .goto 20), (47, .aload_n 0), (48, .iload_n 3), (49, .aload_n 1), (50, .getfield 283), (53, .iload 4), (55, .aload_n 1), (56, .getfield 180), (59, .iload_n 2), (60, .invokevirtual 176), (63, .pop), (64, .return_)]
def qM_X11_beginChild : QM := (yX11_beginChild, cX11_beginChild, 5, none, RX11, false, [], qK_X11, qC_X11_beginChild_0)
def qC_X11_dropEvent_0 : List (Nat × Instr) := [(0, .iconst 0), (1, .istore_n 3), (2, .iload_n 3), (3, .aload_n 0), (4, .getfield 28), (7, .invokevirtual 127), (10, .if_icmp .ge 46), (13, .aload_n 0), (14, .getfield 28), (17, .iload_n 3), (18, .invokevirtual 305), (21, .checkcast 347), (24, .astore 4), (26, .aload 4), (28, .getfield 366), (31, .aload_n 1), (32, .if_acmp .ne 18), (35, .aload 4), (37, .getfield 367), (40, .iload_n 2), (41, .if_icmp .ne 9), (44, .aload 4), (46, .iconst 2), (47, .putfield 351), (50, .iinc 3 1), (53, .goto (-51)), (56, .aload_n 1), (57, .iload_n 2), (58, .invokevirtual 613), (61, .iconst 0), (62, .istore_n 3), (63, .iload_n 3), (64, .aload_n 0), (65, .getfield 24), (68, .invokevirtual 127), (71, .if_icmp .ge 64), (74, .aload_n 0), (75, .getfield 24), (78, .iload_n 3), (79, .invokevirtual 305), (82, .checkcast 181), (85, .astore 4), (87, .aload 4), (89, .getfield 414), (92, .aload_n 1), (93, .getfield 180), (96, .if_icmp .ne 33), (99, .aload 4), (101, .getfield 417), (104, .iload_n 2), (105, .if_icmp .ne 24), (108, .aload 4), (110, .getfield 208), (113, .ifCond .ne 10), (116, .aload_n 0), (117, .aload 4), (119, .invokevirtual 242), (122, .pop), (123, .aload 4), (125, .iconst (-1))]
def qC_X11_dropEvent_1 : List (Nat × Instr) := [(126, .putfield 414), (129, .iinc 3 1), (132, .goto (-69)), (135, .return_)]
def qM_X11_dropEvent : QM := (yX11_dropEvent, cX11_dropEvent, 5, none, RX11, false, [], qK_X11, qC_X11_dropEvent_0 ++ qC_X11_dropEvent_1)
def qC_X11_goOnAsNew_0 : List (Nat × Instr) := [(0, .aload_n 1), (1, .iconst 4), (2, .putfield 208), (5, .aload_n 0), (6, .aload_n 1), (7, .getfield 404), (10, .aload_n 1), (11, .getfield 283), (14, .iload_n 2), (15, .aload_n 1), (16, .getfield 414), (19, .aload_n 1), (20, .getfield 417), (23, .invokevirtual 176), (26, .astore_n 3), (27, .iconst 0), (28, .istore 4), (30, .iload 4), (32, .iconst 4), (33, .if_icmp .ge 57), (36, .aload_n 0), (37, .getfield 57), (40, .getfield 231), (43, .iload 4), (45, .invokevirtual 616), (48, .astore 5), (50, .iconst 0), (51, .istore 6), (53, .iload 6), (55, .aload 5), (57, .getfield 108), (60, .if_icmp .ge 24), (63, .aload_n 0), (64, .aload_n 3), (65, .iconst 4), (66, .iload 4), (68, .aload 5), (70, .iload 6), (72, .invokevirtual 466), (75, .invokevirtual 204), (78, .iinc 6 1), (81, .goto (-28)), (84, .iinc 4 1), (87, .goto (-57)), (90, .aload_n 0), (91, .aload_n 3), (92, .aload_n 1), (93, .getfield 195), (96, .aload_n 0), (97, .getfield 57), (100, .getfield 231), (103, .getfield 619), (106, .invokevirtual 437), (109, .aload_n 0), (110, .aload_n 1), (111, .invokevirtual 427), (114, .aload_n 0), (115, .aload_n 1), (116, .iconst 0), (117, .invokevirtual 543)]
def qC_X11_goOnAsNew_1 : List (Nat × Instr) := [(120, .return_)]
def qM_X11_goOnAsNew : QM := (yX11_goOnAsNew, cX11_goOnAsNew, 7, none, RX11, false, [], qK_X11, qC_X11_goOnAsNew_0 ++ qC_X11_goOnAsNew_1)
def qC_X11_sendSignals_0 : List (Nat × Instr) := [(0, .aload_n 2), (1, .getfield 199), (4, .istore 4), (6, .iload_n 3), (7, .istore 5), (9, .iload 5), (11, .iload 4), (13, .if_icmp .ge 37), (16, .aload_n 2), (17, .iload 5), (19, .invokevirtual 261), (22, .iconst 4), (23, .if_icmp .ne 21), (26, .aload_n 0), (27, .aload_n 1), (28, .iconst 4), (29, .aload_n 2), (30, .iload 5), (32, .invokevirtual 264), (35, .aload_n 2), (36, .iload 5), (38, .invokevirtual 267), (41, .invokevirtual 204), (44, .iinc 5 1), (47, .goto (-38)), (50, .return_)]
def qM_X11_sendSignals : QM := (yX11_sendSignals, cX11_sendSignals, 6, none, RX11, false, [], qK_X11, qC_X11_sendSignals_0)
def qC_X11_loseEvents_0 : List (Nat × Instr) := [(0, .aload_n 1), (1, .getfield 195), (4, .astore_n 2), (5, .aload_n 2), (6, .getfield 199), (9, .aload_n 1), (10, .getfield 443), (13, .isub), (14, .istore_n 3), (15, .aload_n 1), (16, .getfield 443), (19, .istore 4), (21, .iload 4), (23, .aload_n 2), (24, .getfield 199), (27, .if_icmp .ge 44), (30, .aload_n 2), (31, .iload 4), (33, .invokevirtual 261), (36, .iconst 4), (37, .if_icmp .ne 28), (40, .aload_n 1), (41, .getfield 463), (44, .sipush 1000), (47, .aload_n 2), (48, .iload 4), (50, .invokevirtual 264), (53, .imul), (54, .aload_n 2), (55, .iload 4), (57, .invokevirtual 267), (60, .iadd), (61, .i2l), (62, .invokevirtual 120), (65, .iinc 4 1), (68, .goto (-47)), (71, .iload_n 3), (72, .ifCond .le 21), (75, .aload_n 2), (76, .aload_n 1), (77, .getfield 443), (80, .invokevirtual 622), (83, .aload_n 1), (84, .dup), (85, .getfield 623), (88, .iconst 1), (89, .iadd), (90, .putfield 623), (93, .aload_n 0), (94, .aload_n 1), (95, .getfield 180), (98, .aload_n 1), (99, .getfield 443), (102, .invokevirtual 430), (105, .aload_n 0), (106, .aload_n 1), (107, .invokevirtual 427), (110, .iload_n 3), (111, .ireturn)]
def qM_X11_loseEvents : QM := (yX11_loseEvents, cX11_loseEvents, 5, (some .int), RX11, false, [], qK_X11, qC_X11_loseEvents_0)
def qC_X11_restoreWork_0 : List (Nat × Instr) := [(0, .aload_n 1), (1, .getfield 195), (4, .astore_n 2), (5, .aload_n 2), (6, .getfield 199), (9, .istore_n 3), (10, .iconst 0), (11, .istore 4), (13, .iload 4), (15, .iload_n 3), (16, .if_icmp .ge 100), (19, .aload_n 2), (20, .iload 4), (22, .invokevirtual 261), (25, .istore 5), (27, .iload 5), (29, .bipush 8), (31, .if_icmp .eq 10), (34, .iload 5), (36, .bipush 9), (38, .if_icmp .ne 72), (41, .aload_n 2), (42, .iload 4), (44, .invokevirtual 626), (47, .ifCond .eq 6), (50, .goto 60), (53, .iload 5), (55, .bipush 8), (57, .if_icmp .ne 25), (60, .aload_n 0), (61, .aload_n 1), (62, .iload 4), (64, .aload_n 2), (65, .iload 4), (67, .invokevirtual 264), (70, .aload_n 2), (71, .iload 4), (73, .invokevirtual 267), (76, .invokevirtual 588), (79, .goto 31), (82, .aload_n 1), (83, .iload 4), (85, .aload_n 2), (86, .iload 4), (88, .invokevirtual 629), (91, .aload_n 2), (92, .iload 4), (94, .invokevirtual 264), (97, .iadd), (98, .aload_n 0), (99, .getfield 71), (102, .iconst 1), (103, .iadd), (104, .invokestatic 632), (107, .invokevirtual 591), (110, .iinc 4 1), (113, .goto (-100)), (116, .return_)]
def qM_X11_restoreWork : QM := (yX11_restoreWork, cX11_restoreWork, 6, none, RX11, false, [], qK_X11, qC_X11_restoreWork_0)
def qC_X11_beginTick_0 : List (Nat × Instr) := [(0, .aload_n 0), (1, .dup), (2, .getfield 71), (5, .iconst 1), (6, .iadd), (7, .putfield 71), (10, .iconst 0), (11, .istore_n 1), (12, .iload_n 1), (13, .aload_n 0), (14, .getfield 44), (17, .arraylength), (18, .if_icmp .ge 16), (21, .aload_n 0), (22, .getfield 44), (25, .iload_n 1), (26, .iconst 0), (27, .iastore), (28, .iinc 1 1), (31, .goto (-19)), (34, .return_)]
def qM_X11_beginTick : QM := (yX11_beginTick, cX11_beginTick, 2, none, RX11, false, [], qK_X11, qC_X11_beginTick_0)
def qC_X11_fireTimers_0 : List (Nat × Instr) := [(0, .aload_n 1), (1, .getfield 550), (4, .getfield 108), (7, .istore_n 2), (8, .iconst 0), (9, .istore_n 3), (10, .iconst 0), (11, .istore 4), (13, .iload 4), (15, .iload_n 2), (16, .if_icmp .ge 61), (19, .aload_n 1), (20, .getfield 553), (23, .iload_n 3), (24, .invokevirtual 466), (27, .aload_n 0), (28, .getfield 71), (31, .if_icmp .le 9), (34, .iinc 3 1), (37, .goto 34), (40, .aload_n 0), (41, .aload_n 1), (42, .iconst 3), (43, .aload_n 1), (44, .getfield 550), (47, .iload_n 3), (48, .invokevirtual 466), (51, .iconst 0), (52, .invokevirtual 204), (55, .aload_n 1), (56, .getfield 550), (59, .iload_n 3), (60, .invokevirtual 635), (63, .aload_n 1), (64, .getfield 553), (67, .iload_n 3), (68, .invokevirtual 635), (71, .iinc 4 1), (74, .goto (-61)), (77, .return_)]
def qM_X11_fireTimers : QM := (yX11_fireTimers, cX11_fireTimers, 5, none, RX11, false, [], qK_X11, qC_X11_fireTimers_0)
def qC_X11_lookAtActivity_0 : List (Nat × Instr) := [(0, .aload_n 0), (1, .getfield 17), (4, .aload_n 1), (5, .getfield 349), (8, .aload_n 0), (9, .getfield 17), (12, .arraylength), (13, .invokestatic 496), (16, .aaload), (17, .astore_n 2), (18, .aload_n 1), (19, .getfield 351), (22, .ifCond .ne 47), (25, .aload_n 1), (26, .getfield 380), (29, .ifCond .ne 40), (32, .aload_n 0), (33, .aload_n 2), (34, .getfield 149), (37, .aload_n 1), (38, .getfield 638), (41, .invokevirtual 641), (44, .ifCond .eq 69), (47, .aload_n 1), (48, .iconst 2), (49, .putfield 351), (52, .aload_n 0), (53, .aload_n 1), (54, .getfield 366), (57, .iconst 2), (58, .aload_n 1), (59, .getfield 367), (62, .iconst 0), (63, .invokevirtual 204), (66, .goto 47), (69, .aload_n 1), (70, .getfield 351), (73, .iconst 1), (74, .if_icmp .ne 39), (77, .aload_n 0), (78, .aload_n 2), (79, .getfield 152), (82, .aload_n 1), (83, .getfield 645), (86, .invokevirtual 641), (89, .ifCond .ne 18), (92, .aload_n 0), (93, .aload_n 2), (94, .getfield 155), (97, .aload_n 1), (98, .getfield 377), (101, .invokevirtual 641), (104, .ifCond .eq 9), (107, .aload_n 0), (108, .aload_n 1), (109, .iconst 0), (110, .invokevirtual 370), (113, .return_)]
def qM_X11_lookAtActivity : QM := (yX11_lookAtActivity, cX11_lookAtActivity, 3, none, RX11, false, [], qK_X11, qC_X11_lookAtActivity_0)
def qC_X11_isReached_0 : List (Nat × Instr) := [(0, .iload_n 1), (1, .ifCond .le 17), (4, .aload_n 0), (5, .getfield 71), (8, .iload_n 2), (9, .isub), (10, .iload_n 1), (11, .if_icmp .lt 7), (14, .iconst 1), (15, .goto 4), (18, .iconst 0), (19, .ireturn)]
def qM_X11_isReached : QM := (yX11_isReached, cX11_isReached, 3, (some .boolean), RX11, false, [], qK_X11, qC_X11_isReached_0)
def qC_X11_failAttempt_0 : List (Nat × Instr) := [(0, .aload_n 0), (1, .getfield 17), (4, .aload_n 1), (5, .getfield 349), (8, .aload_n 0), (9, .getfield 17), (12, .arraylength), (13, .invokestatic 496), (16, .aaload), (17, .astore_n 3), (18, .iload_n 2), (19, .ifCond .ne 35), (22, .aload_n 1), (23, .getfield 380), (26, .aload_n 3), (27, .getfield 143), (30, .if_icmp .ge 24), (33, .aload_n 1), (34, .iconst 0), (35, .putfield 351), (38, .aload_n 1), (39, .aload_n 0), (40, .getfield 71), (43, .aload_n 3), (44, .getfield 146), (47, .iadd), (48, .putfield 353), (51, .goto 22), (54, .aload_n 1), (55, .iconst 2), (56, .putfield 351), (59, .aload_n 0), (60, .aload_n 1), (61, .getfield 366), (64, .iconst 2), (65, .aload_n 1), (66, .getfield 367), (69, .iconst 0), (70, .invokevirtual 204), (73, .return_)]
def qM_X11_failAttempt : QM := (yX11_failAttempt, cX11_failAttempt, 4, none, RX11, false, [], qK_X11, qC_X11_failAttempt_0)
def qC_X11_lookAtSchedule_0 : List (Nat × Instr) := [(0, .aload_n 1), (1, .getfield 648), (4, .ifCond .eq 25), (7, .aload_n 0), (8, .aload_n 1), (9, .invokevirtual 651), (12, .ifCond .ne 17), (15, .aload_n 1), (16, .iconst 0), (17, .putfield 648), (20, .aload_n 0), (21, .aload_n 1), (22, .aload_n 1), (23, .getfield 655), (26, .invokevirtual 658), (29, .aload_n 0), (30, .getfield 71), (33, .aload_n 0), (34, .getfield 74), (37, .iadd), (38, .istore_n 2), (39, .aload_n 1), (40, .getfield 662), (43, .iconst 1), (44, .iadd), (45, .istore_n 3), (46, .iload_n 3), (47, .iload_n 2), (48, .if_icmp .gt 36), (51, .aload_n 1), (52, .iload_n 3), (53, .invokevirtual 665), (56, .ifCond .eq 22), (59, .aload_n 1), (60, .getfield 483), (63, .ifCond .ne 15), (66, .aload_n 0), (67, .aload_n 1), (68, .iload_n 3), (69, .sipush 1000), (72, .invokestatic 496), (75, .invokevirtual 668), (78, .iinc 3 1), (81, .goto (-35)), (84, .aload_n 1), (85, .aload_n 1), (86, .getfield 662), (89, .iload_n 2), (90, .invokestatic 632), (93, .putfield 662), (96, .return_)]
def qM_X11_lookAtSchedule : QM := (yX11_lookAtSchedule, cX11_lookAtSchedule, 4, none, RX11, false, [], qK_X11, qC_X11_lookAtSchedule_0)
def qC_X11_meetPoint_0 : List (Nat × Instr) := [(0, .aload_n 0), (1, .aload_n 1), (2, .invokevirtual 651), (5, .ifCond .eq 11), (8, .aload_n 1), (9, .getfield 671), (12, .iconst 3), (13, .if_icmp .ne 12), (16, .aload_n 0), (17, .aload_n 1), (18, .iload_n 2), (19, .invokevirtual 658), (22, .goto 64), (25, .aload_n 1), (26, .getfield 671), (29, .iconst 1), (30, .if_icmp .ne 23), (33, .aload_n 1), (34, .getfield 648), (37, .ifCond .ne 49), (40, .aload_n 1), (41, .iconst 1), (42, .putfield 648), (45, .aload_n 1), (46, .iload_n 2), (47, .putfield 655), (50, .goto 36), (53, .aload_n 1), (54, .getfield 671), (57, .iconst 2), (58, .if_icmp .ne 28), (61, .aload_n 0), (62, .aload_n 0), (63, .getfield 24), (66, .aload_n 1), (67, .getfield 674), (70, .invokevirtual 305), (73, .checkcast 181), (76, .invokevirtual 242), (79, .pop), (80, .aload_n 0), (81, .aload_n 1), (82, .iload_n 2), (83, .invokevirtual 658), (86, .return_)]
def qM_X11_meetPoint : QM := (yX11_meetPoint, cX11_meetPoint, 3, none, RX11, false, [], qK_X11, qC_X11_meetPoint_0)
def qC_X11_lastIsOpen_0 : List (Nat × Instr) := [(0, .aload_n 1), (1, .getfield 674), (4, .ifCond .lt 41), (7, .aload_n 1), (8, .getfield 674), (11, .aload_n 0), (12, .getfield 24), (15, .invokevirtual 127), (18, .if_icmp .ge 27), (21, .aload_n 0), (22, .getfield 24), (25, .aload_n 1), (26, .getfield 674), (29, .invokevirtual 305), (32, .checkcast 181), (35, .getfield 208), (38, .ifCond .ne 7), (41, .iconst 1), (42, .goto 4), (45, .iconst 0), (46, .ireturn)]
def qM_X11_lastIsOpen : QM := (yX11_lastIsOpen, cX11_lastIsOpen, 2, (some .boolean), RX11, false, [], qK_X11, qC_X11_lastIsOpen_0)
def qC_X11_startFor_0 : List (Nat × Instr) := [(0, .aload_n 0), (1, .getfield 24), (4, .invokevirtual 127), (7, .bipush 30), (9, .if_icmp .ge 25), (12, .aload_n 1), (13, .aload_n 0), (14, .aload_n 1), (15, .getfield 491), (18, .aload_n 1), (19, .getfield 492), (22, .iload_n 2), (23, .iconst (-1)), (24, .iconst 0), (25, .invokevirtual 176), (28, .getfield 180), (31, .putfield 674), (34, .return_)]
def qM_X11_startFor : QM := (yX11_startFor, cX11_startFor, 3, none, RX11, false, [], qK_X11, qC_X11_startFor_0)
def qC_X12_init_0 : List (Nat × Instr) := [(0, .aload_n 0), (1, .invokespecial 1), (4, .aload_n 0), (5, .iconst 4), (6, .newarray .int), (8, .putfield 7), (11, .aload_n 0), (12, .bipush 20), (14, .newarray .int), (16, .putfield 13), (19, .aload_n 0), (20, .sipush 480), (23, .newarray .int), (25, .putfield 16), (28, .aload_n 0), (29, .sipush 480), (32, .newarray .int), (34, .putfield 19), (37, .aload_n 0), (38, .sipush 480), (41, .newarray .int), (43, .putfield 22), (46, .aload_n 0), (47, .iconst 4), (48, .newarray .int), (50, .putfield 25), (53, .aload_n 0), (54, .iconst 4), (55, .newarray .int), (57, .putfield 28), (60, .aload_n 0), (61, .iconst 4), (62, .newarray .int), (64, .putfield 31), (67, .aload_n 0), (68, .iconst 4), (69, .newarray .int), (71, .putfield 34), (74, .aload_n 0), (75, .iconst 4), (76, .newarray .int), (78, .putfield 37), (81, .aload_n 0), (82, .iconst 4), (83, .newarray .int), (85, .putfield 40), (88, .aload_n 0), (89, .bipush 30), (91, .newarray .int), (93, .putfield 43), (96, .aload_n 0), (97, .bipush 30), (99, .newarray .int), (101, .putfield 46), (104, .aload_n 0), (105, .bipush 30), (107, .newarray .int), (109, .putfield 49), (112, .aload_n 0), (113, .bipush 30)]
def qC_X12_init_1 : List (Nat × Instr) := [(115, .newarray .int), (117, .putfield 52), (120, .aload_n 0), (121, .bipush 30), (123, .newarray .int), (125, .putfield 55), (128, .aload_n 0), (129, .bipush 30), (131, .newarray .int), (133, .putfield 58), (136, .aload_n 0), (137, .bipush 30), (139, .newarray .int), (141, .putfield 61), (144, .aload_n 0), (145, .bipush 30), (147, .newarray .int), (149, .putfield 64), (152, .aload_n 0), (153, .bipush 30), (155, .newarray .int), (157, .putfield 67), (160, .aload_n 0), (161, .bipush 30), (163, .newarray .int), (165, .putfield 70), (168, .aload_n 0), (169, .bipush 30), (171, .newarray .int), (173, .putfield 73), (176, .aload_n 0), (177, .bipush 30), (179, .newarray .int), (181, .putfield 76), (184, .aload_n 0), (185, .bipush 30), (187, .newarray .int), (189, .putfield 79), (192, .aload_n 0), (193, .bipush 30), (195, .newarray .int), (197, .putfield 82), (200, .aload_n 0), (201, .bipush 30), (203, .newarray .int), (205, .putfield 85), (208, .aload_n 0), (209, .ldc 88), (211, .newarray .long), (213, .putfield 89), (216, .aload_n 0), (217, .iconst (-1)), (218, .putfield 93), (221, .aload_n 0), (222, .ldc 97), (224, .newarray .int), (226, .putfield 98), (229, .aload_n 0), (230, .sipush 16384), (233, .newarray .int)]
def qC_X12_init_2 : List (Nat × Instr) := [(235, .putfield 101), (238, .aload_n 0), (239, .bipush 60), (241, .newarray .int), (243, .putfield 104), (246, .aload_n 0), (247, .bipush 60), (249, .newarray .int), (251, .putfield 107), (254, .aload_n 0), (255, .bipush 60), (257, .newarray .int), (259, .putfield 110), (262, .aload_n 0), (263, .bipush 60), (265, .newarray .int), (267, .putfield 113), (270, .aload_n 0), (271, .bipush 60), (273, .newarray .int), (275, .putfield 116), (278, .aload_n 0), (279, .bipush 60), (281, .newarray .int), (283, .putfield 119), (286, .aload_n 0), (287, .bipush 60), (289, .newarray .int), (291, .putfield 122), (294, .aload_n 0), (295, .bipush 60), (297, .newarray .int), (299, .putfield 125), (302, .aload_n 0), (303, .bipush 60), (305, .newarray .int), (307, .putfield 128), (310, .aload_n 0), (311, .bipush 60), (313, .newarray .int), (315, .putfield 131), (318, .aload_n 0), (319, .bipush 60), (321, .newarray .int), (323, .putfield 134), (326, .aload_n 0), (327, .sipush 512), (330, .newarray .int), (332, .putfield 137), (335, .aload_n 0), (336, .sipush 512), (339, .newarray .int), (341, .putfield 140), (344, .aload_n 0), (345, .sipush 512), (348, .newarray .int), (350, .putfield 143), (353, .aload_n 0), (354, .iconst 3), (355, .putfield 146)]
def qC_X12_init_3 : List (Nat × Instr) := [(358, .aload_n 0), (359, .sipush 4096), (362, .newarray .int), (364, .putfield 149), (367, .aload_n 0), (368, .sipush 4096), (371, .newarray .int), (373, .putfield 152), (376, .aload_n 0), (377, .sipush 4096), (380, .newarray .int), (382, .putfield 155), (385, .aload_n 0), (386, .sipush 4096), (389, .newarray .int), (391, .putfield 158), (394, .aload_n 0), (395, .sipush 4096), (398, .newarray .int), (400, .putfield 161), (403, .aload_n 0), (404, .sipush 4096), (407, .newarray .int), (409, .putfield 164), (412, .aload_n 0), (413, .sipush 4096), (416, .newarray .int), (418, .putfield 167), (421, .aload_n 0), (422, .sipush 4096), (425, .newarray .boolean), (427, .putfield 170), (430, .aload_n 0), (431, .iconst 3), (432, .newarray .int), (434, .putfield 174), (437, .aload_n 0), (438, .iconst 3), (439, .newarray .int), (441, .putfield 177), (444, .aload_n 0), (445, .iconst 3), (446, .newarray .int), (448, .putfield 180), (451, .aload_n 0), (452, .bipush 90), (454, .newarray .int), (456, .putfield 183), (459, .aload_n 0), (460, .bipush 90), (462, .newarray .int), (464, .putfield 186), (467, .aload_n 0), (468, .bipush 90), (470, .newarray .int), (472, .putfield 189), (475, .aload_n 0), (476, .bipush 90), (478, .newarray .int), (480, .putfield 192)]
def qC_X12_init_4 : List (Nat × Instr) := [(483, .aload_n 0), (484, .bipush 90), (486, .newarray .int), (488, .putfield 195), (491, .aload_n 0), (492, .iconst 4), (493, .newarray .int), (495, .putfield 198), (498, .aload_n 0), (499, .iconst 4), (500, .newarray .int), (502, .putfield 201), (505, .aload_n 0), (506, .iconst 4), (507, .newarray .int), (509, .putfield 204), (512, .aload_n 0), (513, .iconst 4), (514, .newarray .int), (516, .putfield 207), (519, .aload_n 0), (520, .iconst 4), (521, .newarray .int), (523, .putfield 210), (526, .aload_n 0), (527, .iconst 4), (528, .newarray .boolean), (530, .putfield 213), (533, .aload_n 0), (534, .iconst 4), (535, .newarray .int), (537, .putfield 216), (540, .aload_n 0), (541, .iconst 4), (542, .newarray .boolean), (544, .putfield 219), (547, .aload_n 0), (548, .iconst 4), (549, .newarray .int), (551, .putfield 222), (554, .aload_n 0), (555, .ldc 225), (557, .newarray .int), (559, .putfield 226), (562, .aload_n 0), (563, .bipush 30), (565, .newarray .int), (567, .putfield 229), (570, .aload_n 0), (571, .sipush 4096), (574, .newarray .int), (576, .putfield 232), (579, .aload_n 0), (580, .sipush 4096), (583, .newarray .int), (585, .putfield 235), (588, .aload_n 0), (589, .sipush 4096), (592, .newarray .int), (594, .putfield 238)]
def qC_X12_init_5 : List (Nat × Instr) := [(597, .aload_n 0), (598, .bipush 6), (600, .newarray .int), (602, .putfield 241), (605, .aload_n 0), (606, .bipush 12), (608, .newarray .int), (610, .putfield 244), (613, .aload_n 0), (614, .bipush 12), (616, .newarray .int), (618, .putfield 247), (621, .aload_n 0), (622, .bipush 12), (624, .newarray .int), (626, .putfield 250), (629, .aload_n 0), (630, .bipush 12), (632, .newarray .int), (634, .putfield 253), (637, .aload_n 0), (638, .bipush 12), (640, .newarray .int), (642, .putfield 256), (645, .aload_n 0), (646, .bipush 12), (648, .newarray .int), (650, .putfield 259), (653, .aload_n 0), (654, .bipush 12), (656, .newarray .int), (658, .putfield 262), (661, .aload_n 0), (662, .bipush 12), (664, .newarray .int), (666, .putfield 265), (669, .aload_n 0), (670, .bipush 12), (672, .newarray .boolean), (674, .putfield 268), (677, .aload_n 0), (678, .ldc_w 271), (681, .newarray .int), (683, .putfield 272), (686, .aload_n 0), (687, .ldc_w 271), (690, .newarray .int), (692, .putfield 275), (695, .aload_n 0), (696, .ldc_w 271), (699, .newarray .int), (701, .putfield 278), (704, .aload_n 0), (705, .iconst 4), (706, .newarray .int), (708, .putfield 281), (711, .aload_n 0), (712, .iconst 4), (713, .newarray .int), (715, .putfield 284)]
def qC_X12_init_6 : List (Nat × Instr) := [(718, .aload_n 0), (719, .sipush 8192), (722, .newarray .int), (724, .putfield 287), (727, .aload_n 0), (728, .ldc_w 290), (731, .newarray .int), (733, .putfield 291), (736, .aload_n 0), (737, .ldc_w 290), (740, .newarray .int), (742, .putfield 294), (745, .aload_n 0), (746, .bipush 31), (748, .newarray .int), (750, .putfield 297), (753, .aload_n 0), (754, .bipush 31), (756, .newarray .int), (758, .putfield 300), (761, .iconst 0), (762, .istore_n 1), (763, .iload_n 1), (764, .iconst 4), (765, .if_icmp .ge 30), (768, .aload_n 0), (769, .getfield 25), (772, .iload_n 1), (773, .iconst 3), (774, .iastore), (775, .aload_n 0), (776, .getfield 28), (779, .iload_n 1), (780, .iconst 2), (781, .iastore), (782, .aload_n 0), (783, .getfield 216), (786, .iload_n 1), (787, .iconst (-1)), (788, .iastore), (789, .iinc 1 1), (792, .goto (-29)), (795, .iconst 0), (796, .istore_n 1), (797, .iload_n 1), (798, .bipush 30), (800, .if_icmp .ge 16), (803, .aload_n 0), (804, .getfield 229), (807, .iload_n 1), (808, .iconst (-1)), (809, .iastore), (810, .iinc 1 1), (813, .goto (-16)), (816, .return_)]
def qM_X12_init : QM := (yX12_init, cX12_init, 2, none, RX12, true, [], qK_X12, qC_X12_init_0 ++ qC_X12_init_1 ++ qC_X12_init_2 ++ qC_X12_init_3 ++ qC_X12_init_4 ++ qC_X12_init_5 ++ qC_X12_init_6)
def qC_X12_thrown_0 : List (Nat × Instr) := [(0, .aload_n 0), (1, .getfield 303), (4, .ireturn)]
def qM_X12_thrown : QM := (yX12_thrown, cX12_thrown, 1, (some .int), RX12, false, [], qK_X12, qC_X12_thrown_0)
def qC_X12_fails_0 : List (Nat × Instr) := [(0, .aload_n 0), (1, .iload_n 1), (2, .putfield 303), (5, .iload_n 1), (6, .ifCond .le 7), (9, .iconst 1), (10, .goto 4), (13, .iconst 0), (14, .ireturn)]
def qM_X12_fails : QM := (yX12_fails, cX12_fails, 2, (some .boolean), RX12, false, [], qK_X12, qC_X12_fails_0)
def qC_X12_tells_0 : List (Nat × Instr) := [(0, .aload_n 0), (1, .iconst 0), (2, .putfield 303), (5, .iload_n 1), (6, .ireturn)]
def qM_X12_tells : QM := (yX12_tells, cX12_tells, 2, (some .int), RX12, false, [], qK_X12, qC_X12_tells_0)
def qC_X12_isIn_0 : List (Nat × Instr) := [(0, .iload_n 0), (1, .iload_n 1), (2, .if_icmp .lt 12), (5, .iload_n 0), (6, .iload_n 2), (7, .if_icmp .gt 7), (10, .iconst 1), (11, .goto 4), (14, .iconst 0), (15, .ireturn)]
def qM_X12_isIn : QM := (yX12_isIn, cX12_isIn, 3, (some .boolean), RX12, false, [], qK_X12, qC_X12_isIn_0)
def qC_X12_least_0 : List (Nat × Instr) := [(0, .iload_n 0), (1, .iload_n 1), (2, .if_icmp .ge 7), (5, .iload_n 0), (6, .goto 4), (9, .iload_n 1), (10, .ireturn)]
def qM_X12_least : QM := (yX12_least, cX12_least, 2, (some .int), RX12, false, [], qK_X12, qC_X12_least_0)
def qC_X12_most_0 : List (Nat × Instr) := [(0, .iload_n 0), (1, .iload_n 1), (2, .if_icmp .le 7), (5, .iload_n 0), (6, .goto 4), (9, .iload_n 1), (10, .ireturn)]
def qM_X12_most : QM := (yX12_most, cX12_most, 2, (some .int), RX12, false, [], qK_X12, qC_X12_most_0)
def qC_X12_isType_0 : List (Nat × Instr) := [(0, .iload_n 0), (1, .iconst 0), (2, .iconst 3), (3, .invokestatic 306), (6, .ireturn)]
def qM_X12_isType : QM := (yX12_isType, cX12_isType, 1, (some .boolean), RX12, false, [], qK_X12, qC_X12_isType_0)
def qC_X12_isTenant_0 : List (Nat × Instr) := [(0, .iload_n 0), (1, .iconst 0), (2, .iconst 2), (3, .invokestatic 306), (6, .ireturn)]
def qM_X12_isTenant : QM := (yX12_isTenant, cX12_isTenant, 1, (some .boolean), RX12, false, [], qK_X12, qC_X12_isTenant_0)
def qC_X12_isRun_0 : List (Nat × Instr) := [(0, .iload_n 1), (1, .iconst 0), (2, .aload_n 0), (3, .getfield 310), (6, .iconst 1), (7, .isub), (8, .invokestatic 306), (11, .ireturn)]
def qM_X12_isRun : QM := (yX12_isRun, cX12_isRun, 2, (some .boolean), RX12, false, [], qK_X12, qC_X12_isRun_0)
def qC_X12_isValue_0 : List (Nat × Instr) := [(0, .iload_n 0), (1, .iconst 0), (2, .sipush 999), (5, .invokestatic 306), (8, .ireturn)]
def qM_X12_isValue : QM := (yX12_isValue, cX12_isValue, 1, (some .boolean), RX12, false, [], qK_X12, qC_X12_isValue_0)
def qC_X12_ofThousand_0 : List (Nat × Instr) := [(0, .iload_n 0), (1, .sipush 1000), (4, .irem), (5, .istore_n 1), (6, .iload_n 1), (7, .ifCond .ge 11), (10, .iload_n 1), (11, .sipush 1000), (14, .iadd), (15, .goto 4), (18, .iload_n 1), (19, .ireturn)]
def qM_X12_ofThousand : QM := (yX12_ofThousand, cX12_ofThousand, 2, (some .int), RX12, false, [], qK_X12, qC_X12_ofThousand_0)
def qC_X12_code_0 : List (Nat × Instr) := [(0, .bipush 24), (2, .iconst 5), (3, .iload_n 0), (4, .imul), (5, .iload_n 1), (6, .iadd), (7, .imul), (8, .ireturn)]
def qM_X12_code : QM := (yX12_code, cX12_code, 2, (some .int), RX12, false, [], qK_X12, qC_X12_code_0)
def qC_X12_mostA_0 : List (Nat × Instr) := [(0, .iload_n 0), (1, .tableswitch 124 0 23 #[111, 111, 113, 115, 113, 113, 111, 118, 118, 124, 118, 124, 118, 124, 113, 124, 124, 124, 111, 121, 111, 124, 124, 111]), (112, .iconst 5), (113, .ireturn), (114, .iconst 3), (115, .ireturn), (116, .bipush 100), (118, .ireturn), (119, .bipush 23), (121, .ireturn), (122, .bipush 9), (124, .ireturn), (125, .iconst 0), (126, .ireturn)]
def qM_X12_mostA : QM := (yX12_mostA, cX12_mostA, 1, (some .int), RX12, false, [], qK_X12, qC_X12_mostA_0)
def qC_X12_mostB_0 : List (Nat × Instr) := [(0, .iload_n 0), (1, .tableswitch 104 0 19 #[95, 99, 99, 104, 99, 99, 101, 104, 104, 104, 104, 104, 104, 104, 99, 104, 104, 104, 104, 101]), (96, .sipush 999), (99, .ireturn), (100, .iconst 5), (101, .ireturn), (102, .bipush 23), (104, .ireturn), (105, .iconst 0), (106, .ireturn)]
def qM_X12_mostB : QM := (yX12_mostB, cX12_mostB, 1, (some .int), RX12, false, [], qK_X12, qC_X12_mostB_0)
def qC_X12_line_0 : List (Nat × Instr) := [(0, .iload_n 1), (1, .invokestatic 313), (4, .istore 5), (6, .iload_n 2), (7, .iconst 0), (8, .bipush 23), (10, .invokestatic 306), (13, .ifCond .eq 41), (16, .iload_n 3), (17, .iload_n 2), (18, .iconst 3), (19, .if_icmp .ne 7), (22, .iconst 1), (23, .goto 4), (26, .iconst 0), (27, .iload_n 2), (28, .invokestatic 317), (31, .invokestatic 306), (34, .ifCond .eq 20), (37, .iload 4), (39, .iconst 0), (40, .iload_n 2), (41, .invokestatic 321), (44, .invokestatic 306), (47, .ifCond .eq 7), (50, .iconst 1), (51, .goto 4), (54, .iconst 0), (55, .istore 6), (57, .aload_n 0), (58, .iload 5), (60, .ifCond .ne 7), (63, .iconst 1), (64, .goto 32), (67, .iload 6), (69, .ifCond .ne 7), (72, .iconst 2), (73, .goto 23), (76, .aload_n 0), (77, .getfield 13), (80, .iconst 5), (81, .iload_n 1), (82, .imul), (83, .iconst 4), (84, .iadd), (85, .iaload), (86, .bipush 24), (88, .if_icmp .ne 7), (91, .iconst 3), (92, .goto 4), (95, .iconst 0), (96, .invokevirtual 324), (99, .ifCond .eq 5), (102, .iconst 0), (103, .ireturn), (104, .iconst 5), (105, .iload_n 1), (106, .imul), (107, .iconst 4), (108, .iadd)]
def qC_X12_line_1 : List (Nat × Instr) := [(109, .istore 7), (111, .iload_n 1), (112, .iconst 4), (113, .invokestatic 327), (116, .aload_n 0), (117, .getfield 13), (120, .iload 7), (122, .iaload), (123, .iadd), (124, .istore 8), (126, .aload_n 0), (127, .getfield 16), (130, .iload 8), (132, .iload_n 2), (133, .iastore), (134, .aload_n 0), (135, .getfield 19), (138, .iload 8), (140, .iload_n 3), (141, .iastore), (142, .aload_n 0), (143, .getfield 22), (146, .iload 8), (148, .iload 4), (150, .iastore), (151, .aload_n 0), (152, .getfield 13), (155, .iload 7), (157, .dup2), (158, .iaload), (159, .iconst 1), (160, .iadd), (161, .iastore), (162, .aload_n 0), (163, .getfield 13), (166, .iload 7), (168, .iaload), (169, .ireturn)]
def qM_X12_line : QM := (yX12_line, cX12_line, 9, (some .int), RX12, false, [], qK_X12, qC_X12_line_0 ++ qC_X12_line_1)
def qC_X12_deploy_0 : List (Nat × Instr) := [(0, .iload_n 1), (1, .invokestatic 313), (4, .istore_n 2), (5, .aload_n 0), (6, .iload_n 2), (7, .ifCond .ne 7), (10, .iconst 1), (11, .goto 31), (14, .aload_n 0), (15, .getfield 13), (18, .iconst 5), (19, .iload_n 1), (20, .imul), (21, .iconst 4), (22, .iadd), (23, .iaload), (24, .ifCond .eq 13), (27, .aload_n 0), (28, .getfield 7), (31, .iload_n 1), (32, .iaload), (33, .iconst 4), (34, .if_icmp .ne 7), (37, .iconst 2), (38, .goto 4), (41, .iconst 0), (42, .invokevirtual 324), (45, .ifCond .eq 5), (48, .iconst 0), (49, .ireturn), (50, .iload_n 1), (51, .iconst 4), (52, .invokestatic 327), (55, .istore_n 3), (56, .iload_n 1), (57, .aload_n 0), (58, .getfield 7), (61, .iload_n 1), (62, .iaload), (63, .invokestatic 327), (66, .istore 4), (68, .iconst 0), (69, .istore 5), (71, .iload 5), (73, .aload_n 0), (74, .getfield 13), (77, .iconst 5), (78, .iload_n 1), (79, .imul), (80, .iconst 4), (81, .iadd), (82, .iaload), (83, .if_icmp .ge 66), (86, .aload_n 0), (87, .getfield 16), (90, .iload 4), (92, .iload 5), (94, .iadd), (95, .aload_n 0), (96, .getfield 16)]
def qC_X12_deploy_1 : List (Nat × Instr) := [(99, .iload_n 3), (100, .iload 5), (102, .iadd), (103, .iaload), (104, .iastore), (105, .aload_n 0), (106, .getfield 19), (109, .iload 4), (111, .iload 5), (113, .iadd), (114, .aload_n 0), (115, .getfield 19), (118, .iload_n 3), (119, .iload 5), (121, .iadd), (122, .iaload), (123, .iastore), (124, .aload_n 0), (125, .getfield 22), (128, .iload 4), (130, .iload 5), (132, .iadd), (133, .aload_n 0), (134, .getfield 22), (137, .iload_n 3), (138, .iload 5), (140, .iadd), (141, .iaload), (142, .iastore), (143, .iinc 5 1), (146, .goto (-75)), (149, .aload_n 0), (150, .getfield 13), (153, .iconst 5), (154, .iload_n 1), (155, .imul), (156, .aload_n 0), (157, .getfield 7), (160, .iload_n 1), (161, .iaload), (162, .iadd), (163, .aload_n 0), (164, .getfield 13), (167, .iconst 5), (168, .iload_n 1), (169, .imul), (170, .iconst 4), (171, .iadd), (172, .iaload), (173, .iastore), (174, .aload_n 0), (175, .getfield 13), (178, .iconst 5), (179, .iload_n 1), (180, .imul), (181, .iconst 4), (182, .iadd), (183, .iconst 0), (184, .iastore), (185, .aload_n 0)]
def qC_X12_deploy_2 : List (Nat × Instr) := [(186, .getfield 7), (189, .iload_n 1), (190, .dup2), (191, .iaload), (192, .iconst 1), (193, .iadd), (194, .iastore), (195, .aload_n 0), (196, .getfield 7), (199, .iload_n 1), (200, .iaload), (201, .iconst 1), (202, .isub), (203, .ireturn)]
def qM_X12_deploy : QM := (yX12_deploy, cX12_deploy, 6, (some .int), RX12, false, [], qK_X12, qC_X12_deploy_0 ++ qC_X12_deploy_1 ++ qC_X12_deploy_2)
def qC_X12_setKind_0 : List (Nat × Instr) := [(0, .iload_n 1), (1, .iconst 0), (2, .iconst 3), (3, .invokestatic 306), (6, .istore 7), (8, .iload_n 2), (9, .iconst 1), (10, .iconst 4), (11, .invokestatic 306), (14, .ifCond .eq 50), (17, .iload_n 3), (18, .iconst 0), (19, .bipush 20), (21, .invokestatic 306), (24, .ifCond .eq 40), (27, .iload 4), (29, .iconst 0), (30, .bipush 50), (32, .invokestatic 306), (35, .ifCond .eq 29), (38, .iload 5), (40, .iconst 0), (41, .bipush 50), (43, .invokestatic 306), (46, .ifCond .eq 18), (49, .iload 6), (51, .iconst 0), (52, .bipush 50), (54, .invokestatic 306), (57, .ifCond .eq 7), (60, .iconst 1), (61, .goto 4), (64, .iconst 0), (65, .istore 8), (67, .aload_n 0), (68, .iload 7), (70, .ifCond .ne 7), (73, .iconst 1), (74, .goto 13), (77, .iload 8), (79, .ifCond .eq 7), (82, .iconst 0), (83, .goto 4), (86, .iconst 2), (87, .invokevirtual 324), (90, .ifCond .ne 41), (93, .aload_n 0), (94, .getfield 25), (97, .iload_n 1), (98, .iload_n 2), (99, .iastore), (100, .aload_n 0), (101, .getfield 28), (104, .iload_n 1), (105, .iload_n 3), (106, .iastore), (107, .aload_n 0), (108, .getfield 31), (111, .iload_n 1), (112, .iload 4)]
def qC_X12_setKind_1 : List (Nat × Instr) := [(114, .iastore), (115, .aload_n 0), (116, .getfield 34), (119, .iload_n 1), (120, .iload 5), (122, .iastore), (123, .aload_n 0), (124, .getfield 37), (127, .iload_n 1), (128, .iload 6), (130, .iastore), (131, .return_)]
def qM_X12_setKind : QM := (yX12_setKind, cX12_setKind, 9, none, RX12, false, [], qK_X12, qC_X12_setKind_0 ++ qC_X12_setKind_1)
def qC_X12_setPolicy_0 : List (Nat × Instr) := [(0, .aload_n 0), (1, .iload_n 1), (2, .invokestatic 313), (5, .ifCond .ne 7), (8, .iconst 1), (9, .goto 17), (12, .iload_n 2), (13, .iconst 0), (14, .iconst 2), (15, .invokestatic 306), (18, .ifCond .eq 7), (21, .iconst 0), (22, .goto 4), (25, .iconst 2), (26, .invokevirtual 324), (29, .ifCond .eq 5), (32, .iconst 0), (33, .ireturn), (34, .aload_n 0), (35, .getfield 40), (38, .iload_n 1), (39, .iaload), (40, .istore_n 3), (41, .aload_n 0), (42, .getfield 40), (45, .iload_n 1), (46, .iload_n 2), (47, .iastore), (48, .iload_n 3), (49, .ireturn)]
def qM_X12_setPolicy : QM := (yX12_setPolicy, cX12_setPolicy, 4, (some .int), RX12, false, [], qK_X12, qC_X12_setPolicy_0)
def qC_X12_at_0 : List (Nat × Instr) := [(0, .iload_n 1), (1, .istore_n 3), (2, .iload_n 2), (3, .aload_n 0), (4, .getfield 67), (7, .iload_n 3), (8, .iaload), (9, .if_icmp .ge 13), (12, .aload_n 0), (13, .getfield 64), (16, .iload_n 3), (17, .iaload), (18, .istore_n 3), (19, .goto (-17)), (22, .iload_n 2), (23, .aload_n 0), (24, .getfield 67), (27, .iload_n 3), (28, .iaload), (29, .isub), (30, .istore 4), (32, .sipush 256), (35, .aload_n 0), (36, .getfield 98), (39, .sipush 2048), (42, .iload_n 3), (43, .imul), (44, .iload 4), (46, .sipush 256), (49, .idiv), (50, .iadd), (51, .iaload), (52, .iconst 1), (53, .isub), (54, .imul), (55, .iload 4), (57, .sipush 256), (60, .irem), (61, .iadd), (62, .ireturn)]
def qM_X12_at : QM := (yX12_at, cX12_at, 5, (some .int), RX12, false, [], qK_X12, qC_X12_at_0)
def qC_X12_kindAt_0 : List (Nat × Instr) := [(0, .aload_n 0), (1, .getfield 89), (4, .aload_n 0), (5, .iload_n 1), (6, .iload_n 2), (7, .invokevirtual 331), (10, .laload), (11, .bipush 48), (13, .lshr), (14, .l2i), (15, .sipush 1000), (18, .idiv), (19, .ireturn)]
def qM_X12_kindAt : QM := (yX12_kindAt, cX12_kindAt, 3, (some .int), RX12, false, [], qK_X12, qC_X12_kindAt_0)
def qC_X12_yAt_0 : List (Nat × Instr) := [(0, .aload_n 0), (1, .getfield 89), (4, .aload_n 0), (5, .iload_n 1), (6, .iload_n 2), (7, .invokevirtual 331), (10, .laload), (11, .bipush 48), (13, .lshr), (14, .l2i), (15, .sipush 1000), (18, .irem), (19, .ireturn)]
def qM_X12_yAt : QM := (yX12_yAt, cX12_yAt, 3, (some .int), RX12, false, [], qK_X12, qC_X12_yAt_0)
def qC_X12_xAt_0 : List (Nat × Instr) := [(0, .aload_n 0), (1, .getfield 89), (4, .aload_n 0), (5, .iload_n 1), (6, .iload_n 2), (7, .invokevirtual 331), (10, .laload), (11, .bipush 29), (13, .lshr), (14, .ldc2_w 334), (17, .land), (18, .l2i), (19, .ireturn)]
def qM_X12_xAt : QM := (yX12_xAt, cX12_xAt, 3, (some .int), RX12, false, [], qK_X12, qC_X12_xAt_0)
def qC_X12_whenAt_0 : List (Nat × Instr) := [(0, .aload_n 0), (1, .getfield 89), (4, .aload_n 0), (5, .iload_n 1), (6, .iload_n 2), (7, .invokevirtual 331), (10, .laload), (11, .ldc2_w 336), (14, .land), (15, .l2i), (16, .ireturn)]
def qM_X12_whenAt : QM := (yX12_whenAt, cX12_whenAt, 3, (some .int), RX12, false, [], qK_X12, qC_X12_whenAt_0)
def qC_X12_counts_0 : List (Nat × Instr) := [(0, .aload_n 0), (1, .getfield 70), (4, .iload_n 1), (5, .dup2), (6, .iaload), (7, .iload_n 2), (8, .bipush 7), (10, .if_icmp .gt 7), (13, .iconst 1), (14, .goto 4), (17, .iconst 0), (18, .iadd), (19, .iastore), (20, .aload_n 0), (21, .getfield 73), (24, .iload_n 1), (25, .dup2), (26, .iaload), (27, .iload_n 2), (28, .bipush 17), (30, .if_icmp .ne 7), (33, .iconst 1), (34, .goto 4), (37, .iconst 0), (38, .iadd), (39, .iastore), (40, .aload_n 0), (41, .getfield 76), (44, .iload_n 1), (45, .iload_n 2), (46, .bipush 17), (48, .if_icmp .ne 16), (51, .aload_n 0), (52, .getfield 76), (55, .iload_n 1), (56, .iaload), (57, .iload_n 3), (58, .invokestatic 338), (61, .goto 9), (64, .aload_n 0), (65, .getfield 76), (68, .iload_n 1), (69, .iaload), (70, .iastore), (71, .return_)]
def qM_X12_counts : QM := (yX12_counts, cX12_counts, 4, none, RX12, false, [], qK_X12, qC_X12_counts_0)
def qC_X12_recounts_0 : List (Nat × Instr) := [(0, .aload_n 0), (1, .getfield 70), (4, .iload_n 1), (5, .iconst 0), (6, .iastore), (7, .aload_n 0), (8, .getfield 73), (11, .iload_n 1), (12, .iconst 0), (13, .iastore), (14, .aload_n 0), (15, .getfield 76), (18, .iload_n 1), (19, .iconst 0), (20, .iastore), (21, .iconst 0), (22, .istore_n 2), (23, .iload_n 2), (24, .aload_n 0), (25, .getfield 61), (28, .iload_n 1), (29, .iaload), (30, .if_icmp .ge 26), (33, .aload_n 0), (34, .iload_n 1), (35, .aload_n 0), (36, .iload_n 1), (37, .iload_n 2), (38, .invokevirtual 341), (41, .aload_n 0), (42, .iload_n 1), (43, .iload_n 2), (44, .invokevirtual 344), (47, .invokevirtual 347), (50, .iinc 2 1), (53, .goto (-30)), (56, .return_)]
def qM_X12_recounts : QM := (yX12_recounts, cX12_recounts, 3, none, RX12, false, [], qK_X12, qC_X12_recounts_0)
def qC_X12_puts_0 : List (Nat × Instr) := [(0, .sipush 2048), (3, .iload_n 1), (4, .imul), (5, .aload_n 0), (6, .getfield 61), (9, .iload_n 1), (10, .iaload), (11, .aload_n 0), (12, .getfield 67), (15, .iload_n 1), (16, .iaload), (17, .isub), (18, .sipush 256), (21, .idiv), (22, .iadd), (23, .istore 5), (25, .aload_n 0), (26, .getfield 98), (29, .iload 5), (31, .iaload), (32, .ifCond .ne 24), (35, .aload_n 0), (36, .dup), (37, .getfield 351), (40, .iconst 1), (41, .iadd), (42, .putfield 351), (45, .aload_n 0), (46, .getfield 98), (49, .iload 5), (51, .aload_n 0), (52, .getfield 351), (55, .iastore), (56, .iload_n 2), (57, .bipush 7), (59, .if_icmp .gt 30), (62, .aload_n 0), (63, .dup), (64, .getfield 354), (67, .aload_n 0), (68, .getfield 93), (71, .iload_n 1), (72, .if_icmp .ne 7), (75, .iconst 0), (76, .goto 4), (79, .iconst 1), (80, .iadd), (81, .putfield 354), (84, .aload_n 0), (85, .iload_n 1), (86, .putfield 93), (89, .iload_n 2), (90, .bipush 7), (92, .if_icmp .gt 23), (95, .sipush 1000), (98, .aload_n 0), (99, .getfield 354), (102, .imul), (103, .aload_n 0), (104, .getfield 357)]
def qC_X12_puts_1 : List (Nat × Instr) := [(107, .sipush 1000), (110, .irem), (111, .iadd), (112, .goto 7), (115, .aload_n 0), (116, .getfield 357), (119, .istore 6), (121, .aload_n 0), (122, .getfield 89), (125, .aload_n 0), (126, .iload_n 1), (127, .aload_n 0), (128, .getfield 61), (131, .iload_n 1), (132, .iaload), (133, .invokevirtual 331), (136, .sipush 1000), (139, .iload_n 2), (140, .imul), (141, .iload 4), (143, .iadd), (144, .i2l), (145, .bipush 48), (147, .lshl), (148, .iload_n 3), (149, .i2l), (150, .bipush 29), (152, .lshl), (153, .lor), (154, .iload 6), (156, .i2l), (157, .lor), (158, .lastore), (159, .aload_n 0), (160, .getfield 61), (163, .iload_n 1), (164, .dup2), (165, .iaload), (166, .iconst 1), (167, .iadd), (168, .iastore), (169, .aload_n 0), (170, .iload_n 1), (171, .iload_n 2), (172, .iload_n 3), (173, .invokevirtual 347), (176, .aload_n 0), (177, .getfield 61), (180, .iload_n 1), (181, .iaload), (182, .iconst 1), (183, .isub), (184, .ireturn)]
def qM_X12_puts : QM := (yX12_puts, cX12_puts, 7, (some .int), RX12, false, [], qK_X12, qC_X12_puts_0 ++ qC_X12_puts_1)
def qC_X12_hasCome_0 : List (Nat × Instr) := [(0, .iconst 0), (1, .istore_n 3), (2, .iconst 0), (3, .istore 4), (5, .iload 4), (7, .aload_n 0), (8, .getfield 61), (11, .iload_n 1), (12, .iaload), (13, .if_icmp .ge 30), (16, .iload_n 3), (17, .ifCond .ne 14), (20, .aload_n 0), (21, .iload_n 1), (22, .iload 4), (24, .invokevirtual 341), (27, .iload_n 2), (28, .if_icmp .ne 7), (31, .iconst 1), (32, .goto 4), (35, .iconst 0), (36, .istore_n 3), (37, .iinc 4 1), (40, .goto (-35)), (43, .iload_n 3), (44, .ireturn)]
def qM_X12_hasCome : QM := (yX12_hasCome, cX12_hasCome, 5, (some .boolean), RX12, false, [], qK_X12, qC_X12_hasCome_0)
def qC_X12_makes_0 : List (Nat × Instr) := [(0, .aload_n 0), (1, .getfield 310), (4, .istore 7), (6, .aload_n 0), (7, .getfield 43), (10, .iload 7), (12, .iload_n 1), (13, .iastore), (14, .aload_n 0), (15, .getfield 46), (18, .iload 7), (20, .iload_n 2), (21, .iastore), (22, .aload_n 0), (23, .getfield 49), (26, .iload 7), (28, .iload_n 3), (29, .iastore), (30, .aload_n 0), (31, .getfield 52), (34, .iload 7), (36, .iconst 0), (37, .iastore), (38, .aload_n 0), (39, .getfield 55), (42, .iload 7), (44, .iload 5), (46, .iastore), (47, .aload_n 0), (48, .getfield 58), (51, .iload 7), (53, .iload 6), (55, .iastore), (56, .aload_n 0), (57, .getfield 61), (60, .iload 7), (62, .iconst 0), (63, .iastore), (64, .aload_n 0), (65, .dup), (66, .getfield 310), (69, .iconst 1), (70, .iadd), (71, .putfield 310), (74, .iload 4), (76, .iconst (-1)), (77, .if_icmp .eq 14), (80, .aload_n 0), (81, .iload 7), (83, .iconst 0), (84, .iload 4), (86, .iconst 0), (87, .invokevirtual 360), (90, .pop), (91, .iload 7), (93, .ireturn)]
def qM_X12_makes : QM := (yX12_makes, cX12_makes, 8, (some .int), RX12, false, [], qK_X12, qC_X12_makes_0)
def qC_X12_isAlive_0 : List (Nat × Instr) := [(0, .aload_n 0), (1, .getfield 52), (4, .iload_n 1), (5, .iaload), (6, .ifCond .eq 14), (9, .aload_n 0), (10, .getfield 52), (13, .iload_n 1), (14, .iaload), (15, .bipush 6), (17, .if_icmp .ne 7), (20, .iconst 1), (21, .goto 4), (24, .iconst 0), (25, .ireturn)]
def qM_X12_isAlive : QM := (yX12_isAlive, cX12_isAlive, 2, (some .boolean), RX12, false, [], qK_X12, qC_X12_isAlive_0)
def qC_X12_cancels_0 : List (Nat × Instr) := [(0, .aload_n 0), (1, .iload_n 1), (2, .bipush 7), (4, .invokevirtual 364), (7, .ifCond .ne 7), (10, .iconst 1), (11, .goto 4), (14, .iconst 0), (15, .istore_n 2), (16, .iload_n 2), (17, .ifCond .eq 13), (20, .aload_n 0), (21, .iload_n 1), (22, .bipush 7), (24, .iconst 0), (25, .iconst 0), (26, .invokevirtual 360), (29, .pop), (30, .iload_n 2), (31, .ireturn)]
def qM_X12_cancels : QM := (yX12_cancels, cX12_cancels, 3, (some .boolean), RX12, false, [], qK_X12, qC_X12_cancels_0)
def qC_X12_slot_0 : List (Nat × Instr) := [(0, .iconst (-1)), (1, .istore_n 2), (2, .iconst 0), (3, .istore_n 3), (4, .iload_n 3), (5, .aload_n 0), (6, .getfield 368), (9, .if_icmp .ge 25), (12, .aload_n 0), (13, .getfield 244), (16, .iload_n 3), (17, .iaload), (18, .iload_n 1), (19, .if_icmp .ne 7), (22, .iload_n 3), (23, .goto 4), (26, .iload_n 2), (27, .istore_n 2), (28, .iinc 3 1), (31, .goto (-27)), (34, .iload_n 2), (35, .ireturn)]
def qM_X12_slot : QM := (yX12_slot, cX12_slot, 4, (some .int), RX12, false, [], qK_X12, qC_X12_slot_0)
def qC_X12_goes_0 : List (Nat × Instr) := [(0, .aload_n 0), (1, .getfield 371), (4, .ifCond .ne 14), (7, .aload_n 0), (8, .getfield 374), (11, .ifCond .ne 7), (14, .iconst 1), (15, .goto 4), (18, .iconst 0), (19, .ireturn)]
def qM_X12_goes : QM := (yX12_goes, cX12_goes, 1, (some .boolean), RX12, false, [], qK_X12, qC_X12_goes_0)
def qC_X12_spins_0 : List (Nat × Instr) := [(0, .aload_n 0), (1, .iconst 1), (2, .putfield 374), (5, .aload_n 0), (6, .iconst (-1)), (7, .putfield 378), (10, .return_)]
def qM_X12_spins : QM := (yX12_spins, cX12_spins, 1, none, RX12, false, [], qK_X12, qC_X12_spins_0)
def qC_X12_differs_0 : List (Nat × Instr) := [(0, .aload_n 0), (1, .iconst 1), (2, .putfield 374), (5, .aload_n 0), (6, .iload_n 1), (7, .putfield 378), (10, .return_)]
def qM_X12_differs : QM := (yX12_differs, cX12_differs, 2, none, RX12, false, [], qK_X12, qC_X12_differs_0)
def qC_X12_nextCommand_0 : List (Nat × Instr) := [(0, .aload_n 0), (1, .getfield 381), (4, .aload_n 0), (5, .getfield 384), (8, .if_icmp .ge 38), (11, .aload_n 0), (12, .aload_n 0), (13, .getfield 387), (16, .aload_n 0), (17, .getfield 381), (20, .invokevirtual 341), (23, .bipush 8), (25, .bipush 16), (27, .invokestatic 306), (30, .ifCond .ne 16), (33, .aload_n 0), (34, .dup), (35, .getfield 381), (38, .iconst 1), (39, .iadd), (40, .putfield 381), (43, .goto (-43)), (46, .aload_n 0), (47, .getfield 381), (50, .ireturn)]
def qM_X12_nextCommand : QM := (yX12_nextCommand, cX12_nextCommand, 1, (some .int), RX12, false, [], qK_X12, qC_X12_nextCommand_0)
def qC_X12_nextLater_0 : List (Nat × Instr) := [(0, .aload_n 0), (1, .getfield 390), (4, .aload_n 0), (5, .getfield 61), (8, .aload_n 0), (9, .getfield 387), (12, .iaload), (13, .if_icmp .ge 38), (16, .aload_n 0), (17, .aload_n 0), (18, .getfield 387), (21, .aload_n 0), (22, .getfield 390), (25, .invokevirtual 341), (28, .bipush 8), (30, .bipush 16), (32, .invokestatic 306), (35, .ifCond .ne 16), (38, .aload_n 0), (39, .dup), (40, .getfield 390), (43, .iconst 1), (44, .iadd), (45, .putfield 390), (48, .goto (-48)), (51, .aload_n 0), (52, .getfield 390), (55, .ireturn)]
def qM_X12_nextLater : QM := (yX12_nextLater, cX12_nextLater, 1, (some .int), RX12, false, [], qK_X12, qC_X12_nextLater_0)
def qC_X12_commands_0 : List (Nat × Instr) := [(0, .aload_n 0), (1, .invokevirtual 393), (4, .istore 4), (6, .iload 4), (8, .aload_n 0), (9, .getfield 384), (12, .if_icmp .ge 62), (15, .aload_n 0), (16, .aload_n 0), (17, .getfield 387), (20, .iload 4), (22, .invokevirtual 341), (25, .iload_n 1), (26, .if_icmp .ne 31), (29, .aload_n 0), (30, .aload_n 0), (31, .getfield 387), (34, .iload 4), (36, .invokevirtual 344), (39, .iload_n 2), (40, .if_icmp .ne 17), (43, .aload_n 0), (44, .aload_n 0), (45, .getfield 387), (48, .iload 4), (50, .invokevirtual 397), (53, .iload_n 3), (54, .if_icmp .eq 9), (57, .aload_n 0), (58, .iload 4), (60, .invokevirtual 400), (63, .aload_n 0), (64, .iload 4), (66, .iconst 1), (67, .iadd), (68, .putfield 381), (71, .iload 4), (73, .ireturn), (74, .aload_n 0), (75, .getfield 404), (78, .aload_n 0), (79, .getfield 407), (82, .if_icmp .gt 13), (85, .aload_n 0), (86, .aload_n 0), (87, .invokevirtual 410), (90, .invokevirtual 400), (93, .iconst (-1)), (94, .ireturn), (95, .aload_n 0), (96, .invokevirtual 413), (99, .aload_n 0), (100, .getfield 61), (103, .aload_n 0), (104, .getfield 387), (107, .iaload), (108, .if_icmp .ge 20), (111, .aload_n 0), (112, .dup), (113, .getfield 390)]
def qC_X12_commands_1 : List (Nat × Instr) := [(116, .iconst 1), (117, .iadd), (118, .putfield 390), (121, .aload_n 0), (122, .getfield 390), (125, .iconst 1), (126, .isub), (127, .ireturn), (128, .aload_n 0), (129, .getfield 291), (132, .aload_n 0), (133, .getfield 416), (136, .sipush 1000), (139, .iload_n 1), (140, .imul), (141, .iload_n 3), (142, .iadd), (143, .iastore), (144, .aload_n 0), (145, .getfield 294), (148, .aload_n 0), (149, .getfield 416), (152, .iload_n 2), (153, .iastore), (154, .aload_n 0), (155, .dup), (156, .getfield 416), (159, .iconst 1), (160, .iadd), (161, .putfield 416), (164, .aload_n 0), (165, .getfield 61), (168, .aload_n 0), (169, .getfield 387), (172, .iaload), (173, .aload_n 0), (174, .getfield 416), (177, .iadd), (178, .iconst 1), (179, .isub), (180, .ireturn)]
def qM_X12_commands : QM := (yX12_commands, cX12_commands, 5, (some .int), RX12, false, [], qK_X12, qC_X12_commands_0 ++ qC_X12_commands_1)
def qC_X12_firstTask_0 : List (Nat × Instr) := [(0, .iconst 0), (1, .istore_n 1), (2, .aload_n 0), (3, .aload_n 0), (4, .getfield 387), (7, .iload_n 1), (8, .invokevirtual 341), (11, .bipush 17), (13, .if_icmp .ne 19), (16, .aload_n 0), (17, .aload_n 0), (18, .getfield 387), (21, .iload_n 1), (22, .invokevirtual 344), (25, .aload_n 0), (26, .getfield 404), (29, .if_icmp .ge 9), (32, .iinc 1 1), (35, .goto (-33)), (38, .iload_n 1), (39, .ireturn)]
def qM_X12_firstTask : QM := (yX12_firstTask, cX12_firstTask, 2, (some .int), RX12, false, [], qK_X12, qC_X12_firstTask_0)
def qC_X12_begins_0 : List (Nat × Instr) := [(0, .aload_n 0), (1, .getfield 368), (4, .bipush 12), (6, .if_icmp .ne 8), (9, .aload_n 0), (10, .invokevirtual 419), (13, .return_), (14, .aload_n 0), (15, .getfield 244), (18, .aload_n 0), (19, .getfield 368), (22, .aload_n 0), (23, .getfield 422), (26, .iastore), (27, .aload_n 0), (28, .getfield 272), (31, .aload_n 0), (32, .getfield 422), (35, .iload_n 2), (36, .iastore), (37, .aload_n 0), (38, .dup), (39, .getfield 422), (42, .iconst 1), (43, .iadd), (44, .putfield 422), (47, .aload_n 0), (48, .getfield 247), (51, .aload_n 0), (52, .getfield 368), (55, .iload_n 1), (56, .iastore), (57, .aload_n 0), (58, .getfield 250), (61, .aload_n 0), (62, .getfield 368), (65, .iconst 0), (66, .iastore), (67, .aload_n 0), (68, .getfield 259), (71, .aload_n 0), (72, .getfield 368), (75, .iconst (-1)), (76, .iastore), (77, .aload_n 0), (78, .getfield 262), (81, .aload_n 0), (82, .getfield 368), (85, .iconst (-1)), (86, .iastore), (87, .aload_n 0), (88, .getfield 265), (91, .aload_n 0), (92, .getfield 368), (95, .iconst 0), (96, .iastore), (97, .aload_n 0), (98, .getfield 268), (101, .aload_n 0), (102, .getfield 368)]
def qC_X12_begins_1 : List (Nat × Instr) := [(105, .iconst 0), (106, .bastore), (107, .aload_n 0), (108, .dup), (109, .getfield 368), (112, .iconst 1), (113, .iadd), (114, .putfield 368), (117, .return_)]
def qM_X12_begins : QM := (yX12_begins, cX12_begins, 3, none, RX12, false, [], qK_X12, qC_X12_begins_0 ++ qC_X12_begins_1)
def qC_X12_removes_0 : List (Nat × Instr) := [(0, .aload_n 0), (1, .dup), (2, .getfield 368), (5, .iconst 1), (6, .isub), (7, .putfield 368), (10, .iload_n 1), (11, .istore_n 2), (12, .iload_n 2), (13, .aload_n 0), (14, .getfield 368), (17, .if_icmp .ge 135), (20, .aload_n 0), (21, .getfield 244), (24, .iload_n 2), (25, .aload_n 0), (26, .getfield 244), (29, .iload_n 2), (30, .iconst 1), (31, .iadd), (32, .iaload), (33, .iastore), (34, .aload_n 0), (35, .getfield 247), (38, .iload_n 2), (39, .aload_n 0), (40, .getfield 247), (43, .iload_n 2), (44, .iconst 1), (45, .iadd), (46, .iaload), (47, .iastore), (48, .aload_n 0), (49, .getfield 250), (52, .iload_n 2), (53, .aload_n 0), (54, .getfield 250), (57, .iload_n 2), (58, .iconst 1), (59, .iadd), (60, .iaload), (61, .iastore), (62, .aload_n 0), (63, .getfield 253), (66, .iload_n 2), (67, .aload_n 0), (68, .getfield 253), (71, .iload_n 2), (72, .iconst 1), (73, .iadd), (74, .iaload), (75, .iastore), (76, .aload_n 0), (77, .getfield 256), (80, .iload_n 2), (81, .aload_n 0), (82, .getfield 256), (85, .iload_n 2), (86, .iconst 1), (87, .iadd)]
def qC_X12_removes_1 : List (Nat × Instr) := [(88, .iaload), (89, .iastore), (90, .aload_n 0), (91, .getfield 259), (94, .iload_n 2), (95, .aload_n 0), (96, .getfield 259), (99, .iload_n 2), (100, .iconst 1), (101, .iadd), (102, .iaload), (103, .iastore), (104, .aload_n 0), (105, .getfield 262), (108, .iload_n 2), (109, .aload_n 0), (110, .getfield 262), (113, .iload_n 2), (114, .iconst 1), (115, .iadd), (116, .iaload), (117, .iastore), (118, .aload_n 0), (119, .getfield 265), (122, .iload_n 2), (123, .aload_n 0), (124, .getfield 265), (127, .iload_n 2), (128, .iconst 1), (129, .iadd), (130, .iaload), (131, .iastore), (132, .aload_n 0), (133, .getfield 268), (136, .iload_n 2), (137, .aload_n 0), (138, .getfield 268), (141, .iload_n 2), (142, .iconst 1), (143, .iadd), (144, .baload), (145, .bastore), (146, .iinc 2 1), (149, .goto (-137)), (152, .return_)]
def qM_X12_removes : QM := (yX12_removes, cX12_removes, 3, none, RX12, false, [], qK_X12, qC_X12_removes_0 ++ qC_X12_removes_1)
def qC_X12_endsRun_0 : List (Nat × Instr) := [(0, .aload_n 0), (1, .iload_n 1), (2, .iload_n 2), (3, .iconst 0), (4, .invokevirtual 425), (7, .istore_n 3), (8, .aload_n 0), (9, .getfield 374), (12, .ifCond .ne 12), (15, .iload_n 3), (16, .ifCond .lt 8), (19, .aload_n 0), (20, .iload_n 1), (21, .putfield 371), (24, .return_)]
def qM_X12_endsRun : QM := (yX12_endsRun, cX12_endsRun, 4, none, RX12, false, [], qK_X12, qC_X12_endsRun_0)
def qC_X12_endsBranch_0 : List (Nat × Instr) := [(0, .aload_n 0), (1, .getfield 244), (4, .iload_n 1), (5, .iaload), (6, .ifCond .ne 18), (9, .aload_n 0), (10, .bipush 14), (12, .aload_n 0), (13, .getfield 241), (16, .iconst 0), (17, .iaload), (18, .invokevirtual 429), (21, .goto 8), (24, .aload_n 0), (25, .iload_n 1), (26, .invokevirtual 433), (29, .return_)]
def qM_X12_endsBranch : QM := (yX12_endsBranch, cX12_endsBranch, 2, none, RX12, false, [], qK_X12, qC_X12_endsBranch_0)
def qC_X12_failsBranch_0 : List (Nat × Instr) := [(0, .aload_n 0), (1, .getfield 250), (4, .iload_n 1), (5, .iconst 0), (6, .iastore), (7, .aload_n 0), (8, .getfield 259), (11, .iload_n 1), (12, .iaload), (13, .iconst (-1)), (14, .if_icmp .ne 13), (17, .aload_n 0), (18, .bipush 15), (20, .iconst 0), (21, .invokevirtual 429), (24, .goto 45), (27, .aload_n 0), (28, .getfield 247), (31, .iload_n 1), (32, .aload_n 0), (33, .getfield 275), (36, .aload_n 0), (37, .getfield 259), (40, .iload_n 1), (41, .iaload), (42, .iaload), (43, .bipush 24), (45, .irem), (46, .iastore), (47, .aload_n 0), (48, .getfield 259), (51, .iload_n 1), (52, .aload_n 0), (53, .getfield 275), (56, .aload_n 0), (57, .getfield 259), (60, .iload_n 1), (61, .iaload), (62, .iaload), (63, .bipush 24), (65, .idiv), (66, .iconst 1), (67, .isub), (68, .iastore), (69, .return_)]
def qM_X12_failsBranch : QM := (yX12_failsBranch, cX12_failsBranch, 2, none, RX12, false, [], qK_X12, qC_X12_failsBranch_0)
def qC_X12_lets_0 : List (Nat × Instr) := [(0, .aload_n 0), (1, .getfield 250), (4, .iload_n 1), (5, .iaload), (6, .iconst 1), (7, .if_icmp .eq 13), (10, .aload_n 0), (11, .getfield 250), (14, .iload_n 1), (15, .iaload), (16, .iconst 4), (17, .if_icmp .ne 17), (20, .aload_n 0), (21, .bipush 11), (23, .aload_n 0), (24, .getfield 253), (27, .iload_n 1), (28, .iaload), (29, .iconst 0), (30, .invokevirtual 425), (33, .pop), (34, .aload_n 0), (35, .getfield 250), (38, .iload_n 1), (39, .iconst 0), (40, .iastore), (41, .return_)]
def qM_X12_lets : QM := (yX12_lets, cX12_lets, 2, none, RX12, false, [], qK_X12, qC_X12_lets_0)
def qC_X12_cancelsBranch_0 : List (Nat × Instr) := [(0, .aload_n 0), (1, .getfield 268), (4, .iload_n 1), (5, .iconst 0), (6, .bastore), (7, .aload_n 0), (8, .iload_n 1), (9, .invokevirtual 436), (12, .aload_n 0), (13, .invokevirtual 439), (16, .ifCond .eq 8), (19, .aload_n 0), (20, .iload_n 1), (21, .invokevirtual 443), (24, .return_)]
def qM_X12_cancelsBranch : QM := (yX12_cancelsBranch, cX12_cancelsBranch, 2, none, RX12, false, [], qK_X12, qC_X12_cancelsBranch_0)
def qC_X12_isBelow_0 : List (Nat × Instr) := [(0, .iload_n 1), (1, .istore_n 3), (2, .iload_n 3), (3, .iconst (-1)), (4, .if_icmp .eq 18), (7, .iload_n 3), (8, .iload_n 2), (9, .if_icmp .eq 13), (12, .aload_n 0), (13, .getfield 272), (16, .iload_n 3), (17, .iaload), (18, .istore_n 3), (19, .goto (-17)), (22, .iload_n 3), (23, .iload_n 2), (24, .if_icmp .ne 7), (27, .iconst 1), (28, .goto 4), (31, .iconst 0), (32, .ireturn)]
def qM_X12_isBelow : QM := (yX12_isBelow, cX12_isBelow, 4, (some .boolean), RX12, false, [], qK_X12, qC_X12_isBelow_0)
def qC_X12_dropsBranch_0 : List (Nat × Instr) := [(0, .iconst 0), (1, .istore_n 2), (2, .iload_n 2), (3, .aload_n 0), (4, .getfield 368), (7, .if_icmp .ge 35), (10, .aload_n 0), (11, .invokevirtual 439), (14, .ifCond .eq 28), (17, .aload_n 0), (18, .aload_n 0), (19, .getfield 244), (22, .iload_n 2), (23, .iaload), (24, .iload_n 1), (25, .invokevirtual 446), (28, .ifCond .eq 8), (31, .aload_n 0), (32, .iload_n 2), (33, .invokevirtual 436), (36, .iinc 2 1), (39, .goto (-37)), (42, .aload_n 0), (43, .getfield 368), (46, .iconst 1), (47, .isub), (48, .istore_n 2), (49, .iload_n 2), (50, .ifCond .lt 35), (53, .aload_n 0), (54, .invokevirtual 439), (57, .ifCond .eq 28), (60, .aload_n 0), (61, .aload_n 0), (62, .getfield 244), (65, .iload_n 2), (66, .iaload), (67, .iload_n 1), (68, .invokevirtual 446), (71, .ifCond .eq 8), (74, .aload_n 0), (75, .iload_n 2), (76, .invokevirtual 433), (79, .iinc 2 (-1)), (82, .goto (-33)), (85, .return_)]
def qM_X12_dropsBranch : QM := (yX12_dropsBranch, cX12_dropsBranch, 3, none, RX12, false, [], qK_X12, qC_X12_dropsBranch_0)
def qC_X12_wins_0 : List (Nat × Instr) := [(0, .aload_n 0), (1, .getfield 244), (4, .iload_n 1), (5, .iaload), (6, .istore_n 2), (7, .aload_n 0), (8, .getfield 262), (11, .iload_n 1), (12, .iaload), (13, .istore_n 3), (14, .iload_n 3), (15, .iconst (-1)), (16, .if_icmp .ne 7), (19, .iconst (-1)), (20, .goto 8), (23, .aload_n 0), (24, .iload_n 3), (25, .invokevirtual 449), (28, .istore 4), (30, .aload_n 0), (31, .getfield 247), (34, .iload_n 1), (35, .dup2), (36, .iaload), (37, .iconst 1), (38, .iadd), (39, .iastore), (40, .aload_n 0), (41, .getfield 262), (44, .iload_n 1), (45, .iconst (-1)), (46, .iastore), (47, .iload 4), (49, .iconst (-1)), (50, .if_icmp .ne 4), (53, .return_), (54, .aload_n 0), (55, .getfield 262), (58, .iload 4), (60, .iconst (-1)), (61, .iastore), (62, .aload_n 0), (63, .getfield 272), (66, .iload_n 2), (67, .iaload), (68, .iload_n 3), (69, .if_icmp .ne 41), (72, .aload_n 0), (73, .getfield 247), (76, .iload_n 1), (77, .iaload), (78, .istore 5), (80, .aload_n 0), (81, .iload 4), (83, .invokevirtual 436), (86, .aload_n 0), (87, .getfield 247), (90, .iload 4), (92, .iload 5), (94, .iastore)]
def qC_X12_wins_1 : List (Nat × Instr) := [(95, .aload_n 0), (96, .invokevirtual 439), (99, .ifCond .eq 8), (102, .aload_n 0), (103, .iload_n 2), (104, .invokevirtual 452), (107, .goto 8), (110, .aload_n 0), (111, .iload_n 3), (112, .invokevirtual 452), (115, .return_)]
def qM_X12_wins : QM := (yX12_wins, cX12_wins, 6, none, RX12, false, [], qK_X12, qC_X12_wins_0 ++ qC_X12_wins_1)
def qC_X12_races_0 : List (Nat × Instr) := [(0, .aload_n 0), (1, .getfield 262), (4, .iload_n 1), (5, .iaload), (6, .iconst (-1)), (7, .if_icmp .ne 7), (10, .iconst (-1)), (11, .goto 13), (14, .aload_n 0), (15, .aload_n 0), (16, .getfield 262), (19, .iload_n 1), (20, .iaload), (21, .invokevirtual 449), (24, .istore_n 3), (25, .iload_n 3), (26, .iconst (-1)), (27, .if_icmp .eq 10), (30, .aload_n 0), (31, .getfield 262), (34, .iload_n 3), (35, .iconst (-1)), (36, .iastore), (37, .aload_n 0), (38, .iload_n 2), (39, .aload_n 0), (40, .getfield 244), (43, .iload_n 1), (44, .iaload), (45, .invokevirtual 455), (48, .aload_n 0), (49, .getfield 374), (52, .ifCond .ne 37), (55, .aload_n 0), (56, .getfield 262), (59, .iload_n 1), (60, .aload_n 0), (61, .getfield 244), (64, .aload_n 0), (65, .getfield 368), (68, .iconst 1), (69, .isub), (70, .iaload), (71, .iastore), (72, .aload_n 0), (73, .getfield 262), (76, .aload_n 0), (77, .getfield 368), (80, .iconst 1), (81, .isub), (82, .aload_n 0), (83, .getfield 244), (86, .iload_n 1), (87, .iaload), (88, .iastore), (89, .return_)]
def qM_X12_races : QM := (yX12_races, cX12_races, 4, none, RX12, false, [], qK_X12, qC_X12_races_0)
def qC_X12_hasChild_0 : List (Nat × Instr) := [(0, .iconst 0), (1, .istore_n 2), (2, .iconst 0), (3, .istore_n 3), (4, .iload_n 3), (5, .aload_n 0), (6, .getfield 368), (9, .if_icmp .ge 34), (12, .iload_n 2), (13, .ifCond .ne 18), (16, .aload_n 0), (17, .getfield 272), (20, .aload_n 0), (21, .getfield 244), (24, .iload_n 3), (25, .iaload), (26, .iaload), (27, .iload_n 1), (28, .if_icmp .ne 7), (31, .iconst 1), (32, .goto 4), (35, .iconst 0), (36, .istore_n 2), (37, .iinc 3 1), (40, .goto (-36)), (43, .iload_n 2), (44, .ireturn)]
def qM_X12_hasChild : QM := (yX12_hasChild, cX12_hasChild, 4, (some .boolean), RX12, false, [], qK_X12, qC_X12_hasChild_0)
def qC_X12_awaits_0 : List (Nat × Instr) := [(0, .aload_n 0), (1, .getfield 250), (4, .iload_n 1), (5, .iload_n 2), (6, .iastore), (7, .aload_n 0), (8, .getfield 253), (11, .iload_n 1), (12, .iload_n 3), (13, .iastore), (14, .aload_n 0), (15, .getfield 256), (18, .iload_n 1), (19, .iload 4), (21, .iastore), (22, .return_)]
def qM_X12_awaits : QM := (yX12_awaits, cX12_awaits, 5, none, RX12, false, [], qK_X12, qC_X12_awaits_0)
def qC_X12_undoes_0 : List (Nat × Instr) := [(0, .aload_n 0), (1, .getfield 458), (4, .ifCond .ne 14), (7, .aload_n 0), (8, .getfield 247), (11, .iload_n 1), (12, .dup2), (13, .iaload), (14, .iconst 1), (15, .iadd), (16, .iastore), (17, .return_), (18, .aload_n 0), (19, .dup), (20, .getfield 458), (23, .iconst 1), (24, .isub), (25, .putfield 458), (28, .aload_n 0), (29, .bipush 8), (31, .aload_n 0), (32, .getfield 278), (35, .aload_n 0), (36, .getfield 458), (39, .iaload), (40, .bipush 10), (42, .irem), (43, .aload_n 0), (44, .getfield 278), (47, .aload_n 0), (48, .getfield 458), (51, .iaload), (52, .bipush 10), (54, .idiv), (55, .invokevirtual 425), (58, .istore_n 2), (59, .aload_n 0), (60, .iload_n 1), (61, .iconst 4), (62, .iload_n 2), (63, .iconst 0), (64, .invokevirtual 461), (67, .return_)]
def qM_X12_undoes : QM := (yX12_undoes, cX12_undoes, 3, none, RX12, false, [], qK_X12, qC_X12_undoes_0)
def qC_X12_patches_0 : List (Nat × Instr) := [(0, .aload_n 0), (1, .getfield 465), (4, .iload_n 2), (5, .ishr), (6, .iconst 1), (7, .iand), (8, .ifCond .ne 108), (11, .aload_n 0), (12, .invokevirtual 393), (15, .istore 4), (17, .iload 4), (19, .aload_n 0), (20, .getfield 384), (23, .if_icmp .ge 7), (26, .iconst 1), (27, .goto 4), (30, .iconst 0), (31, .istore 5), (33, .iload 5), (35, .ifCond .eq 36), (38, .aload_n 0), (39, .aload_n 0), (40, .getfield 387), (43, .iload 4), (45, .invokevirtual 341), (48, .bipush 12), (50, .if_icmp .ne 21), (53, .aload_n 0), (54, .aload_n 0), (55, .getfield 387), (58, .iload 4), (60, .invokevirtual 344), (63, .iload_n 2), (64, .if_icmp .ne 7), (67, .iconst 1), (68, .goto 4), (71, .iconst 0), (72, .istore 6), (74, .iload 6), (76, .ifCond .ne 19), (79, .iload 5), (81, .ifCond .ne 35), (84, .aload_n 0), (85, .getfield 404), (88, .aload_n 0), (89, .getfield 407), (92, .if_icmp .le 24), (95, .aload_n 0), (96, .bipush 12), (98, .iload_n 2), (99, .iconst 0), (100, .invokevirtual 425), (103, .pop), (104, .aload_n 0), (105, .dup), (106, .getfield 465), (109, .iconst 1), (110, .iload_n 2), (111, .ishl), (112, .ior)]
def qC_X12_patches_1 : List (Nat × Instr) := [(113, .putfield 465), (116, .aload_n 0), (117, .getfield 247), (120, .iload_n 1), (121, .aload_n 0), (122, .getfield 465), (125, .iload_n 2), (126, .ishr), (127, .iconst 1), (128, .iand), (129, .iconst 1), (130, .if_icmp .ne 14), (133, .aload_n 0), (134, .getfield 247), (137, .iload_n 1), (138, .iaload), (139, .iconst 1), (140, .iadd), (141, .goto 4), (144, .iload_n 3), (145, .iastore), (146, .return_)]
def qM_X12_patches : QM := (yX12_patches, cX12_patches, 7, none, RX12, false, [], qK_X12, qC_X12_patches_0 ++ qC_X12_patches_1)
def qC_X12_bares_0 : List (Nat × Instr) := [(0, .aload_n 0), (1, .getfield 247), (4, .iload_n 1), (5, .dup2), (6, .iaload), (7, .iconst 1), (8, .iadd), (9, .iastore), (10, .aload_n 0), (11, .getfield 265), (14, .iload_n 1), (15, .dup2), (16, .iaload), (17, .aload_n 0), (18, .getfield 265), (21, .iload_n 1), (22, .iaload), (23, .ifCond .le 7), (26, .iconst 1), (27, .goto 4), (30, .iconst 0), (31, .isub), (32, .iastore), (33, .aload_n 0), (34, .getfield 268), (37, .iload_n 1), (38, .baload), (39, .ifCond .eq 17), (42, .aload_n 0), (43, .getfield 265), (46, .iload_n 1), (47, .iaload), (48, .ifCond .ne 8), (51, .aload_n 0), (52, .iload_n 1), (53, .invokevirtual 468), (56, .return_)]
def qM_X12_bares : QM := (yX12_bares, cX12_bares, 2, none, RX12, false, [], qK_X12, qC_X12_bares_0)
def qC_X12_does_0 : List (Nat × Instr) := [(0, .aload_n 0), (1, .getfield 43), (4, .aload_n 0), (5, .getfield 387), (8, .iaload), (9, .aload_n 0), (10, .getfield 471), (13, .invokestatic 327), (16, .aload_n 0), (17, .getfield 247), (20, .iload_n 1), (21, .iaload), (22, .iadd), (23, .istore_n 2), (24, .aload_n 0), (25, .getfield 19), (28, .iload_n 2), (29, .iaload), (30, .istore_n 3), (31, .aload_n 0), (32, .getfield 22), (35, .iload_n 2), (36, .iaload), (37, .istore 4), (39, .aload_n 0), (40, .getfield 16), (43, .iload_n 2), (44, .iaload), (45, .tableswitch 303 0 11 #[63, 84, 121, 146, 164, 176, 201, 232, 242, 266, 276, 295]), (108, .aload_n 0), (109, .getfield 241), (112, .iload_n 3), (113, .iload 4), (115, .iastore), (116, .aload_n 0), (117, .getfield 247), (120, .iload_n 1), (121, .dup2), (122, .iaload), (123, .iconst 1), (124, .iadd), (125, .iastore), (126, .goto 236), (129, .aload_n 0), (130, .getfield 241), (133, .iload_n 3), (134, .aload_n 0), (135, .getfield 241), (138, .iload_n 3), (139, .iaload), (140, .aload_n 0), (141, .getfield 241), (144, .iload 4), (146, .iaload), (147, .iadd), (148, .sipush 1000), (151, .irem), (152, .iastore), (153, .aload_n 0), (154, .getfield 247)]
def qC_X12_does_1 : List (Nat × Instr) := [(157, .iload_n 1), (158, .dup2), (159, .iaload), (160, .iconst 1), (161, .iadd), (162, .iastore), (163, .goto 199), (166, .aload_n 0), (167, .iload_n 1), (168, .iconst 1), (169, .aload_n 0), (170, .bipush 8), (172, .iload_n 3), (173, .aload_n 0), (174, .getfield 241), (177, .iload 4), (179, .iaload), (180, .invokevirtual 425), (183, .iload 4), (185, .invokevirtual 461), (188, .goto 174), (191, .aload_n 0), (192, .iload_n 1), (193, .iconst 1), (194, .aload_n 0), (195, .bipush 9), (197, .iload_n 3), (198, .iconst 0), (199, .invokevirtual 425), (202, .iconst (-1)), (203, .invokevirtual 461), (206, .goto 156), (209, .aload_n 0), (210, .iload_n 1), (211, .iconst 2), (212, .iload_n 3), (213, .iload 4), (215, .invokevirtual 461), (218, .goto 144), (221, .aload_n 0), (222, .iload_n 1), (223, .iconst 1), (224, .aload_n 0), (225, .bipush 10), (227, .iload_n 3), (228, .aload_n 0), (229, .getfield 241), (232, .iload 4), (234, .iaload), (235, .invokevirtual 425), (238, .iload 4), (240, .invokevirtual 461), (243, .goto 119), (246, .aload_n 0), (247, .getfield 247), (250, .iload_n 1), (251, .aload_n 0), (252, .getfield 241), (255, .iload_n 3), (256, .iaload)]
def qC_X12_does_2 : List (Nat × Instr) := [(257, .ifCond .ne 8), (260, .iload 4), (262, .goto 11), (265, .aload_n 0), (266, .getfield 247), (269, .iload_n 1), (270, .iaload), (271, .iconst 1), (272, .iadd), (273, .iastore), (274, .goto 88), (277, .aload_n 0), (278, .getfield 247), (281, .iload_n 1), (282, .iload_n 3), (283, .iastore), (284, .goto 78), (287, .aload_n 0), (288, .getfield 247), (291, .iload_n 1), (292, .dup2), (293, .iaload), (294, .iconst 1), (295, .iadd), (296, .iastore), (297, .aload_n 0), (298, .iload_n 3), (299, .aload_n 0), (300, .getfield 244), (303, .iload_n 1), (304, .iaload), (305, .invokevirtual 455), (308, .goto 54), (311, .aload_n 0), (312, .getfield 250), (315, .iload_n 1), (316, .iconst 3), (317, .iastore), (318, .goto 44), (321, .aload_n 0), (322, .getfield 247), (325, .iload_n 1), (326, .dup2), (327, .iaload), (328, .iconst 1), (329, .iadd), (330, .iastore), (331, .aload_n 0), (332, .iload_n 1), (333, .iload_n 3), (334, .invokevirtual 474), (337, .goto 25), (340, .aload_n 0), (341, .iload_n 1), (342, .invokevirtual 477), (345, .goto 17), (348, .aload_n 0), (349, .iload_n 1), (350, .aload_n 0), (351, .getfield 16)]
def qC_X12_does_3 : List (Nat × Instr) := [(354, .iload_n 2), (355, .iaload), (356, .iload_n 3), (357, .iload 4), (359, .invokevirtual 480), (362, .return_)]
def qM_X12_does : QM := (yX12_does, cX12_does, 5, none, RX12, false, [], qK_X12, qC_X12_does_0 ++ qC_X12_does_1 ++ qC_X12_does_2 ++ qC_X12_does_3)
def qC_X12_doesMore_0 : List (Nat × Instr) := [(0, .iload_n 2), (1, .tableswitch 311 12 22 #[59, 114, 163, 207, 215, 223, 231, 246, 257, 280, 303]), (60, .aload_n 0), (61, .getfield 275), (64, .aload_n 0), (65, .getfield 483), (68, .bipush 24), (70, .aload_n 0), (71, .getfield 259), (74, .iload_n 1), (75, .iaload), (76, .iconst 1), (77, .iadd), (78, .imul), (79, .iload_n 3), (80, .iadd), (81, .iastore), (82, .aload_n 0), (83, .getfield 259), (86, .iload_n 1), (87, .aload_n 0), (88, .getfield 483), (91, .iastore), (92, .aload_n 0), (93, .dup), (94, .getfield 483), (97, .iconst 1), (98, .iadd), (99, .putfield 483), (102, .aload_n 0), (103, .getfield 247), (106, .iload_n 1), (107, .dup2), (108, .iaload), (109, .iconst 1), (110, .iadd), (111, .iastore), (112, .goto 224), (115, .aload_n 0), (116, .getfield 259), (119, .iload_n 1), (120, .aload_n 0), (121, .getfield 259), (124, .iload_n 1), (125, .iaload), (126, .iconst (-1)), (127, .if_icmp .ne 7), (130, .iconst (-1)), (131, .goto 19), (134, .aload_n 0), (135, .getfield 275), (138, .aload_n 0), (139, .getfield 259), (142, .iload_n 1), (143, .iaload), (144, .iaload), (145, .bipush 24), (147, .idiv), (148, .iconst 1), (149, .isub)]
def qC_X12_doesMore_1 : List (Nat × Instr) := [(150, .iastore), (151, .aload_n 0), (152, .getfield 247), (155, .iload_n 1), (156, .dup2), (157, .iaload), (158, .iconst 1), (159, .iadd), (160, .iastore), (161, .goto 175), (164, .aload_n 0), (165, .getfield 278), (168, .aload_n 0), (169, .getfield 458), (172, .bipush 10), (174, .aload_n 0), (175, .getfield 241), (178, .iload 4), (180, .iaload), (181, .imul), (182, .iload_n 3), (183, .iadd), (184, .iastore), (185, .aload_n 0), (186, .dup), (187, .getfield 458), (190, .iconst 1), (191, .iadd), (192, .putfield 458), (195, .aload_n 0), (196, .getfield 247), (199, .iload_n 1), (200, .dup2), (201, .iaload), (202, .iconst 1), (203, .iadd), (204, .iastore), (205, .goto 131), (208, .aload_n 0), (209, .iload_n 1), (210, .invokevirtual 486), (213, .goto 123), (216, .aload_n 0), (217, .iload_n 1), (218, .invokevirtual 489), (221, .goto 115), (224, .aload_n 0), (225, .iload_n 1), (226, .invokevirtual 443), (229, .goto 107), (232, .aload_n 0), (233, .bipush 16), (235, .aload_n 0), (236, .getfield 241), (239, .iload_n 3), (240, .iaload), (241, .invokevirtual 429), (244, .goto 92), (247, .aload_n 0), (248, .iload_n 1)]
def qC_X12_doesMore_2 : List (Nat × Instr) := [(249, .iload_n 3), (250, .iload 4), (252, .invokevirtual 492), (255, .goto 81), (258, .aload_n 0), (259, .getfield 241), (262, .iload_n 3), (263, .aload_n 0), (264, .getfield 494), (267, .iastore), (268, .aload_n 0), (269, .getfield 247), (272, .iload_n 1), (273, .dup2), (274, .iaload), (275, .iconst 1), (276, .iadd), (277, .iastore), (278, .goto 58), (281, .aload_n 0), (282, .getfield 265), (285, .iload_n 1), (286, .dup2), (287, .iaload), (288, .iconst 1), (289, .iadd), (290, .iastore), (291, .aload_n 0), (292, .getfield 247), (295, .iload_n 1), (296, .dup2), (297, .iaload), (298, .iconst 1), (299, .iadd), (300, .iastore), (301, .goto 35), (304, .aload_n 0), (305, .iload_n 1), (306, .invokevirtual 497), (309, .goto 27), (312, .aload_n 0), (313, .bipush 13), (315, .aload_n 0), (316, .getfield 241), (319, .iload_n 3), (320, .iaload), (321, .iconst 0), (322, .invokevirtual 425), (325, .pop), (326, .aload_n 0), (327, .getfield 247), (330, .iload_n 1), (331, .dup2), (332, .iaload), (333, .iconst 1), (334, .iadd), (335, .iastore), (336, .return_)]
def qM_X12_doesMore : QM := (yX12_doesMore, cX12_doesMore, 5, none, RX12, false, [], qK_X12, qC_X12_doesMore_0 ++ qC_X12_doesMore_1 ++ qC_X12_doesMore_2)
def qC_X12_canGoOn_0 : List (Nat × Instr) := [(0, .aload_n 0), (1, .getfield 250), (4, .iload_n 1), (5, .iaload), (6, .iconst 2), (7, .if_icmp .ne 93), (10, .aload_n 0), (11, .getfield 284), (14, .aload_n 0), (15, .getfield 253), (18, .iload_n 1), (19, .iaload), (20, .iaload), (21, .aload_n 0), (22, .getfield 281), (25, .aload_n 0), (26, .getfield 253), (29, .iload_n 1), (30, .iaload), (31, .iaload), (32, .if_icmp .ge 68), (35, .aload_n 0), (36, .getfield 253), (39, .iload_n 1), (40, .iaload), (41, .istore_n 2), (42, .aload_n 0), (43, .getfield 241), (46, .aload_n 0), (47, .getfield 256), (50, .iload_n 1), (51, .iaload), (52, .aload_n 0), (53, .getfield 287), (56, .sipush 2048), (59, .iload_n 2), (60, .imul), (61, .aload_n 0), (62, .getfield 284), (65, .iload_n 2), (66, .iaload), (67, .iadd), (68, .iaload), (69, .iastore), (70, .aload_n 0), (71, .getfield 284), (74, .iload_n 2), (75, .dup2), (76, .iaload), (77, .iconst 1), (78, .iadd), (79, .iastore), (80, .aload_n 0), (81, .getfield 250), (84, .iload_n 1), (85, .iconst 0), (86, .iastore), (87, .aload_n 0), (88, .getfield 247), (91, .iload_n 1)]
def qC_X12_canGoOn_1 : List (Nat × Instr) := [(92, .dup2), (93, .iaload), (94, .iconst 1), (95, .iadd), (96, .iastore), (97, .goto 43), (100, .aload_n 0), (101, .getfield 250), (104, .iload_n 1), (105, .iaload), (106, .iconst 3), (107, .if_icmp .ne 33), (110, .aload_n 0), (111, .aload_n 0), (112, .getfield 244), (115, .iload_n 1), (116, .iaload), (117, .invokevirtual 500), (120, .ifCond .ne 20), (123, .aload_n 0), (124, .getfield 250), (127, .iload_n 1), (128, .iconst 0), (129, .iastore), (130, .aload_n 0), (131, .getfield 247), (134, .iload_n 1), (135, .dup2), (136, .iaload), (137, .iconst 1), (138, .iadd), (139, .iastore), (140, .aload_n 0), (141, .getfield 250), (144, .iload_n 1), (145, .iaload), (146, .ifCond .ne 7), (149, .iconst 1), (150, .goto 4), (153, .iconst 0), (154, .ireturn)]
def qM_X12_canGoOn : QM := (yX12_canGoOn, cX12_canGoOn, 3, (some .boolean), RX12, false, [], qK_X12, qC_X12_canGoOn_0 ++ qC_X12_canGoOn_1)
def qC_X12_goOn_0 : List (Nat × Instr) := [(0, .aload_n 0), (1, .iconst 0), (2, .putfield 503), (5, .iconst 0), (6, .istore_n 1), (7, .iload_n 1), (8, .aload_n 0), (9, .getfield 368), (12, .if_icmp .ge 39), (15, .aload_n 0), (16, .invokevirtual 439), (19, .ifCond .eq 32), (22, .aload_n 0), (23, .iload_n 1), (24, .invokevirtual 506), (27, .ifCond .ne 9), (30, .iinc 1 1), (33, .goto (-26)), (36, .aload_n 0), (37, .aload_n 0), (38, .getfield 244), (41, .iload_n 1), (42, .iaload), (43, .invokevirtual 509), (46, .iconst 0), (47, .istore_n 1), (48, .goto (-41)), (51, .return_)]
def qM_X12_goOn : QM := (yX12_goOn, cX12_goOn, 2, none, RX12, false, [], qK_X12, qC_X12_goOn_0)
def qC_X12_walks_0 : List (Nat × Instr) := [(0, .aload_n 0), (1, .iload_n 1), (2, .invokevirtual 449), (5, .istore_n 2), (6, .iload_n 2), (7, .iconst (-1)), (8, .if_icmp .eq 124), (11, .aload_n 0), (12, .invokevirtual 439), (15, .ifCond .eq 117), (18, .aload_n 0), (19, .getfield 250), (22, .iload_n 2), (23, .iaload), (24, .ifCond .ne 108), (27, .aload_n 0), (28, .getfield 247), (31, .iload_n 2), (32, .iaload), (33, .aload_n 0), (34, .getfield 13), (37, .iconst 5), (38, .aload_n 0), (39, .getfield 43), (42, .aload_n 0), (43, .getfield 387), (46, .iaload), (47, .imul), (48, .aload_n 0), (49, .getfield 471), (52, .iadd), (53, .iaload), (54, .if_icmp .lt 11), (57, .aload_n 0), (58, .iload_n 2), (59, .invokevirtual 489), (62, .goto 34), (65, .aload_n 0), (66, .getfield 503), (69, .bipush 60), (71, .if_icmp .ne 10), (74, .aload_n 0), (75, .invokevirtual 419), (78, .goto 18), (81, .aload_n 0), (82, .dup), (83, .getfield 503), (86, .iconst 1), (87, .iadd), (88, .putfield 503), (91, .aload_n 0), (92, .iload_n 2), (93, .invokevirtual 512), (96, .aload_n 0), (97, .iload_n 1), (98, .invokevirtual 449), (101, .istore_n 2), (102, .iload_n 2), (103, .iconst (-1)), (104, .if_icmp .eq (-98))]
def qC_X12_walks_1 : List (Nat × Instr) := [(107, .aload_n 0), (108, .invokevirtual 439), (111, .ifCond .eq (-105)), (114, .aload_n 0), (115, .getfield 250), (118, .iload_n 2), (119, .iaload), (120, .ifCond .eq (-114)), (123, .aload_n 0), (124, .iload_n 2), (125, .invokevirtual 506), (128, .pop), (129, .goto (-123)), (132, .return_)]
def qM_X12_walks : QM := (yX12_walks, cX12_walks, 3, none, RX12, false, [], qK_X12, qC_X12_walks_0 ++ qC_X12_walks_1)
def qC_X12_waiting_0 : List (Nat × Instr) := [(0, .iconst (-1)), (1, .istore_n 2), (2, .iconst 0), (3, .istore_n 3), (4, .iload_n 3), (5, .aload_n 0), (6, .getfield 368), (9, .if_icmp .ge 45), (12, .aload_n 0), (13, .getfield 250), (16, .iload_n 3), (17, .iaload), (18, .iconst 1), (19, .if_icmp .eq 13), (22, .aload_n 0), (23, .getfield 250), (26, .iload_n 3), (27, .iaload), (28, .iconst 4), (29, .if_icmp .ne 17), (32, .aload_n 0), (33, .getfield 253), (36, .iload_n 3), (37, .iaload), (38, .iload_n 1), (39, .if_icmp .ne 7), (42, .iload_n 3), (43, .goto 4), (46, .iload_n 2), (47, .istore_n 2), (48, .iinc 3 1), (51, .goto (-47)), (54, .iload_n 2), (55, .ireturn)]
def qM_X12_waiting : QM := (yX12_waiting, cX12_waiting, 4, (some .int), RX12, false, [], qK_X12, qC_X12_waiting_0)
def qC_X12_comesBack_0 : List (Nat × Instr) := [(0, .aload_n 0), (1, .iload_n 2), (2, .invokevirtual 515), (5, .istore 4), (7, .iload 4), (9, .iconst (-1)), (10, .if_icmp .ne 4), (13, .return_), (14, .aload_n 0), (15, .getfield 250), (18, .iload 4), (20, .iaload), (21, .iconst 4), (22, .if_icmp .ne 7), (25, .iconst 1), (26, .goto 4), (29, .iconst 0), (30, .istore 5), (32, .aload_n 0), (33, .getfield 250), (36, .iload 4), (38, .iconst 0), (39, .iastore), (40, .iload 5), (42, .ifCond .eq 4), (45, .return_), (46, .iload_n 1), (47, .iconst 2), (48, .if_icmp .eq 9), (51, .iload_n 1), (52, .bipush 6), (54, .if_icmp .ne 10), (57, .aload_n 0), (58, .iload 4), (60, .invokevirtual 443), (63, .return_), (64, .aload_n 0), (65, .getfield 256), (68, .iload 4), (70, .iaload), (71, .iconst (-1)), (72, .if_icmp .eq 16), (75, .aload_n 0), (76, .getfield 241), (79, .aload_n 0), (80, .getfield 256), (83, .iload 4), (85, .iaload), (86, .iload_n 3), (87, .iastore), (88, .aload_n 0), (89, .getfield 247), (92, .iload 4), (94, .dup2), (95, .iaload), (96, .iconst 1), (97, .iadd), (98, .iastore), (99, .return_)]
def qM_X12_comesBack : QM := (yX12_comesBack, cX12_comesBack, 6, none, RX12, false, [], qK_X12, qC_X12_comesBack_0)
def qC_X12_isCancelled_0 : List (Nat × Instr) := [(0, .aload_n 0), (1, .iconst 1), (2, .putfield 518), (5, .iconst 0), (6, .istore_n 1), (7, .iload_n 1), (8, .aload_n 0), (9, .getfield 368), (12, .if_icmp .ge 16), (15, .aload_n 0), (16, .getfield 268), (19, .iload_n 1), (20, .iconst 1), (21, .bastore), (22, .iinc 1 1), (25, .goto (-18)), (28, .iconst 0), (29, .istore_n 1), (30, .iload_n 1), (31, .aload_n 0), (32, .getfield 368), (35, .if_icmp .ge 30), (38, .aload_n 0), (39, .invokevirtual 439), (42, .ifCond .eq 23), (45, .aload_n 0), (46, .getfield 265), (49, .iload_n 1), (50, .iaload), (51, .ifCond .ne 8), (54, .aload_n 0), (55, .iload_n 1), (56, .invokevirtual 468), (59, .iinc 1 1), (62, .goto (-32)), (65, .return_)]
def qM_X12_isCancelled : QM := (yX12_isCancelled, cX12_isCancelled, 2, none, RX12, false, [], qK_X12, qC_X12_isCancelled_0)
def qC_X12_takes_0 : List (Nat × Instr) := [(0, .aload_n 0), (1, .aload_n 0), (2, .getfield 387), (5, .iload_n 1), (6, .invokevirtual 341), (9, .istore_n 2), (10, .aload_n 0), (11, .aload_n 0), (12, .getfield 387), (15, .iload_n 1), (16, .invokevirtual 344), (19, .istore_n 3), (20, .aload_n 0), (21, .aload_n 0), (22, .getfield 387), (25, .iload_n 1), (26, .invokevirtual 397), (29, .istore 4), (31, .aload_n 0), (32, .aload_n 0), (33, .aload_n 0), (34, .getfield 387), (37, .iload_n 1), (38, .invokevirtual 521), (41, .sipush 1000), (44, .irem), (45, .putfield 494), (48, .iload_n 2), (49, .ifCond .ne 19), (52, .aload_n 0), (53, .getfield 241), (56, .iconst 0), (57, .iload_n 3), (58, .iastore), (59, .aload_n 0), (60, .iconst 0), (61, .iconst (-1)), (62, .invokevirtual 455), (65, .goto 61), (68, .iload_n 2), (69, .iconst 4), (70, .if_icmp .ne 35), (73, .aload_n 0), (74, .getfield 287), (77, .sipush 2048), (80, .iload_n 3), (81, .imul), (82, .aload_n 0), (83, .getfield 281), (86, .iload_n 3), (87, .iaload), (88, .iadd), (89, .iload 4), (91, .iastore), (92, .aload_n 0), (93, .getfield 281), (96, .iload_n 3), (97, .dup2), (98, .iaload), (99, .iconst 1)]
def qC_X12_takes_1 : List (Nat × Instr) := [(100, .iadd), (101, .iastore), (102, .goto 24), (105, .iload_n 2), (106, .bipush 7), (108, .if_icmp .ne 10), (111, .aload_n 0), (112, .invokevirtual 524), (115, .goto 11), (118, .aload_n 0), (119, .iload_n 2), (120, .iload_n 3), (121, .iload 4), (123, .invokevirtual 527), (126, .aload_n 0), (127, .invokevirtual 439), (130, .ifCond .eq 7), (133, .aload_n 0), (134, .invokevirtual 530), (137, .return_)]
def qM_X12_takes : QM := (yX12_takes, cX12_takes, 5, none, RX12, false, [], qK_X12, qC_X12_takes_0 ++ qC_X12_takes_1)
def qC_X12_goesBy_0 : List (Nat × Instr) := [(0, .aload_n 0), (1, .getfield 533), (4, .aload_n 0), (5, .getfield 384), (8, .if_icmp .ge 92), (11, .aload_n 0), (12, .getfield 374), (15, .ifCond .ne 85), (18, .aload_n 0), (19, .aload_n 0), (20, .getfield 387), (23, .aload_n 0), (24, .getfield 533), (27, .invokevirtual 341), (30, .bipush 17), (32, .if_icmp .ne 19), (35, .aload_n 0), (36, .aload_n 0), (37, .getfield 387), (40, .aload_n 0), (41, .getfield 533), (44, .invokevirtual 344), (47, .iload_n 1), (48, .if_icmp .gt 52), (51, .aload_n 0), (52, .aload_n 0), (53, .getfield 387), (56, .aload_n 0), (57, .getfield 533), (60, .invokevirtual 341), (63, .bipush 17), (65, .if_icmp .ne 22), (68, .aload_n 0), (69, .invokevirtual 393), (72, .aload_n 0), (73, .getfield 533), (76, .if_icmp .ge 11), (79, .aload_n 0), (80, .aload_n 0), (81, .invokevirtual 393), (84, .invokevirtual 400), (87, .aload_n 0), (88, .dup), (89, .getfield 533), (92, .iconst 1), (93, .iadd), (94, .putfield 533), (97, .goto (-97)), (100, .return_)]
def qM_X12_goesBy : QM := (yX12_goesBy, cX12_goesBy, 2, none, RX12, false, [], qK_X12, qC_X12_goesBy_0)
def qC_X12_tellsRun_0 : List (Nat × Instr) := [(0, .aload_n 0), (1, .iload_n 1), (2, .putfield 387), (5, .aload_n 0), (6, .iload 4), (8, .putfield 384), (11, .aload_n 0), (12, .iload 4), (14, .putfield 390), (17, .aload_n 0), (18, .iconst 0), (19, .putfield 533), (22, .aload_n 0), (23, .iload_n 2), (24, .putfield 471), (27, .iconst 0), (28, .istore 6), (30, .iload 6), (32, .bipush 6), (34, .if_icmp .ge 17), (37, .aload_n 0), (38, .getfield 241), (41, .iload 6), (43, .iconst 0), (44, .iastore), (45, .iinc 6 1), (48, .goto (-18)), (51, .iconst 0), (52, .istore 6), (54, .iload 6), (56, .iconst 4), (57, .if_icmp .ge 25), (60, .aload_n 0), (61, .getfield 281), (64, .iload 6), (66, .iconst 0), (67, .iastore), (68, .aload_n 0), (69, .getfield 284), (72, .iload 6), (74, .iconst 0), (75, .iastore), (76, .iinc 6 1), (79, .goto (-25)), (82, .aload_n 0), (83, .iconst 0), (84, .putfield 368), (87, .aload_n 0), (88, .iconst 0), (89, .putfield 422), (92, .aload_n 0), (93, .iconst 0), (94, .putfield 483), (97, .aload_n 0), (98, .iconst 0), (99, .putfield 458), (102, .aload_n 0), (103, .iconst 0), (104, .putfield 465), (107, .aload_n 0)]
def qC_X12_tellsRun_1 : List (Nat × Instr) := [(108, .iconst 0), (109, .putfield 518), (112, .aload_n 0), (113, .iconst 0), (114, .putfield 371), (117, .aload_n 0), (118, .iconst 0), (119, .putfield 374), (122, .aload_n 0), (123, .iconst 0), (124, .putfield 381), (127, .aload_n 0), (128, .iconst 0), (129, .putfield 404), (132, .aload_n 0), (133, .iconst 0), (134, .putfield 416), (137, .aload_n 0), (138, .iconst 0), (139, .putfield 536), (142, .aload_n 0), (143, .iload 5), (145, .putfield 407), (148, .iconst 0), (149, .istore 6), (151, .iload 6), (153, .aload_n 0), (154, .getfield 61), (157, .iload_n 1), (158, .iaload), (159, .if_icmp .ge 84), (162, .aload_n 0), (163, .getfield 404), (166, .iload_n 3), (167, .if_icmp .ge 76), (170, .aload_n 0), (171, .getfield 374), (174, .ifCond .ne 69), (177, .aload_n 0), (178, .iload_n 1), (179, .iload 6), (181, .invokevirtual 341), (184, .bipush 7), (186, .if_icmp .gt 51), (189, .aload_n 0), (190, .dup), (191, .getfield 404), (194, .iconst 1), (195, .iadd), (196, .putfield 404), (199, .aload_n 0), (200, .getfield 371), (203, .ifCond .ne 19), (206, .aload_n 0), (207, .dup), (208, .getfield 536), (211, .iconst 1), (212, .iadd), (213, .putfield 536), (216, .aload_n 0)]
def qC_X12_tellsRun_2 : List (Nat × Instr) := [(217, .iload 6), (219, .invokevirtual 539), (222, .aload_n 0), (223, .getfield 374), (226, .ifCond .ne 11), (229, .aload_n 0), (230, .aload_n 0), (231, .getfield 404), (234, .invokevirtual 542), (237, .iinc 6 1), (240, .goto (-89)), (243, .return_)]
def qM_X12_tellsRun : QM := (yX12_tellsRun, cX12_tellsRun, 7, none, RX12, false, [], qK_X12, qC_X12_tellsRun_0 ++ qC_X12_tellsRun_1 ++ qC_X12_tellsRun_2)
def qC_X12_isSafe_0 : List (Nat × Instr) := [(0, .aload_n 0), (1, .getfield 76), (4, .iload_n 1), (5, .iaload), (6, .istore_n 3), (7, .aload_n 0), (8, .iload_n 1), (9, .iload_n 2), (10, .iload_n 3), (11, .aload_n 0), (12, .getfield 61), (15, .iload_n 1), (16, .iaload), (17, .iload_n 3), (18, .invokevirtual 545), (21, .aload_n 0), (22, .getfield 374), (25, .ifCond .ne 7), (28, .iconst 1), (29, .goto 4), (32, .iconst 0), (33, .ireturn)]
def qM_X12_isSafe : QM := (yX12_isSafe, cX12_isSafe, 4, (some .boolean), RX12, false, [], qK_X12, qC_X12_isSafe_0)
def qC_X12_makesActivity_0 : List (Nat × Instr) := [(0, .aload_n 0), (1, .getfield 549), (4, .bipush 60), (6, .if_icmp .ne 13), (9, .aload_n 0), (10, .iload_n 1), (11, .iconst 2), (12, .iload_n 2), (13, .iconst 0), (14, .invokevirtual 360), (17, .pop), (18, .return_), (19, .aload_n 0), (20, .getfield 104), (23, .aload_n 0), (24, .getfield 549), (27, .iload_n 1), (28, .iastore), (29, .aload_n 0), (30, .getfield 107), (33, .aload_n 0), (34, .getfield 549), (37, .iload_n 2), (38, .iastore), (39, .aload_n 0), (40, .getfield 110), (43, .aload_n 0), (44, .getfield 549), (47, .iload_n 3), (48, .iastore), (49, .aload_n 0), (50, .getfield 113), (53, .aload_n 0), (54, .getfield 549), (57, .iload 4), (59, .iastore), (60, .aload_n 0), (61, .getfield 116), (64, .aload_n 0), (65, .getfield 549), (68, .iconst 0), (69, .iastore), (70, .aload_n 0), (71, .getfield 119), (74, .aload_n 0), (75, .getfield 549), (78, .iconst 0), (79, .iastore), (80, .aload_n 0), (81, .getfield 122), (84, .aload_n 0), (85, .getfield 549), (88, .aload_n 0), (89, .getfield 357), (92, .iastore), (93, .aload_n 0), (94, .getfield 125), (97, .aload_n 0), (98, .getfield 549), (101, .aload_n 0)]
def qC_X12_makesActivity_1 : List (Nat × Instr) := [(102, .getfield 357), (105, .iastore), (106, .aload_n 0), (107, .getfield 134), (110, .aload_n 0), (111, .getfield 549), (114, .iconst 0), (115, .iastore), (116, .aload_n 0), (117, .dup), (118, .getfield 549), (121, .iconst 1), (122, .iadd), (123, .putfield 549), (126, .return_)]
def qM_X12_makesActivity : QM := (yX12_makesActivity, cX12_makesActivity, 5, none, RX12, false, [], qK_X12, qC_X12_makesActivity_0 ++ qC_X12_makesActivity_1)
def qC_X12_makesTimer_0 : List (Nat × Instr) := [(0, .aload_n 0), (1, .getfield 137), (4, .aload_n 0), (5, .getfield 552), (8, .iload_n 1), (9, .iastore), (10, .aload_n 0), (11, .getfield 140), (14, .aload_n 0), (15, .getfield 552), (18, .iload_n 2), (19, .iastore), (20, .aload_n 0), (21, .getfield 143), (24, .aload_n 0), (25, .getfield 552), (28, .iload_n 3), (29, .iastore), (30, .aload_n 0), (31, .dup), (32, .getfield 552), (35, .iconst 1), (36, .iadd), (37, .putfield 552), (40, .return_)]
def qM_X12_makesTimer : QM := (yX12_makesTimer, cX12_makesTimer, 4, none, RX12, false, [], qK_X12, qC_X12_makesTimer_0)
def qC_X12_removesTimer_0 : List (Nat × Instr) := [(0, .aload_n 0), (1, .dup), (2, .getfield 552), (5, .iconst 1), (6, .isub), (7, .putfield 552), (10, .aload_n 0), (11, .getfield 137), (14, .iload_n 1), (15, .aload_n 0), (16, .getfield 137), (19, .aload_n 0), (20, .getfield 552), (23, .iaload), (24, .iastore), (25, .aload_n 0), (26, .getfield 140), (29, .iload_n 1), (30, .aload_n 0), (31, .getfield 140), (34, .aload_n 0), (35, .getfield 552), (38, .iaload), (39, .iastore), (40, .aload_n 0), (41, .getfield 143), (44, .iload_n 1), (45, .aload_n 0), (46, .getfield 143), (49, .aload_n 0), (50, .getfield 552), (53, .iaload), (54, .iastore), (55, .return_)]
def qM_X12_removesTimer : QM := (yX12_removesTimer, cX12_removesTimer, 2, none, RX12, false, [], qK_X12, qC_X12_removesTimer_0)
def qC_X12_stops_0 : List (Nat × Instr) := [(0, .iconst 0), (1, .istore_n 2), (2, .iload_n 2), (3, .aload_n 0), (4, .getfield 549), (7, .if_icmp .ge 35), (10, .aload_n 0), (11, .getfield 116), (14, .iload_n 2), (15, .aload_n 0), (16, .getfield 104), (19, .iload_n 2), (20, .iaload), (21, .iload_n 1), (22, .if_icmp .ne 7), (25, .iconst 2), (26, .goto 9), (29, .aload_n 0), (30, .getfield 116), (33, .iload_n 2), (34, .iaload), (35, .iastore), (36, .iinc 2 1), (39, .goto (-37)), (42, .aload_n 0), (43, .getfield 552), (46, .iconst 1), (47, .isub), (48, .istore_n 2), (49, .iload_n 2), (50, .ifCond .lt 24), (53, .aload_n 0), (54, .getfield 137), (57, .iload_n 2), (58, .iaload), (59, .iload_n 1), (60, .if_icmp .ne 8), (63, .aload_n 0), (64, .iload_n 2), (65, .invokevirtual 555), (68, .iinc 2 (-1)), (71, .goto (-22)), (74, .return_)]
def qM_X12_stops : QM := (yX12_stops, cX12_stops, 3, none, RX12, false, [], qK_X12, qC_X12_stops_0)
def qC_X12_drops_0 : List (Nat × Instr) := [(0, .iconst 0), (1, .istore_n 3), (2, .iload_n 3), (3, .aload_n 0), (4, .getfield 549), (7, .if_icmp .ge 45), (10, .aload_n 0), (11, .getfield 116), (14, .iload_n 3), (15, .aload_n 0), (16, .getfield 104), (19, .iload_n 3), (20, .iaload), (21, .iload_n 1), (22, .if_icmp .ne 17), (25, .aload_n 0), (26, .getfield 107), (29, .iload_n 3), (30, .iaload), (31, .iload_n 2), (32, .if_icmp .ne 7), (35, .iconst 2), (36, .goto 9), (39, .aload_n 0), (40, .getfield 116), (43, .iload_n 3), (44, .iaload), (45, .iastore), (46, .iinc 3 1), (49, .goto (-47)), (52, .aload_n 0), (53, .getfield 552), (56, .iconst 1), (57, .isub), (58, .istore_n 3), (59, .iload_n 3), (60, .ifCond .lt 34), (63, .aload_n 0), (64, .getfield 137), (67, .iload_n 3), (68, .iaload), (69, .iload_n 1), (70, .if_icmp .ne 18), (73, .aload_n 0), (74, .getfield 140), (77, .iload_n 3), (78, .iaload), (79, .iload_n 2), (80, .if_icmp .ne 8), (83, .aload_n 0), (84, .iload_n 3), (85, .invokevirtual 555), (88, .iinc 3 (-1)), (91, .goto (-32)), (94, .iconst 0), (95, .istore_n 3), (96, .iload_n 3), (97, .aload_n 0), (98, .getfield 310), (101, .if_icmp .ge 51)]
def qC_X12_drops_1 : List (Nat × Instr) := [(104, .aload_n 0), (105, .getfield 55), (108, .iload_n 3), (109, .iaload), (110, .iload_n 1), (111, .if_icmp .ne 35), (114, .aload_n 0), (115, .getfield 58), (118, .iload_n 3), (119, .iaload), (120, .iload_n 2), (121, .if_icmp .ne 25), (124, .aload_n 0), (125, .getfield 55), (128, .iload_n 3), (129, .iconst (-1)), (130, .iastore), (131, .aload_n 0), (132, .getfield 52), (135, .iload_n 3), (136, .iaload), (137, .ifCond .ne 9), (140, .aload_n 0), (141, .iload_n 3), (142, .invokevirtual 558), (145, .pop), (146, .iinc 3 1), (149, .goto (-53)), (152, .return_)]
def qM_X12_drops : QM := (yX12_drops, cX12_drops, 4, none, RX12, false, [], qK_X12, qC_X12_drops_0 ++ qC_X12_drops_1)
def qC_X12_tellsParent_0 : List (Nat × Instr) := [(0, .aload_n 0), (1, .getfield 55), (4, .iload_n 1), (5, .iaload), (6, .istore_n 3), (7, .iload_n 3), (8, .iconst (-1)), (9, .if_icmp .eq 54), (12, .aload_n 0), (13, .iload_n 3), (14, .invokevirtual 561), (17, .ifCond .eq 46), (20, .aload_n 0), (21, .iload_n 3), (22, .aload_n 0), (23, .getfield 52), (26, .iload_n 1), (27, .iaload), (28, .iconst 1), (29, .if_icmp .ne 7), (32, .iconst 5), (33, .goto 5), (36, .bipush 6), (38, .aload_n 0), (39, .getfield 58), (42, .iload_n 1), (43, .iaload), (44, .aload_n 0), (45, .getfield 52), (48, .iload_n 1), (49, .iaload), (50, .iconst 1), (51, .if_icmp .ne 7), (54, .iload_n 2), (55, .goto 4), (58, .iconst 0), (59, .invokevirtual 360), (62, .pop), (63, .return_)]
def qM_X12_tellsParent : QM := (yX12_tellsParent, cX12_tellsParent, 4, none, RX12, false, [], qK_X12, qC_X12_tellsParent_0)
def qC_X12_closes_0 : List (Nat × Instr) := [(0, .iconst 0), (1, .istore 4), (3, .aload_n 0), (4, .getfield 297), (7, .iconst 0), (8, .iload_n 1), (9, .iastore), (10, .aload_n 0), (11, .getfield 300), (14, .iconst 0), (15, .iconst 0), (16, .iastore), (17, .aload_n 0), (18, .iload_n 1), (19, .invokevirtual 564), (22, .iload 4), (24, .ifCond .lt 179), (27, .aload_n 0), (28, .getfield 297), (31, .iload 4), (33, .iaload), (34, .istore 5), (36, .aload_n 0), (37, .getfield 300), (40, .iload 4), (42, .iaload), (43, .istore 6), (45, .iload 6), (47, .aload_n 0), (48, .getfield 310), (51, .if_icmp .ge 31), (54, .aload_n 0), (55, .getfield 55), (58, .iload 6), (60, .iaload), (61, .iload 5), (63, .if_icmp .ne 13), (66, .aload_n 0), (67, .getfield 52), (70, .iload 6), (72, .iaload), (73, .ifCond .eq 9), (76, .iinc 6 1), (79, .goto (-34)), (82, .aload_n 0), (83, .getfield 300), (86, .iload 4), (88, .iload 6), (90, .iconst 1), (91, .iadd), (92, .iastore), (93, .iload 6), (95, .aload_n 0), (96, .getfield 310), (99, .if_icmp .lt 25), (102, .iload 4), (104, .ifCond .gt 7), (107, .iload_n 2), (108, .ifCond .eq 10), (111, .aload_n 0)]
def qC_X12_closes_1 : List (Nat × Instr) := [(112, .iload 5), (114, .iload_n 3), (115, .invokevirtual 567), (118, .iinc 4 (-1)), (121, .goto 79), (124, .aload_n 0), (125, .getfield 40), (128, .aload_n 0), (129, .getfield 43), (132, .iload 6), (134, .iaload), (135, .iaload), (136, .iconst 1), (137, .if_icmp .ne 13), (140, .aload_n 0), (141, .iload 6), (143, .invokevirtual 558), (146, .pop), (147, .goto 53), (150, .aload_n 0), (151, .getfield 40), (154, .aload_n 0), (155, .getfield 43), (158, .iload 6), (160, .iaload), (161, .iaload), (162, .iconst 2), (163, .if_icmp .ne 37), (166, .aload_n 0), (167, .getfield 52), (170, .iload 6), (172, .iconst 5), (173, .iastore), (174, .aload_n 0), (175, .iload 6), (177, .invokevirtual 564), (180, .iinc 4 1), (183, .aload_n 0), (184, .getfield 297), (187, .iload 4), (189, .iload 6), (191, .iastore), (192, .aload_n 0), (193, .getfield 300), (196, .iload 4), (198, .iconst 0), (199, .iastore), (200, .goto (-178)), (203, .return_)]
def qM_X12_closes : QM := (yX12_closes, cX12_closes, 7, none, RX12, false, [], qK_X12, qC_X12_closes_0 ++ qC_X12_closes_1)
def qC_X12_begin_0 : List (Nat × Instr) := [(0, .iload_n 1), (1, .invokestatic 313), (4, .ifCond .eq 14), (7, .iload_n 2), (8, .invokestatic 570), (11, .ifCond .eq 7), (14, .iconst 1), (15, .goto 4), (18, .iconst 0), (19, .istore 4), (21, .aload_n 0), (22, .iload 4), (24, .ifCond .ne 7), (27, .iconst 1), (28, .goto 37), (31, .iload_n 3), (32, .invokestatic 573), (35, .ifCond .ne 7), (38, .iconst 2), (39, .goto 26), (42, .aload_n 0), (43, .getfield 7), (46, .iload_n 1), (47, .iaload), (48, .ifCond .eq 12), (51, .aload_n 0), (52, .getfield 310), (55, .bipush 30), (57, .if_icmp .ne 7), (60, .iconst 3), (61, .goto 4), (64, .iconst 0), (65, .invokevirtual 324), (68, .ifCond .eq 5), (71, .iconst 0), (72, .ireturn), (73, .aload_n 0), (74, .iload_n 1), (75, .iload_n 2), (76, .aload_n 0), (77, .getfield 7), (80, .iload_n 1), (81, .iaload), (82, .iconst 1), (83, .isub), (84, .iload_n 3), (85, .iconst (-1)), (86, .iconst (-1)), (87, .invokevirtual 576), (90, .ireturn)]
def qM_X12_begin : QM := (yX12_begin, cX12_begin, 5, (some .int), RX12, false, [], qK_X12, qC_X12_begin_0)
def qC_X12_isName_0 : List (Nat × Instr) := [(0, .iload_n 0), (1, .iconst 0), (2, .iconst 3), (3, .invokestatic 306), (6, .ireturn)]
def qM_X12_isName : QM := (yX12_isName, cX12_isName, 1, (some .boolean), RX12, false, [], qK_X12, qC_X12_isName_0)
def qC_X12_signal_0 : List (Nat × Instr) := [(0, .aload_n 0), (1, .iload_n 1), (2, .invokevirtual 580), (5, .ifCond .eq 14), (8, .iload_n 2), (9, .invokestatic 583), (12, .ifCond .eq 7), (15, .iconst 1), (16, .goto 4), (19, .iconst 0), (20, .istore 4), (22, .aload_n 0), (23, .iload 4), (25, .ifCond .ne 7), (28, .iconst 1), (29, .goto 38), (32, .iload_n 3), (33, .invokestatic 573), (36, .ifCond .ne 7), (39, .iconst 2), (40, .goto 27), (43, .aload_n 0), (44, .iload_n 1), (45, .invokevirtual 561), (48, .ifCond .eq 14), (51, .aload_n 0), (52, .getfield 61), (55, .iload_n 1), (56, .iaload), (57, .bipush 100), (59, .if_icmp .lt 7), (62, .iconst 3), (63, .goto 4), (66, .iconst 0), (67, .invokevirtual 324), (70, .ifCond .eq 5), (73, .iconst 0), (74, .ireturn), (75, .aload_n 0), (76, .iload_n 1), (77, .iconst 4), (78, .iload_n 2), (79, .iload_n 3), (80, .invokevirtual 360), (83, .ireturn)]
def qM_X12_signal : QM := (yX12_signal, cX12_signal, 5, (some .int), RX12, false, [], qK_X12, qC_X12_signal_0)
def qC_X12_isWanted_0 : List (Nat × Instr) := [(0, .iconst 0), (1, .istore_n 3), (2, .iconst 0), (3, .istore 4), (5, .iload 4), (7, .aload_n 0), (8, .getfield 368), (11, .if_icmp .ge 41), (14, .iload_n 3), (15, .ifCond .ne 25), (18, .aload_n 0), (19, .getfield 250), (22, .iload 4), (24, .iaload), (25, .iconst 2), (26, .if_icmp .ne 18), (29, .aload_n 0), (30, .getfield 253), (33, .iload 4), (35, .iaload), (36, .iload_n 2), (37, .if_icmp .ne 7), (40, .iconst 1), (41, .goto 4), (44, .iconst 0), (45, .istore_n 3), (46, .iinc 4 1), (49, .goto (-44)), (52, .iconst 0), (53, .istore 4), (55, .iconst 0), (56, .istore 5), (58, .iload 5), (60, .aload_n 0), (61, .getfield 61), (64, .iload_n 1), (65, .iaload), (66, .if_icmp .ge 71), (69, .aload_n 0), (70, .iload_n 1), (71, .iload 5), (73, .invokevirtual 341), (76, .istore 6), (78, .iload 4), (80, .iload 6), (82, .bipush 7), (84, .if_icmp .gt 7), (87, .iconst 1), (88, .goto 4), (91, .iconst 0), (92, .iadd), (93, .istore 4), (95, .iload_n 3), (96, .ifCond .eq 33), (99, .iload 6), (101, .iconst 4), (102, .if_icmp .ne 23), (105, .aload_n 0), (106, .iload_n 1), (107, .iload 5)]
def qC_X12_isWanted_1 : List (Nat × Instr) := [(109, .invokevirtual 344), (112, .iload_n 2), (113, .if_icmp .ne 12), (116, .iload 4), (118, .aload_n 0), (119, .getfield 407), (122, .if_icmp .gt 7), (125, .iconst 1), (126, .goto 4), (129, .iconst 0), (130, .istore_n 3), (131, .iinc 5 1), (134, .goto (-76)), (137, .iload_n 3), (138, .ifCond .eq 22), (141, .aload_n 0), (142, .getfield 284), (145, .iload_n 2), (146, .iaload), (147, .aload_n 0), (148, .getfield 281), (151, .iload_n 2), (152, .iaload), (153, .if_icmp .ne 7), (156, .iconst 1), (157, .goto 4), (160, .iconst 0), (161, .ireturn)]
def qM_X12_isWanted : QM := (yX12_isWanted, cX12_isWanted, 7, (some .boolean), RX12, false, [], qK_X12, qC_X12_isWanted_0 ++ qC_X12_isWanted_1)
def qC_X12_update_0 : List (Nat × Instr) := [(0, .aload_n 0), (1, .iload_n 1), (2, .invokevirtual 580), (5, .ifCond .eq 14), (8, .iload_n 2), (9, .invokestatic 583), (12, .ifCond .eq 7), (15, .iconst 1), (16, .goto 4), (19, .iconst 0), (20, .istore 4), (22, .aload_n 0), (23, .iload 4), (25, .ifCond .ne 7), (28, .iconst 1), (29, .goto 39), (32, .iload_n 3), (33, .invokestatic 573), (36, .ifCond .ne 7), (39, .iconst 2), (40, .goto 28), (43, .aload_n 0), (44, .getfield 52), (47, .iload_n 1), (48, .iaload), (49, .ifCond .ne 14), (52, .aload_n 0), (53, .getfield 61), (56, .iload_n 1), (57, .iaload), (58, .bipush 100), (60, .if_icmp .lt 7), (63, .iconst 3), (64, .goto 4), (67, .iconst 0), (68, .invokevirtual 324), (71, .ifCond .eq 5), (74, .iconst 0), (75, .ireturn), (76, .aload_n 0), (77, .iload_n 1), (78, .aload_n 0), (79, .getfield 49), (82, .iload_n 1), (83, .iaload), (84, .invokevirtual 586), (87, .ifCond .eq 16), (90, .aload_n 0), (91, .iload_n 1), (92, .iload_n 2), (93, .invokevirtual 589), (96, .ifCond .eq 7), (99, .iconst 1), (100, .goto 4), (103, .iconst 0), (104, .istore 5), (106, .iload 5), (108, .ifCond .eq 12), (111, .aload_n 0), (112, .iload_n 1)]
def qC_X12_update_1 : List (Nat × Instr) := [(113, .iconst 4), (114, .iload_n 2), (115, .iload_n 3), (116, .invokevirtual 360), (119, .pop), (120, .iload 5), (122, .ireturn)]
def qM_X12_update : QM := (yX12_update, cX12_update, 6, (some .boolean), RX12, false, [], qK_X12, qC_X12_update_0 ++ qC_X12_update_1)
def qC_X12_cancel_0 : List (Nat × Instr) := [(0, .aload_n 0), (1, .iload_n 1), (2, .invokevirtual 580), (5, .istore_n 2), (6, .aload_n 0), (7, .iload_n 2), (8, .ifCond .ne 7), (11, .iconst 1), (12, .goto 16), (15, .aload_n 0), (16, .iload_n 1), (17, .invokevirtual 561), (20, .ifCond .eq 7), (23, .iconst 0), (24, .goto 4), (27, .iconst 2), (28, .invokevirtual 324), (31, .ifCond .eq 5), (34, .iconst 0), (35, .ireturn), (36, .aload_n 0), (37, .iload_n 1), (38, .invokevirtual 558), (41, .ireturn)]
def qM_X12_cancel : QM := (yX12_cancel, cX12_cancel, 3, (some .boolean), RX12, false, [], qK_X12, qC_X12_cancel_0)
def qC_X12_asks_0 : List (Nat × Instr) := [(0, .aload_n 0), (1, .iload_n 1), (2, .invokevirtual 580), (5, .ifCond .eq 16), (8, .iload_n 2), (9, .iconst 0), (10, .iconst 5), (11, .invokestatic 306), (14, .ifCond .eq 7), (17, .iconst 1), (18, .goto 4), (21, .iconst 0), (22, .istore_n 3), (23, .iload_n 3), (24, .ifCond .eq 21), (27, .aload_n 0), (28, .iload_n 1), (29, .aload_n 0), (30, .getfield 49), (33, .iload_n 1), (34, .iaload), (35, .invokevirtual 586), (38, .ifCond .eq 7), (41, .iconst 1), (42, .goto 4), (45, .iconst 0), (46, .istore 4), (48, .aload_n 0), (49, .iload_n 3), (50, .ifCond .ne 7), (53, .iconst 1), (54, .goto 13), (57, .iload 4), (59, .ifCond .eq 7), (62, .iconst 0), (63, .goto 4), (66, .iconst 2), (67, .invokevirtual 324), (70, .ifCond .eq 7), (73, .iconst 0), (74, .goto 9), (77, .aload_n 0), (78, .getfield 241), (81, .iload_n 2), (82, .iaload), (83, .ireturn)]
def qM_X12_asks : QM := (yX12_asks, cX12_asks, 5, (some .int), RX12, false, [], qK_X12, qC_X12_asks_0)
def qC_X12_query_0 : List (Nat × Instr) := [(0, .aload_n 0), (1, .iload_n 1), (2, .iload_n 2), (3, .invokevirtual 592), (6, .ireturn)]
def qM_X12_query : QM := (yX12_query, cX12_query, 3, (some .int), RX12, false, [], qK_X12, qC_X12_query_0)
def qC_X12_plain_0 : List (Nat × Instr) := [(0, .aload_n 0), (1, .iload_n 1), (2, .iload_n 2), (3, .invokevirtual 592), (6, .ireturn)]
def qM_X12_plain : QM := (yX12_plain, cX12_plain, 3, (some .int), RX12, false, [], qK_X12, qC_X12_plain_0)
def qC_X12_standing_0 : List (Nat × Instr) := [(0, .aload_n 0), (1, .aload_n 0), (2, .iload_n 1), (3, .invokevirtual 580), (6, .ifCond .eq 7), (9, .iconst 0), (10, .goto 4), (13, .iconst 1), (14, .invokevirtual 324), (17, .ifCond .eq 7), (20, .iconst 0), (21, .goto 19), (24, .bipush 10), (26, .aload_n 0), (27, .getfield 61), (30, .iload_n 1), (31, .iaload), (32, .imul), (33, .aload_n 0), (34, .getfield 52), (37, .iload_n 1), (38, .iaload), (39, .iadd), (40, .ireturn)]
def qM_X12_standing : QM := (yX12_standing, cX12_standing, 2, (some .int), RX12, false, [], qK_X12, qC_X12_standing_0)
def qC_X12_event_0 : List (Nat × Instr) := [(0, .aload_n 0), (1, .iload_n 1), (2, .invokevirtual 580), (5, .ifCond .eq 23), (8, .iload_n 2), (9, .iconst 0), (10, .aload_n 0), (11, .getfield 61), (14, .iload_n 1), (15, .iaload), (16, .iconst 1), (17, .isub), (18, .invokestatic 306), (21, .ifCond .eq 7), (24, .iconst 1), (25, .goto 4), (28, .iconst 0), (29, .istore_n 3), (30, .aload_n 0), (31, .iload_n 3), (32, .ifCond .eq 7), (35, .iconst 0), (36, .goto 4), (39, .iconst 1), (40, .invokevirtual 324), (43, .ifCond .eq 5), (46, .iconst 0), (47, .ireturn), (48, .ldc_w 595), (51, .aload_n 0), (52, .iload_n 1), (53, .iload_n 2), (54, .invokevirtual 341), (57, .imul), (58, .sipush 1000), (61, .aload_n 0), (62, .iload_n 1), (63, .iload_n 2), (64, .invokevirtual 344), (67, .imul), (68, .iadd), (69, .aload_n 0), (70, .iload_n 1), (71, .iload_n 2), (72, .invokevirtual 397), (75, .iadd), (76, .ireturn)]
def qM_X12_event : QM := (yX12_event, cX12_event, 4, (some .int), RX12, false, [], qK_X12, qC_X12_event_0)
def qC_X12_difference_0 : List (Nat × Instr) := [(0, .aload_n 0), (1, .iload_n 1), (2, .invokevirtual 580), (5, .istore_n 2), (6, .aload_n 0), (7, .iload_n 2), (8, .ifCond .ne 7), (11, .iconst 1), (12, .goto 19), (15, .aload_n 0), (16, .getfield 52), (19, .iload_n 1), (20, .iaload), (21, .bipush 6), (23, .if_icmp .ne 7), (26, .iconst 0), (27, .goto 4), (30, .iconst 2), (31, .invokevirtual 324), (34, .ifCond .eq 7), (37, .iconst 0), (38, .goto 9), (41, .aload_n 0), (42, .getfield 85), (45, .iload_n 1), (46, .iaload), (47, .ireturn)]
def qM_X12_difference : QM := (yX12_difference, cX12_difference, 3, (some .int), RX12, false, [], qK_X12, qC_X12_difference_0)
def qC_X12_runs_0 : List (Nat × Instr) := [(0, .aload_n 0), (1, .aload_n 0), (2, .getfield 310), (5, .invokevirtual 596), (8, .ireturn)]
def qM_X12_runs : QM := (yX12_runs, cX12_runs, 1, (some .int), RX12, false, [], qK_X12, qC_X12_runs_0)
def qC_X12_setRate_0 : List (Nat × Instr) := [(0, .aload_n 0), (1, .iload_n 1), (2, .iconst 1), (3, .bipush 10), (5, .invokestatic 306), (8, .ifCond .eq 7), (11, .iconst 0), (12, .goto 4), (15, .iconst 1), (16, .invokevirtual 324), (19, .ifCond .eq 5), (22, .iconst 0), (23, .ireturn), (24, .aload_n 0), (25, .getfield 146), (28, .istore_n 2), (29, .aload_n 0), (30, .iload_n 1), (31, .putfield 146), (34, .iload_n 2), (35, .ireturn)]
def qM_X12_setRate : QM := (yX12_setRate, cX12_setRate, 3, (some .int), RX12, false, [], qK_X12, qC_X12_setRate_0)
def qC_X12_isHeld_0 : List (Nat × Instr) := [(0, .iconst 0), (1, .istore_n 2), (2, .iconst 0), (3, .istore_n 3), (4, .iload_n 3), (5, .aload_n 0), (6, .getfield 599), (9, .if_icmp .ge 53), (12, .iload_n 2), (13, .ifCond .ne 37), (16, .aload_n 0), (17, .getfield 152), (20, .iload_n 3), (21, .iaload), (22, .iload_n 1), (23, .if_icmp .ne 31), (26, .aload_n 0), (27, .getfield 170), (30, .iload_n 3), (31, .baload), (32, .ifCond .ne 22), (35, .aload_n 0), (36, .getfield 357), (39, .aload_n 0), (40, .getfield 158), (43, .iload_n 3), (44, .iaload), (45, .isub), (46, .iconst 5), (47, .if_icmp .ge 7), (50, .iconst 1), (51, .goto 4), (54, .iconst 0), (55, .istore_n 2), (56, .iinc 3 1), (59, .goto (-55)), (62, .iload_n 2), (63, .ireturn)]
def qM_X12_isHeld : QM := (yX12_isHeld, cX12_isHeld, 4, (some .boolean), RX12, false, [], qK_X12, qC_X12_isHeld_0)
def qC_X12_isReady_0 : List (Nat × Instr) := [(0, .aload_n 0), (1, .getfield 52), (4, .iload_n 1), (5, .iaload), (6, .ifCond .ne 30), (9, .aload_n 0), (10, .getfield 70), (13, .iload_n 1), (14, .iaload), (15, .aload_n 0), (16, .getfield 76), (19, .iload_n 1), (20, .iaload), (21, .if_icmp .le 15), (24, .aload_n 0), (25, .iload_n 1), (26, .invokevirtual 602), (29, .ifCond .ne 7), (32, .iconst 1), (33, .goto 4), (36, .iconst 0), (37, .ireturn)]
def qM_X12_isReady : QM := (yX12_isReady, cX12_isReady, 2, (some .boolean), RX12, false, [], qK_X12, qC_X12_isReady_0)
def qC_X12_firstOrder_0 : List (Nat × Instr) := [(0, .aload_n 0), (1, .getfield 76), (4, .iload_n 1), (5, .iaload), (6, .istore_n 2), (7, .iconst 0), (8, .istore_n 3), (9, .aload_n 0), (10, .iload_n 1), (11, .iload_n 3), (12, .invokevirtual 341), (15, .bipush 7), (17, .if_icmp .gt 7), (20, .iload_n 2), (21, .ifCond .le 28), (24, .iload_n 2), (25, .aload_n 0), (26, .iload_n 1), (27, .iload_n 3), (28, .invokevirtual 341), (31, .bipush 7), (33, .if_icmp .gt 7), (36, .iconst 1), (37, .goto 4), (40, .iconst 0), (41, .isub), (42, .istore_n 2), (43, .iinc 3 1), (46, .goto (-37)), (49, .aload_n 0), (50, .iload_n 1), (51, .iload_n 3), (52, .invokevirtual 521), (55, .sipush 1000), (58, .idiv), (59, .ireturn)]
def qM_X12_firstOrder : QM := (yX12_firstOrder, cX12_firstOrder, 4, (some .int), RX12, false, [], qK_X12, qC_X12_firstOrder_0)
def qC_X12_isWorker_0 : List (Nat × Instr) := [(0, .iload_n 0), (1, .iconst 0), (2, .iconst 2), (3, .invokestatic 306), (6, .ireturn)]
def qM_X12_isWorker : QM := (yX12_isWorker, cX12_isWorker, 1, (some .boolean), RX12, false, [], qK_X12, qC_X12_isWorker_0)
def qC_X12_poll_0 : List (Nat × Instr) := [(0, .aload_n 0), (1, .iload_n 1), (2, .invokestatic 605), (5, .ifCond .eq 7), (8, .iconst 0), (9, .goto 4), (12, .iconst 1), (13, .invokevirtual 324), (16, .ifCond .eq 5), (19, .iconst 0), (20, .ireturn), (21, .iconst (-1)), (22, .istore_n 2), (23, .iconst 0), (24, .istore_n 3), (25, .iload_n 3), (26, .aload_n 0), (27, .getfield 310), (30, .if_icmp .ge 113), (33, .aload_n 0), (34, .getfield 46), (37, .iload_n 3), (38, .iaload), (39, .istore 4), (41, .aload_n 0), (42, .getfield 174), (45, .iload 4), (47, .iaload), (48, .aload_n 0), (49, .getfield 146), (52, .if_icmp .ge 15), (55, .aload_n 0), (56, .iload_n 3), (57, .invokevirtual 608), (60, .ifCond .eq 7), (63, .iconst 1), (64, .goto 4), (67, .iconst 0), (68, .istore 5), (70, .iload 5), (72, .ifCond .eq 50), (75, .iload_n 2), (76, .iconst (-1)), (77, .if_icmp .eq 41), (80, .aload_n 0), (81, .getfield 177), (84, .iload 4), (86, .iaload), (87, .aload_n 0), (88, .getfield 177), (91, .iload_n 2), (92, .iaload), (93, .if_icmp .lt 25), (96, .aload_n 0), (97, .getfield 177), (100, .iload 4), (102, .iaload), (103, .aload_n 0), (104, .getfield 177), (107, .iload_n 2)]
def qC_X12_poll_1 : List (Nat × Instr) := [(108, .iaload), (109, .if_icmp .ne 13), (112, .iload 4), (114, .iload_n 2), (115, .if_icmp .ge 7), (118, .iconst 1), (119, .goto 4), (122, .iconst 0), (123, .istore 6), (125, .iload 6), (127, .ifCond .eq 8), (130, .iload 4), (132, .goto 4), (135, .iload_n 2), (136, .istore_n 2), (137, .iinc 3 1), (140, .goto (-115)), (143, .iconst (-1)), (144, .istore_n 3), (145, .iconst 0), (146, .istore 4), (148, .iload 4), (150, .aload_n 0), (151, .getfield 310), (154, .if_icmp .ge 72), (157, .iload_n 2), (158, .iconst (-1)), (159, .if_icmp .eq 67), (162, .aload_n 0), (163, .getfield 46), (166, .iload 4), (168, .iaload), (169, .iload_n 2), (170, .if_icmp .ne 16), (173, .aload_n 0), (174, .iload 4), (176, .invokevirtual 608), (179, .ifCond .eq 7), (182, .iconst 1), (183, .goto 4), (186, .iconst 0), (187, .istore 5), (189, .iload 5), (191, .ifCond .eq 27), (194, .iload_n 3), (195, .iconst (-1)), (196, .if_icmp .eq 17), (199, .aload_n 0), (200, .iload 4), (202, .invokevirtual 611), (205, .aload_n 0), (206, .iload_n 3), (207, .invokevirtual 611), (210, .if_icmp .ge 8), (213, .iload 4), (215, .goto 4), (218, .iload_n 3), (219, .istore_n 3), (220, .iinc 4 1), (223, .goto (-75))]
def qC_X12_poll_2 : List (Nat × Instr) := [(226, .iload_n 3), (227, .iconst (-1)), (228, .if_icmp .ne 5), (231, .iconst (-1)), (232, .ireturn), (233, .aload_n 0), (234, .getfield 149), (237, .aload_n 0), (238, .getfield 599), (241, .iload_n 1), (242, .iastore), (243, .aload_n 0), (244, .getfield 152), (247, .aload_n 0), (248, .getfield 599), (251, .iload_n 3), (252, .iastore), (253, .aload_n 0), (254, .getfield 155), (257, .aload_n 0), (258, .getfield 599), (261, .aload_n 0), (262, .getfield 70), (265, .iload_n 3), (266, .iaload), (267, .iastore), (268, .aload_n 0), (269, .getfield 158), (272, .aload_n 0), (273, .getfield 599), (276, .aload_n 0), (277, .getfield 357), (280, .iastore), (281, .aload_n 0), (282, .getfield 161), (285, .aload_n 0), (286, .getfield 599), (289, .aload_n 0), (290, .getfield 73), (293, .iload_n 3), (294, .iaload), (295, .iastore), (296, .aload_n 0), (297, .getfield 164), (300, .aload_n 0), (301, .getfield 599), (304, .aload_n 0), (305, .getfield 49), (308, .iload_n 3), (309, .iaload), (310, .iastore), (311, .aload_n 0), (312, .getfield 167), (315, .aload_n 0), (316, .getfield 599), (319, .aload_n 0), (320, .getfield 82), (323, .iload_n 3), (324, .iaload), (325, .iastore)]
def qC_X12_poll_3 : List (Nat × Instr) := [(326, .aload_n 0), (327, .getfield 174), (330, .iload_n 2), (331, .dup2), (332, .iaload), (333, .iconst 1), (334, .iadd), (335, .iastore), (336, .aload_n 0), (337, .getfield 177), (340, .iload_n 2), (341, .dup2), (342, .iaload), (343, .iconst 1), (344, .iadd), (345, .iastore), (346, .aload_n 0), (347, .dup), (348, .getfield 599), (351, .iconst 1), (352, .iadd), (353, .putfield 599), (356, .bipush 100), (358, .aload_n 0), (359, .getfield 599), (362, .iconst 1), (363, .isub), (364, .imul), (365, .iload_n 3), (366, .iadd), (367, .ireturn)]
def qM_X12_poll : QM := (yX12_poll, cX12_poll, 7, (some .int), RX12, false, [], qK_X12, qC_X12_poll_0 ++ qC_X12_poll_1 ++ qC_X12_poll_2 ++ qC_X12_poll_3)
def qC_X12_isStale_0 : List (Nat × Instr) := [(0, .aload_n 0), (1, .getfield 152), (4, .iload_n 1), (5, .iaload), (6, .istore_n 2), (7, .aload_n 0), (8, .getfield 170), (11, .iload_n 1), (12, .baload), (13, .ifCond .ne 57), (16, .aload_n 0), (17, .getfield 52), (20, .iload_n 2), (21, .iaload), (22, .ifCond .ne 48), (25, .aload_n 0), (26, .getfield 161), (29, .iload_n 1), (30, .iaload), (31, .aload_n 0), (32, .getfield 73), (35, .iload_n 2), (36, .iaload), (37, .if_icmp .ne 33), (40, .aload_n 0), (41, .getfield 164), (44, .iload_n 1), (45, .iaload), (46, .aload_n 0), (47, .getfield 49), (50, .iload_n 2), (51, .iaload), (52, .if_icmp .ne 18), (55, .aload_n 0), (56, .getfield 167), (59, .iload_n 1), (60, .iaload), (61, .aload_n 0), (62, .getfield 82), (65, .iload_n 2), (66, .iaload), (67, .if_icmp .eq 7), (70, .iconst 1), (71, .goto 4), (74, .iconst 0), (75, .ireturn)]
def qM_X12_isStale : QM := (yX12_isStale, cX12_isStale, 3, (some .boolean), RX12, false, [], qK_X12, qC_X12_isStale_0)
def qC_X12_hasState_0 : List (Nat × Instr) := [(0, .bipush 30), (2, .iload_n 1), (3, .imul), (4, .iload_n 2), (5, .iadd), (6, .istore_n 3), (7, .aload_n 0), (8, .getfield 183), (11, .iload_n 3), (12, .iaload), (13, .ifCond .le 52), (16, .aload_n 0), (17, .getfield 183), (20, .iload_n 3), (21, .iaload), (22, .aload_n 0), (23, .getfield 73), (26, .iload_n 2), (27, .iaload), (28, .if_icmp .ne 37), (31, .aload_n 0), (32, .getfield 186), (35, .iload_n 3), (36, .iaload), (37, .aload_n 0), (38, .getfield 49), (41, .iload_n 2), (42, .iaload), (43, .if_icmp .ne 22), (46, .aload_n 0), (47, .getfield 189), (50, .iload_n 3), (51, .iaload), (52, .aload_n 0), (53, .getfield 82), (56, .iload_n 2), (57, .iaload), (58, .if_icmp .ne 7), (61, .iconst 1), (62, .goto 4), (65, .iconst 0), (66, .ireturn)]
def qM_X12_hasState : QM := (yX12_hasState, cX12_hasState, 4, (some .boolean), RX12, false, [], qK_X12, qC_X12_hasState_0)
def qC_X12_complete_0 : List (Nat × Instr) := [(0, .aload_n 0), (1, .iload_n 1), (2, .iconst 0), (3, .aload_n 0), (4, .getfield 599), (7, .iconst 1), (8, .isub), (9, .invokestatic 306), (12, .ifCond .eq 7), (15, .iconst 0), (16, .goto 4), (19, .iconst 1), (20, .invokevirtual 324), (23, .ifCond .eq 5), (26, .iconst 0), (27, .ireturn), (28, .aload_n 0), (29, .iload_n 1), (30, .invokevirtual 614), (33, .istore_n 2), (34, .aload_n 0), (35, .getfield 170), (38, .iload_n 1), (39, .iconst 1), (40, .bastore), (41, .iload_n 2), (42, .ifCond .eq 5), (45, .iconst (-1)), (46, .ireturn), (47, .aload_n 0), (48, .getfield 152), (51, .iload_n 1), (52, .iaload), (53, .istore_n 3), (54, .aload_n 0), (55, .getfield 149), (58, .iload_n 1), (59, .iaload), (60, .istore 4), (62, .bipush 30), (64, .iload 4), (66, .imul), (67, .iload_n 3), (68, .iadd), (69, .istore 5), (71, .aload_n 0), (72, .iload 4), (74, .iload_n 3), (75, .invokevirtual 617), (78, .istore 6), (80, .aload_n 0), (81, .getfield 180), (84, .iload 4), (86, .dup2), (87, .iaload), (88, .iload 6), (90, .ifCond .eq 7), (93, .iconst 0), (94, .goto 4), (97, .iconst 1)]
def qC_X12_complete_1 : List (Nat × Instr) := [(98, .iadd), (99, .iastore), (100, .iload 6), (102, .ifCond .eq 13), (105, .aload_n 0), (106, .getfield 192), (109, .iload 5), (111, .iaload), (112, .goto 9), (115, .aload_n 0), (116, .getfield 61), (119, .iload_n 3), (120, .iaload), (121, .istore 7), (123, .iload 6), (125, .ifCond .eq 13), (128, .aload_n 0), (129, .getfield 195), (132, .iload 5), (134, .iaload), (135, .goto 9), (138, .aload_n 0), (139, .getfield 76), (142, .iload_n 3), (143, .iaload), (144, .istore 8), (146, .aload_n 0), (147, .iload_n 3), (148, .aload_n 0), (149, .getfield 49), (152, .iload_n 3), (153, .iaload), (154, .aload_n 0), (155, .getfield 155), (158, .iload_n 1), (159, .iaload), (160, .iload 7), (162, .iload 8), (164, .invokevirtual 545), (167, .aload_n 0), (168, .getfield 374), (171, .ifCond .ne 22), (174, .aload_n 0), (175, .invokevirtual 393), (178, .aload_n 0), (179, .getfield 384), (182, .if_icmp .ge 11), (185, .aload_n 0), (186, .aload_n 0), (187, .invokevirtual 393), (190, .invokevirtual 400), (193, .aload_n 0), (194, .getfield 374), (197, .ifCond .eq 24), (200, .aload_n 0), (201, .getfield 52), (204, .iload_n 3), (205, .bipush 6), (207, .iastore), (208, .aload_n 0)]
def qC_X12_complete_2 : List (Nat × Instr) := [(209, .getfield 85), (212, .iload_n 3), (213, .aload_n 0), (214, .getfield 378), (217, .iastore), (218, .bipush (-2)), (220, .ireturn), (221, .aload_n 0), (222, .getfield 61), (225, .iload_n 3), (226, .iaload), (227, .istore 9), (229, .iconst 0), (230, .istore 10), (232, .iload 10), (234, .aload_n 0), (235, .getfield 416), (238, .if_icmp .ge 44), (241, .aload_n 0), (242, .iload_n 3), (243, .aload_n 0), (244, .getfield 291), (247, .iload 10), (249, .iaload), (250, .sipush 1000), (253, .idiv), (254, .aload_n 0), (255, .getfield 294), (258, .iload 10), (260, .iaload), (261, .aload_n 0), (262, .getfield 291), (265, .iload 10), (267, .iaload), (268, .sipush 1000), (271, .irem), (272, .invokevirtual 360), (275, .pop), (276, .iinc 10 1), (279, .goto (-47)), (282, .aload_n 0), (283, .iload_n 3), (284, .bipush 17), (286, .aload_n 0), (287, .getfield 155), (290, .iload_n 1), (291, .iaload), (292, .iconst 0), (293, .invokevirtual 360), (296, .pop), (297, .aload_n 0), (298, .getfield 183), (301, .iload 5), (303, .aload_n 0), (304, .getfield 73), (307, .iload_n 3), (308, .iaload), (309, .iastore), (310, .aload_n 0), (311, .getfield 186)]
def qC_X12_complete_3 : List (Nat × Instr) := [(314, .iload 5), (316, .aload_n 0), (317, .getfield 49), (320, .iload_n 3), (321, .iaload), (322, .iastore), (323, .aload_n 0), (324, .getfield 189), (327, .iload 5), (329, .aload_n 0), (330, .getfield 82), (333, .iload_n 3), (334, .iaload), (335, .iastore), (336, .aload_n 0), (337, .getfield 192), (340, .iload 5), (342, .iload 7), (344, .iastore), (345, .aload_n 0), (346, .getfield 195), (349, .iload 5), (351, .iload 8), (353, .iastore), (354, .iconst 0), (355, .istore 10), (357, .iload 10), (359, .aload_n 0), (360, .getfield 416), (363, .if_icmp .ge 48), (366, .aload_n 0), (367, .iload_n 3), (368, .iload 9), (370, .iload 10), (372, .iadd), (373, .aload_n 0), (374, .getfield 291), (377, .iload 10), (379, .iaload), (380, .sipush 1000), (383, .idiv), (384, .aload_n 0), (385, .getfield 294), (388, .iload 10), (390, .iaload), (391, .aload_n 0), (392, .getfield 291), (395, .iload 10), (397, .iaload), (398, .sipush 1000), (401, .irem), (402, .invokevirtual 620), (405, .iinc 10 1), (408, .goto (-51)), (411, .aload_n 0), (412, .getfield 416), (415, .ireturn)]
def qM_X12_complete : QM := (yX12_complete, cX12_complete, 11, (some .int), RX12, false, [], qK_X12, qC_X12_complete_0 ++ qC_X12_complete_1 ++ qC_X12_complete_2 ++ qC_X12_complete_3)
def qC_X12_carriesOut_0 : List (Nat × Instr) := [(0, .iload_n 3), (1, .bipush 8), (3, .if_icmp .ne 16), (6, .aload_n 0), (7, .iload_n 1), (8, .iload_n 2), (9, .iload 4), (11, .iload 5), (13, .invokevirtual 623), (16, .goto 215), (19, .iload_n 3), (20, .bipush 9), (22, .if_icmp .ne 19), (25, .aload_n 0), (26, .iload_n 1), (27, .iload_n 2), (28, .aload_n 0), (29, .getfield 357), (32, .iload 4), (34, .iadd), (35, .invokevirtual 626), (38, .goto 193), (41, .iload_n 3), (42, .bipush 10), (44, .if_icmp .ne 64), (47, .aload_n 0), (48, .getfield 310), (51, .bipush 30), (53, .if_icmp .eq 13), (56, .aload_n 0), (57, .getfield 7), (60, .iload 4), (62, .iaload), (63, .ifCond .ne 16), (66, .aload_n 0), (67, .iload_n 1), (68, .bipush 6), (70, .iload_n 2), (71, .iconst 0), (72, .invokevirtual 360), (75, .pop), (76, .goto 155), (79, .aload_n 0), (80, .iload 4), (82, .aload_n 0), (83, .getfield 46), (86, .iload_n 1), (87, .iaload), (88, .aload_n 0), (89, .getfield 7), (92, .iload 4), (94, .iaload), (95, .iconst 1), (96, .isub), (97, .iload 5), (99, .iload_n 1), (100, .iload_n 2), (101, .invokevirtual 576), (104, .pop), (105, .goto 126)]
def qC_X12_carriesOut_1 : List (Nat × Instr) := [(108, .iload_n 3), (109, .bipush 11), (111, .if_icmp .ne 13), (114, .aload_n 0), (115, .iload_n 1), (116, .iload 4), (118, .invokevirtual 629), (121, .goto 110), (124, .iload_n 3), (125, .bipush 13), (127, .if_icmp .ne 33), (130, .aload_n 0), (131, .getfield 226), (134, .aload_n 0), (135, .getfield 632), (138, .sipush 1000), (141, .iload_n 1), (142, .imul), (143, .iload 4), (145, .iadd), (146, .iastore), (147, .aload_n 0), (148, .dup), (149, .getfield 632), (152, .iconst 1), (153, .iadd), (154, .putfield 632), (157, .goto 74), (160, .iload_n 3), (161, .bipush 14), (163, .if_icmp .ne 21), (166, .aload_n 0), (167, .getfield 52), (170, .iload_n 1), (171, .iconst 1), (172, .iastore), (173, .aload_n 0), (174, .iload_n 1), (175, .iconst 1), (176, .iload 4), (178, .invokevirtual 635), (181, .goto 50), (184, .iload_n 3), (185, .bipush 15), (187, .if_icmp .ne 31), (190, .aload_n 0), (191, .getfield 52), (194, .iload_n 1), (195, .aload_n 0), (196, .getfield 518), (199, .ifCond .eq 7), (202, .iconst 3), (203, .goto 4), (206, .iconst 2), (207, .iastore), (208, .aload_n 0), (209, .iload_n 1), (210, .iconst 1), (211, .iconst 0), (212, .invokevirtual 635)]
def qC_X12_carriesOut_2 : List (Nat × Instr) := [(215, .goto 16), (218, .iload_n 3), (219, .bipush 16), (221, .if_icmp .ne 10), (224, .aload_n 0), (225, .iload_n 1), (226, .iload 4), (228, .invokevirtual 639), (231, .return_)]
def qM_X12_carriesOut : QM := (yX12_carriesOut, cX12_carriesOut, 6, none, RX12, false, [], qK_X12, qC_X12_carriesOut_0 ++ qC_X12_carriesOut_1 ++ qC_X12_carriesOut_2)
def qC_X12_goesOnAsNew_0 : List (Nat × Instr) := [(0, .aload_n 0), (1, .getfield 310), (4, .bipush 30), (6, .if_icmp .ne 18), (9, .aload_n 0), (10, .getfield 52), (13, .iload_n 1), (14, .iconst 2), (15, .iastore), (16, .aload_n 0), (17, .iload_n 1), (18, .iconst 1), (19, .iconst 0), (20, .invokevirtual 635), (23, .return_), (24, .aload_n 0), (25, .getfield 52), (28, .iload_n 1), (29, .iconst 4), (30, .iastore), (31, .aload_n 0), (32, .aload_n 0), (33, .getfield 43), (36, .iload_n 1), (37, .iaload), (38, .aload_n 0), (39, .getfield 46), (42, .iload_n 1), (43, .iaload), (44, .aload_n 0), (45, .getfield 7), (48, .aload_n 0), (49, .getfield 43), (52, .iload_n 1), (53, .iaload), (54, .iaload), (55, .iconst 1), (56, .isub), (57, .iload_n 2), (58, .aload_n 0), (59, .getfield 55), (62, .iload_n 1), (63, .iaload), (64, .aload_n 0), (65, .getfield 58), (68, .iload_n 1), (69, .iaload), (70, .invokevirtual 576), (73, .istore_n 3), (74, .iconst 0), (75, .istore 4), (77, .iload 4), (79, .iconst 4), (80, .if_icmp .ge 59), (83, .aload_n 0), (84, .getfield 284), (87, .iload 4), (89, .iaload), (90, .istore 5), (92, .iload 5)]
def qC_X12_goesOnAsNew_1 : List (Nat × Instr) := [(94, .aload_n 0), (95, .getfield 281), (98, .iload 4), (100, .iaload), (101, .if_icmp .ge 32), (104, .aload_n 0), (105, .iload_n 3), (106, .iconst 4), (107, .iload 4), (109, .aload_n 0), (110, .getfield 287), (113, .sipush 2048), (116, .iload 4), (118, .imul), (119, .iload 5), (121, .iadd), (122, .iaload), (123, .invokevirtual 360), (126, .pop), (127, .iinc 5 1), (130, .goto (-38)), (133, .iinc 4 1), (136, .goto (-59)), (139, .iconst 0), (140, .istore 4), (142, .iconst 0), (143, .istore 5), (145, .iload 5), (147, .aload_n 0), (148, .getfield 61), (151, .iload_n 1), (152, .iaload), (153, .if_icmp .ge 71), (156, .aload_n 0), (157, .iload_n 1), (158, .iload 5), (160, .invokevirtual 341), (163, .istore 6), (165, .iload 4), (167, .iload 6), (169, .bipush 7), (171, .if_icmp .gt 7), (174, .iconst 1), (175, .goto 4), (178, .iconst 0), (179, .iadd), (180, .istore 4), (182, .iload 6), (184, .iconst 4), (185, .if_icmp .ne 33), (188, .iload 4), (190, .aload_n 0), (191, .getfield 536), (194, .if_icmp .le 24), (197, .aload_n 0), (198, .iload_n 3), (199, .iconst 4), (200, .aload_n 0), (201, .iload_n 1), (202, .iload 5)]
def qC_X12_goesOnAsNew_2 : List (Nat × Instr) := [(204, .invokevirtual 344), (207, .aload_n 0), (208, .iload_n 1), (209, .iload 5), (211, .invokevirtual 397), (214, .invokevirtual 360), (217, .pop), (218, .iinc 5 1), (221, .goto (-76)), (224, .aload_n 0), (225, .iload_n 1), (226, .iconst 0), (227, .iconst 0), (228, .invokevirtual 635), (231, .return_)]
def qM_X12_goesOnAsNew : QM := (yX12_goesOnAsNew, cX12_goesOnAsNew, 7, none, RX12, false, [], qK_X12, qC_X12_goesOnAsNew_0 ++ qC_X12_goesOnAsNew_1 ++ qC_X12_goesOnAsNew_2)
def qC_X12_die_0 : List (Nat × Instr) := [(0, .aload_n 0), (1, .iload_n 1), (2, .invokestatic 605), (5, .ifCond .eq 7), (8, .iconst 0), (9, .goto 4), (12, .iconst 1), (13, .invokevirtual 324), (16, .ifCond .eq 5), (19, .iconst 0), (20, .ireturn), (21, .iconst 0), (22, .istore_n 2), (23, .iconst 0), (24, .istore_n 3), (25, .iload_n 3), (26, .aload_n 0), (27, .getfield 599), (30, .if_icmp .ge 73), (33, .aload_n 0), (34, .getfield 149), (37, .iload_n 3), (38, .iaload), (39, .iload_n 1), (40, .if_icmp .ne 16), (43, .aload_n 0), (44, .getfield 170), (47, .iload_n 3), (48, .baload), (49, .ifCond .ne 7), (52, .iconst 1), (53, .goto 4), (56, .iconst 0), (57, .istore 4), (59, .iload_n 2), (60, .iload 4), (62, .ifCond .eq 7), (65, .iconst 1), (66, .goto 4), (69, .iconst 0), (70, .iadd), (71, .istore_n 2), (72, .aload_n 0), (73, .getfield 170), (76, .iload_n 3), (77, .aload_n 0), (78, .getfield 170), (81, .iload_n 3), (82, .baload), (83, .ifCond .ne 8), (86, .iload 4), (88, .ifCond .eq 7), (91, .iconst 1), (92, .goto 4), (95, .iconst 0), (96, .bastore), (97, .iinc 3 1), (100, .goto (-75)), (103, .bipush 30), (105, .iload_n 1)]
def qC_X12_die_1 : List (Nat × Instr) := [(106, .imul), (107, .istore_n 3), (108, .iload_n 3), (109, .bipush 30), (111, .iload_n 1), (112, .imul), (113, .bipush 30), (115, .iadd), (116, .if_icmp .ge 16), (119, .aload_n 0), (120, .getfield 183), (123, .iload_n 3), (124, .iconst 0), (125, .iastore), (126, .iinc 3 1), (129, .goto (-21)), (132, .iload_n 2), (133, .ireturn)]
def qM_X12_die : QM := (yX12_die, cX12_die, 5, (some .int), RX12, false, [], qK_X12, qC_X12_die_0 ++ qC_X12_die_1)
def qC_X12_replays_0 : List (Nat × Instr) := [(0, .aload_n 0), (1, .iload_n 1), (2, .invokestatic 605), (5, .ifCond .eq 7), (8, .iconst 0), (9, .goto 4), (12, .iconst 1), (13, .invokevirtual 324), (16, .ifCond .eq 7), (19, .iconst 0), (20, .goto 9), (23, .aload_n 0), (24, .getfield 180), (27, .iload_n 1), (28, .iaload), (29, .ireturn)]
def qM_X12_replays : QM := (yX12_replays, cX12_replays, 2, (some .int), RX12, false, [], qK_X12, qC_X12_replays_0)
def qC_X12_take_0 : List (Nat × Instr) := [(0, .aload_n 0), (1, .iload_n 1), (2, .iconst 0), (3, .iconst 3), (4, .invokestatic 306), (7, .ifCond .eq 7), (10, .iconst 0), (11, .goto 4), (14, .iconst 1), (15, .invokevirtual 324), (18, .ifCond .eq 5), (21, .iconst 0), (22, .ireturn), (23, .iconst 0), (24, .istore_n 2), (25, .iload_n 2), (26, .aload_n 0), (27, .getfield 549), (30, .if_icmp .ge 91), (33, .aload_n 0), (34, .getfield 110), (37, .iload_n 2), (38, .iaload), (39, .iload_n 1), (40, .if_icmp .ne 75), (43, .aload_n 0), (44, .getfield 116), (47, .iload_n 2), (48, .iaload), (49, .ifCond .ne 66), (52, .aload_n 0), (53, .getfield 125), (56, .iload_n 2), (57, .iaload), (58, .aload_n 0), (59, .getfield 357), (62, .if_icmp .gt 53), (65, .aload_n 0), (66, .getfield 116), (69, .iload_n 2), (70, .iconst 1), (71, .iastore), (72, .aload_n 0), (73, .getfield 119), (76, .iload_n 2), (77, .dup2), (78, .iaload), (79, .iconst 1), (80, .iadd), (81, .iastore), (82, .aload_n 0), (83, .getfield 128), (86, .iload_n 2), (87, .aload_n 0), (88, .getfield 357), (91, .iastore), (92, .aload_n 0), (93, .getfield 131), (96, .iload_n 2), (97, .aload_n 0)]
def qC_X12_take_1 : List (Nat × Instr) := [(98, .getfield 357), (101, .iastore), (102, .sipush 1000), (105, .iload_n 2), (106, .imul), (107, .aload_n 0), (108, .getfield 113), (111, .iload_n 2), (112, .iaload), (113, .iadd), (114, .ireturn), (115, .iinc 2 1), (118, .goto (-93)), (121, .iconst (-1)), (122, .ireturn)]
def qM_X12_take : QM := (yX12_take, cX12_take, 3, (some .int), RX12, false, [], qK_X12, qC_X12_take_0 ++ qC_X12_take_1)
def qC_X12_isActivity_0 : List (Nat × Instr) := [(0, .iload_n 1), (1, .iconst 0), (2, .aload_n 0), (3, .getfield 549), (6, .iconst 1), (7, .isub), (8, .invokestatic 306), (11, .ireturn)]
def qM_X12_isActivity : QM := (yX12_isActivity, cX12_isActivity, 2, (some .boolean), RX12, false, [], qK_X12, qC_X12_isActivity_0)
def qC_X12_answer_0 : List (Nat × Instr) := [(0, .aload_n 0), (1, .iload_n 1), (2, .invokevirtual 642), (5, .istore_n 3), (6, .aload_n 0), (7, .iload_n 3), (8, .ifCond .ne 7), (11, .iconst 1), (12, .goto 15), (15, .iload_n 2), (16, .invokestatic 573), (19, .ifCond .eq 7), (22, .iconst 0), (23, .goto 4), (26, .iconst 2), (27, .invokevirtual 324), (30, .ifCond .ne 13), (33, .aload_n 0), (34, .getfield 116), (37, .iload_n 1), (38, .iaload), (39, .iconst 1), (40, .if_icmp .eq 5), (43, .iconst 0), (44, .ireturn), (45, .aload_n 0), (46, .getfield 116), (49, .iload_n 1), (50, .iconst 2), (51, .iastore), (52, .aload_n 0), (53, .aload_n 0), (54, .getfield 104), (57, .iload_n 1), (58, .iaload), (59, .iconst 1), (60, .aload_n 0), (61, .getfield 107), (64, .iload_n 1), (65, .iaload), (66, .iload_n 2), (67, .invokevirtual 360), (70, .pop), (71, .iconst 1), (72, .ireturn)]
def qM_X12_answer : QM := (yX12_answer, cX12_answer, 4, (some .boolean), RX12, false, [], qK_X12, qC_X12_answer_0)
def qC_X12_misses_0 : List (Nat × Instr) := [(0, .iload_n 2), (1, .ifCond .ne 55), (4, .aload_n 0), (5, .getfield 119), (8, .iload_n 1), (9, .iaload), (10, .aload_n 0), (11, .getfield 25), (14, .aload_n 0), (15, .getfield 110), (18, .iload_n 1), (19, .iaload), (20, .iaload), (21, .if_icmp .ge 35), (24, .aload_n 0), (25, .getfield 116), (28, .iload_n 1), (29, .iconst 0), (30, .iastore), (31, .aload_n 0), (32, .getfield 125), (35, .iload_n 1), (36, .aload_n 0), (37, .getfield 357), (40, .aload_n 0), (41, .getfield 28), (44, .aload_n 0), (45, .getfield 110), (48, .iload_n 1), (49, .iaload), (50, .iaload), (51, .iadd), (52, .iastore), (53, .goto 29), (56, .aload_n 0), (57, .getfield 116), (60, .iload_n 1), (61, .iconst 2), (62, .iastore), (63, .aload_n 0), (64, .aload_n 0), (65, .getfield 104), (68, .iload_n 1), (69, .iaload), (70, .iconst 2), (71, .aload_n 0), (72, .getfield 107), (75, .iload_n 1), (76, .iaload), (77, .iconst 0), (78, .invokevirtual 360), (81, .pop), (82, .return_)]
def qM_X12_misses : QM := (yX12_misses, cX12_misses, 3, none, RX12, false, [], qK_X12, qC_X12_misses_0)
def qC_X12_fail_0 : List (Nat × Instr) := [(0, .aload_n 0), (1, .aload_n 0), (2, .iload_n 1), (3, .invokevirtual 642), (6, .ifCond .eq 7), (9, .iconst 0), (10, .goto 4), (13, .iconst 1), (14, .invokevirtual 324), (17, .ifCond .ne 13), (20, .aload_n 0), (21, .getfield 116), (24, .iload_n 1), (25, .iaload), (26, .iconst 1), (27, .if_icmp .eq 5), (30, .iconst 0), (31, .ireturn), (32, .aload_n 0), (33, .iload_n 1), (34, .iload_n 2), (35, .invokevirtual 645), (38, .iconst 1), (39, .ireturn)]
def qM_X12_fail : QM := (yX12_fail, cX12_fail, 3, (some .boolean), RX12, false, [], qK_X12, qC_X12_fail_0)
def qC_X12_beat_0 : List (Nat × Instr) := [(0, .aload_n 0), (1, .iload_n 1), (2, .invokevirtual 642), (5, .istore_n 3), (6, .aload_n 0), (7, .iload_n 3), (8, .ifCond .ne 7), (11, .iconst 1), (12, .goto 15), (15, .iload_n 2), (16, .invokestatic 573), (19, .ifCond .eq 7), (22, .iconst 0), (23, .goto 4), (26, .iconst 2), (27, .invokevirtual 324), (30, .ifCond .eq 5), (33, .iconst 0), (34, .ireturn), (35, .aload_n 0), (36, .getfield 116), (39, .iload_n 1), (40, .iaload), (41, .iconst 1), (42, .if_icmp .eq 5), (45, .iconst (-1)), (46, .ireturn), (47, .aload_n 0), (48, .getfield 134), (51, .iload_n 1), (52, .iaload), (53, .istore 4), (55, .aload_n 0), (56, .getfield 134), (59, .iload_n 1), (60, .iload_n 2), (61, .iastore), (62, .aload_n 0), (63, .getfield 131), (66, .iload_n 1), (67, .aload_n 0), (68, .getfield 357), (71, .iastore), (72, .iload 4), (74, .ireturn)]
def qM_X12_beat : QM := (yX12_beat, cX12_beat, 5, (some .int), RX12, false, [], qK_X12, qC_X12_beat_0)
def qC_X12_activity_0 : List (Nat × Instr) := [(0, .aload_n 0), (1, .aload_n 0), (2, .iload_n 1), (3, .invokevirtual 642), (6, .ifCond .eq 7), (9, .iconst 0), (10, .goto 4), (13, .iconst 1), (14, .invokevirtual 324), (17, .ifCond .eq 7), (20, .iconst 0), (21, .goto 29), (24, .bipush 100), (26, .aload_n 0), (27, .getfield 104), (30, .iload_n 1), (31, .iaload), (32, .imul), (33, .bipush 10), (35, .aload_n 0), (36, .getfield 119), (39, .iload_n 1), (40, .iaload), (41, .imul), (42, .iadd), (43, .aload_n 0), (44, .getfield 116), (47, .iload_n 1), (48, .iaload), (49, .iadd), (50, .ireturn)]
def qM_X12_activity : QM := (yX12_activity, cX12_activity, 2, (some .int), RX12, false, [], qK_X12, qC_X12_activity_0)
def qC_X12_fires_0 : List (Nat × Instr) := [(0, .iconst 1), (1, .istore_n 1), (2, .iload_n 1), (3, .ifCond .eq 144), (6, .iconst (-1)), (7, .istore_n 2), (8, .iconst 0), (9, .istore_n 3), (10, .iload_n 3), (11, .aload_n 0), (12, .getfield 552), (15, .if_icmp .ge 90), (18, .iload_n 2), (19, .iconst (-1)), (20, .if_icmp .eq 48), (23, .aload_n 0), (24, .getfield 137), (27, .iload_n 3), (28, .iaload), (29, .aload_n 0), (30, .getfield 137), (33, .iload_n 2), (34, .iaload), (35, .if_icmp .lt 33), (38, .aload_n 0), (39, .getfield 137), (42, .iload_n 3), (43, .iaload), (44, .aload_n 0), (45, .getfield 137), (48, .iload_n 2), (49, .iaload), (50, .if_icmp .ne 22), (53, .aload_n 0), (54, .getfield 140), (57, .iload_n 3), (58, .iaload), (59, .aload_n 0), (60, .getfield 140), (63, .iload_n 2), (64, .iaload), (65, .if_icmp .ge 7), (68, .iconst 1), (69, .goto 4), (72, .iconst 0), (73, .istore 4), (75, .aload_n 0), (76, .getfield 143), (79, .iload_n 3), (80, .iaload), (81, .aload_n 0), (82, .getfield 357), (85, .if_icmp .gt 12), (88, .iload 4), (90, .ifCond .eq 7), (93, .iload_n 3), (94, .goto 4), (97, .iload_n 2), (98, .istore_n 2), (99, .iinc 3 1)]
def qC_X12_fires_1 : List (Nat × Instr) := [(102, .goto (-92)), (105, .iload_n 2), (106, .iconst (-1)), (107, .if_icmp .eq 7), (110, .iconst 1), (111, .goto 4), (114, .iconst 0), (115, .istore_n 1), (116, .iload_n 1), (117, .ifCond .eq 27), (120, .aload_n 0), (121, .aload_n 0), (122, .getfield 137), (125, .iload_n 2), (126, .iaload), (127, .iconst 3), (128, .aload_n 0), (129, .getfield 140), (132, .iload_n 2), (133, .iaload), (134, .iconst 0), (135, .invokevirtual 360), (138, .pop), (139, .aload_n 0), (140, .iload_n 2), (141, .invokevirtual 555), (144, .goto (-142)), (147, .return_)]
def qM_X12_fires : QM := (yX12_fires, cX12_fires, 5, none, RX12, false, [], qK_X12, qC_X12_fires_0 ++ qC_X12_fires_1)
def qC_X12_looksAtActivities_0 : List (Nat × Instr) := [(0, .iconst 0), (1, .istore_n 1), (2, .iload_n 1), (3, .aload_n 0), (4, .getfield 549), (7, .if_icmp .ge 210), (10, .aload_n 0), (11, .getfield 110), (14, .iload_n 1), (15, .iaload), (16, .istore_n 2), (17, .aload_n 0), (18, .getfield 116), (21, .iload_n 1), (22, .iaload), (23, .ifCond .ne 45), (26, .aload_n 0), (27, .getfield 119), (30, .iload_n 1), (31, .iaload), (32, .ifCond .ne 36), (35, .aload_n 0), (36, .getfield 31), (39, .iload_n 2), (40, .iaload), (41, .ifCond .le 27), (44, .aload_n 0), (45, .getfield 357), (48, .aload_n 0), (49, .getfield 122), (52, .iload_n 1), (53, .iaload), (54, .isub), (55, .aload_n 0), (56, .getfield 31), (59, .iload_n 2), (60, .iaload), (61, .if_icmp .lt 7), (64, .iconst 1), (65, .goto 4), (68, .iconst 0), (69, .istore_n 3), (70, .aload_n 0), (71, .getfield 116), (74, .iload_n 1), (75, .iaload), (76, .iconst 1), (77, .if_icmp .ne 36), (80, .aload_n 0), (81, .getfield 34), (84, .iload_n 2), (85, .iaload), (86, .ifCond .le 27), (89, .aload_n 0), (90, .getfield 357), (93, .aload_n 0), (94, .getfield 128), (97, .iload_n 1), (98, .iaload), (99, .isub)]
def qC_X12_looksAtActivities_1 : List (Nat × Instr) := [(100, .aload_n 0), (101, .getfield 34), (104, .iload_n 2), (105, .iaload), (106, .if_icmp .lt 7), (109, .iconst 1), (110, .goto 4), (113, .iconst 0), (114, .istore 4), (116, .aload_n 0), (117, .getfield 116), (120, .iload_n 1), (121, .iaload), (122, .iconst 1), (123, .if_icmp .ne 36), (126, .aload_n 0), (127, .getfield 37), (130, .iload_n 2), (131, .iaload), (132, .ifCond .le 27), (135, .aload_n 0), (136, .getfield 357), (139, .aload_n 0), (140, .getfield 131), (143, .iload_n 1), (144, .iaload), (145, .isub), (146, .aload_n 0), (147, .getfield 37), (150, .iload_n 2), (151, .iaload), (152, .if_icmp .lt 7), (155, .iconst 1), (156, .goto 4), (159, .iconst 0), (160, .istore 5), (162, .iload_n 3), (163, .ifCond .eq 32), (166, .aload_n 0), (167, .getfield 116), (170, .iload_n 1), (171, .iconst 2), (172, .iastore), (173, .aload_n 0), (174, .aload_n 0), (175, .getfield 104), (178, .iload_n 1), (179, .iaload), (180, .iconst 2), (181, .aload_n 0), (182, .getfield 107), (185, .iload_n 1), (186, .iaload), (187, .iconst 0), (188, .invokevirtual 360), (191, .pop), (192, .goto 19), (195, .iload 4), (197, .ifCond .ne 8), (200, .iload 5)]
def qC_X12_looksAtActivities_2 : List (Nat × Instr) := [(202, .ifCond .eq 9), (205, .aload_n 0), (206, .iload_n 1), (207, .iconst 0), (208, .invokevirtual 645), (211, .iinc 1 1), (214, .goto (-212)), (217, .return_)]
def qM_X12_looksAtActivities : QM := (yX12_looksAtActivities, cX12_looksAtActivities, 6, none, RX12, false, [], qK_X12, qC_X12_looksAtActivities_0 ++ qC_X12_looksAtActivities_1 ++ qC_X12_looksAtActivities_2)
def qC_X12_pass_0 : List (Nat × Instr) := [(0, .aload_n 0), (1, .iload_n 1), (2, .iconst 1), (3, .bipush 100), (5, .invokestatic 306), (8, .ifCond .eq 7), (11, .iconst 0), (12, .goto 4), (15, .iconst 1), (16, .invokevirtual 324), (19, .ifCond .eq 5), (22, .iconst 0), (23, .ireturn), (24, .iconst 0), (25, .istore_n 2), (26, .iload_n 2), (27, .iload_n 1), (28, .if_icmp .ge 68), (31, .aload_n 0), (32, .dup), (33, .getfield 357), (36, .iconst 1), (37, .iadd), (38, .putfield 357), (41, .iconst 0), (42, .istore_n 3), (43, .iload_n 3), (44, .iconst 3), (45, .if_icmp .ge 16), (48, .aload_n 0), (49, .getfield 174), (52, .iload_n 3), (53, .iconst 0), (54, .iastore), (55, .iinc 3 1), (58, .goto (-15)), (61, .aload_n 0), (62, .invokevirtual 649), (65, .aload_n 0), (66, .invokevirtual 652), (69, .iconst 0), (70, .istore_n 3), (71, .iload_n 3), (72, .aload_n 0), (73, .getfield 655), (76, .if_icmp .ge 14), (79, .aload_n 0), (80, .iload_n 3), (81, .invokevirtual 658), (84, .iinc 3 1), (87, .goto (-16)), (90, .iinc 2 1), (93, .goto (-67)), (96, .aload_n 0), (97, .getfield 357), (100, .ireturn)]
def qM_X12_pass : QM := (yX12_pass, cX12_pass, 4, (some .int), RX12, false, [], qK_X12, qC_X12_pass_0)
def qC_X12_isVersion_0 : List (Nat × Instr) := [(0, .iload_n 1), (1, .invokestatic 313), (4, .ifCond .eq 23), (7, .iload_n 2), (8, .iconst 0), (9, .aload_n 0), (10, .getfield 7), (13, .iload_n 1), (14, .iaload), (15, .iconst 1), (16, .isub), (17, .invokestatic 306), (20, .ifCond .eq 7), (23, .iconst 1), (24, .goto 4), (27, .iconst 0), (28, .ireturn)]
def qM_X12_isVersion : QM := (yX12_isVersion, cX12_isVersion, 3, (some .boolean), RX12, false, [], qK_X12, qC_X12_isVersion_0)
def qC_X12_unsafe_0 : List (Nat × Instr) := [(0, .aload_n 0), (1, .aload_n 0), (2, .iload_n 1), (3, .iload_n 2), (4, .invokevirtual 661), (7, .ifCond .eq 7), (10, .iconst 0), (11, .goto 4), (14, .iconst 1), (15, .invokevirtual 324), (18, .ifCond .eq 5), (21, .iconst 0), (22, .ireturn), (23, .iconst 0), (24, .istore_n 3), (25, .iconst 0), (26, .istore 4), (28, .iload 4), (30, .aload_n 0), (31, .getfield 310), (34, .if_icmp .ge 48), (37, .iload_n 3), (38, .aload_n 0), (39, .getfield 52), (42, .iload 4), (44, .iaload), (45, .ifCond .ne 28), (48, .aload_n 0), (49, .getfield 43), (52, .iload 4), (54, .iaload), (55, .iload_n 1), (56, .if_icmp .ne 17), (59, .aload_n 0), (60, .iload 4), (62, .iload_n 2), (63, .invokevirtual 586), (66, .ifCond .ne 7), (69, .iconst 1), (70, .goto 4), (73, .iconst 0), (74, .iadd), (75, .istore_n 3), (76, .iinc 4 1), (79, .goto (-51)), (82, .iload_n 3), (83, .ireturn)]
def qM_X12_unsafe : QM := (yX12_unsafe, cX12_unsafe, 5, (some .int), RX12, false, [], qK_X12, qC_X12_unsafe_0)
def qC_X12_move_0 : List (Nat × Instr) := [(0, .aload_n 0), (1, .iload_n 1), (2, .invokevirtual 580), (5, .ifCond .eq 21), (8, .aload_n 0), (9, .aload_n 0), (10, .getfield 43), (13, .iload_n 1), (14, .iaload), (15, .iload_n 2), (16, .invokevirtual 661), (19, .ifCond .eq 7), (22, .iconst 1), (23, .goto 4), (26, .iconst 0), (27, .istore_n 3), (28, .aload_n 0), (29, .iload_n 3), (30, .ifCond .ne 7), (33, .iconst 1), (34, .goto 16), (37, .aload_n 0), (38, .iload_n 1), (39, .invokevirtual 561), (42, .ifCond .eq 7), (45, .iconst 0), (46, .goto 4), (49, .iconst 2), (50, .invokevirtual 324), (53, .ifCond .eq 5), (56, .iconst 0), (57, .ireturn), (58, .aload_n 0), (59, .getfield 49), (62, .iload_n 1), (63, .iload_n 2), (64, .iastore), (65, .aload_n 0), (66, .getfield 52), (69, .iload_n 1), (70, .iconst 0), (71, .iastore), (72, .aload_n 0), (73, .iload_n 1), (74, .iload_n 2), (75, .invokevirtual 586), (78, .ireturn)]
def qM_X12_move : QM := (yX12_move, cX12_move, 4, (some .boolean), RX12, false, [], qK_X12, qC_X12_move_0)
def qC_X12_marks_0 : List (Nat × Instr) := [(0, .iconst 0), (1, .istore_n 2), (2, .iload_n 2), (3, .aload_n 0), (4, .getfield 61), (7, .iload_n 1), (8, .iaload), (9, .bipush 32), (11, .idiv), (12, .if_icmp .gt 16), (15, .aload_n 0), (16, .getfield 101), (19, .iload_n 2), (20, .iconst 0), (21, .iastore), (22, .iinc 2 1), (25, .goto (-23)), (28, .iconst 0), (29, .istore_n 2), (30, .iload_n 2), (31, .aload_n 0), (32, .getfield 61), (35, .iload_n 1), (36, .iaload), (37, .if_icmp .ge 65), (40, .aload_n 0), (41, .iload_n 1), (42, .iload_n 2), (43, .invokevirtual 341), (46, .istore_n 3), (47, .iload_n 3), (48, .iconst 1), (49, .if_icmp .eq 19), (52, .iload_n 3), (53, .iconst 2), (54, .if_icmp .eq 14), (57, .iload_n 3), (58, .iconst 3), (59, .if_icmp .eq 9), (62, .iload_n 3), (63, .bipush 11), (65, .if_icmp .ne 31), (68, .aload_n 0), (69, .iload_n 1), (70, .iload_n 2), (71, .invokevirtual 344), (74, .istore 4), (76, .aload_n 0), (77, .getfield 101), (80, .iload 4), (82, .bipush 32), (84, .idiv), (85, .dup2), (86, .iaload), (87, .iconst 1), (88, .iload 4), (90, .bipush 32), (92, .irem), (93, .ishl), (94, .ior)]
def qC_X12_marks_1 : List (Nat × Instr) := [(95, .iastore), (96, .iinc 2 1), (99, .goto (-69)), (102, .return_)]
def qM_X12_marks : QM := (yX12_marks, cX12_marks, 5, none, RX12, false, [], qK_X12, qC_X12_marks_0 ++ qC_X12_marks_1)
def qC_X12_isBack_0 : List (Nat × Instr) := [(0, .aload_n 0), (1, .getfield 101), (4, .iload_n 1), (5, .bipush 32), (7, .idiv), (8, .iaload), (9, .iload_n 1), (10, .bipush 32), (12, .irem), (13, .ishr), (14, .iconst 1), (15, .iand), (16, .iconst 1), (17, .if_icmp .ne 7), (20, .iconst 1), (21, .goto 4), (24, .iconst 0), (25, .ireturn)]
def qM_X12_isBack : QM := (yX12_isBack, cX12_isBack, 2, (some .boolean), RX12, false, [], qK_X12, qC_X12_isBack_0)
def qC_X12_beginsAnew_0 : List (Nat × Instr) := [(0, .aload_n 0), (1, .getfield 61), (4, .iload_n 1), (5, .iaload), (6, .istore_n 2), (7, .aload_n 0), (8, .iload_n 1), (9, .invokevirtual 664), (12, .iconst 0), (13, .istore_n 3), (14, .iload_n 3), (15, .iload_n 2), (16, .if_icmp .ge 96), (19, .aload_n 0), (20, .iload_n 1), (21, .iload_n 3), (22, .invokevirtual 341), (25, .istore 4), (27, .iload 4), (29, .bipush 8), (31, .if_icmp .ne 32), (34, .aload_n 0), (35, .iload_n 3), (36, .invokevirtual 667), (39, .ifCond .ne 24), (42, .aload_n 0), (43, .iload_n 1), (44, .iload_n 3), (45, .aload_n 0), (46, .iload_n 1), (47, .iload_n 3), (48, .invokevirtual 344), (51, .aload_n 0), (52, .iload_n 1), (53, .iload_n 3), (54, .invokevirtual 397), (57, .invokevirtual 623), (60, .goto 46), (63, .iload 4), (65, .bipush 9), (67, .if_icmp .ne 39), (70, .aload_n 0), (71, .iload_n 3), (72, .invokevirtual 667), (75, .ifCond .ne 31), (78, .aload_n 0), (79, .iload_n 1), (80, .iload_n 3), (81, .aload_n 0), (82, .iload_n 1), (83, .iload_n 3), (84, .invokevirtual 521), (87, .aload_n 0), (88, .iload_n 1), (89, .iload_n 3), (90, .invokevirtual 344), (93, .iadd), (94, .aload_n 0), (95, .getfield 357), (98, .iconst 1)]
def qC_X12_beginsAnew_1 : List (Nat × Instr) := [(99, .iadd), (100, .invokestatic 338), (103, .invokevirtual 626), (106, .iinc 3 1), (109, .goto (-95)), (112, .return_)]
def qM_X12_beginsAnew : QM := (yX12_beginsAnew, cX12_beginsAnew, 5, none, RX12, false, [], qK_X12, qC_X12_beginsAnew_0 ++ qC_X12_beginsAnew_1)
def qC_X12_taskAt_0 : List (Nat × Instr) := [(0, .iload_n 2), (1, .istore_n 3), (2, .iconst 0), (3, .istore 4), (5, .iload 4), (7, .aload_n 0), (8, .getfield 61), (11, .iload_n 1), (12, .iaload), (13, .if_icmp .ge 35), (16, .iload_n 2), (17, .ifCond .lt 31), (20, .aload_n 0), (21, .iload_n 1), (22, .iload 4), (24, .invokevirtual 341), (27, .bipush 17), (29, .if_icmp .ne 13), (32, .iload_n 3), (33, .ifCond .ne 6), (36, .iload 4), (38, .ireturn), (39, .iinc 3 (-1)), (42, .iinc 4 1), (45, .goto (-40)), (48, .iconst (-1)), (49, .ireturn)]
def qM_X12_taskAt : QM := (yX12_taskAt, cX12_taskAt, 5, (some .int), RX12, false, [], qK_X12, qC_X12_taskAt_0)
def qC_X12_setBack_0 : List (Nat × Instr) := [(0, .aload_n 0), (1, .iload_n 1), (2, .invokevirtual 580), (5, .ifCond .eq 17), (8, .aload_n 0), (9, .iload_n 1), (10, .iload_n 2), (11, .invokevirtual 670), (14, .iconst (-1)), (15, .if_icmp .eq 7), (18, .iconst 1), (19, .goto 4), (22, .iconst 0), (23, .istore_n 3), (24, .aload_n 0), (25, .iload_n 3), (26, .ifCond .ne 7), (29, .iconst 1), (30, .goto 25), (33, .aload_n 0), (34, .iload_n 1), (35, .invokevirtual 561), (38, .ifCond .eq 16), (41, .aload_n 0), (42, .getfield 310), (45, .bipush 30), (47, .if_icmp .ge 7), (50, .iconst 0), (51, .goto 4), (54, .iconst 2), (55, .invokevirtual 324), (58, .ifCond .eq 5), (61, .iconst 0), (62, .ireturn), (63, .aload_n 0), (64, .iload_n 1), (65, .iload_n 2), (66, .invokevirtual 670), (69, .istore 4), (71, .aload_n 0), (72, .getfield 52), (75, .iload_n 1), (76, .iconst 5), (77, .iastore), (78, .aload_n 0), (79, .iload_n 1), (80, .invokevirtual 564), (83, .iconst 0), (84, .istore 5), (86, .iload 5), (88, .aload_n 0), (89, .getfield 310), (92, .if_icmp .ge 38), (95, .aload_n 0), (96, .getfield 55), (99, .iload 5), (101, .aload_n 0), (102, .getfield 55), (105, .iload 5), (107, .iaload)]
def qC_X12_setBack_1 : List (Nat × Instr) := [(108, .iload_n 1), (109, .if_icmp .ne 7), (112, .iconst (-1)), (113, .goto 10), (116, .aload_n 0), (117, .getfield 55), (120, .iload 5), (122, .iaload), (123, .iastore), (124, .iinc 5 1), (127, .goto (-41)), (130, .aload_n 0), (131, .aload_n 0), (132, .getfield 43), (135, .iload_n 1), (136, .iaload), (137, .aload_n 0), (138, .getfield 46), (141, .iload_n 1), (142, .iaload), (143, .aload_n 0), (144, .getfield 49), (147, .iload_n 1), (148, .iaload), (149, .iconst (-1)), (150, .aload_n 0), (151, .getfield 55), (154, .iload_n 1), (155, .iaload), (156, .aload_n 0), (157, .getfield 58), (160, .iload_n 1), (161, .iaload), (162, .invokevirtual 576), (165, .istore 5), (167, .aload_n 0), (168, .getfield 64), (171, .iload 5), (173, .iload_n 1), (174, .iastore), (175, .aload_n 0), (176, .getfield 67), (179, .iload 5), (181, .iload 4), (183, .iconst 1), (184, .iadd), (185, .iastore), (186, .aload_n 0), (187, .getfield 61), (190, .iload 5), (192, .iload 4), (194, .iconst 1), (195, .iadd), (196, .iastore), (197, .aload_n 0), (198, .iload 5), (200, .invokevirtual 673), (203, .aload_n 0), (204, .iload 5), (206, .invokevirtual 676)]
def qC_X12_setBack_2 : List (Nat × Instr) := [(209, .iload 4), (211, .iconst 1), (212, .iadd), (213, .istore 6), (215, .iload 6), (217, .aload_n 0), (218, .getfield 61), (221, .iload_n 1), (222, .iaload), (223, .if_icmp .ge 42), (226, .aload_n 0), (227, .iload_n 1), (228, .iload 6), (230, .invokevirtual 341), (233, .iconst 4), (234, .if_icmp .ne 25), (237, .aload_n 0), (238, .iload 5), (240, .iconst 4), (241, .aload_n 0), (242, .iload_n 1), (243, .iload 6), (245, .invokevirtual 344), (248, .aload_n 0), (249, .iload_n 1), (250, .iload 6), (252, .invokevirtual 397), (255, .invokevirtual 360), (258, .pop), (259, .iinc 6 1), (262, .goto (-47)), (265, .iload 5), (267, .ireturn)]
def qM_X12_setBack : QM := (yX12_setBack, cX12_setBack, 7, (some .int), RX12, false, [], qK_X12, qC_X12_setBack_0 ++ qC_X12_setBack_1 ++ qC_X12_setBack_2)
def qC_X12_copy_0 : List (Nat × Instr) := [(0, .aload_n 0), (1, .aload_n 0), (2, .iload_n 1), (3, .invokevirtual 580), (6, .ifCond .ne 7), (9, .iconst 1), (10, .goto 18), (13, .iload_n 2), (14, .iconst 1), (15, .bipush 100), (17, .invokestatic 306), (20, .ifCond .eq 7), (23, .iconst 0), (24, .goto 4), (27, .iconst 2), (28, .invokevirtual 324), (31, .ifCond .eq 5), (34, .iconst 0), (35, .ireturn), (36, .aload_n 0), (37, .getfield 79), (40, .iload_n 1), (41, .aload_n 0), (42, .getfield 79), (45, .iload_n 1), (46, .iaload), (47, .iload_n 2), (48, .iadd), (49, .aload_n 0), (50, .getfield 61), (53, .iload_n 1), (54, .iaload), (55, .invokestatic 679), (58, .iastore), (59, .aload_n 0), (60, .getfield 79), (63, .iload_n 1), (64, .iaload), (65, .ireturn)]
def qM_X12_copy : QM := (yX12_copy, cX12_copy, 3, (some .int), RX12, false, [], qK_X12, qC_X12_copy_0)
def qC_X12_cutsRun_0 : List (Nat × Instr) := [(0, .aload_n 0), (1, .getfield 61), (4, .iload_n 1), (5, .iaload), (6, .aload_n 0), (7, .getfield 79), (10, .iload_n 1), (11, .iaload), (12, .isub), (13, .istore_n 2), (14, .aload_n 0), (15, .getfield 79), (18, .iload_n 1), (19, .iaload), (20, .istore_n 3), (21, .iload_n 3), (22, .aload_n 0), (23, .getfield 61), (26, .iload_n 1), (27, .iaload), (28, .if_icmp .ge 69), (31, .aload_n 0), (32, .iload_n 1), (33, .iload_n 3), (34, .invokevirtual 341), (37, .iconst 4), (38, .if_icmp .ne 53), (41, .aload_n 0), (42, .getfield 232), (45, .aload_n 0), (46, .getfield 682), (49, .iload_n 1), (50, .iastore), (51, .aload_n 0), (52, .getfield 235), (55, .aload_n 0), (56, .getfield 682), (59, .aload_n 0), (60, .iload_n 1), (61, .iload_n 3), (62, .invokevirtual 344), (65, .iastore), (66, .aload_n 0), (67, .getfield 238), (70, .aload_n 0), (71, .getfield 682), (74, .aload_n 0), (75, .iload_n 1), (76, .iload_n 3), (77, .invokevirtual 397), (80, .iastore), (81, .aload_n 0), (82, .dup), (83, .getfield 682), (86, .iconst 1), (87, .iadd), (88, .putfield 682), (91, .iinc 3 1), (94, .goto (-73)), (97, .aload_n 0)]
def qC_X12_cutsRun_1 : List (Nat × Instr) := [(98, .getfield 61), (101, .iload_n 1), (102, .aload_n 0), (103, .getfield 79), (106, .iload_n 1), (107, .iaload), (108, .iastore), (109, .aload_n 0), (110, .getfield 67), (113, .iload_n 1), (114, .aload_n 0), (115, .getfield 67), (118, .iload_n 1), (119, .iaload), (120, .aload_n 0), (121, .getfield 61), (124, .iload_n 1), (125, .iaload), (126, .invokestatic 679), (129, .iastore), (130, .aload_n 0), (131, .iload_n 1), (132, .invokevirtual 673), (135, .aload_n 0), (136, .getfield 82), (139, .iload_n 1), (140, .dup2), (141, .iaload), (142, .iload_n 2), (143, .ifCond .le 7), (146, .iconst 1), (147, .goto 4), (150, .iconst 0), (151, .iadd), (152, .iastore), (153, .aload_n 0), (154, .iload_n 1), (155, .invokevirtual 564), (158, .iconst 0), (159, .istore_n 3), (160, .iload_n 3), (161, .aload_n 0), (162, .getfield 310), (165, .if_icmp .ge 50), (168, .aload_n 0), (169, .getfield 55), (172, .iload_n 3), (173, .aload_n 0), (174, .getfield 55), (177, .iload_n 3), (178, .iaload), (179, .iload_n 1), (180, .if_icmp .ne 22), (183, .aload_n 0), (184, .getfield 58), (187, .iload_n 3), (188, .iaload), (189, .aload_n 0), (190, .getfield 61), (193, .iload_n 1)]
def qC_X12_cutsRun_2 : List (Nat × Instr) := [(194, .iaload), (195, .if_icmp .lt 7), (198, .iconst (-1)), (199, .goto 9), (202, .aload_n 0), (203, .getfield 55), (206, .iload_n 3), (207, .iaload), (208, .iastore), (209, .iinc 3 1), (212, .goto (-52)), (215, .iload_n 2), (216, .ireturn)]
def qM_X12_cutsRun : QM := (yX12_cutsRun, cX12_cutsRun, 4, (some .int), RX12, false, [], qK_X12, qC_X12_cutsRun_0 ++ qC_X12_cutsRun_1 ++ qC_X12_cutsRun_2)
def qC_X12_takeOver_0 : List (Nat × Instr) := [(0, .aload_n 0), (1, .aload_n 0), (2, .getfield 685), (5, .ifCond .eq 7), (8, .iconst 1), (9, .goto 4), (12, .iconst 0), (13, .invokevirtual 324), (16, .ifCond .eq 5), (19, .iconst 0), (20, .ireturn), (21, .aload_n 0), (22, .iconst 1), (23, .putfield 685), (26, .iconst 0), (27, .istore_n 1), (28, .iconst 0), (29, .istore_n 2), (30, .iload_n 2), (31, .aload_n 0), (32, .getfield 310), (35, .if_icmp .ge 30), (38, .iload_n 1), (39, .aload_n 0), (40, .getfield 52), (43, .iload_n 2), (44, .iaload), (45, .ifCond .ne 11), (48, .aload_n 0), (49, .iload_n 2), (50, .invokevirtual 688), (53, .goto 4), (56, .iconst 0), (57, .iadd), (58, .istore_n 1), (59, .iinc 2 1), (62, .goto (-32)), (65, .iconst 0), (66, .istore_n 2), (67, .iload_n 2), (68, .aload_n 0), (69, .getfield 310), (72, .if_icmp .ge 41), (75, .aload_n 0), (76, .getfield 52), (79, .iload_n 2), (80, .iaload), (81, .ifCond .ne 26), (84, .aload_n 0), (85, .getfield 61), (88, .iload_n 2), (89, .iaload), (90, .ifCond .ne 17), (93, .aload_n 0), (94, .getfield 52), (97, .iload_n 2), (98, .iconst 5), (99, .iastore), (100, .aload_n 0), (101, .iload_n 2)]
def qC_X12_takeOver_1 : List (Nat × Instr) := [(102, .iconst 1), (103, .iconst 0), (104, .invokevirtual 635), (107, .iinc 2 1), (110, .goto (-43)), (113, .iconst 0), (114, .istore_n 2), (115, .iload_n 2), (116, .aload_n 0), (117, .getfield 310), (120, .if_icmp .ge 23), (123, .aload_n 0), (124, .getfield 52), (127, .iload_n 2), (128, .iaload), (129, .ifCond .ne 8), (132, .aload_n 0), (133, .iload_n 2), (134, .invokevirtual 676), (137, .iinc 2 1), (140, .goto (-25)), (143, .iload_n 1), (144, .ireturn)]
def qM_X12_takeOver : QM := (yX12_takeOver, cX12_takeOver, 3, (some .int), RX12, false, [], qK_X12, qC_X12_takeOver_0 ++ qC_X12_takeOver_1)
def qC_X12_join_0 : List (Nat × Instr) := [(0, .aload_n 0), (1, .aload_n 0), (2, .getfield 685), (5, .ifCond .eq 7), (8, .iconst 0), (9, .goto 4), (12, .iconst 1), (13, .invokevirtual 324), (16, .ifCond .eq 5), (19, .iconst 0), (20, .ireturn), (21, .aload_n 0), (22, .iconst 0), (23, .putfield 685), (26, .iconst 0), (27, .istore_n 1), (28, .iconst 0), (29, .istore_n 2), (30, .iload_n 2), (31, .aload_n 0), (32, .getfield 682), (35, .if_icmp .ge 50), (38, .aload_n 0), (39, .getfield 52), (42, .aload_n 0), (43, .getfield 232), (46, .iload_n 2), (47, .iaload), (48, .iaload), (49, .ifCond .ne 30), (52, .aload_n 0), (53, .aload_n 0), (54, .getfield 232), (57, .iload_n 2), (58, .iaload), (59, .iconst 4), (60, .aload_n 0), (61, .getfield 235), (64, .iload_n 2), (65, .iaload), (66, .aload_n 0), (67, .getfield 238), (70, .iload_n 2), (71, .iaload), (72, .invokevirtual 360), (75, .pop), (76, .iinc 1 1), (79, .iinc 2 1), (82, .goto (-52)), (85, .aload_n 0), (86, .iconst 0), (87, .putfield 682), (90, .iload_n 1), (91, .ireturn)]
def qM_X12_join : QM := (yX12_join, cX12_join, 3, (some .int), RX12, false, [], qK_X12, qC_X12_join_0)
def qC_X12_isSchedule_0 : List (Nat × Instr) := [(0, .iload_n 1), (1, .iconst 0), (2, .aload_n 0), (3, .getfield 655), (6, .iconst 1), (7, .isub), (8, .invokestatic 306), (11, .ireturn)]
def qM_X12_isSchedule : QM := (yX12_isSchedule, cX12_isSchedule, 2, (some .boolean), RX12, false, [], qK_X12, qC_X12_isSchedule_0)
def qC_X12_schedule_0 : List (Nat × Instr) := [(0, .iload_n 1), (1, .invokestatic 313), (4, .ifCond .eq 14), (7, .iload_n 2), (8, .invokestatic 570), (11, .ifCond .eq 7), (14, .iconst 1), (15, .goto 4), (18, .iconst 0), (19, .istore 5), (21, .iload_n 3), (22, .iconst 1), (23, .bipush 50), (25, .invokestatic 306), (28, .ifCond .eq 17), (31, .iload 4), (33, .iconst 0), (34, .iconst 3), (35, .invokestatic 306), (38, .ifCond .eq 7), (41, .iconst 1), (42, .goto 4), (45, .iconst 0), (46, .istore 6), (48, .aload_n 0), (49, .iload 5), (51, .ifCond .ne 7), (54, .iconst 1), (55, .goto 34), (58, .iload 6), (60, .ifCond .ne 7), (63, .iconst 2), (64, .goto 25), (67, .aload_n 0), (68, .getfield 7), (71, .iload_n 1), (72, .iaload), (73, .ifCond .eq 11), (76, .aload_n 0), (77, .getfield 655), (80, .iconst 4), (81, .if_icmp .ne 7), (84, .iconst 3), (85, .goto 4), (88, .iconst 0), (89, .invokevirtual 324), (92, .ifCond .eq 5), (95, .iconst 0), (96, .ireturn), (97, .aload_n 0), (98, .getfield 198), (101, .aload_n 0), (102, .getfield 655), (105, .iload_n 1), (106, .iastore), (107, .aload_n 0), (108, .getfield 201), (111, .aload_n 0), (112, .getfield 655), (115, .iload_n 2)]
def qC_X12_schedule_1 : List (Nat × Instr) := [(116, .iastore), (117, .aload_n 0), (118, .getfield 204), (121, .aload_n 0), (122, .getfield 655), (125, .iload_n 3), (126, .iastore), (127, .aload_n 0), (128, .getfield 207), (131, .aload_n 0), (132, .getfield 655), (135, .iload 4), (137, .iastore), (138, .aload_n 0), (139, .getfield 210), (142, .aload_n 0), (143, .getfield 655), (146, .aload_n 0), (147, .getfield 357), (150, .aload_n 0), (151, .getfield 691), (154, .iadd), (155, .iastore), (156, .aload_n 0), (157, .dup), (158, .getfield 655), (161, .iconst 1), (162, .iadd), (163, .putfield 655), (166, .aload_n 0), (167, .getfield 655), (170, .iconst 1), (171, .isub), (172, .ireturn)]
def qM_X12_schedule : QM := (yX12_schedule, cX12_schedule, 7, (some .int), RX12, false, [], qK_X12, qC_X12_schedule_0 ++ qC_X12_schedule_1)
def qC_X12_beginsFor_0 : List (Nat × Instr) := [(0, .aload_n 0), (1, .getfield 198), (4, .iload_n 1), (5, .iaload), (6, .istore_n 3), (7, .aload_n 0), (8, .getfield 310), (11, .bipush 30), (13, .if_icmp .ne 7), (16, .iconst (-1)), (17, .goto 25), (20, .aload_n 0), (21, .iload_n 3), (22, .aload_n 0), (23, .getfield 201), (26, .iload_n 1), (27, .iaload), (28, .aload_n 0), (29, .getfield 7), (32, .iload_n 3), (33, .iaload), (34, .iconst 1), (35, .isub), (36, .iload_n 2), (37, .iconst (-1)), (38, .iconst (-1)), (39, .invokevirtual 576), (42, .ireturn)]
def qM_X12_beginsFor : QM := (yX12_beginsFor, cX12_beginsFor, 4, (some .int), RX12, false, [], qK_X12, qC_X12_beginsFor_0)
def qC_X12_isRunning_0 : List (Nat × Instr) := [(0, .aload_n 0), (1, .getfield 216), (4, .iload_n 1), (5, .iaload), (6, .iconst (-1)), (7, .if_icmp .eq 21), (10, .aload_n 0), (11, .getfield 52), (14, .aload_n 0), (15, .getfield 216), (18, .iload_n 1), (19, .iaload), (20, .iaload), (21, .ifCond .ne 7), (24, .iconst 1), (25, .goto 4), (28, .iconst 0), (29, .ireturn)]
def qM_X12_isRunning : QM := (yX12_isRunning, cX12_isRunning, 2, (some .boolean), RX12, false, [], qK_X12, qC_X12_isRunning_0)
def qC_X12_comes_0 : List (Nat × Instr) := [(0, .aload_n 0), (1, .iload_n 1), (2, .iload_n 2), (3, .invokevirtual 694), (6, .istore_n 3), (7, .aload_n 0), (8, .getfield 216), (11, .iload_n 1), (12, .iload_n 3), (13, .iconst (-1)), (14, .if_icmp .ne 12), (17, .aload_n 0), (18, .getfield 216), (21, .iload_n 1), (22, .iaload), (23, .goto 4), (26, .iload_n 3), (27, .iastore), (28, .return_)]
def qM_X12_comes : QM := (yX12_comes, cX12_comes, 4, none, RX12, false, [], qK_X12, qC_X12_comes_0)
def qC_X12_looksAtSchedule_0 : List (Nat × Instr) := [(0, .aload_n 0), (1, .getfield 219), (4, .iload_n 1), (5, .baload), (6, .ifCond .eq 29), (9, .aload_n 0), (10, .iload_n 1), (11, .invokevirtual 697), (14, .ifCond .ne 21), (17, .aload_n 0), (18, .getfield 219), (21, .iload_n 1), (22, .iconst 0), (23, .bastore), (24, .aload_n 0), (25, .iload_n 1), (26, .aload_n 0), (27, .getfield 222), (30, .iload_n 1), (31, .iaload), (32, .invokevirtual 700), (35, .aload_n 0), (36, .getfield 357), (39, .aload_n 0), (40, .getfield 691), (43, .iadd), (44, .istore_n 2), (45, .aload_n 0), (46, .getfield 210), (49, .iload_n 1), (50, .iaload), (51, .iconst 1), (52, .iadd), (53, .istore_n 3), (54, .iload_n 3), (55, .iload_n 2), (56, .if_icmp .gt 38), (59, .iload_n 3), (60, .aload_n 0), (61, .getfield 204), (64, .iload_n 1), (65, .iaload), (66, .irem), (67, .ifCond .ne 21), (70, .aload_n 0), (71, .getfield 213), (74, .iload_n 1), (75, .baload), (76, .ifCond .ne 12), (79, .aload_n 0), (80, .iload_n 1), (81, .iload_n 3), (82, .invokestatic 703), (85, .invokevirtual 706), (88, .iinc 3 1), (91, .goto (-37)), (94, .aload_n 0), (95, .getfield 210), (98, .iload_n 1), (99, .aload_n 0)]
def qC_X12_looksAtSchedule_1 : List (Nat × Instr) := [(100, .getfield 210), (103, .iload_n 1), (104, .iaload), (105, .iload_n 2), (106, .invokestatic 338), (109, .iastore), (110, .return_)]
def qM_X12_looksAtSchedule : QM := (yX12_looksAtSchedule, cX12_looksAtSchedule, 4, none, RX12, false, [], qK_X12, qC_X12_looksAtSchedule_0 ++ qC_X12_looksAtSchedule_1)
def qC_X12_point_0 : List (Nat × Instr) := [(0, .aload_n 0), (1, .iload_n 1), (2, .invokevirtual 697), (5, .ifCond .eq 13), (8, .aload_n 0), (9, .getfield 207), (12, .iload_n 1), (13, .iaload), (14, .iconst 3), (15, .if_icmp .ne 12), (18, .aload_n 0), (19, .iload_n 1), (20, .iload_n 2), (21, .invokevirtual 700), (24, .goto 66), (27, .aload_n 0), (28, .getfield 207), (31, .iload_n 1), (32, .iaload), (33, .iconst 1), (34, .if_icmp .ne 29), (37, .aload_n 0), (38, .getfield 219), (41, .iload_n 1), (42, .baload), (43, .ifCond .ne 20), (46, .aload_n 0), (47, .getfield 219), (50, .iload_n 1), (51, .iconst 1), (52, .bastore), (53, .aload_n 0), (54, .getfield 222), (57, .iload_n 1), (58, .iload_n 2), (59, .iastore), (60, .goto 30), (63, .aload_n 0), (64, .getfield 207), (67, .iload_n 1), (68, .iaload), (69, .iconst 2), (70, .if_icmp .ne 20), (73, .aload_n 0), (74, .aload_n 0), (75, .getfield 216), (78, .iload_n 1), (79, .iaload), (80, .invokevirtual 558), (83, .pop), (84, .aload_n 0), (85, .iload_n 1), (86, .iload_n 2), (87, .invokevirtual 700), (90, .return_)]
def qM_X12_point : QM := (yX12_point, cX12_point, 3, none, RX12, false, [], qK_X12, qC_X12_point_0)
def qC_X12_togglePause_0 : List (Nat × Instr) := [(0, .aload_n 0), (1, .aload_n 0), (2, .iload_n 1), (3, .invokevirtual 709), (6, .ifCond .eq 7), (9, .iconst 0), (10, .goto 4), (13, .iconst 1), (14, .invokevirtual 324), (17, .ifCond .eq 5), (20, .iconst 0), (21, .ireturn), (22, .aload_n 0), (23, .getfield 213), (26, .iload_n 1), (27, .aload_n 0), (28, .getfield 213), (31, .iload_n 1), (32, .baload), (33, .ifCond .ne 7), (36, .iconst 1), (37, .goto 4), (40, .iconst 0), (41, .bastore), (42, .aload_n 0), (43, .getfield 213), (46, .iload_n 1), (47, .baload), (48, .ireturn)]
def qM_X12_togglePause : QM := (yX12_togglePause, cX12_togglePause, 2, (some .boolean), RX12, false, [], qK_X12, qC_X12_togglePause_0)
def qC_X12_backfill_0 : List (Nat × Instr) := [(0, .aload_n 0), (1, .aload_n 0), (2, .iload_n 1), (3, .invokevirtual 709), (6, .ifCond .ne 7), (9, .iconst 1), (10, .goto 17), (13, .iload_n 2), (14, .iconst 1), (15, .iconst 5), (16, .invokestatic 306), (19, .ifCond .eq 7), (22, .iconst 0), (23, .goto 4), (26, .iconst 2), (27, .invokevirtual 324), (30, .ifCond .eq 5), (33, .iconst 0), (34, .ireturn), (35, .aload_n 0), (36, .getfield 210), (39, .iload_n 1), (40, .iaload), (41, .iconst 1), (42, .if_icmp .ge 7), (45, .iconst 0), (46, .goto 16), (49, .aload_n 0), (50, .getfield 210), (53, .iload_n 1), (54, .iaload), (55, .aload_n 0), (56, .getfield 204), (59, .iload_n 1), (60, .iaload), (61, .idiv), (62, .istore_n 3), (63, .iconst 0), (64, .istore 4), (66, .iconst 1), (67, .iload_n 3), (68, .iload_n 2), (69, .isub), (70, .iconst 1), (71, .iadd), (72, .invokestatic 338), (75, .istore 5), (77, .iload 5), (79, .iload_n 3), (80, .if_icmp .gt 40), (83, .iload 4), (85, .aload_n 0), (86, .iload_n 1), (87, .iload 5), (89, .aload_n 0), (90, .getfield 204), (93, .iload_n 1), (94, .iaload), (95, .imul), (96, .invokestatic 703)]
def qC_X12_backfill_1 : List (Nat × Instr) := [(99, .invokevirtual 694), (102, .iconst (-1)), (103, .if_icmp .ne 7), (106, .iconst 0), (107, .goto 4), (110, .iconst 1), (111, .iadd), (112, .istore 4), (114, .iinc 5 1), (117, .goto (-40)), (120, .iload 4), (122, .ireturn)]
def qM_X12_backfill : QM := (yX12_backfill, cX12_backfill, 6, (some .int), RX12, false, [], qK_X12, qC_X12_backfill_0 ++ qC_X12_backfill_1)
def qC_X12_shift_0 : List (Nat × Instr) := [(0, .aload_n 0), (1, .iload_n 1), (2, .bipush (-20)), (4, .bipush 20), (6, .invokestatic 306), (9, .ifCond .eq 7), (12, .iconst 0), (13, .goto 4), (16, .iconst 1), (17, .invokevirtual 324), (20, .ifCond .eq 5), (23, .iconst 0), (24, .ireturn), (25, .aload_n 0), (26, .dup), (27, .getfield 691), (30, .iload_n 1), (31, .iadd), (32, .putfield 691), (35, .aload_n 0), (36, .getfield 357), (39, .aload_n 0), (40, .getfield 691), (43, .iadd), (44, .ireturn)]
def qM_X12_shift : QM := (yX12_shift, cX12_shift, 2, (some .int), RX12, false, [], qK_X12, qC_X12_shift_0)
def qC_X12_bringIn_0 : List (Nat × Instr) := [(0, .aload_n 0), (1, .iload_n 1), (2, .iconst 1), (3, .bipush 100), (5, .invokestatic 306), (8, .ifCond .eq 7), (11, .iconst 0), (12, .goto 4), (15, .iconst 1), (16, .invokevirtual 324), (19, .ifCond .eq 5), (22, .iconst 0), (23, .ireturn), (24, .iconst 0), (25, .istore_n 2), (26, .iload_n 2), (27, .iload_n 1), (28, .if_icmp .ge 61), (31, .aload_n 0), (32, .getfield 712), (35, .aload_n 0), (36, .getfield 632), (39, .if_icmp .ge 50), (42, .aload_n 0), (43, .getfield 229), (46, .aload_n 0), (47, .getfield 226), (50, .aload_n 0), (51, .getfield 712), (54, .iaload), (55, .sipush 1000), (58, .idiv), (59, .aload_n 0), (60, .getfield 226), (63, .aload_n 0), (64, .getfield 712), (67, .iaload), (68, .sipush 1000), (71, .irem), (72, .iastore), (73, .aload_n 0), (74, .dup), (75, .getfield 712), (78, .iconst 1), (79, .iadd), (80, .putfield 712), (83, .iinc 2 1), (86, .goto (-60)), (89, .aload_n 0), (90, .getfield 632), (93, .aload_n 0), (94, .getfield 712), (97, .isub), (98, .ireturn)]
def qM_X12_bringIn : QM := (yX12_bringIn, cX12_bringIn, 3, (some .int), RX12, false, [], qK_X12, qC_X12_bringIn_0)
def qC_X12_search_0 : List (Nat × Instr) := [(0, .aload_n 0), (1, .iload_n 1), (2, .invokestatic 573), (5, .ifCond .eq 7), (8, .iconst 0), (9, .goto 4), (12, .iconst 1), (13, .invokevirtual 324), (16, .ifCond .eq 5), (19, .iconst 0), (20, .ireturn), (21, .iconst 0), (22, .istore_n 2), (23, .iconst 0), (24, .istore_n 3), (25, .iload_n 3), (26, .aload_n 0), (27, .getfield 310), (30, .if_icmp .ge 29), (33, .iload_n 2), (34, .aload_n 0), (35, .getfield 229), (38, .iload_n 3), (39, .iaload), (40, .iload_n 1), (41, .if_icmp .ne 9), (44, .iconst 1), (45, .iload_n 3), (46, .ishl), (47, .goto 4), (50, .iconst 0), (51, .ior), (52, .istore_n 2), (53, .iinc 3 1), (56, .goto (-31)), (59, .iload_n 2), (60, .ireturn)]
def qM_X12_search : QM := (yX12_search, cX12_search, 4, (some .int), RX12, false, [], qK_X12, qC_X12_search_0)
def qC_J9_floorMod_7cf53_0 : List (Nat × Instr) := [(0, .iload_n 0), (1, .iload_n 1), (2, .irem), (3, .istore_n 2), (4, .iload_n 0), (5, .iload_n 1), (6, .ixor), (7, .ifCond .ge 11), (10, .iload_n 2), (11, .ifCond .eq 7), (14, .iload_n 2), (15, .iload_n 1), (16, .iadd), (17, .ireturn), (18, .iload_n 2), (19, .ireturn)]
def qM_J9_floorMod_7cf53 : QM := (yJ9_floorMod_7cf53, cJ9_floorMod_7cf53, 3, (some .int), RJ9, false, [], qK_J9, qC_J9_floorMod_7cf53_0)
def qC_J9_max_7cf53_0 : List (Nat × Instr) := [(0, .iload_n 0), (1, .iload_n 1), (2, .if_icmp .lt 7), (5, .iload_n 0), (6, .goto 4), (9, .iload_n 1), (10, .ireturn)]
def qM_J9_max_7cf53 : QM := (yJ9_max_7cf53, cJ9_max_7cf53, 2, (some .int), RJ9, false, [], qK_J9, qC_J9_max_7cf53_0)
def qC_J9_min_7cf53_0 : List (Nat × Instr) := [(0, .iload_n 0), (1, .iload_n 1), (2, .if_icmp .gt 7), (5, .iload_n 0), (6, .goto 4), (9, .iload_n 1), (10, .ireturn)]
def qM_J9_min_7cf53 : QM := (yJ9_min_7cf53, cJ9_min_7cf53, 2, (some .int), RJ9, false, [], qK_J9, qC_J9_min_7cf53_0)
def qC_Jxa1e45_init_da8c8_0 : List (Nat × Instr) := [(0, .aload_n 0), (1, .invokespecial 1), (4, .return_)]
def qM_Jxa1e45_init_da8c8 : QM := (yJxa1e45_init_da8c8, cJxa1e45_init_da8c8, 1, none, RJxa1e45, true, [], qK_Jxa1e45, qC_Jxa1e45_init_da8c8_0)
def qC_Jxc12de_init_da8c8_0 : List (Nat × Instr) := [(0, .aload_n 0), (1, .invokespecial 1), (4, .aload_n 0), (5, .iconst 0), (6, .putfield 7), (9, .return_)]
def qM_Jxc12de_init_da8c8 : QM := (yJxc12de_init_da8c8, cJxc12de_init_da8c8, 1, none, RJxc12de, true, [], qK_Jxc12de, qC_Jxc12de_init_da8c8_0)
def qC_Jx4a65c_init_da8c8_0 : List (Nat × Instr) := [(0, .aload_n 0), (1, .invokespecial 1), (4, .aload_n 0), (5, .getstatic 39), (8, .putfield 9), (11, .return_)]
def qM_Jx4a65c_init_da8c8 : QM := (yJx4a65c_init_da8c8, cJx4a65c_init_da8c8, 1, none, RJx4a65c, true, [], qK_Jx4a65c, qC_Jx4a65c_init_da8c8_0)
def qC_Jx4a65c_grow_92f84_0 : List (Nat × Instr) := [(0, .aload_n 0), (1, .getfield 9), (4, .arraylength), (5, .istore_n 2), (6, .iload_n 2), (7, .ifCond .gt 13), (10, .aload_n 0), (11, .getfield 9), (14, .getstatic 39), (17, .if_acmp .eq 28), (20, .iload_n 2), (21, .iload_n 1), (22, .iload_n 2), (23, .isub), (24, .iload_n 2), (25, .iconst 1), (26, .ishr), (27, .invokestatic 73), (30, .istore_n 3), (31, .aload_n 0), (32, .aload_n 0), (33, .getfield 9), (36, .iload_n 3), (37, .invokestatic 66), (40, .dup_x1), (41, .putfield 9), (44, .areturn), (45, .aload_n 0), (46, .bipush 10), (48, .iload_n 1), (49, .invokestatic 79), (52, .anewarray 7), (55, .dup_x1), (56, .putfield 9), (59, .areturn)]
def qM_Jx4a65c_grow_92f84 : QM := (yJx4a65c_grow_92f84, cJx4a65c_grow_92f84, 4, (some (.array (.object "java/lang/Object"))), RJx4a65c, false, [], qK_Jx4a65c, qC_Jx4a65c_grow_92f84_0)
def qC_Jx4a65c_grow_d5877_0 : List (Nat × Instr) := [(0, .aload_n 0), (1, .aload_n 0), (2, .getfield 48), (5, .iconst 1), (6, .iadd), (7, .invokevirtual 69), (10, .areturn)]
def qM_Jx4a65c_grow_d5877 : QM := (yJx4a65c_grow_d5877, cJx4a65c_grow_d5877, 1, (some (.array (.object "java/lang/Object"))), RJx4a65c, false, [], qK_Jx4a65c, qC_Jx4a65c_grow_d5877_0)
def qC_Jx4a65c_size_8abf5_0 : List (Nat × Instr) := [(0, .aload_n 0), (1, .getfield 48), (4, .ireturn)]
def qM_Jx4a65c_size_8abf5 : QM := (yJx4a65c_size_8abf5, cJx4a65c_size_8abf5, 1, (some .int), RJx4a65c, false, [], qK_Jx4a65c, qC_Jx4a65c_size_8abf5_0)
def qC_Jx4a65c_isEmpty_aae02_0 : List (Nat × Instr) := [(0, .aload_n 0), (1, .getfield 48), (4, .ifCond .ne 7), (7, .iconst 1), (8, .goto 4), (11, .iconst 0), (12, .ireturn)]
def qM_Jx4a65c_isEmpty_aae02 : QM := (yJx4a65c_isEmpty_aae02, cJx4a65c_isEmpty_aae02, 1, (some .boolean), RJx4a65c, false, [], qK_Jx4a65c, qC_Jx4a65c_isEmpty_aae02_0)
def qC_Jx4a65c_elementData_915e3_0 : List (Nat × Instr) := [(0, .aload_n 0), (1, .getfield 9), (4, .iload_n 1), (5, .aaload), (6, .areturn)]
def qM_Jx4a65c_elementData_915e3 : QM := (yJx4a65c_elementData_915e3, cJx4a65c_elementData_915e3, 2, (some (.object "java/lang/Object")), RJx4a65c, false, [], qK_Jx4a65c, qC_Jx4a65c_elementData_915e3_0)
def qC_Jx4a65c_get_915e3_0 : List (Nat × Instr) := [(0, .iload_n 1), (1, .aload_n 0), (2, .getfield 48), (5, .invokestatic 118), (8, .pop), (9, .aload_n 0), (10, .iload_n 1), (11, .invokevirtual 123), (14, .areturn)]
def qM_Jx4a65c_get_915e3 : QM := (yJx4a65c_get_915e3, cJx4a65c_get_915e3, 2, (some (.object "java/lang/Object")), RJx4a65c, false, [], qK_Jx4a65c, qC_Jx4a65c_get_915e3_0)
def qC_Jx4a65c_add_72be8_0 : List (Nat × Instr) := [(0, .iload_n 3), (1, .aload_n 2), (2, .arraylength), (3, .if_icmp .ne 8), (6, .aload_n 0), (7, .invokevirtual 129), (10, .astore_n 2), (11, .aload_n 2), (12, .iload_n 3), (13, .aload_n 1), (14, .aastore), (15, .aload_n 0), (16, .iload_n 3), (17, .iconst 1), (18, .iadd), (19, .putfield 48), (22, .return_)]
def qM_Jx4a65c_add_72be8 : QM := (yJx4a65c_add_72be8, cJx4a65c_add_72be8, 4, none, RJx4a65c, false, [], qK_Jx4a65c, qC_Jx4a65c_add_72be8_0)
def qC_Jx4a65c_add_9ea2d_0 : List (Nat × Instr) := [(0, .aload_n 0), (1, .dup), (2, .getfield 63), (5, .iconst 1), (6, .iadd), (7, .putfield 63), (10, .aload_n 0), (11, .aload_n 1), (12, .aload_n 0), (13, .getfield 9), (16, .aload_n 0), (17, .getfield 48), (20, .invokevirtual 131), (23, .iconst 1), (24, .ireturn)]
def qM_Jx4a65c_add_9ea2d : QM := (yJx4a65c_add_9ea2d, cJx4a65c_add_9ea2d, 2, (some .boolean), RJx4a65c, false, [], qK_Jx4a65c, qC_Jx4a65c_add_9ea2d_0)
def qC_J7_fill_53178_0 : List (Nat × Instr) := [(0, .iconst 0), (1, .istore_n 2), (2, .aload_n 0), (3, .arraylength), (4, .istore_n 3), (5, .iload_n 2), (6, .iload_n 3), (7, .if_icmp .ge 13), (10, .aload_n 0), (11, .iload_n 2), (12, .iload_n 1), (13, .iastore), (14, .iinc 2 1), (17, .goto (-12)), (20, .return_)]
def qM_J7_fill_53178 : QM := (yJ7_fill_53178, cJ7_fill_53178, 4, none, RJ7, false, [], qK_J7, qC_J7_fill_53178_0)
def qC_J7_copyOf_1904c_0 : List (Nat × Instr) := [(0, .aload_n 0), (1, .iload_n 1), (2, .aload_n 0), (3, .invokevirtual 86), (6, .invokestatic 300), (9, .areturn)]
def qM_J7_copyOf_1904c : QM := (yJ7_copyOf_1904c, cJ7_copyOf_1904c, 2, (some (.array (.object "java/lang/Object"))), RJ7, false, [], qK_J7, qC_J7_copyOf_1904c_0)
def qC_J7_copyOf_6403c_0 : List (Nat × Instr) := [(0, .aload_n 2), (1, .ldc 110), (3, .if_acmp .ne 10), (6, .iload_n 1), (7, .anewarray 2), (10, .goto 14), (13, .aload_n 2), (14, .invokevirtual 90), (17, .iload_n 1), (18, .invokestatic 95), (21, .checkcast 110), (24, .astore_n 3), (25, .aload_n 0), (26, .iconst 0), (27, .aload_n 3), (28, .iconst 0), (29, .aload_n 0), (30, .arraylength), (31, .iload_n 1), (32, .invokestatic 304), (35, .invokestatic 150), (38, .aload_n 3), (39, .areturn)]
def qM_J7_copyOf_6403c : QM := (yJ7_copyOf_6403c, cJ7_copyOf_6403c, 4, (some (.array (.object "java/lang/Object"))), RJ7, false, [], qK_J7, qC_J7_copyOf_6403c_0)
def qC_J7_copyOf_c38d5_0 : List (Nat × Instr) := [(0, .iload_n 1), (1, .aload_n 0), (2, .arraylength), (3, .if_icmp .ne 11), (6, .aload_n 0), (7, .invokevirtual 319), (10, .checkcast 320), (13, .areturn), (14, .iload_n 1), (15, .newarray .long), (17, .astore_n 2), (18, .aload_n 0), (19, .iconst 0), (20, .aload_n 2), (21, .iconst 0), (22, .aload_n 0), (23, .arraylength), (24, .iload_n 1), (25, .invokestatic 304), (28, .invokestatic 150), (31, .aload_n 2), (32, .areturn)]
def qM_J7_copyOf_c38d5 : QM := (yJ7_copyOf_c38d5, cJ7_copyOf_c38d5, 3, (some (.array .long)), RJ7, false, [], qK_J7, qC_J7_copyOf_c38d5_0)
def qC_J15_checkIndex_7cf53_0 : List (Nat × Instr) := [(0, .iload_n 0), (1, .iload_n 1), (2, .aconst_null), (3, .invokestatic 105), (6, .ireturn)]
def qM_J15_checkIndex_7cf53 : QM := (yJ15_checkIndex_7cf53, cJ15_checkIndex_7cf53, 2, (some .int), RJ15, false, [], qK_J15, qC_J15_checkIndex_7cf53_0)
def qC_J8_newLength_cabcc_0 : List (Nat × Instr) := [(0, .iload_n 0), (1, .iload_n 1), (2, .iload_n 2), (3, .invokestatic 194), (6, .iadd), (7, .istore_n 3), (8, .iconst 0), (9, .iload_n 3), (10, .if_icmp .ge 11), (13, .iload_n 3), (14, .ldc 200), (16, .if_icmp .gt 5), (19, .iload_n 3), (20, .ireturn), (21, .iload_n 0), (22, .iload_n 1), (23, .invokestatic 201), (26, .ireturn)]
def qM_J8_newLength_cabcc : QM := (yJ8_newLength_cabcc, cJ8_newLength_cabcc, 4, (some .int), RJ8, false, [], qK_J8, qC_J8_newLength_cabcc_0)
def qC_J8_hugeLength_7cf53_0 : List (Nat × Instr) := [(0, .iload_n 0), (1, .iload_n 1), (2, .iadd), (3, .istore_n 2), (4, .iload_n 2), (5, .ifCond .ge 44), (8, .new 204), (11, .dup), (12, .new 89), (15, .dup), (16, .invokespecial 91), (19, .ldc 206), (21, .invokevirtual 94), (24, .iload_n 0), (25, .invokevirtual 98), (28, .ldc 208), (30, .invokevirtual 94), (33, .iload_n 1), (34, .invokevirtual 98), (37, .ldc 210), (39, .invokevirtual 94), (42, .invokevirtual 101), (45, .invokespecial 212), (48, .athrow), (49, .iload_n 2), (50, .ldc 200), (52, .if_icmp .gt 6), (55, .ldc 200), (57, .ireturn), (58, .iload_n 2), (59, .ireturn)]
def qM_J8_hugeLength_7cf53 : QM := (yJ8_hugeLength_7cf53, cJ8_hugeLength_7cf53, 3, (some .int), RJ8, false, [], qK_J8, qC_J8_hugeLength_7cf53_0)
def qC_J3_checkIndex_8e157_0 : List (Nat × Instr) := [(0, .iload_n 0), (1, .ifCond .lt 8), (4, .iload_n 0), (5, .iload_n 1), (6, .if_icmp .lt 10), (9, .aload_n 2), (10, .iload_n 0), (11, .iload_n 1), (12, .invokestatic 95), (15, .athrow), (16, .iload_n 0), (17, .ireturn)]
def qM_J3_checkIndex_8e157 : QM := (yJ3_checkIndex_8e157, cJ3_checkIndex_8e157, 3, (some .int), RJ3, false, [], qK_J3, qC_J3_checkIndex_8e157_0)
def qC_L_line_0 : List (Nat × Instr) := [(0, .aload 5), (2, .iconst 0), (3, .aload_n 0), (4, .iload_n 1), (5, .iload_n 2), (6, .iload_n 3), (7, .iload 4), (9, .invokevirtual 7), (12, .i2l), (13, .lastore), (14, .goto 15), (17, .astore 6), (19, .iconst 1), (20, .ireturn), (21, .astore 6), (23, .iconst 2), (24, .ireturn), (25, .astore 6), (27, .iconst 3), (28, .ireturn), (29, .iconst 0), (30, .ireturn)]
def qM_L_line : QM := (yL_line, cL_line, 7, (some .int), RL, false, [(0, 14, 17, 13), (0, 14, 21, 15), (0, 14, 25, 17)], qK_L, qC_L_line_0)
def qC_L_deploy_0 : List (Nat × Instr) := [(0, .aload_n 2), (1, .iconst 0), (2, .aload_n 0), (3, .iload_n 1), (4, .invokevirtual 19), (7, .i2l), (8, .lastore), (9, .goto 9), (12, .astore_n 3), (13, .iconst 1), (14, .ireturn), (15, .astore_n 3), (16, .iconst 2), (17, .ireturn), (18, .iconst 0), (19, .ireturn)]
def qM_L_deploy : QM := (yL_deploy, cL_deploy, 4, (some .int), RL, false, [(0, 9, 12, 13), (0, 9, 15, 17)], qK_L, qC_L_deploy_0)
def qC_L_setKind_0 : List (Nat × Instr) := [(0, .aload_n 0), (1, .iload_n 1), (2, .iload_n 2), (3, .iload_n 3), (4, .iload 4), (6, .iload 5), (8, .iload 6), (10, .invokevirtual 23), (13, .goto 11), (16, .astore 7), (18, .iconst 1), (19, .ireturn), (20, .astore 7), (22, .iconst 2), (23, .ireturn), (24, .iconst 0), (25, .ireturn)]
def qM_L_setKind : QM := (yL_setKind, cL_setKind, 8, (some .int), RL, false, [(0, 13, 16, 13), (0, 13, 20, 15)], qK_L, qC_L_setKind_0)
def qC_L_setPolicy_0 : List (Nat × Instr) := [(0, .aload_n 3), (1, .iconst 0), (2, .aload_n 0), (3, .iload_n 1), (4, .iload_n 2), (5, .invokevirtual 27), (8, .i2l), (9, .lastore), (10, .goto 11), (13, .astore 4), (15, .iconst 1), (16, .ireturn), (17, .astore 4), (19, .iconst 2), (20, .ireturn), (21, .iconst 0), (22, .ireturn)]
def qM_L_setPolicy : QM := (yL_setPolicy, cL_setPolicy, 5, (some .int), RL, false, [(0, 10, 13, 13), (0, 10, 17, 15)], qK_L, qC_L_setPolicy_0)
def qC_L_begin_0 : List (Nat × Instr) := [(0, .aload 4), (2, .iconst 0), (3, .aload_n 0), (4, .iload_n 1), (5, .iload_n 2), (6, .iload_n 3), (7, .invokevirtual 31), (10, .i2l), (11, .lastore), (12, .goto 15), (15, .astore 5), (17, .iconst 1), (18, .ireturn), (19, .astore 5), (21, .iconst 2), (22, .ireturn), (23, .astore 5), (25, .iconst 3), (26, .ireturn), (27, .iconst 0), (28, .ireturn)]
def qM_L_begin : QM := (yL_begin, cL_begin, 6, (some .int), RL, false, [(0, 12, 15, 13), (0, 12, 19, 15), (0, 12, 23, 17)], qK_L, qC_L_begin_0)
def qC_L_signal_0 : List (Nat × Instr) := [(0, .aload 4), (2, .iconst 0), (3, .aload_n 0), (4, .iload_n 1), (5, .iload_n 2), (6, .iload_n 3), (7, .invokevirtual 35), (10, .i2l), (11, .lastore), (12, .goto 15), (15, .astore 5), (17, .iconst 1), (18, .ireturn), (19, .astore 5), (21, .iconst 2), (22, .ireturn), (23, .astore 5), (25, .iconst 3), (26, .ireturn), (27, .iconst 0), (28, .ireturn)]
def qM_L_signal : QM := (yL_signal, cL_signal, 6, (some .int), RL, false, [(0, 12, 15, 13), (0, 12, 19, 15), (0, 12, 23, 17)], qK_L, qC_L_signal_0)
def qC_L_update_0 : List (Nat × Instr) := [(0, .aload 4), (2, .iconst 0), (3, .aload_n 0), (4, .iload_n 1), (5, .iload_n 2), (6, .iload_n 3), (7, .invokevirtual 38), (10, .ifCond .eq 7), (13, .lconst 1), (14, .goto 4), (17, .lconst 0), (18, .lastore), (19, .goto 15), (22, .astore 5), (24, .iconst 1), (25, .ireturn), (26, .astore 5), (28, .iconst 2), (29, .ireturn), (30, .astore 5), (32, .iconst 3), (33, .ireturn), (34, .iconst 0), (35, .ireturn)]
def qM_L_update : QM := (yL_update, cL_update, 6, (some .int), RL, false, [(0, 19, 22, 13), (0, 19, 26, 15), (0, 19, 30, 17)], qK_L, qC_L_update_0)
def qC_L_cancel_0 : List (Nat × Instr) := [(0, .aload_n 2), (1, .iconst 0), (2, .aload_n 0), (3, .iload_n 1), (4, .invokevirtual 42), (7, .ifCond .eq 7), (10, .lconst 1), (11, .goto 4), (14, .lconst 0), (15, .lastore), (16, .goto 9), (19, .astore_n 3), (20, .iconst 1), (21, .ireturn), (22, .astore_n 3), (23, .iconst 2), (24, .ireturn), (25, .iconst 0), (26, .ireturn)]
def qM_L_cancel : QM := (yL_cancel, cL_cancel, 4, (some .int), RL, false, [(0, 16, 19, 13), (0, 16, 22, 17)], qK_L, qC_L_cancel_0)
def qC_L_query_0 : List (Nat × Instr) := [(0, .aload_n 3), (1, .iconst 0), (2, .aload_n 0), (3, .iload_n 1), (4, .iload_n 2), (5, .invokevirtual 46), (8, .i2l), (9, .lastore), (10, .goto 11), (13, .astore 4), (15, .iconst 1), (16, .ireturn), (17, .astore 4), (19, .iconst 2), (20, .ireturn), (21, .iconst 0), (22, .ireturn)]
def qM_L_query : QM := (yL_query, cL_query, 5, (some .int), RL, false, [(0, 10, 13, 13), (0, 10, 17, 17)], qK_L, qC_L_query_0)
def qC_L_plain_0 : List (Nat × Instr) := [(0, .aload_n 3), (1, .iconst 0), (2, .aload_n 0), (3, .iload_n 1), (4, .iload_n 2), (5, .invokevirtual 49), (8, .i2l), (9, .lastore), (10, .goto 11), (13, .astore 4), (15, .iconst 1), (16, .ireturn), (17, .astore 4), (19, .iconst 2), (20, .ireturn), (21, .iconst 0), (22, .ireturn)]
def qM_L_plain : QM := (yL_plain, cL_plain, 5, (some .int), RL, false, [(0, 10, 13, 13), (0, 10, 17, 17)], qK_L, qC_L_plain_0)
def qC_L_standing_0 : List (Nat × Instr) := [(0, .aload_n 2), (1, .iconst 0), (2, .aload_n 0), (3, .iload_n 1), (4, .invokevirtual 52), (7, .i2l), (8, .lastore), (9, .goto 6), (12, .astore_n 3), (13, .iconst 1), (14, .ireturn), (15, .iconst 0), (16, .ireturn)]
def qM_L_standing : QM := (yL_standing, cL_standing, 4, (some .int), RL, false, [(0, 9, 12, 13)], qK_L, qC_L_standing_0)
def qC_L_event_0 : List (Nat × Instr) := [(0, .aload_n 3), (1, .iconst 0), (2, .aload_n 0), (3, .iload_n 1), (4, .iload_n 2), (5, .invokevirtual 55), (8, .i2l), (9, .lastore), (10, .goto 7), (13, .astore 4), (15, .iconst 1), (16, .ireturn), (17, .iconst 0), (18, .ireturn)]
def qM_L_event : QM := (yL_event, cL_event, 5, (some .int), RL, false, [(0, 10, 13, 13)], qK_L, qC_L_event_0)
def qC_L_difference_0 : List (Nat × Instr) := [(0, .aload_n 2), (1, .iconst 0), (2, .aload_n 0), (3, .iload_n 1), (4, .invokevirtual 58), (7, .i2l), (8, .lastore), (9, .goto 9), (12, .astore_n 3), (13, .iconst 1), (14, .ireturn), (15, .astore_n 3), (16, .iconst 2), (17, .ireturn), (18, .iconst 0), (19, .ireturn)]
def qM_L_difference : QM := (yL_difference, cL_difference, 4, (some .int), RL, false, [(0, 9, 12, 13), (0, 9, 15, 17)], qK_L, qC_L_difference_0)
def qC_L_setRate_0 : List (Nat × Instr) := [(0, .aload_n 2), (1, .iconst 0), (2, .aload_n 0), (3, .iload_n 1), (4, .invokevirtual 61), (7, .i2l), (8, .lastore), (9, .goto 6), (12, .astore_n 3), (13, .iconst 1), (14, .ireturn), (15, .iconst 0), (16, .ireturn)]
def qM_L_setRate : QM := (yL_setRate, cL_setRate, 4, (some .int), RL, false, [(0, 9, 12, 15)], qK_L, qC_L_setRate_0)
def qC_L_poll_0 : List (Nat × Instr) := [(0, .aload_n 2), (1, .iconst 0), (2, .aload_n 0), (3, .iload_n 1), (4, .invokevirtual 64), (7, .i2l), (8, .lastore), (9, .goto 6), (12, .astore_n 3), (13, .iconst 1), (14, .ireturn), (15, .iconst 0), (16, .ireturn)]
def qM_L_poll : QM := (yL_poll, cL_poll, 4, (some .int), RL, false, [(0, 9, 12, 13)], qK_L, qC_L_poll_0)
def qC_L_complete_0 : List (Nat × Instr) := [(0, .aload_n 2), (1, .iconst 0), (2, .aload_n 0), (3, .iload_n 1), (4, .invokevirtual 67), (7, .i2l), (8, .lastore), (9, .goto 6), (12, .astore_n 3), (13, .iconst 1), (14, .ireturn), (15, .iconst 0), (16, .ireturn)]
def qM_L_complete : QM := (yL_complete, cL_complete, 4, (some .int), RL, false, [(0, 9, 12, 13)], qK_L, qC_L_complete_0)
def qC_L_die_0 : List (Nat × Instr) := [(0, .aload_n 2), (1, .iconst 0), (2, .aload_n 0), (3, .iload_n 1), (4, .invokevirtual 70), (7, .i2l), (8, .lastore), (9, .goto 6), (12, .astore_n 3), (13, .iconst 1), (14, .ireturn), (15, .iconst 0), (16, .ireturn)]
def qM_L_die : QM := (yL_die, cL_die, 4, (some .int), RL, false, [(0, 9, 12, 13)], qK_L, qC_L_die_0)
def qC_L_replays_0 : List (Nat × Instr) := [(0, .aload_n 2), (1, .iconst 0), (2, .aload_n 0), (3, .iload_n 1), (4, .invokevirtual 73), (7, .i2l), (8, .lastore), (9, .goto 6), (12, .astore_n 3), (13, .iconst 1), (14, .ireturn), (15, .iconst 0), (16, .ireturn)]
def qM_L_replays : QM := (yL_replays, cL_replays, 4, (some .int), RL, false, [(0, 9, 12, 13)], qK_L, qC_L_replays_0)
def qC_L_take_0 : List (Nat × Instr) := [(0, .aload_n 2), (1, .iconst 0), (2, .aload_n 0), (3, .iload_n 1), (4, .invokevirtual 76), (7, .i2l), (8, .lastore), (9, .goto 6), (12, .astore_n 3), (13, .iconst 1), (14, .ireturn), (15, .iconst 0), (16, .ireturn)]
def qM_L_take : QM := (yL_take, cL_take, 4, (some .int), RL, false, [(0, 9, 12, 13)], qK_L, qC_L_take_0)
def qC_L_answer_0 : List (Nat × Instr) := [(0, .aload_n 3), (1, .iconst 0), (2, .aload_n 0), (3, .iload_n 1), (4, .iload_n 2), (5, .invokevirtual 79), (8, .ifCond .eq 7), (11, .lconst 1), (12, .goto 4), (15, .lconst 0), (16, .lastore), (17, .goto 11), (20, .astore 4), (22, .iconst 1), (23, .ireturn), (24, .astore 4), (26, .iconst 2), (27, .ireturn), (28, .iconst 0), (29, .ireturn)]
def qM_L_answer : QM := (yL_answer, cL_answer, 5, (some .int), RL, false, [(0, 17, 20, 13), (0, 17, 24, 15)], qK_L, qC_L_answer_0)
def qC_L_fail_0 : List (Nat × Instr) := [(0, .aload_n 3), (1, .iconst 0), (2, .aload_n 0), (3, .iload_n 1), (4, .iload_n 2), (5, .invokevirtual 83), (8, .ifCond .eq 7), (11, .lconst 1), (12, .goto 4), (15, .lconst 0), (16, .lastore), (17, .goto 7), (20, .astore 4), (22, .iconst 1), (23, .ireturn), (24, .iconst 0), (25, .ireturn)]
def qM_L_fail : QM := (yL_fail, cL_fail, 5, (some .int), RL, false, [(0, 17, 20, 13)], qK_L, qC_L_fail_0)
def qC_L_beat_0 : List (Nat × Instr) := [(0, .aload_n 3), (1, .iconst 0), (2, .aload_n 0), (3, .iload_n 1), (4, .iload_n 2), (5, .invokevirtual 87), (8, .i2l), (9, .lastore), (10, .goto 11), (13, .astore 4), (15, .iconst 1), (16, .ireturn), (17, .astore 4), (19, .iconst 2), (20, .ireturn), (21, .iconst 0), (22, .ireturn)]
def qM_L_beat : QM := (yL_beat, cL_beat, 5, (some .int), RL, false, [(0, 10, 13, 13), (0, 10, 17, 15)], qK_L, qC_L_beat_0)
def qC_L_activity_0 : List (Nat × Instr) := [(0, .aload_n 2), (1, .iconst 0), (2, .aload_n 0), (3, .iload_n 1), (4, .invokevirtual 90), (7, .i2l), (8, .lastore), (9, .goto 6), (12, .astore_n 3), (13, .iconst 1), (14, .ireturn), (15, .iconst 0), (16, .ireturn)]
def qM_L_activity : QM := (yL_activity, cL_activity, 4, (some .int), RL, false, [(0, 9, 12, 13)], qK_L, qC_L_activity_0)
def qC_L_pass_0 : List (Nat × Instr) := [(0, .aload_n 2), (1, .iconst 0), (2, .aload_n 0), (3, .iload_n 1), (4, .invokevirtual 93), (7, .i2l), (8, .lastore), (9, .goto 6), (12, .astore_n 3), (13, .iconst 1), (14, .ireturn), (15, .iconst 0), (16, .ireturn)]
def qM_L_pass : QM := (yL_pass, cL_pass, 4, (some .int), RL, false, [(0, 9, 12, 15)], qK_L, qC_L_pass_0)
def qC_L_unsafe_0 : List (Nat × Instr) := [(0, .aload_n 3), (1, .iconst 0), (2, .aload_n 0), (3, .iload_n 1), (4, .iload_n 2), (5, .invokevirtual 96), (8, .i2l), (9, .lastore), (10, .goto 7), (13, .astore 4), (15, .iconst 1), (16, .ireturn), (17, .iconst 0), (18, .ireturn)]
def qM_L_unsafe : QM := (yL_unsafe, cL_unsafe, 5, (some .int), RL, false, [(0, 10, 13, 13)], qK_L, qC_L_unsafe_0)
def qC_L_move_0 : List (Nat × Instr) := [(0, .aload_n 3), (1, .iconst 0), (2, .aload_n 0), (3, .iload_n 1), (4, .iload_n 2), (5, .invokevirtual 99), (8, .ifCond .eq 7), (11, .lconst 1), (12, .goto 4), (15, .lconst 0), (16, .lastore), (17, .goto 11), (20, .astore 4), (22, .iconst 1), (23, .ireturn), (24, .astore 4), (26, .iconst 2), (27, .ireturn), (28, .iconst 0), (29, .ireturn)]
def qM_L_move : QM := (yL_move, cL_move, 5, (some .int), RL, false, [(0, 17, 20, 13), (0, 17, 24, 17)], qK_L, qC_L_move_0)
def qC_L_setBack_0 : List (Nat × Instr) := [(0, .aload_n 3), (1, .iconst 0), (2, .aload_n 0), (3, .iload_n 1), (4, .iload_n 2), (5, .invokevirtual 102), (8, .i2l), (9, .lastore), (10, .goto 11), (13, .astore 4), (15, .iconst 1), (16, .ireturn), (17, .astore 4), (19, .iconst 2), (20, .ireturn), (21, .iconst 0), (22, .ireturn)]
def qM_L_setBack : QM := (yL_setBack, cL_setBack, 5, (some .int), RL, false, [(0, 10, 13, 13), (0, 10, 17, 17)], qK_L, qC_L_setBack_0)
def qC_L_copy_0 : List (Nat × Instr) := [(0, .aload_n 3), (1, .iconst 0), (2, .aload_n 0), (3, .iload_n 1), (4, .iload_n 2), (5, .invokevirtual 105), (8, .i2l), (9, .lastore), (10, .goto 11), (13, .astore 4), (15, .iconst 1), (16, .ireturn), (17, .astore 4), (19, .iconst 2), (20, .ireturn), (21, .iconst 0), (22, .ireturn)]
def qM_L_copy : QM := (yL_copy, cL_copy, 5, (some .int), RL, false, [(0, 10, 13, 13), (0, 10, 17, 15)], qK_L, qC_L_copy_0)
def qC_L_takeOver_0 : List (Nat × Instr) := [(0, .aload_n 1), (1, .iconst 0), (2, .aload_n 0), (3, .invokevirtual 108), (6, .i2l), (7, .lastore), (8, .goto 6), (11, .astore_n 2), (12, .iconst 1), (13, .ireturn), (14, .iconst 0), (15, .ireturn)]
def qM_L_takeOver : QM := (yL_takeOver, cL_takeOver, 3, (some .int), RL, false, [(0, 8, 11, 17)], qK_L, qC_L_takeOver_0)
def qC_L_join_0 : List (Nat × Instr) := [(0, .aload_n 1), (1, .iconst 0), (2, .aload_n 0), (3, .invokevirtual 112), (6, .i2l), (7, .lastore), (8, .goto 6), (11, .astore_n 2), (12, .iconst 1), (13, .ireturn), (14, .iconst 0), (15, .ireturn)]
def qM_L_join : QM := (yL_join, cL_join, 3, (some .int), RL, false, [(0, 8, 11, 17)], qK_L, qC_L_join_0)
def qC_L_schedule_0 : List (Nat × Instr) := [(0, .aload 5), (2, .iconst 0), (3, .aload_n 0), (4, .iload_n 1), (5, .iload_n 2), (6, .iload_n 3), (7, .iload 4), (9, .invokevirtual 115), (12, .i2l), (13, .lastore), (14, .goto 15), (17, .astore 6), (19, .iconst 1), (20, .ireturn), (21, .astore 6), (23, .iconst 2), (24, .ireturn), (25, .astore 6), (27, .iconst 3), (28, .ireturn), (29, .iconst 0), (30, .ireturn)]
def qM_L_schedule : QM := (yL_schedule, cL_schedule, 7, (some .int), RL, false, [(0, 14, 17, 13), (0, 14, 21, 15), (0, 14, 25, 17)], qK_L, qC_L_schedule_0)
def qC_L_togglePause_0 : List (Nat × Instr) := [(0, .aload_n 2), (1, .iconst 0), (2, .aload_n 0), (3, .iload_n 1), (4, .invokevirtual 118), (7, .ifCond .eq 7), (10, .lconst 1), (11, .goto 4), (14, .lconst 0), (15, .lastore), (16, .goto 6), (19, .astore_n 3), (20, .iconst 1), (21, .ireturn), (22, .iconst 0), (23, .ireturn)]
def qM_L_togglePause : QM := (yL_togglePause, cL_togglePause, 4, (some .int), RL, false, [(0, 16, 19, 13)], qK_L, qC_L_togglePause_0)
def qC_L_backfill_0 : List (Nat × Instr) := [(0, .aload_n 3), (1, .iconst 0), (2, .aload_n 0), (3, .iload_n 1), (4, .iload_n 2), (5, .invokevirtual 121), (8, .i2l), (9, .lastore), (10, .goto 11), (13, .astore 4), (15, .iconst 1), (16, .ireturn), (17, .astore 4), (19, .iconst 2), (20, .ireturn), (21, .iconst 0), (22, .ireturn)]
def qM_L_backfill : QM := (yL_backfill, cL_backfill, 5, (some .int), RL, false, [(0, 10, 13, 13), (0, 10, 17, 15)], qK_L, qC_L_backfill_0)
def qC_L_shift_0 : List (Nat × Instr) := [(0, .aload_n 2), (1, .iconst 0), (2, .aload_n 0), (3, .iload_n 1), (4, .invokevirtual 124), (7, .i2l), (8, .lastore), (9, .goto 6), (12, .astore_n 3), (13, .iconst 1), (14, .ireturn), (15, .iconst 0), (16, .ireturn)]
def qM_L_shift : QM := (yL_shift, cL_shift, 4, (some .int), RL, false, [(0, 9, 12, 15)], qK_L, qC_L_shift_0)
def qC_L_bringIn_0 : List (Nat × Instr) := [(0, .aload_n 2), (1, .iconst 0), (2, .aload_n 0), (3, .iload_n 1), (4, .invokevirtual 127), (7, .i2l), (8, .lastore), (9, .goto 6), (12, .astore_n 3), (13, .iconst 1), (14, .ireturn), (15, .iconst 0), (16, .ireturn)]
def qM_L_bringIn : QM := (yL_bringIn, cL_bringIn, 4, (some .int), RL, false, [(0, 9, 12, 15)], qK_L, qC_L_bringIn_0)
def qC_L_search_0 : List (Nat × Instr) := [(0, .aload_n 2), (1, .iconst 0), (2, .aload_n 0), (3, .iload_n 1), (4, .invokevirtual 130), (7, .i2l), (8, .lastore), (9, .goto 6), (12, .astore_n 3), (13, .iconst 1), (14, .ireturn), (15, .iconst 0), (16, .ireturn)]
def qM_L_search : QM := (yL_search, cL_search, 4, (some .int), RL, false, [(0, 9, 12, 15)], qK_L, qC_L_search_0)
def qC_L_law_0 : List (Nat × Instr) := [(0, .new 8), (3, .dup), (4, .invokespecial 133), (7, .astore_n 1), (8, .new 134), (11, .dup), (12, .invokespecial 136), (15, .astore_n 2), (16, .iconst 1), (17, .newarray .long), (19, .astore_n 3), (20, .iconst 0), (21, .istore 4), (23, .iload 4), (25, .aload_n 0), (26, .arraylength), (27, .bipush 7), (29, .isub), (30, .if_icmp .gt 2573), (33, .aload_n 0), (34, .iload 4), (36, .iaload), (37, .bipush 63), (39, .iand), (40, .tableswitch 2557 0 36 #[164, 256, 312, 410, 478, 558, 638, 725, 788, 856, 924, 980, 1048, 1104, 1117, 1173, 1229, 1285, 1341, 1397, 1453, 1528, 1619, 1687, 1743, 1799, 1867, 1942, 2010, 2078, 2122, 2166, 2258, 2321, 2389, 2445, 2501]), (204, .aload_n 1), (205, .aload_n 0), (206, .iload 4), (208, .iconst 1), (209, .iadd), (210, .iaload), (211, .aload_n 0), (212, .iload 4), (214, .iconst 2), (215, .iadd), (216, .iaload), (217, .aload_n 0), (218, .iload 4), (220, .iconst 3), (221, .iadd), (222, .iaload), (223, .aload_n 0), (224, .iload 4), (226, .iconst 4), (227, .iadd), (228, .iaload), (229, .aload_n 3), (230, .invokestatic 137), (233, .istore 5), (235, .aload_n 2), (236, .aload_n 0), (237, .iload 4), (239, .iconst 1), (240, .iadd), (241, .iaload), (242, .aload_n 0), (243, .iload 4), (245, .iconst 2), (246, .iadd), (247, .iaload)]
def qC_L_law_1 : List (Nat × Instr) := [(248, .aload_n 0), (249, .iload 4), (251, .iconst 3), (252, .iadd), (253, .iaload), (254, .aload_n 0), (255, .iload 4), (257, .iconst 4), (258, .iadd), (259, .iaload), (260, .invokevirtual 142), (263, .istore 6), (265, .aload_n 2), (266, .invokevirtual 143), (269, .iload 5), (271, .if_icmp .eq 5), (274, .iconst 0), (275, .ireturn), (276, .iload 5), (278, .ifCond .ne 15), (281, .aload_n 3), (282, .iconst 0), (283, .laload), (284, .iload 6), (286, .i2l), (287, .lcmp), (288, .ifCond .eq 5), (291, .iconst 0), (292, .ireturn), (293, .goto 2304), (296, .aload_n 1), (297, .aload_n 0), (298, .iload 4), (300, .iconst 1), (301, .iadd), (302, .iaload), (303, .aload_n 3), (304, .invokestatic 146), (307, .istore 5), (309, .aload_n 2), (310, .aload_n 0), (311, .iload 4), (313, .iconst 1), (314, .iadd), (315, .iaload), (316, .invokevirtual 149), (319, .istore 6), (321, .aload_n 2), (322, .invokevirtual 143), (325, .iload 5), (327, .if_icmp .eq 5), (330, .iconst 0), (331, .ireturn), (332, .iload 5), (334, .ifCond .ne 15), (337, .aload_n 3), (338, .iconst 0), (339, .laload), (340, .iload 6), (342, .i2l)]
def qC_L_law_2 : List (Nat × Instr) := [(343, .lcmp), (344, .ifCond .eq 5), (347, .iconst 0), (348, .ireturn), (349, .goto 2248), (352, .aload_n 1), (353, .aload_n 0), (354, .iload 4), (356, .iconst 1), (357, .iadd), (358, .iaload), (359, .aload_n 0), (360, .iload 4), (362, .iconst 2), (363, .iadd), (364, .iaload), (365, .aload_n 0), (366, .iload 4), (368, .iconst 3), (369, .iadd), (370, .iaload), (371, .aload_n 0), (372, .iload 4), (374, .iconst 4), (375, .iadd), (376, .iaload), (377, .aload_n 0), (378, .iload 4), (380, .iconst 5), (381, .iadd), (382, .iaload), (383, .aload_n 0), (384, .iload 4), (386, .bipush 6), (388, .iadd), (389, .iaload), (390, .invokestatic 150), (393, .istore 5), (395, .aload_n 2), (396, .aload_n 0), (397, .iload 4), (399, .iconst 1), (400, .iadd), (401, .iaload), (402, .aload_n 0), (403, .iload 4), (405, .iconst 2), (406, .iadd), (407, .iaload), (408, .aload_n 0), (409, .iload 4), (411, .iconst 3), (412, .iadd), (413, .iaload), (414, .aload_n 0), (415, .iload 4), (417, .iconst 4), (418, .iadd), (419, .iaload), (420, .aload_n 0)]
def qC_L_law_3 : List (Nat × Instr) := [(421, .iload 4), (423, .iconst 5), (424, .iadd), (425, .iaload), (426, .aload_n 0), (427, .iload 4), (429, .bipush 6), (431, .iadd), (432, .iaload), (433, .invokevirtual 153), (436, .aload_n 2), (437, .invokevirtual 143), (440, .iload 5), (442, .if_icmp .eq 5), (445, .iconst 0), (446, .ireturn), (447, .goto 2150), (450, .aload_n 1), (451, .aload_n 0), (452, .iload 4), (454, .iconst 1), (455, .iadd), (456, .iaload), (457, .aload_n 0), (458, .iload 4), (460, .iconst 2), (461, .iadd), (462, .iaload), (463, .aload_n 3), (464, .invokestatic 154), (467, .istore 5), (469, .aload_n 2), (470, .aload_n 0), (471, .iload 4), (473, .iconst 1), (474, .iadd), (475, .iaload), (476, .aload_n 0), (477, .iload 4), (479, .iconst 2), (480, .iadd), (481, .iaload), (482, .invokevirtual 157), (485, .istore 6), (487, .aload_n 2), (488, .invokevirtual 143), (491, .iload 5), (493, .if_icmp .eq 5), (496, .iconst 0), (497, .ireturn), (498, .iload 5), (500, .ifCond .ne 15), (503, .aload_n 3), (504, .iconst 0), (505, .laload), (506, .iload 6), (508, .i2l), (509, .lcmp), (510, .ifCond .eq 5), (513, .iconst 0)]
def qC_L_law_4 : List (Nat × Instr) := [(514, .ireturn), (515, .goto 2082), (518, .aload_n 1), (519, .aload_n 0), (520, .iload 4), (522, .iconst 1), (523, .iadd), (524, .iaload), (525, .aload_n 0), (526, .iload 4), (528, .iconst 2), (529, .iadd), (530, .iaload), (531, .aload_n 0), (532, .iload 4), (534, .iconst 3), (535, .iadd), (536, .iaload), (537, .aload_n 3), (538, .invokestatic 158), (541, .istore 5), (543, .aload_n 2), (544, .aload_n 0), (545, .iload 4), (547, .iconst 1), (548, .iadd), (549, .iaload), (550, .aload_n 0), (551, .iload 4), (553, .iconst 2), (554, .iadd), (555, .iaload), (556, .aload_n 0), (557, .iload 4), (559, .iconst 3), (560, .iadd), (561, .iaload), (562, .invokevirtual 161), (565, .istore 6), (567, .aload_n 2), (568, .invokevirtual 143), (571, .iload 5), (573, .if_icmp .eq 5), (576, .iconst 0), (577, .ireturn), (578, .iload 5), (580, .ifCond .ne 15), (583, .aload_n 3), (584, .iconst 0), (585, .laload), (586, .iload 6), (588, .i2l), (589, .lcmp), (590, .ifCond .eq 5), (593, .iconst 0), (594, .ireturn), (595, .goto 2002), (598, .aload_n 1), (599, .aload_n 0), (600, .iload 4)]
def qC_L_law_5 : List (Nat × Instr) := [(602, .iconst 1), (603, .iadd), (604, .iaload), (605, .aload_n 0), (606, .iload 4), (608, .iconst 2), (609, .iadd), (610, .iaload), (611, .aload_n 0), (612, .iload 4), (614, .iconst 3), (615, .iadd), (616, .iaload), (617, .aload_n 3), (618, .invokestatic 162), (621, .istore 5), (623, .aload_n 2), (624, .aload_n 0), (625, .iload 4), (627, .iconst 1), (628, .iadd), (629, .iaload), (630, .aload_n 0), (631, .iload 4), (633, .iconst 2), (634, .iadd), (635, .iaload), (636, .aload_n 0), (637, .iload 4), (639, .iconst 3), (640, .iadd), (641, .iaload), (642, .invokevirtual 164), (645, .istore 6), (647, .aload_n 2), (648, .invokevirtual 143), (651, .iload 5), (653, .if_icmp .eq 5), (656, .iconst 0), (657, .ireturn), (658, .iload 5), (660, .ifCond .ne 15), (663, .aload_n 3), (664, .iconst 0), (665, .laload), (666, .iload 6), (668, .i2l), (669, .lcmp), (670, .ifCond .eq 5), (673, .iconst 0), (674, .ireturn), (675, .goto 1922), (678, .aload_n 1), (679, .aload_n 0), (680, .iload 4), (682, .iconst 1), (683, .iadd), (684, .iaload), (685, .aload_n 0), (686, .iload 4)]
def qC_L_law_6 : List (Nat × Instr) := [(688, .iconst 2), (689, .iadd), (690, .iaload), (691, .aload_n 0), (692, .iload 4), (694, .iconst 3), (695, .iadd), (696, .iaload), (697, .aload_n 3), (698, .invokestatic 165), (701, .istore 5), (703, .aload_n 2), (704, .aload_n 0), (705, .iload 4), (707, .iconst 1), (708, .iadd), (709, .iaload), (710, .aload_n 0), (711, .iload 4), (713, .iconst 2), (714, .iadd), (715, .iaload), (716, .aload_n 0), (717, .iload 4), (719, .iconst 3), (720, .iadd), (721, .iaload), (722, .invokevirtual 167), (725, .istore 6), (727, .aload_n 2), (728, .invokevirtual 143), (731, .iload 5), (733, .if_icmp .eq 5), (736, .iconst 0), (737, .ireturn), (738, .iload 5), (740, .ifCond .ne 22), (743, .aload_n 3), (744, .iconst 0), (745, .laload), (746, .iload 6), (748, .ifCond .eq 7), (751, .lconst 1), (752, .goto 4), (755, .lconst 0), (756, .lcmp), (757, .ifCond .eq 5), (760, .iconst 0), (761, .ireturn), (762, .goto 1835), (765, .aload_n 1), (766, .aload_n 0), (767, .iload 4), (769, .iconst 1), (770, .iadd), (771, .iaload), (772, .aload_n 3), (773, .invokestatic 168), (776, .istore 5), (778, .aload_n 2)]
def qC_L_law_7 : List (Nat × Instr) := [(779, .aload_n 0), (780, .iload 4), (782, .iconst 1), (783, .iadd), (784, .iaload), (785, .invokevirtual 170), (788, .istore 6), (790, .aload_n 2), (791, .invokevirtual 143), (794, .iload 5), (796, .if_icmp .eq 5), (799, .iconst 0), (800, .ireturn), (801, .iload 5), (803, .ifCond .ne 22), (806, .aload_n 3), (807, .iconst 0), (808, .laload), (809, .iload 6), (811, .ifCond .eq 7), (814, .lconst 1), (815, .goto 4), (818, .lconst 0), (819, .lcmp), (820, .ifCond .eq 5), (823, .iconst 0), (824, .ireturn), (825, .goto 1772), (828, .aload_n 1), (829, .aload_n 0), (830, .iload 4), (832, .iconst 1), (833, .iadd), (834, .iaload), (835, .aload_n 0), (836, .iload 4), (838, .iconst 2), (839, .iadd), (840, .iaload), (841, .aload_n 3), (842, .invokestatic 171), (845, .istore 5), (847, .aload_n 2), (848, .aload_n 0), (849, .iload 4), (851, .iconst 1), (852, .iadd), (853, .iaload), (854, .aload_n 0), (855, .iload 4), (857, .iconst 2), (858, .iadd), (859, .iaload), (860, .invokevirtual 173), (863, .istore 6), (865, .aload_n 2), (866, .invokevirtual 143), (869, .iload 5), (871, .if_icmp .eq 5), (874, .iconst 0)]
def qC_L_law_8 : List (Nat × Instr) := [(875, .ireturn), (876, .iload 5), (878, .ifCond .ne 15), (881, .aload_n 3), (882, .iconst 0), (883, .laload), (884, .iload 6), (886, .i2l), (887, .lcmp), (888, .ifCond .eq 5), (891, .iconst 0), (892, .ireturn), (893, .goto 1704), (896, .aload_n 1), (897, .aload_n 0), (898, .iload 4), (900, .iconst 1), (901, .iadd), (902, .iaload), (903, .aload_n 0), (904, .iload 4), (906, .iconst 2), (907, .iadd), (908, .iaload), (909, .aload_n 3), (910, .invokestatic 174), (913, .istore 5), (915, .aload_n 2), (916, .aload_n 0), (917, .iload 4), (919, .iconst 1), (920, .iadd), (921, .iaload), (922, .aload_n 0), (923, .iload 4), (925, .iconst 2), (926, .iadd), (927, .iaload), (928, .invokevirtual 176), (931, .istore 6), (933, .aload_n 2), (934, .invokevirtual 143), (937, .iload 5), (939, .if_icmp .eq 5), (942, .iconst 0), (943, .ireturn), (944, .iload 5), (946, .ifCond .ne 15), (949, .aload_n 3), (950, .iconst 0), (951, .laload), (952, .iload 6), (954, .i2l), (955, .lcmp), (956, .ifCond .eq 5), (959, .iconst 0), (960, .ireturn), (961, .goto 1636), (964, .aload_n 1), (965, .aload_n 0)]
def qC_L_law_9 : List (Nat × Instr) := [(966, .iload 4), (968, .iconst 1), (969, .iadd), (970, .iaload), (971, .aload_n 3), (972, .invokestatic 177), (975, .istore 5), (977, .aload_n 2), (978, .aload_n 0), (979, .iload 4), (981, .iconst 1), (982, .iadd), (983, .iaload), (984, .invokevirtual 179), (987, .istore 6), (989, .aload_n 2), (990, .invokevirtual 143), (993, .iload 5), (995, .if_icmp .eq 5), (998, .iconst 0), (999, .ireturn), (1000, .iload 5), (1002, .ifCond .ne 15), (1005, .aload_n 3), (1006, .iconst 0), (1007, .laload), (1008, .iload 6), (1010, .i2l), (1011, .lcmp), (1012, .ifCond .eq 5), (1015, .iconst 0), (1016, .ireturn), (1017, .goto 1580), (1020, .aload_n 1), (1021, .aload_n 0), (1022, .iload 4), (1024, .iconst 1), (1025, .iadd), (1026, .iaload), (1027, .aload_n 0), (1028, .iload 4), (1030, .iconst 2), (1031, .iadd), (1032, .iaload), (1033, .aload_n 3), (1034, .invokestatic 180), (1037, .istore 5), (1039, .aload_n 2), (1040, .aload_n 0), (1041, .iload 4), (1043, .iconst 1), (1044, .iadd), (1045, .iaload), (1046, .aload_n 0), (1047, .iload 4), (1049, .iconst 2), (1050, .iadd), (1051, .iaload), (1052, .invokevirtual 182), (1055, .istore 6)]
def qC_L_law_10 : List (Nat × Instr) := [(1057, .aload_n 2), (1058, .invokevirtual 143), (1061, .iload 5), (1063, .if_icmp .eq 5), (1066, .iconst 0), (1067, .ireturn), (1068, .iload 5), (1070, .ifCond .ne 15), (1073, .aload_n 3), (1074, .iconst 0), (1075, .laload), (1076, .iload 6), (1078, .i2l), (1079, .lcmp), (1080, .ifCond .eq 5), (1083, .iconst 0), (1084, .ireturn), (1085, .goto 1512), (1088, .aload_n 1), (1089, .aload_n 0), (1090, .iload 4), (1092, .iconst 1), (1093, .iadd), (1094, .iaload), (1095, .aload_n 3), (1096, .invokestatic 183), (1099, .istore 5), (1101, .aload_n 2), (1102, .aload_n 0), (1103, .iload 4), (1105, .iconst 1), (1106, .iadd), (1107, .iaload), (1108, .invokevirtual 185), (1111, .istore 6), (1113, .aload_n 2), (1114, .invokevirtual 143), (1117, .iload 5), (1119, .if_icmp .eq 5), (1122, .iconst 0), (1123, .ireturn), (1124, .iload 5), (1126, .ifCond .ne 15), (1129, .aload_n 3), (1130, .iconst 0), (1131, .laload), (1132, .iload 6), (1134, .i2l), (1135, .lcmp), (1136, .ifCond .eq 5), (1139, .iconst 0), (1140, .ireturn), (1141, .goto 1456), (1144, .aload_n 1), (1145, .invokevirtual 186), (1148, .aload_n 2), (1149, .invokevirtual 189), (1152, .if_icmp .eq 1445), (1155, .iconst 0), (1156, .ireturn)]
def qC_L_law_11 : List (Nat × Instr) := [(1157, .aload_n 1), (1158, .aload_n 0), (1159, .iload 4), (1161, .iconst 1), (1162, .iadd), (1163, .iaload), (1164, .aload_n 3), (1165, .invokestatic 190), (1168, .istore 5), (1170, .aload_n 2), (1171, .aload_n 0), (1172, .iload 4), (1174, .iconst 1), (1175, .iadd), (1176, .iaload), (1177, .invokevirtual 192), (1180, .istore 6), (1182, .aload_n 2), (1183, .invokevirtual 143), (1186, .iload 5), (1188, .if_icmp .eq 5), (1191, .iconst 0), (1192, .ireturn), (1193, .iload 5), (1195, .ifCond .ne 15), (1198, .aload_n 3), (1199, .iconst 0), (1200, .laload), (1201, .iload 6), (1203, .i2l), (1204, .lcmp), (1205, .ifCond .eq 5), (1208, .iconst 0), (1209, .ireturn), (1210, .goto 1387), (1213, .aload_n 1), (1214, .aload_n 0), (1215, .iload 4), (1217, .iconst 1), (1218, .iadd), (1219, .iaload), (1220, .aload_n 3), (1221, .invokestatic 193), (1224, .istore 5), (1226, .aload_n 2), (1227, .aload_n 0), (1228, .iload 4), (1230, .iconst 1), (1231, .iadd), (1232, .iaload), (1233, .invokevirtual 195), (1236, .istore 6), (1238, .aload_n 2), (1239, .invokevirtual 143), (1242, .iload 5), (1244, .if_icmp .eq 5), (1247, .iconst 0), (1248, .ireturn), (1249, .iload 5), (1251, .ifCond .ne 15)]
def qC_L_law_12 : List (Nat × Instr) := [(1254, .aload_n 3), (1255, .iconst 0), (1256, .laload), (1257, .iload 6), (1259, .i2l), (1260, .lcmp), (1261, .ifCond .eq 5), (1264, .iconst 0), (1265, .ireturn), (1266, .goto 1331), (1269, .aload_n 1), (1270, .aload_n 0), (1271, .iload 4), (1273, .iconst 1), (1274, .iadd), (1275, .iaload), (1276, .aload_n 3), (1277, .invokestatic 196), (1280, .istore 5), (1282, .aload_n 2), (1283, .aload_n 0), (1284, .iload 4), (1286, .iconst 1), (1287, .iadd), (1288, .iaload), (1289, .invokevirtual 198), (1292, .istore 6), (1294, .aload_n 2), (1295, .invokevirtual 143), (1298, .iload 5), (1300, .if_icmp .eq 5), (1303, .iconst 0), (1304, .ireturn), (1305, .iload 5), (1307, .ifCond .ne 15), (1310, .aload_n 3), (1311, .iconst 0), (1312, .laload), (1313, .iload 6), (1315, .i2l), (1316, .lcmp), (1317, .ifCond .eq 5), (1320, .iconst 0), (1321, .ireturn), (1322, .goto 1275), (1325, .aload_n 1), (1326, .aload_n 0), (1327, .iload 4), (1329, .iconst 1), (1330, .iadd), (1331, .iaload), (1332, .aload_n 3), (1333, .invokestatic 199), (1336, .istore 5), (1338, .aload_n 2), (1339, .aload_n 0), (1340, .iload 4), (1342, .iconst 1), (1343, .iadd), (1344, .iaload)]
def qC_L_law_13 : List (Nat × Instr) := [(1345, .invokevirtual 201), (1348, .istore 6), (1350, .aload_n 2), (1351, .invokevirtual 143), (1354, .iload 5), (1356, .if_icmp .eq 5), (1359, .iconst 0), (1360, .ireturn), (1361, .iload 5), (1363, .ifCond .ne 15), (1366, .aload_n 3), (1367, .iconst 0), (1368, .laload), (1369, .iload 6), (1371, .i2l), (1372, .lcmp), (1373, .ifCond .eq 5), (1376, .iconst 0), (1377, .ireturn), (1378, .goto 1219), (1381, .aload_n 1), (1382, .aload_n 0), (1383, .iload 4), (1385, .iconst 1), (1386, .iadd), (1387, .iaload), (1388, .aload_n 3), (1389, .invokestatic 202), (1392, .istore 5), (1394, .aload_n 2), (1395, .aload_n 0), (1396, .iload 4), (1398, .iconst 1), (1399, .iadd), (1400, .iaload), (1401, .invokevirtual 204), (1404, .istore 6), (1406, .aload_n 2), (1407, .invokevirtual 143), (1410, .iload 5), (1412, .if_icmp .eq 5), (1415, .iconst 0), (1416, .ireturn), (1417, .iload 5), (1419, .ifCond .ne 15), (1422, .aload_n 3), (1423, .iconst 0), (1424, .laload), (1425, .iload 6), (1427, .i2l), (1428, .lcmp), (1429, .ifCond .eq 5), (1432, .iconst 0), (1433, .ireturn), (1434, .goto 1163), (1437, .aload_n 1), (1438, .aload_n 0), (1439, .iload 4), (1441, .iconst 1), (1442, .iadd)]
def qC_L_law_14 : List (Nat × Instr) := [(1443, .iaload), (1444, .aload_n 3), (1445, .invokestatic 205), (1448, .istore 5), (1450, .aload_n 2), (1451, .aload_n 0), (1452, .iload 4), (1454, .iconst 1), (1455, .iadd), (1456, .iaload), (1457, .invokevirtual 207), (1460, .istore 6), (1462, .aload_n 2), (1463, .invokevirtual 143), (1466, .iload 5), (1468, .if_icmp .eq 5), (1471, .iconst 0), (1472, .ireturn), (1473, .iload 5), (1475, .ifCond .ne 15), (1478, .aload_n 3), (1479, .iconst 0), (1480, .laload), (1481, .iload 6), (1483, .i2l), (1484, .lcmp), (1485, .ifCond .eq 5), (1488, .iconst 0), (1489, .ireturn), (1490, .goto 1107), (1493, .aload_n 1), (1494, .aload_n 0), (1495, .iload 4), (1497, .iconst 1), (1498, .iadd), (1499, .iaload), (1500, .aload_n 0), (1501, .iload 4), (1503, .iconst 2), (1504, .iadd), (1505, .iaload), (1506, .aload_n 3), (1507, .invokestatic 208), (1510, .istore 5), (1512, .aload_n 2), (1513, .aload_n 0), (1514, .iload 4), (1516, .iconst 1), (1517, .iadd), (1518, .iaload), (1519, .aload_n 0), (1520, .iload 4), (1522, .iconst 2), (1523, .iadd), (1524, .iaload), (1525, .invokevirtual 210), (1528, .istore 6), (1530, .aload_n 2), (1531, .invokevirtual 143), (1534, .iload 5)]
def qC_L_law_15 : List (Nat × Instr) := [(1536, .if_icmp .eq 5), (1539, .iconst 0), (1540, .ireturn), (1541, .iload 5), (1543, .ifCond .ne 22), (1546, .aload_n 3), (1547, .iconst 0), (1548, .laload), (1549, .iload 6), (1551, .ifCond .eq 7), (1554, .lconst 1), (1555, .goto 4), (1558, .lconst 0), (1559, .lcmp), (1560, .ifCond .eq 5), (1563, .iconst 0), (1564, .ireturn), (1565, .goto 1032), (1568, .aload_n 1), (1569, .aload_n 0), (1570, .iload 4), (1572, .iconst 1), (1573, .iadd), (1574, .iaload), (1575, .aload_n 0), (1576, .iload 4), (1578, .iconst 2), (1579, .iadd), (1580, .iaload), (1581, .ifCond .eq 7), (1584, .iconst 1), (1585, .goto 4), (1588, .iconst 0), (1589, .aload_n 3), (1590, .invokestatic 211), (1593, .istore 5), (1595, .aload_n 2), (1596, .aload_n 0), (1597, .iload 4), (1599, .iconst 1), (1600, .iadd), (1601, .iaload), (1602, .aload_n 0), (1603, .iload 4), (1605, .iconst 2), (1606, .iadd), (1607, .iaload), (1608, .ifCond .eq 7), (1611, .iconst 1), (1612, .goto 4), (1615, .iconst 0), (1616, .invokevirtual 214), (1619, .istore 6), (1621, .aload_n 2), (1622, .invokevirtual 143), (1625, .iload 5), (1627, .if_icmp .eq 5), (1630, .iconst 0), (1631, .ireturn), (1632, .iload 5)]
def qC_L_law_16 : List (Nat × Instr) := [(1634, .ifCond .ne 22), (1637, .aload_n 3), (1638, .iconst 0), (1639, .laload), (1640, .iload 6), (1642, .ifCond .eq 7), (1645, .lconst 1), (1646, .goto 4), (1649, .lconst 0), (1650, .lcmp), (1651, .ifCond .eq 5), (1654, .iconst 0), (1655, .ireturn), (1656, .goto 941), (1659, .aload_n 1), (1660, .aload_n 0), (1661, .iload 4), (1663, .iconst 1), (1664, .iadd), (1665, .iaload), (1666, .aload_n 0), (1667, .iload 4), (1669, .iconst 2), (1670, .iadd), (1671, .iaload), (1672, .aload_n 3), (1673, .invokestatic 215), (1676, .istore 5), (1678, .aload_n 2), (1679, .aload_n 0), (1680, .iload 4), (1682, .iconst 1), (1683, .iadd), (1684, .iaload), (1685, .aload_n 0), (1686, .iload 4), (1688, .iconst 2), (1689, .iadd), (1690, .iaload), (1691, .invokevirtual 217), (1694, .istore 6), (1696, .aload_n 2), (1697, .invokevirtual 143), (1700, .iload 5), (1702, .if_icmp .eq 5), (1705, .iconst 0), (1706, .ireturn), (1707, .iload 5), (1709, .ifCond .ne 15), (1712, .aload_n 3), (1713, .iconst 0), (1714, .laload), (1715, .iload 6), (1717, .i2l), (1718, .lcmp), (1719, .ifCond .eq 5), (1722, .iconst 0), (1723, .ireturn), (1724, .goto 873), (1727, .aload_n 1)]
def qC_L_law_17 : List (Nat × Instr) := [(1728, .aload_n 0), (1729, .iload 4), (1731, .iconst 1), (1732, .iadd), (1733, .iaload), (1734, .aload_n 3), (1735, .invokestatic 218), (1738, .istore 5), (1740, .aload_n 2), (1741, .aload_n 0), (1742, .iload 4), (1744, .iconst 1), (1745, .iadd), (1746, .iaload), (1747, .invokevirtual 220), (1750, .istore 6), (1752, .aload_n 2), (1753, .invokevirtual 143), (1756, .iload 5), (1758, .if_icmp .eq 5), (1761, .iconst 0), (1762, .ireturn), (1763, .iload 5), (1765, .ifCond .ne 15), (1768, .aload_n 3), (1769, .iconst 0), (1770, .laload), (1771, .iload 6), (1773, .i2l), (1774, .lcmp), (1775, .ifCond .eq 5), (1778, .iconst 0), (1779, .ireturn), (1780, .goto 817), (1783, .aload_n 1), (1784, .aload_n 0), (1785, .iload 4), (1787, .iconst 1), (1788, .iadd), (1789, .iaload), (1790, .aload_n 3), (1791, .invokestatic 221), (1794, .istore 5), (1796, .aload_n 2), (1797, .aload_n 0), (1798, .iload 4), (1800, .iconst 1), (1801, .iadd), (1802, .iaload), (1803, .invokevirtual 223), (1806, .istore 6), (1808, .aload_n 2), (1809, .invokevirtual 143), (1812, .iload 5), (1814, .if_icmp .eq 5), (1817, .iconst 0), (1818, .ireturn), (1819, .iload 5), (1821, .ifCond .ne 15), (1824, .aload_n 3)]
def qC_L_law_18 : List (Nat × Instr) := [(1825, .iconst 0), (1826, .laload), (1827, .iload 6), (1829, .i2l), (1830, .lcmp), (1831, .ifCond .eq 5), (1834, .iconst 0), (1835, .ireturn), (1836, .goto 761), (1839, .aload_n 1), (1840, .aload_n 0), (1841, .iload 4), (1843, .iconst 1), (1844, .iadd), (1845, .iaload), (1846, .aload_n 0), (1847, .iload 4), (1849, .iconst 2), (1850, .iadd), (1851, .iaload), (1852, .aload_n 3), (1853, .invokestatic 224), (1856, .istore 5), (1858, .aload_n 2), (1859, .aload_n 0), (1860, .iload 4), (1862, .iconst 1), (1863, .iadd), (1864, .iaload), (1865, .aload_n 0), (1866, .iload 4), (1868, .iconst 2), (1869, .iadd), (1870, .iaload), (1871, .invokevirtual 226), (1874, .istore 6), (1876, .aload_n 2), (1877, .invokevirtual 143), (1880, .iload 5), (1882, .if_icmp .eq 5), (1885, .iconst 0), (1886, .ireturn), (1887, .iload 5), (1889, .ifCond .ne 15), (1892, .aload_n 3), (1893, .iconst 0), (1894, .laload), (1895, .iload 6), (1897, .i2l), (1898, .lcmp), (1899, .ifCond .eq 5), (1902, .iconst 0), (1903, .ireturn), (1904, .goto 693), (1907, .aload_n 1), (1908, .aload_n 0), (1909, .iload 4), (1911, .iconst 1), (1912, .iadd), (1913, .iaload)]
def qC_L_law_19 : List (Nat × Instr) := [(1914, .aload_n 0), (1915, .iload 4), (1917, .iconst 2), (1918, .iadd), (1919, .iaload), (1920, .aload_n 3), (1921, .invokestatic 227), (1924, .istore 5), (1926, .aload_n 2), (1927, .aload_n 0), (1928, .iload 4), (1930, .iconst 1), (1931, .iadd), (1932, .iaload), (1933, .aload_n 0), (1934, .iload 4), (1936, .iconst 2), (1937, .iadd), (1938, .iaload), (1939, .invokevirtual 229), (1942, .istore 6), (1944, .aload_n 2), (1945, .invokevirtual 143), (1948, .iload 5), (1950, .if_icmp .eq 5), (1953, .iconst 0), (1954, .ireturn), (1955, .iload 5), (1957, .ifCond .ne 22), (1960, .aload_n 3), (1961, .iconst 0), (1962, .laload), (1963, .iload 6), (1965, .ifCond .eq 7), (1968, .lconst 1), (1969, .goto 4), (1972, .lconst 0), (1973, .lcmp), (1974, .ifCond .eq 5), (1977, .iconst 0), (1978, .ireturn), (1979, .goto 618), (1982, .aload_n 1), (1983, .aload_n 0), (1984, .iload 4), (1986, .iconst 1), (1987, .iadd), (1988, .iaload), (1989, .aload_n 0), (1990, .iload 4), (1992, .iconst 2), (1993, .iadd), (1994, .iaload), (1995, .aload_n 3), (1996, .invokestatic 230), (1999, .istore 5), (2001, .aload_n 2), (2002, .aload_n 0), (2003, .iload 4), (2005, .iconst 1)]
def qC_L_law_20 : List (Nat × Instr) := [(2006, .iadd), (2007, .iaload), (2008, .aload_n 0), (2009, .iload 4), (2011, .iconst 2), (2012, .iadd), (2013, .iaload), (2014, .invokevirtual 232), (2017, .istore 6), (2019, .aload_n 2), (2020, .invokevirtual 143), (2023, .iload 5), (2025, .if_icmp .eq 5), (2028, .iconst 0), (2029, .ireturn), (2030, .iload 5), (2032, .ifCond .ne 15), (2035, .aload_n 3), (2036, .iconst 0), (2037, .laload), (2038, .iload 6), (2040, .i2l), (2041, .lcmp), (2042, .ifCond .eq 5), (2045, .iconst 0), (2046, .ireturn), (2047, .goto 550), (2050, .aload_n 1), (2051, .aload_n 0), (2052, .iload 4), (2054, .iconst 1), (2055, .iadd), (2056, .iaload), (2057, .aload_n 0), (2058, .iload 4), (2060, .iconst 2), (2061, .iadd), (2062, .iaload), (2063, .aload_n 3), (2064, .invokestatic 233), (2067, .istore 5), (2069, .aload_n 2), (2070, .aload_n 0), (2071, .iload 4), (2073, .iconst 1), (2074, .iadd), (2075, .iaload), (2076, .aload_n 0), (2077, .iload 4), (2079, .iconst 2), (2080, .iadd), (2081, .iaload), (2082, .invokevirtual 235), (2085, .istore 6), (2087, .aload_n 2), (2088, .invokevirtual 143), (2091, .iload 5), (2093, .if_icmp .eq 5), (2096, .iconst 0), (2097, .ireturn)]
def qC_L_law_21 : List (Nat × Instr) := [(2098, .iload 5), (2100, .ifCond .ne 15), (2103, .aload_n 3), (2104, .iconst 0), (2105, .laload), (2106, .iload 6), (2108, .i2l), (2109, .lcmp), (2110, .ifCond .eq 5), (2113, .iconst 0), (2114, .ireturn), (2115, .goto 482), (2118, .aload_n 1), (2119, .aload_n 3), (2120, .invokestatic 236), (2123, .istore 5), (2125, .aload_n 2), (2126, .invokevirtual 239), (2129, .istore 6), (2131, .aload_n 2), (2132, .invokevirtual 143), (2135, .iload 5), (2137, .if_icmp .eq 5), (2140, .iconst 0), (2141, .ireturn), (2142, .iload 5), (2144, .ifCond .ne 15), (2147, .aload_n 3), (2148, .iconst 0), (2149, .laload), (2150, .iload 6), (2152, .i2l), (2153, .lcmp), (2154, .ifCond .eq 5), (2157, .iconst 0), (2158, .ireturn), (2159, .goto 438), (2162, .aload_n 1), (2163, .aload_n 3), (2164, .invokestatic 240), (2167, .istore 5), (2169, .aload_n 2), (2170, .invokevirtual 242), (2173, .istore 6), (2175, .aload_n 2), (2176, .invokevirtual 143), (2179, .iload 5), (2181, .if_icmp .eq 5), (2184, .iconst 0), (2185, .ireturn), (2186, .iload 5), (2188, .ifCond .ne 15), (2191, .aload_n 3), (2192, .iconst 0), (2193, .laload), (2194, .iload 6), (2196, .i2l), (2197, .lcmp), (2198, .ifCond .eq 5), (2201, .iconst 0)]
def qC_L_law_22 : List (Nat × Instr) := [(2202, .ireturn), (2203, .goto 394), (2206, .aload_n 1), (2207, .aload_n 0), (2208, .iload 4), (2210, .iconst 1), (2211, .iadd), (2212, .iaload), (2213, .aload_n 0), (2214, .iload 4), (2216, .iconst 2), (2217, .iadd), (2218, .iaload), (2219, .aload_n 0), (2220, .iload 4), (2222, .iconst 3), (2223, .iadd), (2224, .iaload), (2225, .aload_n 0), (2226, .iload 4), (2228, .iconst 4), (2229, .iadd), (2230, .iaload), (2231, .aload_n 3), (2232, .invokestatic 243), (2235, .istore 5), (2237, .aload_n 2), (2238, .aload_n 0), (2239, .iload 4), (2241, .iconst 1), (2242, .iadd), (2243, .iaload), (2244, .aload_n 0), (2245, .iload 4), (2247, .iconst 2), (2248, .iadd), (2249, .iaload), (2250, .aload_n 0), (2251, .iload 4), (2253, .iconst 3), (2254, .iadd), (2255, .iaload), (2256, .aload_n 0), (2257, .iload 4), (2259, .iconst 4), (2260, .iadd), (2261, .iaload), (2262, .invokevirtual 245), (2265, .istore 6), (2267, .aload_n 2), (2268, .invokevirtual 143), (2271, .iload 5), (2273, .if_icmp .eq 5), (2276, .iconst 0), (2277, .ireturn), (2278, .iload 5), (2280, .ifCond .ne 15), (2283, .aload_n 3), (2284, .iconst 0), (2285, .laload)]
def qC_L_law_23 : List (Nat × Instr) := [(2286, .iload 6), (2288, .i2l), (2289, .lcmp), (2290, .ifCond .eq 5), (2293, .iconst 0), (2294, .ireturn), (2295, .goto 302), (2298, .aload_n 1), (2299, .aload_n 0), (2300, .iload 4), (2302, .iconst 1), (2303, .iadd), (2304, .iaload), (2305, .aload_n 3), (2306, .invokestatic 246), (2309, .istore 5), (2311, .aload_n 2), (2312, .aload_n 0), (2313, .iload 4), (2315, .iconst 1), (2316, .iadd), (2317, .iaload), (2318, .invokevirtual 248), (2321, .istore 6), (2323, .aload_n 2), (2324, .invokevirtual 143), (2327, .iload 5), (2329, .if_icmp .eq 5), (2332, .iconst 0), (2333, .ireturn), (2334, .iload 5), (2336, .ifCond .ne 22), (2339, .aload_n 3), (2340, .iconst 0), (2341, .laload), (2342, .iload 6), (2344, .ifCond .eq 7), (2347, .lconst 1), (2348, .goto 4), (2351, .lconst 0), (2352, .lcmp), (2353, .ifCond .eq 5), (2356, .iconst 0), (2357, .ireturn), (2358, .goto 239), (2361, .aload_n 1), (2362, .aload_n 0), (2363, .iload 4), (2365, .iconst 1), (2366, .iadd), (2367, .iaload), (2368, .aload_n 0), (2369, .iload 4), (2371, .iconst 2), (2372, .iadd), (2373, .iaload), (2374, .aload_n 3), (2375, .invokestatic 249), (2378, .istore 5), (2380, .aload_n 2)]
def qC_L_law_24 : List (Nat × Instr) := [(2381, .aload_n 0), (2382, .iload 4), (2384, .iconst 1), (2385, .iadd), (2386, .iaload), (2387, .aload_n 0), (2388, .iload 4), (2390, .iconst 2), (2391, .iadd), (2392, .iaload), (2393, .invokevirtual 251), (2396, .istore 6), (2398, .aload_n 2), (2399, .invokevirtual 143), (2402, .iload 5), (2404, .if_icmp .eq 5), (2407, .iconst 0), (2408, .ireturn), (2409, .iload 5), (2411, .ifCond .ne 15), (2414, .aload_n 3), (2415, .iconst 0), (2416, .laload), (2417, .iload 6), (2419, .i2l), (2420, .lcmp), (2421, .ifCond .eq 5), (2424, .iconst 0), (2425, .ireturn), (2426, .goto 171), (2429, .aload_n 1), (2430, .aload_n 0), (2431, .iload 4), (2433, .iconst 1), (2434, .iadd), (2435, .iaload), (2436, .aload_n 3), (2437, .invokestatic 252), (2440, .istore 5), (2442, .aload_n 2), (2443, .aload_n 0), (2444, .iload 4), (2446, .iconst 1), (2447, .iadd), (2448, .iaload), (2449, .invokevirtual 254), (2452, .istore 6), (2454, .aload_n 2), (2455, .invokevirtual 143), (2458, .iload 5), (2460, .if_icmp .eq 5), (2463, .iconst 0), (2464, .ireturn), (2465, .iload 5), (2467, .ifCond .ne 15), (2470, .aload_n 3), (2471, .iconst 0), (2472, .laload), (2473, .iload 6), (2475, .i2l)]
def qC_L_law_25 : List (Nat × Instr) := [(2476, .lcmp), (2477, .ifCond .eq 5), (2480, .iconst 0), (2481, .ireturn), (2482, .goto 115), (2485, .aload_n 1), (2486, .aload_n 0), (2487, .iload 4), (2489, .iconst 1), (2490, .iadd), (2491, .iaload), (2492, .aload_n 3), (2493, .invokestatic 255), (2496, .istore 5), (2498, .aload_n 2), (2499, .aload_n 0), (2500, .iload 4), (2502, .iconst 1), (2503, .iadd), (2504, .iaload), (2505, .invokevirtual 257), (2508, .istore 6), (2510, .aload_n 2), (2511, .invokevirtual 143), (2514, .iload 5), (2516, .if_icmp .eq 5), (2519, .iconst 0), (2520, .ireturn), (2521, .iload 5), (2523, .ifCond .ne 15), (2526, .aload_n 3), (2527, .iconst 0), (2528, .laload), (2529, .iload 6), (2531, .i2l), (2532, .lcmp), (2533, .ifCond .eq 5), (2536, .iconst 0), (2537, .ireturn), (2538, .goto 59), (2541, .aload_n 1), (2542, .aload_n 0), (2543, .iload 4), (2545, .iconst 1), (2546, .iadd), (2547, .iaload), (2548, .aload_n 3), (2549, .invokestatic 258), (2552, .istore 5), (2554, .aload_n 2), (2555, .aload_n 0), (2556, .iload 4), (2558, .iconst 1), (2559, .iadd), (2560, .iaload), (2561, .invokevirtual 260), (2564, .istore 6), (2566, .aload_n 2), (2567, .invokevirtual 143), (2570, .iload 5)]
def qC_L_law_26 : List (Nat × Instr) := [(2572, .if_icmp .eq 5), (2575, .iconst 0), (2576, .ireturn), (2577, .iload 5), (2579, .ifCond .ne 15), (2582, .aload_n 3), (2583, .iconst 0), (2584, .laload), (2585, .iload 6), (2587, .i2l), (2588, .lcmp), (2589, .ifCond .eq 5), (2592, .iconst 0), (2593, .ireturn), (2594, .goto 3), (2597, .iinc 4 7), (2600, .goto (-2577)), (2603, .iconst 1), (2604, .ireturn)]
def qM_L_law : QM := (x, cL_law, 7, (some .boolean), RL, false, [], qK_L, qC_L_law_0 ++ qC_L_law_1 ++ qC_L_law_2 ++ qC_L_law_3 ++ qC_L_law_4 ++ qC_L_law_5 ++ qC_L_law_6 ++ qC_L_law_7 ++ qC_L_law_8 ++ qC_L_law_9 ++ qC_L_law_10 ++ qC_L_law_11 ++ qC_L_law_12 ++ qC_L_law_13 ++ qC_L_law_14 ++ qC_L_law_15 ++ qC_L_law_16 ++ qC_L_law_17 ++ qC_L_law_18 ++ qC_L_law_19 ++ qC_L_law_20 ++ qC_L_law_21 ++ qC_L_law_22 ++ qC_L_law_23 ++ qC_L_law_24 ++ qC_L_law_25 ++ qC_L_law_26)
def qT : List QM := [qM_X0_init, qM_X0_beTaken, qM_X1_init, qM_X1_start, qM_X1_waitFor, qM_X1_goOnAt, qM_X1_isBare, qM_X1_waitsForEvent, qM_X2_init, qM_X2_kind, qM_X2_x, qM_X2_y, qM_X2_timeOfCommand, qM_X2_clockOfArrival, qM_X2_orderOfArrival, qM_X2_put, qM_X2_cut, qM_X2_becomeFirst, qM_X2_countAgain, qM_X2_has, qM_X2_is, qM_X2_nextArrival, qM_X2_nextCommand, qM_X2_taskBeyond, qM_X2_taskAt, qM_X2_firstNew, qM_X2_hasNewSignal, qM_X2_hasEnded, qM_X3_init, qM_X4_init, qM_X4_follow, qM_X4_load, qM_X4_knows, qM_X4_goes, qM_X4_getStuck, qM_X4_passTasks, qM_X4_isLeft, qM_X4_seen, qM_X4_note, qM_X4_noteEnd, qM_X4_noteFailure, qM_X4_tellCancel, qM_X4_failBranch, qM_X4_endBranch, qM_X4_command, qM_X4_goOn, qM_X4_awake, qM_X4_doPlainLine, qM_X4_doBranchLine, qM_X4_beginBelow, qM_X4_race, qM_X4_win, qM_X4_dropDoomed, qM_X4_doEndingLine, qM_X4_undo, qM_X4_doOtherLine, qM_X4_patch, qM_X5_init, qM_X5_wide, qM_X5_at, qM_X5_add, qM_X5_removeAt, qM_X5_put, qM_X5_cut, qM_X5_becomeFirst, qM_X6_init, qM_X6_isAlive, qM_X6_hasWork, qM_X6_firstOrder, qM_X6_mark, qM_X6_isKeptBy, qM_X6_addTimer, qM_X6_dropTimer, qM_X7_init, qM_X7_isPoint, qM_X7_pointsSoFar, qM_X8_init, qM_X8_clear, qM_X8_pushed, qM_X8_top, qM_X8_popped, qM_X8_value, qM_X8_set, qM_X8_queue, qM_X8_branchAt, qM_X8_find, qM_X8_beginBranch, qM_X8_remove, qM_X8_firstAble, qM_X8_isAble, qM_X8_isParent, qM_X8_waiterFor, qM_X8_waitsForSignal, qM_X8_doom, qM_X9_init, qM_X10_init, qM_X10_packed, qM_X10_code, qM_X10_draftBecomesVersion, qM_X11_init, qM_X11_line, qM_X11_deploy, qM_X11_setKind, qM_X11_setPolicy, qM_X11_begin, qM_X11_signal, qM_X11_update, qM_X11_cancel, qM_X11_query, qM_X11_plain, qM_X11_standing, qM_X11_event, qM_X11_difference, qM_X11_runs, qM_X11_setRate, qM_X11_poll, qM_X11_complete, qM_X11_die, qM_X11_replays, qM_X11_take, qM_X11_answer, qM_X11_fail, qM_X11_beat, qM_X11_activity, qM_X11_pass, qM_X11_unsafe, qM_X11_move, qM_X11_setBack, qM_X11_copy, qM_X11_takeOver, qM_X11_join, qM_X11_schedule, qM_X11_togglePause, qM_X11_backfill, qM_X11_shift, qM_X11_bringIn, qM_X11_search, qM_X11_typeAt, qM_X11_kindAt, qM_X11_runAt, qM_X11_activityAt, qM_X11_scheduleAt, qM_X11_checkVersion, qM_X11_checkTenant, qM_X11_checkWorker, qM_X11_checkName, qM_X11_checkVariable, qM_X11_checkValue, qM_X11_typeOf, qM_X11_codeOf, qM_X11_addRun, qM_X11_startRun, qM_X11_arrive, qM_X11_cancelRun, qM_X11_closeRun, qM_X11_parentOf, qM_X11_dealWithChildren, qM_X11_endWork, qM_X11_partFromChildren, qM_X11_firstRunWithWork, qM_X11_isHeld, qM_X11_givenTo, qM_X11_countGiven, qM_X11_isStale, qM_X11_countReplay, qM_X11_putNews, qM_X11_carryOut, qM_X11_queueTag, qM_X11_makeActivity, qM_X11_beginChild, qM_X11_dropEvent, qM_X11_goOnAsNew, qM_X11_sendSignals, qM_X11_loseEvents, qM_X11_restoreWork, qM_X11_beginTick, qM_X11_fireTimers, qM_X11_lookAtActivity, qM_X11_isReached, qM_X11_failAttempt, qM_X11_lookAtSchedule, qM_X11_meetPoint, qM_X11_lastIsOpen, qM_X11_startFor, qM_X12_init, qM_X12_thrown, qM_X12_fails, qM_X12_tells, qM_X12_isIn, qM_X12_least, qM_X12_most, qM_X12_isType, qM_X12_isTenant, qM_X12_isRun, qM_X12_isValue, qM_X12_ofThousand, qM_X12_code, qM_X12_mostA, qM_X12_mostB, qM_X12_line, qM_X12_deploy, qM_X12_setKind, qM_X12_setPolicy, qM_X12_at, qM_X12_kindAt, qM_X12_yAt, qM_X12_xAt, qM_X12_whenAt, qM_X12_counts, qM_X12_recounts, qM_X12_puts, qM_X12_hasCome, qM_X12_makes, qM_X12_isAlive, qM_X12_cancels, qM_X12_slot, qM_X12_goes, qM_X12_spins, qM_X12_differs, qM_X12_nextCommand, qM_X12_nextLater, qM_X12_commands, qM_X12_firstTask, qM_X12_begins, qM_X12_removes, qM_X12_endsRun, qM_X12_endsBranch, qM_X12_failsBranch, qM_X12_lets, qM_X12_cancelsBranch, qM_X12_isBelow, qM_X12_dropsBranch, qM_X12_wins, qM_X12_races, qM_X12_hasChild, qM_X12_awaits, qM_X12_undoes, qM_X12_patches, qM_X12_bares, qM_X12_does, qM_X12_doesMore, qM_X12_canGoOn, qM_X12_goOn, qM_X12_walks, qM_X12_waiting, qM_X12_comesBack, qM_X12_isCancelled, qM_X12_takes, qM_X12_goesBy, qM_X12_tellsRun, qM_X12_isSafe, qM_X12_makesActivity, qM_X12_makesTimer, qM_X12_removesTimer, qM_X12_stops, qM_X12_drops, qM_X12_tellsParent, qM_X12_closes, qM_X12_begin, qM_X12_isName, qM_X12_signal, qM_X12_isWanted, qM_X12_update, qM_X12_cancel, qM_X12_asks, qM_X12_query, qM_X12_plain, qM_X12_standing, qM_X12_event, qM_X12_difference, qM_X12_runs, qM_X12_setRate, qM_X12_isHeld, qM_X12_isReady, qM_X12_firstOrder, qM_X12_isWorker, qM_X12_poll, qM_X12_isStale, qM_X12_hasState, qM_X12_complete, qM_X12_carriesOut, qM_X12_goesOnAsNew, qM_X12_die, qM_X12_replays, qM_X12_take, qM_X12_isActivity, qM_X12_answer, qM_X12_misses, qM_X12_fail, qM_X12_beat, qM_X12_activity, qM_X12_fires, qM_X12_looksAtActivities, qM_X12_pass, qM_X12_isVersion, qM_X12_unsafe, qM_X12_move, qM_X12_marks, qM_X12_isBack, qM_X12_beginsAnew, qM_X12_taskAt, qM_X12_setBack, qM_X12_copy, qM_X12_cutsRun, qM_X12_takeOver, qM_X12_join, qM_X12_isSchedule, qM_X12_schedule, qM_X12_beginsFor, qM_X12_isRunning, qM_X12_comes, qM_X12_looksAtSchedule, qM_X12_point, qM_X12_togglePause, qM_X12_backfill, qM_X12_shift, qM_X12_bringIn, qM_X12_search, qM_J9_floorMod_7cf53, qM_J9_max_7cf53, qM_J9_min_7cf53, qM_Jxa1e45_init_da8c8, qM_Jxc12de_init_da8c8, qM_Jx4a65c_init_da8c8, qM_Jx4a65c_grow_92f84, qM_Jx4a65c_grow_d5877, qM_Jx4a65c_size_8abf5, qM_Jx4a65c_isEmpty_aae02, qM_Jx4a65c_elementData_915e3, qM_Jx4a65c_get_915e3, qM_Jx4a65c_add_72be8, qM_Jx4a65c_add_9ea2d, qM_J7_fill_53178, qM_J7_copyOf_1904c, qM_J7_copyOf_6403c, qM_J7_copyOf_c38d5, qM_J15_checkIndex_7cf53, qM_J8_newLength_cabcc, qM_J8_hugeLength_7cf53, qM_J3_checkIndex_8e157, qM_L_line, qM_L_deploy, qM_L_setKind, qM_L_setPolicy, qM_L_begin, qM_L_signal, qM_L_update, qM_L_cancel, qM_L_query, qM_L_plain, qM_L_standing, qM_L_event, qM_L_difference, qM_L_setRate, qM_L_poll, qM_L_complete, qM_L_die, qM_L_replays, qM_L_take, qM_L_answer, qM_L_fail, qM_L_beat, qM_L_activity, qM_L_pass, qM_L_unsafe, qM_L_move, qM_L_setBack, qM_L_copy, qM_L_takeOver, qM_L_join, qM_L_schedule, qM_L_togglePause, qM_L_backfill, qM_L_shift, qM_L_bringIn, qM_L_search]
def qTX : List (String × Nat × String) := [("DurableLoom", 504, "no such type"), ("DurableLoom", 98, "no such command"), ("DurableLoom", 103, "a or b is out of range"), ("DurableLoom", 113, "the draft is full"), ("DurableLoom", 130, "the draft is empty, or there are too many versions"), ("DurableLoom", 506, "no such kind"), ("DurableLoom", 139, "attempts or pause is out of range"), ("DurableLoom", 141, "a limit is out of range"), ("DurableLoom", 158, "policy is out of range"), ("DurableLoom", 516, "no such tenant"), ("DurableLoom", 524, "a value is out of range"), ("DurableLoom", 174, "no version, or no room for a run"), ("DurableLoom", 508, "no such run"), ("DurableLoom", 520, "no such name"), ("DurableLoom", 202, "the run takes no signal"), ("DurableLoom", 211, "the run takes no update"), ("DurableLoom", 240, "the run is closed"), ("DurableLoom", 522, "no such variable"), ("DurableLoom", 249, "its version is not safe for it"), ("DurableLoom", 257, "no such event"), ("DurableLoom", 270, "the run is not STUCK"), ("DurableLoom", 275, "rate is out of range"), ("DurableLoom", 518, "no such worker"), ("DurableLoom", 303, "no such task"), ("DurableLoom", 510, "no such activity"), ("DurableLoom", 381, "ticks is out of range"), ("DurableLoom", 514, "no such version"), ("DurableLoom", 410, "no such TASK"), ("DurableLoom", 412, "the run is closed, or there is no room for another"), ("DurableLoom", 441, "events is out of range"), ("DurableLoom", 452, "the sites are not joined"), ("DurableLoom", 461, "nobody has taken over"), ("DurableLoom", 472, "period or overlap is out of range"), ("DurableLoom", 474, "no version, or no room for a schedule"), ("DurableLoom", 512, "no such schedule"), ("DurableLoom", 486, "many is out of range"), ("DurableLoom", 499, "by is out of range")]
end
section
/-! THE TABLE, II: the code lists are what the bytes decode to. -/
def q_dokb (b : ByteArray) (l : List (Nat × Instr)) : Bool := l.all (fun q => match decode b q.1 with
  | .ok (i, n) => decide (i = q.2) && (decide (n = q_len i) || q_isSw i)
  | _ => false)
theorem q_dok_of {b : ByteArray} {l : List (Nat × Instr)} (h : q_dokb b l = true) : ∀ q ∈ l, ∃ n : Nat, decode b q.1 = .ok (q.2, n) ∧ (n = q_len q.2 ∨ q_isSw q.2 = true) := by
  intro q hq
  have h1 := List.all_eq_true.mp h q hq
  split at h1
  · rename_i i n hd
    simp only [Bool.and_eq_true, Bool.or_eq_true, decide_eq_true_eq] at h1
    obtain ⟨h2, h3⟩ := h1
    subst h2
    exact ⟨n, hd, h3⟩
  · cases h1

theorem qD_X5_init_0 : q_dokb cX5_init qC_X5_init_0 = true := by decide +kernel
theorem qD_X5_wide_0 : q_dokb cX5_wide qC_X5_wide_0 = true := by decide +kernel
theorem qD_X5_at_0 : q_dokb cX5_at qC_X5_at_0 = true := by decide +kernel
theorem qD_X5_add_0 : q_dokb cX5_add qC_X5_add_0 = true := by decide +kernel
theorem qD_X5_add_1 : q_dokb cX5_add qC_X5_add_1 = true := by decide +kernel
theorem qD_X5_removeAt_0 : q_dokb cX5_removeAt qC_X5_removeAt_0 = true := by decide +kernel
theorem qD_X5_put_0 : q_dokb cX5_put qC_X5_put_0 = true := by decide +kernel
theorem qD_X5_cut_0 : q_dokb cX5_cut qC_X5_cut_0 = true := by decide +kernel
theorem qD_X5_cut_1 : q_dokb cX5_cut qC_X5_cut_1 = true := by decide +kernel
theorem qD_X5_becomeFirst_0 : q_dokb cX5_becomeFirst qC_X5_becomeFirst_0 = true := by decide +kernel
theorem qD_X12_init_0 : q_dokb cX12_init qC_X12_init_0 = true := by decide +kernel
theorem qD_X12_init_1 : q_dokb cX12_init qC_X12_init_1 = true := by decide +kernel
theorem qD_X12_init_2 : q_dokb cX12_init qC_X12_init_2 = true := by decide +kernel
theorem qD_X12_init_3 : q_dokb cX12_init qC_X12_init_3 = true := by decide +kernel
theorem qD_X12_init_4 : q_dokb cX12_init qC_X12_init_4 = true := by decide +kernel
theorem qD_X12_init_5 : q_dokb cX12_init qC_X12_init_5 = true := by decide +kernel
theorem qD_X12_init_6 : q_dokb cX12_init qC_X12_init_6 = true := by decide +kernel
theorem qD_X12_line_0 : q_dokb cX12_line qC_X12_line_0 = true := by decide +kernel
theorem qD_X12_line_1 : q_dokb cX12_line qC_X12_line_1 = true := by decide +kernel
end
