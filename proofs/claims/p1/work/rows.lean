section
-- ===== PART A: goes FIRST, ahead of the names: the tables' words, and 'selects' of the private methods out of them =====
/-- a private method of a class that the tables say can be made, by its rows of tables_1 -/
def lw_okq (q : MethodName × Nat) : Prop := (q.1.cls ≠ "java/lang/invoke/MethodHandle" ∧ q.1.cls ≠ "java/lang/invoke/VarHandle") ∧ Cond.instantiable q.1.cls q.2 ∈ tables_1 ∧ Cond.privateMethod q.1 ∈ tables_1 ∧ Cond.instanceMethod q.1 ∈ tables_1
theorem lw_p0 : lw_okq (⟨"DurableLoom", "typeAt", "(I)LDurableLoom$Type;"⟩, 18) := ⟨⟨by decide +kernel, by decide +kernel⟩, List.mem_of_getElem? (i := 30) (by decide +kernel), List.mem_of_getElem? (i := 411) (by decide +kernel), List.mem_of_getElem? (i := 412) (by decide +kernel)⟩
theorem lw_p1 : lw_okq (⟨"java/lang/Throwable", "fillInStackTrace", "(I)Ljava/lang/Throwable;"⟩, 6) := ⟨⟨by decide +kernel, by decide +kernel⟩, List.mem_of_getElem? (i := 453) (by decide +kernel), List.mem_of_getElem? (i := 451) (by decide +kernel), List.mem_of_getElem? (i := 452) (by decide +kernel)⟩
theorem lw_p2 : lw_okq (⟨"java/util/ArrayList", "add", "(Ljava/lang/Object;[Ljava/lang/Object;I)V"⟩, 3) := ⟨⟨by decide +kernel, by decide +kernel⟩, List.mem_of_getElem? (i := 42) (by decide +kernel), List.mem_of_getElem? (i := 545) (by decide +kernel), List.mem_of_getElem? (i := 546) (by decide +kernel)⟩
theorem lw_p3 : lw_okq (⟨"java/util/ArrayList", "grow", "()[Ljava/lang/Object;"⟩, 3) := ⟨⟨by decide +kernel, by decide +kernel⟩, List.mem_of_getElem? (i := 42) (by decide +kernel), List.mem_of_getElem? (i := 549) (by decide +kernel), List.mem_of_getElem? (i := 550) (by decide +kernel)⟩
theorem lw_p4 : lw_okq (⟨"java/util/ArrayList", "grow", "(I)[Ljava/lang/Object;"⟩, 3) := ⟨⟨by decide +kernel, by decide +kernel⟩, List.mem_of_getElem? (i := 42) (by decide +kernel), List.mem_of_getElem? (i := 553) (by decide +kernel), List.mem_of_getElem? (i := 554) (by decide +kernel)⟩
theorem lw_p5 : lw_okq (⟨"DurableLoom", "kindAt", "(I)LDurableLoom$Kind;"⟩, 18) := ⟨⟨by decide +kernel, by decide +kernel⟩, List.mem_of_getElem? (i := 30) (by decide +kernel), List.mem_of_getElem? (i := 612) (by decide +kernel), List.mem_of_getElem? (i := 613) (by decide +kernel)⟩
theorem lw_p6 : lw_okq (⟨"DurableLoom", "checkTenant", "(I)V"⟩, 18) := ⟨⟨by decide +kernel, by decide +kernel⟩, List.mem_of_getElem? (i := 30) (by decide +kernel), List.mem_of_getElem? (i := 634) (by decide +kernel), List.mem_of_getElem? (i := 635) (by decide +kernel)⟩
theorem lw_p7 : lw_okq (⟨"DurableLoom", "checkValue", "(I)V"⟩, 18) := ⟨⟨by decide +kernel, by decide +kernel⟩, List.mem_of_getElem? (i := 30) (by decide +kernel), List.mem_of_getElem? (i := 639) (by decide +kernel), List.mem_of_getElem? (i := 640) (by decide +kernel)⟩
theorem lw_p8 : lw_okq (⟨"DurableLoom", "startRun", "(IIIII)LDurableLoom$Run;"⟩, 18) := ⟨⟨by decide +kernel, by decide +kernel⟩, List.mem_of_getElem? (i := 30) (by decide +kernel), List.mem_of_getElem? (i := 649) (by decide +kernel), List.mem_of_getElem? (i := 650) (by decide +kernel)⟩
theorem lw_p9 : lw_okq (⟨"DurableLoom", "addRun", "(IIIII)LDurableLoom$Run;"⟩, 18) := ⟨⟨by decide +kernel, by decide +kernel⟩, List.mem_of_getElem? (i := 30) (by decide +kernel), List.mem_of_getElem? (i := 656) (by decide +kernel), List.mem_of_getElem? (i := 657) (by decide +kernel)⟩
theorem lw_p10 : lw_okq (⟨"DurableLoom", "arrive", "(LDurableLoom$Run;III)V"⟩, 18) := ⟨⟨by decide +kernel, by decide +kernel⟩, List.mem_of_getElem? (i := 30) (by decide +kernel), List.mem_of_getElem? (i := 756) (by decide +kernel), List.mem_of_getElem? (i := 757) (by decide +kernel)⟩
theorem lw_p11 : lw_okq (⟨"DurableLoom", "runAt", "(I)LDurableLoom$Run;"⟩, 18) := ⟨⟨by decide +kernel, by decide +kernel⟩, List.mem_of_getElem? (i := 30) (by decide +kernel), List.mem_of_getElem? (i := 775) (by decide +kernel), List.mem_of_getElem? (i := 776) (by decide +kernel)⟩
theorem lw_p12 : lw_okq (⟨"DurableLoom", "checkName", "(I)V"⟩, 18) := ⟨⟨by decide +kernel, by decide +kernel⟩, List.mem_of_getElem? (i := 30) (by decide +kernel), List.mem_of_getElem? (i := 794) (by decide +kernel), List.mem_of_getElem? (i := 795) (by decide +kernel)⟩
theorem lw_p13 : lw_okq (⟨"DurableLoom", "codeOf", "(LDurableLoom$Run;I)LDurableLoom$Row;"⟩, 18) := ⟨⟨by decide +kernel, by decide +kernel⟩, List.mem_of_getElem? (i := 30) (by decide +kernel), List.mem_of_getElem? (i := 812) (by decide +kernel), List.mem_of_getElem? (i := 813) (by decide +kernel)⟩
theorem lw_p14 : lw_okq (⟨"DurableLoom", "typeOf", "(LDurableLoom$Run;)LDurableLoom$Type;"⟩, 18) := ⟨⟨by decide +kernel, by decide +kernel⟩, List.mem_of_getElem? (i := 30) (by decide +kernel), List.mem_of_getElem? (i := 816) (by decide +kernel), List.mem_of_getElem? (i := 817) (by decide +kernel)⟩
theorem lw_p15 : lw_okq (⟨"DurableLoom$Machine", "load", "(LDurableLoom$Run;LDurableLoom$Row;I)V"⟩, 12) := ⟨⟨by decide +kernel, by decide +kernel⟩, List.mem_of_getElem? (i := 92) (by decide +kernel), List.mem_of_getElem? (i := 830) (by decide +kernel), List.mem_of_getElem? (i := 831) (by decide +kernel)⟩
def lw_privs_1 : List (MethodName × Nat) := [(⟨"DurableLoom", "typeAt", "(I)LDurableLoom$Type;"⟩, 18), (⟨"java/lang/Throwable", "fillInStackTrace", "(I)Ljava/lang/Throwable;"⟩, 6), (⟨"java/util/ArrayList", "add", "(Ljava/lang/Object;[Ljava/lang/Object;I)V"⟩, 3), (⟨"java/util/ArrayList", "grow", "()[Ljava/lang/Object;"⟩, 3), (⟨"java/util/ArrayList", "grow", "(I)[Ljava/lang/Object;"⟩, 3), (⟨"DurableLoom", "kindAt", "(I)LDurableLoom$Kind;"⟩, 18), (⟨"DurableLoom", "checkTenant", "(I)V"⟩, 18), (⟨"DurableLoom", "checkValue", "(I)V"⟩, 18), (⟨"DurableLoom", "startRun", "(IIIII)LDurableLoom$Run;"⟩, 18), (⟨"DurableLoom", "addRun", "(IIIII)LDurableLoom$Run;"⟩, 18), (⟨"DurableLoom", "arrive", "(LDurableLoom$Run;III)V"⟩, 18), (⟨"DurableLoom", "runAt", "(I)LDurableLoom$Run;"⟩, 18), (⟨"DurableLoom", "checkName", "(I)V"⟩, 18), (⟨"DurableLoom", "codeOf", "(LDurableLoom$Run;I)LDurableLoom$Row;"⟩, 18), (⟨"DurableLoom", "typeOf", "(LDurableLoom$Run;)LDurableLoom$Type;"⟩, 18), (⟨"DurableLoom$Machine", "load", "(LDurableLoom$Run;LDurableLoom$Row;I)V"⟩, 12)]
theorem lw_r1 : ∀ q ∈ lw_privs_1, lw_okq q := List.forall_mem_cons.mpr ⟨lw_p0, List.forall_mem_cons.mpr ⟨lw_p1, List.forall_mem_cons.mpr ⟨lw_p2, List.forall_mem_cons.mpr ⟨lw_p3, List.forall_mem_cons.mpr ⟨lw_p4, List.forall_mem_cons.mpr ⟨lw_p5, List.forall_mem_cons.mpr ⟨lw_p6, List.forall_mem_cons.mpr ⟨lw_p7, List.forall_mem_cons.mpr ⟨lw_p8, List.forall_mem_cons.mpr ⟨lw_p9, List.forall_mem_cons.mpr ⟨lw_p10, List.forall_mem_cons.mpr ⟨lw_p11, List.forall_mem_cons.mpr ⟨lw_p12, List.forall_mem_cons.mpr ⟨lw_p13, List.forall_mem_cons.mpr ⟨lw_p14, List.forall_mem_cons.mpr ⟨lw_p15, fun _ h => absurd h List.not_mem_nil⟩⟩⟩⟩⟩⟩⟩⟩⟩⟩⟩⟩⟩⟩⟩⟩
theorem lw_p16 : lw_okq (⟨"DurableLoom$History", "countAgain", "()V"⟩, 5) := ⟨⟨by decide +kernel, by decide +kernel⟩, List.mem_of_getElem? (i := 218) (by decide +kernel), List.mem_of_getElem? (i := 862) (by decide +kernel), List.mem_of_getElem? (i := 863) (by decide +kernel)⟩
theorem lw_p17 : lw_okq (⟨"DurableLoom$Machine", "goes", "()Z"⟩, 12) := ⟨⟨by decide +kernel, by decide +kernel⟩, List.mem_of_getElem? (i := 92) (by decide +kernel), List.mem_of_getElem? (i := 878) (by decide +kernel), List.mem_of_getElem? (i := 879) (by decide +kernel)⟩
theorem lw_p18 : lw_okq (⟨"DurableLoom$Machine", "note", "(III)V"⟩, 12) := ⟨⟨by decide +kernel, by decide +kernel⟩, List.mem_of_getElem? (i := 92) (by decide +kernel), List.mem_of_getElem? (i := 894) (by decide +kernel), List.mem_of_getElem? (i := 895) (by decide +kernel)⟩
theorem lw_p19 : lw_okq (⟨"DurableLoom$Machine", "tellCancel", "()V"⟩, 12) := ⟨⟨by decide +kernel, by decide +kernel⟩, List.mem_of_getElem? (i := 92) (by decide +kernel), List.mem_of_getElem? (i := 916) (by decide +kernel), List.mem_of_getElem? (i := 917) (by decide +kernel)⟩
theorem lw_p20 : lw_okq (⟨"DurableLoom$Machine", "command", "(III)I"⟩, 12) := ⟨⟨by decide +kernel, by decide +kernel⟩, List.mem_of_getElem? (i := 92) (by decide +kernel), List.mem_of_getElem? (i := 928) (by decide +kernel), List.mem_of_getElem? (i := 929) (by decide +kernel)⟩
theorem lw_p21 : lw_okq (⟨"DurableLoom$Machine", "seen", "()I"⟩, 12) := ⟨⟨by decide +kernel, by decide +kernel⟩, List.mem_of_getElem? (i := 92) (by decide +kernel), List.mem_of_getElem? (i := 937) (by decide +kernel), List.mem_of_getElem? (i := 938) (by decide +kernel)⟩
theorem lw_p22 : lw_okq (⟨"DurableLoom$Machine", "getStuck", "(I)V"⟩, 12) := ⟨⟨by decide +kernel, by decide +kernel⟩, List.mem_of_getElem? (i := 92) (by decide +kernel), List.mem_of_getElem? (i := 945) (by decide +kernel), List.mem_of_getElem? (i := 946) (by decide +kernel)⟩
theorem lw_p23 : lw_okq (⟨"DurableLoom$Machine", "failBranch", "(LDurableLoom$Branch;)V"⟩, 12) := ⟨⟨by decide +kernel, by decide +kernel⟩, List.mem_of_getElem? (i := 92) (by decide +kernel), List.mem_of_getElem? (i := 954) (by decide +kernel), List.mem_of_getElem? (i := 955) (by decide +kernel)⟩
theorem lw_p24 : lw_okq (⟨"DurableLoom$Machine", "noteFailure", "(LDurableLoom$Branch;)V"⟩, 12) := ⟨⟨by decide +kernel, by decide +kernel⟩, List.mem_of_getElem? (i := 92) (by decide +kernel), List.mem_of_getElem? (i := 977) (by decide +kernel), List.mem_of_getElem? (i := 978) (by decide +kernel)⟩
theorem lw_p25 : lw_okq (⟨"DurableLoom$Machine", "noteEnd", "(LDurableLoom$Branch;II)V"⟩, 12) := ⟨⟨by decide +kernel, by decide +kernel⟩, List.mem_of_getElem? (i := 92) (by decide +kernel), List.mem_of_getElem? (i := 981) (by decide +kernel), List.mem_of_getElem? (i := 982) (by decide +kernel)⟩
theorem lw_p26 : lw_okq (⟨"DurableLoom$Machine", "goOn", "()V"⟩, 12) := ⟨⟨by decide +kernel, by decide +kernel⟩, List.mem_of_getElem? (i := 92) (by decide +kernel), List.mem_of_getElem? (i := 990) (by decide +kernel), List.mem_of_getElem? (i := 991) (by decide +kernel)⟩
theorem lw_p27 : lw_okq (⟨"DurableLoom$State", "isAble", "(LDurableLoom$Branch;)Z"⟩, 14) := ⟨⟨by decide +kernel, by decide +kernel⟩, List.mem_of_getElem? (i := 98) (by decide +kernel), List.mem_of_getElem? (i := 998) (by decide +kernel), List.mem_of_getElem? (i := 999) (by decide +kernel)⟩
theorem lw_p28 : lw_okq (⟨"DurableLoom$State", "isParent", "(I)Z"⟩, 14) := ⟨⟨by decide +kernel, by decide +kernel⟩, List.mem_of_getElem? (i := 98) (by decide +kernel), List.mem_of_getElem? (i := 1003) (by decide +kernel), List.mem_of_getElem? (i := 1004) (by decide +kernel)⟩
theorem lw_p29 : lw_okq (⟨"DurableLoom$Machine", "awake", "(LDurableLoom$Branch;)V"⟩, 12) := ⟨⟨by decide +kernel, by decide +kernel⟩, List.mem_of_getElem? (i := 92) (by decide +kernel), List.mem_of_getElem? (i := 1007) (by decide +kernel), List.mem_of_getElem? (i := 1008) (by decide +kernel)⟩
theorem lw_p30 : lw_okq (⟨"DurableLoom$Row", "put", "(IJ)V"⟩, 3) := ⟨⟨by decide +kernel, by decide +kernel⟩, List.mem_of_getElem? (i := 68) (by decide +kernel), List.mem_of_getElem? (i := 1015) (by decide +kernel), List.mem_of_getElem? (i := 1016) (by decide +kernel)⟩
theorem lw_p31 : lw_okq (⟨"DurableLoom$Machine", "endBranch", "(LDurableLoom$Branch;)V"⟩, 12) := ⟨⟨by decide +kernel, by decide +kernel⟩, List.mem_of_getElem? (i := 92) (by decide +kernel), List.mem_of_getElem? (i := 1019) (by decide +kernel), List.mem_of_getElem? (i := 1020) (by decide +kernel)⟩
def lw_privs_2 : List (MethodName × Nat) := [(⟨"DurableLoom$History", "countAgain", "()V"⟩, 5), (⟨"DurableLoom$Machine", "goes", "()Z"⟩, 12), (⟨"DurableLoom$Machine", "note", "(III)V"⟩, 12), (⟨"DurableLoom$Machine", "tellCancel", "()V"⟩, 12), (⟨"DurableLoom$Machine", "command", "(III)I"⟩, 12), (⟨"DurableLoom$Machine", "seen", "()I"⟩, 12), (⟨"DurableLoom$Machine", "getStuck", "(I)V"⟩, 12), (⟨"DurableLoom$Machine", "failBranch", "(LDurableLoom$Branch;)V"⟩, 12), (⟨"DurableLoom$Machine", "noteFailure", "(LDurableLoom$Branch;)V"⟩, 12), (⟨"DurableLoom$Machine", "noteEnd", "(LDurableLoom$Branch;II)V"⟩, 12), (⟨"DurableLoom$Machine", "goOn", "()V"⟩, 12), (⟨"DurableLoom$State", "isAble", "(LDurableLoom$Branch;)Z"⟩, 14), (⟨"DurableLoom$State", "isParent", "(I)Z"⟩, 14), (⟨"DurableLoom$Machine", "awake", "(LDurableLoom$Branch;)V"⟩, 12), (⟨"DurableLoom$Row", "put", "(IJ)V"⟩, 3), (⟨"DurableLoom$Machine", "endBranch", "(LDurableLoom$Branch;)V"⟩, 12)]
theorem lw_r2 : ∀ q ∈ lw_privs_2, lw_okq q := List.forall_mem_cons.mpr ⟨lw_p16, List.forall_mem_cons.mpr ⟨lw_p17, List.forall_mem_cons.mpr ⟨lw_p18, List.forall_mem_cons.mpr ⟨lw_p19, List.forall_mem_cons.mpr ⟨lw_p20, List.forall_mem_cons.mpr ⟨lw_p21, List.forall_mem_cons.mpr ⟨lw_p22, List.forall_mem_cons.mpr ⟨lw_p23, List.forall_mem_cons.mpr ⟨lw_p24, List.forall_mem_cons.mpr ⟨lw_p25, List.forall_mem_cons.mpr ⟨lw_p26, List.forall_mem_cons.mpr ⟨lw_p27, List.forall_mem_cons.mpr ⟨lw_p28, List.forall_mem_cons.mpr ⟨lw_p29, List.forall_mem_cons.mpr ⟨lw_p30, List.forall_mem_cons.mpr ⟨lw_p31, fun _ h => absurd h List.not_mem_nil⟩⟩⟩⟩⟩⟩⟩⟩⟩⟩⟩⟩⟩⟩⟩⟩
theorem lw_p32 : lw_okq (⟨"DurableLoom$Machine", "doPlainLine", "(LDurableLoom$Branch;III)V"⟩, 12) := ⟨⟨by decide +kernel, by decide +kernel⟩, List.mem_of_getElem? (i := 92) (by decide +kernel), List.mem_of_getElem? (i := 1032) (by decide +kernel), List.mem_of_getElem? (i := 1033) (by decide +kernel)⟩
theorem lw_p33 : lw_okq (⟨"DurableLoom$Machine", "doBranchLine", "(LDurableLoom$Branch;II)V"⟩, 12) := ⟨⟨by decide +kernel, by decide +kernel⟩, List.mem_of_getElem? (i := 92) (by decide +kernel), List.mem_of_getElem? (i := 1040) (by decide +kernel), List.mem_of_getElem? (i := 1041) (by decide +kernel)⟩
theorem lw_p34 : lw_okq (⟨"DurableLoom$Machine", "beginBelow", "(LDurableLoom$Branch;I)LDurableLoom$Branch;"⟩, 12) := ⟨⟨by decide +kernel, by decide +kernel⟩, List.mem_of_getElem? (i := 92) (by decide +kernel), List.mem_of_getElem? (i := 1044) (by decide +kernel), List.mem_of_getElem? (i := 1045) (by decide +kernel)⟩
theorem lw_p35 : lw_okq (⟨"DurableLoom$Machine", "race", "(LDurableLoom$Branch;LDurableLoom$Branch;)V"⟩, 12) := ⟨⟨by decide +kernel, by decide +kernel⟩, List.mem_of_getElem? (i := 92) (by decide +kernel), List.mem_of_getElem? (i := 1052) (by decide +kernel), List.mem_of_getElem? (i := 1053) (by decide +kernel)⟩
theorem lw_p36 : lw_okq (⟨"DurableLoom$Machine", "win", "(LDurableLoom$Branch;)V"⟩, 12) := ⟨⟨by decide +kernel, by decide +kernel⟩, List.mem_of_getElem? (i := 92) (by decide +kernel), List.mem_of_getElem? (i := 1056) (by decide +kernel), List.mem_of_getElem? (i := 1057) (by decide +kernel)⟩
theorem lw_p37 : lw_okq (⟨"DurableLoom$Machine", "dropDoomed", "()V"⟩, 12) := ⟨⟨by decide +kernel, by decide +kernel⟩, List.mem_of_getElem? (i := 92) (by decide +kernel), List.mem_of_getElem? (i := 1065) (by decide +kernel), List.mem_of_getElem? (i := 1066) (by decide +kernel)⟩
theorem lw_p38 : lw_okq (⟨"DurableLoom$Machine", "doEndingLine", "(LDurableLoom$Branch;III)V"⟩, 12) := ⟨⟨by decide +kernel, by decide +kernel⟩, List.mem_of_getElem? (i := 92) (by decide +kernel), List.mem_of_getElem? (i := 1074) (by decide +kernel), List.mem_of_getElem? (i := 1075) (by decide +kernel)⟩
theorem lw_p39 : lw_okq (⟨"DurableLoom$Machine", "undo", "(LDurableLoom$Branch;)V"⟩, 12) := ⟨⟨by decide +kernel, by decide +kernel⟩, List.mem_of_getElem? (i := 92) (by decide +kernel), List.mem_of_getElem? (i := 1078) (by decide +kernel), List.mem_of_getElem? (i := 1079) (by decide +kernel)⟩
theorem lw_p40 : lw_okq (⟨"DurableLoom$Machine", "doOtherLine", "(LDurableLoom$Branch;III)V"⟩, 12) := ⟨⟨by decide +kernel, by decide +kernel⟩, List.mem_of_getElem? (i := 92) (by decide +kernel), List.mem_of_getElem? (i := 1082) (by decide +kernel), List.mem_of_getElem? (i := 1083) (by decide +kernel)⟩
theorem lw_p41 : lw_okq (⟨"DurableLoom$Machine", "patch", "(I)Z"⟩, 12) := ⟨⟨by decide +kernel, by decide +kernel⟩, List.mem_of_getElem? (i := 92) (by decide +kernel), List.mem_of_getElem? (i := 1086) (by decide +kernel), List.mem_of_getElem? (i := 1087) (by decide +kernel)⟩
theorem lw_p42 : lw_okq (⟨"DurableLoom$Machine", "passTasks", "()V"⟩, 12) := ⟨⟨by decide +kernel, by decide +kernel⟩, List.mem_of_getElem? (i := 92) (by decide +kernel), List.mem_of_getElem? (i := 1099) (by decide +kernel), List.mem_of_getElem? (i := 1100) (by decide +kernel)⟩
theorem lw_p43 : lw_okq (⟨"DurableLoom", "cancelRun", "(LDurableLoom$Run;)Z"⟩, 18) := ⟨⟨by decide +kernel, by decide +kernel⟩, List.mem_of_getElem? (i := 30) (by decide +kernel), List.mem_of_getElem? (i := 1123) (by decide +kernel), List.mem_of_getElem? (i := 1124) (by decide +kernel)⟩
theorem lw_p44 : lw_okq (⟨"DurableLoom", "checkVariable", "(I)V"⟩, 18) := ⟨⟨by decide +kernel, by decide +kernel⟩, List.mem_of_getElem? (i := 30) (by decide +kernel), List.mem_of_getElem? (i := 1138) (by decide +kernel), List.mem_of_getElem? (i := 1139) (by decide +kernel)⟩
theorem lw_p45 : lw_okq (⟨"DurableLoom", "checkWorker", "(I)V"⟩, 18) := ⟨⟨by decide +kernel, by decide +kernel⟩, List.mem_of_getElem? (i := 30) (by decide +kernel), List.mem_of_getElem? (i := 1194) (by decide +kernel), List.mem_of_getElem? (i := 1195) (by decide +kernel)⟩
theorem lw_p46 : lw_okq (⟨"DurableLoom", "firstRunWithWork", "(I)LDurableLoom$Run;"⟩, 18) := ⟨⟨by decide +kernel, by decide +kernel⟩, List.mem_of_getElem? (i := 30) (by decide +kernel), List.mem_of_getElem? (i := 1199) (by decide +kernel), List.mem_of_getElem? (i := 1200) (by decide +kernel)⟩
theorem lw_p47 : lw_okq (⟨"DurableLoom", "isHeld", "(LDurableLoom$Run;)Z"⟩, 18) := ⟨⟨by decide +kernel, by decide +kernel⟩, List.mem_of_getElem? (i := 30) (by decide +kernel), List.mem_of_getElem? (i := 1207) (by decide +kernel), List.mem_of_getElem? (i := 1208) (by decide +kernel)⟩
def lw_privs_3 : List (MethodName × Nat) := [(⟨"DurableLoom$Machine", "doPlainLine", "(LDurableLoom$Branch;III)V"⟩, 12), (⟨"DurableLoom$Machine", "doBranchLine", "(LDurableLoom$Branch;II)V"⟩, 12), (⟨"DurableLoom$Machine", "beginBelow", "(LDurableLoom$Branch;I)LDurableLoom$Branch;"⟩, 12), (⟨"DurableLoom$Machine", "race", "(LDurableLoom$Branch;LDurableLoom$Branch;)V"⟩, 12), (⟨"DurableLoom$Machine", "win", "(LDurableLoom$Branch;)V"⟩, 12), (⟨"DurableLoom$Machine", "dropDoomed", "()V"⟩, 12), (⟨"DurableLoom$Machine", "doEndingLine", "(LDurableLoom$Branch;III)V"⟩, 12), (⟨"DurableLoom$Machine", "undo", "(LDurableLoom$Branch;)V"⟩, 12), (⟨"DurableLoom$Machine", "doOtherLine", "(LDurableLoom$Branch;III)V"⟩, 12), (⟨"DurableLoom$Machine", "patch", "(I)Z"⟩, 12), (⟨"DurableLoom$Machine", "passTasks", "()V"⟩, 12), (⟨"DurableLoom", "cancelRun", "(LDurableLoom$Run;)Z"⟩, 18), (⟨"DurableLoom", "checkVariable", "(I)V"⟩, 18), (⟨"DurableLoom", "checkWorker", "(I)V"⟩, 18), (⟨"DurableLoom", "firstRunWithWork", "(I)LDurableLoom$Run;"⟩, 18), (⟨"DurableLoom", "isHeld", "(LDurableLoom$Run;)Z"⟩, 18)]
theorem lw_r3 : ∀ q ∈ lw_privs_3, lw_okq q := List.forall_mem_cons.mpr ⟨lw_p32, List.forall_mem_cons.mpr ⟨lw_p33, List.forall_mem_cons.mpr ⟨lw_p34, List.forall_mem_cons.mpr ⟨lw_p35, List.forall_mem_cons.mpr ⟨lw_p36, List.forall_mem_cons.mpr ⟨lw_p37, List.forall_mem_cons.mpr ⟨lw_p38, List.forall_mem_cons.mpr ⟨lw_p39, List.forall_mem_cons.mpr ⟨lw_p40, List.forall_mem_cons.mpr ⟨lw_p41, List.forall_mem_cons.mpr ⟨lw_p42, List.forall_mem_cons.mpr ⟨lw_p43, List.forall_mem_cons.mpr ⟨lw_p44, List.forall_mem_cons.mpr ⟨lw_p45, List.forall_mem_cons.mpr ⟨lw_p46, List.forall_mem_cons.mpr ⟨lw_p47, fun _ h => absurd h List.not_mem_nil⟩⟩⟩⟩⟩⟩⟩⟩⟩⟩⟩⟩⟩⟩⟩⟩
theorem lw_p48 : lw_okq (⟨"DurableLoom", "givenTo", "(I)I"⟩, 18) := ⟨⟨by decide +kernel, by decide +kernel⟩, List.mem_of_getElem? (i := 30) (by decide +kernel), List.mem_of_getElem? (i := 1221) (by decide +kernel), List.mem_of_getElem? (i := 1222) (by decide +kernel)⟩
theorem lw_p49 : lw_okq (⟨"DurableLoom", "countGiven", "(I)V"⟩, 18) := ⟨⟨by decide +kernel, by decide +kernel⟩, List.mem_of_getElem? (i := 30) (by decide +kernel), List.mem_of_getElem? (i := 1225) (by decide +kernel), List.mem_of_getElem? (i := 1226) (by decide +kernel)⟩
theorem lw_p50 : lw_okq (⟨"DurableLoom", "isStale", "(LDurableLoom$Task;)Z"⟩, 18) := ⟨⟨by decide +kernel, by decide +kernel⟩, List.mem_of_getElem? (i := 30) (by decide +kernel), List.mem_of_getElem? (i := 1271) (by decide +kernel), List.mem_of_getElem? (i := 1272) (by decide +kernel)⟩
theorem lw_p51 : lw_okq (⟨"DurableLoom", "countReplay", "(I)V"⟩, 18) := ⟨⟨by decide +kernel, by decide +kernel⟩, List.mem_of_getElem? (i := 30) (by decide +kernel), List.mem_of_getElem? (i := 1281) (by decide +kernel), List.mem_of_getElem? (i := 1282) (by decide +kernel)⟩
theorem lw_p52 : lw_okq (⟨"DurableLoom", "putNews", "(LDurableLoom$Run;LDurableLoom$Task;Z)I"⟩, 18) := ⟨⟨by decide +kernel, by decide +kernel⟩, List.mem_of_getElem? (i := 30) (by decide +kernel), List.mem_of_getElem? (i := 1289) (by decide +kernel), List.mem_of_getElem? (i := 1290) (by decide +kernel)⟩
theorem lw_p53 : lw_okq (⟨"DurableLoom", "carryOut", "(LDurableLoom$Run;I)V"⟩, 18) := ⟨⟨by decide +kernel, by decide +kernel⟩, List.mem_of_getElem? (i := 30) (by decide +kernel), List.mem_of_getElem? (i := 1297) (by decide +kernel), List.mem_of_getElem? (i := 1298) (by decide +kernel)⟩
theorem lw_p54 : lw_okq (⟨"DurableLoom", "makeActivity", "(LDurableLoom$Run;III)V"⟩, 18) := ⟨⟨by decide +kernel, by decide +kernel⟩, List.mem_of_getElem? (i := 30) (by decide +kernel), List.mem_of_getElem? (i := 1301) (by decide +kernel), List.mem_of_getElem? (i := 1302) (by decide +kernel)⟩
theorem lw_p55 : lw_okq (⟨"DurableLoom", "beginChild", "(LDurableLoom$Run;III)V"⟩, 18) := ⟨⟨by decide +kernel, by decide +kernel⟩, List.mem_of_getElem? (i := 30) (by decide +kernel), List.mem_of_getElem? (i := 1361) (by decide +kernel), List.mem_of_getElem? (i := 1362) (by decide +kernel)⟩
theorem lw_p56 : lw_okq (⟨"DurableLoom", "dropEvent", "(LDurableLoom$Run;I)V"⟩, 18) := ⟨⟨by decide +kernel, by decide +kernel⟩, List.mem_of_getElem? (i := 30) (by decide +kernel), List.mem_of_getElem? (i := 1365) (by decide +kernel), List.mem_of_getElem? (i := 1366) (by decide +kernel)⟩
theorem lw_p57 : lw_okq (⟨"DurableLoom", "queueTag", "(LDurableLoom$Run;I)V"⟩, 18) := ⟨⟨by decide +kernel, by decide +kernel⟩, List.mem_of_getElem? (i := 30) (by decide +kernel), List.mem_of_getElem? (i := 1375) (by decide +kernel), List.mem_of_getElem? (i := 1376) (by decide +kernel)⟩
theorem lw_p58 : lw_okq (⟨"DurableLoom", "closeRun", "(LDurableLoom$Run;III)V"⟩, 18) := ⟨⟨by decide +kernel, by decide +kernel⟩, List.mem_of_getElem? (i := 30) (by decide +kernel), List.mem_of_getElem? (i := 1380) (by decide +kernel), List.mem_of_getElem? (i := 1381) (by decide +kernel)⟩
theorem lw_p59 : lw_okq (⟨"DurableLoom", "endWork", "(LDurableLoom$Run;)V"⟩, 18) := ⟨⟨by decide +kernel, by decide +kernel⟩, List.mem_of_getElem? (i := 30) (by decide +kernel), List.mem_of_getElem? (i := 1384) (by decide +kernel), List.mem_of_getElem? (i := 1385) (by decide +kernel)⟩
theorem lw_p60 : lw_okq (⟨"DurableLoom", "dealWithChildren", "(LDurableLoom$Run;I)V"⟩, 18) := ⟨⟨by decide +kernel, by decide +kernel⟩, List.mem_of_getElem? (i := 30) (by decide +kernel), List.mem_of_getElem? (i := 1389) (by decide +kernel), List.mem_of_getElem? (i := 1390) (by decide +kernel)⟩
theorem lw_p61 : lw_okq (⟨"DurableLoom", "parentOf", "(LDurableLoom$Run;)LDurableLoom$Run;"⟩, 18) := ⟨⟨by decide +kernel, by decide +kernel⟩, List.mem_of_getElem? (i := 30) (by decide +kernel), List.mem_of_getElem? (i := 1393) (by decide +kernel), List.mem_of_getElem? (i := 1394) (by decide +kernel)⟩
theorem lw_p62 : lw_okq (⟨"DurableLoom", "goOnAsNew", "(LDurableLoom$Run;I)V"⟩, 18) := ⟨⟨by decide +kernel, by decide +kernel⟩, List.mem_of_getElem? (i := 30) (by decide +kernel), List.mem_of_getElem? (i := 1397) (by decide +kernel), List.mem_of_getElem? (i := 1398) (by decide +kernel)⟩
theorem lw_p63 : lw_okq (⟨"DurableLoom", "sendSignals", "(LDurableLoom$Run;LDurableLoom$History;I)V"⟩, 18) := ⟨⟨by decide +kernel, by decide +kernel⟩, List.mem_of_getElem? (i := 30) (by decide +kernel), List.mem_of_getElem? (i := 1403) (by decide +kernel), List.mem_of_getElem? (i := 1404) (by decide +kernel)⟩
def lw_privs_4 : List (MethodName × Nat) := [(⟨"DurableLoom", "givenTo", "(I)I"⟩, 18), (⟨"DurableLoom", "countGiven", "(I)V"⟩, 18), (⟨"DurableLoom", "isStale", "(LDurableLoom$Task;)Z"⟩, 18), (⟨"DurableLoom", "countReplay", "(I)V"⟩, 18), (⟨"DurableLoom", "putNews", "(LDurableLoom$Run;LDurableLoom$Task;Z)I"⟩, 18), (⟨"DurableLoom", "carryOut", "(LDurableLoom$Run;I)V"⟩, 18), (⟨"DurableLoom", "makeActivity", "(LDurableLoom$Run;III)V"⟩, 18), (⟨"DurableLoom", "beginChild", "(LDurableLoom$Run;III)V"⟩, 18), (⟨"DurableLoom", "dropEvent", "(LDurableLoom$Run;I)V"⟩, 18), (⟨"DurableLoom", "queueTag", "(LDurableLoom$Run;I)V"⟩, 18), (⟨"DurableLoom", "closeRun", "(LDurableLoom$Run;III)V"⟩, 18), (⟨"DurableLoom", "endWork", "(LDurableLoom$Run;)V"⟩, 18), (⟨"DurableLoom", "dealWithChildren", "(LDurableLoom$Run;I)V"⟩, 18), (⟨"DurableLoom", "parentOf", "(LDurableLoom$Run;)LDurableLoom$Run;"⟩, 18), (⟨"DurableLoom", "goOnAsNew", "(LDurableLoom$Run;I)V"⟩, 18), (⟨"DurableLoom", "sendSignals", "(LDurableLoom$Run;LDurableLoom$History;I)V"⟩, 18)]
theorem lw_r4 : ∀ q ∈ lw_privs_4, lw_okq q := List.forall_mem_cons.mpr ⟨lw_p48, List.forall_mem_cons.mpr ⟨lw_p49, List.forall_mem_cons.mpr ⟨lw_p50, List.forall_mem_cons.mpr ⟨lw_p51, List.forall_mem_cons.mpr ⟨lw_p52, List.forall_mem_cons.mpr ⟨lw_p53, List.forall_mem_cons.mpr ⟨lw_p54, List.forall_mem_cons.mpr ⟨lw_p55, List.forall_mem_cons.mpr ⟨lw_p56, List.forall_mem_cons.mpr ⟨lw_p57, List.forall_mem_cons.mpr ⟨lw_p58, List.forall_mem_cons.mpr ⟨lw_p59, List.forall_mem_cons.mpr ⟨lw_p60, List.forall_mem_cons.mpr ⟨lw_p61, List.forall_mem_cons.mpr ⟨lw_p62, List.forall_mem_cons.mpr ⟨lw_p63, fun _ h => absurd h List.not_mem_nil⟩⟩⟩⟩⟩⟩⟩⟩⟩⟩⟩⟩⟩⟩⟩⟩
theorem lw_p64 : lw_okq (⟨"DurableLoom", "activityAt", "(I)LDurableLoom$Activity;"⟩, 18) := ⟨⟨by decide +kernel, by decide +kernel⟩, List.mem_of_getElem? (i := 30) (by decide +kernel), List.mem_of_getElem? (i := 1439) (by decide +kernel), List.mem_of_getElem? (i := 1440) (by decide +kernel)⟩
theorem lw_p65 : lw_okq (⟨"DurableLoom", "failAttempt", "(LDurableLoom$Activity;Z)V"⟩, 18) := ⟨⟨by decide +kernel, by decide +kernel⟩, List.mem_of_getElem? (i := 30) (by decide +kernel), List.mem_of_getElem? (i := 1451) (by decide +kernel), List.mem_of_getElem? (i := 1452) (by decide +kernel)⟩
theorem lw_p66 : lw_okq (⟨"DurableLoom", "beginTick", "()V"⟩, 18) := ⟨⟨by decide +kernel, by decide +kernel⟩, List.mem_of_getElem? (i := 30) (by decide +kernel), List.mem_of_getElem? (i := 1477) (by decide +kernel), List.mem_of_getElem? (i := 1478) (by decide +kernel)⟩
theorem lw_p67 : lw_okq (⟨"DurableLoom", "fireTimers", "(LDurableLoom$Run;)V"⟩, 18) := ⟨⟨by decide +kernel, by decide +kernel⟩, List.mem_of_getElem? (i := 30) (by decide +kernel), List.mem_of_getElem? (i := 1481) (by decide +kernel), List.mem_of_getElem? (i := 1482) (by decide +kernel)⟩
theorem lw_p68 : lw_okq (⟨"DurableLoom", "lookAtActivity", "(LDurableLoom$Activity;)V"⟩, 18) := ⟨⟨by decide +kernel, by decide +kernel⟩, List.mem_of_getElem? (i := 30) (by decide +kernel), List.mem_of_getElem? (i := 1486) (by decide +kernel), List.mem_of_getElem? (i := 1487) (by decide +kernel)⟩
theorem lw_p69 : lw_okq (⟨"DurableLoom", "isReached", "(II)Z"⟩, 18) := ⟨⟨by decide +kernel, by decide +kernel⟩, List.mem_of_getElem? (i := 30) (by decide +kernel), List.mem_of_getElem? (i := 1490) (by decide +kernel), List.mem_of_getElem? (i := 1491) (by decide +kernel)⟩
theorem lw_p70 : lw_okq (⟨"DurableLoom", "lookAtSchedule", "(LDurableLoom$Schedule;)V"⟩, 18) := ⟨⟨by decide +kernel, by decide +kernel⟩, List.mem_of_getElem? (i := 30) (by decide +kernel), List.mem_of_getElem? (i := 1495) (by decide +kernel), List.mem_of_getElem? (i := 1496) (by decide +kernel)⟩
theorem lw_p71 : lw_okq (⟨"DurableLoom", "lastIsOpen", "(LDurableLoom$Schedule;)Z"⟩, 18) := ⟨⟨by decide +kernel, by decide +kernel⟩, List.mem_of_getElem? (i := 30) (by decide +kernel), List.mem_of_getElem? (i := 1499) (by decide +kernel), List.mem_of_getElem? (i := 1500) (by decide +kernel)⟩
theorem lw_p72 : lw_okq (⟨"DurableLoom", "startFor", "(LDurableLoom$Schedule;I)V"⟩, 18) := ⟨⟨by decide +kernel, by decide +kernel⟩, List.mem_of_getElem? (i := 30) (by decide +kernel), List.mem_of_getElem? (i := 1503) (by decide +kernel), List.mem_of_getElem? (i := 1504) (by decide +kernel)⟩
theorem lw_p73 : lw_okq (⟨"DurableLoom", "meetPoint", "(LDurableLoom$Schedule;I)V"⟩, 18) := ⟨⟨by decide +kernel, by decide +kernel⟩, List.mem_of_getElem? (i := 30) (by decide +kernel), List.mem_of_getElem? (i := 1512) (by decide +kernel), List.mem_of_getElem? (i := 1513) (by decide +kernel)⟩
theorem lw_p74 : lw_okq (⟨"DurableLoom", "checkVersion", "(LDurableLoom$Type;I)V"⟩, 18) := ⟨⟨by decide +kernel, by decide +kernel⟩, List.mem_of_getElem? (i := 30) (by decide +kernel), List.mem_of_getElem? (i := 1524) (by decide +kernel), List.mem_of_getElem? (i := 1525) (by decide +kernel)⟩
theorem lw_p75 : lw_okq (⟨"DurableLoom", "partFromChildren", "(II)V"⟩, 18) := ⟨⟨by decide +kernel, by decide +kernel⟩, List.mem_of_getElem? (i := 30) (by decide +kernel), List.mem_of_getElem? (i := 1558) (by decide +kernel), List.mem_of_getElem? (i := 1559) (by decide +kernel)⟩
theorem lw_p76 : lw_okq (⟨"DurableLoom", "restoreWork", "(LDurableLoom$Run;)V"⟩, 18) := ⟨⟨by decide +kernel, by decide +kernel⟩, List.mem_of_getElem? (i := 30) (by decide +kernel), List.mem_of_getElem? (i := 1562) (by decide +kernel), List.mem_of_getElem? (i := 1563) (by decide +kernel)⟩
theorem lw_p77 : lw_okq (⟨"DurableLoom", "loseEvents", "(LDurableLoom$Run;)I"⟩, 18) := ⟨⟨by decide +kernel, by decide +kernel⟩, List.mem_of_getElem? (i := 30) (by decide +kernel), List.mem_of_getElem? (i := 1591) (by decide +kernel), List.mem_of_getElem? (i := 1592) (by decide +kernel)⟩
theorem lw_p78 : lw_okq (⟨"DurableLoom", "scheduleAt", "(I)LDurableLoom$Schedule;"⟩, 18) := ⟨⟨by decide +kernel, by decide +kernel⟩, List.mem_of_getElem? (i := 30) (by decide +kernel), List.mem_of_getElem? (i := 1662) (by decide +kernel), List.mem_of_getElem? (i := 1663) (by decide +kernel)⟩
theorem lw_p79 : lw_okq (⟨"DurableLoomModel", "fails", "(I)Z"⟩, 130) := ⟨⟨by decide +kernel, by decide +kernel⟩, List.mem_of_getElem? (i := 1701) (by decide +kernel), List.mem_of_getElem? (i := 2124) (by decide +kernel), List.mem_of_getElem? (i := 2125) (by decide +kernel)⟩
def lw_privs_5 : List (MethodName × Nat) := [(⟨"DurableLoom", "activityAt", "(I)LDurableLoom$Activity;"⟩, 18), (⟨"DurableLoom", "failAttempt", "(LDurableLoom$Activity;Z)V"⟩, 18), (⟨"DurableLoom", "beginTick", "()V"⟩, 18), (⟨"DurableLoom", "fireTimers", "(LDurableLoom$Run;)V"⟩, 18), (⟨"DurableLoom", "lookAtActivity", "(LDurableLoom$Activity;)V"⟩, 18), (⟨"DurableLoom", "isReached", "(II)Z"⟩, 18), (⟨"DurableLoom", "lookAtSchedule", "(LDurableLoom$Schedule;)V"⟩, 18), (⟨"DurableLoom", "lastIsOpen", "(LDurableLoom$Schedule;)Z"⟩, 18), (⟨"DurableLoom", "startFor", "(LDurableLoom$Schedule;I)V"⟩, 18), (⟨"DurableLoom", "meetPoint", "(LDurableLoom$Schedule;I)V"⟩, 18), (⟨"DurableLoom", "checkVersion", "(LDurableLoom$Type;I)V"⟩, 18), (⟨"DurableLoom", "partFromChildren", "(II)V"⟩, 18), (⟨"DurableLoom", "restoreWork", "(LDurableLoom$Run;)V"⟩, 18), (⟨"DurableLoom", "loseEvents", "(LDurableLoom$Run;)I"⟩, 18), (⟨"DurableLoom", "scheduleAt", "(I)LDurableLoom$Schedule;"⟩, 18), (⟨"DurableLoomModel", "fails", "(I)Z"⟩, 130)]
theorem lw_r5 : ∀ q ∈ lw_privs_5, lw_okq q := List.forall_mem_cons.mpr ⟨lw_p64, List.forall_mem_cons.mpr ⟨lw_p65, List.forall_mem_cons.mpr ⟨lw_p66, List.forall_mem_cons.mpr ⟨lw_p67, List.forall_mem_cons.mpr ⟨lw_p68, List.forall_mem_cons.mpr ⟨lw_p69, List.forall_mem_cons.mpr ⟨lw_p70, List.forall_mem_cons.mpr ⟨lw_p71, List.forall_mem_cons.mpr ⟨lw_p72, List.forall_mem_cons.mpr ⟨lw_p73, List.forall_mem_cons.mpr ⟨lw_p74, List.forall_mem_cons.mpr ⟨lw_p75, List.forall_mem_cons.mpr ⟨lw_p76, List.forall_mem_cons.mpr ⟨lw_p77, List.forall_mem_cons.mpr ⟨lw_p78, List.forall_mem_cons.mpr ⟨lw_p79, fun _ h => absurd h List.not_mem_nil⟩⟩⟩⟩⟩⟩⟩⟩⟩⟩⟩⟩⟩⟩⟩⟩
theorem lw_p80 : lw_okq (⟨"DurableLoomModel", "makes", "(IIIIII)I"⟩, 130) := ⟨⟨by decide +kernel, by decide +kernel⟩, List.mem_of_getElem? (i := 1701) (by decide +kernel), List.mem_of_getElem? (i := 2153) (by decide +kernel), List.mem_of_getElem? (i := 2154) (by decide +kernel)⟩
theorem lw_p81 : lw_okq (⟨"DurableLoomModel", "puts", "(IIII)I"⟩, 130) := ⟨⟨by decide +kernel, by decide +kernel⟩, List.mem_of_getElem? (i := 1701) (by decide +kernel), List.mem_of_getElem? (i := 2157) (by decide +kernel), List.mem_of_getElem? (i := 2158) (by decide +kernel)⟩
theorem lw_p82 : lw_okq (⟨"DurableLoomModel", "at", "(II)I"⟩, 130) := ⟨⟨by decide +kernel, by decide +kernel⟩, List.mem_of_getElem? (i := 1701) (by decide +kernel), List.mem_of_getElem? (i := 2161) (by decide +kernel), List.mem_of_getElem? (i := 2162) (by decide +kernel)⟩
theorem lw_p83 : lw_okq (⟨"DurableLoomModel", "counts", "(III)V"⟩, 130) := ⟨⟨by decide +kernel, by decide +kernel⟩, List.mem_of_getElem? (i := 1701) (by decide +kernel), List.mem_of_getElem? (i := 2165) (by decide +kernel), List.mem_of_getElem? (i := 2166) (by decide +kernel)⟩
theorem lw_p84 : lw_okq (⟨"DurableLoomModel", "isRun", "(I)Z"⟩, 130) := ⟨⟨by decide +kernel, by decide +kernel⟩, List.mem_of_getElem? (i := 1701) (by decide +kernel), List.mem_of_getElem? (i := 2176) (by decide +kernel), List.mem_of_getElem? (i := 2177) (by decide +kernel)⟩
theorem lw_p85 : lw_okq (⟨"DurableLoomModel", "isAlive", "(I)Z"⟩, 130) := ⟨⟨by decide +kernel, by decide +kernel⟩, List.mem_of_getElem? (i := 1701) (by decide +kernel), List.mem_of_getElem? (i := 2183) (by decide +kernel), List.mem_of_getElem? (i := 2184) (by decide +kernel)⟩
theorem lw_p86 : lw_okq (⟨"DurableLoomModel", "isSafe", "(II)Z"⟩, 130) := ⟨⟨by decide +kernel, by decide +kernel⟩, List.mem_of_getElem? (i := 1701) (by decide +kernel), List.mem_of_getElem? (i := 2191) (by decide +kernel), List.mem_of_getElem? (i := 2192) (by decide +kernel)⟩
theorem lw_p87 : lw_okq (⟨"DurableLoomModel", "tellsRun", "(IIIII)V"⟩, 130) := ⟨⟨by decide +kernel, by decide +kernel⟩, List.mem_of_getElem? (i := 1701) (by decide +kernel), List.mem_of_getElem? (i := 2195) (by decide +kernel), List.mem_of_getElem? (i := 2196) (by decide +kernel)⟩
theorem lw_p88 : lw_okq (⟨"DurableLoomModel", "kindAt", "(II)I"⟩, 130) := ⟨⟨by decide +kernel, by decide +kernel⟩, List.mem_of_getElem? (i := 1701) (by decide +kernel), List.mem_of_getElem? (i := 2199) (by decide +kernel), List.mem_of_getElem? (i := 2200) (by decide +kernel)⟩
theorem lw_p89 : lw_okq (⟨"DurableLoomModel", "takes", "(I)V"⟩, 130) := ⟨⟨by decide +kernel, by decide +kernel⟩, List.mem_of_getElem? (i := 1701) (by decide +kernel), List.mem_of_getElem? (i := 2203) (by decide +kernel), List.mem_of_getElem? (i := 2204) (by decide +kernel)⟩
theorem lw_p90 : lw_okq (⟨"DurableLoomModel", "xAt", "(II)I"⟩, 130) := ⟨⟨by decide +kernel, by decide +kernel⟩, List.mem_of_getElem? (i := 1701) (by decide +kernel), List.mem_of_getElem? (i := 2207) (by decide +kernel), List.mem_of_getElem? (i := 2208) (by decide +kernel)⟩
theorem lw_p91 : lw_okq (⟨"DurableLoomModel", "yAt", "(II)I"⟩, 130) := ⟨⟨by decide +kernel, by decide +kernel⟩, List.mem_of_getElem? (i := 1701) (by decide +kernel), List.mem_of_getElem? (i := 2212) (by decide +kernel), List.mem_of_getElem? (i := 2213) (by decide +kernel)⟩
theorem lw_p92 : lw_okq (⟨"DurableLoomModel", "whenAt", "(II)I"⟩, 130) := ⟨⟨by decide +kernel, by decide +kernel⟩, List.mem_of_getElem? (i := 1701) (by decide +kernel), List.mem_of_getElem? (i := 2216) (by decide +kernel), List.mem_of_getElem? (i := 2217) (by decide +kernel)⟩
theorem lw_p93 : lw_okq (⟨"DurableLoomModel", "begins", "(II)V"⟩, 130) := ⟨⟨by decide +kernel, by decide +kernel⟩, List.mem_of_getElem? (i := 1701) (by decide +kernel), List.mem_of_getElem? (i := 2221) (by decide +kernel), List.mem_of_getElem? (i := 2222) (by decide +kernel)⟩
theorem lw_p94 : lw_okq (⟨"DurableLoomModel", "spins", "()V"⟩, 130) := ⟨⟨by decide +kernel, by decide +kernel⟩, List.mem_of_getElem? (i := 1701) (by decide +kernel), List.mem_of_getElem? (i := 2225) (by decide +kernel), List.mem_of_getElem? (i := 2226) (by decide +kernel)⟩
theorem lw_p95 : lw_okq (⟨"DurableLoomModel", "isCancelled", "()V"⟩, 130) := ⟨⟨by decide +kernel, by decide +kernel⟩, List.mem_of_getElem? (i := 1701) (by decide +kernel), List.mem_of_getElem? (i := 2229) (by decide +kernel), List.mem_of_getElem? (i := 2230) (by decide +kernel)⟩
def lw_privs_6 : List (MethodName × Nat) := [(⟨"DurableLoomModel", "makes", "(IIIIII)I"⟩, 130), (⟨"DurableLoomModel", "puts", "(IIII)I"⟩, 130), (⟨"DurableLoomModel", "at", "(II)I"⟩, 130), (⟨"DurableLoomModel", "counts", "(III)V"⟩, 130), (⟨"DurableLoomModel", "isRun", "(I)Z"⟩, 130), (⟨"DurableLoomModel", "isAlive", "(I)Z"⟩, 130), (⟨"DurableLoomModel", "isSafe", "(II)Z"⟩, 130), (⟨"DurableLoomModel", "tellsRun", "(IIIII)V"⟩, 130), (⟨"DurableLoomModel", "kindAt", "(II)I"⟩, 130), (⟨"DurableLoomModel", "takes", "(I)V"⟩, 130), (⟨"DurableLoomModel", "xAt", "(II)I"⟩, 130), (⟨"DurableLoomModel", "yAt", "(II)I"⟩, 130), (⟨"DurableLoomModel", "whenAt", "(II)I"⟩, 130), (⟨"DurableLoomModel", "begins", "(II)V"⟩, 130), (⟨"DurableLoomModel", "spins", "()V"⟩, 130), (⟨"DurableLoomModel", "isCancelled", "()V"⟩, 130)]
theorem lw_r6 : ∀ q ∈ lw_privs_6, lw_okq q := List.forall_mem_cons.mpr ⟨lw_p80, List.forall_mem_cons.mpr ⟨lw_p81, List.forall_mem_cons.mpr ⟨lw_p82, List.forall_mem_cons.mpr ⟨lw_p83, List.forall_mem_cons.mpr ⟨lw_p84, List.forall_mem_cons.mpr ⟨lw_p85, List.forall_mem_cons.mpr ⟨lw_p86, List.forall_mem_cons.mpr ⟨lw_p87, List.forall_mem_cons.mpr ⟨lw_p88, List.forall_mem_cons.mpr ⟨lw_p89, List.forall_mem_cons.mpr ⟨lw_p90, List.forall_mem_cons.mpr ⟨lw_p91, List.forall_mem_cons.mpr ⟨lw_p92, List.forall_mem_cons.mpr ⟨lw_p93, List.forall_mem_cons.mpr ⟨lw_p94, List.forall_mem_cons.mpr ⟨lw_p95, fun _ h => absurd h List.not_mem_nil⟩⟩⟩⟩⟩⟩⟩⟩⟩⟩⟩⟩⟩⟩⟩⟩
theorem lw_p96 : lw_okq (⟨"DurableLoomModel", "goes", "()Z"⟩, 130) := ⟨⟨by decide +kernel, by decide +kernel⟩, List.mem_of_getElem? (i := 1701) (by decide +kernel), List.mem_of_getElem? (i := 2233) (by decide +kernel), List.mem_of_getElem? (i := 2234) (by decide +kernel)⟩
theorem lw_p97 : lw_okq (⟨"DurableLoomModel", "cancelsBranch", "(I)V"⟩, 130) := ⟨⟨by decide +kernel, by decide +kernel⟩, List.mem_of_getElem? (i := 1701) (by decide +kernel), List.mem_of_getElem? (i := 2237) (by decide +kernel), List.mem_of_getElem? (i := 2238) (by decide +kernel)⟩
theorem lw_p98 : lw_okq (⟨"DurableLoomModel", "lets", "(I)V"⟩, 130) := ⟨⟨by decide +kernel, by decide +kernel⟩, List.mem_of_getElem? (i := 1701) (by decide +kernel), List.mem_of_getElem? (i := 2241) (by decide +kernel), List.mem_of_getElem? (i := 2242) (by decide +kernel)⟩
theorem lw_p99 : lw_okq (⟨"DurableLoomModel", "commands", "(III)I"⟩, 130) := ⟨⟨by decide +kernel, by decide +kernel⟩, List.mem_of_getElem? (i := 1701) (by decide +kernel), List.mem_of_getElem? (i := 2245) (by decide +kernel), List.mem_of_getElem? (i := 2246) (by decide +kernel)⟩
theorem lw_p100 : lw_okq (⟨"DurableLoomModel", "nextCommand", "()I"⟩, 130) := ⟨⟨by decide +kernel, by decide +kernel⟩, List.mem_of_getElem? (i := 1701) (by decide +kernel), List.mem_of_getElem? (i := 2249) (by decide +kernel), List.mem_of_getElem? (i := 2250) (by decide +kernel)⟩
theorem lw_p101 : lw_okq (⟨"DurableLoomModel", "differs", "(I)V"⟩, 130) := ⟨⟨by decide +kernel, by decide +kernel⟩, List.mem_of_getElem? (i := 1701) (by decide +kernel), List.mem_of_getElem? (i := 2253) (by decide +kernel), List.mem_of_getElem? (i := 2254) (by decide +kernel)⟩
theorem lw_p102 : lw_okq (⟨"DurableLoomModel", "firstTask", "()I"⟩, 130) := ⟨⟨by decide +kernel, by decide +kernel⟩, List.mem_of_getElem? (i := 1701) (by decide +kernel), List.mem_of_getElem? (i := 2257) (by decide +kernel), List.mem_of_getElem? (i := 2258) (by decide +kernel)⟩
theorem lw_p103 : lw_okq (⟨"DurableLoomModel", "nextLater", "()I"⟩, 130) := ⟨⟨by decide +kernel, by decide +kernel⟩, List.mem_of_getElem? (i := 1701) (by decide +kernel), List.mem_of_getElem? (i := 2261) (by decide +kernel), List.mem_of_getElem? (i := 2262) (by decide +kernel)⟩
theorem lw_p104 : lw_okq (⟨"DurableLoomModel", "failsBranch", "(I)V"⟩, 130) := ⟨⟨by decide +kernel, by decide +kernel⟩, List.mem_of_getElem? (i := 1701) (by decide +kernel), List.mem_of_getElem? (i := 2265) (by decide +kernel), List.mem_of_getElem? (i := 2266) (by decide +kernel)⟩
theorem lw_p105 : lw_okq (⟨"DurableLoomModel", "endsRun", "(II)V"⟩, 130) := ⟨⟨by decide +kernel, by decide +kernel⟩, List.mem_of_getElem? (i := 1701) (by decide +kernel), List.mem_of_getElem? (i := 2269) (by decide +kernel), List.mem_of_getElem? (i := 2270) (by decide +kernel)⟩
theorem lw_p106 : lw_okq (⟨"DurableLoomModel", "comesBack", "(III)V"⟩, 130) := ⟨⟨by decide +kernel, by decide +kernel⟩, List.mem_of_getElem? (i := 1701) (by decide +kernel), List.mem_of_getElem? (i := 2273) (by decide +kernel), List.mem_of_getElem? (i := 2274) (by decide +kernel)⟩
theorem lw_p107 : lw_okq (⟨"DurableLoomModel", "waiting", "(I)I"⟩, 130) := ⟨⟨by decide +kernel, by decide +kernel⟩, List.mem_of_getElem? (i := 1701) (by decide +kernel), List.mem_of_getElem? (i := 2277) (by decide +kernel), List.mem_of_getElem? (i := 2278) (by decide +kernel)⟩
theorem lw_p108 : lw_okq (⟨"DurableLoomModel", "goOn", "()V"⟩, 130) := ⟨⟨by decide +kernel, by decide +kernel⟩, List.mem_of_getElem? (i := 1701) (by decide +kernel), List.mem_of_getElem? (i := 2281) (by decide +kernel), List.mem_of_getElem? (i := 2282) (by decide +kernel)⟩
theorem lw_p109 : lw_okq (⟨"DurableLoomModel", "canGoOn", "(I)Z"⟩, 130) := ⟨⟨by decide +kernel, by decide +kernel⟩, List.mem_of_getElem? (i := 1701) (by decide +kernel), List.mem_of_getElem? (i := 2285) (by decide +kernel), List.mem_of_getElem? (i := 2286) (by decide +kernel)⟩
theorem lw_p110 : lw_okq (⟨"DurableLoomModel", "hasChild", "(I)Z"⟩, 130) := ⟨⟨by decide +kernel, by decide +kernel⟩, List.mem_of_getElem? (i := 1701) (by decide +kernel), List.mem_of_getElem? (i := 2289) (by decide +kernel), List.mem_of_getElem? (i := 2290) (by decide +kernel)⟩
theorem lw_p111 : lw_okq (⟨"DurableLoomModel", "walks", "(I)V"⟩, 130) := ⟨⟨by decide +kernel, by decide +kernel⟩, List.mem_of_getElem? (i := 1701) (by decide +kernel), List.mem_of_getElem? (i := 2293) (by decide +kernel), List.mem_of_getElem? (i := 2294) (by decide +kernel)⟩
def lw_privs_7 : List (MethodName × Nat) := [(⟨"DurableLoomModel", "goes", "()Z"⟩, 130), (⟨"DurableLoomModel", "cancelsBranch", "(I)V"⟩, 130), (⟨"DurableLoomModel", "lets", "(I)V"⟩, 130), (⟨"DurableLoomModel", "commands", "(III)I"⟩, 130), (⟨"DurableLoomModel", "nextCommand", "()I"⟩, 130), (⟨"DurableLoomModel", "differs", "(I)V"⟩, 130), (⟨"DurableLoomModel", "firstTask", "()I"⟩, 130), (⟨"DurableLoomModel", "nextLater", "()I"⟩, 130), (⟨"DurableLoomModel", "failsBranch", "(I)V"⟩, 130), (⟨"DurableLoomModel", "endsRun", "(II)V"⟩, 130), (⟨"DurableLoomModel", "comesBack", "(III)V"⟩, 130), (⟨"DurableLoomModel", "waiting", "(I)I"⟩, 130), (⟨"DurableLoomModel", "goOn", "()V"⟩, 130), (⟨"DurableLoomModel", "canGoOn", "(I)Z"⟩, 130), (⟨"DurableLoomModel", "hasChild", "(I)Z"⟩, 130), (⟨"DurableLoomModel", "walks", "(I)V"⟩, 130)]
theorem lw_r7 : ∀ q ∈ lw_privs_7, lw_okq q := List.forall_mem_cons.mpr ⟨lw_p96, List.forall_mem_cons.mpr ⟨lw_p97, List.forall_mem_cons.mpr ⟨lw_p98, List.forall_mem_cons.mpr ⟨lw_p99, List.forall_mem_cons.mpr ⟨lw_p100, List.forall_mem_cons.mpr ⟨lw_p101, List.forall_mem_cons.mpr ⟨lw_p102, List.forall_mem_cons.mpr ⟨lw_p103, List.forall_mem_cons.mpr ⟨lw_p104, List.forall_mem_cons.mpr ⟨lw_p105, List.forall_mem_cons.mpr ⟨lw_p106, List.forall_mem_cons.mpr ⟨lw_p107, List.forall_mem_cons.mpr ⟨lw_p108, List.forall_mem_cons.mpr ⟨lw_p109, List.forall_mem_cons.mpr ⟨lw_p110, List.forall_mem_cons.mpr ⟨lw_p111, fun _ h => absurd h List.not_mem_nil⟩⟩⟩⟩⟩⟩⟩⟩⟩⟩⟩⟩⟩⟩⟩⟩
theorem lw_p112 : lw_okq (⟨"DurableLoomModel", "slot", "(I)I"⟩, 130) := ⟨⟨by decide +kernel, by decide +kernel⟩, List.mem_of_getElem? (i := 1701) (by decide +kernel), List.mem_of_getElem? (i := 2297) (by decide +kernel), List.mem_of_getElem? (i := 2298) (by decide +kernel)⟩
theorem lw_p113 : lw_okq (⟨"DurableLoomModel", "endsBranch", "(I)V"⟩, 130) := ⟨⟨by decide +kernel, by decide +kernel⟩, List.mem_of_getElem? (i := 1701) (by decide +kernel), List.mem_of_getElem? (i := 2301) (by decide +kernel), List.mem_of_getElem? (i := 2302) (by decide +kernel)⟩
theorem lw_p114 : lw_okq (⟨"DurableLoomModel", "removes", "(I)V"⟩, 130) := ⟨⟨by decide +kernel, by decide +kernel⟩, List.mem_of_getElem? (i := 1701) (by decide +kernel), List.mem_of_getElem? (i := 2305) (by decide +kernel), List.mem_of_getElem? (i := 2306) (by decide +kernel)⟩
theorem lw_p115 : lw_okq (⟨"DurableLoomModel", "does", "(I)V"⟩, 130) := ⟨⟨by decide +kernel, by decide +kernel⟩, List.mem_of_getElem? (i := 1701) (by decide +kernel), List.mem_of_getElem? (i := 2309) (by decide +kernel), List.mem_of_getElem? (i := 2310) (by decide +kernel)⟩
theorem lw_p116 : lw_okq (⟨"DurableLoomModel", "awaits", "(IIII)V"⟩, 130) := ⟨⟨by decide +kernel, by decide +kernel⟩, List.mem_of_getElem? (i := 1701) (by decide +kernel), List.mem_of_getElem? (i := 2313) (by decide +kernel), List.mem_of_getElem? (i := 2314) (by decide +kernel)⟩
theorem lw_p117 : lw_okq (⟨"DurableLoomModel", "races", "(II)V"⟩, 130) := ⟨⟨by decide +kernel, by decide +kernel⟩, List.mem_of_getElem? (i := 1701) (by decide +kernel), List.mem_of_getElem? (i := 2317) (by decide +kernel), List.mem_of_getElem? (i := 2318) (by decide +kernel)⟩
theorem lw_p118 : lw_okq (⟨"DurableLoomModel", "wins", "(I)V"⟩, 130) := ⟨⟨by decide +kernel, by decide +kernel⟩, List.mem_of_getElem? (i := 1701) (by decide +kernel), List.mem_of_getElem? (i := 2321) (by decide +kernel), List.mem_of_getElem? (i := 2322) (by decide +kernel)⟩
theorem lw_p119 : lw_okq (⟨"DurableLoomModel", "dropsBranch", "(I)V"⟩, 130) := ⟨⟨by decide +kernel, by decide +kernel⟩, List.mem_of_getElem? (i := 1701) (by decide +kernel), List.mem_of_getElem? (i := 2325) (by decide +kernel), List.mem_of_getElem? (i := 2326) (by decide +kernel)⟩
theorem lw_p120 : lw_okq (⟨"DurableLoomModel", "isBelow", "(II)Z"⟩, 130) := ⟨⟨by decide +kernel, by decide +kernel⟩, List.mem_of_getElem? (i := 1701) (by decide +kernel), List.mem_of_getElem? (i := 2329) (by decide +kernel), List.mem_of_getElem? (i := 2330) (by decide +kernel)⟩
theorem lw_p121 : lw_okq (⟨"DurableLoomModel", "doesMore", "(IIII)V"⟩, 130) := ⟨⟨by decide +kernel, by decide +kernel⟩, List.mem_of_getElem? (i := 1701) (by decide +kernel), List.mem_of_getElem? (i := 2333) (by decide +kernel), List.mem_of_getElem? (i := 2334) (by decide +kernel)⟩
theorem lw_p122 : lw_okq (⟨"DurableLoomModel", "undoes", "(I)V"⟩, 130) := ⟨⟨by decide +kernel, by decide +kernel⟩, List.mem_of_getElem? (i := 1701) (by decide +kernel), List.mem_of_getElem? (i := 2337) (by decide +kernel), List.mem_of_getElem? (i := 2338) (by decide +kernel)⟩
theorem lw_p123 : lw_okq (⟨"DurableLoomModel", "patches", "(III)V"⟩, 130) := ⟨⟨by decide +kernel, by decide +kernel⟩, List.mem_of_getElem? (i := 1701) (by decide +kernel), List.mem_of_getElem? (i := 2341) (by decide +kernel), List.mem_of_getElem? (i := 2342) (by decide +kernel)⟩
theorem lw_p124 : lw_okq (⟨"DurableLoomModel", "bares", "(I)V"⟩, 130) := ⟨⟨by decide +kernel, by decide +kernel⟩, List.mem_of_getElem? (i := 1701) (by decide +kernel), List.mem_of_getElem? (i := 2345) (by decide +kernel), List.mem_of_getElem? (i := 2346) (by decide +kernel)⟩
theorem lw_p125 : lw_okq (⟨"DurableLoomModel", "goesBy", "(I)V"⟩, 130) := ⟨⟨by decide +kernel, by decide +kernel⟩, List.mem_of_getElem? (i := 1701) (by decide +kernel), List.mem_of_getElem? (i := 2349) (by decide +kernel), List.mem_of_getElem? (i := 2350) (by decide +kernel)⟩
theorem lw_p126 : lw_okq (⟨"DurableLoomModel", "isWanted", "(II)Z"⟩, 130) := ⟨⟨by decide +kernel, by decide +kernel⟩, List.mem_of_getElem? (i := 1701) (by decide +kernel), List.mem_of_getElem? (i := 2353) (by decide +kernel), List.mem_of_getElem? (i := 2354) (by decide +kernel)⟩
theorem lw_p127 : lw_okq (⟨"DurableLoomModel", "cancels", "(I)Z"⟩, 130) := ⟨⟨by decide +kernel, by decide +kernel⟩, List.mem_of_getElem? (i := 1701) (by decide +kernel), List.mem_of_getElem? (i := 2361) (by decide +kernel), List.mem_of_getElem? (i := 2362) (by decide +kernel)⟩
def lw_privs_8 : List (MethodName × Nat) := [(⟨"DurableLoomModel", "slot", "(I)I"⟩, 130), (⟨"DurableLoomModel", "endsBranch", "(I)V"⟩, 130), (⟨"DurableLoomModel", "removes", "(I)V"⟩, 130), (⟨"DurableLoomModel", "does", "(I)V"⟩, 130), (⟨"DurableLoomModel", "awaits", "(IIII)V"⟩, 130), (⟨"DurableLoomModel", "races", "(II)V"⟩, 130), (⟨"DurableLoomModel", "wins", "(I)V"⟩, 130), (⟨"DurableLoomModel", "dropsBranch", "(I)V"⟩, 130), (⟨"DurableLoomModel", "isBelow", "(II)Z"⟩, 130), (⟨"DurableLoomModel", "doesMore", "(IIII)V"⟩, 130), (⟨"DurableLoomModel", "undoes", "(I)V"⟩, 130), (⟨"DurableLoomModel", "patches", "(III)V"⟩, 130), (⟨"DurableLoomModel", "bares", "(I)V"⟩, 130), (⟨"DurableLoomModel", "goesBy", "(I)V"⟩, 130), (⟨"DurableLoomModel", "isWanted", "(II)Z"⟩, 130), (⟨"DurableLoomModel", "cancels", "(I)Z"⟩, 130)]
theorem lw_r8 : ∀ q ∈ lw_privs_8, lw_okq q := List.forall_mem_cons.mpr ⟨lw_p112, List.forall_mem_cons.mpr ⟨lw_p113, List.forall_mem_cons.mpr ⟨lw_p114, List.forall_mem_cons.mpr ⟨lw_p115, List.forall_mem_cons.mpr ⟨lw_p116, List.forall_mem_cons.mpr ⟨lw_p117, List.forall_mem_cons.mpr ⟨lw_p118, List.forall_mem_cons.mpr ⟨lw_p119, List.forall_mem_cons.mpr ⟨lw_p120, List.forall_mem_cons.mpr ⟨lw_p121, List.forall_mem_cons.mpr ⟨lw_p122, List.forall_mem_cons.mpr ⟨lw_p123, List.forall_mem_cons.mpr ⟨lw_p124, List.forall_mem_cons.mpr ⟨lw_p125, List.forall_mem_cons.mpr ⟨lw_p126, List.forall_mem_cons.mpr ⟨lw_p127, fun _ h => absurd h List.not_mem_nil⟩⟩⟩⟩⟩⟩⟩⟩⟩⟩⟩⟩⟩⟩⟩⟩
theorem lw_p128 : lw_okq (⟨"DurableLoomModel", "hasCome", "(II)Z"⟩, 130) := ⟨⟨by decide +kernel, by decide +kernel⟩, List.mem_of_getElem? (i := 1701) (by decide +kernel), List.mem_of_getElem? (i := 2365) (by decide +kernel), List.mem_of_getElem? (i := 2366) (by decide +kernel)⟩
theorem lw_p129 : lw_okq (⟨"DurableLoomModel", "asks", "(II)I"⟩, 130) := ⟨⟨by decide +kernel, by decide +kernel⟩, List.mem_of_getElem? (i := 1701) (by decide +kernel), List.mem_of_getElem? (i := 2373) (by decide +kernel), List.mem_of_getElem? (i := 2374) (by decide +kernel)⟩
theorem lw_p130 : lw_okq (⟨"DurableLoomModel", "tells", "(I)I"⟩, 130) := ⟨⟨by decide +kernel, by decide +kernel⟩, List.mem_of_getElem? (i := 1701) (by decide +kernel), List.mem_of_getElem? (i := 2398) (by decide +kernel), List.mem_of_getElem? (i := 2399) (by decide +kernel)⟩
theorem lw_p131 : lw_okq (⟨"DurableLoomModel", "isReady", "(I)Z"⟩, 130) := ⟨⟨by decide +kernel, by decide +kernel⟩, List.mem_of_getElem? (i := 1701) (by decide +kernel), List.mem_of_getElem? (i := 2413) (by decide +kernel), List.mem_of_getElem? (i := 2414) (by decide +kernel)⟩
theorem lw_p132 : lw_okq (⟨"DurableLoomModel", "isHeld", "(I)Z"⟩, 130) := ⟨⟨by decide +kernel, by decide +kernel⟩, List.mem_of_getElem? (i := 1701) (by decide +kernel), List.mem_of_getElem? (i := 2417) (by decide +kernel), List.mem_of_getElem? (i := 2418) (by decide +kernel)⟩
theorem lw_p133 : lw_okq (⟨"DurableLoomModel", "firstOrder", "(I)I"⟩, 130) := ⟨⟨by decide +kernel, by decide +kernel⟩, List.mem_of_getElem? (i := 1701) (by decide +kernel), List.mem_of_getElem? (i := 2421) (by decide +kernel), List.mem_of_getElem? (i := 2422) (by decide +kernel)⟩
theorem lw_p134 : lw_okq (⟨"DurableLoomModel", "isStale", "(I)Z"⟩, 130) := ⟨⟨by decide +kernel, by decide +kernel⟩, List.mem_of_getElem? (i := 1701) (by decide +kernel), List.mem_of_getElem? (i := 2429) (by decide +kernel), List.mem_of_getElem? (i := 2430) (by decide +kernel)⟩
theorem lw_p135 : lw_okq (⟨"DurableLoomModel", "hasState", "(II)Z"⟩, 130) := ⟨⟨by decide +kernel, by decide +kernel⟩, List.mem_of_getElem? (i := 1701) (by decide +kernel), List.mem_of_getElem? (i := 2433) (by decide +kernel), List.mem_of_getElem? (i := 2434) (by decide +kernel)⟩
theorem lw_p136 : lw_okq (⟨"DurableLoomModel", "carriesOut", "(IIIII)V"⟩, 130) := ⟨⟨by decide +kernel, by decide +kernel⟩, List.mem_of_getElem? (i := 1701) (by decide +kernel), List.mem_of_getElem? (i := 2437) (by decide +kernel), List.mem_of_getElem? (i := 2438) (by decide +kernel)⟩
theorem lw_p137 : lw_okq (⟨"DurableLoomModel", "makesActivity", "(IIII)V"⟩, 130) := ⟨⟨by decide +kernel, by decide +kernel⟩, List.mem_of_getElem? (i := 1701) (by decide +kernel), List.mem_of_getElem? (i := 2441) (by decide +kernel), List.mem_of_getElem? (i := 2442) (by decide +kernel)⟩
theorem lw_p138 : lw_okq (⟨"DurableLoomModel", "makesTimer", "(III)V"⟩, 130) := ⟨⟨by decide +kernel, by decide +kernel⟩, List.mem_of_getElem? (i := 1701) (by decide +kernel), List.mem_of_getElem? (i := 2445) (by decide +kernel), List.mem_of_getElem? (i := 2446) (by decide +kernel)⟩
theorem lw_p139 : lw_okq (⟨"DurableLoomModel", "drops", "(II)V"⟩, 130) := ⟨⟨by decide +kernel, by decide +kernel⟩, List.mem_of_getElem? (i := 1701) (by decide +kernel), List.mem_of_getElem? (i := 2449) (by decide +kernel), List.mem_of_getElem? (i := 2450) (by decide +kernel)⟩
theorem lw_p140 : lw_okq (⟨"DurableLoomModel", "removesTimer", "(I)V"⟩, 130) := ⟨⟨by decide +kernel, by decide +kernel⟩, List.mem_of_getElem? (i := 1701) (by decide +kernel), List.mem_of_getElem? (i := 2453) (by decide +kernel), List.mem_of_getElem? (i := 2454) (by decide +kernel)⟩
theorem lw_p141 : lw_okq (⟨"DurableLoomModel", "closes", "(IZI)V"⟩, 130) := ⟨⟨by decide +kernel, by decide +kernel⟩, List.mem_of_getElem? (i := 1701) (by decide +kernel), List.mem_of_getElem? (i := 2457) (by decide +kernel), List.mem_of_getElem? (i := 2458) (by decide +kernel)⟩
theorem lw_p142 : lw_okq (⟨"DurableLoomModel", "stops", "(I)V"⟩, 130) := ⟨⟨by decide +kernel, by decide +kernel⟩, List.mem_of_getElem? (i := 1701) (by decide +kernel), List.mem_of_getElem? (i := 2461) (by decide +kernel), List.mem_of_getElem? (i := 2462) (by decide +kernel)⟩
theorem lw_p143 : lw_okq (⟨"DurableLoomModel", "tellsParent", "(II)V"⟩, 130) := ⟨⟨by decide +kernel, by decide +kernel⟩, List.mem_of_getElem? (i := 1701) (by decide +kernel), List.mem_of_getElem? (i := 2465) (by decide +kernel), List.mem_of_getElem? (i := 2466) (by decide +kernel)⟩
def lw_privs_9 : List (MethodName × Nat) := [(⟨"DurableLoomModel", "hasCome", "(II)Z"⟩, 130), (⟨"DurableLoomModel", "asks", "(II)I"⟩, 130), (⟨"DurableLoomModel", "tells", "(I)I"⟩, 130), (⟨"DurableLoomModel", "isReady", "(I)Z"⟩, 130), (⟨"DurableLoomModel", "isHeld", "(I)Z"⟩, 130), (⟨"DurableLoomModel", "firstOrder", "(I)I"⟩, 130), (⟨"DurableLoomModel", "isStale", "(I)Z"⟩, 130), (⟨"DurableLoomModel", "hasState", "(II)Z"⟩, 130), (⟨"DurableLoomModel", "carriesOut", "(IIIII)V"⟩, 130), (⟨"DurableLoomModel", "makesActivity", "(IIII)V"⟩, 130), (⟨"DurableLoomModel", "makesTimer", "(III)V"⟩, 130), (⟨"DurableLoomModel", "drops", "(II)V"⟩, 130), (⟨"DurableLoomModel", "removesTimer", "(I)V"⟩, 130), (⟨"DurableLoomModel", "closes", "(IZI)V"⟩, 130), (⟨"DurableLoomModel", "stops", "(I)V"⟩, 130), (⟨"DurableLoomModel", "tellsParent", "(II)V"⟩, 130)]
theorem lw_r9 : ∀ q ∈ lw_privs_9, lw_okq q := List.forall_mem_cons.mpr ⟨lw_p128, List.forall_mem_cons.mpr ⟨lw_p129, List.forall_mem_cons.mpr ⟨lw_p130, List.forall_mem_cons.mpr ⟨lw_p131, List.forall_mem_cons.mpr ⟨lw_p132, List.forall_mem_cons.mpr ⟨lw_p133, List.forall_mem_cons.mpr ⟨lw_p134, List.forall_mem_cons.mpr ⟨lw_p135, List.forall_mem_cons.mpr ⟨lw_p136, List.forall_mem_cons.mpr ⟨lw_p137, List.forall_mem_cons.mpr ⟨lw_p138, List.forall_mem_cons.mpr ⟨lw_p139, List.forall_mem_cons.mpr ⟨lw_p140, List.forall_mem_cons.mpr ⟨lw_p141, List.forall_mem_cons.mpr ⟨lw_p142, List.forall_mem_cons.mpr ⟨lw_p143, fun _ h => absurd h List.not_mem_nil⟩⟩⟩⟩⟩⟩⟩⟩⟩⟩⟩⟩⟩⟩⟩⟩
theorem lw_p144 : lw_okq (⟨"DurableLoomModel", "goesOnAsNew", "(II)V"⟩, 130) := ⟨⟨by decide +kernel, by decide +kernel⟩, List.mem_of_getElem? (i := 1701) (by decide +kernel), List.mem_of_getElem? (i := 2469) (by decide +kernel), List.mem_of_getElem? (i := 2470) (by decide +kernel)⟩
theorem lw_p145 : lw_okq (⟨"DurableLoomModel", "isActivity", "(I)Z"⟩, 130) := ⟨⟨by decide +kernel, by decide +kernel⟩, List.mem_of_getElem? (i := 1701) (by decide +kernel), List.mem_of_getElem? (i := 2489) (by decide +kernel), List.mem_of_getElem? (i := 2490) (by decide +kernel)⟩
theorem lw_p146 : lw_okq (⟨"DurableLoomModel", "misses", "(IZ)V"⟩, 130) := ⟨⟨by decide +kernel, by decide +kernel⟩, List.mem_of_getElem? (i := 1701) (by decide +kernel), List.mem_of_getElem? (i := 2497) (by decide +kernel), List.mem_of_getElem? (i := 2498) (by decide +kernel)⟩
theorem lw_p147 : lw_okq (⟨"DurableLoomModel", "fires", "()V"⟩, 130) := ⟨⟨by decide +kernel, by decide +kernel⟩, List.mem_of_getElem? (i := 1701) (by decide +kernel), List.mem_of_getElem? (i := 2513) (by decide +kernel), List.mem_of_getElem? (i := 2514) (by decide +kernel)⟩
theorem lw_p148 : lw_okq (⟨"DurableLoomModel", "looksAtActivities", "()V"⟩, 130) := ⟨⟨by decide +kernel, by decide +kernel⟩, List.mem_of_getElem? (i := 1701) (by decide +kernel), List.mem_of_getElem? (i := 2517) (by decide +kernel), List.mem_of_getElem? (i := 2518) (by decide +kernel)⟩
theorem lw_p149 : lw_okq (⟨"DurableLoomModel", "looksAtSchedule", "(I)V"⟩, 130) := ⟨⟨by decide +kernel, by decide +kernel⟩, List.mem_of_getElem? (i := 1701) (by decide +kernel), List.mem_of_getElem? (i := 2521) (by decide +kernel), List.mem_of_getElem? (i := 2522) (by decide +kernel)⟩
theorem lw_p150 : lw_okq (⟨"DurableLoomModel", "isRunning", "(I)Z"⟩, 130) := ⟨⟨by decide +kernel, by decide +kernel⟩, List.mem_of_getElem? (i := 1701) (by decide +kernel), List.mem_of_getElem? (i := 2525) (by decide +kernel), List.mem_of_getElem? (i := 2526) (by decide +kernel)⟩
theorem lw_p151 : lw_okq (⟨"DurableLoomModel", "comes", "(II)V"⟩, 130) := ⟨⟨by decide +kernel, by decide +kernel⟩, List.mem_of_getElem? (i := 1701) (by decide +kernel), List.mem_of_getElem? (i := 2529) (by decide +kernel), List.mem_of_getElem? (i := 2530) (by decide +kernel)⟩
theorem lw_p152 : lw_okq (⟨"DurableLoomModel", "beginsFor", "(II)I"⟩, 130) := ⟨⟨by decide +kernel, by decide +kernel⟩, List.mem_of_getElem? (i := 1701) (by decide +kernel), List.mem_of_getElem? (i := 2533) (by decide +kernel), List.mem_of_getElem? (i := 2534) (by decide +kernel)⟩
theorem lw_p153 : lw_okq (⟨"DurableLoomModel", "point", "(II)V"⟩, 130) := ⟨⟨by decide +kernel, by decide +kernel⟩, List.mem_of_getElem? (i := 1701) (by decide +kernel), List.mem_of_getElem? (i := 2540) (by decide +kernel), List.mem_of_getElem? (i := 2541) (by decide +kernel)⟩
theorem lw_p154 : lw_okq (⟨"DurableLoomModel", "isVersion", "(II)Z"⟩, 130) := ⟨⟨by decide +kernel, by decide +kernel⟩, List.mem_of_getElem? (i := 1701) (by decide +kernel), List.mem_of_getElem? (i := 2548) (by decide +kernel), List.mem_of_getElem? (i := 2549) (by decide +kernel)⟩
theorem lw_p155 : lw_okq (⟨"DurableLoomModel", "taskAt", "(II)I"⟩, 130) := ⟨⟨by decide +kernel, by decide +kernel⟩, List.mem_of_getElem? (i := 1701) (by decide +kernel), List.mem_of_getElem? (i := 2560) (by decide +kernel), List.mem_of_getElem? (i := 2561) (by decide +kernel)⟩
theorem lw_p156 : lw_okq (⟨"DurableLoomModel", "recounts", "(I)V"⟩, 130) := ⟨⟨by decide +kernel, by decide +kernel⟩, List.mem_of_getElem? (i := 1701) (by decide +kernel), List.mem_of_getElem? (i := 2564) (by decide +kernel), List.mem_of_getElem? (i := 2565) (by decide +kernel)⟩
theorem lw_p157 : lw_okq (⟨"DurableLoomModel", "beginsAnew", "(I)V"⟩, 130) := ⟨⟨by decide +kernel, by decide +kernel⟩, List.mem_of_getElem? (i := 1701) (by decide +kernel), List.mem_of_getElem? (i := 2568) (by decide +kernel), List.mem_of_getElem? (i := 2569) (by decide +kernel)⟩
theorem lw_p158 : lw_okq (⟨"DurableLoomModel", "marks", "(I)V"⟩, 130) := ⟨⟨by decide +kernel, by decide +kernel⟩, List.mem_of_getElem? (i := 1701) (by decide +kernel), List.mem_of_getElem? (i := 2572) (by decide +kernel), List.mem_of_getElem? (i := 2573) (by decide +kernel)⟩
theorem lw_p159 : lw_okq (⟨"DurableLoomModel", "isBack", "(I)Z"⟩, 130) := ⟨⟨by decide +kernel, by decide +kernel⟩, List.mem_of_getElem? (i := 1701) (by decide +kernel), List.mem_of_getElem? (i := 2576) (by decide +kernel), List.mem_of_getElem? (i := 2577) (by decide +kernel)⟩
def lw_privs_10 : List (MethodName × Nat) := [(⟨"DurableLoomModel", "goesOnAsNew", "(II)V"⟩, 130), (⟨"DurableLoomModel", "isActivity", "(I)Z"⟩, 130), (⟨"DurableLoomModel", "misses", "(IZ)V"⟩, 130), (⟨"DurableLoomModel", "fires", "()V"⟩, 130), (⟨"DurableLoomModel", "looksAtActivities", "()V"⟩, 130), (⟨"DurableLoomModel", "looksAtSchedule", "(I)V"⟩, 130), (⟨"DurableLoomModel", "isRunning", "(I)Z"⟩, 130), (⟨"DurableLoomModel", "comes", "(II)V"⟩, 130), (⟨"DurableLoomModel", "beginsFor", "(II)I"⟩, 130), (⟨"DurableLoomModel", "point", "(II)V"⟩, 130), (⟨"DurableLoomModel", "isVersion", "(II)Z"⟩, 130), (⟨"DurableLoomModel", "taskAt", "(II)I"⟩, 130), (⟨"DurableLoomModel", "recounts", "(I)V"⟩, 130), (⟨"DurableLoomModel", "beginsAnew", "(I)V"⟩, 130), (⟨"DurableLoomModel", "marks", "(I)V"⟩, 130), (⟨"DurableLoomModel", "isBack", "(I)Z"⟩, 130)]
theorem lw_r10 : ∀ q ∈ lw_privs_10, lw_okq q := List.forall_mem_cons.mpr ⟨lw_p144, List.forall_mem_cons.mpr ⟨lw_p145, List.forall_mem_cons.mpr ⟨lw_p146, List.forall_mem_cons.mpr ⟨lw_p147, List.forall_mem_cons.mpr ⟨lw_p148, List.forall_mem_cons.mpr ⟨lw_p149, List.forall_mem_cons.mpr ⟨lw_p150, List.forall_mem_cons.mpr ⟨lw_p151, List.forall_mem_cons.mpr ⟨lw_p152, List.forall_mem_cons.mpr ⟨lw_p153, List.forall_mem_cons.mpr ⟨lw_p154, List.forall_mem_cons.mpr ⟨lw_p155, List.forall_mem_cons.mpr ⟨lw_p156, List.forall_mem_cons.mpr ⟨lw_p157, List.forall_mem_cons.mpr ⟨lw_p158, List.forall_mem_cons.mpr ⟨lw_p159, fun _ h => absurd h List.not_mem_nil⟩⟩⟩⟩⟩⟩⟩⟩⟩⟩⟩⟩⟩⟩⟩⟩
theorem lw_p160 : lw_okq (⟨"DurableLoomModel", "cutsRun", "(I)I"⟩, 130) := ⟨⟨by decide +kernel, by decide +kernel⟩, List.mem_of_getElem? (i := 1701) (by decide +kernel), List.mem_of_getElem? (i := 2591) (by decide +kernel), List.mem_of_getElem? (i := 2592) (by decide +kernel)⟩
theorem lw_p161 : lw_okq (⟨"DurableLoomModel", "isSchedule", "(I)Z"⟩, 130) := ⟨⟨by decide +kernel, by decide +kernel⟩, List.mem_of_getElem? (i := 1701) (by decide +kernel), List.mem_of_getElem? (i := 2607) (by decide +kernel), List.mem_of_getElem? (i := 2608) (by decide +kernel)⟩
def lw_privs_11 : List (MethodName × Nat) := [(⟨"DurableLoomModel", "cutsRun", "(I)I"⟩, 130), (⟨"DurableLoomModel", "isSchedule", "(I)Z"⟩, 130)]
theorem lw_r11 : ∀ q ∈ lw_privs_11, lw_okq q := List.forall_mem_cons.mpr ⟨lw_p160, List.forall_mem_cons.mpr ⟨lw_p161, fun _ h => absurd h List.not_mem_nil⟩⟩
def lw_privs : List (MethodName × Nat) := lw_privs_1 ++ (lw_privs_2 ++ (lw_privs_3 ++ (lw_privs_4 ++ (lw_privs_5 ++ (lw_privs_6 ++ (lw_privs_7 ++ (lw_privs_8 ++ (lw_privs_9 ++ (lw_privs_10 ++ (lw_privs_11))))))))))
def lw_tbl : List Cond := k2_sels lw_privs ++ tables_1
theorem lw_privs_ok : ∀ q ∈ lw_privs, lw_okq q := by
  show ∀ q ∈ lw_privs_1 ++ (lw_privs_2 ++ (lw_privs_3 ++ (lw_privs_4 ++ (lw_privs_5 ++ (lw_privs_6 ++ (lw_privs_7 ++ (lw_privs_8 ++ (lw_privs_9 ++ (lw_privs_10 ++ (lw_privs_11)))))))))), lw_okq q
  exact List.forall_mem_append.mpr ⟨lw_r1, List.forall_mem_append.mpr ⟨lw_r2, List.forall_mem_append.mpr ⟨lw_r3, List.forall_mem_append.mpr ⟨lw_r4, List.forall_mem_append.mpr ⟨lw_r5, List.forall_mem_append.mpr ⟨lw_r6, List.forall_mem_append.mpr ⟨lw_r7, List.forall_mem_append.mpr ⟨lw_r8, List.forall_mem_append.mpr ⟨lw_r9, List.forall_mem_append.mpr ⟨lw_r10, lw_r11⟩⟩⟩⟩⟩⟩⟩⟩⟩⟩
-- ===== end of PART A; then your names; then what follows =====
end
section
/-! ===== BEGIN words of one list among another's, by their places ===== -/
theorem goodIn_r {big : List Cond} (ws : List Cond) (ps : List Nat) (hp : ws = ps.filterMap (fun i => big[i]?)) (h : ws.all goodWord = true) : GoodIn big ws := by
  intro w hw
  have h1 := List.all_eq_true.mp h w hw
  rw [hp] at hw
  obtain ⟨i, -, hi⟩ := List.mem_filterMap.mp hw
  have hm : w ∈ big := by first | exact List.mem_of_getElem? hi | exact List.getElem?_mem hi
  exact ⟨hm, good_of_word h1⟩
theorem goodIn_app {big a b : List Cond} (ha : GoodIn big a) (hb : GoodIn big b) : GoodIn big (a ++ b) := fun w h => (List.mem_append.mp h).elim (ha w) (hb w)
theorem goodIn_ca {big a b : List Cond} {c : Cond} (ha : GoodIn big (c :: a)) (hb : GoodIn big b) : GoodIn big (c :: (a ++ b)) := fun w h => (List.mem_cons.mp h).elim (fun e => ha w (List.mem_cons.mpr (Or.inl e))) (fun h => (List.mem_append.mp h).elim (fun h => ha w (List.mem_cons.mpr (Or.inr h))) (hb w))
theorem goodIn_sub {big ws : List Cond} (hm : ∀ w ∈ ws, w ∈ big) (h : ws.all goodWord = true) : GoodIn big ws := fun w hw => ⟨hm w hw, good_of_word (List.all_eq_true.mp h w hw)⟩
/-! ===== END ===== -/

/-! ===== BEGIN exceptions that leave a method, and their catching by the caller (launches without stack traces) ===== -/
section VXA
/-! The laws vx_back, vx_callV, vx_callS, vx_callSW, vx_throw0, vx_throwS follow proofs of the library, with one case more: JvmDerived/Free/Laws.lean (Back.of_free), Shelf42/LK1.lean (callV, callS), Shelf/KitTraced.lean (throwNew0V, throwNewS). -/
/-- where a method has thrown q: the class by its name, the cell, what was written, the world -/
def vx_T (XC : String → State → State → Prop) (st : State) (q : Addr) (t : State) (mc ms : Nat) (free : Addr → Prop) : Prop :=
  ∃ (E : String) (ce : Cell) (L : List Loc), XC E st t ∧ t.heap[q]? = some ce ∧ ce.vm = .none ∧ st.vm.findClass E = some ce.cls ∧ st.WarmedH t.vm ∧ st.sameButNew ({ t with vm := st.vm } : State) L mc ms ∧ ∀ z ∈ L, free z.base
def vx_Q (Qc : Array Value → State → Outcome → State → Prop) (XC : String → State → State → Prop) (mc ms : Nat) (free : Addr → Prop) : Array Value → State → Outcome → State → Prop := fun a st o t =>
  (Qc a st o t ∧ ∃ L, FrameEnd st o t L mc ms ∧ ∀ q ∈ L, free q.base) ∨ ∃ q, o = .threw q ∧ vx_T XC st q t mc ms free
/-- a callee that returns or throws -/
def vx_Met (l : Launch) (y : MethodName) (ws : List Cond) (rm : Room) (Pc : Array Value → State → Prop) (Qc : Array Value → State → Outcome → State → Prop) (XC : String → State → State → Prop) (mc ms : Nat) (free : Addr → Prop) : Prop :=
  MetFree l y (headSpec ws rm) Pc (fun _ _ _ _ _ => True) (vx_Q Qc XC mc ms free)
def vx_Post (XC : String → State → State → Prop) (mc ms : Nat) (free : Addr → Prop) : Pt → Array Value → Addr → Pt → Prop := fun A a q B =>
  ∃ (g : JFrame) (mk : MethodId) (t : State) (L : List Loc) (E : String) (ce : Cell), B.U.heap = t.heap ∧ B.U.vm = t.vm ∧ XC E (A.U.calling g mk a) t ∧ t.heap[q]? = some ce ∧ ce.vm = .none ∧ A.U.vm.findClass E = some ce.cls ∧ B.locs = A.locs ++ L ∧ (∀ z ∈ L, free z.base) ∧ B.cells = A.cells + mc ∧ B.slots = A.slots + ms
def vx_Back (l : Launch) (R : Room) (p : Program) (e : Env) (below : List Frame) (s : State) (sargs : Array Value) (y : MethodName) (len W9 : Nat)
    (Pre : Pt → Array Value → Prop) (Post : Pt → Array Value → Option Value → Pt → Prop) (PostX : Pt → Array Value → Addr → Pt → Prop) : Prop :=
  ∀ (m : MethodId) (meth : Method) (c : Code) (A : Pt) (g : JFrame) (ig : Instr) (mk : MethodId) (a : Array Value),
    Stand p l e R s m sargs below meth c A.U A.locs A.cells A.slots → g.method = m → g.locals.size = c.maxLocals → decode c.code g.pc = .ok (ig, len) →
    2 * g.monitorRoom + (g.stack.map fun v => v.category).sum ≤ W9 → A.U.methodNamed? y = some mk → Pre A a →
    (∃ (v : Option Value) (B : Pt), Stand p l e R s m sargs below meth c B.U B.locs B.cells B.slots ∧ Post A a v B ∧
      Steps p.tables e below (doInvoke e (A.U.setTop g) [] mk a).1 (B.U.setTop { g with pc := g.pc + len, stack := v.toList ++ g.stack })) ∨
    (∃ (q : Addr) (B : Pt), Stand p l e R s m sargs below meth c B.U B.locs B.cells B.slots ∧ PostX A a q B ∧
      Steps p.tables e below (doInvoke e (A.U.setTop g) [] mk a).1 ((B.U.setTop g).pushFrame (.throwing q)))
section Payer
variable {l : Launch} {R : Room} {p : Program} {e : Env} {below : List Frame} {s : State} {sargs : Array Value} {y : MethodName} {len W9 : Nat}
theorem vx_back {ws : List Cond} {rm : Room} {Pc : Array Value → State → Prop} {Qc : Array Value → State → Outcome → State → Prop} {XC : String → State → State → Prop} {mc ms : Nat} {free : Addr → Prop} {bytes : ByteArray} {maxL : Nat} {ret : Option FieldType}
    (hM : vx_Met l y ws rm Pc Qc XC mc ms free) (hblind : FrameBlind Pc) (hrc : rm.cells = mc) (hrs : rm.slots = ms)
    (hframes : rm.frames + 1 ≤ R.frames) (hlocals : W9 + (maxL + 11) + rm.locals ≤ R.locals)
    (hws : ∀ w ∈ ws, ∀ a' U, s.WarmedH U.vm → w.before a' U = true) (hcode : Cond.code y bytes maxL ret ∈ ws) (hinit : ∀ a' U, s.WarmedH U.vm → (Cond.initialized y.cls).before a' U = true) :
    vx_Back l R p e below s sargs y len W9 (PreOf R mc ms Pc) (PostOf Qc mc ms free) (vx_Post XC mc ms free) := by
  intro m meth c A g ig mk a X hg hsize hdg hW hn hp
  have h1 : (headSpec ws rm).pre.before a A.U = true := atoms_intro fun w hw => hws w hw _ _ X.warmed
  have h2 : (Cond.code y bytes maxL ret).before a A.U = true := hws _ hcode _ _ X.warmed
  have h3 : (Cond.initialized y.cls).before a A.U = true := hinit _ _ X.warmed
  have h4 : A.cells + (headSpec ws rm).room.cells ≤ R.cells := by rw [show (headSpec ws rm).room.cells = mc from hrc]; exact hp.1
  have h5 : A.slots + (headSpec ws rm).room.slots ≤ R.slots := by rw [show (headSpec ws rm).room.slots = ms from hrs]; exact hp.2.1
  have hPc : Pc a (A.U.calling g mk a) := hblind _ _ _ _ hp.2.2
  obtain ⟨U, Ls, c0, s0⟩ := A
  dsimp only [Pt.U, Pt.locs, Pt.cells, Pt.slots] at h1 h2 h3 h4 h5 X hn hPc ⊢
  obtain ⟨methY, cY, hmY, hcY, -, hlY, -, -, -, -⟩ := Cond.code_spec hn h2
  obtain ⟨kY, hkY, -⟩ := className_of_methodNamed hn
  have hinitY : kY.init = .initialized := Cond.initialized_spec (findClass_of_methodNamed hn) hkY h3
  have h : At U g.method c below := by rw [hg]; exact X.here
  have hlocals9 : W9 + (maxL + 11) + (headSpec ws rm).room.locals ≤ R.locals := hlocals
  have happ : (headSpec ws rm).appliesLoose y e.platform (U.calling g mk a) = true :=
    Spec.appliesLoose_calling (g := g) h hdg hn hkY hinitY
      (X.room_calling (g := g) (R' := (headSpec ws rm).room) hsize hmY hcY hframes (by rw [hlY]; omega) h4 h5) h1
  obtain ⟨mid, hmid⟩ := h.above
  have hfr : (U.setTop g).frames = (.java g :: mid) ++ below := by rw [State.frames_setTop' g h.top, hmid]; rfl
  obtain ⟨o, s₂, hsteps, -, hend, hq⟩ := Steps.callFree hM p X.admits X.cas X.clock (acts := []) hfr happ hPc trivial
  have hq' : vx_Q Qc XC mc ms free a (U.calling g mk a) o s₂ := hq
  rw [State.frames_setTop' g h.top] at hend
  obtain ⟨g₀, hg0⟩ := Option.isSome_iff_exists.mp h.top
  obtain ⟨r, hr⟩ := State.topJava?_eq_some.mp hg0
  have hr' : (({ U with heap := s₂.heap, slotsUsed := s₂.slotsUsed } : State).setVm s₂.vm).frames = .java g₀ :: r := hr
  rcases hq' with ⟨hqc, L, hfe, hL⟩ | ⟨q, rfl, E, ce, L, hx, hce, hcv, hcl, hW₂, hsm, hL⟩
  · obtain ⟨⟨v, rfl⟩, hW₂, e2, q2, q3, q4, q5, q6⟩ := id hfe
    have e3 : s₂ = ({ (U.calling g mk a).setFrames s₂.frames with heap := s₂.heap, slotsUsed := s₂.slotsUsed } : State).setVm s₂.vm := by
      have : s₂ = ({ s₂ with vm := (U.calling g mk a).vm } : State).setVm s₂.vm := rfl
      rw [e2] at this
      exact this
    obtain ⟨c₂, i₂, len₂, hc₂, hd₂, hf₂⟩ := hend
    have hW' : U.WarmedH s₂.vm := hW₂
    have hcc : c₂ = c := by
      have h1 : s₂.code? g.method = U.code? g.method := by
        rw [State.code?_eq, State.code?_eq, hW'.alike.method?]
      exact Option.some.inj (hc₂.symm.trans (h1.trans h.code))
    subst hcc
    have hlen : len₂ = len := by rw [hdg] at hd₂; cases hd₂; rfl
    subst hlen
    have hs₂ : s₂ = (({ U with heap := s₂.heap, slotsUsed := s₂.slotsUsed } : State).setVm s₂.vm).setTop { g with pc := g.pc + len₂, stack := v.toList ++ g.stack } := by
      refine e3.trans ?_
      rw [hf₂, State.calling_eq h.top, State.setFrames_setFrames, State.setTop_of_frames _ hr', hr]
      rfl
    have hsame : U.sameButNew ({ U with heap := s₂.heap, slotsUsed := s₂.slotsUsed } : State) L mc ms := by
      refine ⟨?_, q2, q3, q4, q5, q6⟩
      obtain ⟨t, ht, -⟩ := State.frames_cons hr
      show ({ U with heap := s₂.heap, slotsUsed := s₂.slotsUsed } : State) = { U.setFrames U.frames with heap := s₂.heap, slotsUsed := s₂.slotsUsed }
      rw [State.setFrames_self ht]
    subst hg
    refine Or.inl ⟨v, ⟨(({ U with heap := s₂.heap, slotsUsed := s₂.slotsUsed } : State).setVm s₂.vm), Ls ++ L, c0 + mc, s0 + ms⟩,
      ⟨X.admits, X.cas, X.clock, X.frames, X.room, X.hears, X.method, X.code, (X.here.setHeapUsed s₂.heap s₂.slotsUsed).setVm hW'.alike, X.tail, State.WarmedH.trans X.warmed hW', X.limits, X.bytes, X.same.trans (hsame.setVm s.vm)⟩,
      ⟨g, mk, s₂, L, rfl, rfl, hqc, rfl, hL, rfl, rfl⟩, ?_⟩
    show Steps p.tables e below _ ((({ U with heap := s₂.heap, slotsUsed := s₂.slotsUsed } : State).setVm s₂.vm).setTop { g with pc := g.pc + len₂, stack := v.toList ++ g.stack })
    rw [← hs₂]
    exact hsteps
  · obtain ⟨e2, q2, q3, q4, q5, q6⟩ := id hsm
    have e3 : s₂ = ({ (U.calling g mk a).setFrames s₂.frames with heap := s₂.heap, slotsUsed := s₂.slotsUsed } : State).setVm s₂.vm := by
      have : s₂ = ({ s₂ with vm := (U.calling g mk a).vm } : State).setVm s₂.vm := rfl
      rw [e2] at this
      exact this
    have hf₂ : s₂.frames = .throwing q :: .java g :: U.frames.tail := hend
    have hW' : U.WarmedH s₂.vm := hW₂
    have hs₂ : s₂ = ((({ U with heap := s₂.heap, slotsUsed := s₂.slotsUsed } : State).setVm s₂.vm).setTop g).pushFrame (.throwing q) := by
      refine e3.trans ?_
      rw [hf₂, State.calling_eq h.top, State.setFrames_setFrames, State.pushFrame, State.frames_setTop _ hr', State.setTop_of_frames _ hr', State.setFrames_setFrames, hr]
      rfl
    have hsame : U.sameButNew ({ U with heap := s₂.heap, slotsUsed := s₂.slotsUsed } : State) L mc ms := by
      refine ⟨?_, q2, q3, q4, q5, q6⟩
      obtain ⟨t, ht, -⟩ := State.frames_cons hr
      show ({ U with heap := s₂.heap, slotsUsed := s₂.slotsUsed } : State) = { U.setFrames U.frames with heap := s₂.heap, slotsUsed := s₂.slotsUsed }
      rw [State.setFrames_self ht]
    subst hg
    refine Or.inr ⟨q, ⟨(({ U with heap := s₂.heap, slotsUsed := s₂.slotsUsed } : State).setVm s₂.vm), Ls ++ L, c0 + mc, s0 + ms⟩,
      ⟨X.admits, X.cas, X.clock, X.frames, X.room, X.hears, X.method, X.code, (X.here.setHeapUsed s₂.heap s₂.slotsUsed).setVm hW'.alike, X.tail, State.WarmedH.trans X.warmed hW', X.limits, X.bytes, X.same.trans (hsame.setVm s.vm)⟩,
      ⟨g, mk, s₂, L, E, ce, rfl, rfl, hx, hce, hcv, hcl, rfl, hL, rfl, rfl⟩, ?_⟩
    show Steps p.tables e below _ (((({ U with heap := s₂.heap, slotsUsed := s₂.slotsUsed } : State).setVm s₂.vm).setTop g).pushFrame (.throwing q))
    rw [← hs₂]
    exact hsteps
end Payer
section Calls
variable {p : Program} {l : Launch} {e : Env} {R : Room} {s : State} {m : MethodId} {args : Array Value} {below : List Frame} {meth : Method} {c : Code} {T : State} {locs : List Loc} {cells slots : Nat}
theorem vx_callV (X : Stand p l e R s m args below meth c T locs cells slots) (hexec : p.tables.exec = Jvm.exec) {own C : String} {index : Nat} {y : MethodName} {bytes : ByteArray} {maxL : Nat} {ret : Option FieldType}
    (hown : s.vm.findClass own = some m.cls) (hlink : (Cond.methodLink own index y).before args s = true) (hinst : (Cond.instanceMethod y).before args s = true) (hsel : (Cond.selects C y y).before args s = true)
    (hcode : (Cond.code y bytes maxL ret).before args s = true) (hy : y.cls ≠ "java/lang/invoke/MethodHandle" ∧ y.cls ≠ "java/lang/invoke/VarHandle")
    {W9 : Nat} {Pre : Pt → Array Value → Prop} {Post : Pt → Array Value → Option Value → Pt → Prop} {PostX : Pt → Array Value → Addr → Pt → Prop} (hK : vx_Back l R p e below s args y 3 W9 Pre Post PostX)
    {b : Addr} {cellB : Cell} (hcell : T.heap[b]? = some cellB) (hobj : cellB.vm.isStatics = false) (hcls : s.vm.findClass C = some cellB.cls)
    {g : JFrame} (hg : g.method = m) (hsize : g.locals.size = c.maxLocals) {argsL rest : List Value} (hlen : ∀ sig, parseMethodDescriptor y.desc = some sig → argsL.length = sig.parameters.length)
    (hstack : g.stack = argsL.reverse ++ .ref b :: rest) (hW : 2 * g.monitorRoom + (rest.map fun v => v.category).sum ≤ W9) (hdg : decode c.code g.pc = .ok (.invokevirtual index, 3))
    (hpre : ∀ vm₁, s.WarmedH vm₁ → Pre ⟨T.setVm vm₁, locs, cells, slots⟩ (Value.ref b :: argsL).toArray) :
    (∃ (v : Option Value) (vm₁ : Vm) (B : Pt), s.WarmedH vm₁ ∧ Stand p l e R s m args below meth c B.U B.locs B.cells B.slots ∧ Post ⟨T.setVm vm₁, locs, cells, slots⟩ (Value.ref b :: argsL).toArray v B ∧
      ∀ target, Steps p.tables e below (B.U.setTop { g with pc := g.pc + 3, stack := v.toList ++ rest }) target → Steps p.tables e below (T.setTop g) target) ∨
    (∃ (q : Addr) (vm₁ : Vm) (B : Pt), s.WarmedH vm₁ ∧ Stand p l e R s m args below meth c B.U B.locs B.cells B.slots ∧ PostX ⟨T.setVm vm₁, locs, cells, slots⟩ (Value.ref b :: argsL).toArray q B ∧
      Steps p.tables e below (T.setTop g) ((B.U.setTop { g with stack := rest }).pushFrame (.throwing q))) := by
  obtain ⟨mk, methM, hnamed, hmethM, hstM, habM⟩ := Cond.instanceMethod_spec hinst
  obtain ⟨methM', cM, hmethM', -, -, -, -, -, -, hsigM⟩ := Cond.code_spec hnamed hcode
  cases hmethM.symm.trans hmethM'
  obtain ⟨c2, r2, m2, q1, q2, q3, q4, kP, hkP, hkPi⟩ := Cond.selects_spec hsel
  cases hcls.symm.trans q1
  cases (State.methodFound?_of_named hnamed hy).symm.trans q2
  cases hnamed.symm.trans q3
  have hselP : selectMethod e.platform s.vm cellB.cls mk = .method mk := by rw [Launch.admits_selectMethod X.admits]; exact q4
  obtain ⟨vm₁, X₁, hstep₁⟩ := X.invokevirtual hexec hown hlink hnamed hmethM hstM hkP hkPi hy (a := b) (cell := cellB) hcell
    (fun z h => by rw [h] at hobj; cases hobj) hselP hmethM habM hkP hkPi (g := g) hg (argsL := argsL) (rest := rest) (hlen _ hsigM) hstack hdg
  rcases hK m meth c ⟨T.setVm vm₁, locs, cells, slots⟩ { g with stack := rest } (.invokevirtual index) mk (Value.ref b :: argsL).toArray X₁ hg hsize hdg hW (X₁.named hnamed) (hpre vm₁ X₁.warmed) with ⟨v, B, X', hpost, hsteps⟩ | ⟨q, B, X', hpost, hsteps⟩
  · exact Or.inl ⟨v, vm₁, B, X₁.warmed, X', hpost, fun target h => hstep₁ _ fun acts => by rw [doInvoke_state]; exact hsteps.trans h⟩
  · exact Or.inr ⟨q, vm₁, B, X₁.warmed, X', hpost, hstep₁ _ fun acts => by rw [doInvoke_state]; exact hsteps⟩
theorem vx_callS (X : Stand p l e R s m args below meth c T locs cells slots) (hexec : p.tables.exec = Jvm.exec) {own : String} {index : Nat} {y : MethodName} {bytes : ByteArray} {maxL : Nat} {ret : Option FieldType}
    (hown : s.vm.findClass own = some m.cls) (hlink : (Cond.methodLink own index y).before args s = true) (hstat : (Cond.static y).before args s = true) (hinit : (Cond.initialized y.cls).before args s = true)
    (hcode : (Cond.code y bytes maxL ret).before args s = true) (hy : y.cls ≠ "java/lang/invoke/MethodHandle" ∧ y.cls ≠ "java/lang/invoke/VarHandle")
    {W9 : Nat} {Pre : Pt → Array Value → Prop} {Post : Pt → Array Value → Option Value → Pt → Prop} {PostX : Pt → Array Value → Addr → Pt → Prop} (hK : vx_Back l R p e below s args y 3 W9 Pre Post PostX)
    {g : JFrame} (hg : g.method = m) (hsize : g.locals.size = c.maxLocals) {argsL rest : List Value} (hlen : ∀ sig, parseMethodDescriptor y.desc = some sig → argsL.length = sig.parameters.length)
    (hstack : g.stack = argsL.reverse ++ rest) (hW : 2 * g.monitorRoom + (rest.map fun v => v.category).sum ≤ W9) (hdg : decode c.code g.pc = .ok (.invokestatic index, 3))
    (hpre : ∀ vm₁, s.WarmedH vm₁ → Pre ⟨T.setVm vm₁, locs, cells, slots⟩ argsL.toArray) :
    (∃ (v : Option Value) (vm₁ : Vm) (B : Pt), s.WarmedH vm₁ ∧ Stand p l e R s m args below meth c B.U B.locs B.cells B.slots ∧ Post ⟨T.setVm vm₁, locs, cells, slots⟩ argsL.toArray v B ∧
      ∀ target, Steps p.tables e below (B.U.setTop { g with pc := g.pc + 3, stack := v.toList ++ rest }) target → Steps p.tables e below (T.setTop g) target) ∨
    (∃ (q : Addr) (vm₁ : Vm) (B : Pt), s.WarmedH vm₁ ∧ Stand p l e R s m args below meth c B.U B.locs B.cells B.slots ∧ PostX ⟨T.setVm vm₁, locs, cells, slots⟩ argsL.toArray q B ∧
      Steps p.tables e below (T.setTop g) ((B.U.setTop { g with stack := rest }).pushFrame (.throwing q))) := by
  obtain ⟨mk, hnamed⟩ := Cond.code_named hcode
  obtain ⟨methM, cM, hmethM, -, -, -, -, -, -, hsigM⟩ := Cond.code_spec hnamed hcode
  have hstatic : methM.isStatic = true := Cond.static_spec hnamed hmethM hstat
  obtain ⟨kP, hkP, -⟩ := className_of_methodNamed hnamed
  have hinitP : kP.init = .initialized := Cond.initialized_spec (findClass_of_methodNamed hnamed) hkP hinit
  obtain ⟨vm₁, X₁, hstep₁⟩ := X.invokestatic hexec hown hlink hnamed hmethM hstatic hkP hinitP hy (g := g) hg (argsL := argsL) (rest := rest) (hlen _ hsigM) hstack hdg
  rcases hK m meth c ⟨T.setVm vm₁, locs, cells, slots⟩ { g with stack := rest } (.invokestatic index) mk argsL.toArray X₁ hg hsize hdg hW (X₁.named hnamed) (hpre vm₁ X₁.warmed) with ⟨v, B, X', hpost, hsteps⟩ | ⟨q, B, X', hpost, hsteps⟩
  · exact Or.inl ⟨v, vm₁, B, X₁.warmed, X', hpost, fun target h => hstep₁ _ fun acts => by rw [doInvoke_state]; exact hsteps.trans h⟩
  · exact Or.inr ⟨q, vm₁, B, X₁.warmed, X', hpost, hstep₁ _ fun acts => by rw [doInvoke_state]; exact hsteps⟩
end Calls
theorem vx_cls {s : State} {T : State} {vm₁ : Vm} {E : String} {k : ClassId} (hW : s.WarmedH vm₁) (h : (T.setVm vm₁).vm.findClass E = some k) : s.vm.findClass E = some k := by
  have h1 : vm₁.findClass E = some k := h
  rw [hW.alike.findClass] at h1
  exact h1
/-- the method's frame g, with q thrown over it -/
def vx_W (p : Program) (l : Launch) (e : Env) (R : Room) (s : State) (m : MethodId) (args : Array Value) (below : List Frame) (meth : Method) (c : Code) (H : Heap) (locs : List Loc) (cells slots : Nat) (Q : State → Prop) (g : JFrame) (q : Addr) : Prop :=
  ∀ T : State, T.heap = H → Stand p l e R s m args below meth c T locs cells slots → ∃ t, Steps p.tables e below ((T.setTop g).pushFrame (.throwing q)) t ∧ Q t
def vx_Run (p : Program) (l : Launch) (e : Env) (R : Room) (s : State) (m : MethodId) (args : Array Value) (below : List Frame) (meth : Method) (c : Code) (H : Heap) (locs : List Loc) (cells slots mc ms : Nat) (g : JFrame) (rest : List Value) (Qa : State → Outcome → State → Prop) (XC : String → State → State → Prop) (free : Addr → Prop) : Prop :=
  ∀ T : State, T.heap = H → Stand p l e R s m args below meth c T locs cells slots →
    (∃ (v : Option Value) (st₀ t T' : State) (L : List Loc), st₀.heap = H ∧ Stand p l e R s m args below meth c T' (locs ++ L) (cells + mc) (slots + ms) ∧ (∀ q ∈ L, free q.base) ∧ T'.heap = t.heap ∧ T'.vm = t.vm ∧ Qa st₀ (.returned v) t ∧
      Goes p e below T g T' { g with pc := g.pc + 3, stack := v.toList ++ rest }) ∨
    (∃ (q : Addr) (st₀ t T' : State) (L : List Loc) (E : String) (ce : Cell), st₀.heap = H ∧ Stand p l e R s m args below meth c T' (locs ++ L) (cells + mc) (slots + ms) ∧ (∀ z ∈ L, free z.base) ∧ T'.heap = t.heap ∧ T'.vm = t.vm ∧ XC E st₀ t ∧ t.heap[q]? = some ce ∧ ce.vm = .none ∧ s.vm.findClass E = some ce.cls ∧
      Steps p.tables e below (T.setTop g) ((T'.setTop { g with stack := rest }).pushFrame (.throwing q)))
def vx_X {S : Type} (px : S → Prop) (B : String → S → State → Prop) (A : Nat → Prop) : String → State → State → Prop := fun E st t => ∃ u : S, px u ∧ B E u t ∧ va_F A st t
section Runs
variable {p : Program} {l : Launch} {e : Env} {R : Room} {s : State} {m : MethodId} {args : Array Value} {below : List Frame} {meth : Method} {c : Code} {H : Heap} {locs : List Loc} {cells slots : Nat}
variable {y : MethodName} {bytes cc : ByteArray} {maxL nL mc ms n index : Nat} {ret : Option FieldType} {ws : List Cond} {rm : Room} {Pc : Array Value → State → Prop} {Qc : Array Value → State → Outcome → State → Prop} {XC : String → State → State → Prop} {free : Addr → Prop} {Ts : List Cond} {own C : String} {b : Addr} {As rest : List Value} {g : JFrame}
theorem vx_callBack (cb : CallB R s args own index y bytes maxL ret ws rm mc ms n) (hM : vx_Met l y ws rm Pc Qc XC mc ms free) (hbl : FrameBlind Pc) : vx_Back l R p e below s args y 3 8 (PreOf R mc ms Pc) (PostOf Qc mc ms free) (vx_Post XC mc ms free) := by
  obtain ⟨hrc, hrs, hfr, hlo, hws, hcw, -, hini, -⟩ := cb
  exact vx_back (bytes := bytes) (maxL := maxL) (ret := ret) hM hbl hrc hrs hfr hlo hws hcw (fun a' U hW => word_at hW (Or.inl (by first | rfl | simp [Cond.onTables, Cond.keeps, Cond.steady])) hini)
theorem vx_runV (S : CallFix p m c cc nL s args Ts own) (hM : vx_Met l y ws rm Pc Qc XC mc ms free) (cw : CallW R s args own C index y bytes maxL ret ws rm mc ms n) (hp : PreV s H C b Pc As)
    (hg : g.method = m) (hn : As.length = n) (hsize : g.locals.size = nL) (hstack : g.stack = As.reverse ++ .ref b :: rest) (hW : 2 * g.monitorRoom + (rest.map fun v => v.category).sum ≤ 8) (hdg : decode cc g.pc = .ok (.invokevirtual index, 3)) (hf : cells + mc ≤ R.cells ∧ slots + ms ≤ R.slots) :
    vx_Run p l e R s m args below meth c H locs cells slots mc ms g rest (Qc (Value.ref b :: As).toArray) XC free := by
  have hK : vx_Back l R p e below s args y 3 8 (PreOf R mc ms Pc) (PostOf Qc mc ms free) (vx_Post XC mc ms free) := vx_callBack cw.1 hM hp.1
  obtain ⟨⟨-, -, -, -, -, -, hcode, -, hy, hlen, hl⟩, hin, hse⟩ := cw
  obtain ⟨hx, hb, hml, ho, -⟩ := S
  obtain ⟨-, ⟨cellB, hcB, hoB, hclB⟩, hPc⟩ := hp
  intro T hT X
  rcases vx_callV X hx (C := C) (bytes := bytes) (maxL := maxL) (ret := ret) ho hl hin hse hcode hy hK (by rw [hT]; exact hcB) hoB hclB hg (hsize.trans hml.symm) (argsL := As) (rest := rest) (fun sig h => hn.trans (hlen sig h)) hstack hW (by rw [hb]; exact hdg)
    (fun vm₁ hW₁ => ⟨hf.1, hf.2, hPc (T.setVm vm₁) hT hW₁⟩) with ⟨v, vm₁, ⟨U', l2, c2, s2⟩, hW₁, X', ⟨g', mk, t, L, e1, e2, hq, h1, hL, h2, h3⟩, st⟩ | ⟨q, vm₁, ⟨U', l2, c2, s2⟩, hW₁, X', ⟨g', mk, t, L, E, ce, e1, e2, hq, hce, hcv, hcl, h1, hL, h2, h3⟩, st⟩
  · dsimp only [Pt.U, Pt.locs, Pt.cells, Pt.slots] at X' e1 e2 h1 h2 h3 st
    subst h1; subst h2; subst h3
    exact Or.inl ⟨v, (T.setVm vm₁).calling g' mk (Value.ref b :: As).toArray, t, U', L, hT, X', hL, e1, e2, hq, st⟩
  · dsimp only [Pt.U, Pt.locs, Pt.cells, Pt.slots] at X' e1 e2 h1 h2 h3 st hcl
    subst h1; subst h2; subst h3
    exact Or.inr ⟨q, (T.setVm vm₁).calling g' mk (Value.ref b :: As).toArray, t, U', L, E, ce, hT, X', hL, e1, e2, hq, hce, hcv, vx_cls hW₁ hcl, st⟩
theorem vx_runS (S : CallFix p m c cc nL s args Ts own) (hM : vx_Met l y ws rm Pc Qc XC mc ms free) (cw : CallB R s args own index y bytes maxL ret ws rm mc ms n ∧ (Cond.static y).before args s = true) (hp : PreS s H Pc As)
    (hg : g.method = m) (hn : As.length = n) (hsize : g.locals.size = nL) (hstack : g.stack = As.reverse ++ rest) (hW : 2 * g.monitorRoom + (rest.map fun v => v.category).sum ≤ 8) (hdg : decode cc g.pc = .ok (.invokestatic index, 3)) (hf : cells + mc ≤ R.cells ∧ slots + ms ≤ R.slots) :
    vx_Run p l e R s m args below meth c H locs cells slots mc ms g rest (Qc As.toArray) XC free := by
  have hK : vx_Back l R p e below s args y 3 8 (PreOf R mc ms Pc) (PostOf Qc mc ms free) (vx_Post XC mc ms free) := vx_callBack cw.1 hM hp.1
  obtain ⟨⟨-, -, -, -, -, -, hcode, hini, hy, hlen, hl⟩, hstt⟩ := cw
  obtain ⟨hx, hb, hml, ho, -⟩ := S
  intro T hT X
  rcases vx_callS X hx (bytes := bytes) (maxL := maxL) (ret := ret) ho hl hstt hini hcode hy hK hg (hsize.trans hml.symm) (argsL := As) (rest := rest) (fun sig h => hn.trans (hlen sig h)) hstack hW (by rw [hb]; exact hdg)
    (fun vm₁ hW₁ => ⟨hf.1, hf.2, hp.2 (T.setVm vm₁) hT hW₁⟩) with ⟨v, vm₁, ⟨U', l2, c2, s2⟩, hW₁, X', ⟨g', mk, t, L, e1, e2, hq, h1, hL, h2, h3⟩, st⟩ | ⟨q, vm₁, ⟨U', l2, c2, s2⟩, hW₁, X', ⟨g', mk, t, L, E, ce, e1, e2, hq, hce, hcv, hcl, h1, hL, h2, h3⟩, st⟩
  · dsimp only [Pt.U, Pt.locs, Pt.cells, Pt.slots] at X' e1 e2 h1 h2 h3 st
    subst h1; subst h2; subst h3
    exact Or.inl ⟨v, (T.setVm vm₁).calling g' mk As.toArray, t, U', L, hT, X', hL, e1, e2, hq, st⟩
  · dsimp only [Pt.U, Pt.locs, Pt.cells, Pt.slots] at X' e1 e2 h1 h2 h3 st hcl
    subst h1; subst h2; subst h3
    exact Or.inr ⟨q, (T.setVm vm₁).calling g' mk As.toArray, t, U', L, E, ce, hT, X', hL, e1, e2, hq, hce, hcv, vx_cls hW₁ hcl, st⟩
end Runs
section Rows
variable {p : Program} {l : Launch} {e : Env} {R : Room} {s : State} {m : MethodId} {args : Array Value} {below : List Frame} {meth : Method} {c : Code} {H : Heap} {locs : List Loc} {cells slots : Nat} {Q : State → Prop}
variable {mc ms : Nat} {free : Addr → Prop} {A0 A1 : Nat → Prop} {H0 : Heap} {a : Array Value} {pc : Nat} {ls : Array Slot} {st0 rest : List Value}
theorem vx_keep {st₀ t T' : State} {L : List Loc} (h0 : st₀.heap = H) (e1 : T'.heap = t.heap) (hS : va_S A0 H0 H locs) (hA : ∀ q, q < H.size → A1 q → A0 q) (hf : ∀ q, free q → A0 q) (hL : ∀ q ∈ L, free q.base) (hF : va_F A1 st₀ t) :
    H.size ≤ T'.heap.size ∧ (∀ q : Nat, q < H.size → ¬ A1 q → T'.heap[q]? = H[q]?) ∧ va_S A0 H0 T'.heap (locs ++ L) := by
  obtain ⟨hz, hk⟩ := hF
  rw [h0] at hz hk
  exact ⟨by rw [e1]; exact hz, fun q h1 h2 => by rw [e1]; exact hk q h1 h2,
    ⟨Nat.le_trans hS.1 (by rw [e1]; exact hz), fun q h1 h2 => by rw [e1, hk q (Nat.lt_of_lt_of_le h1 hS.1) (fun z => h2 (hA q (Nat.lt_of_lt_of_le h1 hS.1) z))]; exact hS.2.1 q h1 h2, fun q hq => by
      rcases List.mem_append.mp hq with h | h
      · exact hS.2.2 q h
      · exact hf _ (hL q h)⟩⟩
theorem vx_calli {S SX : Type} {post : Int32 → S → Prop} {px : SX → Prop} {B : S → State → Prop} {BX : String → SX → State → Prop} {AX : Nat → Prop} (hr : vx_Run p l e R s m args below meth c H locs cells slots mc ms (F0 m pc ls st0) rest (va_Qi post B A1 a) (vx_X px BX AX) free) (hS : va_S A0 H0 H locs) (hA : ∀ q, q < H.size → A1 q → A0 q) (hf : ∀ q, free q → A0 q) (hAX : ∀ q, q < H.size → AX q → A0 q)
    (kx : ∀ (E : String) (ce : Cell) (q9 : Addr) (u : SX) (t : State) (H1 : Heap) (locs1 : List Loc), t.heap = H1 → s.vm.Alike t.vm → px u → BX E u t → H.size ≤ H1.size → (∀ q : Nat, q < H.size → ¬ AX q → H1[q]? = H[q]?) → va_S A0 H0 H1 locs1 → H1[q9]? = some ce → ce.vm = .none → s.vm.findClass E = some ce.cls → vx_W p l e R s m args below meth c H1 locs1 (cells + mc) (slots + ms) Q (F0 m pc ls rest) q9)
    (kk : ∀ (r : Int32) (u : S) (t : State) (H1 : Heap) (locs1 : List Loc), t.heap = H1 → s.vm.Alike t.vm → post r u → B u t → H.size ≤ H1.size → (∀ q : Nat, q < H.size → ¬ A1 q → H1[q]? = H[q]?) → va_S A0 H0 H1 locs1 → W p l e R s m args below meth c H1 locs1 (cells + mc) (slots + ms) Q (F0 m (pc + 3) ls (.int r :: rest))) : W p l e R s m args below meth c H locs cells slots Q (F0 m pc ls st0) := by
  intro T hT X
  rcases hr T hT X with ⟨v, st₀, t, T', L, h0, X', hL, e1, e2, ⟨⟨r, u, hv, hp, hb⟩, hF⟩, st⟩ | ⟨q, st₀, t, T', L, E, ce, h0, X', hL, e1, e2, ⟨u, hp, hb, hF⟩, hce, hcv, hcl, st⟩
  · cases hv
    obtain ⟨k1, k2, k3⟩ := vx_keep h0 e1 hS hA hf hL hF
    obtain ⟨t2, a1, b1⟩ := kk r u t T'.heap (locs ++ L) e1.symm (by rw [← e2]; exact X'.warmed.alike) hp hb k1 k2 k3 T' rfl X'
    exact ⟨t2, st t2 a1, b1⟩
  · obtain ⟨k1, k2, k3⟩ := vx_keep h0 e1 hS hAX hf hL hF
    obtain ⟨t2, a1, b1⟩ := kx E ce q u t T'.heap (locs ++ L) e1.symm (by rw [← e2]; exact X'.warmed.alike) hp hb k1 k2 k3 (by rw [e1]; exact hce) hcv hcl T' rfl X'
    exact ⟨t2, st.trans a1, b1⟩
theorem vx_calll {S SX : Type} {post : Int64 → S → Prop} {px : SX → Prop} {B : S → State → Prop} {BX : String → SX → State → Prop} {AX : Nat → Prop} (hr : vx_Run p l e R s m args below meth c H locs cells slots mc ms (F0 m pc ls st0) rest (va_Ql post B A1 a) (vx_X px BX AX) free) (hS : va_S A0 H0 H locs) (hA : ∀ q, q < H.size → A1 q → A0 q) (hf : ∀ q, free q → A0 q) (hAX : ∀ q, q < H.size → AX q → A0 q)
    (kx : ∀ (E : String) (ce : Cell) (q9 : Addr) (u : SX) (t : State) (H1 : Heap) (locs1 : List Loc), t.heap = H1 → s.vm.Alike t.vm → px u → BX E u t → H.size ≤ H1.size → (∀ q : Nat, q < H.size → ¬ AX q → H1[q]? = H[q]?) → va_S A0 H0 H1 locs1 → H1[q9]? = some ce → ce.vm = .none → s.vm.findClass E = some ce.cls → vx_W p l e R s m args below meth c H1 locs1 (cells + mc) (slots + ms) Q (F0 m pc ls rest) q9)
    (kk : ∀ (r : Int64) (u : S) (t : State) (H1 : Heap) (locs1 : List Loc), t.heap = H1 → s.vm.Alike t.vm → post r u → B u t → H.size ≤ H1.size → (∀ q : Nat, q < H.size → ¬ A1 q → H1[q]? = H[q]?) → va_S A0 H0 H1 locs1 → W p l e R s m args below meth c H1 locs1 (cells + mc) (slots + ms) Q (F0 m (pc + 3) ls (.long r :: rest))) : W p l e R s m args below meth c H locs cells slots Q (F0 m pc ls st0) := by
  intro T hT X
  rcases hr T hT X with ⟨v, st₀, t, T', L, h0, X', hL, e1, e2, ⟨⟨r, u, hv, hp, hb⟩, hF⟩, st⟩ | ⟨q, st₀, t, T', L, E, ce, h0, X', hL, e1, e2, ⟨u, hp, hb, hF⟩, hce, hcv, hcl, st⟩
  · cases hv
    obtain ⟨k1, k2, k3⟩ := vx_keep h0 e1 hS hA hf hL hF
    obtain ⟨t2, a1, b1⟩ := kk r u t T'.heap (locs ++ L) e1.symm (by rw [← e2]; exact X'.warmed.alike) hp hb k1 k2 k3 T' rfl X'
    exact ⟨t2, st t2 a1, b1⟩
  · obtain ⟨k1, k2, k3⟩ := vx_keep h0 e1 hS hAX hf hL hF
    obtain ⟨t2, a1, b1⟩ := kx E ce q u t T'.heap (locs ++ L) e1.symm (by rw [← e2]; exact X'.warmed.alike) hp hb k1 k2 k3 (by rw [e1]; exact hce) hcv hcl T' rfl X'
    exact ⟨t2, st.trans a1, b1⟩
theorem vx_callf {S SX : Type} {post : UInt32 → S → Prop} {px : SX → Prop} {B : S → State → Prop} {BX : String → SX → State → Prop} {AX : Nat → Prop} (hr : vx_Run p l e R s m args below meth c H locs cells slots mc ms (F0 m pc ls st0) rest (va_Qf post B A1 a) (vx_X px BX AX) free) (hS : va_S A0 H0 H locs) (hA : ∀ q, q < H.size → A1 q → A0 q) (hf : ∀ q, free q → A0 q) (hAX : ∀ q, q < H.size → AX q → A0 q)
    (kx : ∀ (E : String) (ce : Cell) (q9 : Addr) (u : SX) (t : State) (H1 : Heap) (locs1 : List Loc), t.heap = H1 → s.vm.Alike t.vm → px u → BX E u t → H.size ≤ H1.size → (∀ q : Nat, q < H.size → ¬ AX q → H1[q]? = H[q]?) → va_S A0 H0 H1 locs1 → H1[q9]? = some ce → ce.vm = .none → s.vm.findClass E = some ce.cls → vx_W p l e R s m args below meth c H1 locs1 (cells + mc) (slots + ms) Q (F0 m pc ls rest) q9)
    (kk : ∀ (r : UInt32) (u : S) (t : State) (H1 : Heap) (locs1 : List Loc), t.heap = H1 → s.vm.Alike t.vm → post r u → B u t → H.size ≤ H1.size → (∀ q : Nat, q < H.size → ¬ A1 q → H1[q]? = H[q]?) → va_S A0 H0 H1 locs1 → W p l e R s m args below meth c H1 locs1 (cells + mc) (slots + ms) Q (F0 m (pc + 3) ls (.float r :: rest))) : W p l e R s m args below meth c H locs cells slots Q (F0 m pc ls st0) := by
  intro T hT X
  rcases hr T hT X with ⟨v, st₀, t, T', L, h0, X', hL, e1, e2, ⟨⟨r, u, hv, hp, hb⟩, hF⟩, st⟩ | ⟨q, st₀, t, T', L, E, ce, h0, X', hL, e1, e2, ⟨u, hp, hb, hF⟩, hce, hcv, hcl, st⟩
  · cases hv
    obtain ⟨k1, k2, k3⟩ := vx_keep h0 e1 hS hA hf hL hF
    obtain ⟨t2, a1, b1⟩ := kk r u t T'.heap (locs ++ L) e1.symm (by rw [← e2]; exact X'.warmed.alike) hp hb k1 k2 k3 T' rfl X'
    exact ⟨t2, st t2 a1, b1⟩
  · obtain ⟨k1, k2, k3⟩ := vx_keep h0 e1 hS hAX hf hL hF
    obtain ⟨t2, a1, b1⟩ := kx E ce q u t T'.heap (locs ++ L) e1.symm (by rw [← e2]; exact X'.warmed.alike) hp hb k1 k2 k3 (by rw [e1]; exact hce) hcv hcl T' rfl X'
    exact ⟨t2, st.trans a1, b1⟩
theorem vx_calld {S SX : Type} {post : UInt64 → S → Prop} {px : SX → Prop} {B : S → State → Prop} {BX : String → SX → State → Prop} {AX : Nat → Prop} (hr : vx_Run p l e R s m args below meth c H locs cells slots mc ms (F0 m pc ls st0) rest (va_Qd post B A1 a) (vx_X px BX AX) free) (hS : va_S A0 H0 H locs) (hA : ∀ q, q < H.size → A1 q → A0 q) (hf : ∀ q, free q → A0 q) (hAX : ∀ q, q < H.size → AX q → A0 q)
    (kx : ∀ (E : String) (ce : Cell) (q9 : Addr) (u : SX) (t : State) (H1 : Heap) (locs1 : List Loc), t.heap = H1 → s.vm.Alike t.vm → px u → BX E u t → H.size ≤ H1.size → (∀ q : Nat, q < H.size → ¬ AX q → H1[q]? = H[q]?) → va_S A0 H0 H1 locs1 → H1[q9]? = some ce → ce.vm = .none → s.vm.findClass E = some ce.cls → vx_W p l e R s m args below meth c H1 locs1 (cells + mc) (slots + ms) Q (F0 m pc ls rest) q9)
    (kk : ∀ (r : UInt64) (u : S) (t : State) (H1 : Heap) (locs1 : List Loc), t.heap = H1 → s.vm.Alike t.vm → post r u → B u t → H.size ≤ H1.size → (∀ q : Nat, q < H.size → ¬ A1 q → H1[q]? = H[q]?) → va_S A0 H0 H1 locs1 → W p l e R s m args below meth c H1 locs1 (cells + mc) (slots + ms) Q (F0 m (pc + 3) ls (.double r :: rest))) : W p l e R s m args below meth c H locs cells slots Q (F0 m pc ls st0) := by
  intro T hT X
  rcases hr T hT X with ⟨v, st₀, t, T', L, h0, X', hL, e1, e2, ⟨⟨r, u, hv, hp, hb⟩, hF⟩, st⟩ | ⟨q, st₀, t, T', L, E, ce, h0, X', hL, e1, e2, ⟨u, hp, hb, hF⟩, hce, hcv, hcl, st⟩
  · cases hv
    obtain ⟨k1, k2, k3⟩ := vx_keep h0 e1 hS hA hf hL hF
    obtain ⟨t2, a1, b1⟩ := kk r u t T'.heap (locs ++ L) e1.symm (by rw [← e2]; exact X'.warmed.alike) hp hb k1 k2 k3 T' rfl X'
    exact ⟨t2, st t2 a1, b1⟩
  · obtain ⟨k1, k2, k3⟩ := vx_keep h0 e1 hS hAX hf hL hF
    obtain ⟨t2, a1, b1⟩ := kx E ce q u t T'.heap (locs ++ L) e1.symm (by rw [← e2]; exact X'.warmed.alike) hp hb k1 k2 k3 (by rw [e1]; exact hce) hcv hcl T' rfl X'
    exact ⟨t2, st.trans a1, b1⟩
theorem vx_callv {S SX : Type} {post : S → Prop} {px : SX → Prop} {B : S → State → Prop} {BX : String → SX → State → Prop} {AX : Nat → Prop} (hr : vx_Run p l e R s m args below meth c H locs cells slots mc ms (F0 m pc ls st0) rest (va_Qv post B A1 a) (vx_X px BX AX) free) (hS : va_S A0 H0 H locs) (hA : ∀ q, q < H.size → A1 q → A0 q) (hf : ∀ q, free q → A0 q) (hAX : ∀ q, q < H.size → AX q → A0 q)
    (kx : ∀ (E : String) (ce : Cell) (q9 : Addr) (u : SX) (t : State) (H1 : Heap) (locs1 : List Loc), t.heap = H1 → s.vm.Alike t.vm → px u → BX E u t → H.size ≤ H1.size → (∀ q : Nat, q < H.size → ¬ AX q → H1[q]? = H[q]?) → va_S A0 H0 H1 locs1 → H1[q9]? = some ce → ce.vm = .none → s.vm.findClass E = some ce.cls → vx_W p l e R s m args below meth c H1 locs1 (cells + mc) (slots + ms) Q (F0 m pc ls rest) q9)
    (kk : ∀ (u : S) (t : State) (H1 : Heap) (locs1 : List Loc), t.heap = H1 → s.vm.Alike t.vm → post u → B u t → H.size ≤ H1.size → (∀ q : Nat, q < H.size → ¬ A1 q → H1[q]? = H[q]?) → va_S A0 H0 H1 locs1 → W p l e R s m args below meth c H1 locs1 (cells + mc) (slots + ms) Q (F0 m (pc + 3) ls (rest))) : W p l e R s m args below meth c H locs cells slots Q (F0 m pc ls st0) := by
  intro T hT X
  rcases hr T hT X with ⟨v, st₀, t, T', L, h0, X', hL, e1, e2, ⟨⟨u, hv, hp, hb⟩, hF⟩, st⟩ | ⟨q, st₀, t, T', L, E, ce, h0, X', hL, e1, e2, ⟨u, hp, hb, hF⟩, hce, hcv, hcl, st⟩
  · cases hv
    obtain ⟨k1, k2, k3⟩ := vx_keep h0 e1 hS hA hf hL hF
    obtain ⟨t2, a1, b1⟩ := kk u t T'.heap (locs ++ L) e1.symm (by rw [← e2]; exact X'.warmed.alike) hp hb k1 k2 k3 T' rfl X'
    exact ⟨t2, st t2 a1, b1⟩
  · obtain ⟨k1, k2, k3⟩ := vx_keep h0 e1 hS hAX hf hL hF
    obtain ⟨t2, a1, b1⟩ := kx E ce q u t T'.heap (locs ++ L) e1.symm (by rw [← e2]; exact X'.warmed.alike) hp hb k1 k2 k3 (by rw [e1]; exact hce) hcv hcl T' rfl X'
    exact ⟨t2, st.trans a1, b1⟩
/-- caught by the row x of this method's table; the rows ahead don't take it -/
theorem vx_catch {own name : String} {E : String} {ce : Cell} {q : Addr} (hown : s.vm.findClass own = some m.cls) (pre : List ExceptionTableEntry) (x : ExceptionTableEntry) (suf : List ExceptionTableEntry) (hsplit : c.exceptionTable.toList = pre ++ x :: suf)
    (hpass : ∀ z ∈ pre, covers z pc = false ∨ (z.catchType ≠ 0 ∧ ∃ nm : String, (Cond.classLink own z.catchType nm).before args s = true ∧ va_Nc E nm s)) (hx : covers x pc = true) (h0 : x.catchType ≠ 0)
    (hlink : (Cond.classLink own x.catchType name).before args s = true) (hcast : (Cond.castable E name).before args s = true) (hcell : H[q]? = some ce) (hv : ce.vm = .none) (hcl : s.vm.findClass E = some ce.cls)
    (kk : W p l e R s m args below meth c H locs cells slots Q (F0 m x.handlerPc ls [.ref q])) : vx_W p l e R s m args below meth c H locs cells slots Q (F0 m pc ls rest) q := by
  intro T hT X
  have hpl : e.platform.magicAccessors = ({} : Platform).magicAccessors := by rw [X.admits.platform]
  obtain ⟨c3, c4, hc3, hc4, hasg⟩ := Cond.castable_spec hcast
  cases Option.some.inj (hc3.symm.trans hcl)
  obtain ⟨c5, hc5, hcl5⟩ := Cond.classLink_spec hown hlink e.platform hpl
  cases Option.some.inj (hc4.symm.trans hc5)
  obtain ⟨vm', X', st⟩ := X.thenCaughtThrough q (g := F0 m pc ls rest) rfl (Steps.refl _) (by rw [hT]; exact hcell) (by rw [hv]; rfl) (by obtain ⟨k9, h9, -⟩ := Vm.findClass_spec hcl; exact ⟨k9, h9⟩) pre x suf hsplit
    (fun z hz => by
      rcases hpass z hz with h | ⟨hz0, nm, hl1, hn1⟩
      · exact Or.inl h
      · obtain ⟨c6, hc6, hcl6⟩ := Cond.classLink_spec hown hl1 e.platform hpl
        obtain ⟨a8, b8, h1, h2, h3⟩ := hn1
        cases Option.some.inj (h1.symm.trans hcl)
        cases Option.some.inj (h2.symm.trans hc6)
        exact Or.inr ⟨hz0, _, hcl6, h3⟩) hx (Or.inr ⟨h0, c4, hcl5, hasg⟩)
  obtain ⟨t, a1, b1⟩ := kk (T.setVm vm') hT X'
  exact ⟨t, st.trans a1, b1⟩
end Rows
section Ends
variable {p : Program} {l : Launch} {e : Env} {R : Room} {s : State} {m : MethodId} {args : Array Value} {below : List Frame} {meth : Method} {c : Code} {H : Heap} {locs : List Loc} {cells slots : Nat} {Q : State → Prop}
variable {mc ms : Nat} {free : Addr → Prop} {A0 A1 : Nat → Prop} {H0 : Heap} {a : Array Value} {ls : Array Slot} {st0 rest : List Value}
variable {Qc : Array Value → State → Outcome → State → Prop} {XC : String → State → State → Prop}
/-- what a body that may throw owes at its end -/
def vx_MQ (below : List Frame) (Qc : Array Value → State → Outcome → State → Prop) (XC : String → State → State → Prop) (a : Array Value) (s : State) (mc ms : Nat) (free : Addr → Prop) : State → Prop := fun t =>
  ∃ o, t.status = .running ∧ Ended t below o ∧ vx_Q Qc XC mc ms free a s o t
theorem vx_ret {g : JFrame} {mc ms : Nat} (k : W p l e R s m args below meth c H locs cells slots (MQ below Qc args s mc ms free) g) : W p l e R s m args below meth c H locs cells slots (vx_MQ below Qc XC args s mc ms free) g := by
  intro T hT X
  obtain ⟨t, a1, o, b1, b2, b3, b4⟩ := k T hT X
  exact ⟨t, a1, o, b1, b2, Or.inl ⟨b3, b4⟩⟩
/-- not caught here: it goes on to the caller -/
theorem vx_widen {g : JFrame} {q : Addr} {k n : Nat} (h1 : cells ≤ k) (h2 : slots ≤ n) (kk : vx_W p l e R s m args below meth c H locs k n Q g q) : vx_W p l e R s m args below meth c H locs cells slots Q g q := fun T hT X => kk T hT (stand_widen X h1 h2)
theorem vx_out {pc : Nat} {E : String} {ce : Cell} {q : Addr} {mc ms : Nat} (hout : ∀ x ∈ c.exceptionTable.toList, covers x pc = false) (hlocks : meth.locks = false) (hcell : H[q]? = some ce) (hv : ce.vm = .none) (hcl : s.vm.findClass E = some ce.cls)
    (hx : ∀ t : State, t.heap = H → s.vm.Alike t.vm → XC E s t) (hf : ∀ z ∈ locs, free z.base) (hc : cells ≤ mc) (hs : slots ≤ ms) :
    vx_W p l e R s m args below meth c H locs cells slots (vx_MQ below Qc XC args s mc ms free) (F0 m pc ls rest) q := by
  intro T hT X
  obtain ⟨st1, hrun, hend, hW, hsm⟩ := X.leaveThrown q (g := F0 m pc ls rest) rfl rfl rfl hout hlocks
  have hcell9 : (T.setFrames (.throwing q :: below)).heap[q]? = some ce := by
    show T.heap[q]? = some ce
    rw [hT]; exact hcell
  exact ⟨_, st1, .threw q, hrun, hend, Or.inr ⟨q, rfl, E, ce, locs, hx _ hT hW.alike, hcell9, hv, hcl, hW, hsm.mono hc hs, hf⟩⟩
theorem vx_frame {U : State} {k n : Nat} (h : s.sameButNew ({ U with vm := s.vm } : State) locs k n) : s.heap.size ≤ U.heap.size ∧ ∀ q : Nat, q < s.heap.size → (∀ z ∈ locs, z.base ≠ q) → U.heap[q]? = s.heap[q]? := by
  obtain ⟨-, h2, -, -, -, h6⟩ := h
  refine ⟨h2, fun q hq hz => ?_⟩
  obtain ⟨c9, e1, e2, e3, e4⟩ := h6 q _ (Array.getElem?_eq_getElem hq)
  have hs : c9.slots = (s.heap[q]).slots := Array.ext_getElem? fun i => e4 i fun hm => hz _ hm rfl
  have h9 : c9 = s.heap[q] := by
    rw [hs] at e2
    exact e2
  have e5 : U.heap[q]? = some c9 := e1
  rw [e5, h9, Array.getElem?_eq_getElem hq]
/-- the words of a throw but the four that speak of the heap -/
def vx_no (w : Cond) : Bool := decide (w ≠ .isRef (.static Bundle.tN "UNASSIGNED_STACK" Bundle.steD)) && decide (w ≠ .isRef (.static Bundle.tN "SUPPRESSED_SENTINEL" Bundle.listD)) && decide (w ≠ .laysStatic Bundle.tN "UNASSIGNED_STACK" Bundle.steD) && decide (w ≠ .laysStatic Bundle.tN "SUPPRESSED_SENTINEL" Bundle.listD)
def vx_at0 (own : String) (ic : Nat) (X : String) (names : List String) : List Cond := (Bundle.ownAtoms0 own ic X names).filter vx_no
def vx_atS (own : String) (ic : Nat) (X : String) (names : List String) : List Cond := (Bundle.ownAtoms own ic X names).filter vx_no
/-- a word that the tables alone decide, or a good one -/
def vx_ot (w : Cond) : Bool := w.onTables || goodWord w
theorem vx_ot_at {args a' : Array Value} {s U : State} {w : Cond} (hW : s.WarmedH U.vm) (hvm : s.vm = U.vm) (hg : vx_ot w = true) (h : w.before args s = true) : w.before a' U = true := by
  simp only [vx_ot, Bool.or_eq_true] at hg
  rcases hg with hg | hg
  · exact va_tabs hg hvm h
  · exact word_at hW (good_of_word hg) h
/-- a list's words: the good ones out of the method's own list, the others by premises of their own -/
theorem vx_hat {args : Array Value} {s : State} {L B : List Cond} (h1 : ∀ w ∈ L.filter goodWord, w.before args s = true) (h2 : ∀ w ∈ L.filter (fun w => !goodWord w), w ∈ B) (h3 : ∀ w ∈ B, w.before args s = true) : ∀ w ∈ L, w.before args s = true := by
  intro w hw
  by_cases g : goodWord w = true
  · exact h1 w (List.mem_filter.mpr ⟨hw, g⟩)
  · refine h3 w (h2 w (List.mem_filter.mpr ⟨hw, ?_⟩))
    show (!goodWord w) = true
    cases hgw : goodWord w
    · rfl
    · exact absurd hgw g
theorem vx_c {args : Array Value} {s : State} {w : Cond} {B : List Cond} (h : w.before args s = true) (t : ∀ w ∈ B, w.before args s = true) : ∀ w' ∈ w :: B, w'.before args s = true := fun w' h' => (List.mem_cons.mp h').elim (fun e => by rw [e]; exact h) (t w')
theorem vx_n {args : Array Value} {s : State} : ∀ w ∈ ([] : List Cond), w.before args s = true := fun _ h => nomatch h
theorem vx_own {args : Array Value} {s : State} {L : List Cond} (h1 : ∀ w ∈ L.filter vx_no, w.before args s = true)
    (hU : (Cond.isRef (.static Bundle.tN "UNASSIGNED_STACK" Bundle.steD)).before args s = true) (hN : (Cond.isRef (.static Bundle.tN "SUPPRESSED_SENTINEL" Bundle.listD)).before args s = true)
    (lU : (Cond.laysStatic Bundle.tN "UNASSIGNED_STACK" Bundle.steD).before args s = true) (lN : (Cond.laysStatic Bundle.tN "SUPPRESSED_SENTINEL" Bundle.listD).before args s = true) : ∀ w ∈ L, w.before args s = true := by
  intro w hw
  by_cases e1 : w = .isRef (.static Bundle.tN "UNASSIGNED_STACK" Bundle.steD)
  · rw [e1]; exact hU
  · by_cases e2 : w = .isRef (.static Bundle.tN "SUPPRESSED_SENTINEL" Bundle.listD)
    · rw [e2]; exact hN
    · by_cases e3 : w = .laysStatic Bundle.tN "UNASSIGNED_STACK" Bundle.steD
      · rw [e3]; exact lU
      · by_cases e4 : w = .laysStatic Bundle.tN "SUPPRESSED_SENTINEL" Bundle.listD
        · rw [e4]; exact lN
        · exact h1 w (List.mem_filter.mpr ⟨hw, by unfold vx_no; rw [decide_eq_true e1, decide_eq_true e2, decide_eq_true e3, decide_eq_true e4]; rfl⟩)
/-- where a static field lies, its class's statics cell in H -/
def vx_L (C n d : String) (A : Nat → Prop) (U : State) (H : Heap) : Prop := ∃ (c : ClassId) (k : Class) (i : Nat) (f : Field) (a : Nat) (cell : Cell), U.vm.findClass C = some c ∧ U.fieldFound? C n d = some (c, k, i, f) ∧ f.isStatic = true ∧ k.statics = some a ∧ H[a]? = some cell ∧ cell.vm.isStatics = true ∧ cell.cls = c ∧ f.slot < cell.slots.size ∧ k.staticTypes[f.slot]? = some f.type ∧ ¬ A a
theorem vx_L.moved {C n d : String} {A : Nat → Prop} {u U : State} {H : Heap} (hvm : u.vm.Alike U.vm) (h : vx_L C n d A u H) : vx_L C n d A U H := by
  obtain ⟨c, k, i, f, a, cell, h1, h2, h3, h4, h5, h6, h7, h8, h9, h10⟩ := h
  obtain ⟨k', hi', he⟩ := State.fieldFound?_setVm hvm h2
  exact ⟨c, k', i, f, a, cell, by rw [hvm.findClass]; exact h1, hi', h3, by rw [he]; exact h4, h5, h6, h7, h8, by rw [he]; exact h9, h10⟩
theorem vx_L.kept {C n d : String} {A : Nat → Prop} {U : State} {H H1 : Heap} (h : vx_L C n d A U H) (hq : ∀ a : Nat, a < H.size → ¬ A a → H1[a]? = H[a]?) : vx_L C n d A U H1 := by
  obtain ⟨c, k, i, f, a, cell, h1, h2, h3, h4, h5, h6, h7, h8, h9, h10⟩ := h
  exact ⟨c, k, i, f, a, cell, h1, h2, h3, h4, by rw [hq a (Array.getElem?_eq_some_iff.mp h5).1 h10]; exact h5, h6, h7, h8, h9, h10⟩
theorem vx_L.narrow {C n d : String} {A B : Nat → Prop} {U : State} {H : Heap} (h : vx_L C n d A U H) (hAB : ∀ q, B q → A q) : vx_L C n d B U H := by
  obtain ⟨c, k, i, f, a, cell, h1, h2, h3, h4, h5, h6, h7, h8, h9, h10⟩ := h
  exact ⟨c, k, i, f, a, cell, h1, h2, h3, h4, h5, h6, h7, h8, h9, fun z => h10 (hAB _ z)⟩
theorem vx_L.word {C n d : String} {A : Nat → Prop} {s : State} {args : Array Value} (h : vx_L C n d A s s.heap) : (Cond.laysStatic C n d).before args s = true := by
  obtain ⟨c, k, i, f, a, cell, h1, h2, h3, h4, h5, h6, h7, h8, h9, -⟩ := h
  show (Cond.laysStatic C n d).holds args s none s [] = true
  exact Cond.laysStatic_of h1 h2 h3 h4 h5 h6 h7 h8 h9
/-- .. and what it holds: null or some reference -/
def vx_Zq (C n d : String) (A : Nat → Prop) (U : State) (H : Heap) : Prop := va_Zq C n d A U H ∧ vx_L C n d A U H
theorem vx_Zq.moved {C n d : String} {A : Nat → Prop} {u U : State} {H : Heap} (hvm : u.vm.Alike U.vm) (h : vx_Zq C n d A u H) : vx_Zq C n d A U H := ⟨va_Zq.moved hvm h.1, vx_L.moved hvm h.2⟩
theorem vx_Zq.kept {C n d : String} {A : Nat → Prop} {U : State} {H H1 : Heap} (h : vx_Zq C n d A U H) (hq : ∀ a : Nat, a < H.size → ¬ A a → H1[a]? = H[a]?) : vx_Zq C n d A U H1 := ⟨va_Zq.kept h.1 hq, vx_L.kept h.2 hq⟩
theorem vx_Zq.narrow {C n d : String} {A B : Nat → Prop} {U : State} {H : Heap} (h : vx_Zq C n d A U H) (hAB : ∀ q, B q → A q) : vx_Zq C n d B U H := ⟨va_Zq.narrow h.1 hAB, vx_L.narrow h.2 hAB⟩
theorem vx_Zqof {args : Array Value} {s : State} {C n d : String} {A : Nat → Prop} (hl : (Cond.laysStatic C n d).before args s = true) (hini : (Cond.initialized C).before args s = true) (h : (Cond.isRef (.static C n d)).before args s = true) (hA : ∀ a : Nat, a < s.heap.size → ¬ A a) : vx_Zq C n d A s s.heap := by
  refine ⟨va_Zqof hl hini h hA, ?_⟩
  obtain ⟨c, k, i, f, a, cell, h1, h2, h3, h4, h5, h6, h7, h8, h9⟩ := Cond.laysStatic_spec hl
  exact ⟨c, k, i, f, a, cell, h1, h2, h3, h4, h5, h6, h7, h8, h9, hA a (Array.getElem?_eq_some_iff.mp h5).1⟩
theorem vx_isRef {C n d : String} {v : Value} {A : Nat → Prop} {s : State} {args : Array Value} (h : va_Z C n d v A s s.heap) (hv : v.isRef = true) : (Cond.isRef (.static C n d)).before args s = true := by
  obtain ⟨cf, kf, fi, f, a, cell, h1, h2, h3, h4, h5, h6, h7, -⟩ := h
  have he : (Term.static C n d).eval args s none [] s = some v := by
    simp [Term.eval, State.fieldNamed?, h1, h2, h4, h5, h6, h7]
  simp only [Cond.before, Cond.holds, Cond.value, he]
  cases v <;> simp_all [Value.isRef]
theorem vx_isRefq {C n d : String} {A : Nat → Prop} {s : State} {args : Array Value} (h : va_Zq C n d A s s.heap) : (Cond.isRef (.static C n d)).before args s = true := by
  rcases h with h | ⟨t, h⟩
  · exact vx_isRef h rfl
  · exact vx_isRef h rfl
/-- the same frame, seen from here: as if the method were called anew in this heap -/
theorem vx_rebase {T : State} (X : Stand p l e R s m args below meth c T locs cells slots) {R' : Room} (hf : R'.frames ≤ R.frames) (hl : R'.locals ≤ R.locals) (hc : cells + R'.cells ≤ R.cells) (hs : slots + R'.slots ≤ R.slots) :
    Stand p l e R' ((T.setVm s.vm).setFrames (.invoking m args :: below)) m args below meth c T [] 0 0 := by
  have htop : (T.setVm s.vm).topJava?.isSome := X.here.top
  have hF : ((T.setVm s.vm).setFrames (.invoking m args :: below)).frames = .invoking m args :: below := State.frames_setFrames _ (State.cur_lt_of_top htop)
  obtain ⟨g₀, hg0⟩ := Option.isSome_iff_exists.mp htop
  obtain ⟨r, hr⟩ := State.topJava?_eq_some.mp hg0
  have hl9 : e.platform.stackLimits (T.setVm s.vm).me = e.platform.stackLimits s.me := X.limits
  have hb9 : (T.setVm s.vm).me.stackBytes = s.me.stackBytes := X.bytes
  refine ⟨X.admits, X.cas, X.clock, hF, ?_, X.hears, X.method, X.code, X.here, X.tail, X.warmed, ?_, ?_, ?_⟩
  · have h := X.room
    have hU : ((T.setVm s.vm).setFrames (.invoking m args :: below)).localsInUse = s.localsInUse := by
      rw [State.localsInUse_invoking hF (meth := meth) (c := c) X.method X.code, State.localsInUse_invoking X.frames X.method X.code]
    simp only [State.hasRoom, Bool.and_eq_true, decide_eq_true_eq] at h ⊢
    obtain ⟨⟨⟨⟨h1, h2, h3, h4, h5, h6⟩, h7⟩, h8⟩, h9⟩ := h
    rw [X.frames, List.length_cons] at h2 h3
    have q1 := X.heapSize
    have q2 := X.used
    simp only [hF, hU, List.length_cons, State.stackLimits_setFrames, State.stackBytes_setFrames, hl9, hb9]
    refine ⟨⟨⟨⟨by omega, by omega, by omega, by omega, by omega, h6⟩, ?_⟩, ?_⟩, X.book⟩
    · show T.heap.size + R'.cells ≤ e.platform.maxCells
      omega
    · show T.slotsUsed + R'.slots ≤ e.platform.maxSlots
      omega
  · rw [State.stackLimits_setFrames]; rfl
  · rw [State.stackBytes_setFrames]; rfl
  · refine ⟨?_, Nat.le_refl _, Nat.le_refl _, ?_, ?_, fun a c9 h9 => ⟨c9, h9, rfl, rfl, fun _ _ => rfl⟩⟩
    · obtain ⟨t, ht, -⟩ := State.frames_cons hr
      show T.setVm s.vm = { ((T.setVm s.vm).setFrames (.invoking m args :: below)).setFrames (T.setVm s.vm).frames with heap := T.heap, slotsUsed := T.slotsUsed }
      rw [State.setFrames_setFrames, State.setFrames_self ht]
      rfl
    · show T.slotsUsed = T.slotsUsed + ((T.heap.toList.drop T.heap.size).map (·.slots.size)).sum
      rw [List.drop_eq_nil_of_le (Nat.le_of_eq Array.length_toList)]
      rfl
    · show ((T.heap.toList.drop T.heap.size).map (·.slots.size)).sum ≤ 0
      rw [List.drop_eq_nil_of_le (Nat.le_of_eq Array.length_toList)]
      exact Nat.le_refl _
/-- 'throw new E()': new; dup; invokespecial; athrow -/
theorem vx_throw0 {cc : ByteArray} {pc : Nat} (hexec : p.tables.exec = Jvm.exec) (hb : c.code = cc) (hl : l.stackTraces = false) {own cls : String} {names : List String} {ik ic mc ms : Nat} {A : Nat → Prop}
    (hown : s.vm.findClass own = some m.cls) (hcls : Bundle.fit cls = true) (hnames : ∀ n ∈ names, Bundle.fit n = true)
    (hk : (Cond.classLink own ik cls).before args s = true) (hini : (Cond.initialized cls).before args s = true) (hat : ∀ w ∈ vx_at0 own ic cls names, w.before args s = true)
    (hgood : ∀ w ∈ Cond.classLink own ik cls :: Cond.initialized cls :: vx_at0 own ic cls names, vx_ot w = true)
    (hU : vx_Zq Bundle.tN "UNASSIGNED_STACK" Bundle.steD A s s.heap) (hN : vx_Zq Bundle.tN "SUPPRESSED_SENTINEL" Bundle.listD A s s.heap) (hS : va_S A s.heap H locs) (hsize : ls.size = c.maxLocals)
    (d0 : decode cc pc = .ok (.new ik, 3)) (d3 : decode cc (pc + 3) = .ok (.dup, 1)) (d4 : decode cc (pc + 4) = .ok (.invokespecial ic, 3)) (d7 : decode cc (pc + 7) = .ok (.athrow, 1))
    (hout : ∀ x ∈ c.exceptionTable.toList, covers x (pc + 7) = false)
    (hRframes : names.length + 3 < R.frames) (hRlocals : (rest.map fun v => v.category).sum + (13 * (names.length + 1) + 42) ≤ R.locals) (hRcells : cells + 1 ≤ R.cells) (hRslots : slots + 6 ≤ R.slots) (hlocks : meth.locks = false)
    (hx : ∀ t : State, s.vm.Alike t.vm → H.size ≤ t.heap.size → (∀ q : Nat, q < H.size → t.heap[q]? = H[q]?) → XC cls s t)
    (hf : ∀ z ∈ locs, free z.base) (hc : cells + 1 ≤ mc) (hs : slots + 6 ≤ ms) :
    W p l e R s m args below meth c H locs cells slots (vx_MQ below Qc XC args s mc ms free) (F0 m pc ls rest) := by
  intro T hT X
  have htr : e.platform.stackTraces = false := (show e.platform.stackTraces = l.stackTraces by rw [X.admits.platform]).trans hl
  have Y := vx_rebase X (R' := { frames := R.frames, locals := R.locals, cells := 1, slots := 6 }) (Nat.le_refl _) (Nat.le_refl _) hRcells hRslots
  obtain ⟨s', hA⟩ : ∃ z, z = (T.setVm s.vm).setFrames (.invoking m args :: below) := ⟨_, rfl⟩
  rw [← hA] at Y
  have hvm : s'.vm = s.vm := by rw [hA]; rfl
  have hhp : s'.heap = H := by rw [hA]; exact hT
  have hW0 : s.WarmedH s'.vm := by rw [hvm]; exact State.WarmedH.refl s
  have hat' : ∀ w ∈ vx_at0 own ic cls names, w.before args s' = true := fun w hw => vx_ot_at hW0 hvm.symm (hgood w (List.mem_cons_of_mem _ (List.mem_cons_of_mem _ hw))) (hat w hw)
  have hk' : (Cond.classLink own ik cls).before args s' = true := vx_ot_at hW0 hvm.symm (hgood _ List.mem_cons_self) hk
  have hini' : (Cond.initialized cls).before args s' = true := vx_ot_at hW0 hvm.symm (hgood _ (List.mem_cons_of_mem _ List.mem_cons_self)) hini
  have hU' : vx_Zq Bundle.tN "UNASSIGNED_STACK" Bundle.steD A s' s'.heap := by rw [hhp]; exact vx_Zq.moved hW0.alike (hU.kept hS.2.1)
  have hN' : vx_Zq Bundle.tN "SUPPRESSED_SENTINEL" Bundle.listD A s' s'.heap := by rw [hhp]; exact vx_Zq.moved hW0.alike (hN.kept hS.2.1)
  have h : ∀ w ∈ Bundle.ownAtoms0 own ic cls names, w.before args s' = true := vx_own hat' (vx_isRefq hU'.1) (vx_isRefq hN'.1) hU'.2.word hN'.2.word
  have hown' : s'.vm.findClass own = some m.cls := by rw [hvm]; exact hown
  have hins : (Cond.instantiable cls 6).before args s' = true := h _ (by simp [Bundle.ownAtoms0])
  obtain ⟨vm₁, cX, kX, hfX, hkX, -, -, X₁, st1⟩ := Y.newCold hexec (own := own) (C := cls) (index := ik) (n := 6) hown' hk' hins hini'
    (g := F0 m pc ls rest) rfl (by rw [hb]; exact d0) (Nat.le_refl _) (Nat.le_refl _)
  generalize hT1 : (T.setVm vm₁).pushCell { cls := cX, slots := kX.instanceTypes.map defaultValue, vm := .none } = T1 at X₁ st1
  have hcat : (Value.ref T.heap.size).category = 1 := rfl
  have hcellA : T1.heap[T.heap.size]? = some (freshCell cX kX) := by rw [← hT1]; exact State.heap_pushCell_size _ _
  have d3' : decode c.code (pc + 3) = .ok (.dup, 1) := by rw [hb]; exact d3
  obtain ⟨U, hsteps, hrun, hend, hW, hsame, ce, hce, hO⟩ := X₁.ctorThrow0 hexec htr (own := own) (cls := cls) (names := names) (ic := ic) hown' hcls hnames h (fun x hx => nomatch hx) hfX hkX hcellA (by rw [hhp, hT]; exact Nat.le_refl _)
    (g := { method := m, pc := pc + 4, locals := ls, stack := .ref T.heap.size :: .ref T.heap.size :: rest, locked := none }) rfl hsize rfl rfl (rest := rest) rfl
    (by rw [hb]; exact d4) (by rw [hb]; exact d7) hout hRframes (by simp only [List.map_cons, List.sum_cons, hcat]; omega) hlocks
  obtain ⟨f1, f2⟩ := vx_frame hsame
  rw [hhp] at f1 f2
  have hWs : s.WarmedH U.vm := State.WarmedH.trans hW0 hW
  have hcl : s.vm.findClass cls = some ce.cls := by
    have h9 := hO.cls
    rw [hvm] at h9
    exact h9
  have hall : s.sameButNew ({ U with vm := s.vm } : State) locs mc ms := by
    subst hA
    obtain ⟨e1, e2⟩ := hsame
    rw [State.setFrames_setFrames] at e1
    have h2 : (T.setVm s.vm).sameButNew ({ U with vm := s.vm } : State) [] (0 + 1) (0 + 6) := ⟨e1, e2⟩
    have h3 := X.same.trans h2
    rw [List.append_nil] at h3
    exact h3.mono hc hs
  refine ⟨U, ?_, .threw T.heap.size, hrun, hend, Or.inr ⟨T.heap.size, rfl, cls, ce, locs, hx U hWs.alike f1 (fun q hq => f2 q hq (fun z hz => nomatch hz)), hce, hO.vm, hcl, hWs, hall, hf⟩⟩
  refine st1 _ ?_
  show Steps p.tables e below (T1.setTop { method := m, pc := pc + 3, locals := ls, stack := .ref T.heap.size :: rest, locked := none }) _
  jvm_step X₁.here [X₁.here.top, hexec, d3', Value.category]
  exact hsteps
/-- 'throw new E("text")': new; dup; ldc; invokespecial; athrow -/
theorem vx_throwS {cc : ByteArray} {pc : Nat} (hexec : p.tables.exec = Jvm.exec) (hb : c.code = cc) (hl : l.stackTraces = false) {own cls text : String} {names : List String} {ik is ic mc ms sa : Nat} {A : Nat → Prop}
    (hown : s.vm.findClass own = some m.cls) (hcls : Bundle.fit cls = true) (hnames : ∀ n ∈ names, Bundle.fit n = true)
    (hk : (Cond.classLink own ik cls).before args s = true) (hini : (Cond.initialized cls).before args s = true) (hstr : vk_R own is text sa s) (hat : ∀ w ∈ vx_atS own ic cls names, w.before args s = true)
    (hgood : ∀ w ∈ Cond.classLink own ik cls :: Cond.initialized cls :: vx_atS own ic cls names, vx_ot w = true)
    (hU : vx_Zq Bundle.tN "UNASSIGNED_STACK" Bundle.steD A s s.heap) (hN : vx_Zq Bundle.tN "SUPPRESSED_SENTINEL" Bundle.listD A s s.heap) (hS : va_S A s.heap H locs) (hsize : ls.size = c.maxLocals)
    (d0 : decode cc pc = .ok (.new ik, 3)) (d3 : decode cc (pc + 3) = .ok (.dup, 1)) (d4 : decode cc (pc + 4) = .ok (.ldc is, 2)) (d6 : decode cc (pc + 6) = .ok (.invokespecial ic, 3)) (d9 : decode cc (pc + 9) = .ok (.athrow, 1))
    (hout : ∀ x ∈ c.exceptionTable.toList, covers x (pc + 9) = false)
    (hRframes : names.length + 3 < R.frames) (hRlocals : (rest.map fun v => v.category).sum + (13 * (names.length + 1) + 43) ≤ R.locals) (hRcells : cells + 1 ≤ R.cells) (hRslots : slots + 6 ≤ R.slots) (hlocks : meth.locks = false)
    (hx : ∀ t : State, s.vm.Alike t.vm → H.size ≤ t.heap.size → (∀ q : Nat, q < H.size → t.heap[q]? = H[q]?) → XC cls s t)
    (hf : ∀ z ∈ locs, free z.base) (hc : cells + 1 ≤ mc) (hs : slots + 6 ≤ ms) :
    W p l e R s m args below meth c H locs cells slots (vx_MQ below Qc XC args s mc ms free) (F0 m pc ls rest) := by
  intro T hT X
  have htr : e.platform.stackTraces = false := (show e.platform.stackTraces = l.stackTraces by rw [X.admits.platform]).trans hl
  have Y := vx_rebase X (R' := { frames := R.frames, locals := R.locals, cells := 1, slots := 6 }) (Nat.le_refl _) (Nat.le_refl _) hRcells hRslots
  obtain ⟨s', hA⟩ : ∃ z, z = (T.setVm s.vm).setFrames (.invoking m args :: below) := ⟨_, rfl⟩
  rw [← hA] at Y
  have hvm : s'.vm = s.vm := by rw [hA]; rfl
  have hhp : s'.heap = H := by rw [hA]; exact hT
  have hW0 : s.WarmedH s'.vm := by rw [hvm]; exact State.WarmedH.refl s
  have hat' : ∀ w ∈ vx_atS own ic cls names, w.before args s' = true := fun w hw => vx_ot_at hW0 hvm.symm (hgood w (List.mem_cons_of_mem _ (List.mem_cons_of_mem _ hw))) (hat w hw)
  have hk' : (Cond.classLink own ik cls).before args s' = true := vx_ot_at hW0 hvm.symm (hgood _ List.mem_cons_self) hk
  have hini' : (Cond.initialized cls).before args s' = true := vx_ot_at hW0 hvm.symm (hgood _ (List.mem_cons_of_mem _ List.mem_cons_self)) hini
  have hU' : vx_Zq Bundle.tN "UNASSIGNED_STACK" Bundle.steD A s' s'.heap := by rw [hhp]; exact vx_Zq.moved hW0.alike (hU.kept hS.2.1)
  have hN' : vx_Zq Bundle.tN "SUPPRESSED_SENTINEL" Bundle.listD A s' s'.heap := by rw [hhp]; exact vx_Zq.moved hW0.alike (hN.kept hS.2.1)
  have h : ∀ w ∈ Bundle.ownAtoms own ic cls names, w.before args s' = true := vx_own hat' (vx_isRefq hU'.1) (vx_isRefq hN'.1) hU'.2.word hN'.2.word
  have hown' : s'.vm.findClass own = some m.cls := by rw [hvm]; exact hown
  have hins : (Cond.instantiable cls 6).before args s' = true := h _ (by simp [Bundle.ownAtoms])
  obtain ⟨vm₁, cX, kX, hfX, hkX, -, -, X₁, st1⟩ := Y.newCold hexec (own := own) (C := cls) (index := ik) (n := 6) hown' hk' hins hini'
    (g := F0 m pc ls rest) rfl (by rw [hb]; exact d0) (Nat.le_refl _) (Nat.le_refl _)
  generalize hT1 : (T.setVm vm₁).pushCell { cls := cX, slots := kX.instanceTypes.map defaultValue, vm := .none } = T1 at X₁ st1
  have hcat : (Value.ref T.heap.size).category = 1 := rfl
  have hcellA : T1.heap[T.heap.size]? = some (freshCell cX kX) := by rw [← hT1]; exact State.heap_pushCell_size _ _
  have d3' : decode c.code (pc + 3) = .ok (.dup, 1) := by rw [hb]; exact d3
  have d4' : decode c.code (pc + 4) = .ok (.ldc is, 2) := by rw [hb]; exact d4
  have hstr' : vk_R own is text sa s' := vk_R.warm hW0 hstr
  obtain ⟨U, hsteps, hrun, hend, hW, hsame, ce, hce, hO⟩ := X₁.ctorThrowS hexec htr (own := own) (cls := cls) (names := names) (ic := ic) hown' hcls hnames h (fun x hx => nomatch hx) hfX hkX hcellA (by rw [hhp, hT]; exact Nat.le_refl _) (msg := .ref sa) rfl
    (g := { method := m, pc := pc + 6, locals := ls, stack := .ref sa :: .ref T.heap.size :: .ref T.heap.size :: rest, locked := none }) rfl hsize rfl rfl (rest := rest) rfl
    (by rw [hb]; exact d6) (by rw [hb]; exact d9) hout hRframes (by simp only [List.map_cons, List.sum_cons, hcat]; omega) hlocks
  obtain ⟨f1, f2⟩ := vx_frame hsame
  rw [hhp] at f1 f2
  have hWs : s.WarmedH U.vm := State.WarmedH.trans hW0 hW
  have hcl : s.vm.findClass cls = some ce.cls := by
    have h9 := hO.cls
    rw [hvm] at h9
    exact h9
  have hall : s.sameButNew ({ U with vm := s.vm } : State) locs mc ms := by
    subst hA
    obtain ⟨e1, e2⟩ := hsame
    rw [State.setFrames_setFrames] at e1
    have h2 : (T.setVm s.vm).sameButNew ({ U with vm := s.vm } : State) [] (0 + 1) (0 + 6) := ⟨e1, e2⟩
    have h3 := X.same.trans h2
    rw [List.append_nil] at h3
    exact h3.mono hc hs
  refine ⟨U, ?_, .threw T.heap.size, hrun, hend, Or.inr ⟨T.heap.size, rfl, cls, ce, locs, hx U hWs.alike f1 (fun q hq => f2 q hq (fun z hz => nomatch hz)), hce, hO.vm, hcl, hWs, hall, hf⟩⟩
  refine st1 _ ?_
  show Steps p.tables e below (T1.setTop { method := m, pc := pc + 3, locals := ls, stack := .ref T.heap.size :: rest, locked := none }) _
  jvm_step X₁.here [X₁.here.top, hexec, d3', Value.category]
  exact X₁.ldcString hexec (own := own) (text := text) (index := is) (a := sa) hown' hstr'.1 hstr'.2
    (g := { method := m, pc := pc + 4, locals := ls, stack := .ref T.heap.size :: .ref T.heap.size :: rest, locked := none }) rfl d4' _ hsteps
/-- 'throw new E("text")', the text by a wide index -/
theorem vx_throwSW {cc : ByteArray} {pc : Nat} (hexec : p.tables.exec = Jvm.exec) (hb : c.code = cc) (hl : l.stackTraces = false) {own cls text : String} {names : List String} {ik is ic mc ms sa : Nat} {A : Nat → Prop}
    (hown : s.vm.findClass own = some m.cls) (hcls : Bundle.fit cls = true) (hnames : ∀ n ∈ names, Bundle.fit n = true)
    (hk : (Cond.classLink own ik cls).before args s = true) (hini : (Cond.initialized cls).before args s = true) (hstr : vk_R own is text sa s) (hat : ∀ w ∈ vx_atS own ic cls names, w.before args s = true)
    (hgood : ∀ w ∈ Cond.classLink own ik cls :: Cond.initialized cls :: vx_atS own ic cls names, vx_ot w = true)
    (hU : vx_Zq Bundle.tN "UNASSIGNED_STACK" Bundle.steD A s s.heap) (hN : vx_Zq Bundle.tN "SUPPRESSED_SENTINEL" Bundle.listD A s s.heap) (hS : va_S A s.heap H locs) (hsize : ls.size = c.maxLocals)
    (d0 : decode cc pc = .ok (.new ik, 3)) (d3 : decode cc (pc + 3) = .ok (.dup, 1)) (d4 : decode cc (pc + 4) = .ok (.ldc_w is, 3)) (d7 : decode cc (pc + 7) = .ok (.invokespecial ic, 3)) (d10 : decode cc (pc + 10) = .ok (.athrow, 1))
    (hout : ∀ x ∈ c.exceptionTable.toList, covers x (pc + 10) = false)
    (hRframes : names.length + 3 < R.frames) (hRlocals : (rest.map fun v => v.category).sum + (13 * (names.length + 1) + 43) ≤ R.locals) (hRcells : cells + 1 ≤ R.cells) (hRslots : slots + 6 ≤ R.slots) (hlocks : meth.locks = false)
    (hx : ∀ t : State, s.vm.Alike t.vm → H.size ≤ t.heap.size → (∀ q : Nat, q < H.size → t.heap[q]? = H[q]?) → XC cls s t)
    (hf : ∀ z ∈ locs, free z.base) (hc : cells + 1 ≤ mc) (hs : slots + 6 ≤ ms) :
    W p l e R s m args below meth c H locs cells slots (vx_MQ below Qc XC args s mc ms free) (F0 m pc ls rest) := by
  intro T hT X
  have htr : e.platform.stackTraces = false := (show e.platform.stackTraces = l.stackTraces by rw [X.admits.platform]).trans hl
  have Y := vx_rebase X (R' := { frames := R.frames, locals := R.locals, cells := 1, slots := 6 }) (Nat.le_refl _) (Nat.le_refl _) hRcells hRslots
  obtain ⟨s', hA⟩ : ∃ z, z = (T.setVm s.vm).setFrames (.invoking m args :: below) := ⟨_, rfl⟩
  rw [← hA] at Y
  have hvm : s'.vm = s.vm := by rw [hA]; rfl
  have hhp : s'.heap = H := by rw [hA]; exact hT
  have hW0 : s.WarmedH s'.vm := by rw [hvm]; exact State.WarmedH.refl s
  have hat' : ∀ w ∈ vx_atS own ic cls names, w.before args s' = true := fun w hw => vx_ot_at hW0 hvm.symm (hgood w (List.mem_cons_of_mem _ (List.mem_cons_of_mem _ hw))) (hat w hw)
  have hk' : (Cond.classLink own ik cls).before args s' = true := vx_ot_at hW0 hvm.symm (hgood _ List.mem_cons_self) hk
  have hini' : (Cond.initialized cls).before args s' = true := vx_ot_at hW0 hvm.symm (hgood _ (List.mem_cons_of_mem _ List.mem_cons_self)) hini
  have hU' : vx_Zq Bundle.tN "UNASSIGNED_STACK" Bundle.steD A s' s'.heap := by rw [hhp]; exact vx_Zq.moved hW0.alike (hU.kept hS.2.1)
  have hN' : vx_Zq Bundle.tN "SUPPRESSED_SENTINEL" Bundle.listD A s' s'.heap := by rw [hhp]; exact vx_Zq.moved hW0.alike (hN.kept hS.2.1)
  have h : ∀ w ∈ Bundle.ownAtoms own ic cls names, w.before args s' = true := vx_own hat' (vx_isRefq hU'.1) (vx_isRefq hN'.1) hU'.2.word hN'.2.word
  have hown' : s'.vm.findClass own = some m.cls := by rw [hvm]; exact hown
  have hins : (Cond.instantiable cls 6).before args s' = true := h _ (by simp [Bundle.ownAtoms])
  obtain ⟨vm₁, cX, kX, hfX, hkX, -, -, X₁, st1⟩ := Y.newCold hexec (own := own) (C := cls) (index := ik) (n := 6) hown' hk' hins hini'
    (g := F0 m pc ls rest) rfl (by rw [hb]; exact d0) (Nat.le_refl _) (Nat.le_refl _)
  generalize hT1 : (T.setVm vm₁).pushCell { cls := cX, slots := kX.instanceTypes.map defaultValue, vm := .none } = T1 at X₁ st1
  have hcat : (Value.ref T.heap.size).category = 1 := rfl
  have hcellA : T1.heap[T.heap.size]? = some (freshCell cX kX) := by rw [← hT1]; exact State.heap_pushCell_size _ _
  have d3' : decode c.code (pc + 3) = .ok (.dup, 1) := by rw [hb]; exact d3
  have d4' : decode c.code (pc + 4) = .ok (.ldc_w is, 3) := by rw [hb]; exact d4
  have hstr' : vk_R own is text sa s' := vk_R.warm hW0 hstr
  obtain ⟨U, hsteps, hrun, hend, hW, hsame, ce, hce, hO⟩ := X₁.ctorThrowS hexec htr (own := own) (cls := cls) (names := names) (ic := ic) hown' hcls hnames h (fun x hx => nomatch hx) hfX hkX hcellA (by rw [hhp, hT]; exact Nat.le_refl _) (msg := .ref sa) rfl
    (g := { method := m, pc := pc + 7, locals := ls, stack := .ref sa :: .ref T.heap.size :: .ref T.heap.size :: rest, locked := none }) rfl hsize rfl rfl (rest := rest) rfl
    (by rw [hb]; exact d7) (by rw [hb]; exact d10) hout hRframes (by simp only [List.map_cons, List.sum_cons, hcat]; omega) hlocks
  obtain ⟨f1, f2⟩ := vx_frame hsame
  rw [hhp] at f1 f2
  have hWs : s.WarmedH U.vm := State.WarmedH.trans hW0 hW
  have hcl : s.vm.findClass cls = some ce.cls := by
    have h9 := hO.cls
    rw [hvm] at h9
    exact h9
  have hall : s.sameButNew ({ U with vm := s.vm } : State) locs mc ms := by
    subst hA
    obtain ⟨e1, e2⟩ := hsame
    rw [State.setFrames_setFrames] at e1
    have h2 : (T.setVm s.vm).sameButNew ({ U with vm := s.vm } : State) [] (0 + 1) (0 + 6) := ⟨e1, e2⟩
    have h3 := X.same.trans h2
    rw [List.append_nil] at h3
    exact h3.mono hc hs
  refine ⟨U, ?_, .threw T.heap.size, hrun, hend, Or.inr ⟨T.heap.size, rfl, cls, ce, locs, hx U hWs.alike f1 (fun q hq => f2 q hq (fun z hz => nomatch hz)), hce, hO.vm, hcl, hWs, hall, hf⟩⟩
  refine st1 _ ?_
  show Steps p.tables e below (T1.setTop { method := m, pc := pc + 3, locals := ls, stack := .ref T.heap.size :: rest, locked := none }) _
  jvm_step X₁.here [X₁.here.top, hexec, d3', Value.category]
  exact X₁.ldcStringW hexec (own := own) (text := text) (index := is) (a := sa) hown' hstr'.1 hstr'.2
    (g := { method := m, pc := pc + 4, locals := ls, stack := .ref T.heap.size :: .ref T.heap.size :: rest, locked := none }) rfl d4' _ hsteps
end Ends
section Bodies
variable {l : Launch}
theorem vx_ofW {y : MethodName} {ws ws' : List Cond} {rm : Room} {Pc : Array Value → State → Prop} {Qc : Array Value → State → Outcome → State → Prop} {XC : String → State → State → Prop} {mc ms : Nat} {free : Addr → Prop} {cc : ByteArray} {maxL : Nat} {ret : Option FieldType}
    (hy : plainName y.cls = true) (hw : ws = Cond.code y cc maxL ret :: ws')
    (body : ∀ p e s m args below meth c s₁, BodyLoose p l y (headSpec ws rm) cc maxL ret e s m args below meth c s₁ → c.maxLocals = maxL → (∀ x ∈ c.exceptionTable.toList, False) → Pc args s →
      W p l e (headSpec ws rm).room s m args below meth c s.heap [] 0 0 (vx_MQ below Qc XC args s mc ms free) (entryFrame m args maxL)) : vx_Met l y ws rm Pc Qc XC mc ms free := by
  refine MetFree.of_bodyS (code := cc) (maxLocals := maxL) (ret := ret) hy ?_ ?_
  · intro args s m h hn
    obtain ⟨meth, c, h1, h2, h3, h4, h5, h6, -, -⟩ := Cond.code_spec hn (atoms_spec (ws := ws) h _ (by rw [hw]; exact List.mem_cons_self))
    exact ⟨meth, c, h1, h2, h3, h4, h5, h6⟩
  · intro p e s m args below meth c s₁ B hml hP _
    have hh0 : s₁.heap = s.heap := by rw [B.state]; rfl
    have ht : ∀ x ∈ c.exceptionTable.toList, False := by
      obtain ⟨meth9, c9, h1, h2, -, -, -, -, h7, -⟩ := Cond.code_spec B.named (atoms_spec (ws := ws) B.pre _ (by rw [hw]; exact List.mem_cons_self))
      cases Option.some.inj (h1.symm.trans B.method)
      cases Option.some.inj (h2.symm.trans (Stand.of_body B).code)
      intro x hx
      rw [Array.isEmpty_iff.mp h7] at hx
      cases hx
    obtain ⟨t, a1, o, b1, b2, b3⟩ := body p e s m args below meth c s₁ B hml ht hP s₁ hh0 (Stand.of_body B)
    exact ⟨t, o, a1, b1, b2, b3⟩
/-- the table of a body with handlers -/
theorem vx_table {p : Program} {x y : MethodName} {S : Spec} {cc bytes : ByteArray} {maxL maxL' : Nat} {ret ret' : Option FieldType} {e : Env} {s s₁ : State} {m : MethodId} {args : Array Value} {below : List Frame} {meth : Method} {c : Code} {hh : List (Nat × Nat × Nat × Nat)}
    (B : BodyLoose p l y S cc maxL ret e s m args below meth c s₁) (h : (Cond.codeWith y bytes maxL' ret' hh).before args s = true) : c.exceptionTable.toList = tableOf hh := by
  obtain ⟨m9, meth9, c9, hn9, h1, h2, -, -, h6, -⟩ := Cond.codeWith_spec h
  cases Option.some.inj (hn9.symm.trans B.named)
  cases Option.some.inj (h1.symm.trans B.method)
  cases Option.some.inj (h2.symm.trans (Stand.of_body B).code)
  rw [← h6, table_eq]
end Bodies
end VXA
/-! ===== END ===== -/
/-! ===== BEGIN a static call of a method with an exception table ===== -/
section VXS
variable {p : Program} {l : Launch} {e : Env} {R : Room} {s : State} {m : MethodId} {args : Array Value} {below : List Frame} {meth : Method} {c : Code} {T : State} {H : Heap} {locs : List Loc} {cells slots : Nat}
abbrev vx_CSW (R : Room) (s : State) (args : Array Value) (own : String) (index : Nat) (y : MethodName) (bytes : ByteArray) (maxL : Nat) (ret : Option FieldType) (hh : List (Nat × Nat × Nat × Nat)) (ws : List Cond) (rm : Room) (mc ms n : Nat) : Prop :=
  (rm.cells = mc ∧ rm.slots = ms ∧ rm.frames + 1 ≤ R.frames ∧ 8 + (maxL + 11) + rm.locals ≤ R.locals ∧ (∀ w ∈ ws, ∀ (a' : Array Value) (U : State), s.WarmedH U.vm → w.before a' U = true) ∧ Cond.codeWith y bytes maxL ret hh ∈ ws) ∧
  (Cond.codeWith y bytes maxL ret hh).before args s = true ∧ (Cond.initialized y.cls).before args s = true ∧ (y.cls ≠ "java/lang/invoke/MethodHandle" ∧ y.cls ≠ "java/lang/invoke/VarHandle") ∧
  (∀ sig, parseMethodDescriptor y.desc = some sig → n = sig.parameters.length) ∧ (Cond.methodLink own index y).before args s = true ∧ (Cond.static y).before args s = true
theorem vx_cwSW {own : String} {index maxL mc ms : Nat} {y : MethodName} {bytes : ByteArray} {ret : Option FieldType} {hh : List (Nat × Nat × Nat × Nat)} {Ts ws ws' : List Cond} {rm : Room} (n : Nat) (ht : ∀ w ∈ Ts, w.before args s = true) (hT : GoodIn Ts (va_wsS own index y ws)) (hw : ws = Cond.codeWith y bytes maxL ret hh :: ws') (hrc : rm.cells = mc) (hrs : rm.slots = ms)
    (hd : y.cls ≠ "java/lang/invoke/MethodHandle" ∧ y.cls ≠ "java/lang/invoke/VarHandle" ∧ (parseMethodDescriptor y.desc).map (fun d => d.parameters.length) = some n) (hR : rm.frames + 1 ≤ R.frames ∧ 8 + (maxL + 11) + rm.locals ≤ R.locals) :
    vx_CSW R s args own index y bytes maxL ret hh ws rm mc ms n := by
  have ok : ∀ w ∈ va_wsS own index y ws, w.before args s = true := fun w h => ht w (hT w h).1
  have hG : GoodIn Ts ws := fun w h => hT w (by unfold va_wsS; exact List.mem_append_right _ h)
  have hc : Cond.codeWith y bytes maxL ret hh ∈ ws := by rw [hw]; exact List.mem_cons_self
  refine ⟨⟨hrc, hrs, hR.1, hR.2, pay_in ht hG, hc⟩, ht _ (hG _ hc).1, ok _ (by simp [va_wsS]), ⟨hd.1, hd.2.1⟩, fun sig h => ?_, ok _ (by simp [va_wsS]), ok _ (by simp [va_wsS])⟩
  have h2 := hd.2.2
  rw [h] at h2
  exact (Option.some.inj h2).symm
theorem vx_callSW (X : Stand p l e R s m args below meth c T locs cells slots) (hexec : p.tables.exec = Jvm.exec) {own : String} {index : Nat} {y : MethodName} {bytes : ByteArray} {maxL : Nat} {ret : Option FieldType} {hh : List (Nat × Nat × Nat × Nat)}
    (hown : s.vm.findClass own = some m.cls) (hlink : (Cond.methodLink own index y).before args s = true) (hstat : (Cond.static y).before args s = true) (hinit : (Cond.initialized y.cls).before args s = true)
    (hcode : (Cond.codeWith y bytes maxL ret hh).before args s = true) (hy : y.cls ≠ "java/lang/invoke/MethodHandle" ∧ y.cls ≠ "java/lang/invoke/VarHandle")
    {W9 : Nat} {Pre : Pt → Array Value → Prop} {Post : Pt → Array Value → Option Value → Pt → Prop} (hK : Back l R p e below s args y 3 W9 Pre Post)
    {g : JFrame} (hg : g.method = m) (hsize : g.locals.size = c.maxLocals) {argsL rest : List Value} (hlen : ∀ sig, parseMethodDescriptor y.desc = some sig → argsL.length = sig.parameters.length)
    (hstack : g.stack = argsL.reverse ++ rest) (hW : 2 * g.monitorRoom + (rest.map fun v => v.category).sum ≤ W9) (hdg : decode c.code g.pc = .ok (.invokestatic index, 3))
    (hpre : ∀ vm₁, s.WarmedH vm₁ → Pre ⟨T.setVm vm₁, locs, cells, slots⟩ argsL.toArray) :
    ∃ (v : Option Value) (vm₁ : Vm) (B : Pt), s.WarmedH vm₁ ∧ Stand p l e R s m args below meth c B.U B.locs B.cells B.slots ∧ Post ⟨T.setVm vm₁, locs, cells, slots⟩ argsL.toArray v B ∧
      ∀ target, Steps p.tables e below (B.U.setTop { g with pc := g.pc + 3, stack := v.toList ++ rest }) target → Steps p.tables e below (T.setTop g) target := by
  obtain ⟨mk, methM, cM, hnamed, hmethM, -, -, -, -, -, -, hsigM⟩ := Cond.codeWith_spec hcode
  have hstatic : methM.isStatic = true := Cond.static_spec hnamed hmethM hstat
  obtain ⟨kP, hkP, -⟩ := className_of_methodNamed hnamed
  have hinitP : kP.init = .initialized := Cond.initialized_spec (findClass_of_methodNamed hnamed) hkP hinit
  obtain ⟨vm₁, X₁, hstep₁⟩ := X.invokestatic hexec hown hlink hnamed hmethM hstatic hkP hinitP hy (g := g) hg (argsL := argsL) (rest := rest) (hlen _ hsigM) hstack hdg
  obtain ⟨v, B, X', hpost, hsteps⟩ := hK m meth c ⟨T.setVm vm₁, locs, cells, slots⟩ { g with stack := rest } (.invokestatic index) mk argsL.toArray X₁ hg hsize hdg hW (X₁.named hnamed) (hpre vm₁ X₁.warmed)
  exact ⟨v, vm₁, B, X₁.warmed, X', hpost, fun target h => hstep₁ _ fun acts => by rw [doInvoke_state]; exact hsteps.trans h⟩
theorem vx_runSW {y : MethodName} {bytes cc : ByteArray} {maxL nL mc ms n index : Nat} {ret : Option FieldType} {hh : List (Nat × Nat × Nat × Nat)} {ws : List Cond} {rm : Room} {Pc : Array Value → State → Prop} {Qc : Array Value → State → Outcome → State → Prop} {free : Addr → Prop} {Ts : List Cond} {own : String} {As rest : List Value} {g : JFrame}
    (S : CallFix p m c cc nL s args Ts own) (hM : Met l y ws rm Pc Qc mc ms free) (cw : vx_CSW R s args own index y bytes maxL ret hh ws rm mc ms n) (hp : PreS s H Pc As)
    (hg : g.method = m) (hn : As.length = n) (hsize : g.locals.size = nL) (hstack : g.stack = As.reverse ++ rest) (hW : 2 * g.monitorRoom + (rest.map fun v => v.category).sum ≤ 8) (hdg : decode cc g.pc = .ok (.invokestatic index, 3)) (hf : cells + mc ≤ R.cells ∧ slots + ms ≤ R.slots) :
    va_Run p l e R s m args below meth c H locs cells slots mc ms g rest (Qc As.toArray) (free) := by
  obtain ⟨⟨hrc, hrs, hfr, hlo, hws, hcw⟩, hcode, hini, hy, hlen, hl, hstt⟩ := cw
  have hK : Back l R p e below s args y 3 8 (PreOf R mc ms Pc) (PostOf Qc mc ms free) := va_backW (hh := hh) (bytes := bytes) (maxL := maxL) (ret := ret) hM hp.1 hrc hrs hfr hlo hws hcw (fun a' U hW => word_at hW (Or.inl (by first | rfl | simp [Cond.onTables, Cond.keeps, Cond.steady])) hini)
  obtain ⟨hx, hb, hml, ho, -⟩ := S
  intro T hT X
  obtain ⟨v, vm₁, ⟨U', l2, c2, s2⟩, hW₁, X', ⟨g', mk, t, L, e1, e2, hq, h1, hL, h2, h3⟩, st⟩ := vx_callSW X hx (hh := hh) (bytes := bytes) (maxL := maxL) (ret := ret) ho hl hstt hini hcode hy hK hg (hsize.trans hml.symm) (argsL := As) (rest := rest) (fun sig h => hn.trans (hlen sig h)) hstack hW (by rw [hb]; exact hdg)
    (fun vm₁ hW₁ => ⟨hf.1, hf.2, hp.2 (T.setVm vm₁) hT hW₁⟩)
  dsimp only [Pt.U, Pt.locs, Pt.cells, Pt.slots] at X' e1 e2 h1 h2 h3 st
  subst h1; subst h2; subst h3
  exact ⟨v, (T.setVm vm₁).calling g' mk As.toArray, t, U', L, hT, X', hL, e1, e2, hq, st⟩
/-- not caught here, past rows that name other classes: it goes on to the caller -/
theorem vx_outP {p : Program} {l : Launch} {e : Env} {R : Room} {s : State} {m : MethodId} {args : Array Value} {below : List Frame} {meth : Method} {c : Code} {H : Heap} {locs : List Loc} {cells slots : Nat} {free : Addr → Prop} {ls : Array Slot} {rest : List Value} {Qc : Array Value → State → Outcome → State → Prop} {XC : String → State → State → Prop}
    {pc : Nat} {own E : String} {ce : Cell} {q : Addr} {mc ms : Nat} (hown : s.vm.findClass own = some m.cls) (hlocks : meth.locks = false)
    (hpass : ∀ z ∈ c.exceptionTable.toList, covers z pc = false ∨ (z.catchType ≠ 0 ∧ ∃ nm : String, (Cond.classLink own z.catchType nm).before args s = true ∧ va_Nc E nm s)) (hcell : H[q]? = some ce) (hv : ce.vm = .none) (hcl : s.vm.findClass E = some ce.cls)
    (hx : ∀ t : State, t.heap = H → s.vm.Alike t.vm → XC E s t) (hf : ∀ z ∈ locs, free z.base) (hc : cells ≤ mc) (hs : slots ≤ ms) :
    vx_W p l e R s m args below meth c H locs cells slots (vx_MQ below Qc XC args s mc ms free) (F0 m pc ls rest) q := by
  intro T hT X
  have hpl : e.platform.magicAccessors = ({} : Platform).magicAccessors := by rw [X.admits.platform]
  obtain ⟨vm', hW', X', st⟩ := X.outThrough hlocks q (g := F0 m pc ls rest) rfl rfl rfl (cell := ce) (by rw [hT]; exact hcell) (by rw [hv]; rfl)
    (by obtain ⟨k9, h9, -⟩ := Vm.findClass_spec hcl; exact ⟨k9, h9⟩) (fun z hz => by
      rcases hpass z hz with h | ⟨hz0, nm, hl1, hn1⟩
      · exact Or.inl h
      · obtain ⟨c6, hc6, hcl6⟩ := Cond.classLink_spec hown hl1 e.platform hpl
        obtain ⟨a8, b8, h1, h2, h3⟩ := hn1
        cases Option.some.inj (h1.symm.trans hcl)
        cases Option.some.inj (h2.symm.trans hc6)
        exact Or.inr ⟨hz0, _, hcl6, h3⟩)
  obtain ⟨g₀, hfr⟩ := X'.frames_eq
  have hcell9 : ((T.setVm vm').setFrames (.throwing q :: below)).heap[q]? = some ce := by
    show T.heap[q]? = some ce
    rw [hT]; exact hcell
  have hend : Ended ((T.setVm vm').setFrames (.throwing q :: below)) below (.threw q) := State.frames_setFrames _ (State.cur_lt_of_frames hfr)
  refine ⟨(T.setVm vm').setFrames (.throwing q :: below), ?_, .threw q, X'.here.running, hend, Or.inr ⟨q, rfl, E, ce, locs, hx _ hT (X'.ends _).1.alike, hcell9, hv, hcl, (X'.ends _).1, (X'.ends _).2.mono hc hs, hf⟩⟩
  rw [X.pushThrowing_eq]
  exact st
/-- a thing of a world lies in the heap -/
theorem vx_lt {D : va_G} {cl : List vw_C} {ws : va_W} {H1 : Heap} (h : va_P D cl ws H1) {k : Nat} {q : Nat × va_E} (hk : ws[k]? = some q) : q.1 < H1.size := (h k q hk).lt
end VXS
/-! ===== END ===== -/
/-! ===== BEGIN methods with a table of their own: called by a name, returning or throwing ===== -/
section VXH
/-! vx_backW, vx_callVX, vx_callSX, vx_callVW, vx_runVW, vx_runVX, vx_runSX, vx_ofWH follow the same proofs as their sisters above (Free/Laws.lean, Shelf42/LK1.lean); vx_outP calls Shelf42/NT130.lean (outThrough). -/
section
variable {l : Launch} {R : Room} {p : Program} {e : Env} {below : List Frame} {s : State} {sargs : Array Value} {y : MethodName} {len W9 : Nat}
theorem vx_backW {ws : List Cond} {rm : Room} {Pc : Array Value → State → Prop} {Qc : Array Value → State → Outcome → State → Prop} {XC : String → State → State → Prop} {mc ms : Nat} {free : Addr → Prop} {bytes : ByteArray} {maxL : Nat} {ret : Option FieldType} {hh : List (Nat × Nat × Nat × Nat)}
    (hM : vx_Met l y ws rm Pc Qc XC mc ms free) (hblind : FrameBlind Pc) (hrc : rm.cells = mc) (hrs : rm.slots = ms)
    (hframes : rm.frames + 1 ≤ R.frames) (hlocals : W9 + (maxL + 11) + rm.locals ≤ R.locals)
    (hws : ∀ w ∈ ws, ∀ a' U, s.WarmedH U.vm → w.before a' U = true) (hcode : Cond.codeWith y bytes maxL ret hh ∈ ws) (hinit : ∀ a' U, s.WarmedH U.vm → (Cond.initialized y.cls).before a' U = true) :
    vx_Back l R p e below s sargs y len W9 (PreOf R mc ms Pc) (PostOf Qc mc ms free) (vx_Post XC mc ms free) := by
  intro m meth c A g ig mk a X hg hsize hdg hW hn hp
  have h1 : (headSpec ws rm).pre.before a A.U = true := atoms_intro fun w hw => hws w hw _ _ X.warmed
  have h2 : (Cond.codeWith y bytes maxL ret hh).before a A.U = true := hws _ hcode _ _ X.warmed
  have h3 : (Cond.initialized y.cls).before a A.U = true := hinit _ _ X.warmed
  have h4 : A.cells + (headSpec ws rm).room.cells ≤ R.cells := by rw [show (headSpec ws rm).room.cells = mc from hrc]; exact hp.1
  have h5 : A.slots + (headSpec ws rm).room.slots ≤ R.slots := by rw [show (headSpec ws rm).room.slots = ms from hrs]; exact hp.2.1
  have hPc : Pc a (A.U.calling g mk a) := hblind _ _ _ _ hp.2.2
  obtain ⟨U, Ls, c0, s0⟩ := A
  dsimp only [Pt.U, Pt.locs, Pt.cells, Pt.slots] at h1 h2 h3 h4 h5 X hn hPc ⊢
  obtain ⟨m9, methY, cY, hn9, hmY, hcY, -, hlY, -⟩ := Cond.codeWith_spec h2
  cases Option.some.inj (hn9.symm.trans hn)
  obtain ⟨kY, hkY, -⟩ := className_of_methodNamed hn
  have hinitY : kY.init = .initialized := Cond.initialized_spec (findClass_of_methodNamed hn) hkY h3
  have h : At U g.method c below := by rw [hg]; exact X.here
  have hlocals9 : W9 + (maxL + 11) + (headSpec ws rm).room.locals ≤ R.locals := hlocals
  have happ : (headSpec ws rm).appliesLoose y e.platform (U.calling g mk a) = true :=
    Spec.appliesLoose_calling (g := g) h hdg hn hkY hinitY
      (X.room_calling (g := g) (R' := (headSpec ws rm).room) hsize hmY hcY hframes (by rw [hlY]; omega) h4 h5) h1
  obtain ⟨mid, hmid⟩ := h.above
  have hfr : (U.setTop g).frames = (.java g :: mid) ++ below := by rw [State.frames_setTop' g h.top, hmid]; rfl
  obtain ⟨o, s₂, hsteps, -, hend, hq⟩ := Steps.callFree hM p X.admits X.cas X.clock (acts := []) hfr happ hPc trivial
  have hq' : vx_Q Qc XC mc ms free a (U.calling g mk a) o s₂ := hq
  rw [State.frames_setTop' g h.top] at hend
  obtain ⟨g₀, hg0⟩ := Option.isSome_iff_exists.mp h.top
  obtain ⟨r, hr⟩ := State.topJava?_eq_some.mp hg0
  have hr' : (({ U with heap := s₂.heap, slotsUsed := s₂.slotsUsed } : State).setVm s₂.vm).frames = .java g₀ :: r := hr
  rcases hq' with ⟨hqc, L, hfe, hL⟩ | ⟨q, rfl, E, ce, L, hx, hce, hcv, hcl, hW₂, hsm, hL⟩
  · obtain ⟨⟨v, rfl⟩, hW₂, e2, q2, q3, q4, q5, q6⟩ := id hfe
    have e3 : s₂ = ({ (U.calling g mk a).setFrames s₂.frames with heap := s₂.heap, slotsUsed := s₂.slotsUsed } : State).setVm s₂.vm := by
      have : s₂ = ({ s₂ with vm := (U.calling g mk a).vm } : State).setVm s₂.vm := rfl
      rw [e2] at this
      exact this
    obtain ⟨c₂, i₂, len₂, hc₂, hd₂, hf₂⟩ := hend
    have hW' : U.WarmedH s₂.vm := hW₂
    have hcc : c₂ = c := by
      have h1 : s₂.code? g.method = U.code? g.method := by
        rw [State.code?_eq, State.code?_eq, hW'.alike.method?]
      exact Option.some.inj (hc₂.symm.trans (h1.trans h.code))
    subst hcc
    have hlen : len₂ = len := by rw [hdg] at hd₂; cases hd₂; rfl
    subst hlen
    have hs₂ : s₂ = (({ U with heap := s₂.heap, slotsUsed := s₂.slotsUsed } : State).setVm s₂.vm).setTop { g with pc := g.pc + len₂, stack := v.toList ++ g.stack } := by
      refine e3.trans ?_
      rw [hf₂, State.calling_eq h.top, State.setFrames_setFrames, State.setTop_of_frames _ hr', hr]
      rfl
    have hsame : U.sameButNew ({ U with heap := s₂.heap, slotsUsed := s₂.slotsUsed } : State) L mc ms := by
      refine ⟨?_, q2, q3, q4, q5, q6⟩
      obtain ⟨t, ht, -⟩ := State.frames_cons hr
      show ({ U with heap := s₂.heap, slotsUsed := s₂.slotsUsed } : State) = { U.setFrames U.frames with heap := s₂.heap, slotsUsed := s₂.slotsUsed }
      rw [State.setFrames_self ht]
    subst hg
    refine Or.inl ⟨v, ⟨(({ U with heap := s₂.heap, slotsUsed := s₂.slotsUsed } : State).setVm s₂.vm), Ls ++ L, c0 + mc, s0 + ms⟩,
      ⟨X.admits, X.cas, X.clock, X.frames, X.room, X.hears, X.method, X.code, (X.here.setHeapUsed s₂.heap s₂.slotsUsed).setVm hW'.alike, X.tail, State.WarmedH.trans X.warmed hW', X.limits, X.bytes, X.same.trans (hsame.setVm s.vm)⟩,
      ⟨g, mk, s₂, L, rfl, rfl, hqc, rfl, hL, rfl, rfl⟩, ?_⟩
    show Steps p.tables e below _ ((({ U with heap := s₂.heap, slotsUsed := s₂.slotsUsed } : State).setVm s₂.vm).setTop { g with pc := g.pc + len₂, stack := v.toList ++ g.stack })
    rw [← hs₂]
    exact hsteps
  · obtain ⟨e2, q2, q3, q4, q5, q6⟩ := id hsm
    have e3 : s₂ = ({ (U.calling g mk a).setFrames s₂.frames with heap := s₂.heap, slotsUsed := s₂.slotsUsed } : State).setVm s₂.vm := by
      have : s₂ = ({ s₂ with vm := (U.calling g mk a).vm } : State).setVm s₂.vm := rfl
      rw [e2] at this
      exact this
    have hf₂ : s₂.frames = .throwing q :: .java g :: U.frames.tail := hend
    have hW' : U.WarmedH s₂.vm := hW₂
    have hs₂ : s₂ = ((({ U with heap := s₂.heap, slotsUsed := s₂.slotsUsed } : State).setVm s₂.vm).setTop g).pushFrame (.throwing q) := by
      refine e3.trans ?_
      rw [hf₂, State.calling_eq h.top, State.setFrames_setFrames, State.pushFrame, State.frames_setTop _ hr', State.setTop_of_frames _ hr', State.setFrames_setFrames, hr]
      rfl
    have hsame : U.sameButNew ({ U with heap := s₂.heap, slotsUsed := s₂.slotsUsed } : State) L mc ms := by
      refine ⟨?_, q2, q3, q4, q5, q6⟩
      obtain ⟨t, ht, -⟩ := State.frames_cons hr
      show ({ U with heap := s₂.heap, slotsUsed := s₂.slotsUsed } : State) = { U.setFrames U.frames with heap := s₂.heap, slotsUsed := s₂.slotsUsed }
      rw [State.setFrames_self ht]
    subst hg
    refine Or.inr ⟨q, ⟨(({ U with heap := s₂.heap, slotsUsed := s₂.slotsUsed } : State).setVm s₂.vm), Ls ++ L, c0 + mc, s0 + ms⟩,
      ⟨X.admits, X.cas, X.clock, X.frames, X.room, X.hears, X.method, X.code, (X.here.setHeapUsed s₂.heap s₂.slotsUsed).setVm hW'.alike, X.tail, State.WarmedH.trans X.warmed hW', X.limits, X.bytes, X.same.trans (hsame.setVm s.vm)⟩,
      ⟨g, mk, s₂, L, E, ce, rfl, rfl, hx, hce, hcv, hcl, rfl, hL, rfl, rfl⟩, ?_⟩
    show Steps p.tables e below _ (((({ U with heap := s₂.heap, slotsUsed := s₂.slotsUsed } : State).setVm s₂.vm).setTop g).pushFrame (.throwing q))
    rw [← hs₂]
    exact hsteps
end
variable {p : Program} {l : Launch} {e : Env} {R : Room} {s : State} {m : MethodId} {args : Array Value} {below : List Frame} {meth : Method} {c : Code} {T : State} {H : Heap} {locs : List Loc} {cells slots : Nat}
theorem vx_callVX (X : Stand p l e R s m args below meth c T locs cells slots) (hexec : p.tables.exec = Jvm.exec) {own C : String} {index : Nat} {y : MethodName} {bytes : ByteArray} {maxL : Nat} {ret : Option FieldType} {hh : List (Nat × Nat × Nat × Nat)}
    (hown : s.vm.findClass own = some m.cls) (hlink : (Cond.methodLink own index y).before args s = true) (hinst : (Cond.instanceMethod y).before args s = true) (hsel : (Cond.selects C y y).before args s = true)
    (hcode : (Cond.codeWith y bytes maxL ret hh).before args s = true) (hy : y.cls ≠ "java/lang/invoke/MethodHandle" ∧ y.cls ≠ "java/lang/invoke/VarHandle")
    {W9 : Nat} {Pre : Pt → Array Value → Prop} {Post : Pt → Array Value → Option Value → Pt → Prop} {PostX : Pt → Array Value → Addr → Pt → Prop} (hK : vx_Back l R p e below s args y 3 W9 Pre Post PostX)
    {b : Addr} {cellB : Cell} (hcell : T.heap[b]? = some cellB) (hobj : cellB.vm.isStatics = false) (hcls : s.vm.findClass C = some cellB.cls)
    {g : JFrame} (hg : g.method = m) (hsize : g.locals.size = c.maxLocals) {argsL rest : List Value} (hlen : ∀ sig, parseMethodDescriptor y.desc = some sig → argsL.length = sig.parameters.length)
    (hstack : g.stack = argsL.reverse ++ .ref b :: rest) (hW : 2 * g.monitorRoom + (rest.map fun v => v.category).sum ≤ W9) (hdg : decode c.code g.pc = .ok (.invokevirtual index, 3))
    (hpre : ∀ vm₁, s.WarmedH vm₁ → Pre ⟨T.setVm vm₁, locs, cells, slots⟩ (Value.ref b :: argsL).toArray) :
    (∃ (v : Option Value) (vm₁ : Vm) (B : Pt), s.WarmedH vm₁ ∧ Stand p l e R s m args below meth c B.U B.locs B.cells B.slots ∧ Post ⟨T.setVm vm₁, locs, cells, slots⟩ (Value.ref b :: argsL).toArray v B ∧
      ∀ target, Steps p.tables e below (B.U.setTop { g with pc := g.pc + 3, stack := v.toList ++ rest }) target → Steps p.tables e below (T.setTop g) target) ∨
    (∃ (q : Addr) (vm₁ : Vm) (B : Pt), s.WarmedH vm₁ ∧ Stand p l e R s m args below meth c B.U B.locs B.cells B.slots ∧ PostX ⟨T.setVm vm₁, locs, cells, slots⟩ (Value.ref b :: argsL).toArray q B ∧
      Steps p.tables e below (T.setTop g) ((B.U.setTop { g with stack := rest }).pushFrame (.throwing q))) := by
  obtain ⟨mk, methM, hnamed, hmethM, hstM, habM⟩ := Cond.instanceMethod_spec hinst
  obtain ⟨m8, methM', cM, hn8, hmethM', -, -, -, -, -, -, hsigM⟩ := Cond.codeWith_spec hcode
  cases Option.some.inj (hn8.symm.trans hnamed)
  cases hmethM.symm.trans hmethM'
  obtain ⟨c2, r2, m2, q1, q2, q3, q4, kP, hkP, hkPi⟩ := Cond.selects_spec hsel
  cases hcls.symm.trans q1
  cases (State.methodFound?_of_named hnamed hy).symm.trans q2
  cases hnamed.symm.trans q3
  have hselP : selectMethod e.platform s.vm cellB.cls mk = .method mk := by rw [Launch.admits_selectMethod X.admits]; exact q4
  obtain ⟨vm₁, X₁, hstep₁⟩ := X.invokevirtual hexec hown hlink hnamed hmethM hstM hkP hkPi hy (a := b) (cell := cellB) hcell
    (fun z h => by rw [h] at hobj; cases hobj) hselP hmethM habM hkP hkPi (g := g) hg (argsL := argsL) (rest := rest) (hlen _ hsigM) hstack hdg
  rcases hK m meth c ⟨T.setVm vm₁, locs, cells, slots⟩ { g with stack := rest } (.invokevirtual index) mk (Value.ref b :: argsL).toArray X₁ hg hsize hdg hW (X₁.named hnamed) (hpre vm₁ X₁.warmed) with ⟨v, B, X', hpost, hsteps⟩ | ⟨q, B, X', hpost, hsteps⟩
  · exact Or.inl ⟨v, vm₁, B, X₁.warmed, X', hpost, fun target h => hstep₁ _ fun acts => by rw [doInvoke_state]; exact hsteps.trans h⟩
  · exact Or.inr ⟨q, vm₁, B, X₁.warmed, X', hpost, hstep₁ _ fun acts => by rw [doInvoke_state]; exact hsteps⟩
theorem vx_callSX (X : Stand p l e R s m args below meth c T locs cells slots) (hexec : p.tables.exec = Jvm.exec) {own : String} {index : Nat} {y : MethodName} {bytes : ByteArray} {maxL : Nat} {ret : Option FieldType} {hh : List (Nat × Nat × Nat × Nat)}
    (hown : s.vm.findClass own = some m.cls) (hlink : (Cond.methodLink own index y).before args s = true) (hstat : (Cond.static y).before args s = true) (hinit : (Cond.initialized y.cls).before args s = true)
    (hcode : (Cond.codeWith y bytes maxL ret hh).before args s = true) (hy : y.cls ≠ "java/lang/invoke/MethodHandle" ∧ y.cls ≠ "java/lang/invoke/VarHandle")
    {W9 : Nat} {Pre : Pt → Array Value → Prop} {Post : Pt → Array Value → Option Value → Pt → Prop} {PostX : Pt → Array Value → Addr → Pt → Prop} (hK : vx_Back l R p e below s args y 3 W9 Pre Post PostX)
    {g : JFrame} (hg : g.method = m) (hsize : g.locals.size = c.maxLocals) {argsL rest : List Value} (hlen : ∀ sig, parseMethodDescriptor y.desc = some sig → argsL.length = sig.parameters.length)
    (hstack : g.stack = argsL.reverse ++ rest) (hW : 2 * g.monitorRoom + (rest.map fun v => v.category).sum ≤ W9) (hdg : decode c.code g.pc = .ok (.invokestatic index, 3))
    (hpre : ∀ vm₁, s.WarmedH vm₁ → Pre ⟨T.setVm vm₁, locs, cells, slots⟩ argsL.toArray) :
    (∃ (v : Option Value) (vm₁ : Vm) (B : Pt), s.WarmedH vm₁ ∧ Stand p l e R s m args below meth c B.U B.locs B.cells B.slots ∧ Post ⟨T.setVm vm₁, locs, cells, slots⟩ argsL.toArray v B ∧
      ∀ target, Steps p.tables e below (B.U.setTop { g with pc := g.pc + 3, stack := v.toList ++ rest }) target → Steps p.tables e below (T.setTop g) target) ∨
    (∃ (q : Addr) (vm₁ : Vm) (B : Pt), s.WarmedH vm₁ ∧ Stand p l e R s m args below meth c B.U B.locs B.cells B.slots ∧ PostX ⟨T.setVm vm₁, locs, cells, slots⟩ argsL.toArray q B ∧
      Steps p.tables e below (T.setTop g) ((B.U.setTop { g with stack := rest }).pushFrame (.throwing q))) := by
  obtain ⟨mk, methM, cM, hnamed, hmethM, -, -, -, -, -, -, hsigM⟩ := Cond.codeWith_spec hcode
  have hstatic : methM.isStatic = true := Cond.static_spec hnamed hmethM hstat
  obtain ⟨kP, hkP, -⟩ := className_of_methodNamed hnamed
  have hinitP : kP.init = .initialized := Cond.initialized_spec (findClass_of_methodNamed hnamed) hkP hinit
  obtain ⟨vm₁, X₁, hstep₁⟩ := X.invokestatic hexec hown hlink hnamed hmethM hstatic hkP hinitP hy (g := g) hg (argsL := argsL) (rest := rest) (hlen _ hsigM) hstack hdg
  rcases hK m meth c ⟨T.setVm vm₁, locs, cells, slots⟩ { g with stack := rest } (.invokestatic index) mk argsL.toArray X₁ hg hsize hdg hW (X₁.named hnamed) (hpre vm₁ X₁.warmed) with ⟨v, B, X', hpost, hsteps⟩ | ⟨q, B, X', hpost, hsteps⟩
  · exact Or.inl ⟨v, vm₁, B, X₁.warmed, X', hpost, fun target h => hstep₁ _ fun acts => by rw [doInvoke_state]; exact hsteps.trans h⟩
  · exact Or.inr ⟨q, vm₁, B, X₁.warmed, X', hpost, hstep₁ _ fun acts => by rw [doInvoke_state]; exact hsteps⟩
theorem vx_callVW (X : Stand p l e R s m args below meth c T locs cells slots) (hexec : p.tables.exec = Jvm.exec) {own C : String} {index : Nat} {y : MethodName} {bytes : ByteArray} {maxL : Nat} {ret : Option FieldType} {hh : List (Nat × Nat × Nat × Nat)}
    (hown : s.vm.findClass own = some m.cls) (hlink : (Cond.methodLink own index y).before args s = true) (hinst : (Cond.instanceMethod y).before args s = true) (hsel : (Cond.selects C y y).before args s = true)
    (hcode : (Cond.codeWith y bytes maxL ret hh).before args s = true) (hy : y.cls ≠ "java/lang/invoke/MethodHandle" ∧ y.cls ≠ "java/lang/invoke/VarHandle")
    {W9 : Nat} {Pre : Pt → Array Value → Prop} {Post : Pt → Array Value → Option Value → Pt → Prop} (hK : Back l R p e below s args y 3 W9 Pre Post)
    {b : Addr} {cellB : Cell} (hcell : T.heap[b]? = some cellB) (hobj : cellB.vm.isStatics = false) (hcls : s.vm.findClass C = some cellB.cls)
    {g : JFrame} (hg : g.method = m) (hsize : g.locals.size = c.maxLocals) {argsL rest : List Value} (hlen : ∀ sig, parseMethodDescriptor y.desc = some sig → argsL.length = sig.parameters.length)
    (hstack : g.stack = argsL.reverse ++ .ref b :: rest) (hW : 2 * g.monitorRoom + (rest.map fun v => v.category).sum ≤ W9) (hdg : decode c.code g.pc = .ok (.invokevirtual index, 3))
    (hpre : ∀ vm₁, s.WarmedH vm₁ → Pre ⟨T.setVm vm₁, locs, cells, slots⟩ (Value.ref b :: argsL).toArray) :
    ∃ (v : Option Value) (vm₁ : Vm) (B : Pt), s.WarmedH vm₁ ∧ Stand p l e R s m args below meth c B.U B.locs B.cells B.slots ∧ Post ⟨T.setVm vm₁, locs, cells, slots⟩ (Value.ref b :: argsL).toArray v B ∧
      ∀ target, Steps p.tables e below (B.U.setTop { g with pc := g.pc + 3, stack := v.toList ++ rest }) target → Steps p.tables e below (T.setTop g) target := by
  obtain ⟨mk, methM, hnamed, hmethM, hstM, habM⟩ := Cond.instanceMethod_spec hinst
  obtain ⟨m8, methM', cM, hn8, hmethM', -, -, -, -, -, -, hsigM⟩ := Cond.codeWith_spec hcode
  cases Option.some.inj (hn8.symm.trans hnamed)
  cases hmethM.symm.trans hmethM'
  obtain ⟨c2, r2, m2, q1, q2, q3, q4, kP, hkP, hkPi⟩ := Cond.selects_spec hsel
  cases hcls.symm.trans q1
  cases (State.methodFound?_of_named hnamed hy).symm.trans q2
  cases hnamed.symm.trans q3
  have hselP : selectMethod e.platform s.vm cellB.cls mk = .method mk := by rw [Launch.admits_selectMethod X.admits]; exact q4
  obtain ⟨vm₁, X₁, hstep₁⟩ := X.invokevirtual hexec hown hlink hnamed hmethM hstM hkP hkPi hy (a := b) (cell := cellB) hcell
    (fun z h => by rw [h] at hobj; cases hobj) hselP hmethM habM hkP hkPi (g := g) hg (argsL := argsL) (rest := rest) (hlen _ hsigM) hstack hdg
  obtain ⟨v, B, X', hpost, hsteps⟩ := hK m meth c ⟨T.setVm vm₁, locs, cells, slots⟩ { g with stack := rest } (.invokevirtual index) mk (Value.ref b :: argsL).toArray X₁ hg hsize hdg hW (X₁.named hnamed) (hpre vm₁ X₁.warmed)
  exact ⟨v, vm₁, B, X₁.warmed, X', hpost, fun target h => hstep₁ _ fun acts => by rw [doInvoke_state]; exact hsteps.trans h⟩
abbrev vx_CVW (R : Room) (s : State) (args : Array Value) (own C : String) (index : Nat) (y : MethodName) (bytes : ByteArray) (maxL : Nat) (ret : Option FieldType) (hh : List (Nat × Nat × Nat × Nat)) (ws : List Cond) (rm : Room) (mc ms n : Nat) : Prop :=
  (rm.cells = mc ∧ rm.slots = ms ∧ rm.frames + 1 ≤ R.frames ∧ 8 + (maxL + 11) + rm.locals ≤ R.locals ∧ (∀ w ∈ ws, ∀ (a' : Array Value) (U : State), s.WarmedH U.vm → w.before a' U = true) ∧ Cond.codeWith y bytes maxL ret hh ∈ ws) ∧
  (Cond.codeWith y bytes maxL ret hh).before args s = true ∧ (Cond.initialized y.cls).before args s = true ∧ (y.cls ≠ "java/lang/invoke/MethodHandle" ∧ y.cls ≠ "java/lang/invoke/VarHandle") ∧
  (∀ sig, parseMethodDescriptor y.desc = some sig → n = sig.parameters.length) ∧ (Cond.methodLink own index y).before args s = true ∧ (Cond.instanceMethod y).before args s = true ∧ (Cond.selects C y y).before args s = true
theorem vx_cwVW {own C : String} {index maxL mc ms : Nat} {y : MethodName} {bytes : ByteArray} {ret : Option FieldType} {hh : List (Nat × Nat × Nat × Nat)} {Ts ws ws' : List Cond} {rm : Room} (n : Nat) (ht : ∀ w ∈ Ts, w.before args s = true) (hT : GoodIn Ts (wsV own index C y ws)) (hw : ws = Cond.codeWith y bytes maxL ret hh :: ws') (hrc : rm.cells = mc) (hrs : rm.slots = ms)
    (hd : y.cls = C ∧ y.cls ≠ "java/lang/invoke/MethodHandle" ∧ y.cls ≠ "java/lang/invoke/VarHandle" ∧ (parseMethodDescriptor y.desc).map (fun d => d.parameters.length) = some n) (hR : rm.frames + 1 ≤ R.frames ∧ 8 + (maxL + 11) + rm.locals ≤ R.locals) :
    vx_CVW R s args own C index y bytes maxL ret hh ws rm mc ms n := by
  obtain ⟨hC, hd⟩ := hd
  subst hC
  have ok : ∀ w ∈ wsV own index y.cls y ws, w.before args s = true := fun w h => ht w (hT w h).1
  have hG : GoodIn Ts ws := fun w h => hT w (by unfold wsV; exact List.mem_append_right _ h)
  have hc : Cond.codeWith y bytes maxL ret hh ∈ ws := by rw [hw]; exact List.mem_cons_self
  refine ⟨⟨hrc, hrs, hR.1, hR.2, pay_in ht hG, hc⟩, ht _ (hG _ hc).1, ok _ (by simp [wsV]), ⟨hd.1, hd.2.1⟩, fun sig h => ?_, ok _ (by simp [wsV]), ok _ (by simp [wsV]), ok _ (by simp [wsV])⟩
  have h2 := hd.2.2
  rw [h] at h2
  exact (Option.some.inj h2).symm
theorem vx_runVW {y : MethodName} {bytes cc : ByteArray} {maxL nL mc ms n index : Nat} {ret : Option FieldType} {hh : List (Nat × Nat × Nat × Nat)} {ws : List Cond} {rm : Room} {Pc : Array Value → State → Prop} {Qc : Array Value → State → Outcome → State → Prop} {free : Addr → Prop} {Ts : List Cond} {own C : String} {b : Addr} {As rest : List Value} {g : JFrame}
    (S : CallFix p m c cc nL s args Ts own) (hM : Met l y ws rm Pc Qc mc ms free) (cw : vx_CVW R s args own C index y bytes maxL ret hh ws rm mc ms n) (hp : PreV s H C b Pc As)
    (hg : g.method = m) (hn : As.length = n) (hsize : g.locals.size = nL) (hstack : g.stack = As.reverse ++ .ref b :: rest) (hW : 2 * g.monitorRoom + (rest.map fun v => v.category).sum ≤ 8) (hdg : decode cc g.pc = .ok (.invokevirtual index, 3)) (hf : cells + mc ≤ R.cells ∧ slots + ms ≤ R.slots) :
    va_Run p l e R s m args below meth c H locs cells slots mc ms g rest (Qc (Value.ref b :: As).toArray) free := by
  obtain ⟨⟨hrc, hrs, hfr, hlo, hws, hcw⟩, hcode, hini, hy, hlen, hl, hin, hse⟩ := cw
  have hK : Back l R p e below s args y 3 8 (PreOf R mc ms Pc) (PostOf Qc mc ms free) := va_backW (hh := hh) (bytes := bytes) (maxL := maxL) (ret := ret) hM hp.1 hrc hrs hfr hlo hws hcw (fun a' U hW => word_at hW (Or.inl (by first | rfl | simp [Cond.onTables, Cond.keeps, Cond.steady])) hini)
  obtain ⟨hx, hb, hml, ho, -⟩ := S
  obtain ⟨-, ⟨cellB, hcB, hoB, hclB⟩, hPc⟩ := hp
  intro T hT X
  obtain ⟨v, vm₁, ⟨U', l2, c2, s2⟩, hW₁, X', ⟨g', mk, t, L, e1, e2, hq, h1, hL, h2, h3⟩, st⟩ := vx_callVW X hx (C := C) (hh := hh) (bytes := bytes) (maxL := maxL) (ret := ret) ho hl hin hse hcode hy hK (by rw [hT]; exact hcB) hoB hclB hg (hsize.trans hml.symm) (argsL := As) (rest := rest) (fun sig h => hn.trans (hlen sig h)) hstack hW (by rw [hb]; exact hdg)
    (fun vm₁ hW₁ => ⟨hf.1, hf.2, hPc (T.setVm vm₁) hT hW₁⟩)
  dsimp only [Pt.U, Pt.locs, Pt.cells, Pt.slots] at X' e1 e2 h1 h2 h3 st
  subst h1; subst h2; subst h3
  exact ⟨v, (T.setVm vm₁).calling g' mk (Value.ref b :: As).toArray, t, U', L, hT, X', hL, e1, e2, hq, st⟩
section
variable {y : MethodName} {bytes cc : ByteArray} {maxL nL mc ms n index : Nat} {ret : Option FieldType} {ws : List Cond} {rm : Room} {Pc : Array Value → State → Prop} {Qc : Array Value → State → Outcome → State → Prop} {XC : String → State → State → Prop} {free : Addr → Prop} {Ts : List Cond} {own C : String} {b : Addr} {As rest : List Value} {g : JFrame}
theorem vx_runVX {hh : List (Nat × Nat × Nat × Nat)} (S : CallFix p m c cc nL s args Ts own) (hM : vx_Met l y ws rm Pc Qc XC mc ms free) (cw : vx_CVW R s args own C index y bytes maxL ret hh ws rm mc ms n) (hp : PreV s H C b Pc As)
    (hg : g.method = m) (hn : As.length = n) (hsize : g.locals.size = nL) (hstack : g.stack = As.reverse ++ .ref b :: rest) (hW : 2 * g.monitorRoom + (rest.map fun v => v.category).sum ≤ 8) (hdg : decode cc g.pc = .ok (.invokevirtual index, 3)) (hf : cells + mc ≤ R.cells ∧ slots + ms ≤ R.slots) :
    vx_Run p l e R s m args below meth c H locs cells slots mc ms g rest (Qc (Value.ref b :: As).toArray) XC free := by
  obtain ⟨⟨hrc, hrs, hfr, hlo, hws, hcw⟩, hcode, hini, hy, hlen, hl, hin, hse⟩ := cw
  have hK : vx_Back l R p e below s args y 3 8 (PreOf R mc ms Pc) (PostOf Qc mc ms free) (vx_Post XC mc ms free) := vx_backW (hh := hh) (bytes := bytes) (maxL := maxL) (ret := ret) hM hp.1 hrc hrs hfr hlo hws hcw (fun a' U hW => word_at hW (Or.inl (by first | rfl | simp [Cond.onTables, Cond.keeps, Cond.steady])) hini)
  obtain ⟨hx, hb, hml, ho, -⟩ := S
  obtain ⟨-, ⟨cellB, hcB, hoB, hclB⟩, hPc⟩ := hp
  intro T hT X
  rcases vx_callVX X hx (C := C) (hh := hh) (bytes := bytes) (maxL := maxL) (ret := ret) ho hl hin hse hcode hy hK (by rw [hT]; exact hcB) hoB hclB hg (hsize.trans hml.symm) (argsL := As) (rest := rest) (fun sig h => hn.trans (hlen sig h)) hstack hW (by rw [hb]; exact hdg)
    (fun vm₁ hW₁ => ⟨hf.1, hf.2, hPc (T.setVm vm₁) hT hW₁⟩) with ⟨v, vm₁, ⟨U', l2, c2, s2⟩, hW₁, X', ⟨g', mk, t, L, e1, e2, hq, h1, hL, h2, h3⟩, st⟩ | ⟨q, vm₁, ⟨U', l2, c2, s2⟩, hW₁, X', ⟨g', mk, t, L, E, ce, e1, e2, hq, hce, hcv, hcl, h1, hL, h2, h3⟩, st⟩
  · dsimp only [Pt.U, Pt.locs, Pt.cells, Pt.slots] at X' e1 e2 h1 h2 h3 st
    subst h1; subst h2; subst h3
    exact Or.inl ⟨v, (T.setVm vm₁).calling g' mk (Value.ref b :: As).toArray, t, U', L, hT, X', hL, e1, e2, hq, st⟩
  · dsimp only [Pt.U, Pt.locs, Pt.cells, Pt.slots] at X' e1 e2 h1 h2 h3 st hcl
    subst h1; subst h2; subst h3
    exact Or.inr ⟨q, (T.setVm vm₁).calling g' mk (Value.ref b :: As).toArray, t, U', L, E, ce, hT, X', hL, e1, e2, hq, hce, hcv, vx_cls hW₁ hcl, st⟩
theorem vx_runSX {hh : List (Nat × Nat × Nat × Nat)} (S : CallFix p m c cc nL s args Ts own) (hM : vx_Met l y ws rm Pc Qc XC mc ms free) (cw : vx_CSW R s args own index y bytes maxL ret hh ws rm mc ms n) (hp : PreS s H Pc As)
    (hg : g.method = m) (hn : As.length = n) (hsize : g.locals.size = nL) (hstack : g.stack = As.reverse ++ rest) (hW : 2 * g.monitorRoom + (rest.map fun v => v.category).sum ≤ 8) (hdg : decode cc g.pc = .ok (.invokestatic index, 3)) (hf : cells + mc ≤ R.cells ∧ slots + ms ≤ R.slots) :
    vx_Run p l e R s m args below meth c H locs cells slots mc ms g rest (Qc As.toArray) XC free := by
  obtain ⟨⟨hrc, hrs, hfr, hlo, hws, hcw⟩, hcode, hini, hy, hlen, hl, hstt⟩ := cw
  have hK : vx_Back l R p e below s args y 3 8 (PreOf R mc ms Pc) (PostOf Qc mc ms free) (vx_Post XC mc ms free) := vx_backW (hh := hh) (bytes := bytes) (maxL := maxL) (ret := ret) hM hp.1 hrc hrs hfr hlo hws hcw (fun a' U hW => word_at hW (Or.inl (by first | rfl | simp [Cond.onTables, Cond.keeps, Cond.steady])) hini)
  obtain ⟨hx, hb, hml, ho, -⟩ := S
  intro T hT X
  rcases vx_callSX X hx (hh := hh) (bytes := bytes) (maxL := maxL) (ret := ret) ho hl hstt hini hcode hy hK hg (hsize.trans hml.symm) (argsL := As) (rest := rest) (fun sig h => hn.trans (hlen sig h)) hstack hW (by rw [hb]; exact hdg)
    (fun vm₁ hW₁ => ⟨hf.1, hf.2, hp.2 (T.setVm vm₁) hT hW₁⟩) with ⟨v, vm₁, ⟨U', l2, c2, s2⟩, hW₁, X', ⟨g', mk, t, L, e1, e2, hq, h1, hL, h2, h3⟩, st⟩ | ⟨q, vm₁, ⟨U', l2, c2, s2⟩, hW₁, X', ⟨g', mk, t, L, E, ce, e1, e2, hq, hce, hcv, hcl, h1, hL, h2, h3⟩, st⟩
  · dsimp only [Pt.U, Pt.locs, Pt.cells, Pt.slots] at X' e1 e2 h1 h2 h3 st
    subst h1; subst h2; subst h3
    exact Or.inl ⟨v, (T.setVm vm₁).calling g' mk As.toArray, t, U', L, hT, X', hL, e1, e2, hq, st⟩
  · dsimp only [Pt.U, Pt.locs, Pt.cells, Pt.slots] at X' e1 e2 h1 h2 h3 st hcl
    subst h1; subst h2; subst h3
    exact Or.inr ⟨q, (T.setVm vm₁).calling g' mk As.toArray, t, U', L, E, ce, hT, X', hL, e1, e2, hq, hce, hcv, vx_cls hW₁ hcl, st⟩
end
end VXH
theorem vx_ofWH {l : Launch} {y : MethodName} {ws ws' : List Cond} {rm : Room} {Pc : Array Value → State → Prop} {Qc : Array Value → State → Outcome → State → Prop} {XC : String → State → State → Prop} {mc ms : Nat} {free : Addr → Prop} {cc : ByteArray} {maxL : Nat} {ret : Option FieldType} {hh : List (Nat × Nat × Nat × Nat)}
    (hy : plainName y.cls = true) (hw : ws = Cond.codeWith y cc maxL ret hh :: ws')
    (body : ∀ p e s m args below meth c s₁, BodyLoose p l y (headSpec ws rm) cc maxL ret e s m args below meth c s₁ → c.maxLocals = maxL → Pc args s →
      W p l e (headSpec ws rm).room s m args below meth c s.heap [] 0 0 (vx_MQ below Qc XC args s mc ms free) (entryFrame m args maxL)) : vx_Met l y ws rm Pc Qc XC mc ms free := by
  refine MetFree.of_bodyS (code := cc) (maxLocals := maxL) (ret := ret) hy ?_ ?_
  · intro args s m h hn
    obtain ⟨m9, meth, c, hn9, h1, h2, h3, h4, -, h5, h6, -⟩ := Cond.codeWith_spec (atoms_spec (ws := ws) h _ (by rw [hw]; exact List.mem_cons_self))
    cases hn.symm.trans hn9
    exact ⟨meth, c, h1, h2, h3, h4, h5, h6⟩
  · intro p e s m args below meth c s₁ B hml hP _
    have hh0 : s₁.heap = s.heap := by rw [B.state]; rfl
    obtain ⟨t, a1, o, b1, b2, b3⟩ := body p e s m args below meth c s₁ B hml hP s₁ hh0 (Stand.of_body B)
    exact ⟨t, o, a1, b1, b2, b3⟩
/-! ===== END ===== -/
end
section
def RX0 : String := "DurableLoom$Activity"
def TX0 : u_T := fun k => match k with
  | 0 => ("DurableLoom$Activity", "run", "LDurableLoom$Run;", true)
  | 1 => ("DurableLoom$Activity", "event", "I", true)
  | 2 => ("DurableLoom$Activity", "kind", "I", true)
  | 3 => ("DurableLoom$Activity", "input", "I", true)
  | 4 => ("DurableLoom$Activity", "madeAt", "I", true)
  | 5 => ("DurableLoom$Activity", "state", "I", false)
  | 6 => ("DurableLoom$Activity", "attempts", "I", false)
  | 7 => ("DurableLoom$Activity", "ready", "I", false)
  | 8 => ("DurableLoom$Activity", "takenAt", "I", false)
  | 9 => ("DurableLoom$Activity", "beatAt", "I", false)
  | _ => ("DurableLoom$Activity", "progress", "I", false)
def tyX0 : Nat → FieldType := fun k => match k with
  | 0 => .object "DurableLoom$Run"
  | 1 => .int
  | 2 => .int
  | 3 => .int
  | 4 => .int
  | 5 => .int
  | 6 => .int
  | 7 => .int
  | 8 => .int
  | 9 => .int
  | _ => .int
abbrev wsX00 : List Cond := u_ws RX0 TX0 11
theorem nmX0 : ∀ a, a < 11 → ∀ b, b < 11 → a ≠ b → (TX0 a).2.1 ≠ (TX0 b).2.1 := by decide +kernel
theorem tyX0_ok : ∀ k, k < 11 → parseFieldDescriptor (TX0 k).2.2.1 = some (tyX0 k) := by decide +kernel
abbrev cX0_init : ByteArray := prog_2_method_1_code
def yX0_init : MethodName := ⟨RX0, "<init>", "(LDurableLoom$Run;IIII)V"⟩
abbrev cX0_beTaken : ByteArray := prog_2_method_2_code
def yX0_beTaken : MethodName := ⟨RX0, "beTaken", "(I)V"⟩
def RX1 : String := "DurableLoom$Branch"
def TX1 : u_T := fun k => match k with
  | 0 => ("DurableLoom$Branch", "number", "I", false)
  | 1 => ("DurableLoom$Branch", "parent", "I", false)
  | 2 => ("DurableLoom$Branch", "above", "I", false)
  | 3 => ("DurableLoom$Branch", "rival", "I", false)
  | 4 => ("DurableLoom$Branch", "line", "I", false)
  | 5 => ("DurableLoom$Branch", "shields", "I", false)
  | 6 => ("DurableLoom$Branch", "owed", "Z", false)
  | 7 => ("DurableLoom$Branch", "waits", "I", false)
  | 8 => ("DurableLoom$Branch", "waitsFor", "I", false)
  | 9 => ("DurableLoom$Branch", "doomed", "Z", false)
  | _ => ("DurableLoom$Branch", "handlers", "I", false)
def tyX1 : Nat → FieldType := fun k => match k with
  | 0 => .int
  | 1 => .int
  | 2 => .int
  | 3 => .int
  | 4 => .int
  | 5 => .int
  | 6 => .boolean
  | 7 => .int
  | 8 => .int
  | 9 => .boolean
  | _ => .int
abbrev wsX10 : List Cond := u_ws RX1 TX1 11
theorem nmX1 : ∀ a, a < 11 → ∀ b, b < 11 → a ≠ b → (TX1 a).2.1 ≠ (TX1 b).2.1 := by decide +kernel
theorem tyX1_ok : ∀ k, k < 11 → parseFieldDescriptor (TX1 k).2.2.1 = some (tyX1 k) := by decide +kernel
abbrev cX1_init : ByteArray := prog_3_method_1_code
def yX1_init : MethodName := ⟨RX1, "<init>", "()V"⟩
abbrev cX1_start : ByteArray := prog_3_method_2_code
def yX1_start : MethodName := ⟨RX1, "start", "(III)V"⟩
abbrev cX1_waitFor : ByteArray := prog_3_method_3_code
def yX1_waitFor : MethodName := ⟨RX1, "waitFor", "(II)V"⟩
abbrev cX1_goOnAt : ByteArray := prog_3_method_4_code
def yX1_goOnAt : MethodName := ⟨RX1, "goOnAt", "(I)V"⟩
abbrev cX1_isBare : ByteArray := prog_3_method_5_code
def yX1_isBare : MethodName := ⟨RX1, "isBare", "()Z"⟩
abbrev cX1_waitsForEvent : ByteArray := prog_3_method_6_code
def yX1_waitsForEvent : MethodName := ⟨RX1, "waitsForEvent", "()Z"⟩
def RX2 : String := "DurableLoom$History"
def TX2 : u_T := fun k => match k with
  | 0 => ("DurableLoom$History", "events", "LDurableLoom$Row;", true)
  | 1 => ("DurableLoom$History", "size", "I", false)
  | 2 => ("DurableLoom$History", "arrivals", "I", false)
  | 3 => ("DurableLoom$History", "tasks", "I", false)
  | _ => ("DurableLoom$History", "counted", "I", false)
def tyX2 : Nat → FieldType := fun k => match k with
  | 0 => .object "DurableLoom$Row"
  | 1 => .int
  | 2 => .int
  | 3 => .int
  | _ => .int
abbrev wsX20 : List Cond := u_ws RX2 TX2 5
theorem nmX2 : ∀ a, a < 5 → ∀ b, b < 5 → a ≠ b → (TX2 a).2.1 ≠ (TX2 b).2.1 := by decide +kernel
theorem tyX2_ok : ∀ k, k < 5 → parseFieldDescriptor (TX2 k).2.2.1 = some (tyX2 k) := by decide +kernel
abbrev cX2_init : ByteArray := prog_4_method_1_code
def yX2_init : MethodName := ⟨RX2, "<init>", "(LDurableLoom$Row;)V"⟩
abbrev cX2_kind : ByteArray := prog_4_method_2_code
def yX2_kind : MethodName := ⟨RX2, "kind", "(I)I"⟩
abbrev cX2_x : ByteArray := prog_4_method_3_code
def yX2_x : MethodName := ⟨RX2, "x", "(I)I"⟩
abbrev cX2_y : ByteArray := prog_4_method_4_code
def yX2_y : MethodName := ⟨RX2, "y", "(I)I"⟩
abbrev cX2_timeOfCommand : ByteArray := prog_4_method_5_code
def yX2_timeOfCommand : MethodName := ⟨RX2, "timeOfCommand", "(I)I"⟩
abbrev cX2_clockOfArrival : ByteArray := prog_4_method_6_code
def yX2_clockOfArrival : MethodName := ⟨RX2, "clockOfArrival", "(I)I"⟩
abbrev cX2_orderOfArrival : ByteArray := prog_4_method_7_code
def yX2_orderOfArrival : MethodName := ⟨RX2, "orderOfArrival", "(I)I"⟩
abbrev cX2_put : ByteArray := prog_4_method_8_code
def yX2_put : MethodName := ⟨RX2, "put", "(IIIII)V"⟩
abbrev cX2_cut : ByteArray := prog_4_method_9_code
def yX2_cut : MethodName := ⟨RX2, "cut", "(I)V"⟩
abbrev cX2_becomeFirst : ByteArray := prog_4_method_10_code
def yX2_becomeFirst : MethodName := ⟨RX2, "becomeFirst", "(LDurableLoom$History;I)V"⟩
abbrev cX2_countAgain : ByteArray := prog_4_method_11_code
def yX2_countAgain : MethodName := ⟨RX2, "countAgain", "()V"⟩
abbrev cX2_has : ByteArray := prog_4_method_12_code
def yX2_has : MethodName := ⟨RX2, "has", "(I)Z"⟩
abbrev cX2_is : ByteArray := prog_4_method_13_code
def yX2_is : MethodName := ⟨RX2, "is", "(IIII)Z"⟩
abbrev cX2_nextArrival : ByteArray := prog_4_method_14_code
def yX2_nextArrival : MethodName := ⟨RX2, "nextArrival", "(I)I"⟩
abbrev cX2_nextCommand : ByteArray := prog_4_method_15_code
def yX2_nextCommand : MethodName := ⟨RX2, "nextCommand", "(I)I"⟩
abbrev cX2_taskBeyond : ByteArray := prog_4_method_16_code
def yX2_taskBeyond : MethodName := ⟨RX2, "taskBeyond", "(I)I"⟩
abbrev cX2_taskAt : ByteArray := prog_4_method_17_code
def yX2_taskAt : MethodName := ⟨RX2, "taskAt", "(I)I"⟩
abbrev cX2_firstNew : ByteArray := prog_4_method_18_code
def yX2_firstNew : MethodName := ⟨RX2, "firstNew", "()I"⟩
abbrev cX2_hasNewSignal : ByteArray := prog_4_method_19_code
def yX2_hasNewSignal : MethodName := ⟨RX2, "hasNewSignal", "(I)Z"⟩
abbrev cX2_hasEnded : ByteArray := prog_4_method_20_code
def yX2_hasEnded : MethodName := ⟨RX2, "hasEnded", "(I)Z"⟩
def RX3 : String := "DurableLoom$Kind"
def TX3 : u_T := fun k => match k with
  | 0 => ("DurableLoom$Kind", "attempts", "I", false)
  | 1 => ("DurableLoom$Kind", "pause", "I", false)
  | 2 => ("DurableLoom$Kind", "toBegin", "I", false)
  | 3 => ("DurableLoom$Kind", "toEnd", "I", false)
  | _ => ("DurableLoom$Kind", "beats", "I", false)
def tyX3 : Nat → FieldType := fun k => match k with
  | 0 => .int
  | 1 => .int
  | 2 => .int
  | 3 => .int
  | _ => .int
abbrev wsX30 : List Cond := u_ws RX3 TX3 5
theorem nmX3 : ∀ a, a < 5 → ∀ b, b < 5 → a ≠ b → (TX3 a).2.1 ≠ (TX3 b).2.1 := by decide +kernel
theorem tyX3_ok : ∀ k, k < 5 → parseFieldDescriptor (TX3 k).2.2.1 = some (tyX3 k) := by decide +kernel
abbrev cX3_init : ByteArray := prog_5_method_1_code
def yX3_init : MethodName := ⟨RX3, "<init>", "()V"⟩
def RX4 : String := "DurableLoom$Machine"
def TX4 : u_T := fun k => match k with
  | 0 => ("DurableLoom$Machine", "state", "LDurableLoom$State;", true)
  | 1 => ("DurableLoom$Machine", "news", "LDurableLoom$History;", true)
  | 2 => ("DurableLoom$Machine", "history", "LDurableLoom$History;", false)
  | 3 => ("DurableLoom$Machine", "code", "LDurableLoom$Row;", false)
  | 4 => ("DurableLoom$Machine", "way", "I", false)
  | 5 => ("DurableLoom$Machine", "seenCounted", "I", false)
  | 6 => ("DurableLoom$Machine", "seenEvents", "I", false)
  | 7 => ("DurableLoom$Machine", "known", "LDurableLoom$Run;", false)
  | 8 => ("DurableLoom$Machine", "taking", "I", false)
  | 9 => ("DurableLoom$Machine", "steps", "I", false)
  | 10 => ("DurableLoom$Machine", "stuck", "Z", false)
  | _ => ("DurableLoom$Machine", "difference", "I", false)
def tyX4 : Nat → FieldType := fun k => match k with
  | 0 => .object "DurableLoom$State"
  | 1 => .object "DurableLoom$History"
  | 2 => .object "DurableLoom$History"
  | 3 => .object "DurableLoom$Row"
  | 4 => .int
  | 5 => .int
  | 6 => .int
  | 7 => .object "DurableLoom$Run"
  | 8 => .int
  | 9 => .int
  | 10 => .boolean
  | _ => .int
abbrev wsX40 : List Cond := u_ws RX4 TX4 12
theorem nmX4 : ∀ a, a < 12 → ∀ b, b < 12 → a ≠ b → (TX4 a).2.1 ≠ (TX4 b).2.1 := by decide +kernel
theorem tyX4_ok : ∀ k, k < 12 → parseFieldDescriptor (TX4 k).2.2.1 = some (tyX4 k) := by decide +kernel
abbrev cX4_init : ByteArray := prog_6_method_1_code
def yX4_init : MethodName := ⟨RX4, "<init>", "()V"⟩
abbrev cX4_follow : ByteArray := prog_6_method_2_code
def yX4_follow : MethodName := ⟨RX4, "follow", "(LDurableLoom$Run;LDurableLoom$Row;II)Z"⟩
abbrev cX4_load : ByteArray := prog_6_method_3_code
def yX4_load : MethodName := ⟨RX4, "load", "(LDurableLoom$Run;LDurableLoom$Row;I)V"⟩
abbrev cX4_knows : ByteArray := prog_6_method_4_code
def yX4_knows : MethodName := ⟨RX4, "knows", "(LDurableLoom$Run;)V"⟩
abbrev cX4_goes : ByteArray := prog_6_method_5_code
def yX4_goes : MethodName := ⟨RX4, "goes", "()Z"⟩
abbrev cX4_getStuck : ByteArray := prog_6_method_6_code
def yX4_getStuck : MethodName := ⟨RX4, "getStuck", "(I)V"⟩
abbrev cX4_passTasks : ByteArray := prog_6_method_7_code
def yX4_passTasks : MethodName := ⟨RX4, "passTasks", "()V"⟩
abbrev cX4_isLeft : ByteArray := prog_6_method_8_code
def yX4_isLeft : MethodName := ⟨RX4, "isLeft", "()Z"⟩
abbrev cX4_seen : ByteArray := prog_6_method_9_code
def yX4_seen : MethodName := ⟨RX4, "seen", "()I"⟩
abbrev cX4_note : ByteArray := prog_6_method_10_code
def yX4_note : MethodName := ⟨RX4, "note", "(III)V"⟩
abbrev cX4_noteEnd : ByteArray := prog_6_method_11_code
def yX4_noteEnd : MethodName := ⟨RX4, "noteEnd", "(LDurableLoom$Branch;II)V"⟩
abbrev cX4_noteFailure : ByteArray := prog_6_method_12_code
def yX4_noteFailure : MethodName := ⟨RX4, "noteFailure", "(LDurableLoom$Branch;)V"⟩
abbrev cX4_tellCancel : ByteArray := prog_6_method_13_code
def yX4_tellCancel : MethodName := ⟨RX4, "tellCancel", "()V"⟩
abbrev cX4_failBranch : ByteArray := prog_6_method_14_code
def yX4_failBranch : MethodName := ⟨RX4, "failBranch", "(LDurableLoom$Branch;)V"⟩
abbrev cX4_endBranch : ByteArray := prog_6_method_15_code
def yX4_endBranch : MethodName := ⟨RX4, "endBranch", "(LDurableLoom$Branch;)V"⟩
abbrev cX4_command : ByteArray := prog_6_method_16_code
def yX4_command : MethodName := ⟨RX4, "command", "(III)I"⟩
abbrev cX4_goOn : ByteArray := prog_6_method_17_code
def yX4_goOn : MethodName := ⟨RX4, "goOn", "()V"⟩
abbrev cX4_awake : ByteArray := prog_6_method_18_code
def yX4_awake : MethodName := ⟨RX4, "awake", "(LDurableLoom$Branch;)V"⟩
abbrev cX4_doPlainLine : ByteArray := prog_6_method_19_code
def yX4_doPlainLine : MethodName := ⟨RX4, "doPlainLine", "(LDurableLoom$Branch;III)V"⟩
abbrev cX4_doBranchLine : ByteArray := prog_6_method_20_code
def yX4_doBranchLine : MethodName := ⟨RX4, "doBranchLine", "(LDurableLoom$Branch;II)V"⟩
abbrev cX4_beginBelow : ByteArray := prog_6_method_21_code
def yX4_beginBelow : MethodName := ⟨RX4, "beginBelow", "(LDurableLoom$Branch;I)LDurableLoom$Branch;"⟩
abbrev cX4_race : ByteArray := prog_6_method_22_code
def yX4_race : MethodName := ⟨RX4, "race", "(LDurableLoom$Branch;LDurableLoom$Branch;)V"⟩
abbrev cX4_win : ByteArray := prog_6_method_23_code
def yX4_win : MethodName := ⟨RX4, "win", "(LDurableLoom$Branch;)V"⟩
abbrev cX4_dropDoomed : ByteArray := prog_6_method_24_code
def yX4_dropDoomed : MethodName := ⟨RX4, "dropDoomed", "()V"⟩
abbrev cX4_doEndingLine : ByteArray := prog_6_method_25_code
def yX4_doEndingLine : MethodName := ⟨RX4, "doEndingLine", "(LDurableLoom$Branch;III)V"⟩
abbrev cX4_undo : ByteArray := prog_6_method_26_code
def yX4_undo : MethodName := ⟨RX4, "undo", "(LDurableLoom$Branch;)V"⟩
abbrev cX4_doOtherLine : ByteArray := prog_6_method_27_code
def yX4_doOtherLine : MethodName := ⟨RX4, "doOtherLine", "(LDurableLoom$Branch;III)V"⟩
abbrev cX4_patch : ByteArray := prog_6_method_28_code
def yX4_patch : MethodName := ⟨RX4, "patch", "(I)Z"⟩
def RX5 : String := "DurableLoom$Row"
def TX5 : u_T := fun k => match k with
  | 0 => ("DurableLoom$Row", "parts", "[[J", false)
  | 1 => ("DurableLoom$Row", "shared", "I", false)
  | _ => ("DurableLoom$Row", "size", "I", false)
def tyX5 : Nat → FieldType := fun k => match k with
  | 0 => .array (.array .long)
  | 1 => .int
  | _ => .int
abbrev wsX50 : List Cond := u_ws RX5 TX5 3
theorem nmX5 : ∀ a, a < 3 → ∀ b, b < 3 → a ≠ b → (TX5 a).2.1 ≠ (TX5 b).2.1 := by decide +kernel
theorem tyX5_ok : ∀ k, k < 3 → parseFieldDescriptor (TX5 k).2.2.1 = some (tyX5 k) := by decide +kernel
abbrev cX5_init : ByteArray := prog_7_method_1_code
def yX5_init : MethodName := ⟨RX5, "<init>", "()V"⟩
abbrev cX5_wide : ByteArray := prog_7_method_2_code
def yX5_wide : MethodName := ⟨RX5, "wide", "(I)J"⟩
abbrev cX5_at : ByteArray := prog_7_method_3_code
def yX5_at : MethodName := ⟨RX5, "at", "(I)I"⟩
abbrev cX5_add : ByteArray := prog_7_method_4_code
def yX5_add : MethodName := ⟨RX5, "add", "(J)V"⟩
abbrev cX5_removeAt : ByteArray := prog_7_method_5_code
def yX5_removeAt : MethodName := ⟨RX5, "removeAt", "(I)V"⟩
abbrev cX5_put : ByteArray := prog_7_method_6_code
def yX5_put : MethodName := ⟨RX5, "put", "(IJ)V"⟩
abbrev cX5_cut : ByteArray := prog_7_method_7_code
def yX5_cut : MethodName := ⟨RX5, "cut", "(I)V"⟩
abbrev cX5_becomeFirst : ByteArray := prog_7_method_8_code
def yX5_becomeFirst : MethodName := ⟨RX5, "becomeFirst", "(LDurableLoom$Row;I)V"⟩
def RX6 : String := "DurableLoom$Run"
def TX6 : u_T := fun k => match k with
  | 0 => ("DurableLoom$Run", "number", "I", true)
  | 1 => ("DurableLoom$Run", "type", "I", true)
  | 2 => ("DurableLoom$Run", "tenant", "I", true)
  | 3 => ("DurableLoom$Run", "version", "I", false)
  | 4 => ("DurableLoom$Run", "parent", "I", false)
  | 5 => ("DurableLoom$Run", "parentEvent", "I", true)
  | 6 => ("DurableLoom$Run", "status", "I", false)
  | 7 => ("DurableLoom$Run", "difference", "I", false)
  | 8 => ("DurableLoom$Run", "copied", "I", false)
  | 9 => ("DurableLoom$Run", "cuts", "I", false)
  | 10 => ("DurableLoom$Run", "lastTask", "I", false)
  | 11 => ("DurableLoom$Run", "tag", "I", false)
  | 12 => ("DurableLoom$Run", "keeper", "I", false)
  | 13 => ("DurableLoom$Run", "keptMark", "I", false)
  | 14 => ("DurableLoom$Run", "seenCounted", "I", false)
  | 15 => ("DurableLoom$Run", "seenEvents", "I", false)
  | 16 => ("DurableLoom$Run", "history", "LDurableLoom$History;", true)
  | 17 => ("DurableLoom$Run", "timers", "LDurableLoom$Row;", true)
  | 18 => ("DurableLoom$Run", "dues", "LDurableLoom$Row;", true)
  | _ => ("DurableLoom$Run", "lost", "LDurableLoom$Row;", true)
def tyX6 : Nat → FieldType := fun k => match k with
  | 0 => .int
  | 1 => .int
  | 2 => .int
  | 3 => .int
  | 4 => .int
  | 5 => .int
  | 6 => .int
  | 7 => .int
  | 8 => .int
  | 9 => .int
  | 10 => .int
  | 11 => .int
  | 12 => .int
  | 13 => .int
  | 14 => .int
  | 15 => .int
  | 16 => .object "DurableLoom$History"
  | 17 => .object "DurableLoom$Row"
  | 18 => .object "DurableLoom$Row"
  | _ => .object "DurableLoom$Row"
abbrev wsX60 : List Cond := u_ws RX6 TX6 20
theorem nmX6 : ∀ a, a < 20 → ∀ b, b < 20 → a ≠ b → (TX6 a).2.1 ≠ (TX6 b).2.1 := by decide +kernel
theorem tyX6_ok : ∀ k, k < 20 → parseFieldDescriptor (TX6 k).2.2.1 = some (tyX6 k) := by decide +kernel
abbrev cX6_init : ByteArray := prog_8_method_1_code
def yX6_init : MethodName := ⟨RX6, "<init>", "(IIIIII)V"⟩
abbrev cX6_isAlive : ByteArray := prog_8_method_2_code
def yX6_isAlive : MethodName := ⟨RX6, "isAlive", "()Z"⟩
abbrev cX6_hasWork : ByteArray := prog_8_method_3_code
def yX6_hasWork : MethodName := ⟨RX6, "hasWork", "()Z"⟩
abbrev cX6_firstOrder : ByteArray := prog_8_method_4_code
def yX6_firstOrder : MethodName := ⟨RX6, "firstOrder", "()I"⟩
abbrev cX6_mark : ByteArray := prog_8_method_5_code
def yX6_mark : MethodName := ⟨RX6, "mark", "()I"⟩
abbrev cX6_isKeptBy : ByteArray := prog_8_method_6_code
def yX6_isKeptBy : MethodName := ⟨RX6, "isKeptBy", "(I)Z"⟩
abbrev cX6_addTimer : ByteArray := prog_8_method_7_code
def yX6_addTimer : MethodName := ⟨RX6, "addTimer", "(II)V"⟩
abbrev cX6_dropTimer : ByteArray := prog_8_method_8_code
def yX6_dropTimer : MethodName := ⟨RX6, "dropTimer", "(I)V"⟩
def RX7 : String := "DurableLoom$Schedule"
def TX7 : u_T := fun k => match k with
  | 0 => ("DurableLoom$Schedule", "type", "I", true)
  | 1 => ("DurableLoom$Schedule", "tenant", "I", true)
  | 2 => ("DurableLoom$Schedule", "period", "I", true)
  | 3 => ("DurableLoom$Schedule", "overlap", "I", true)
  | 4 => ("DurableLoom$Schedule", "lookedTo", "I", false)
  | 5 => ("DurableLoom$Schedule", "paused", "Z", false)
  | 6 => ("DurableLoom$Schedule", "lastRun", "I", false)
  | 7 => ("DurableLoom$Schedule", "waiting", "Z", false)
  | _ => ("DurableLoom$Schedule", "waitingInput", "I", false)
def tyX7 : Nat → FieldType := fun k => match k with
  | 0 => .int
  | 1 => .int
  | 2 => .int
  | 3 => .int
  | 4 => .int
  | 5 => .boolean
  | 6 => .int
  | 7 => .boolean
  | _ => .int
abbrev wsX70 : List Cond := u_ws RX7 TX7 9
theorem nmX7 : ∀ a, a < 9 → ∀ b, b < 9 → a ≠ b → (TX7 a).2.1 ≠ (TX7 b).2.1 := by decide +kernel
theorem tyX7_ok : ∀ k, k < 9 → parseFieldDescriptor (TX7 k).2.2.1 = some (tyX7 k) := by decide +kernel
abbrev cX7_init : ByteArray := prog_9_method_1_code
def yX7_init : MethodName := ⟨RX7, "<init>", "(IIIII)V"⟩
abbrev cX7_isPoint : ByteArray := prog_9_method_2_code
def yX7_isPoint : MethodName := ⟨RX7, "isPoint", "(I)Z"⟩
abbrev cX7_pointsSoFar : ByteArray := prog_9_method_3_code
def yX7_pointsSoFar : MethodName := ⟨RX7, "pointsSoFar", "()I"⟩
def RX8 : String := "DurableLoom$State"
def TX8 : u_T := fun k => match k with
  | 0 => ("DurableLoom$State", "variables", "[I", true)
  | 1 => ("DurableLoom$State", "branches", "[LDurableLoom$Branch;", true)
  | 2 => ("DurableLoom$State", "queues", "[LDurableLoom$Row;", true)
  | 3 => ("DurableLoom$State", "stacked", "LDurableLoom$Row;", true)
  | 4 => ("DurableLoom$State", "compensations", "I", false)
  | 5 => ("DurableLoom$State", "there", "I", false)
  | 6 => ("DurableLoom$State", "begun", "I", false)
  | 7 => ("DurableLoom$State", "patches", "I", false)
  | 8 => ("DurableLoom$State", "cancelTaken", "Z", false)
  | 9 => ("DurableLoom$State", "over", "I", false)
  | 10 => ("DurableLoom$State", "taken", "I", false)
  | 11 => ("DurableLoom$State", "arrivalAt", "I", false)
  | 12 => ("DurableLoom$State", "commandAt", "I", false)
  | _ => ("DurableLoom$State", "taskAt", "I", false)
def tyX8 : Nat → FieldType := fun k => match k with
  | 0 => .array .int
  | 1 => .array (.object "DurableLoom$Branch")
  | 2 => .array (.object "DurableLoom$Row")
  | 3 => .object "DurableLoom$Row"
  | 4 => .int
  | 5 => .int
  | 6 => .int
  | 7 => .int
  | 8 => .boolean
  | 9 => .int
  | 10 => .int
  | 11 => .int
  | 12 => .int
  | _ => .int
abbrev wsX80 : List Cond := u_ws RX8 TX8 14
theorem nmX8 : ∀ a, a < 14 → ∀ b, b < 14 → a ≠ b → (TX8 a).2.1 ≠ (TX8 b).2.1 := by decide +kernel
theorem tyX8_ok : ∀ k, k < 14 → parseFieldDescriptor (TX8 k).2.2.1 = some (tyX8 k) := by decide +kernel
abbrev cX8_init : ByteArray := prog_10_method_1_code
def yX8_init : MethodName := ⟨RX8, "<init>", "()V"⟩
abbrev cX8_clear : ByteArray := prog_10_method_2_code
def yX8_clear : MethodName := ⟨RX8, "clear", "()V"⟩
abbrev cX8_pushed : ByteArray := prog_10_method_3_code
def yX8_pushed : MethodName := ⟨RX8, "pushed", "(II)I"⟩
abbrev cX8_top : ByteArray := prog_10_method_4_code
def yX8_top : MethodName := ⟨RX8, "top", "(I)I"⟩
abbrev cX8_popped : ByteArray := prog_10_method_5_code
def yX8_popped : MethodName := ⟨RX8, "popped", "(I)I"⟩
abbrev cX8_value : ByteArray := prog_10_method_6_code
def yX8_value : MethodName := ⟨RX8, "value", "(I)I"⟩
abbrev cX8_set : ByteArray := prog_10_method_7_code
def yX8_set : MethodName := ⟨RX8, "set", "(II)V"⟩
abbrev cX8_queue : ByteArray := prog_10_method_8_code
def yX8_queue : MethodName := ⟨RX8, "queue", "(I)LDurableLoom$Row;"⟩
abbrev cX8_branchAt : ByteArray := prog_10_method_9_code
def yX8_branchAt : MethodName := ⟨RX8, "branchAt", "(I)LDurableLoom$Branch;"⟩
abbrev cX8_find : ByteArray := prog_10_method_10_code
def yX8_find : MethodName := ⟨RX8, "find", "(I)LDurableLoom$Branch;"⟩
abbrev cX8_beginBranch : ByteArray := prog_10_method_11_code
def yX8_beginBranch : MethodName := ⟨RX8, "beginBranch", "(II)I"⟩
abbrev cX8_remove : ByteArray := prog_10_method_12_code
def yX8_remove : MethodName := ⟨RX8, "remove", "(LDurableLoom$Branch;)V"⟩
abbrev cX8_firstAble : ByteArray := prog_10_method_13_code
def yX8_firstAble : MethodName := ⟨RX8, "firstAble", "()LDurableLoom$Branch;"⟩
abbrev cX8_isAble : ByteArray := prog_10_method_14_code
def yX8_isAble : MethodName := ⟨RX8, "isAble", "(LDurableLoom$Branch;)Z"⟩
abbrev cX8_isParent : ByteArray := prog_10_method_15_code
def yX8_isParent : MethodName := ⟨RX8, "isParent", "(I)Z"⟩
abbrev cX8_waiterFor : ByteArray := prog_10_method_16_code
def yX8_waiterFor : MethodName := ⟨RX8, "waiterFor", "(I)LDurableLoom$Branch;"⟩
abbrev cX8_waitsForSignal : ByteArray := prog_10_method_17_code
def yX8_waitsForSignal : MethodName := ⟨RX8, "waitsForSignal", "(I)Z"⟩
abbrev cX8_doom : ByteArray := prog_10_method_18_code
def yX8_doom : MethodName := ⟨RX8, "doom", "(LDurableLoom$Branch;)V"⟩
def RX9 : String := "DurableLoom$Task"
def TX9 : u_T := fun k => match k with
  | 0 => ("DurableLoom$Task", "worker", "I", true)
  | 1 => ("DurableLoom$Task", "run", "LDurableLoom$Run;", true)
  | 2 => ("DurableLoom$Task", "givenAt", "I", true)
  | 3 => ("DurableLoom$Task", "arrivals", "I", true)
  | 4 => ("DurableLoom$Task", "mark", "I", true)
  | _ => ("DurableLoom$Task", "over", "Z", false)
def tyX9 : Nat → FieldType := fun k => match k with
  | 0 => .int
  | 1 => .object "DurableLoom$Run"
  | 2 => .int
  | 3 => .int
  | 4 => .int
  | _ => .boolean
abbrev wsX90 : List Cond := u_ws RX9 TX9 6
theorem nmX9 : ∀ a, a < 6 → ∀ b, b < 6 → a ≠ b → (TX9 a).2.1 ≠ (TX9 b).2.1 := by decide +kernel
theorem tyX9_ok : ∀ k, k < 6 → parseFieldDescriptor (TX9 k).2.2.1 = some (tyX9 k) := by decide +kernel
abbrev cX9_init : ByteArray := prog_11_method_1_code
def yX9_init : MethodName := ⟨RX9, "<init>", "(ILDurableLoom$Run;I)V"⟩
def RX10 : String := "DurableLoom$Type"
def TX10 : u_T := fun k => match k with
  | 0 => ("DurableLoom$Type", "versions", "Ljava/util/ArrayList;", true)
  | 1 => ("DurableLoom$Type", "draft", "LDurableLoom$Row;", false)
  | _ => ("DurableLoom$Type", "policy", "I", false)
def tyX10 : Nat → FieldType := fun k => match k with
  | 0 => .object "java/util/ArrayList"
  | 1 => .object "DurableLoom$Row"
  | _ => .int
abbrev wsX100 : List Cond := u_ws RX10 TX10 3
theorem nmX10 : ∀ a, a < 3 → ∀ b, b < 3 → a ≠ b → (TX10 a).2.1 ≠ (TX10 b).2.1 := by decide +kernel
theorem tyX10_ok : ∀ k, k < 3 → parseFieldDescriptor (TX10 k).2.2.1 = some (tyX10 k) := by decide +kernel
abbrev cX10_init : ByteArray := prog_12_method_1_code
def yX10_init : MethodName := ⟨RX10, "<init>", "()V"⟩
abbrev cX10_packed : ByteArray := prog_12_method_2_code
def yX10_packed : MethodName := ⟨RX10, "packed", "(III)I"⟩
abbrev cX10_code : ByteArray := prog_12_method_3_code
def yX10_code : MethodName := ⟨RX10, "code", "(I)LDurableLoom$Row;"⟩
abbrev cX10_draftBecomesVersion : ByteArray := prog_12_method_4_code
def yX10_draftBecomesVersion : MethodName := ⟨RX10, "draftBecomesVersion", "()V"⟩
def RX11 : String := "DurableLoom"
def TX11 : u_T := fun k => match k with
  | 0 => ("DurableLoom", "types", "[LDurableLoom$Type;", true)
  | 1 => ("DurableLoom", "kinds", "[LDurableLoom$Kind;", true)
  | 2 => ("DurableLoom", "allRuns", "Ljava/util/ArrayList;", true)
  | 3 => ("DurableLoom", "allActivities", "Ljava/util/ArrayList;", true)
  | 4 => ("DurableLoom", "allTasks", "Ljava/util/ArrayList;", true)
  | 5 => ("DurableLoom", "allSchedules", "Ljava/util/ArrayList;", true)
  | 6 => ("DurableLoom", "replayed", "[I", true)
  | 7 => ("DurableLoom", "given", "[I", true)
  | 8 => ("DurableLoom", "givenNow", "[I", true)
  | 9 => ("DurableLoom", "tagQueue", "LDurableLoom$Row;", true)
  | 10 => ("DurableLoom", "machine", "LDurableLoom$Machine;", true)
  | 11 => ("DurableLoom", "tagsPut", "I", false)
  | 12 => ("DurableLoom", "tagsKnown", "I", false)
  | 13 => ("DurableLoom", "rate", "I", false)
  | 14 => ("DurableLoom", "time", "I", false)
  | 15 => ("DurableLoom", "offset", "I", false)
  | 16 => ("DurableLoom", "arrivalsSoFar", "I", false)
  | _ => ("DurableLoom", "joined", "Z", false)
def tyX11 : Nat → FieldType := fun k => match k with
  | 0 => .array (.object "DurableLoom$Type")
  | 1 => .array (.object "DurableLoom$Kind")
  | 2 => .object "java/util/ArrayList"
  | 3 => .object "java/util/ArrayList"
  | 4 => .object "java/util/ArrayList"
  | 5 => .object "java/util/ArrayList"
  | 6 => .array .int
  | 7 => .array .int
  | 8 => .array .int
  | 9 => .object "DurableLoom$Row"
  | 10 => .object "DurableLoom$Machine"
  | 11 => .int
  | 12 => .int
  | 13 => .int
  | 14 => .int
  | 15 => .int
  | 16 => .int
  | _ => .boolean
abbrev wsX110 : List Cond := u_ws RX11 TX11 18
theorem nmX11 : ∀ a, a < 18 → ∀ b, b < 18 → a ≠ b → (TX11 a).2.1 ≠ (TX11 b).2.1 := by decide +kernel
theorem tyX11_ok : ∀ k, k < 18 → parseFieldDescriptor (TX11 k).2.2.1 = some (tyX11 k) := by decide +kernel
abbrev cX11_init : ByteArray := prog_1_method_1_code
def yX11_init : MethodName := ⟨RX11, "<init>", "()V"⟩
abbrev cX11_line : ByteArray := prog_1_method_2_code
def yX11_line : MethodName := ⟨RX11, "line", "(IIII)I"⟩
abbrev cX11_deploy : ByteArray := prog_1_method_3_code
def yX11_deploy : MethodName := ⟨RX11, "deploy", "(I)I"⟩
abbrev cX11_setKind : ByteArray := prog_1_method_4_code
def yX11_setKind : MethodName := ⟨RX11, "setKind", "(IIIIII)V"⟩
abbrev cX11_setPolicy : ByteArray := prog_1_method_5_code
def yX11_setPolicy : MethodName := ⟨RX11, "setPolicy", "(II)I"⟩
abbrev cX11_begin : ByteArray := prog_1_method_6_code
def yX11_begin : MethodName := ⟨RX11, "begin", "(III)I"⟩
abbrev cX11_signal : ByteArray := prog_1_method_7_code
def yX11_signal : MethodName := ⟨RX11, "signal", "(III)I"⟩
abbrev cX11_update : ByteArray := prog_1_method_8_code
def yX11_update : MethodName := ⟨RX11, "update", "(III)Z"⟩
abbrev cX11_cancel : ByteArray := prog_1_method_9_code
def yX11_cancel : MethodName := ⟨RX11, "cancel", "(I)Z"⟩
abbrev cX11_query : ByteArray := prog_1_method_10_code
def yX11_query : MethodName := ⟨RX11, "query", "(II)I"⟩
abbrev cX11_plain : ByteArray := prog_1_method_11_code
def yX11_plain : MethodName := ⟨RX11, "plain", "(II)I"⟩
abbrev cX11_standing : ByteArray := prog_1_method_12_code
def yX11_standing : MethodName := ⟨RX11, "standing", "(I)I"⟩
abbrev cX11_event : ByteArray := prog_1_method_13_code
def yX11_event : MethodName := ⟨RX11, "event", "(II)I"⟩
abbrev cX11_difference : ByteArray := prog_1_method_14_code
def yX11_difference : MethodName := ⟨RX11, "difference", "(I)I"⟩
abbrev cX11_runs : ByteArray := prog_1_method_15_code
def yX11_runs : MethodName := ⟨RX11, "runs", "()I"⟩
abbrev cX11_setRate : ByteArray := prog_1_method_16_code
def yX11_setRate : MethodName := ⟨RX11, "setRate", "(I)I"⟩
abbrev cX11_poll : ByteArray := prog_1_method_17_code
def yX11_poll : MethodName := ⟨RX11, "poll", "(I)I"⟩
abbrev cX11_complete : ByteArray := prog_1_method_18_code
def yX11_complete : MethodName := ⟨RX11, "complete", "(I)I"⟩
abbrev cX11_die : ByteArray := prog_1_method_19_code
def yX11_die : MethodName := ⟨RX11, "die", "(I)I"⟩
abbrev cX11_replays : ByteArray := prog_1_method_20_code
def yX11_replays : MethodName := ⟨RX11, "replays", "(I)I"⟩
abbrev cX11_take : ByteArray := prog_1_method_21_code
def yX11_take : MethodName := ⟨RX11, "take", "(I)I"⟩
abbrev cX11_answer : ByteArray := prog_1_method_22_code
def yX11_answer : MethodName := ⟨RX11, "answer", "(II)Z"⟩
abbrev cX11_fail : ByteArray := prog_1_method_23_code
def yX11_fail : MethodName := ⟨RX11, "fail", "(IZ)Z"⟩
abbrev cX11_beat : ByteArray := prog_1_method_24_code
def yX11_beat : MethodName := ⟨RX11, "beat", "(II)I"⟩
abbrev cX11_activity : ByteArray := prog_1_method_25_code
def yX11_activity : MethodName := ⟨RX11, "activity", "(I)I"⟩
abbrev cX11_pass : ByteArray := prog_1_method_26_code
def yX11_pass : MethodName := ⟨RX11, "pass", "(I)I"⟩
abbrev cX11_unsafe : ByteArray := prog_1_method_27_code
def yX11_unsafe : MethodName := ⟨RX11, "\x75nsafe", "(II)I"⟩
abbrev cX11_move : ByteArray := prog_1_method_28_code
def yX11_move : MethodName := ⟨RX11, "move", "(II)Z"⟩
abbrev cX11_setBack : ByteArray := prog_1_method_29_code
def yX11_setBack : MethodName := ⟨RX11, "setBack", "(II)I"⟩
abbrev cX11_copy : ByteArray := prog_1_method_30_code
def yX11_copy : MethodName := ⟨RX11, "copy", "(II)I"⟩
abbrev cX11_takeOver : ByteArray := prog_1_method_31_code
def yX11_takeOver : MethodName := ⟨RX11, "takeOver", "()I"⟩
abbrev cX11_join : ByteArray := prog_1_method_32_code
def yX11_join : MethodName := ⟨RX11, "join", "()I"⟩
abbrev cX11_schedule : ByteArray := prog_1_method_33_code
def yX11_schedule : MethodName := ⟨RX11, "schedule", "(IIII)I"⟩
abbrev cX11_togglePause : ByteArray := prog_1_method_34_code
def yX11_togglePause : MethodName := ⟨RX11, "togglePause", "(I)Z"⟩
abbrev cX11_backfill : ByteArray := prog_1_method_35_code
def yX11_backfill : MethodName := ⟨RX11, "backfill", "(II)I"⟩
abbrev cX11_shift : ByteArray := prog_1_method_36_code
def yX11_shift : MethodName := ⟨RX11, "shift", "(I)I"⟩
abbrev cX11_bringIn : ByteArray := prog_1_method_37_code
def yX11_bringIn : MethodName := ⟨RX11, "bringIn", "(I)I"⟩
abbrev cX11_search : ByteArray := prog_1_method_38_code
def yX11_search : MethodName := ⟨RX11, "search", "(I)I"⟩
abbrev cX11_typeAt : ByteArray := prog_1_method_39_code
def yX11_typeAt : MethodName := ⟨RX11, "typeAt", "(I)LDurableLoom$Type;"⟩
abbrev cX11_kindAt : ByteArray := prog_1_method_40_code
def yX11_kindAt : MethodName := ⟨RX11, "kindAt", "(I)LDurableLoom$Kind;"⟩
abbrev cX11_runAt : ByteArray := prog_1_method_41_code
def yX11_runAt : MethodName := ⟨RX11, "runAt", "(I)LDurableLoom$Run;"⟩
abbrev cX11_activityAt : ByteArray := prog_1_method_42_code
def yX11_activityAt : MethodName := ⟨RX11, "activityAt", "(I)LDurableLoom$Activity;"⟩
abbrev cX11_scheduleAt : ByteArray := prog_1_method_43_code
def yX11_scheduleAt : MethodName := ⟨RX11, "scheduleAt", "(I)LDurableLoom$Schedule;"⟩
abbrev cX11_checkVersion : ByteArray := prog_1_method_44_code
def yX11_checkVersion : MethodName := ⟨RX11, "checkVersion", "(LDurableLoom$Type;I)V"⟩
abbrev cX11_checkTenant : ByteArray := prog_1_method_45_code
def yX11_checkTenant : MethodName := ⟨RX11, "checkTenant", "(I)V"⟩
abbrev cX11_checkWorker : ByteArray := prog_1_method_46_code
def yX11_checkWorker : MethodName := ⟨RX11, "checkWorker", "(I)V"⟩
abbrev cX11_checkName : ByteArray := prog_1_method_47_code
def yX11_checkName : MethodName := ⟨RX11, "checkName", "(I)V"⟩
abbrev cX11_checkVariable : ByteArray := prog_1_method_48_code
def yX11_checkVariable : MethodName := ⟨RX11, "checkVariable", "(I)V"⟩
abbrev cX11_checkValue : ByteArray := prog_1_method_49_code
def yX11_checkValue : MethodName := ⟨RX11, "checkValue", "(I)V"⟩
abbrev cX11_typeOf : ByteArray := prog_1_method_50_code
def yX11_typeOf : MethodName := ⟨RX11, "typeOf", "(LDurableLoom$Run;)LDurableLoom$Type;"⟩
abbrev cX11_codeOf : ByteArray := prog_1_method_51_code
def yX11_codeOf : MethodName := ⟨RX11, "codeOf", "(LDurableLoom$Run;I)LDurableLoom$Row;"⟩
abbrev cX11_addRun : ByteArray := prog_1_method_52_code
def yX11_addRun : MethodName := ⟨RX11, "addRun", "(IIIII)LDurableLoom$Run;"⟩
abbrev cX11_startRun : ByteArray := prog_1_method_53_code
def yX11_startRun : MethodName := ⟨RX11, "startRun", "(IIIII)LDurableLoom$Run;"⟩
abbrev cX11_arrive : ByteArray := prog_1_method_54_code
def yX11_arrive : MethodName := ⟨RX11, "arrive", "(LDurableLoom$Run;III)V"⟩
abbrev cX11_cancelRun : ByteArray := prog_1_method_55_code
def yX11_cancelRun : MethodName := ⟨RX11, "cancelRun", "(LDurableLoom$Run;)Z"⟩
abbrev cX11_closeRun : ByteArray := prog_1_method_56_code
def yX11_closeRun : MethodName := ⟨RX11, "closeRun", "(LDurableLoom$Run;III)V"⟩
abbrev cX11_parentOf : ByteArray := prog_1_method_57_code
def yX11_parentOf : MethodName := ⟨RX11, "parentOf", "(LDurableLoom$Run;)LDurableLoom$Run;"⟩
abbrev cX11_dealWithChildren : ByteArray := prog_1_method_58_code
def yX11_dealWithChildren : MethodName := ⟨RX11, "dealWithChildren", "(LDurableLoom$Run;I)V"⟩
abbrev cX11_endWork : ByteArray := prog_1_method_59_code
def yX11_endWork : MethodName := ⟨RX11, "endWork", "(LDurableLoom$Run;)V"⟩
abbrev cX11_partFromChildren : ByteArray := prog_1_method_60_code
def yX11_partFromChildren : MethodName := ⟨RX11, "partFromChildren", "(II)V"⟩
abbrev cX11_firstRunWithWork : ByteArray := prog_1_method_61_code
def yX11_firstRunWithWork : MethodName := ⟨RX11, "firstRunWithWork", "(I)LDurableLoom$Run;"⟩
abbrev cX11_isHeld : ByteArray := prog_1_method_62_code
def yX11_isHeld : MethodName := ⟨RX11, "isHeld", "(LDurableLoom$Run;)Z"⟩
abbrev cX11_givenTo : ByteArray := prog_1_method_63_code
def yX11_givenTo : MethodName := ⟨RX11, "givenTo", "(I)I"⟩
abbrev cX11_countGiven : ByteArray := prog_1_method_64_code
def yX11_countGiven : MethodName := ⟨RX11, "countGiven", "(I)V"⟩
abbrev cX11_isStale : ByteArray := prog_1_method_65_code
def yX11_isStale : MethodName := ⟨RX11, "isStale", "(LDurableLoom$Task;)Z"⟩
abbrev cX11_countReplay : ByteArray := prog_1_method_66_code
def yX11_countReplay : MethodName := ⟨RX11, "countReplay", "(I)V"⟩
abbrev cX11_putNews : ByteArray := prog_1_method_67_code
def yX11_putNews : MethodName := ⟨RX11, "putNews", "(LDurableLoom$Run;LDurableLoom$Task;Z)I"⟩
abbrev cX11_carryOut : ByteArray := prog_1_method_68_code
def yX11_carryOut : MethodName := ⟨RX11, "carryOut", "(LDurableLoom$Run;I)V"⟩
abbrev cX11_queueTag : ByteArray := prog_1_method_69_code
def yX11_queueTag : MethodName := ⟨RX11, "queueTag", "(LDurableLoom$Run;I)V"⟩
abbrev cX11_makeActivity : ByteArray := prog_1_method_70_code
def yX11_makeActivity : MethodName := ⟨RX11, "makeActivity", "(LDurableLoom$Run;III)V"⟩
abbrev cX11_beginChild : ByteArray := prog_1_method_71_code
def yX11_beginChild : MethodName := ⟨RX11, "beginChild", "(LDurableLoom$Run;III)V"⟩
abbrev cX11_dropEvent : ByteArray := prog_1_method_72_code
def yX11_dropEvent : MethodName := ⟨RX11, "dropEvent", "(LDurableLoom$Run;I)V"⟩
abbrev cX11_goOnAsNew : ByteArray := prog_1_method_73_code
def yX11_goOnAsNew : MethodName := ⟨RX11, "goOnAsNew", "(LDurableLoom$Run;I)V"⟩
abbrev cX11_sendSignals : ByteArray := prog_1_method_74_code
def yX11_sendSignals : MethodName := ⟨RX11, "sendSignals", "(LDurableLoom$Run;LDurableLoom$History;I)V"⟩
abbrev cX11_loseEvents : ByteArray := prog_1_method_75_code
def yX11_loseEvents : MethodName := ⟨RX11, "loseEvents", "(LDurableLoom$Run;)I"⟩
abbrev cX11_restoreWork : ByteArray := prog_1_method_76_code
def yX11_restoreWork : MethodName := ⟨RX11, "restoreWork", "(LDurableLoom$Run;)V"⟩
abbrev cX11_beginTick : ByteArray := prog_1_method_77_code
def yX11_beginTick : MethodName := ⟨RX11, "beginTick", "()V"⟩
abbrev cX11_fireTimers : ByteArray := prog_1_method_78_code
def yX11_fireTimers : MethodName := ⟨RX11, "fireTimers", "(LDurableLoom$Run;)V"⟩
abbrev cX11_lookAtActivity : ByteArray := prog_1_method_79_code
def yX11_lookAtActivity : MethodName := ⟨RX11, "lookAtActivity", "(LDurableLoom$Activity;)V"⟩
abbrev cX11_isReached : ByteArray := prog_1_method_80_code
def yX11_isReached : MethodName := ⟨RX11, "isReached", "(II)Z"⟩
abbrev cX11_failAttempt : ByteArray := prog_1_method_81_code
def yX11_failAttempt : MethodName := ⟨RX11, "failAttempt", "(LDurableLoom$Activity;Z)V"⟩
abbrev cX11_lookAtSchedule : ByteArray := prog_1_method_82_code
def yX11_lookAtSchedule : MethodName := ⟨RX11, "lookAtSchedule", "(LDurableLoom$Schedule;)V"⟩
abbrev cX11_meetPoint : ByteArray := prog_1_method_83_code
def yX11_meetPoint : MethodName := ⟨RX11, "meetPoint", "(LDurableLoom$Schedule;I)V"⟩
abbrev cX11_lastIsOpen : ByteArray := prog_1_method_84_code
def yX11_lastIsOpen : MethodName := ⟨RX11, "lastIsOpen", "(LDurableLoom$Schedule;)Z"⟩
abbrev cX11_startFor : ByteArray := prog_1_method_85_code
def yX11_startFor : MethodName := ⟨RX11, "startFor", "(LDurableLoom$Schedule;I)V"⟩
def RX12 : String := "DurableLoomModel"
def TX12 : u_T := fun k => match k with
  | 0 => ("DurableLoomModel", "time", "I", false)
  | 1 => ("DurableLoomModel", "versions", "[I", true)
  | 2 => ("DurableLoomModel", "size", "[I", true)
  | 3 => ("DurableLoomModel", "command", "[I", true)
  | 4 => ("DurableLoomModel", "numberA", "[I", true)
  | 5 => ("DurableLoomModel", "numberB", "[I", true)
  | 6 => ("DurableLoomModel", "attempts", "[I", true)
  | 7 => ("DurableLoomModel", "pause", "[I", true)
  | 8 => ("DurableLoomModel", "toBegin", "[I", true)
  | 9 => ("DurableLoomModel", "toEnd", "[I", true)
  | 10 => ("DurableLoomModel", "beats", "[I", true)
  | 11 => ("DurableLoomModel", "policy", "[I", true)
  | 12 => ("DurableLoomModel", "runs", "I", false)
  | 13 => ("DurableLoomModel", "type", "[I", true)
  | 14 => ("DurableLoomModel", "tenant", "[I", true)
  | 15 => ("DurableLoomModel", "version", "[I", true)
  | 16 => ("DurableLoomModel", "status", "[I", true)
  | 17 => ("DurableLoomModel", "parent", "[I", true)
  | 18 => ("DurableLoomModel", "parentEvent", "[I", true)
  | 19 => ("DurableLoomModel", "events", "[I", true)
  | 20 => ("DurableLoomModel", "sharedFrom", "[I", true)
  | 21 => ("DurableLoomModel", "sharedTo", "[I", true)
  | 22 => ("DurableLoomModel", "arrived", "[I", true)
  | 23 => ("DurableLoomModel", "tasked", "[I", true)
  | 24 => ("DurableLoomModel", "countedBy", "[I", true)
  | 25 => ("DurableLoomModel", "copied", "[I", true)
  | 26 => ("DurableLoomModel", "cuts", "[I", true)
  | 27 => ("DurableLoomModel", "difference", "[I", true)
  | 28 => ("DurableLoomModel", "happened", "[J", true)
  | 29 => ("DurableLoomModel", "orders", "I", false)
  | 30 => ("DurableLoomModel", "orderRun", "I", false)
  | 31 => ("DurableLoomModel", "piece", "[I", true)
  | 32 => ("DurableLoomModel", "pieces", "I", false)
  | 33 => ("DurableLoomModel", "backs", "[I", true)
  | 34 => ("DurableLoomModel", "activities", "I", false)
  | 35 => ("DurableLoomModel", "ofRun", "[I", true)
  | 36 => ("DurableLoomModel", "ofEvent", "[I", true)
  | 37 => ("DurableLoomModel", "ofKind", "[I", true)
  | 38 => ("DurableLoomModel", "input", "[I", true)
  | 39 => ("DurableLoomModel", "state", "[I", true)
  | 40 => ("DurableLoomModel", "tried", "[I", true)
  | 41 => ("DurableLoomModel", "began", "[I", true)
  | 42 => ("DurableLoomModel", "due", "[I", true)
  | 43 => ("DurableLoomModel", "taken", "[I", true)
  | 44 => ("DurableLoomModel", "beaten", "[I", true)
  | 45 => ("DurableLoomModel", "progress", "[I", true)
  | 46 => ("DurableLoomModel", "timers", "I", false)
  | 47 => ("DurableLoomModel", "timerRun", "[I", true)
  | 48 => ("DurableLoomModel", "timerEvent", "[I", true)
  | 49 => ("DurableLoomModel", "timerDue", "[I", true)
  | 50 => ("DurableLoomModel", "rate", "I", false)
  | 51 => ("DurableLoomModel", "tasks", "I", false)
  | 52 => ("DurableLoomModel", "taskWorker", "[I", true)
  | 53 => ("DurableLoomModel", "taskRun", "[I", true)
  | 54 => ("DurableLoomModel", "taskKnows", "[I", true)
  | 55 => ("DurableLoomModel", "taskGiven", "[I", true)
  | 56 => ("DurableLoomModel", "taskHas", "[I", true)
  | 57 => ("DurableLoomModel", "taskVersion", "[I", true)
  | 58 => ("DurableLoomModel", "taskCuts", "[I", true)
  | 59 => ("DurableLoomModel", "isOver", "[Z", true)
  | 60 => ("DurableLoomModel", "givenNow", "[I", true)
  | 61 => ("DurableLoomModel", "givenAll", "[I", true)
  | 62 => ("DurableLoomModel", "replays", "[I", true)
  | 63 => ("DurableLoomModel", "keepsTasks", "[I", true)
  | 64 => ("DurableLoomModel", "keepsVersion", "[I", true)
  | 65 => ("DurableLoomModel", "keepsCuts", "[I", true)
  | 66 => ("DurableLoomModel", "keepsEvents", "[I", true)
  | 67 => ("DurableLoomModel", "keepsCounted", "[I", true)
  | 68 => ("DurableLoomModel", "offset", "I", false)
  | 69 => ("DurableLoomModel", "schedules", "I", false)
  | 70 => ("DurableLoomModel", "scheduleType", "[I", true)
  | 71 => ("DurableLoomModel", "scheduleTenant", "[I", true)
  | 72 => ("DurableLoomModel", "period", "[I", true)
  | 73 => ("DurableLoomModel", "overlap", "[I", true)
  | 74 => ("DurableLoomModel", "looked", "[I", true)
  | 75 => ("DurableLoomModel", "isPaused", "[Z", true)
  | 76 => ("DurableLoomModel", "latest", "[I", true)
  | 77 => ("DurableLoomModel", "isAwaited", "[Z", true)
  | 78 => ("DurableLoomModel", "awaited", "[I", true)
  | 79 => ("DurableLoomModel", "tagsFrom", "I", false)
  | 80 => ("DurableLoomModel", "tagsTo", "I", false)
  | 81 => ("DurableLoomModel", "tags", "[I", true)
  | 82 => ("DurableLoomModel", "known", "[I", true)
  | 83 => ("DurableLoomModel", "isTakenOver", "Z", false)
  | 84 => ("DurableLoomModel", "lost", "I", false)
  | 85 => ("DurableLoomModel", "lostRun", "[I", true)
  | 86 => ("DurableLoomModel", "lostName", "[I", true)
  | 87 => ("DurableLoomModel", "lostValue", "[I", true)
  | 88 => ("DurableLoomModel", "told", "I", false)
  | 89 => ("DurableLoomModel", "toldVersion", "I", false)
  | 90 => ("DurableLoomModel", "variable", "[I", true)
  | 91 => ("DurableLoomModel", "branches", "I", false)
  | 92 => ("DurableLoomModel", "begun", "I", false)
  | 93 => ("DurableLoomModel", "number", "[I", true)
  | 94 => ("DurableLoomModel", "line", "[I", true)
  | 95 => ("DurableLoomModel", "waits", "[I", true)
  | 96 => ("DurableLoomModel", "waitsFor", "[I", true)
  | 97 => ("DurableLoomModel", "into", "[I", true)
  | 98 => ("DurableLoomModel", "handler", "[I", true)
  | 99 => ("DurableLoomModel", "rival", "[I", true)
  | 100 => ("DurableLoomModel", "shields", "[I", true)
  | 101 => ("DurableLoomModel", "isTold", "[Z", true)
  | 102 => ("DurableLoomModel", "above", "[I", true)
  | 103 => ("DurableLoomModel", "handlers", "I", false)
  | 104 => ("DurableLoomModel", "handlerRow", "[I", true)
  | 105 => ("DurableLoomModel", "undos", "I", false)
  | 106 => ("DurableLoomModel", "undoRow", "[I", true)
  | 107 => ("DurableLoomModel", "queued", "[I", true)
  | 108 => ("DurableLoomModel", "queueFrom", "[I", true)
  | 109 => ("DurableLoomModel", "queue", "[I", true)
  | 110 => ("DurableLoomModel", "patches", "I", false)
  | 111 => ("DurableLoomModel", "wasCancelled", "Z", false)
  | 112 => ("DurableLoomModel", "over", "I", false)
  | 113 => ("DurableLoomModel", "steps", "I", false)
  | 114 => ("DurableLoomModel", "isStuck", "Z", false)
  | 115 => ("DurableLoomModel", "wrong", "I", false)
  | 116 => ("DurableLoomModel", "met", "I", false)
  | 117 => ("DurableLoomModel", "arrival", "I", false)
  | 118 => ("DurableLoomModel", "arrivalTime", "I", false)
  | 119 => ("DurableLoomModel", "counted", "I", false)
  | 120 => ("DurableLoomModel", "fresh", "I", false)
  | 121 => ("DurableLoomModel", "freshKind", "[I", true)
  | 122 => ("DurableLoomModel", "freshX", "[I", true)
  | 123 => ("DurableLoomModel", "takenArrivals", "I", false)
  | 124 => ("DurableLoomModel", "seen", "I", false)
  | 125 => ("DurableLoomModel", "later", "I", false)
  | 126 => ("DurableLoomModel", "nextTask", "I", false)
  | 127 => ("DurableLoomModel", "closing", "[I", true)
  | 128 => ("DurableLoomModel", "closingNext", "[I", true)
  | _ => ("DurableLoomModel", "thrown", "I", false)
def tyX12 : Nat → FieldType := fun k => match k with
  | 0 => .int
  | 1 => .array .int
  | 2 => .array .int
  | 3 => .array .int
  | 4 => .array .int
  | 5 => .array .int
  | 6 => .array .int
  | 7 => .array .int
  | 8 => .array .int
  | 9 => .array .int
  | 10 => .array .int
  | 11 => .array .int
  | 12 => .int
  | 13 => .array .int
  | 14 => .array .int
  | 15 => .array .int
  | 16 => .array .int
  | 17 => .array .int
  | 18 => .array .int
  | 19 => .array .int
  | 20 => .array .int
  | 21 => .array .int
  | 22 => .array .int
  | 23 => .array .int
  | 24 => .array .int
  | 25 => .array .int
  | 26 => .array .int
  | 27 => .array .int
  | 28 => .array .long
  | 29 => .int
  | 30 => .int
  | 31 => .array .int
  | 32 => .int
  | 33 => .array .int
  | 34 => .int
  | 35 => .array .int
  | 36 => .array .int
  | 37 => .array .int
  | 38 => .array .int
  | 39 => .array .int
  | 40 => .array .int
  | 41 => .array .int
  | 42 => .array .int
  | 43 => .array .int
  | 44 => .array .int
  | 45 => .array .int
  | 46 => .int
  | 47 => .array .int
  | 48 => .array .int
  | 49 => .array .int
  | 50 => .int
  | 51 => .int
  | 52 => .array .int
  | 53 => .array .int
  | 54 => .array .int
  | 55 => .array .int
  | 56 => .array .int
  | 57 => .array .int
  | 58 => .array .int
  | 59 => .array .boolean
  | 60 => .array .int
  | 61 => .array .int
  | 62 => .array .int
  | 63 => .array .int
  | 64 => .array .int
  | 65 => .array .int
  | 66 => .array .int
  | 67 => .array .int
  | 68 => .int
  | 69 => .int
  | 70 => .array .int
  | 71 => .array .int
  | 72 => .array .int
  | 73 => .array .int
  | 74 => .array .int
  | 75 => .array .boolean
  | 76 => .array .int
  | 77 => .array .boolean
  | 78 => .array .int
  | 79 => .int
  | 80 => .int
  | 81 => .array .int
  | 82 => .array .int
  | 83 => .boolean
  | 84 => .int
  | 85 => .array .int
  | 86 => .array .int
  | 87 => .array .int
  | 88 => .int
  | 89 => .int
  | 90 => .array .int
  | 91 => .int
  | 92 => .int
  | 93 => .array .int
  | 94 => .array .int
  | 95 => .array .int
  | 96 => .array .int
  | 97 => .array .int
  | 98 => .array .int
  | 99 => .array .int
  | 100 => .array .int
  | 101 => .array .boolean
  | 102 => .array .int
  | 103 => .int
  | 104 => .array .int
  | 105 => .int
  | 106 => .array .int
  | 107 => .array .int
  | 108 => .array .int
  | 109 => .array .int
  | 110 => .int
  | 111 => .boolean
  | 112 => .int
  | 113 => .int
  | 114 => .boolean
  | 115 => .int
  | 116 => .int
  | 117 => .int
  | 118 => .int
  | 119 => .int
  | 120 => .int
  | 121 => .array .int
  | 122 => .array .int
  | 123 => .int
  | 124 => .int
  | 125 => .int
  | 126 => .int
  | 127 => .array .int
  | 128 => .array .int
  | _ => .int
abbrev wsX120 : List Cond := u_ws RX12 TX12 130
theorem nmX12 : ∀ a, a < 130 → ∀ b, b < 130 → a ≠ b → (TX12 a).2.1 ≠ (TX12 b).2.1 := by decide +kernel
theorem tyX12_ok : ∀ k, k < 130 → parseFieldDescriptor (TX12 k).2.2.1 = some (tyX12 k) := by decide +kernel
abbrev cX12_init : ByteArray := prog_14_method_1_code
def yX12_init : MethodName := ⟨RX12, "<init>", "()V"⟩
abbrev cX12_thrown : ByteArray := prog_14_method_2_code
def yX12_thrown : MethodName := ⟨RX12, "thrown", "()I"⟩
abbrev cX12_fails : ByteArray := prog_14_method_3_code
def yX12_fails : MethodName := ⟨RX12, "fails", "(I)Z"⟩
abbrev cX12_tells : ByteArray := prog_14_method_4_code
def yX12_tells : MethodName := ⟨RX12, "tells", "(I)I"⟩
abbrev cX12_isIn : ByteArray := prog_14_method_5_code
def yX12_isIn : MethodName := ⟨RX12, "isIn", "(III)Z"⟩
abbrev cX12_least : ByteArray := prog_14_method_6_code
def yX12_least : MethodName := ⟨RX12, "least", "(II)I"⟩
abbrev cX12_most : ByteArray := prog_14_method_7_code
def yX12_most : MethodName := ⟨RX12, "most", "(II)I"⟩
abbrev cX12_isType : ByteArray := prog_14_method_8_code
def yX12_isType : MethodName := ⟨RX12, "isType", "(I)Z"⟩
abbrev cX12_isTenant : ByteArray := prog_14_method_9_code
def yX12_isTenant : MethodName := ⟨RX12, "isTenant", "(I)Z"⟩
abbrev cX12_isRun : ByteArray := prog_14_method_10_code
def yX12_isRun : MethodName := ⟨RX12, "isRun", "(I)Z"⟩
abbrev cX12_isValue : ByteArray := prog_14_method_11_code
def yX12_isValue : MethodName := ⟨RX12, "isValue", "(I)Z"⟩
abbrev cX12_ofThousand : ByteArray := prog_14_method_12_code
def yX12_ofThousand : MethodName := ⟨RX12, "ofThousand", "(I)I"⟩
abbrev cX12_code : ByteArray := prog_14_method_13_code
def yX12_code : MethodName := ⟨RX12, "code", "(II)I"⟩
abbrev cX12_mostA : ByteArray := prog_14_method_14_code
def yX12_mostA : MethodName := ⟨RX12, "mostA", "(I)I"⟩
abbrev cX12_mostB : ByteArray := prog_14_method_15_code
def yX12_mostB : MethodName := ⟨RX12, "mostB", "(I)I"⟩
abbrev cX12_line : ByteArray := prog_14_method_16_code
def yX12_line : MethodName := ⟨RX12, "line", "(IIII)I"⟩
abbrev cX12_deploy : ByteArray := prog_14_method_17_code
def yX12_deploy : MethodName := ⟨RX12, "deploy", "(I)I"⟩
abbrev cX12_setKind : ByteArray := prog_14_method_18_code
def yX12_setKind : MethodName := ⟨RX12, "setKind", "(IIIIII)V"⟩
abbrev cX12_setPolicy : ByteArray := prog_14_method_19_code
def yX12_setPolicy : MethodName := ⟨RX12, "setPolicy", "(II)I"⟩
abbrev cX12_at : ByteArray := prog_14_method_20_code
def yX12_at : MethodName := ⟨RX12, "at", "(II)I"⟩
abbrev cX12_kindAt : ByteArray := prog_14_method_21_code
def yX12_kindAt : MethodName := ⟨RX12, "kindAt", "(II)I"⟩
abbrev cX12_yAt : ByteArray := prog_14_method_22_code
def yX12_yAt : MethodName := ⟨RX12, "yAt", "(II)I"⟩
abbrev cX12_xAt : ByteArray := prog_14_method_23_code
def yX12_xAt : MethodName := ⟨RX12, "xAt", "(II)I"⟩
abbrev cX12_whenAt : ByteArray := prog_14_method_24_code
def yX12_whenAt : MethodName := ⟨RX12, "whenAt", "(II)I"⟩
abbrev cX12_counts : ByteArray := prog_14_method_25_code
def yX12_counts : MethodName := ⟨RX12, "counts", "(III)V"⟩
abbrev cX12_recounts : ByteArray := prog_14_method_26_code
def yX12_recounts : MethodName := ⟨RX12, "recounts", "(I)V"⟩
abbrev cX12_puts : ByteArray := prog_14_method_27_code
def yX12_puts : MethodName := ⟨RX12, "puts", "(IIII)I"⟩
abbrev cX12_hasCome : ByteArray := prog_14_method_28_code
def yX12_hasCome : MethodName := ⟨RX12, "hasCome", "(II)Z"⟩
abbrev cX12_makes : ByteArray := prog_14_method_29_code
def yX12_makes : MethodName := ⟨RX12, "makes", "(IIIIII)I"⟩
abbrev cX12_isAlive : ByteArray := prog_14_method_30_code
def yX12_isAlive : MethodName := ⟨RX12, "isAlive", "(I)Z"⟩
abbrev cX12_cancels : ByteArray := prog_14_method_31_code
def yX12_cancels : MethodName := ⟨RX12, "cancels", "(I)Z"⟩
abbrev cX12_slot : ByteArray := prog_14_method_32_code
def yX12_slot : MethodName := ⟨RX12, "slot", "(I)I"⟩
abbrev cX12_goes : ByteArray := prog_14_method_33_code
def yX12_goes : MethodName := ⟨RX12, "goes", "()Z"⟩
abbrev cX12_spins : ByteArray := prog_14_method_34_code
def yX12_spins : MethodName := ⟨RX12, "spins", "()V"⟩
abbrev cX12_differs : ByteArray := prog_14_method_35_code
def yX12_differs : MethodName := ⟨RX12, "differs", "(I)V"⟩
abbrev cX12_nextCommand : ByteArray := prog_14_method_36_code
def yX12_nextCommand : MethodName := ⟨RX12, "nextCommand", "()I"⟩
abbrev cX12_nextLater : ByteArray := prog_14_method_37_code
def yX12_nextLater : MethodName := ⟨RX12, "nextLater", "()I"⟩
abbrev cX12_commands : ByteArray := prog_14_method_38_code
def yX12_commands : MethodName := ⟨RX12, "commands", "(III)I"⟩
abbrev cX12_firstTask : ByteArray := prog_14_method_39_code
def yX12_firstTask : MethodName := ⟨RX12, "firstTask", "()I"⟩
abbrev cX12_begins : ByteArray := prog_14_method_40_code
def yX12_begins : MethodName := ⟨RX12, "begins", "(II)V"⟩
abbrev cX12_removes : ByteArray := prog_14_method_41_code
def yX12_removes : MethodName := ⟨RX12, "removes", "(I)V"⟩
abbrev cX12_endsRun : ByteArray := prog_14_method_42_code
def yX12_endsRun : MethodName := ⟨RX12, "endsRun", "(II)V"⟩
abbrev cX12_endsBranch : ByteArray := prog_14_method_43_code
def yX12_endsBranch : MethodName := ⟨RX12, "endsBranch", "(I)V"⟩
abbrev cX12_failsBranch : ByteArray := prog_14_method_44_code
def yX12_failsBranch : MethodName := ⟨RX12, "failsBranch", "(I)V"⟩
abbrev cX12_lets : ByteArray := prog_14_method_45_code
def yX12_lets : MethodName := ⟨RX12, "lets", "(I)V"⟩
abbrev cX12_cancelsBranch : ByteArray := prog_14_method_46_code
def yX12_cancelsBranch : MethodName := ⟨RX12, "cancelsBranch", "(I)V"⟩
abbrev cX12_isBelow : ByteArray := prog_14_method_47_code
def yX12_isBelow : MethodName := ⟨RX12, "isBelow", "(II)Z"⟩
abbrev cX12_dropsBranch : ByteArray := prog_14_method_48_code
def yX12_dropsBranch : MethodName := ⟨RX12, "dropsBranch", "(I)V"⟩
abbrev cX12_wins : ByteArray := prog_14_method_49_code
def yX12_wins : MethodName := ⟨RX12, "wins", "(I)V"⟩
abbrev cX12_races : ByteArray := prog_14_method_50_code
def yX12_races : MethodName := ⟨RX12, "races", "(II)V"⟩
abbrev cX12_hasChild : ByteArray := prog_14_method_51_code
def yX12_hasChild : MethodName := ⟨RX12, "hasChild", "(I)Z"⟩
abbrev cX12_awaits : ByteArray := prog_14_method_52_code
def yX12_awaits : MethodName := ⟨RX12, "awaits", "(IIII)V"⟩
abbrev cX12_undoes : ByteArray := prog_14_method_53_code
def yX12_undoes : MethodName := ⟨RX12, "undoes", "(I)V"⟩
abbrev cX12_patches : ByteArray := prog_14_method_54_code
def yX12_patches : MethodName := ⟨RX12, "patches", "(III)V"⟩
abbrev cX12_bares : ByteArray := prog_14_method_55_code
def yX12_bares : MethodName := ⟨RX12, "bares", "(I)V"⟩
abbrev cX12_does : ByteArray := prog_14_method_56_code
def yX12_does : MethodName := ⟨RX12, "does", "(I)V"⟩
abbrev cX12_doesMore : ByteArray := prog_14_method_57_code
def yX12_doesMore : MethodName := ⟨RX12, "doesMore", "(IIII)V"⟩
abbrev cX12_canGoOn : ByteArray := prog_14_method_58_code
def yX12_canGoOn : MethodName := ⟨RX12, "canGoOn", "(I)Z"⟩
abbrev cX12_goOn : ByteArray := prog_14_method_59_code
def yX12_goOn : MethodName := ⟨RX12, "goOn", "()V"⟩
abbrev cX12_walks : ByteArray := prog_14_method_60_code
def yX12_walks : MethodName := ⟨RX12, "walks", "(I)V"⟩
abbrev cX12_waiting : ByteArray := prog_14_method_61_code
def yX12_waiting : MethodName := ⟨RX12, "waiting", "(I)I"⟩
abbrev cX12_comesBack : ByteArray := prog_14_method_62_code
def yX12_comesBack : MethodName := ⟨RX12, "comesBack", "(III)V"⟩
abbrev cX12_isCancelled : ByteArray := prog_14_method_63_code
def yX12_isCancelled : MethodName := ⟨RX12, "isCancelled", "()V"⟩
abbrev cX12_takes : ByteArray := prog_14_method_64_code
def yX12_takes : MethodName := ⟨RX12, "takes", "(I)V"⟩
abbrev cX12_goesBy : ByteArray := prog_14_method_65_code
def yX12_goesBy : MethodName := ⟨RX12, "goesBy", "(I)V"⟩
abbrev cX12_tellsRun : ByteArray := prog_14_method_66_code
def yX12_tellsRun : MethodName := ⟨RX12, "tellsRun", "(IIIII)V"⟩
abbrev cX12_isSafe : ByteArray := prog_14_method_67_code
def yX12_isSafe : MethodName := ⟨RX12, "isSafe", "(II)Z"⟩
abbrev cX12_makesActivity : ByteArray := prog_14_method_68_code
def yX12_makesActivity : MethodName := ⟨RX12, "makesActivity", "(IIII)V"⟩
abbrev cX12_makesTimer : ByteArray := prog_14_method_69_code
def yX12_makesTimer : MethodName := ⟨RX12, "makesTimer", "(III)V"⟩
abbrev cX12_removesTimer : ByteArray := prog_14_method_70_code
def yX12_removesTimer : MethodName := ⟨RX12, "removesTimer", "(I)V"⟩
abbrev cX12_stops : ByteArray := prog_14_method_71_code
def yX12_stops : MethodName := ⟨RX12, "stops", "(I)V"⟩
abbrev cX12_drops : ByteArray := prog_14_method_72_code
def yX12_drops : MethodName := ⟨RX12, "drops", "(II)V"⟩
abbrev cX12_tellsParent : ByteArray := prog_14_method_73_code
def yX12_tellsParent : MethodName := ⟨RX12, "tellsParent", "(II)V"⟩
abbrev cX12_closes : ByteArray := prog_14_method_74_code
def yX12_closes : MethodName := ⟨RX12, "closes", "(IZI)V"⟩
abbrev cX12_begin : ByteArray := prog_14_method_75_code
def yX12_begin : MethodName := ⟨RX12, "begin", "(III)I"⟩
abbrev cX12_isName : ByteArray := prog_14_method_76_code
def yX12_isName : MethodName := ⟨RX12, "isName", "(I)Z"⟩
abbrev cX12_signal : ByteArray := prog_14_method_77_code
def yX12_signal : MethodName := ⟨RX12, "signal", "(III)I"⟩
abbrev cX12_isWanted : ByteArray := prog_14_method_78_code
def yX12_isWanted : MethodName := ⟨RX12, "isWanted", "(II)Z"⟩
abbrev cX12_update : ByteArray := prog_14_method_79_code
def yX12_update : MethodName := ⟨RX12, "update", "(III)Z"⟩
abbrev cX12_cancel : ByteArray := prog_14_method_80_code
def yX12_cancel : MethodName := ⟨RX12, "cancel", "(I)Z"⟩
abbrev cX12_asks : ByteArray := prog_14_method_81_code
def yX12_asks : MethodName := ⟨RX12, "asks", "(II)I"⟩
abbrev cX12_query : ByteArray := prog_14_method_82_code
def yX12_query : MethodName := ⟨RX12, "query", "(II)I"⟩
abbrev cX12_plain : ByteArray := prog_14_method_83_code
def yX12_plain : MethodName := ⟨RX12, "plain", "(II)I"⟩
abbrev cX12_standing : ByteArray := prog_14_method_84_code
def yX12_standing : MethodName := ⟨RX12, "standing", "(I)I"⟩
abbrev cX12_event : ByteArray := prog_14_method_85_code
def yX12_event : MethodName := ⟨RX12, "event", "(II)I"⟩
abbrev cX12_difference : ByteArray := prog_14_method_86_code
def yX12_difference : MethodName := ⟨RX12, "difference", "(I)I"⟩
abbrev cX12_runs : ByteArray := prog_14_method_87_code
def yX12_runs : MethodName := ⟨RX12, "runs", "()I"⟩
abbrev cX12_setRate : ByteArray := prog_14_method_88_code
def yX12_setRate : MethodName := ⟨RX12, "setRate", "(I)I"⟩
abbrev cX12_isHeld : ByteArray := prog_14_method_89_code
def yX12_isHeld : MethodName := ⟨RX12, "isHeld", "(I)Z"⟩
abbrev cX12_isReady : ByteArray := prog_14_method_90_code
def yX12_isReady : MethodName := ⟨RX12, "isReady", "(I)Z"⟩
abbrev cX12_firstOrder : ByteArray := prog_14_method_91_code
def yX12_firstOrder : MethodName := ⟨RX12, "firstOrder", "(I)I"⟩
abbrev cX12_isWorker : ByteArray := prog_14_method_92_code
def yX12_isWorker : MethodName := ⟨RX12, "isWorker", "(I)Z"⟩
abbrev cX12_poll : ByteArray := prog_14_method_93_code
def yX12_poll : MethodName := ⟨RX12, "poll", "(I)I"⟩
abbrev cX12_isStale : ByteArray := prog_14_method_94_code
def yX12_isStale : MethodName := ⟨RX12, "isStale", "(I)Z"⟩
abbrev cX12_hasState : ByteArray := prog_14_method_95_code
def yX12_hasState : MethodName := ⟨RX12, "hasState", "(II)Z"⟩
abbrev cX12_complete : ByteArray := prog_14_method_96_code
def yX12_complete : MethodName := ⟨RX12, "complete", "(I)I"⟩
abbrev cX12_carriesOut : ByteArray := prog_14_method_97_code
def yX12_carriesOut : MethodName := ⟨RX12, "carriesOut", "(IIIII)V"⟩
abbrev cX12_goesOnAsNew : ByteArray := prog_14_method_98_code
def yX12_goesOnAsNew : MethodName := ⟨RX12, "goesOnAsNew", "(II)V"⟩
abbrev cX12_die : ByteArray := prog_14_method_99_code
def yX12_die : MethodName := ⟨RX12, "die", "(I)I"⟩
abbrev cX12_replays : ByteArray := prog_14_method_100_code
def yX12_replays : MethodName := ⟨RX12, "replays", "(I)I"⟩
abbrev cX12_take : ByteArray := prog_14_method_101_code
def yX12_take : MethodName := ⟨RX12, "take", "(I)I"⟩
abbrev cX12_isActivity : ByteArray := prog_14_method_102_code
def yX12_isActivity : MethodName := ⟨RX12, "isActivity", "(I)Z"⟩
abbrev cX12_answer : ByteArray := prog_14_method_103_code
def yX12_answer : MethodName := ⟨RX12, "answer", "(II)Z"⟩
abbrev cX12_misses : ByteArray := prog_14_method_104_code
def yX12_misses : MethodName := ⟨RX12, "misses", "(IZ)V"⟩
abbrev cX12_fail : ByteArray := prog_14_method_105_code
def yX12_fail : MethodName := ⟨RX12, "fail", "(IZ)Z"⟩
abbrev cX12_beat : ByteArray := prog_14_method_106_code
def yX12_beat : MethodName := ⟨RX12, "beat", "(II)I"⟩
abbrev cX12_activity : ByteArray := prog_14_method_107_code
def yX12_activity : MethodName := ⟨RX12, "activity", "(I)I"⟩
abbrev cX12_fires : ByteArray := prog_14_method_108_code
def yX12_fires : MethodName := ⟨RX12, "fires", "()V"⟩
abbrev cX12_looksAtActivities : ByteArray := prog_14_method_109_code
def yX12_looksAtActivities : MethodName := ⟨RX12, "looksAtActivities", "()V"⟩
abbrev cX12_pass : ByteArray := prog_14_method_110_code
def yX12_pass : MethodName := ⟨RX12, "pass", "(I)I"⟩
abbrev cX12_isVersion : ByteArray := prog_14_method_111_code
def yX12_isVersion : MethodName := ⟨RX12, "isVersion", "(II)Z"⟩
abbrev cX12_unsafe : ByteArray := prog_14_method_112_code
def yX12_unsafe : MethodName := ⟨RX12, "\x75nsafe", "(II)I"⟩
abbrev cX12_move : ByteArray := prog_14_method_113_code
def yX12_move : MethodName := ⟨RX12, "move", "(II)Z"⟩
abbrev cX12_marks : ByteArray := prog_14_method_114_code
def yX12_marks : MethodName := ⟨RX12, "marks", "(I)V"⟩
abbrev cX12_isBack : ByteArray := prog_14_method_115_code
def yX12_isBack : MethodName := ⟨RX12, "isBack", "(I)Z"⟩
abbrev cX12_beginsAnew : ByteArray := prog_14_method_116_code
def yX12_beginsAnew : MethodName := ⟨RX12, "beginsAnew", "(I)V"⟩
abbrev cX12_taskAt : ByteArray := prog_14_method_117_code
def yX12_taskAt : MethodName := ⟨RX12, "taskAt", "(II)I"⟩
abbrev cX12_setBack : ByteArray := prog_14_method_118_code
def yX12_setBack : MethodName := ⟨RX12, "setBack", "(II)I"⟩
abbrev cX12_copy : ByteArray := prog_14_method_119_code
def yX12_copy : MethodName := ⟨RX12, "copy", "(II)I"⟩
abbrev cX12_cutsRun : ByteArray := prog_14_method_120_code
def yX12_cutsRun : MethodName := ⟨RX12, "cutsRun", "(I)I"⟩
abbrev cX12_takeOver : ByteArray := prog_14_method_121_code
def yX12_takeOver : MethodName := ⟨RX12, "takeOver", "()I"⟩
abbrev cX12_join : ByteArray := prog_14_method_122_code
def yX12_join : MethodName := ⟨RX12, "join", "()I"⟩
abbrev cX12_isSchedule : ByteArray := prog_14_method_123_code
def yX12_isSchedule : MethodName := ⟨RX12, "isSchedule", "(I)Z"⟩
abbrev cX12_schedule : ByteArray := prog_14_method_124_code
def yX12_schedule : MethodName := ⟨RX12, "schedule", "(IIII)I"⟩
abbrev cX12_beginsFor : ByteArray := prog_14_method_125_code
def yX12_beginsFor : MethodName := ⟨RX12, "beginsFor", "(II)I"⟩
abbrev cX12_isRunning : ByteArray := prog_14_method_126_code
def yX12_isRunning : MethodName := ⟨RX12, "isRunning", "(I)Z"⟩
abbrev cX12_comes : ByteArray := prog_14_method_127_code
def yX12_comes : MethodName := ⟨RX12, "comes", "(II)V"⟩
abbrev cX12_looksAtSchedule : ByteArray := prog_14_method_128_code
def yX12_looksAtSchedule : MethodName := ⟨RX12, "looksAtSchedule", "(I)V"⟩
abbrev cX12_point : ByteArray := prog_14_method_129_code
def yX12_point : MethodName := ⟨RX12, "point", "(II)V"⟩
abbrev cX12_togglePause : ByteArray := prog_14_method_130_code
def yX12_togglePause : MethodName := ⟨RX12, "togglePause", "(I)Z"⟩
abbrev cX12_backfill : ByteArray := prog_14_method_131_code
def yX12_backfill : MethodName := ⟨RX12, "backfill", "(II)I"⟩
abbrev cX12_shift : ByteArray := prog_14_method_132_code
def yX12_shift : MethodName := ⟨RX12, "shift", "(I)I"⟩
abbrev cX12_bringIn : ByteArray := prog_14_method_133_code
def yX12_bringIn : MethodName := ⟨RX12, "bringIn", "(I)I"⟩
abbrev cX12_search : ByteArray := prog_14_method_134_code
def yX12_search : MethodName := ⟨RX12, "search", "(I)I"⟩
def RJx145de : String := "java/io/Serializable"
def TJx145de : u_T := fun k => match k with
  | _ => ("", "", "", false)
def tyJx145de : Nat → FieldType := fun k => match k with
  | _ => .int
abbrev wsJx145de0 : List Cond := u_ws RJx145de TJx145de 0
theorem nmJx145de : ∀ a, a < 0 → ∀ b, b < 0 → a ≠ b → (TJx145de a).2.1 ≠ (TJx145de b).2.1 := by decide +kernel
theorem tyJx145de_ok : ∀ k, k < 0 → parseFieldDescriptor (TJx145de k).2.2.1 = some (tyJx145de k) := by decide +kernel
def RJx8e188 : String := "java/lang/Cloneable"
def TJx8e188 : u_T := fun k => match k with
  | _ => ("", "", "", false)
def tyJx8e188 : Nat → FieldType := fun k => match k with
  | _ => .int
abbrev wsJx8e1880 : List Cond := u_ws RJx8e188 TJx8e188 0
theorem nmJx8e188 : ∀ a, a < 0 → ∀ b, b < 0 → a ≠ b → (TJx8e188 a).2.1 ≠ (TJx8e188 b).2.1 := by decide +kernel
theorem tyJx8e188_ok : ∀ k, k < 0 → parseFieldDescriptor (TJx8e188 k).2.2.1 = some (tyJx8e188 k) := by decide +kernel
def RJxab1ab : String := "java/lang/Iterable"
def TJxab1ab : u_T := fun k => match k with
  | _ => ("", "", "", false)
def tyJxab1ab : Nat → FieldType := fun k => match k with
  | _ => .int
abbrev wsJxab1ab0 : List Cond := u_ws RJxab1ab TJxab1ab 0
theorem nmJxab1ab : ∀ a, a < 0 → ∀ b, b < 0 → a ≠ b → (TJxab1ab a).2.1 ≠ (TJxab1ab b).2.1 := by decide +kernel
theorem tyJxab1ab_ok : ∀ k, k < 0 → parseFieldDescriptor (TJxab1ab k).2.2.1 = some (tyJxab1ab k) := by decide +kernel
def RJ9 : String := "java/lang/Math"
def TJ9 : u_T := fun k => match k with
  | _ => ("", "", "", false)
def tyJ9 : Nat → FieldType := fun k => match k with
  | _ => .int
abbrev wsJ90 : List Cond := u_ws RJ9 TJ9 0
theorem nmJ9 : ∀ a, a < 0 → ∀ b, b < 0 → a ≠ b → (TJ9 a).2.1 ≠ (TJ9 b).2.1 := by decide +kernel
theorem tyJ9_ok : ∀ k, k < 0 → parseFieldDescriptor (TJ9 k).2.2.1 = some (tyJ9 k) := by decide +kernel
abbrev cJ9_floorMod_7cf53 : ByteArray := prog_22_method_50_code
def yJ9_floorMod_7cf53 : MethodName := ⟨RJ9, "floorMod", "(II)I"⟩
abbrev cJ9_max_7cf53 : ByteArray := prog_22_method_65_code
def yJ9_max_7cf53 : MethodName := ⟨RJ9, "max", "(II)I"⟩
abbrev cJ9_min_7cf53 : ByteArray := prog_22_method_69_code
def yJ9_min_7cf53 : MethodName := ⟨RJ9, "min", "(II)I"⟩
def RJ0 : String := "java/lang/String"
def TJ0 : u_T := fun k => match k with
  | _ => ("", "", "", false)
def tyJ0 : Nat → FieldType := fun k => match k with
  | _ => .int
abbrev wsJ00 : List Cond := u_ws RJ0 TJ0 0
theorem nmJ0 : ∀ a, a < 0 → ∀ b, b < 0 → a ≠ b → (TJ0 a).2.1 ≠ (TJ0 b).2.1 := by decide +kernel
theorem tyJ0_ok : ∀ k, k < 0 → parseFieldDescriptor (TJ0 k).2.2.1 = some (tyJ0 k) := by decide +kernel
def RJ10 : String := "java/lang/System"
def TJ10 : u_T := fun k => match k with
  | _ => ("", "", "", false)
def tyJ10 : Nat → FieldType := fun k => match k with
  | _ => .int
abbrev wsJ100 : List Cond := u_ws RJ10 TJ10 0
theorem nmJ10 : ∀ a, a < 0 → ∀ b, b < 0 → a ≠ b → (TJ10 a).2.1 ≠ (TJ10 b).2.1 := by decide +kernel
theorem tyJ10_ok : ∀ k, k < 0 → parseFieldDescriptor (TJ10 k).2.2.1 = some (tyJ10 k) := by decide +kernel
def RJxa1e45 : String := "java/util/AbstractCollection"
def TJxa1e45 : u_T := fun k => match k with
  | _ => ("", "", "", false)
def tyJxa1e45 : Nat → FieldType := fun k => match k with
  | _ => .int
abbrev wsJxa1e450 : List Cond := u_ws RJxa1e45 TJxa1e45 0
theorem nmJxa1e45 : ∀ a, a < 0 → ∀ b, b < 0 → a ≠ b → (TJxa1e45 a).2.1 ≠ (TJxa1e45 b).2.1 := by decide +kernel
theorem tyJxa1e45_ok : ∀ k, k < 0 → parseFieldDescriptor (TJxa1e45 k).2.2.1 = some (tyJxa1e45 k) := by decide +kernel
abbrev cJxa1e45_init_da8c8 : ByteArray := prog_27_method_1_code
def yJxa1e45_init_da8c8 : MethodName := ⟨RJxa1e45, "<init>", "()V"⟩
def RJxc12de : String := "java/util/AbstractList"
def TJxc12de : u_T := fun k => match k with
  | _ => ("", "", "", false)
def tyJxc12de : Nat → FieldType := fun k => match k with
  | _ => .int
abbrev wsJxc12de0 : List Cond := u_ws RJxc12de TJxc12de 0
theorem nmJxc12de : ∀ a, a < 0 → ∀ b, b < 0 → a ≠ b → (TJxc12de a).2.1 ≠ (TJxc12de b).2.1 := by decide +kernel
theorem tyJxc12de_ok : ∀ k, k < 0 → parseFieldDescriptor (TJxc12de k).2.2.1 = some (tyJxc12de k) := by decide +kernel
abbrev cJxc12de_init_da8c8 : ByteArray := prog_28_method_1_code
def yJxc12de_init_da8c8 : MethodName := ⟨RJxc12de, "<init>", "()V"⟩
def RJx4a65c : String := "java/util/ArrayList"
def TJx4a65c : u_T := fun k => match k with
  | 0 => ("java/util/AbstractList", "modCount", "I", false)
  | 1 => ("java/util/ArrayList", "elementData", "[Ljava/lang/Object;", false)
  | _ => ("java/util/ArrayList", "size", "I", false)
def tyJx4a65c : Nat → FieldType := fun k => match k with
  | 0 => .int
  | 1 => .array (.object "java/lang/Object")
  | _ => .int
abbrev wsJx4a65c0 : List Cond := u_ws RJx4a65c TJx4a65c 3
theorem nmJx4a65c : ∀ a, a < 3 → ∀ b, b < 3 → a ≠ b → (TJx4a65c a).2.1 ≠ (TJx4a65c b).2.1 := by decide +kernel
theorem tyJx4a65c_ok : ∀ k, k < 3 → parseFieldDescriptor (TJx4a65c k).2.2.1 = some (tyJx4a65c k) := by decide +kernel
abbrev cJx4a65c_init_da8c8 : ByteArray := prog_29_method_2_code
def yJx4a65c_init_da8c8 : MethodName := ⟨RJx4a65c, "<init>", "()V"⟩
abbrev cJx4a65c_grow_92f84 : ByteArray := prog_29_method_6_code
def yJx4a65c_grow_92f84 : MethodName := ⟨RJx4a65c, "grow", "(I)[Ljava/lang/Object;"⟩
abbrev cJx4a65c_grow_d5877 : ByteArray := prog_29_method_7_code
def yJx4a65c_grow_d5877 : MethodName := ⟨RJx4a65c, "grow", "()[Ljava/lang/Object;"⟩
abbrev cJx4a65c_size_8abf5 : ByteArray := prog_29_method_8_code
def yJx4a65c_size_8abf5 : MethodName := ⟨RJx4a65c, "size", "()I"⟩
abbrev cJx4a65c_isEmpty_aae02 : ByteArray := prog_29_method_9_code
def yJx4a65c_isEmpty_aae02 : MethodName := ⟨RJx4a65c, "isEmpty", "()Z"⟩
abbrev cJx4a65c_elementData_915e3 : ByteArray := prog_29_method_18_code
def yJx4a65c_elementData_915e3 : MethodName := ⟨RJx4a65c, "elementData", "(I)Ljava/lang/Object;"⟩
abbrev cJx4a65c_get_915e3 : ByteArray := prog_29_method_20_code
def yJx4a65c_get_915e3 : MethodName := ⟨RJx4a65c, "get", "(I)Ljava/lang/Object;"⟩
abbrev cJx4a65c_add_72be8 : ByteArray := prog_29_method_24_code
def yJx4a65c_add_72be8 : MethodName := ⟨RJx4a65c, "add", "(Ljava/lang/Object;[Ljava/lang/Object;I)V"⟩
abbrev cJx4a65c_add_9ea2d : ByteArray := prog_29_method_25_code
def yJx4a65c_add_9ea2d : MethodName := ⟨RJx4a65c, "add", "(Ljava/lang/Object;)Z"⟩
def RJ7 : String := "java/util/Arrays"
def TJ7 : u_T := fun k => match k with
  | _ => ("", "", "", false)
def tyJ7 : Nat → FieldType := fun k => match k with
  | _ => .int
abbrev wsJ70 : List Cond := u_ws RJ7 TJ7 0
theorem nmJ7 : ∀ a, a < 0 → ∀ b, b < 0 → a ≠ b → (TJ7 a).2.1 ≠ (TJ7 b).2.1 := by decide +kernel
theorem tyJ7_ok : ∀ k, k < 0 → parseFieldDescriptor (TJ7 k).2.2.1 = some (tyJ7 k) := by decide +kernel
abbrev cJ7_fill_53178 : ByteArray := prog_30_method_103_code
def yJ7_fill_53178 : MethodName := ⟨RJ7, "fill", "([II)V"⟩
abbrev cJ7_copyOf_1904c : ByteArray := prog_30_method_119_code
def yJ7_copyOf_1904c : MethodName := ⟨RJ7, "copyOf", "([Ljava/lang/Object;I)[Ljava/lang/Object;"⟩
abbrev cJ7_copyOf_6403c : ByteArray := prog_30_method_120_code
def yJ7_copyOf_6403c : MethodName := ⟨RJ7, "copyOf", "([Ljava/lang/Object;ILjava/lang/Class;)[Ljava/lang/Object;"⟩
abbrev cJ7_copyOf_c38d5 : ByteArray := prog_30_method_124_code
def yJ7_copyOf_c38d5 : MethodName := ⟨RJ7, "copyOf", "([JI)[J"⟩
def RJx5ef63 : String := "java/util/Collection"
def TJx5ef63 : u_T := fun k => match k with
  | _ => ("", "", "", false)
def tyJx5ef63 : Nat → FieldType := fun k => match k with
  | _ => .int
abbrev wsJx5ef630 : List Cond := u_ws RJx5ef63 TJx5ef63 0
theorem nmJx5ef63 : ∀ a, a < 0 → ∀ b, b < 0 → a ≠ b → (TJx5ef63 a).2.1 ≠ (TJx5ef63 b).2.1 := by decide +kernel
theorem tyJx5ef63_ok : ∀ k, k < 0 → parseFieldDescriptor (TJx5ef63 k).2.2.1 = some (tyJx5ef63 k) := by decide +kernel
def RJxbd725 : String := "java/util/List"
def TJxbd725 : u_T := fun k => match k with
  | _ => ("", "", "", false)
def tyJxbd725 : Nat → FieldType := fun k => match k with
  | _ => .int
abbrev wsJxbd7250 : List Cond := u_ws RJxbd725 TJxbd725 0
theorem nmJxbd725 : ∀ a, a < 0 → ∀ b, b < 0 → a ≠ b → (TJxbd725 a).2.1 ≠ (TJxbd725 b).2.1 := by decide +kernel
theorem tyJxbd725_ok : ∀ k, k < 0 → parseFieldDescriptor (TJxbd725 k).2.2.1 = some (tyJxbd725 k) := by decide +kernel
def RJ15 : String := "java/util/Objects"
def TJ15 : u_T := fun k => match k with
  | _ => ("", "", "", false)
def tyJ15 : Nat → FieldType := fun k => match k with
  | _ => .int
abbrev wsJ150 : List Cond := u_ws RJ15 TJ15 0
theorem nmJ15 : ∀ a, a < 0 → ∀ b, b < 0 → a ≠ b → (TJ15 a).2.1 ≠ (TJ15 b).2.1 := by decide +kernel
theorem tyJ15_ok : ∀ k, k < 0 → parseFieldDescriptor (TJ15 k).2.2.1 = some (tyJ15 k) := by decide +kernel
abbrev cJ15_checkIndex_7cf53 : ByteArray := prog_33_method_17_code
def yJ15_checkIndex_7cf53 : MethodName := ⟨RJ15, "checkIndex", "(II)I"⟩
def RJxf0a74 : String := "java/util/RandomAccess"
def TJxf0a74 : u_T := fun k => match k with
  | _ => ("", "", "", false)
def tyJxf0a74 : Nat → FieldType := fun k => match k with
  | _ => .int
abbrev wsJxf0a740 : List Cond := u_ws RJxf0a74 TJxf0a74 0
theorem nmJxf0a74 : ∀ a, a < 0 → ∀ b, b < 0 → a ≠ b → (TJxf0a74 a).2.1 ≠ (TJxf0a74 b).2.1 := by decide +kernel
theorem tyJxf0a74_ok : ∀ k, k < 0 → parseFieldDescriptor (TJxf0a74 k).2.2.1 = some (tyJxf0a74 k) := by decide +kernel
def RJxa66e6 : String := "java/util/SequencedCollection"
def TJxa66e6 : u_T := fun k => match k with
  | _ => ("", "", "", false)
def tyJxa66e6 : Nat → FieldType := fun k => match k with
  | _ => .int
abbrev wsJxa66e60 : List Cond := u_ws RJxa66e6 TJxa66e6 0
theorem nmJxa66e6 : ∀ a, a < 0 → ∀ b, b < 0 → a ≠ b → (TJxa66e6 a).2.1 ≠ (TJxa66e6 b).2.1 := by decide +kernel
theorem tyJxa66e6_ok : ∀ k, k < 0 → parseFieldDescriptor (TJxa66e6 k).2.2.1 = some (tyJxa66e6 k) := by decide +kernel
def RJ8 : String := "jdk/internal/util/ArraysSupport"
def TJ8 : u_T := fun k => match k with
  | _ => ("", "", "", false)
def tyJ8 : Nat → FieldType := fun k => match k with
  | _ => .int
abbrev wsJ80 : List Cond := u_ws RJ8 TJ8 0
theorem nmJ8 : ∀ a, a < 0 → ∀ b, b < 0 → a ≠ b → (TJ8 a).2.1 ≠ (TJ8 b).2.1 := by decide +kernel
theorem tyJ8_ok : ∀ k, k < 0 → parseFieldDescriptor (TJ8 k).2.2.1 = some (tyJ8 k) := by decide +kernel
abbrev cJ8_newLength_cabcc : ByteArray := prog_36_method_27_code
def yJ8_newLength_cabcc : MethodName := ⟨RJ8, "newLength", "(III)I"⟩
abbrev cJ8_hugeLength_7cf53 : ByteArray := prog_36_method_28_code
def yJ8_hugeLength_7cf53 : MethodName := ⟨RJ8, "hugeLength", "(II)I"⟩
def RJ3 : String := "jdk/internal/util/Preconditions"
def TJ3 : u_T := fun k => match k with
  | _ => ("", "", "", false)
def tyJ3 : Nat → FieldType := fun k => match k with
  | _ => .int
abbrev wsJ30 : List Cond := u_ws RJ3 TJ3 0
theorem nmJ3 : ∀ a, a < 0 → ∀ b, b < 0 → a ≠ b → (TJ3 a).2.1 ≠ (TJ3 b).2.1 := by decide +kernel
theorem tyJ3_ok : ∀ k, k < 0 → parseFieldDescriptor (TJ3 k).2.2.1 = some (tyJ3 k) := by decide +kernel
abbrev cJ3_checkIndex_8e157 : ByteArray := prog_37_method_11_code
def yJ3_checkIndex_8e157 : MethodName := ⟨RJ3, "checkIndex", "(IILjava/util/function/BiFunction;)I"⟩
def RL : String := "DurableLoomLaw"
abbrev cL_line : ByteArray := method_3_code
def yL_line : MethodName := ⟨RL, "line", "(LDurableLoom;IIII[J)I"⟩
abbrev cL_deploy : ByteArray := method_4_code
def yL_deploy : MethodName := ⟨RL, "deploy", "(LDurableLoom;I[J)I"⟩
abbrev cL_setKind : ByteArray := method_5_code
def yL_setKind : MethodName := ⟨RL, "setKind", "(LDurableLoom;IIIIII)I"⟩
abbrev cL_setPolicy : ByteArray := method_6_code
def yL_setPolicy : MethodName := ⟨RL, "setPolicy", "(LDurableLoom;II[J)I"⟩
abbrev cL_begin : ByteArray := method_7_code
def yL_begin : MethodName := ⟨RL, "begin", "(LDurableLoom;III[J)I"⟩
abbrev cL_signal : ByteArray := method_8_code
def yL_signal : MethodName := ⟨RL, "signal", "(LDurableLoom;III[J)I"⟩
abbrev cL_update : ByteArray := method_9_code
def yL_update : MethodName := ⟨RL, "update", "(LDurableLoom;III[J)I"⟩
abbrev cL_cancel : ByteArray := method_10_code
def yL_cancel : MethodName := ⟨RL, "cancel", "(LDurableLoom;I[J)I"⟩
abbrev cL_query : ByteArray := method_11_code
def yL_query : MethodName := ⟨RL, "query", "(LDurableLoom;II[J)I"⟩
abbrev cL_plain : ByteArray := method_12_code
def yL_plain : MethodName := ⟨RL, "plain", "(LDurableLoom;II[J)I"⟩
abbrev cL_standing : ByteArray := method_13_code
def yL_standing : MethodName := ⟨RL, "standing", "(LDurableLoom;I[J)I"⟩
abbrev cL_event : ByteArray := method_14_code
def yL_event : MethodName := ⟨RL, "event", "(LDurableLoom;II[J)I"⟩
abbrev cL_difference : ByteArray := method_15_code
def yL_difference : MethodName := ⟨RL, "difference", "(LDurableLoom;I[J)I"⟩
abbrev cL_setRate : ByteArray := method_16_code
def yL_setRate : MethodName := ⟨RL, "setRate", "(LDurableLoom;I[J)I"⟩
abbrev cL_poll : ByteArray := method_17_code
def yL_poll : MethodName := ⟨RL, "poll", "(LDurableLoom;I[J)I"⟩
abbrev cL_complete : ByteArray := method_18_code
def yL_complete : MethodName := ⟨RL, "complete", "(LDurableLoom;I[J)I"⟩
abbrev cL_die : ByteArray := method_19_code
def yL_die : MethodName := ⟨RL, "die", "(LDurableLoom;I[J)I"⟩
abbrev cL_replays : ByteArray := method_20_code
def yL_replays : MethodName := ⟨RL, "replays", "(LDurableLoom;I[J)I"⟩
abbrev cL_take : ByteArray := method_21_code
def yL_take : MethodName := ⟨RL, "take", "(LDurableLoom;I[J)I"⟩
abbrev cL_answer : ByteArray := method_22_code
def yL_answer : MethodName := ⟨RL, "answer", "(LDurableLoom;II[J)I"⟩
abbrev cL_fail : ByteArray := method_23_code
def yL_fail : MethodName := ⟨RL, "fail", "(LDurableLoom;IZ[J)I"⟩
abbrev cL_beat : ByteArray := method_24_code
def yL_beat : MethodName := ⟨RL, "beat", "(LDurableLoom;II[J)I"⟩
abbrev cL_activity : ByteArray := method_25_code
def yL_activity : MethodName := ⟨RL, "activity", "(LDurableLoom;I[J)I"⟩
abbrev cL_pass : ByteArray := method_26_code
def yL_pass : MethodName := ⟨RL, "pass", "(LDurableLoom;I[J)I"⟩
abbrev cL_unsafe : ByteArray := method_27_code
def yL_unsafe : MethodName := ⟨RL, "\x75nsafe", "(LDurableLoom;II[J)I"⟩
abbrev cL_move : ByteArray := method_28_code
def yL_move : MethodName := ⟨RL, "move", "(LDurableLoom;II[J)I"⟩
abbrev cL_setBack : ByteArray := method_29_code
def yL_setBack : MethodName := ⟨RL, "setBack", "(LDurableLoom;II[J)I"⟩
abbrev cL_copy : ByteArray := method_30_code
def yL_copy : MethodName := ⟨RL, "copy", "(LDurableLoom;II[J)I"⟩
abbrev cL_takeOver : ByteArray := method_31_code
def yL_takeOver : MethodName := ⟨RL, "takeOver", "(LDurableLoom;[J)I"⟩
abbrev cL_join : ByteArray := method_32_code
def yL_join : MethodName := ⟨RL, "join", "(LDurableLoom;[J)I"⟩
abbrev cL_schedule : ByteArray := method_33_code
def yL_schedule : MethodName := ⟨RL, "schedule", "(LDurableLoom;IIII[J)I"⟩
abbrev cL_togglePause : ByteArray := method_34_code
def yL_togglePause : MethodName := ⟨RL, "togglePause", "(LDurableLoom;I[J)I"⟩
abbrev cL_backfill : ByteArray := method_35_code
def yL_backfill : MethodName := ⟨RL, "backfill", "(LDurableLoom;II[J)I"⟩
abbrev cL_shift : ByteArray := method_36_code
def yL_shift : MethodName := ⟨RL, "shift", "(LDurableLoom;I[J)I"⟩
abbrev cL_bringIn : ByteArray := method_37_code
def yL_bringIn : MethodName := ⟨RL, "bringIn", "(LDurableLoom;I[J)I"⟩
abbrev cL_search : ByteArray := method_38_code
def yL_search : MethodName := ⟨RL, "search", "(LDurableLoom;I[J)I"⟩
abbrev cL_law : ByteArray := code
def yL_law : MethodName := ⟨RL, "law", "([I)Z"⟩
abbrev vwCl : List vw_C := [(RJx4a65c, TJx4a65c, 3), (RX0, TX0, 11), (RX1, TX1, 11), (RX2, TX2, 5), (RX3, TX3, 5), (RX4, TX4, 12), (RX5, TX5, 3), (RX6, TX6, 20), (RX7, TX7, 9), (RX8, TX8, 14), (RX9, TX9, 6), (RX10, TX10, 3), (RX11, TX11, 18), (RX12, TX12, 130)]
end
section
def wsL_law0_r1 : List Cond := [Cond.classLink RL 8 RX11, Cond.instantiable RX11 18, Cond.initialized RX11, Cond.classLink RL 134 RX12, Cond.instantiable RX12 130, Cond.initialized RX12, Cond.arrayClass .long, Cond.methodLink RL 133 yX11_init, Cond.instanceMethod yX11_init, Cond.code yX11_init cX11_init 2 none, Cond.methodLink RX11 1 objectInit, Cond.instanceMethod objectInit, Cond.code objectInit ⟨#[0xb1]⟩ 1 none, Cond.classLink RX11 9 RX10, Cond.fieldLink RX11 11 "DurableLoom" "types" "[LDurableLoom$Type;", Cond.classLink RX11 15 RX3, Cond.fieldLink RX11 17 "DurableLoom" "kinds" "[LDurableLoom$Kind;", Cond.classLink RX11 21 RJx4a65c, Cond.instantiable RJx4a65c 3, Cond.initialized RJx4a65c, Cond.fieldLink RX11 24 "DurableLoom" "allRuns" "Ljava/util/ArrayList;", Cond.fieldLink RX11 28 "DurableLoom" "allActivities" "Ljava/util/ArrayList;", Cond.fieldLink RX11 31 "DurableLoom" "allTasks" "Ljava/util/ArrayList;", Cond.fieldLink RX11 34 "DurableLoom" "allSchedules" "Ljava/util/ArrayList;"]
def wsL_law0_r2 : List Cond := [Cond.arrayClass .int, Cond.fieldLink RX11 37 "DurableLoom" "replayed" "[I", Cond.fieldLink RX11 41 "DurableLoom" "given" "[I", Cond.fieldLink RX11 44 "DurableLoom" "givenNow" "[I", Cond.classLink RX11 47 RX5, Cond.instantiable RX5 3, Cond.initialized RX5, Cond.fieldLink RX11 50 "DurableLoom" "tagQueue" "LDurableLoom$Row;", Cond.classLink RX11 54 RX4, Cond.instantiable RX4 12, Cond.initialized RX4, Cond.fieldLink RX11 57 "DurableLoom" "machine" "LDurableLoom$Machine;", Cond.fieldLink RX11 61 "DurableLoom" "tagsPut" "I", Cond.fieldLink RX11 65 "DurableLoom" "tagsKnown" "I", Cond.fieldLink RX11 68 "DurableLoom" "rate" "I", Cond.fieldLink RX11 71 "DurableLoom" "time" "I", Cond.fieldLink RX11 74 "DurableLoom" "offset" "I", Cond.fieldLink RX11 77 "DurableLoom" "arrivalsSoFar" "I", Cond.fieldLink RX11 80 "DurableLoom" "joined" "Z", Cond.instantiable RX10 3, Cond.initialized RX10, Cond.instantiable RX3 5, Cond.initialized RX3, Cond.methodLink RX11 23 yJx4a65c_init_da8c8]
def wsL_law0_r3 : List Cond := [Cond.instanceMethod yJx4a65c_init_da8c8, Cond.code yJx4a65c_init_da8c8 cJx4a65c_init_da8c8 1 none, Cond.fieldLink RJx4a65c 39 "java/util/ArrayList" "DEFAULTCAPACITY_EMPTY_ELEMENTDATA" "[Ljava/lang/Object;", Cond.fieldLink RJx4a65c 9 "java/util/ArrayList" "elementData" "[Ljava/lang/Object;", Cond.methodLink RJx4a65c 1 yJxc12de_init_da8c8, Cond.instanceMethod yJxc12de_init_da8c8, Cond.initialized RJxc12de, Cond.code yJxc12de_init_da8c8 cJxc12de_init_da8c8 1 none, Cond.fieldLink RJxc12de 7 "java/util/AbstractList" "modCount" "I", Cond.methodLink RJxc12de 1 yJxa1e45_init_da8c8, Cond.instanceMethod yJxa1e45_init_da8c8, Cond.initialized RJxa1e45, Cond.code yJxa1e45_init_da8c8 cJxa1e45_init_da8c8 1 none, Cond.methodLink RJxa1e45 1 objectInit, Cond.instanceMethod yX5_init, Cond.code yX5_init cX5_init 1 none, Cond.methodLink RX5 3 objectInit, Cond.classLink RX5 9 "[J", Cond.fieldLink RX5 11 "DurableLoom$Row" "parts" "[[J", Cond.fieldLink RX5 15 "DurableLoom$Row" "shared" "I", Cond.fieldLink RX5 19 "DurableLoom$Row" "size" "I", Cond.instanceMethod yX4_init, Cond.code yX4_init cX4_init 1 none, Cond.methodLink RX4 1 objectInit]
def wsL_law0_r4 : List Cond := [Cond.classLink RX4 7 RX8, Cond.instantiable RX8 14, Cond.initialized RX8, Cond.fieldLink RX4 10 "DurableLoom$Machine" "state" "LDurableLoom$State;", Cond.classLink RX4 16 RX2, Cond.instantiable RX2 5, Cond.initialized RX2, Cond.classLink RX4 18 RX5, Cond.fieldLink RX4 24 "DurableLoom$Machine" "news" "LDurableLoom$History;", Cond.fieldLink RX4 28 "DurableLoom$Machine" "history" "LDurableLoom$History;", Cond.fieldLink RX4 31 "DurableLoom$Machine" "code" "LDurableLoom$Row;", Cond.fieldLink RX4 35 "DurableLoom$Machine" "way" "I", Cond.fieldLink RX4 39 "DurableLoom$Machine" "seenCounted" "I", Cond.fieldLink RX4 42 "DurableLoom$Machine" "seenEvents" "I", Cond.fieldLink RX4 45 "DurableLoom$Machine" "known" "LDurableLoom$Run;", Cond.fieldLink RX4 49 "DurableLoom$Machine" "taking" "I", Cond.fieldLink RX4 52 "DurableLoom$Machine" "steps" "I", Cond.fieldLink RX4 55 "DurableLoom$Machine" "stuck" "Z", Cond.fieldLink RX4 59 "DurableLoom$Machine" "difference" "I", Cond.methodLink RX4 9 yX8_init, Cond.instanceMethod yX8_init, Cond.code yX8_init cX8_init 2 none, Cond.methodLink RX8 3 objectInit, Cond.fieldLink RX8 9 "DurableLoom$State" "variables" "[I"]
def wsL_law0_r5 : List Cond := [Cond.classLink RX8 15 RX1, Cond.fieldLink RX8 17 "DurableLoom$State" "branches" "[LDurableLoom$Branch;", Cond.classLink RX8 21 RX5, Cond.fieldLink RX8 23 "DurableLoom$State" "queues" "[LDurableLoom$Row;", Cond.fieldLink RX8 28 "DurableLoom$State" "stacked" "LDurableLoom$Row;", Cond.fieldLink RX8 32 "DurableLoom$State" "compensations" "I", Cond.fieldLink RX8 36 "DurableLoom$State" "there" "I", Cond.fieldLink RX8 39 "DurableLoom$State" "begun" "I", Cond.fieldLink RX8 42 "DurableLoom$State" "patches" "I", Cond.fieldLink RX8 45 "DurableLoom$State" "cancelTaken" "Z", Cond.fieldLink RX8 49 "DurableLoom$State" "over" "I", Cond.fieldLink RX8 52 "DurableLoom$State" "taken" "I", Cond.fieldLink RX8 55 "DurableLoom$State" "arrivalAt" "I", Cond.fieldLink RX8 58 "DurableLoom$State" "commandAt" "I", Cond.fieldLink RX8 61 "DurableLoom$State" "taskAt" "I", Cond.instantiable RX1 11, Cond.initialized RX1, Cond.instanceMethod yX1_init, Cond.code yX1_init cX1_init 1 none, Cond.methodLink RX1 1 objectInit, Cond.fieldLink RX1 7 "DurableLoom$Branch" "number" "I", Cond.fieldLink RX1 13 "DurableLoom$Branch" "parent" "I", Cond.fieldLink RX1 16 "DurableLoom$Branch" "above" "I", Cond.fieldLink RX1 19 "DurableLoom$Branch" "rival" "I"]
def wsL_law0_r6 : List Cond := [Cond.fieldLink RX1 22 "DurableLoom$Branch" "line" "I", Cond.fieldLink RX1 25 "DurableLoom$Branch" "shields" "I", Cond.fieldLink RX1 28 "DurableLoom$Branch" "owed" "Z", Cond.fieldLink RX1 32 "DurableLoom$Branch" "waits" "I", Cond.fieldLink RX1 35 "DurableLoom$Branch" "waitsFor" "I", Cond.fieldLink RX1 38 "DurableLoom$Branch" "doomed" "Z", Cond.fieldLink RX1 41 "DurableLoom$Branch" "handlers" "I", Cond.methodLink RX4 21 yX2_init, Cond.instanceMethod yX2_init, Cond.code yX2_init cX2_init 2 none, Cond.methodLink RX2 3 objectInit, Cond.fieldLink RX2 9 "DurableLoom$History" "size" "I", Cond.fieldLink RX2 13 "DurableLoom$History" "arrivals" "I", Cond.fieldLink RX2 16 "DurableLoom$History" "tasks" "I", Cond.fieldLink RX2 19 "DurableLoom$History" "counted" "I", Cond.fieldLink RX2 22 "DurableLoom$History" "events" "LDurableLoom$Row;", Cond.instanceMethod yX10_init, Cond.code yX10_init cX10_init 1 none, Cond.methodLink RX10 1 objectInit, Cond.classLink RX10 7 RJx4a65c, Cond.fieldLink RX10 10 "DurableLoom$Type" "versions" "Ljava/util/ArrayList;", Cond.classLink RX10 16 RX5, Cond.fieldLink RX10 19 "DurableLoom$Type" "draft" "LDurableLoom$Row;", Cond.fieldLink RX10 23 "DurableLoom$Type" "policy" "I"]
def wsL_law0_r7 : List Cond := [Cond.methodLink RX10 9 yJx4a65c_init_da8c8, Cond.instanceMethod yX3_init, Cond.code yX3_init cX3_init 1 none, Cond.methodLink RX3 1 objectInit, Cond.fieldLink RX3 7 "DurableLoom$Kind" "attempts" "I", Cond.fieldLink RX3 13 "DurableLoom$Kind" "pause" "I", Cond.fieldLink RX3 16 "DurableLoom$Kind" "toBegin" "I", Cond.fieldLink RX3 19 "DurableLoom$Kind" "toEnd" "I", Cond.fieldLink RX3 22 "DurableLoom$Kind" "beats" "I", Cond.methodLink RL 136 yX12_init, Cond.instanceMethod yX12_init, Cond.code yX12_init cX12_init 2 none, Cond.methodLink RX12 1 objectInit, Cond.fieldLink RX12 7 "DurableLoomModel" "versions" "[I", Cond.fieldLink RX12 13 "DurableLoomModel" "size" "[I", Cond.fieldLink RX12 16 "DurableLoomModel" "command" "[I", Cond.fieldLink RX12 19 "DurableLoomModel" "numberA" "[I", Cond.fieldLink RX12 22 "DurableLoomModel" "numberB" "[I", Cond.fieldLink RX12 25 "DurableLoomModel" "attempts" "[I", Cond.fieldLink RX12 28 "DurableLoomModel" "pause" "[I", Cond.fieldLink RX12 31 "DurableLoomModel" "toBegin" "[I", Cond.fieldLink RX12 34 "DurableLoomModel" "toEnd" "[I", Cond.fieldLink RX12 37 "DurableLoomModel" "beats" "[I", Cond.fieldLink RX12 40 "DurableLoomModel" "policy" "[I"]
def wsL_law0_r8 : List Cond := [Cond.fieldLink RX12 43 "DurableLoomModel" "type" "[I", Cond.fieldLink RX12 46 "DurableLoomModel" "tenant" "[I", Cond.fieldLink RX12 49 "DurableLoomModel" "version" "[I", Cond.fieldLink RX12 52 "DurableLoomModel" "status" "[I", Cond.fieldLink RX12 55 "DurableLoomModel" "parent" "[I", Cond.fieldLink RX12 58 "DurableLoomModel" "parentEvent" "[I", Cond.fieldLink RX12 61 "DurableLoomModel" "events" "[I", Cond.fieldLink RX12 64 "DurableLoomModel" "sharedFrom" "[I", Cond.fieldLink RX12 67 "DurableLoomModel" "sharedTo" "[I", Cond.fieldLink RX12 70 "DurableLoomModel" "arrived" "[I", Cond.fieldLink RX12 73 "DurableLoomModel" "tasked" "[I", Cond.fieldLink RX12 76 "DurableLoomModel" "countedBy" "[I", Cond.fieldLink RX12 79 "DurableLoomModel" "copied" "[I", Cond.fieldLink RX12 82 "DurableLoomModel" "cuts" "[I", Cond.fieldLink RX12 85 "DurableLoomModel" "difference" "[I", Cond.constant RX12 88 (1310720), Cond.fieldLink RX12 89 "DurableLoomModel" "happened" "[J", Cond.fieldLink RX12 93 "DurableLoomModel" "orderRun" "I", Cond.constant RX12 97 (61440), Cond.fieldLink RX12 98 "DurableLoomModel" "piece" "[I", Cond.fieldLink RX12 101 "DurableLoomModel" "backs" "[I", Cond.fieldLink RX12 104 "DurableLoomModel" "ofRun" "[I", Cond.fieldLink RX12 107 "DurableLoomModel" "ofEvent" "[I", Cond.fieldLink RX12 110 "DurableLoomModel" "ofKind" "[I"]
def wsL_law0_r9 : List Cond := [Cond.fieldLink RX12 113 "DurableLoomModel" "input" "[I", Cond.fieldLink RX12 116 "DurableLoomModel" "state" "[I", Cond.fieldLink RX12 119 "DurableLoomModel" "tried" "[I", Cond.fieldLink RX12 122 "DurableLoomModel" "began" "[I", Cond.fieldLink RX12 125 "DurableLoomModel" "due" "[I", Cond.fieldLink RX12 128 "DurableLoomModel" "taken" "[I", Cond.fieldLink RX12 131 "DurableLoomModel" "beaten" "[I", Cond.fieldLink RX12 134 "DurableLoomModel" "progress" "[I", Cond.fieldLink RX12 137 "DurableLoomModel" "timerRun" "[I", Cond.fieldLink RX12 140 "DurableLoomModel" "timerEvent" "[I", Cond.fieldLink RX12 143 "DurableLoomModel" "timerDue" "[I", Cond.fieldLink RX12 146 "DurableLoomModel" "rate" "I", Cond.fieldLink RX12 149 "DurableLoomModel" "taskWorker" "[I", Cond.fieldLink RX12 152 "DurableLoomModel" "taskRun" "[I", Cond.fieldLink RX12 155 "DurableLoomModel" "taskKnows" "[I", Cond.fieldLink RX12 158 "DurableLoomModel" "taskGiven" "[I", Cond.fieldLink RX12 161 "DurableLoomModel" "taskHas" "[I", Cond.fieldLink RX12 164 "DurableLoomModel" "taskVersion" "[I", Cond.fieldLink RX12 167 "DurableLoomModel" "taskCuts" "[I", Cond.arrayClass .boolean, Cond.fieldLink RX12 170 "DurableLoomModel" "isOver" "[Z", Cond.fieldLink RX12 174 "DurableLoomModel" "givenNow" "[I", Cond.fieldLink RX12 177 "DurableLoomModel" "givenAll" "[I", Cond.fieldLink RX12 180 "DurableLoomModel" "replays" "[I"]
def wsL_law0_r10 : List Cond := [Cond.fieldLink RX12 183 "DurableLoomModel" "keepsTasks" "[I", Cond.fieldLink RX12 186 "DurableLoomModel" "keepsVersion" "[I", Cond.fieldLink RX12 189 "DurableLoomModel" "keepsCuts" "[I", Cond.fieldLink RX12 192 "DurableLoomModel" "keepsEvents" "[I", Cond.fieldLink RX12 195 "DurableLoomModel" "keepsCounted" "[I", Cond.fieldLink RX12 198 "DurableLoomModel" "scheduleType" "[I", Cond.fieldLink RX12 201 "DurableLoomModel" "scheduleTenant" "[I", Cond.fieldLink RX12 204 "DurableLoomModel" "period" "[I", Cond.fieldLink RX12 207 "DurableLoomModel" "overlap" "[I", Cond.fieldLink RX12 210 "DurableLoomModel" "looked" "[I", Cond.fieldLink RX12 213 "DurableLoomModel" "isPaused" "[Z", Cond.fieldLink RX12 216 "DurableLoomModel" "latest" "[I", Cond.fieldLink RX12 219 "DurableLoomModel" "isAwaited" "[Z", Cond.fieldLink RX12 222 "DurableLoomModel" "awaited" "[I", Cond.constant RX12 225 (1048576), Cond.fieldLink RX12 226 "DurableLoomModel" "tags" "[I", Cond.fieldLink RX12 229 "DurableLoomModel" "known" "[I", Cond.fieldLink RX12 232 "DurableLoomModel" "lostRun" "[I", Cond.fieldLink RX12 235 "DurableLoomModel" "lostName" "[I", Cond.fieldLink RX12 238 "DurableLoomModel" "lostValue" "[I", Cond.fieldLink RX12 241 "DurableLoomModel" "variable" "[I", Cond.fieldLink RX12 244 "DurableLoomModel" "number" "[I", Cond.fieldLink RX12 247 "DurableLoomModel" "line" "[I", Cond.fieldLink RX12 250 "DurableLoomModel" "waits" "[I"]
def wsL_law0_r11 : List Cond := [Cond.fieldLink RX12 253 "DurableLoomModel" "waitsFor" "[I", Cond.fieldLink RX12 256 "DurableLoomModel" "into" "[I", Cond.fieldLink RX12 259 "DurableLoomModel" "handler" "[I", Cond.fieldLink RX12 262 "DurableLoomModel" "rival" "[I", Cond.fieldLink RX12 265 "DurableLoomModel" "shields" "[I", Cond.fieldLink RX12 268 "DurableLoomModel" "isTold" "[Z", Cond.constant RX12 271 (196608), Cond.fieldLink RX12 272 "DurableLoomModel" "above" "[I", Cond.fieldLink RX12 275 "DurableLoomModel" "handlerRow" "[I", Cond.fieldLink RX12 278 "DurableLoomModel" "undoRow" "[I", Cond.fieldLink RX12 281 "DurableLoomModel" "queued" "[I", Cond.fieldLink RX12 284 "DurableLoomModel" "queueFrom" "[I", Cond.fieldLink RX12 287 "DurableLoomModel" "queue" "[I", Cond.constant RX12 290 (65536), Cond.fieldLink RX12 291 "DurableLoomModel" "freshKind" "[I", Cond.fieldLink RX12 294 "DurableLoomModel" "freshX" "[I", Cond.fieldLink RX12 297 "DurableLoomModel" "closing" "[I", Cond.fieldLink RX12 300 "DurableLoomModel" "closingNext" "[I", Cond.methodLink RL 137 yL_line, Cond.static yL_line, Cond.initialized RL, Cond.codeWith yL_line cL_line 7 (some .int) [(0, 14, 17, 13), (0, 14, 21, 15), (0, 14, 25, 17)], Cond.classLink RL 13 "java/lang/IndexOutOfBoundsException", Cond.methodLink RL 7 yX11_line]
def wsL_law0_r12 : List Cond := [Cond.instanceMethod yX11_line, Cond.selects RX11 yX11_line yX11_line, Cond.code yX11_line cX11_line 7 (some .int), Cond.classLink RX11 96 "java/lang/IllegalArgumentException", Cond.initialized "java/lang/IllegalArgumentException", Cond.classLink RX11 111 "java/lang/IllegalStateException", Cond.initialized "java/lang/IllegalStateException", Cond.fieldLink RX11 90 "DurableLoom" "TOP_A" "[I", Cond.fieldLink RX11 93 "DurableLoom" "TOP_B" "[I", Cond.fieldLink RX11 105 "DurableLoom$Type" "draft" "LDurableLoom$Row;", Cond.fieldLink RX11 108 "DurableLoom$Row" "size" "I", Cond.methodLink RX11 86 yX11_typeAt, Cond.instanceMethod yX11_typeAt, Cond.selects RX11 yX11_typeAt yX11_typeAt, Cond.code yX11_typeAt cX11_typeAt 2 (some (.object "DurableLoom$Type")), Cond.classLink RX11 255 "java/lang/IndexOutOfBoundsException", Cond.initialized "java/lang/IndexOutOfBoundsException", Cond.methodLink RX11 116 yX10_packed, Cond.static yX10_packed, Cond.code yX10_packed cX10_packed 3 (some .int), Cond.constant RX10 27 (1000000), Cond.methodLink RX11 120 yX5_add, Cond.instanceMethod yX5_add, Cond.selects RX5 yX5_add yX5_add]
def wsL_law0_r13 : List Cond := [Cond.code yX5_add cX5_add 7 none, Cond.methodLink RL 142 yX12_line, Cond.instanceMethod yX12_line, Cond.selects RX12 yX12_line yX12_line, Cond.code yX12_line cX12_line 9 (some .int), Cond.methodLink RX12 313 yX12_isType, Cond.static yX12_isType, Cond.code yX12_isType cX12_isType 1 (some .boolean), Cond.methodLink RX12 306 yX12_isIn, Cond.static yX12_isIn, Cond.code yX12_isIn cX12_isIn 3 (some .boolean), Cond.methodLink RX12 317 yX12_mostA, Cond.static yX12_mostA, Cond.code yX12_mostA cX12_mostA 1 (some .int), Cond.methodLink RX12 321 yX12_mostB, Cond.static yX12_mostB, Cond.code yX12_mostB cX12_mostB 1 (some .int), Cond.methodLink RX12 324 yX12_fails, Cond.instanceMethod yX12_fails, Cond.selects RX12 yX12_fails yX12_fails, Cond.code yX12_fails cX12_fails 2 (some .boolean), Cond.fieldLink RX12 303 "DurableLoomModel" "thrown" "I", Cond.methodLink RX12 327 yX12_code, Cond.static yX12_code]
def wsL_law0_r14 : List Cond := [Cond.code yX12_code cX12_code 2 (some .int), Cond.methodLink RL 143 yX12_thrown, Cond.instanceMethod yX12_thrown, Cond.selects RX12 yX12_thrown yX12_thrown, Cond.code yX12_thrown cX12_thrown 1 (some .int), Cond.methodLink RL 146 yL_deploy, Cond.static yL_deploy, Cond.codeWith yL_deploy cL_deploy 4 (some .int) [(0, 9, 12, 13), (0, 9, 15, 17)], Cond.methodLink RL 19 yX11_deploy, Cond.instanceMethod yX11_deploy, Cond.selects RX11 yX11_deploy yX11_deploy, Cond.code yX11_deploy cX11_deploy 3 (some .int), Cond.fieldLink RX11 124 "DurableLoom$Type" "versions" "Ljava/util/ArrayList;", Cond.methodLink RX11 127 yJx4a65c_size_8abf5, Cond.instanceMethod yJx4a65c_size_8abf5, Cond.selects RJx4a65c yJx4a65c_size_8abf5 yJx4a65c_size_8abf5, Cond.code yJx4a65c_size_8abf5 cJx4a65c_size_8abf5 1 (some .int), Cond.fieldLink RJx4a65c 48 "java/util/ArrayList" "size" "I", Cond.methodLink RX11 132 yX10_draftBecomesVersion, Cond.instanceMethod yX10_draftBecomesVersion, Cond.selects RX10 yX10_draftBecomesVersion yX10_draftBecomesVersion, Cond.code yX10_draftBecomesVersion cX10_draftBecomesVersion 1 none, Cond.methodLink RX10 36 yJx4a65c_add_9ea2d, Cond.instanceMethod yJx4a65c_add_9ea2d]
def wsL_law0_r15 : List Cond := [Cond.selects RJx4a65c yJx4a65c_add_9ea2d yJx4a65c_add_9ea2d, Cond.code yJx4a65c_add_9ea2d cJx4a65c_add_9ea2d 2 (some .boolean), Cond.fieldLink RJx4a65c 63 "java/util/ArrayList" "modCount" "I", Cond.sameField "java/util/ArrayList" "java/util/AbstractList" "modCount" "I", Cond.methodLink RJx4a65c 131 yJx4a65c_add_72be8, Cond.instanceMethod yJx4a65c_add_72be8, Cond.selects RJx4a65c yJx4a65c_add_72be8 yJx4a65c_add_72be8, Cond.code yJx4a65c_add_72be8 cJx4a65c_add_72be8 4 none, Cond.methodLink RJx4a65c 129 yJx4a65c_grow_d5877, Cond.instanceMethod yJx4a65c_grow_d5877, Cond.selects RJx4a65c yJx4a65c_grow_d5877 yJx4a65c_grow_d5877, Cond.code yJx4a65c_grow_d5877 cJx4a65c_grow_d5877 1 (some (.array (.object "java/lang/Object"))), Cond.methodLink RJx4a65c 69 yJx4a65c_grow_92f84, Cond.instanceMethod yJx4a65c_grow_92f84, Cond.selects RJx4a65c yJx4a65c_grow_92f84 yJx4a65c_grow_92f84, Cond.code yJx4a65c_grow_92f84 cJx4a65c_grow_92f84 4 (some (.array (.object "java/lang/Object"))), Cond.methodLink RJx4a65c 79 Lib.Math.max.name, Cond.static Lib.Math.max.name, Cond.initialized "java/lang/Math", Cond.code Lib.Math.max.name Lib.Math.max.code 2 (some .int), Cond.classLink RJx4a65c 7 "java/lang/Object", Cond.methodLink RJx4a65c 73 yJ8_newLength_cabcc, Cond.static yJ8_newLength_cabcc, Cond.initialized RJ8]
def wsL_law0_r16 : List Cond := [Cond.code yJ8_newLength_cabcc cJ8_newLength_cabcc 4 (some .int), Cond.methodLink RJ8 194 Lib.Math.max.name, Cond.constant RJ8 200 (2147483639), Cond.methodLink RJ8 201 yJ8_hugeLength_7cf53, Cond.static yJ8_hugeLength_7cf53, Cond.code yJ8_hugeLength_7cf53 cJ8_hugeLength_7cf53 3 (some .int), Cond.methodLink RJx4a65c 66 yJ7_copyOf_1904c, Cond.static yJ7_copyOf_1904c, Cond.initialized RJ7, Cond.code yJ7_copyOf_1904c cJ7_copyOf_1904c 2 (some (.array (.object "java/lang/Object"))), Cond.methodLink RJ7 86 ⟨"java/lang/Object", "getClass", "()Ljava/lang/Class;"⟩, Cond.selects "[Ljava/lang/Object;" ⟨"java/lang/Object", "getClass", "()Ljava/lang/Class;"⟩ ⟨"java/lang/Object", "getClass", "()Ljava/lang/Class;"⟩, Cond.instanceMethod ⟨"java/lang/Object", "getClass", "()Ljava/lang/Class;"⟩, Cond.native ⟨"java/lang/Object", "getClass", "()Ljava/lang/Class;"⟩, Cond.methodLink RJ7 300 yJ7_copyOf_6403c, Cond.static yJ7_copyOf_6403c, Cond.code yJ7_copyOf_6403c cJ7_copyOf_6403c 4 (some (.array (.object "java/lang/Object"))), Cond.classLink RJ7 110 "[Ljava/lang/Object;", Cond.classLink RJ7 2 "java/lang/Object", Cond.methodLink RJ7 304 Lib.Math.min.name, Cond.static Lib.Math.min.name, Cond.code Lib.Math.min.name Lib.Math.min.code 2 (some .int), Cond.methodLink RJ7 150 arraycopyName, Cond.native arraycopyName]
def wsL_law0_r17 : List Cond := [Cond.static arraycopyName, Cond.initialized "java/lang/System", Cond.methodLink RL 149 yX12_deploy, Cond.instanceMethod yX12_deploy, Cond.selects RX12 yX12_deploy yX12_deploy, Cond.code yX12_deploy cX12_deploy 6 (some .int), Cond.methodLink RL 150 yL_setKind, Cond.static yL_setKind, Cond.codeWith yL_setKind cL_setKind 8 (some .int) [(0, 13, 16, 13), (0, 13, 20, 15)], Cond.methodLink RL 23 yX11_setKind, Cond.instanceMethod yX11_setKind, Cond.selects RX11 yX11_setKind yX11_setKind, Cond.code yX11_setKind cX11_setKind 8 none, Cond.fieldLink RX11 143 "DurableLoom$Kind" "attempts" "I", Cond.fieldLink RX11 146 "DurableLoom$Kind" "pause" "I", Cond.fieldLink RX11 149 "DurableLoom$Kind" "toBegin" "I", Cond.fieldLink RX11 152 "DurableLoom$Kind" "toEnd" "I", Cond.fieldLink RX11 155 "DurableLoom$Kind" "beats" "I", Cond.methodLink RX11 135 yX11_kindAt, Cond.instanceMethod yX11_kindAt, Cond.selects RX11 yX11_kindAt yX11_kindAt, Cond.code yX11_kindAt cX11_kindAt 2 (some (.object "DurableLoom$Kind")), Cond.methodLink RL 153 yX12_setKind, Cond.instanceMethod yX12_setKind]
def wsL_law0_r18 : List Cond := [Cond.selects RX12 yX12_setKind yX12_setKind, Cond.code yX12_setKind cX12_setKind 9 none, Cond.methodLink RL 154 yL_setPolicy, Cond.static yL_setPolicy, Cond.codeWith yL_setPolicy cL_setPolicy 5 (some .int) [(0, 10, 13, 13), (0, 10, 17, 15)], Cond.methodLink RL 27 yX11_setPolicy, Cond.instanceMethod yX11_setPolicy, Cond.selects RX11 yX11_setPolicy yX11_setPolicy, Cond.code yX11_setPolicy cX11_setPolicy 5 (some .int), Cond.fieldLink RX11 160 "DurableLoom$Type" "policy" "I", Cond.methodLink RL 157 yX12_setPolicy, Cond.instanceMethod yX12_setPolicy, Cond.selects RX12 yX12_setPolicy yX12_setPolicy, Cond.code yX12_setPolicy cX12_setPolicy 4 (some .int), Cond.methodLink RL 158 yL_begin, Cond.static yL_begin, Cond.codeWith yL_begin cL_begin 6 (some .int) [(0, 12, 15, 13), (0, 12, 19, 15), (0, 12, 23, 17)], Cond.methodLink RL 31 yX11_begin, Cond.instanceMethod yX11_begin, Cond.selects RX11 yX11_begin yX11_begin, Cond.code yX11_begin cX11_begin 5 (some .int), Cond.fieldLink RX11 180 "DurableLoom$Run" "number" "I", Cond.methodLink RX11 163 yX11_checkTenant, Cond.instanceMethod yX11_checkTenant]
def wsL_law0_r19 : List Cond := [Cond.selects RX11 yX11_checkTenant yX11_checkTenant, Cond.code yX11_checkTenant cX11_checkTenant 2 none, Cond.methodLink RX11 167 yX11_checkValue, Cond.instanceMethod yX11_checkValue, Cond.selects RX11 yX11_checkValue yX11_checkValue, Cond.code yX11_checkValue cX11_checkValue 2 none, Cond.methodLink RX11 170 yJx4a65c_isEmpty_aae02, Cond.instanceMethod yJx4a65c_isEmpty_aae02, Cond.selects RJx4a65c yJx4a65c_isEmpty_aae02 yJx4a65c_isEmpty_aae02, Cond.code yJx4a65c_isEmpty_aae02 cJx4a65c_isEmpty_aae02 1 (some .boolean), Cond.methodLink RX11 176 yX11_startRun, Cond.instanceMethod yX11_startRun, Cond.selects RX11 yX11_startRun yX11_startRun, Cond.code yX11_startRun cX11_startRun 8 (some (.object "DurableLoom$Run")), Cond.methodLink RX11 496 yJ9_floorMod_7cf53, Cond.static yJ9_floorMod_7cf53, Cond.initialized RJ9, Cond.code yJ9_floorMod_7cf53 cJ9_floorMod_7cf53 3 (some .int), Cond.methodLink RX11 420 yX11_addRun, Cond.instanceMethod yX11_addRun, Cond.selects RX11 yX11_addRun yX11_addRun, Cond.code yX11_addRun cX11_addRun 7 (some (.object "DurableLoom$Run")), Cond.classLink RX11 181 RX6, Cond.instantiable RX6 20]
def wsL_law0_r20 : List Cond := [Cond.initialized RX6, Cond.methodLink RX11 534 yX6_init, Cond.instanceMethod yX6_init, Cond.code yX6_init cX6_init 7 none, Cond.methodLink RX6 3 objectInit, Cond.fieldLink RX6 9 "DurableLoom$Run" "status" "I", Cond.fieldLink RX6 15 "DurableLoom$Run" "difference" "I", Cond.fieldLink RX6 18 "DurableLoom$Run" "copied" "I", Cond.fieldLink RX6 21 "DurableLoom$Run" "cuts" "I", Cond.fieldLink RX6 24 "DurableLoom$Run" "lastTask" "I", Cond.fieldLink RX6 27 "DurableLoom$Run" "tag" "I", Cond.fieldLink RX6 30 "DurableLoom$Run" "keeper" "I", Cond.fieldLink RX6 33 "DurableLoom$Run" "keptMark" "I", Cond.fieldLink RX6 36 "DurableLoom$Run" "seenCounted" "I", Cond.fieldLink RX6 39 "DurableLoom$Run" "seenEvents" "I", Cond.classLink RX6 42 RX2, Cond.classLink RX6 44 RX5, Cond.fieldLink RX6 50 "DurableLoom$Run" "history" "LDurableLoom$History;", Cond.fieldLink RX6 54 "DurableLoom$Run" "timers" "LDurableLoom$Row;", Cond.fieldLink RX6 58 "DurableLoom$Run" "dues" "LDurableLoom$Row;", Cond.fieldLink RX6 61 "DurableLoom$Run" "lost" "LDurableLoom$Row;", Cond.fieldLink RX6 64 "DurableLoom$Run" "number" "I", Cond.fieldLink RX6 67 "DurableLoom$Run" "type" "I", Cond.fieldLink RX6 70 "DurableLoom$Run" "tenant" "I"]
def wsL_law0_r21 : List Cond := [Cond.fieldLink RX6 73 "DurableLoom$Run" "version" "I", Cond.fieldLink RX6 76 "DurableLoom$Run" "parent" "I", Cond.fieldLink RX6 79 "DurableLoom$Run" "parentEvent" "I", Cond.methodLink RX6 47 yX2_init, Cond.methodLink RX11 300 yJx4a65c_add_9ea2d, Cond.methodLink RX11 204 yX11_arrive, Cond.instanceMethod yX11_arrive, Cond.selects RX11 yX11_arrive yX11_arrive, Cond.code yX11_arrive cX11_arrive 5 none, Cond.fieldLink RX11 195 "DurableLoom$Run" "history" "LDurableLoom$History;", Cond.methodLink RX11 537 yX2_put, Cond.instanceMethod yX2_put, Cond.selects RX2 yX2_put yX2_put, Cond.code yX2_put cX2_put 7 none, Cond.constant RX2 34 (1048575), Cond.constant RX2 32 (524287), Cond.constant RX2 33 (1073741823), Cond.fieldLink RX2 39 "DurableLoom$Row" "size" "I", Cond.methodLink RX2 35 yX5_add, Cond.methodLink RL 161 yX12_begin, Cond.instanceMethod yX12_begin, Cond.selects RX12 yX12_begin yX12_begin, Cond.code yX12_begin cX12_begin 5 (some .int), Cond.fieldLink RX12 310 "DurableLoomModel" "runs" "I"]
def wsL_law0_r22 : List Cond := [Cond.methodLink RX12 570 yX12_isTenant, Cond.static yX12_isTenant, Cond.code yX12_isTenant cX12_isTenant 1 (some .boolean), Cond.methodLink RX12 573 yX12_isValue, Cond.static yX12_isValue, Cond.code yX12_isValue cX12_isValue 1 (some .boolean), Cond.methodLink RX12 576 yX12_makes, Cond.instanceMethod yX12_makes, Cond.selects RX12 yX12_makes yX12_makes, Cond.code yX12_makes cX12_makes 8 (some .int), Cond.methodLink RX12 360 yX12_puts, Cond.instanceMethod yX12_puts, Cond.selects RX12 yX12_puts yX12_puts, Cond.code yX12_puts cX12_puts 7 (some .int), Cond.fieldLink RX12 351 "DurableLoomModel" "pieces" "I", Cond.fieldLink RX12 354 "DurableLoomModel" "orders" "I", Cond.fieldLink RX12 357 "DurableLoomModel" "time" "I", Cond.methodLink RX12 331 yX12_at, Cond.instanceMethod yX12_at, Cond.selects RX12 yX12_at yX12_at, Cond.code yX12_at cX12_at 5 (some .int), Cond.methodLink RX12 347 yX12_counts, Cond.instanceMethod yX12_counts, Cond.selects RX12 yX12_counts yX12_counts]
def wsL_law0_r23 : List Cond := [Cond.code yX12_counts cX12_counts 4 none, Cond.methodLink RX12 338 yX12_most, Cond.static yX12_most, Cond.code yX12_most cX12_most 2 (some .int), Cond.methodLink RL 162 yL_signal, Cond.static yL_signal, Cond.codeWith yL_signal cL_signal 6 (some .int) [(0, 12, 15, 13), (0, 12, 19, 15), (0, 12, 23, 17)], Cond.methodLink RL 35 yX11_signal, Cond.instanceMethod yX11_signal, Cond.selects RX11 yX11_signal yX11_signal, Cond.code yX11_signal cX11_signal 5 (some .int), Cond.fieldLink RX11 199 "DurableLoom$History" "size" "I", Cond.methodLink RX11 185 yX11_runAt, Cond.instanceMethod yX11_runAt, Cond.selects RX11 yX11_runAt yX11_runAt, Cond.code yX11_runAt cX11_runAt 2 (some (.object "DurableLoom$Run")), Cond.classLink RX11 181 "DurableLoom$Run", Cond.methodLink RX11 305 yJx4a65c_get_915e3, Cond.instanceMethod yJx4a65c_get_915e3, Cond.selects RJx4a65c yJx4a65c_get_915e3 yJx4a65c_get_915e3, Cond.code yJx4a65c_get_915e3 cJx4a65c_get_915e3 2 (some (.object "java/lang/Object")), Cond.methodLink RJx4a65c 118 yJ15_checkIndex_7cf53, Cond.static yJ15_checkIndex_7cf53, Cond.initialized RJ15]
def wsL_law0_r24 : List Cond := [Cond.code yJ15_checkIndex_7cf53 cJ15_checkIndex_7cf53 2 (some .int), Cond.methodLink RJ15 105 yJ3_checkIndex_8e157, Cond.static yJ3_checkIndex_8e157, Cond.initialized RJ3, Cond.code yJ3_checkIndex_8e157 cJ3_checkIndex_8e157 3 (some .int), Cond.methodLink RJx4a65c 123 yJx4a65c_elementData_915e3, Cond.instanceMethod yJx4a65c_elementData_915e3, Cond.selects RJx4a65c yJx4a65c_elementData_915e3 yJx4a65c_elementData_915e3, Cond.code yJx4a65c_elementData_915e3 cJx4a65c_elementData_915e3 2 (some (.object "java/lang/Object")), Cond.methodLink RX11 189 yX11_checkName, Cond.instanceMethod yX11_checkName, Cond.selects RX11 yX11_checkName yX11_checkName, Cond.code yX11_checkName cX11_checkName 2 none, Cond.methodLink RX11 192 yX6_isAlive, Cond.instanceMethod yX6_isAlive, Cond.selects RX6 yX6_isAlive yX6_isAlive, Cond.code yX6_isAlive cX6_isAlive 1 (some .boolean), Cond.methodLink RL 164 yX12_signal, Cond.instanceMethod yX12_signal, Cond.selects RX12 yX12_signal yX12_signal, Cond.code yX12_signal cX12_signal 5 (some .int), Cond.methodLink RX12 580 yX12_isRun, Cond.instanceMethod yX12_isRun, Cond.selects RX12 yX12_isRun yX12_isRun]
def wsL_law0_r25 : List Cond := [Cond.code yX12_isRun cX12_isRun 2 (some .boolean), Cond.methodLink RX12 583 yX12_isName, Cond.static yX12_isName, Cond.code yX12_isName cX12_isName 1 (some .boolean), Cond.methodLink RX12 561 yX12_isAlive, Cond.instanceMethod yX12_isAlive, Cond.selects RX12 yX12_isAlive yX12_isAlive, Cond.code yX12_isAlive cX12_isAlive 2 (some .boolean), Cond.methodLink RL 165 yL_update, Cond.static yL_update, Cond.codeWith yL_update cL_update 6 (some .int) [(0, 19, 22, 13), (0, 19, 26, 15), (0, 19, 30, 17)], Cond.methodLink RL 38 yX11_update, Cond.instanceMethod yX11_update, Cond.selects RX11 yX11_update yX11_update, Cond.code yX11_update cX11_update 6 (some .boolean), Cond.fieldLink RX11 208 "DurableLoom$Run" "status" "I", Cond.fieldLink RX11 213 "DurableLoom$Run" "version" "I", Cond.fieldLink RX11 220 "DurableLoom$History" "counted" "I", Cond.fieldLink RX11 231 "DurableLoom$Machine" "state" "LDurableLoom$State;", Cond.methodLink RX11 216 yX11_codeOf, Cond.instanceMethod yX11_codeOf, Cond.selects RX11 yX11_codeOf yX11_codeOf, Cond.code yX11_codeOf cX11_codeOf 3 (some (.object "DurableLoom$Row")), Cond.methodLink RX11 526 yX11_typeOf]
def wsL_law0_r26 : List Cond := [Cond.instanceMethod yX11_typeOf, Cond.selects RX11 yX11_typeOf yX11_typeOf, Cond.code yX11_typeOf cX11_typeOf 2 (some (.object "DurableLoom$Type")), Cond.fieldLink RX11 404 "DurableLoom$Run" "type" "I", Cond.methodLink RX11 530 yX10_code, Cond.instanceMethod yX10_code, Cond.selects RX10 yX10_code yX10_code, Cond.code yX10_code cX10_code 2 (some (.object "DurableLoom$Row")), Cond.classLink RX10 16 "DurableLoom$Row", Cond.methodLink RX10 28 yJx4a65c_size_8abf5, Cond.methodLink RX10 32 yJx4a65c_get_915e3, Cond.methodLink RX11 223 yX4_follow, Cond.instanceMethod yX4_follow, Cond.selects RX4 yX4_follow yX4_follow, Cond.code yX4_follow cX4_follow 6 (some .boolean), Cond.fieldLink RX4 66 "DurableLoom$State" "taken" "I", Cond.fieldLink RX4 73 "DurableLoom$State" "arrivalAt" "I", Cond.fieldLink RX4 80 "DurableLoom$History" "size" "I", Cond.methodLink RX4 62 yX4_load, Cond.instanceMethod yX4_load, Cond.selects RX4 yX4_load yX4_load, Cond.code yX4_load cX4_load 4 none, Cond.fieldLink RX4 102 "DurableLoom$Run" "history" "LDurableLoom$History;", Cond.fieldLink RX4 105 "DurableLoom$Run" "seenCounted" "I"]
def wsL_law0_r27 : List Cond := [Cond.fieldLink RX4 106 "DurableLoom$Run" "seenEvents" "I", Cond.methodLink RX4 107 yX8_clear, Cond.instanceMethod yX8_clear, Cond.selects RX8 yX8_clear yX8_clear, Cond.code yX8_clear cX8_clear 2 none, Cond.methodLink RX8 65 yJ7_fill_53178, Cond.static yJ7_fill_53178, Cond.code yJ7_fill_53178 cJ7_fill_53178 4 none, Cond.methodLink RX8 71 yX5_cut, Cond.instanceMethod yX5_cut, Cond.selects RX5 yX5_cut yX5_cut, Cond.code yX5_cut cX5_cut 5 none, Cond.methodLink RX5 30 Lib.Math.max.name, Cond.methodLink RX5 36 Lib.Math.min.name, Cond.methodLink RX5 39 yJ7_copyOf_c38d5, Cond.static yJ7_copyOf_c38d5, Cond.code yJ7_copyOf_c38d5 cJ7_copyOf_c38d5 3 (some (.array .long)), Cond.methodLink RJ7 319 ⟨"[J", "clone", "()Ljava/lang/Object;"⟩, Cond.sameMethod "[J" "java/lang/Object" "clone" "()Ljava/lang/Object;", Cond.native ⟨"java/lang/Object", "clone", "()Ljava/lang/Object;"⟩, Cond.instanceMethod ⟨"java/lang/Object", "clone", "()Ljava/lang/Object;"⟩, Cond.selects "[J" ⟨"[J", "clone", "()Ljava/lang/Object;"⟩ ⟨"java/lang/Object", "clone", "()Ljava/lang/Object;"⟩, Cond.classLink RJ7 320 "[J", Cond.methodLink RX4 110 yX2_cut]
def wsL_law0_r28 : List Cond := [Cond.instanceMethod yX2_cut, Cond.selects RX2 yX2_cut yX2_cut, Cond.code yX2_cut cX2_cut 2 none, Cond.methodLink RX2 40 yX5_cut, Cond.methodLink RX2 44 yX2_countAgain, Cond.instanceMethod yX2_countAgain, Cond.selects RX2 yX2_countAgain yX2_countAgain, Cond.code yX2_countAgain cX2_countAgain 3 none, Cond.methodLink RX2 51 yX2_kind, Cond.instanceMethod yX2_kind, Cond.selects RX2 yX2_kind yX2_kind, Cond.code yX2_kind cX2_kind 2 (some .int), Cond.methodLink RX2 26 yX5_wide, Cond.instanceMethod yX5_wide, Cond.selects RX5 yX5_wide yX5_wide, Cond.code yX5_wide cX5_wide 4 (some .long), Cond.methodLink RX2 55 yX2_x, Cond.instanceMethod yX2_x, Cond.selects RX2 yX2_x yX2_x, Cond.code yX2_x cX2_x 2 (some .int), Cond.methodLink RX4 69 yX4_goes, Cond.instanceMethod yX4_goes, Cond.selects RX4 yX4_goes yX4_goes, Cond.code yX4_goes cX4_goes 1 (some .boolean)]
def wsL_law0_r29 : List Cond := [Cond.fieldLink RX4 120 "DurableLoom$State" "over" "I", Cond.methodLink RX4 76 yX2_nextArrival, Cond.instanceMethod yX2_nextArrival, Cond.selects RX2 yX2_nextArrival yX2_nextArrival, Cond.code yX2_nextArrival cX2_nextArrival 3 (some .int), Cond.methodLink RX2 58 Lib.Math.max.name, Cond.constantLong RX2 64 (7), Cond.methodLink RX4 83 yX2_kind, Cond.methodLink RX4 86 yX2_x, Cond.methodLink RX4 89 yX2_y, Cond.instanceMethod yX2_y, Cond.selects RX2 yX2_y yX2_y, Cond.code yX2_y cX2_y 2 (some .int), Cond.methodLink RX4 92 yX4_note, Cond.instanceMethod yX4_note, Cond.selects RX4 yX4_note yX4_note, Cond.code yX4_note cX4_note 4 none, Cond.fieldLink RX4 145 "DurableLoom$State" "cancelTaken" "Z", Cond.methodLink RX4 129 yX8_set, Cond.instanceMethod yX8_set, Cond.selects RX8 yX8_set yX8_set, Cond.code yX8_set cX8_set 3 none, Cond.methodLink RX4 133 yX8_beginBranch, Cond.instanceMethod yX8_beginBranch]
def wsL_law0_r30 : List Cond := [Cond.selects RX8 yX8_beginBranch yX8_beginBranch, Cond.code yX8_beginBranch cX8_beginBranch 4 (some .int), Cond.methodLink RX8 97 yX1_start, Cond.instanceMethod yX1_start, Cond.selects RX1 yX1_start yX1_start, Cond.code yX1_start cX1_start 4 none, Cond.methodLink RX4 137 yX8_queue, Cond.instanceMethod yX8_queue, Cond.selects RX8 yX8_queue yX8_queue, Cond.code yX8_queue cX8_queue 2 (some (.object "DurableLoom$Row")), Cond.methodLink RX8 88 yJ9_floorMod_7cf53, Cond.methodLink RX4 141 yX5_add, Cond.methodLink RX4 148 yX4_tellCancel, Cond.instanceMethod yX4_tellCancel, Cond.selects RX4 yX4_tellCancel yX4_tellCancel, Cond.code yX4_tellCancel cX4_tellCancel 3 none, Cond.fieldLink RX4 180 "DurableLoom$State" "there" "I", Cond.fieldLink RX4 186 "DurableLoom$Branch" "shields" "I", Cond.fieldLink RX4 189 "DurableLoom$Branch" "owed" "Z", Cond.fieldLink RX4 195 "DurableLoom$Branch" "waitsFor" "I", Cond.methodLink RX4 183 yX8_branchAt, Cond.instanceMethod yX8_branchAt, Cond.selects RX8 yX8_branchAt yX8_branchAt, Cond.code yX8_branchAt cX8_branchAt 2 (some (.object "DurableLoom$Branch"))]
def wsL_law0_r31 : List Cond := [Cond.methodLink RX4 192 yX1_waitsForEvent, Cond.instanceMethod yX1_waitsForEvent, Cond.selects RX1 yX1_waitsForEvent yX1_waitsForEvent, Cond.code yX1_waitsForEvent cX1_waitsForEvent 1 (some .boolean), Cond.methodLink RX4 198 yX4_command, Cond.instanceMethod yX4_command, Cond.selects RX4 yX4_command yX4_command, Cond.code yX4_command cX4_command 5 (some .int), Cond.fieldLink RX4 114 "DurableLoom$State" "commandAt" "I", Cond.fieldLink RX4 228 "DurableLoom$History" "counted" "I", Cond.methodLink RX4 123 yX2_nextCommand, Cond.instanceMethod yX2_nextCommand, Cond.selects RX2 yX2_nextCommand yX2_nextCommand, Cond.code yX2_nextCommand cX2_nextCommand 3 (some .int), Cond.constantLong RX2 66 (17), Cond.methodLink RX4 220 yX4_seen, Cond.instanceMethod yX4_seen, Cond.selects RX4 yX4_seen yX4_seen, Cond.code yX4_seen cX4_seen 1 (some .int), Cond.methodLink RX4 224 yX2_is, Cond.instanceMethod yX2_is, Cond.selects RX2 yX2_is yX2_is, Cond.code yX2_is cX2_is 7 (some .boolean), Cond.methodLink RX4 126 yX4_getStuck]
def wsL_law0_r32 : List Cond := [Cond.instanceMethod yX4_getStuck, Cond.selects RX4 yX4_getStuck yX4_getStuck, Cond.code yX4_getStuck cX4_getStuck 2 none, Cond.methodLink RX4 231 yX2_taskBeyond, Cond.instanceMethod yX2_taskBeyond, Cond.selects RX2 yX2_taskBeyond yX2_taskBeyond, Cond.code yX2_taskBeyond cX2_taskBeyond 3 (some .int), Cond.methodLink RX4 234 yX2_put, Cond.methodLink RX4 177 yX4_failBranch, Cond.instanceMethod yX4_failBranch, Cond.selects RX4 yX4_failBranch yX4_failBranch, Cond.code yX4_failBranch cX4_failBranch 2 none, Cond.fieldLink RX4 168 "DurableLoom$Branch" "line" "I", Cond.fieldLink RX4 202 "DurableLoom$Branch" "handlers" "I", Cond.methodLink RX4 171 yX1_goOnAt, Cond.instanceMethod yX1_goOnAt, Cond.selects RX1 yX1_goOnAt yX1_goOnAt, Cond.code yX1_goOnAt cX1_goOnAt 2 none, Cond.methodLink RX4 205 yX8_top, Cond.instanceMethod yX8_top, Cond.selects RX8 yX8_top yX8_top, Cond.code yX8_top cX8_top 2 (some .int), Cond.constantLong RX8 75 (10000), Cond.methodLink RX8 84 yX5_wide]
def wsL_law0_r33 : List Cond := [Cond.methodLink RX4 208 yX8_popped, Cond.instanceMethod yX8_popped, Cond.selects RX8 yX8_popped yX8_popped, Cond.code yX8_popped cX8_popped 2 (some .int), Cond.methodLink RX4 151 yX8_waiterFor, Cond.instanceMethod yX8_waiterFor, Cond.selects RX8 yX8_waiterFor yX8_waiterFor, Cond.code yX8_waiterFor cX8_waiterFor 3 (some (.object "DurableLoom$Branch")), Cond.fieldLink RX8 111 "DurableLoom$Branch" "waitsFor" "I", Cond.methodLink RX8 125 yX1_waitsForEvent, Cond.methodLink RX4 155 yX4_noteFailure, Cond.instanceMethod yX4_noteFailure, Cond.selects RX4 yX4_noteFailure yX4_noteFailure, Cond.code yX4_noteFailure cX4_noteFailure 2 none, Cond.fieldLink RX4 163 "DurableLoom$Branch" "waits" "I", Cond.methodLink RX4 159 yX4_noteEnd, Cond.instanceMethod yX4_noteEnd, Cond.selects RX4 yX4_noteEnd yX4_noteEnd, Cond.code yX4_noteEnd cX4_noteEnd 4 none, Cond.methodLink RX4 174 yX5_at, Cond.instanceMethod yX5_at, Cond.selects RX5 yX5_at yX5_at, Cond.code yX5_at cX5_at 2 (some .int), Cond.methodLink RX5 22 yX5_wide]
def wsL_law0_r34 : List Cond := [Cond.methodLink RX4 96 yX4_goOn, Cond.instanceMethod yX4_goOn, Cond.selects RX4 yX4_goOn yX4_goOn, Cond.code yX4_goOn cX4_goOn 5 none, Cond.fieldLink RX4 245 "DurableLoom$Row" "size" "I", Cond.constant RX4 249 (1000000), Cond.methodLink RX4 238 yX8_firstAble, Cond.instanceMethod yX8_firstAble, Cond.selects RX8 yX8_firstAble yX8_firstAble, Cond.code yX8_firstAble cX8_firstAble 2 (some (.object "DurableLoom$Branch")), Cond.methodLink RX8 104 yX8_isAble, Cond.instanceMethod yX8_isAble, Cond.selects RX8 yX8_isAble yX8_isAble, Cond.code yX8_isAble cX8_isAble 2 (some .boolean), Cond.fieldLink RX8 108 "DurableLoom$Branch" "waits" "I", Cond.fieldLink RX8 81 "DurableLoom$Row" "size" "I", Cond.fieldLink RX8 94 "DurableLoom$Branch" "number" "I", Cond.methodLink RX8 114 yX8_queue, Cond.methodLink RX8 118 yX8_isParent, Cond.instanceMethod yX8_isParent, Cond.selects RX8 yX8_isParent yX8_isParent, Cond.code yX8_isParent cX8_isParent 3 (some .boolean), Cond.fieldLink RX8 122 "DurableLoom$Branch" "parent" "I", Cond.methodLink RX4 242 yX4_awake]
def wsL_law0_r35 : List Cond := [Cond.instanceMethod yX4_awake, Cond.selects RX4 yX4_awake yX4_awake, Cond.code yX4_awake cX4_awake 3 none, Cond.methodLink RX4 263 yX5_removeAt, Cond.instanceMethod yX5_removeAt, Cond.selects RX5 yX5_removeAt yX5_removeAt, Cond.code yX5_removeAt cX5_removeAt 3 none, Cond.methodLink RX5 26 yX5_put, Cond.instanceMethod yX5_put, Cond.selects RX5 yX5_put yX5_put, Cond.code yX5_put cX5_put 6 none, Cond.methodLink RX4 246 yX4_endBranch, Cond.instanceMethod yX4_endBranch, Cond.selects RX4 yX4_endBranch yX4_endBranch, Cond.code yX4_endBranch cX4_endBranch 2 none, Cond.fieldLink RX4 211 "DurableLoom$Branch" "number" "I", Cond.methodLink RX4 214 yX8_remove, Cond.instanceMethod yX8_remove, Cond.selects RX8 yX8_remove yX8_remove, Cond.code yX8_remove cX8_remove 4 none, Cond.fieldLink RX8 101 "DurableLoom$Branch" "above" "I", Cond.methodLink RX4 217 yX8_value, Cond.instanceMethod yX8_value, Cond.selects RX8 yX8_value yX8_value]
def wsL_law0_r36 : List Cond := [Cond.code yX8_value cX8_value 2 (some .int), Cond.methodLink RX4 250 yX4_doPlainLine, Cond.instanceMethod yX4_doPlainLine, Cond.selects RX4 yX4_doPlainLine yX4_doPlainLine, Cond.code yX4_doPlainLine cX4_doPlainLine 6 none, Cond.methodLink RX4 266 yX1_waitFor, Cond.instanceMethod yX1_waitFor, Cond.selects RX1 yX1_waitFor yX1_waitFor, Cond.code yX1_waitFor cX1_waitFor 3 none, Cond.methodLink RX4 254 yX4_doBranchLine, Cond.instanceMethod yX4_doBranchLine, Cond.selects RX4 yX4_doBranchLine yX4_doBranchLine, Cond.code yX4_doBranchLine cX4_doBranchLine 4 none, Cond.methodLink RX4 269 yX4_beginBelow, Cond.instanceMethod yX4_beginBelow, Cond.selects RX4 yX4_beginBelow yX4_beginBelow, Cond.code yX4_beginBelow cX4_beginBelow 3 (some (.object "DurableLoom$Branch")), Cond.methodLink RX4 286 yX8_find, Cond.instanceMethod yX8_find, Cond.selects RX8 yX8_find yX8_find, Cond.code yX8_find cX8_find 3 (some (.object "DurableLoom$Branch")), Cond.methodLink RX4 273 yX4_race, Cond.instanceMethod yX4_race, Cond.selects RX4 yX4_race yX4_race]
def wsL_law0_r37 : List Cond := [Cond.code yX4_race cX4_race 4 none, Cond.fieldLink RX4 289 "DurableLoom$Branch" "rival" "I", Cond.methodLink RX4 277 yX4_win, Cond.instanceMethod yX4_win, Cond.selects RX4 yX4_win yX4_win, Cond.code yX4_win cX4_win 3 none, Cond.fieldLink RX4 292 "DurableLoom$Branch" "parent" "I", Cond.methodLink RX4 295 yX8_doom, Cond.instanceMethod yX8_doom, Cond.selects RX8 yX8_doom yX8_doom, Cond.code yX8_doom cX8_doom 4 none, Cond.fieldLink RX8 129 "DurableLoom$Branch" "doomed" "Z", Cond.methodLink RX8 132 yX8_find, Cond.methodLink RX4 280 yX4_dropDoomed, Cond.instanceMethod yX4_dropDoomed, Cond.selects RX4 yX4_dropDoomed yX4_dropDoomed, Cond.code yX4_dropDoomed cX4_dropDoomed 3 none, Cond.fieldLink RX4 298 "DurableLoom$Branch" "doomed" "Z", Cond.methodLink RX4 283 yX8_pushed, Cond.instanceMethod yX8_pushed, Cond.selects RX8 yX8_pushed yX8_pushed, Cond.code yX8_pushed cX8_pushed 3 (some .int), Cond.methodLink RX8 77 yX5_add, Cond.methodLink RX4 257 yX4_doEndingLine]
def wsL_law0_r38 : List Cond := [Cond.instanceMethod yX4_doEndingLine, Cond.selects RX4 yX4_doEndingLine yX4_doEndingLine, Cond.code yX4_doEndingLine cX4_doEndingLine 5 none, Cond.fieldLink RX4 301 "DurableLoom$State" "compensations" "I", Cond.methodLink RX4 304 yX4_undo, Cond.instanceMethod yX4_undo, Cond.selects RX4 yX4_undo yX4_undo, Cond.code yX4_undo cX4_undo 3 none, Cond.methodLink RX4 260 yX4_doOtherLine, Cond.instanceMethod yX4_doOtherLine, Cond.selects RX4 yX4_doOtherLine yX4_doOtherLine, Cond.code yX4_doOtherLine cX4_doOtherLine 7 none, Cond.methodLink RX4 307 yX4_patch, Cond.instanceMethod yX4_patch, Cond.selects RX4 yX4_patch yX4_patch, Cond.code yX4_patch cX4_patch 5 (some .boolean), Cond.fieldLink RX4 317 "DurableLoom$State" "patches" "I", Cond.methodLink RX4 311 yX2_clockOfArrival, Cond.instanceMethod yX2_clockOfArrival, Cond.selects RX2 yX2_clockOfArrival yX2_clockOfArrival, Cond.code yX2_clockOfArrival cX2_clockOfArrival 2 (some .int), Cond.methodLink RX4 314 yX1_isBare, Cond.instanceMethod yX1_isBare, Cond.selects RX1 yX1_isBare yX1_isBare]
def wsL_law0_r39 : List Cond := [Cond.code yX1_isBare cX1_isBare 2 (some .boolean), Cond.methodLink RX1 44 Lib.Math.max.name, Cond.methodLink RX4 99 yX4_passTasks, Cond.instanceMethod yX4_passTasks, Cond.selects RX4 yX4_passTasks yX4_passTasks, Cond.code yX4_passTasks cX4_passTasks 3 none, Cond.fieldLink RX4 117 "DurableLoom$State" "taskAt" "I", Cond.methodLink RX11 227 yX2_hasNewSignal, Cond.instanceMethod yX2_hasNewSignal, Cond.selects RX2 yX2_hasNewSignal yX2_hasNewSignal, Cond.code yX2_hasNewSignal cX2_hasNewSignal 3 (some .boolean), Cond.methodLink RX2 68 yX2_firstNew, Cond.instanceMethod yX2_firstNew, Cond.selects RX2 yX2_firstNew yX2_firstNew, Cond.code yX2_firstNew cX2_firstNew 3 (some .int), Cond.methodLink RX11 235 yX8_waitsForSignal, Cond.instanceMethod yX8_waitsForSignal, Cond.selects RX8 yX8_waitsForSignal yX8_waitsForSignal, Cond.code yX8_waitsForSignal cX8_waitsForSignal 3 (some .boolean), Cond.methodLink RL 167 yX12_update, Cond.instanceMethod yX12_update, Cond.selects RX12 yX12_update yX12_update, Cond.code yX12_update cX12_update 6 (some .boolean), Cond.methodLink RX12 586 yX12_isSafe]
def wsL_law0_r40 : List Cond := [Cond.instanceMethod yX12_isSafe, Cond.selects RX12 yX12_isSafe yX12_isSafe, Cond.code yX12_isSafe cX12_isSafe 4 (some .boolean), Cond.fieldLink RX12 374 "DurableLoomModel" "isStuck" "Z", Cond.methodLink RX12 545 yX12_tellsRun, Cond.instanceMethod yX12_tellsRun, Cond.selects RX12 yX12_tellsRun yX12_tellsRun, Cond.code yX12_tellsRun cX12_tellsRun 7 none, Cond.fieldLink RX12 387 "DurableLoomModel" "told" "I", Cond.fieldLink RX12 384 "DurableLoomModel" "seen" "I", Cond.fieldLink RX12 390 "DurableLoomModel" "later" "I", Cond.fieldLink RX12 533 "DurableLoomModel" "nextTask" "I", Cond.fieldLink RX12 471 "DurableLoomModel" "toldVersion" "I", Cond.fieldLink RX12 368 "DurableLoomModel" "branches" "I", Cond.fieldLink RX12 422 "DurableLoomModel" "begun" "I", Cond.fieldLink RX12 483 "DurableLoomModel" "handlers" "I", Cond.fieldLink RX12 458 "DurableLoomModel" "undos" "I", Cond.fieldLink RX12 465 "DurableLoomModel" "patches" "I", Cond.fieldLink RX12 518 "DurableLoomModel" "wasCancelled" "Z", Cond.fieldLink RX12 371 "DurableLoomModel" "over" "I", Cond.fieldLink RX12 381 "DurableLoomModel" "met" "I", Cond.fieldLink RX12 404 "DurableLoomModel" "arrival" "I", Cond.fieldLink RX12 416 "DurableLoomModel" "fresh" "I", Cond.fieldLink RX12 536 "DurableLoomModel" "takenArrivals" "I"]
def wsL_law0_r41 : List Cond := [Cond.fieldLink RX12 407 "DurableLoomModel" "counted" "I", Cond.methodLink RX12 341 yX12_kindAt, Cond.instanceMethod yX12_kindAt, Cond.selects RX12 yX12_kindAt yX12_kindAt, Cond.code yX12_kindAt cX12_kindAt 3 (some .int), Cond.methodLink RX12 539 yX12_takes, Cond.instanceMethod yX12_takes, Cond.selects RX12 yX12_takes yX12_takes, Cond.code yX12_takes cX12_takes 5 none, Cond.fieldLink RX12 494 "DurableLoomModel" "arrivalTime" "I", Cond.methodLink RX12 344 yX12_xAt, Cond.instanceMethod yX12_xAt, Cond.selects RX12 yX12_xAt yX12_xAt, Cond.code yX12_xAt cX12_xAt 3 (some .int), Cond.constantLong RX12 334 (524287), Cond.methodLink RX12 397 yX12_yAt, Cond.instanceMethod yX12_yAt, Cond.selects RX12 yX12_yAt yX12_yAt, Cond.code yX12_yAt cX12_yAt 3 (some .int), Cond.methodLink RX12 521 yX12_whenAt, Cond.instanceMethod yX12_whenAt, Cond.selects RX12 yX12_whenAt yX12_whenAt, Cond.code yX12_whenAt cX12_whenAt 3 (some .int), Cond.constantLong RX12 336 (536870911)]
def wsL_law0_r42 : List Cond := [Cond.methodLink RX12 455 yX12_begins, Cond.instanceMethod yX12_begins, Cond.selects RX12 yX12_begins yX12_begins, Cond.code yX12_begins cX12_begins 3 none, Cond.methodLink RX12 419 yX12_spins, Cond.instanceMethod yX12_spins, Cond.selects RX12 yX12_spins yX12_spins, Cond.code yX12_spins cX12_spins 1 none, Cond.fieldLink RX12 378 "DurableLoomModel" "wrong" "I", Cond.methodLink RX12 524 yX12_isCancelled, Cond.instanceMethod yX12_isCancelled, Cond.selects RX12 yX12_isCancelled yX12_isCancelled, Cond.code yX12_isCancelled cX12_isCancelled 2 none, Cond.methodLink RX12 439 yX12_goes, Cond.instanceMethod yX12_goes, Cond.selects RX12 yX12_goes yX12_goes, Cond.code yX12_goes cX12_goes 1 (some .boolean), Cond.methodLink RX12 468 yX12_cancelsBranch, Cond.instanceMethod yX12_cancelsBranch, Cond.selects RX12 yX12_cancelsBranch yX12_cancelsBranch, Cond.code yX12_cancelsBranch cX12_cancelsBranch 2 none, Cond.methodLink RX12 436 yX12_lets, Cond.instanceMethod yX12_lets, Cond.selects RX12 yX12_lets yX12_lets]
def wsL_law0_r43 : List Cond := [Cond.code yX12_lets cX12_lets 2 none, Cond.methodLink RX12 425 yX12_commands, Cond.instanceMethod yX12_commands, Cond.selects RX12 yX12_commands yX12_commands, Cond.code yX12_commands cX12_commands 5 (some .int), Cond.methodLink RX12 393 yX12_nextCommand, Cond.instanceMethod yX12_nextCommand, Cond.selects RX12 yX12_nextCommand yX12_nextCommand, Cond.code yX12_nextCommand cX12_nextCommand 1 (some .int), Cond.methodLink RX12 400 yX12_differs, Cond.instanceMethod yX12_differs, Cond.selects RX12 yX12_differs yX12_differs, Cond.code yX12_differs cX12_differs 2 none, Cond.methodLink RX12 410 yX12_firstTask, Cond.instanceMethod yX12_firstTask, Cond.selects RX12 yX12_firstTask yX12_firstTask, Cond.code yX12_firstTask cX12_firstTask 2 (some .int), Cond.methodLink RX12 413 yX12_nextLater, Cond.instanceMethod yX12_nextLater, Cond.selects RX12 yX12_nextLater yX12_nextLater, Cond.code yX12_nextLater cX12_nextLater 1 (some .int), Cond.methodLink RX12 443 yX12_failsBranch, Cond.instanceMethod yX12_failsBranch, Cond.selects RX12 yX12_failsBranch yX12_failsBranch]
def wsL_law0_r44 : List Cond := [Cond.code yX12_failsBranch cX12_failsBranch 2 none, Cond.methodLink RX12 429 yX12_endsRun, Cond.instanceMethod yX12_endsRun, Cond.selects RX12 yX12_endsRun yX12_endsRun, Cond.code yX12_endsRun cX12_endsRun 4 none, Cond.methodLink RX12 527 yX12_comesBack, Cond.instanceMethod yX12_comesBack, Cond.selects RX12 yX12_comesBack yX12_comesBack, Cond.code yX12_comesBack cX12_comesBack 6 none, Cond.methodLink RX12 515 yX12_waiting, Cond.instanceMethod yX12_waiting, Cond.selects RX12 yX12_waiting yX12_waiting, Cond.code yX12_waiting cX12_waiting 4 (some .int), Cond.methodLink RX12 530 yX12_goOn, Cond.instanceMethod yX12_goOn, Cond.selects RX12 yX12_goOn yX12_goOn, Cond.code yX12_goOn cX12_goOn 2 none, Cond.fieldLink RX12 503 "DurableLoomModel" "steps" "I", Cond.methodLink RX12 506 yX12_canGoOn, Cond.instanceMethod yX12_canGoOn, Cond.selects RX12 yX12_canGoOn yX12_canGoOn, Cond.code yX12_canGoOn cX12_canGoOn 3 (some .boolean), Cond.methodLink RX12 500 yX12_hasChild, Cond.instanceMethod yX12_hasChild]
def wsL_law0_r45 : List Cond := [Cond.selects RX12 yX12_hasChild yX12_hasChild, Cond.code yX12_hasChild cX12_hasChild 4 (some .boolean), Cond.methodLink RX12 509 yX12_walks, Cond.instanceMethod yX12_walks, Cond.selects RX12 yX12_walks yX12_walks, Cond.code yX12_walks cX12_walks 3 none, Cond.methodLink RX12 449 yX12_slot, Cond.instanceMethod yX12_slot, Cond.selects RX12 yX12_slot yX12_slot, Cond.code yX12_slot cX12_slot 4 (some .int), Cond.methodLink RX12 489 yX12_endsBranch, Cond.instanceMethod yX12_endsBranch, Cond.selects RX12 yX12_endsBranch yX12_endsBranch, Cond.code yX12_endsBranch cX12_endsBranch 2 none, Cond.methodLink RX12 433 yX12_removes, Cond.instanceMethod yX12_removes, Cond.selects RX12 yX12_removes yX12_removes, Cond.code yX12_removes cX12_removes 3 none, Cond.methodLink RX12 512 yX12_does, Cond.instanceMethod yX12_does, Cond.selects RX12 yX12_does yX12_does, Cond.code yX12_does cX12_does 5 none, Cond.methodLink RX12 461 yX12_awaits, Cond.instanceMethod yX12_awaits]
def wsL_law0_r46 : List Cond := [Cond.selects RX12 yX12_awaits yX12_awaits, Cond.code yX12_awaits cX12_awaits 5 none, Cond.methodLink RX12 474 yX12_races, Cond.instanceMethod yX12_races, Cond.selects RX12 yX12_races yX12_races, Cond.code yX12_races cX12_races 4 none, Cond.methodLink RX12 477 yX12_wins, Cond.instanceMethod yX12_wins, Cond.selects RX12 yX12_wins yX12_wins, Cond.code yX12_wins cX12_wins 6 none, Cond.methodLink RX12 452 yX12_dropsBranch, Cond.instanceMethod yX12_dropsBranch, Cond.selects RX12 yX12_dropsBranch yX12_dropsBranch, Cond.code yX12_dropsBranch cX12_dropsBranch 3 none, Cond.methodLink RX12 446 yX12_isBelow, Cond.instanceMethod yX12_isBelow, Cond.selects RX12 yX12_isBelow yX12_isBelow, Cond.code yX12_isBelow cX12_isBelow 4 (some .boolean), Cond.methodLink RX12 480 yX12_doesMore, Cond.instanceMethod yX12_doesMore, Cond.selects RX12 yX12_doesMore yX12_doesMore, Cond.code yX12_doesMore cX12_doesMore 5 none, Cond.methodLink RX12 486 yX12_undoes, Cond.instanceMethod yX12_undoes]
def wsL_law0_r47 : List Cond := [Cond.selects RX12 yX12_undoes yX12_undoes, Cond.code yX12_undoes cX12_undoes 3 none, Cond.methodLink RX12 492 yX12_patches, Cond.instanceMethod yX12_patches, Cond.selects RX12 yX12_patches yX12_patches, Cond.code yX12_patches cX12_patches 7 none, Cond.methodLink RX12 497 yX12_bares, Cond.instanceMethod yX12_bares, Cond.selects RX12 yX12_bares yX12_bares, Cond.code yX12_bares cX12_bares 2 none, Cond.methodLink RX12 542 yX12_goesBy, Cond.instanceMethod yX12_goesBy, Cond.selects RX12 yX12_goesBy yX12_goesBy, Cond.code yX12_goesBy cX12_goesBy 2 none, Cond.methodLink RX12 589 yX12_isWanted, Cond.instanceMethod yX12_isWanted, Cond.selects RX12 yX12_isWanted yX12_isWanted, Cond.code yX12_isWanted cX12_isWanted 7 (some .boolean), Cond.methodLink RL 168 yL_cancel, Cond.static yL_cancel, Cond.codeWith yL_cancel cL_cancel 4 (some .int) [(0, 16, 19, 13), (0, 16, 22, 17)], Cond.methodLink RL 42 yX11_cancel, Cond.instanceMethod yX11_cancel, Cond.selects RX11 yX11_cancel yX11_cancel]
def wsL_law0_r48 : List Cond := [Cond.code yX11_cancel cX11_cancel 3 (some .boolean), Cond.methodLink RX11 242 yX11_cancelRun, Cond.instanceMethod yX11_cancelRun, Cond.selects RX11 yX11_cancelRun yX11_cancelRun, Cond.code yX11_cancelRun cX11_cancelRun 2 (some .boolean), Cond.methodLink RX11 540 yX2_has, Cond.instanceMethod yX2_has, Cond.selects RX2 yX2_has yX2_has, Cond.code yX2_has cX2_has 3 (some .boolean), Cond.methodLink RL 170 yX12_cancel, Cond.instanceMethod yX12_cancel, Cond.selects RX12 yX12_cancel yX12_cancel, Cond.code yX12_cancel cX12_cancel 3 (some .boolean), Cond.methodLink RX12 558 yX12_cancels, Cond.instanceMethod yX12_cancels, Cond.selects RX12 yX12_cancels yX12_cancels, Cond.code yX12_cancels cX12_cancels 3 (some .boolean), Cond.methodLink RX12 364 yX12_hasCome, Cond.instanceMethod yX12_hasCome, Cond.selects RX12 yX12_hasCome yX12_hasCome, Cond.code yX12_hasCome cX12_hasCome 5 (some .boolean), Cond.methodLink RL 171 yL_query, Cond.static yL_query, Cond.codeWith yL_query cL_query 5 (some .int) [(0, 10, 13, 13), (0, 10, 17, 17)]]
def wsL_law0_r49 : List Cond := [Cond.methodLink RL 46 yX11_query, Cond.instanceMethod yX11_query, Cond.selects RX11 yX11_query yX11_query, Cond.code yX11_query cX11_query 4 (some .int), Cond.methodLink RX11 246 yX11_checkVariable, Cond.instanceMethod yX11_checkVariable, Cond.selects RX11 yX11_checkVariable yX11_checkVariable, Cond.code yX11_checkVariable cX11_checkVariable 2 none, Cond.methodLink RX11 251 yX8_value, Cond.methodLink RL 173 yX12_query, Cond.instanceMethod yX12_query, Cond.selects RX12 yX12_query yX12_query, Cond.code yX12_query cX12_query 3 (some .int), Cond.methodLink RX12 592 yX12_asks, Cond.instanceMethod yX12_asks, Cond.selects RX12 yX12_asks yX12_asks, Cond.code yX12_asks cX12_asks 5 (some .int), Cond.methodLink RL 174 yL_plain, Cond.static yL_plain, Cond.codeWith yL_plain cL_plain 5 (some .int) [(0, 10, 13, 13), (0, 10, 17, 17)], Cond.methodLink RL 49 yX11_plain, Cond.instanceMethod yX11_plain, Cond.selects RX11 yX11_plain yX11_plain, Cond.code yX11_plain cX11_plain 4 (some .int)]
def wsL_law0_r50 : List Cond := [Cond.methodLink RL 176 yX12_plain, Cond.instanceMethod yX12_plain, Cond.selects RX12 yX12_plain yX12_plain, Cond.code yX12_plain cX12_plain 3 (some .int), Cond.methodLink RL 177 yL_standing, Cond.static yL_standing, Cond.codeWith yL_standing cL_standing 4 (some .int) [(0, 9, 12, 13)], Cond.methodLink RL 52 yX11_standing, Cond.instanceMethod yX11_standing, Cond.selects RX11 yX11_standing yX11_standing, Cond.code yX11_standing cX11_standing 3 (some .int), Cond.methodLink RL 179 yX12_standing, Cond.instanceMethod yX12_standing, Cond.selects RX12 yX12_standing yX12_standing, Cond.code yX12_standing cX12_standing 2 (some .int), Cond.methodLink RL 180 yL_event, Cond.static yL_event, Cond.codeWith yL_event cL_event 5 (some .int) [(0, 10, 13, 13)], Cond.methodLink RL 55 yX11_event, Cond.instanceMethod yX11_event, Cond.selects RX11 yX11_event yX11_event, Cond.code yX11_event cX11_event 4 (some .int), Cond.constant RX11 260 (1000000), Cond.methodLink RX11 261 yX2_kind]
def wsL_law0_r51 : List Cond := [Cond.methodLink RX11 264 yX2_x, Cond.methodLink RX11 267 yX2_y, Cond.methodLink RL 182 yX12_event, Cond.instanceMethod yX12_event, Cond.selects RX12 yX12_event yX12_event, Cond.code yX12_event cX12_event 4 (some .int), Cond.constant RX12 595 (1000000), Cond.methodLink RL 183 yL_difference, Cond.static yL_difference, Cond.codeWith yL_difference cL_difference 4 (some .int) [(0, 9, 12, 13), (0, 9, 15, 17)], Cond.methodLink RL 58 yX11_difference, Cond.instanceMethod yX11_difference, Cond.selects RX11 yX11_difference yX11_difference, Cond.code yX11_difference cX11_difference 3 (some .int), Cond.fieldLink RX11 272 "DurableLoom$Run" "difference" "I", Cond.methodLink RL 185 yX12_difference, Cond.instanceMethod yX12_difference, Cond.selects RX12 yX12_difference yX12_difference, Cond.code yX12_difference cX12_difference 3 (some .int), Cond.methodLink RL 186 yX11_runs, Cond.instanceMethod yX11_runs, Cond.selects RX11 yX11_runs yX11_runs, Cond.code yX11_runs cX11_runs 1 (some .int), Cond.methodLink RL 189 yX12_runs]
def wsL_law0_r52 : List Cond := [Cond.instanceMethod yX12_runs, Cond.selects RX12 yX12_runs yX12_runs, Cond.code yX12_runs cX12_runs 1 (some .int), Cond.methodLink RX12 596 yX12_tells, Cond.instanceMethod yX12_tells, Cond.selects RX12 yX12_tells yX12_tells, Cond.code yX12_tells cX12_tells 2 (some .int), Cond.methodLink RL 190 yL_setRate, Cond.static yL_setRate, Cond.codeWith yL_setRate cL_setRate 4 (some .int) [(0, 9, 12, 15)], Cond.classLink RL 15 "java/lang/IllegalArgumentException", Cond.methodLink RL 61 yX11_setRate, Cond.instanceMethod yX11_setRate, Cond.selects RX11 yX11_setRate yX11_setRate, Cond.code yX11_setRate cX11_setRate 3 (some .int), Cond.methodLink RL 192 yX12_setRate, Cond.instanceMethod yX12_setRate, Cond.selects RX12 yX12_setRate yX12_setRate, Cond.code yX12_setRate cX12_setRate 3 (some .int), Cond.methodLink RL 193 yL_poll, Cond.static yL_poll, Cond.codeWith yL_poll cL_poll 4 (some .int) [(0, 9, 12, 13)], Cond.methodLink RL 64 yX11_poll, Cond.instanceMethod yX11_poll]
def wsL_law0_r53 : List Cond := [Cond.selects RX11 yX11_poll yX11_poll, Cond.code yX11_poll cX11_poll 5 (some .int), Cond.fieldLink RX11 283 "DurableLoom$Run" "tenant" "I", Cond.classLink RX11 292 RX9, Cond.instantiable RX9 6, Cond.initialized RX9, Cond.fieldLink RX11 297 "DurableLoom$Run" "lastTask" "I", Cond.methodLink RX11 277 yX11_checkWorker, Cond.instanceMethod yX11_checkWorker, Cond.selects RX11 yX11_checkWorker yX11_checkWorker, Cond.code yX11_checkWorker cX11_checkWorker 2 none, Cond.methodLink RX11 280 yX11_firstRunWithWork, Cond.instanceMethod yX11_firstRunWithWork, Cond.selects RX11 yX11_firstRunWithWork yX11_firstRunWithWork, Cond.code yX11_firstRunWithWork cX11_firstRunWithWork 5 (some (.object "DurableLoom$Run")), Cond.methodLink RX11 556 yX6_hasWork, Cond.instanceMethod yX6_hasWork, Cond.selects RX6 yX6_hasWork yX6_hasWork, Cond.code yX6_hasWork cX6_hasWork 1 (some .boolean), Cond.fieldLink RX6 82 "DurableLoom$History" "arrivals" "I", Cond.fieldLink RX6 85 "DurableLoom$History" "counted" "I", Cond.methodLink RX11 559 yX11_isHeld, Cond.instanceMethod yX11_isHeld, Cond.selects RX11 yX11_isHeld yX11_isHeld]
def wsL_law0_r54 : List Cond := [Cond.code yX11_isHeld cX11_isHeld 3 (some .boolean), Cond.classLink RX11 292 "DurableLoom$Task", Cond.fieldLink RX11 317 "DurableLoom$Task" "over" "Z", Cond.fieldLink RX11 565 "DurableLoom$Task" "givenAt" "I", Cond.methodLink RX11 562 yX6_firstOrder, Cond.instanceMethod yX6_firstOrder, Cond.selects RX6 yX6_firstOrder yX6_firstOrder, Cond.code yX6_firstOrder cX6_firstOrder 1 (some .int), Cond.methodLink RX6 88 yX2_firstNew, Cond.methodLink RX6 92 yX2_orderOfArrival, Cond.instanceMethod yX2_orderOfArrival, Cond.selects RX2 yX2_orderOfArrival yX2_orderOfArrival, Cond.code yX2_orderOfArrival cX2_orderOfArrival 2 (some .int), Cond.methodLink RX11 286 yX11_givenTo, Cond.instanceMethod yX11_givenTo, Cond.selects RX11 yX11_givenTo yX11_givenTo, Cond.code yX11_givenTo cX11_givenTo 2 (some .int), Cond.methodLink RX11 289 yX11_countGiven, Cond.instanceMethod yX11_countGiven, Cond.selects RX11 yX11_countGiven yX11_countGiven, Cond.code yX11_countGiven cX11_countGiven 2 none, Cond.methodLink RX11 294 yX9_init, Cond.instanceMethod yX9_init, Cond.code yX9_init cX9_init 4 none]
def wsL_law0_r55 : List Cond := [Cond.methodLink RX9 1 objectInit, Cond.fieldLink RX9 7 "DurableLoom$Task" "over" "Z", Cond.fieldLink RX9 13 "DurableLoom$Task" "worker" "I", Cond.fieldLink RX9 17 "DurableLoom$Task" "run" "LDurableLoom$Run;", Cond.fieldLink RX9 21 "DurableLoom$Task" "givenAt" "I", Cond.fieldLink RX9 24 "DurableLoom$Run" "history" "LDurableLoom$History;", Cond.fieldLink RX9 30 "DurableLoom$History" "arrivals" "I", Cond.fieldLink RX9 35 "DurableLoom$Task" "arrivals" "I", Cond.fieldLink RX9 40 "DurableLoom$Task" "mark" "I", Cond.methodLink RX9 36 yX6_mark, Cond.instanceMethod yX6_mark, Cond.selects RX6 yX6_mark yX6_mark, Cond.code yX6_mark cX6_mark 1 (some .int), Cond.fieldLink RX6 96 "DurableLoom$History" "tasks" "I", Cond.methodLink RL 195 yX12_poll, Cond.instanceMethod yX12_poll, Cond.selects RX12 yX12_poll yX12_poll, Cond.code yX12_poll cX12_poll 7 (some .int), Cond.fieldLink RX12 599 "DurableLoomModel" "tasks" "I", Cond.methodLink RX12 605 yX12_isWorker, Cond.static yX12_isWorker, Cond.code yX12_isWorker cX12_isWorker 1 (some .boolean), Cond.methodLink RX12 608 yX12_isReady, Cond.instanceMethod yX12_isReady]
def wsL_law0_r56 : List Cond := [Cond.selects RX12 yX12_isReady yX12_isReady, Cond.code yX12_isReady cX12_isReady 2 (some .boolean), Cond.methodLink RX12 602 yX12_isHeld, Cond.instanceMethod yX12_isHeld, Cond.selects RX12 yX12_isHeld yX12_isHeld, Cond.code yX12_isHeld cX12_isHeld 4 (some .boolean), Cond.methodLink RX12 611 yX12_firstOrder, Cond.instanceMethod yX12_firstOrder, Cond.selects RX12 yX12_firstOrder yX12_firstOrder, Cond.code yX12_firstOrder cX12_firstOrder 4 (some .int), Cond.methodLink RL 196 yL_complete, Cond.static yL_complete, Cond.codeWith yL_complete cL_complete 4 (some .int) [(0, 9, 12, 13)], Cond.methodLink RL 67 yX11_complete, Cond.instanceMethod yX11_complete, Cond.selects RX11 yX11_complete yX11_complete, Cond.code yX11_complete cX11_complete 10 (some .int), Cond.fieldLink RX11 309 "DurableLoom$Task" "run" "LDurableLoom$Run;", Cond.fieldLink RX11 320 "DurableLoom$Task" "worker" "I", Cond.fieldLink RX11 329 "DurableLoom$Task" "arrivals" "I", Cond.fieldLink RX11 335 "DurableLoom$Machine" "difference" "I", Cond.methodLink RX11 313 yX11_isStale, Cond.instanceMethod yX11_isStale, Cond.selects RX11 yX11_isStale yX11_isStale]
def wsL_law0_r57 : List Cond := [Cond.code yX11_isStale cX11_isStale 3 (some .boolean), Cond.fieldLink RX11 571 "DurableLoom$Task" "mark" "I", Cond.methodLink RX11 568 yX6_mark, Cond.methodLink RX11 323 yX6_isKeptBy, Cond.instanceMethod yX6_isKeptBy, Cond.selects RX6 yX6_isKeptBy yX6_isKeptBy, Cond.code yX6_isKeptBy cX6_isKeptBy 2 (some .boolean), Cond.methodLink RX6 99 yX6_mark, Cond.methodLink RX11 326 yX11_countReplay, Cond.instanceMethod yX11_countReplay, Cond.selects RX11 yX11_countReplay yX11_countReplay, Cond.code yX11_countReplay cX11_countReplay 2 none, Cond.methodLink RX11 332 yX4_isLeft, Cond.instanceMethod yX4_isLeft, Cond.selects RX4 yX4_isLeft yX4_isLeft, Cond.code yX4_isLeft cX4_isLeft 2 (some .boolean), Cond.methodLink RX11 336 yX11_putNews, Cond.instanceMethod yX11_putNews, Cond.selects RX11 yX11_putNews yX11_putNews, Cond.code yX11_putNews cX11_putNews 6 (some .int), Cond.fieldLink RX11 573 "DurableLoom$Run" "seenEvents" "I", Cond.fieldLink RX11 576 "DurableLoom$Run" "seenCounted" "I", Cond.fieldLink RX11 579 "DurableLoom$Machine" "news" "LDurableLoom$History;", Cond.fieldLink RX11 344 "DurableLoom$Run" "keeper" "I"]
def wsL_law0_r58 : List Cond := [Cond.fieldLink RX11 582 "DurableLoom$Run" "keptMark" "I", Cond.methodLink RX11 585 yX4_knows, Cond.instanceMethod yX4_knows, Cond.selects RX4 yX4_knows yX4_knows, Cond.code yX4_knows cX4_knows 2 none, Cond.methodLink RX11 340 yX11_carryOut, Cond.instanceMethod yX11_carryOut, Cond.selects RX11 yX11_carryOut yX11_carryOut, Cond.code yX11_carryOut cX11_carryOut 5 none, Cond.fieldLink RX11 603 "DurableLoom$State" "cancelTaken" "Z", Cond.methodLink RX11 588 yX11_makeActivity, Cond.instanceMethod yX11_makeActivity, Cond.selects RX11 yX11_makeActivity yX11_makeActivity, Cond.code yX11_makeActivity cX11_makeActivity 5 none, Cond.classLink RX11 347 RX0, Cond.instantiable RX0 11, Cond.initialized RX0, Cond.methodLink RX11 610 yX0_init, Cond.instanceMethod yX0_init, Cond.code yX0_init cX0_init 6 none, Cond.methodLink RX0 1 objectInit, Cond.fieldLink RX0 9 "DurableLoom$Activity" "state" "I", Cond.fieldLink RX0 13 "DurableLoom$Activity" "attempts" "I", Cond.fieldLink RX0 16 "DurableLoom$Activity" "ready" "I"]
def wsL_law0_r59 : List Cond := [Cond.fieldLink RX0 19 "DurableLoom$Activity" "takenAt" "I", Cond.fieldLink RX0 22 "DurableLoom$Activity" "beatAt" "I", Cond.fieldLink RX0 25 "DurableLoom$Activity" "progress" "I", Cond.fieldLink RX0 28 "DurableLoom$Activity" "run" "LDurableLoom$Run;", Cond.fieldLink RX0 32 "DurableLoom$Activity" "event" "I", Cond.fieldLink RX0 35 "DurableLoom$Activity" "kind" "I", Cond.fieldLink RX0 38 "DurableLoom$Activity" "input" "I", Cond.fieldLink RX0 41 "DurableLoom$Activity" "madeAt" "I", Cond.methodLink RX11 591 yX6_addTimer, Cond.instanceMethod yX6_addTimer, Cond.selects RX6 yX6_addTimer yX6_addTimer, Cond.code yX6_addTimer cX6_addTimer 3 none, Cond.methodLink RX6 102 yX5_add, Cond.methodLink RX11 594 yX11_beginChild, Cond.instanceMethod yX11_beginChild, Cond.selects RX11 yX11_beginChild yX11_beginChild, Cond.code yX11_beginChild cX11_beginChild 5 none, Cond.methodLink RX11 597 yX11_dropEvent, Cond.instanceMethod yX11_dropEvent, Cond.selects RX11 yX11_dropEvent yX11_dropEvent, Cond.code yX11_dropEvent cX11_dropEvent 5 none, Cond.classLink RX11 347 "DurableLoom$Activity", Cond.fieldLink RX11 366 "DurableLoom$Activity" "run" "LDurableLoom$Run;", Cond.fieldLink RX11 367 "DurableLoom$Activity" "event" "I"]
def wsL_law0_r60 : List Cond := [Cond.fieldLink RX11 351 "DurableLoom$Activity" "state" "I", Cond.fieldLink RX11 414 "DurableLoom$Run" "parent" "I", Cond.fieldLink RX11 417 "DurableLoom$Run" "parentEvent" "I", Cond.methodLink RX11 613 yX6_dropTimer, Cond.instanceMethod yX6_dropTimer, Cond.selects RX6 yX6_dropTimer yX6_dropTimer, Cond.code yX6_dropTimer cX6_dropTimer 3 none, Cond.fieldLink RX6 106 "DurableLoom$Row" "size" "I", Cond.methodLink RX6 109 yX5_at, Cond.methodLink RX6 112 yX5_removeAt, Cond.methodLink RX11 600 yX11_queueTag, Cond.instanceMethod yX11_queueTag, Cond.selects RX11 yX11_queueTag yX11_queueTag, Cond.code yX11_queueTag cX11_queueTag 3 none, Cond.constant RX11 609 (51200), Cond.methodLink RX11 458 yX11_closeRun, Cond.instanceMethod yX11_closeRun, Cond.selects RX11 yX11_closeRun yX11_closeRun, Cond.code yX11_closeRun cX11_closeRun 6 none, Cond.methodLink RX11 427 yX11_endWork, Cond.instanceMethod yX11_endWork, Cond.selects RX11 yX11_endWork yX11_endWork, Cond.code yX11_endWork cX11_endWork 4 none, Cond.fieldLink RX11 550 "DurableLoom$Run" "timers" "LDurableLoom$Row;"]
def wsL_law0_r61 : List Cond := [Cond.fieldLink RX11 553 "DurableLoom$Run" "dues" "LDurableLoom$Row;", Cond.methodLink RX11 469 yX5_cut, Cond.methodLink RX11 543 yX11_dealWithChildren, Cond.instanceMethod yX11_dealWithChildren, Cond.selects RX11 yX11_dealWithChildren yX11_dealWithChildren, Cond.methodLink RX11 546 yX11_parentOf, Cond.instanceMethod yX11_parentOf, Cond.selects RX11 yX11_parentOf yX11_parentOf, Cond.code yX11_parentOf cX11_parentOf 2 (some (.object "DurableLoom$Run")), Cond.code yX11_dealWithChildren cX11_dealWithChildren 6 none, Cond.methodLink RX11 606 yX11_goOnAsNew, Cond.instanceMethod yX11_goOnAsNew, Cond.selects RX11 yX11_goOnAsNew yX11_goOnAsNew, Cond.code yX11_goOnAsNew cX11_goOnAsNew 7 none, Cond.fieldLink RX11 619 "DurableLoom$State" "arrivalAt" "I", Cond.methodLink RX11 616 yX8_queue, Cond.methodLink RX11 466 yX5_at, Cond.methodLink RX11 437 yX11_sendSignals, Cond.instanceMethod yX11_sendSignals, Cond.selects RX11 yX11_sendSignals yX11_sendSignals, Cond.code yX11_sendSignals cX11_sendSignals 6 none, Cond.methodLink RL 198 yX12_complete, Cond.instanceMethod yX12_complete, Cond.selects RX12 yX12_complete yX12_complete]
def wsL_law0_r62 : List Cond := [Cond.code yX12_complete cX12_complete 11 (some .int), Cond.methodLink RX12 614 yX12_isStale, Cond.instanceMethod yX12_isStale, Cond.selects RX12 yX12_isStale yX12_isStale, Cond.code yX12_isStale cX12_isStale 3 (some .boolean), Cond.methodLink RX12 617 yX12_hasState, Cond.instanceMethod yX12_hasState, Cond.selects RX12 yX12_hasState yX12_hasState, Cond.code yX12_hasState cX12_hasState 4 (some .boolean), Cond.methodLink RX12 620 yX12_carriesOut, Cond.instanceMethod yX12_carriesOut, Cond.selects RX12 yX12_carriesOut yX12_carriesOut, Cond.code yX12_carriesOut cX12_carriesOut 6 none, Cond.fieldLink RX12 632 "DurableLoomModel" "tagsTo" "I", Cond.methodLink RX12 623 yX12_makesActivity, Cond.instanceMethod yX12_makesActivity, Cond.selects RX12 yX12_makesActivity yX12_makesActivity, Cond.code yX12_makesActivity cX12_makesActivity 5 none, Cond.fieldLink RX12 549 "DurableLoomModel" "activities" "I", Cond.methodLink RX12 626 yX12_makesTimer, Cond.instanceMethod yX12_makesTimer, Cond.selects RX12 yX12_makesTimer yX12_makesTimer, Cond.code yX12_makesTimer cX12_makesTimer 4 none, Cond.fieldLink RX12 552 "DurableLoomModel" "timers" "I"]
def wsL_law0_r63 : List Cond := [Cond.methodLink RX12 629 yX12_drops, Cond.instanceMethod yX12_drops, Cond.selects RX12 yX12_drops yX12_drops, Cond.code yX12_drops cX12_drops 4 none, Cond.methodLink RX12 555 yX12_removesTimer, Cond.instanceMethod yX12_removesTimer, Cond.selects RX12 yX12_removesTimer yX12_removesTimer, Cond.code yX12_removesTimer cX12_removesTimer 2 none, Cond.methodLink RX12 635 yX12_closes, Cond.instanceMethod yX12_closes, Cond.selects RX12 yX12_closes yX12_closes, Cond.code yX12_closes cX12_closes 7 none, Cond.methodLink RX12 564 yX12_stops, Cond.instanceMethod yX12_stops, Cond.selects RX12 yX12_stops yX12_stops, Cond.code yX12_stops cX12_stops 3 none, Cond.methodLink RX12 567 yX12_tellsParent, Cond.instanceMethod yX12_tellsParent, Cond.selects RX12 yX12_tellsParent yX12_tellsParent, Cond.code yX12_tellsParent cX12_tellsParent 4 none, Cond.methodLink RX12 639 yX12_goesOnAsNew, Cond.instanceMethod yX12_goesOnAsNew, Cond.selects RX12 yX12_goesOnAsNew yX12_goesOnAsNew, Cond.code yX12_goesOnAsNew cX12_goesOnAsNew 7 none]
def wsL_law0_r64 : List Cond := [Cond.methodLink RL 199 yL_die, Cond.static yL_die, Cond.codeWith yL_die cL_die 4 (some .int) [(0, 9, 12, 13)], Cond.methodLink RL 70 yX11_die, Cond.instanceMethod yX11_die, Cond.selects RX11 yX11_die yX11_die, Cond.code yX11_die cX11_die 5 (some .int), Cond.methodLink RL 201 yX12_die, Cond.instanceMethod yX12_die, Cond.selects RX12 yX12_die yX12_die, Cond.code yX12_die cX12_die 5 (some .int), Cond.methodLink RL 202 yL_replays, Cond.static yL_replays, Cond.codeWith yL_replays cL_replays 4 (some .int) [(0, 9, 12, 13)], Cond.methodLink RL 73 yX11_replays, Cond.instanceMethod yX11_replays, Cond.selects RX11 yX11_replays yX11_replays, Cond.code yX11_replays cX11_replays 2 (some .int), Cond.methodLink RL 204 yX12_replays, Cond.instanceMethod yX12_replays, Cond.selects RX12 yX12_replays yX12_replays, Cond.code yX12_replays cX12_replays 2 (some .int), Cond.methodLink RL 205 yL_take, Cond.static yL_take]
def wsL_law0_r65 : List Cond := [Cond.codeWith yL_take cL_take 4 (some .int) [(0, 9, 12, 13)], Cond.methodLink RL 76 yX11_take, Cond.instanceMethod yX11_take, Cond.selects RX11 yX11_take yX11_take, Cond.code yX11_take cX11_take 4 (some .int), Cond.fieldLink RX11 349 "DurableLoom$Activity" "kind" "I", Cond.fieldLink RX11 353 "DurableLoom$Activity" "ready" "I", Cond.fieldLink RX11 359 "DurableLoom$Activity" "input" "I", Cond.methodLink RX11 356 yX0_beTaken, Cond.instanceMethod yX0_beTaken, Cond.selects RX0 yX0_beTaken yX0_beTaken, Cond.code yX0_beTaken cX0_beTaken 2 none, Cond.methodLink RL 207 yX12_take, Cond.instanceMethod yX12_take, Cond.selects RX12 yX12_take yX12_take, Cond.code yX12_take cX12_take 3 (some .int), Cond.methodLink RL 208 yL_answer, Cond.static yL_answer, Cond.codeWith yL_answer cL_answer 5 (some .int) [(0, 17, 20, 13), (0, 17, 24, 15)], Cond.methodLink RL 79 yX11_answer, Cond.instanceMethod yX11_answer, Cond.selects RX11 yX11_answer yX11_answer, Cond.code yX11_answer cX11_answer 4 (some .boolean), Cond.methodLink RX11 362 yX11_activityAt]
def wsL_law0_r66 : List Cond := [Cond.instanceMethod yX11_activityAt, Cond.selects RX11 yX11_activityAt yX11_activityAt, Cond.code yX11_activityAt cX11_activityAt 2 (some (.object "DurableLoom$Activity")), Cond.methodLink RL 210 yX12_answer, Cond.instanceMethod yX12_answer, Cond.selects RX12 yX12_answer yX12_answer, Cond.code yX12_answer cX12_answer 4 (some .boolean), Cond.methodLink RX12 642 yX12_isActivity, Cond.instanceMethod yX12_isActivity, Cond.selects RX12 yX12_isActivity yX12_isActivity, Cond.code yX12_isActivity cX12_isActivity 2 (some .boolean), Cond.methodLink RL 211 yL_fail, Cond.static yL_fail, Cond.codeWith yL_fail cL_fail 5 (some .int) [(0, 17, 20, 13)], Cond.methodLink RL 83 yX11_fail, Cond.instanceMethod yX11_fail, Cond.selects RX11 yX11_fail yX11_fail, Cond.code yX11_fail cX11_fail 4 (some .boolean), Cond.methodLink RX11 370 yX11_failAttempt, Cond.instanceMethod yX11_failAttempt, Cond.selects RX11 yX11_failAttempt yX11_failAttempt, Cond.code yX11_failAttempt cX11_failAttempt 4 none, Cond.fieldLink RX11 380 "DurableLoom$Activity" "attempts" "I", Cond.methodLink RL 214 yX12_fail]
def wsL_law0_r67 : List Cond := [Cond.instanceMethod yX12_fail, Cond.selects RX12 yX12_fail yX12_fail, Cond.code yX12_fail cX12_fail 3 (some .boolean), Cond.methodLink RX12 645 yX12_misses, Cond.instanceMethod yX12_misses, Cond.selects RX12 yX12_misses yX12_misses, Cond.code yX12_misses cX12_misses 3 none, Cond.methodLink RL 215 yL_beat, Cond.static yL_beat, Cond.codeWith yL_beat cL_beat 5 (some .int) [(0, 10, 13, 13), (0, 10, 17, 15)], Cond.methodLink RL 87 yX11_beat, Cond.instanceMethod yX11_beat, Cond.selects RX11 yX11_beat yX11_beat, Cond.code yX11_beat cX11_beat 5 (some .int), Cond.fieldLink RX11 374 "DurableLoom$Activity" "progress" "I", Cond.fieldLink RX11 377 "DurableLoom$Activity" "beatAt" "I", Cond.methodLink RL 217 yX12_beat, Cond.instanceMethod yX12_beat, Cond.selects RX12 yX12_beat yX12_beat, Cond.code yX12_beat cX12_beat 5 (some .int), Cond.methodLink RL 218 yL_activity, Cond.static yL_activity, Cond.codeWith yL_activity cL_activity 4 (some .int) [(0, 9, 12, 13)], Cond.methodLink RL 90 yX11_activity]
def wsL_law0_r68 : List Cond := [Cond.instanceMethod yX11_activity, Cond.selects RX11 yX11_activity yX11_activity, Cond.code yX11_activity cX11_activity 3 (some .int), Cond.methodLink RL 220 yX12_activity, Cond.instanceMethod yX12_activity, Cond.selects RX12 yX12_activity yX12_activity, Cond.code yX12_activity cX12_activity 2 (some .int), Cond.methodLink RL 221 yL_pass, Cond.static yL_pass, Cond.codeWith yL_pass cL_pass 4 (some .int) [(0, 9, 12, 15)], Cond.methodLink RL 93 yX11_pass, Cond.instanceMethod yX11_pass, Cond.selects RX11 yX11_pass yX11_pass, Cond.code yX11_pass cX11_pass 4 (some .int), Cond.classLink RX11 394 "DurableLoom$Schedule", Cond.methodLink RX11 383 yX11_beginTick, Cond.instanceMethod yX11_beginTick, Cond.selects RX11 yX11_beginTick yX11_beginTick, Cond.code yX11_beginTick cX11_beginTick 2 none, Cond.methodLink RX11 386 yX11_fireTimers, Cond.instanceMethod yX11_fireTimers, Cond.selects RX11 yX11_fireTimers yX11_fireTimers, Cond.code yX11_fireTimers cX11_fireTimers 5 none, Cond.methodLink RX11 635 yX5_removeAt]
def wsL_law0_r69 : List Cond := [Cond.methodLink RX11 390 yX11_lookAtActivity, Cond.instanceMethod yX11_lookAtActivity, Cond.selects RX11 yX11_lookAtActivity yX11_lookAtActivity, Cond.code yX11_lookAtActivity cX11_lookAtActivity 3 none, Cond.fieldLink RX11 638 "DurableLoom$Activity" "madeAt" "I", Cond.fieldLink RX11 645 "DurableLoom$Activity" "takenAt" "I", Cond.methodLink RX11 641 yX11_isReached, Cond.instanceMethod yX11_isReached, Cond.selects RX11 yX11_isReached yX11_isReached, Cond.code yX11_isReached cX11_isReached 3 (some .boolean), Cond.methodLink RX11 396 yX11_lookAtSchedule, Cond.instanceMethod yX11_lookAtSchedule, Cond.selects RX11 yX11_lookAtSchedule yX11_lookAtSchedule, Cond.code yX11_lookAtSchedule cX11_lookAtSchedule 4 none, Cond.fieldLink RX11 648 "DurableLoom$Schedule" "waiting" "Z", Cond.fieldLink RX11 655 "DurableLoom$Schedule" "waitingInput" "I", Cond.fieldLink RX11 662 "DurableLoom$Schedule" "lookedTo" "I", Cond.fieldLink RX11 483 "DurableLoom$Schedule" "paused" "Z", Cond.methodLink RX11 632 Lib.Math.max.name, Cond.methodLink RX11 651 yX11_lastIsOpen, Cond.instanceMethod yX11_lastIsOpen, Cond.selects RX11 yX11_lastIsOpen yX11_lastIsOpen, Cond.code yX11_lastIsOpen cX11_lastIsOpen 2 (some .boolean), Cond.fieldLink RX11 674 "DurableLoom$Schedule" "lastRun" "I"]
def wsL_law0_r70 : List Cond := [Cond.methodLink RX11 658 yX11_startFor, Cond.instanceMethod yX11_startFor, Cond.selects RX11 yX11_startFor yX11_startFor, Cond.code yX11_startFor cX11_startFor 3 none, Cond.fieldLink RX11 491 "DurableLoom$Schedule" "type" "I", Cond.fieldLink RX11 492 "DurableLoom$Schedule" "tenant" "I", Cond.methodLink RX11 665 yX7_isPoint, Cond.instanceMethod yX7_isPoint, Cond.selects RX7 yX7_isPoint yX7_isPoint, Cond.initialized RX7, Cond.code yX7_isPoint cX7_isPoint 2 (some .boolean), Cond.fieldLink RX7 29 "DurableLoom$Schedule" "period" "I", Cond.methodLink RX7 38 yJ9_floorMod_7cf53, Cond.methodLink RX11 668 yX11_meetPoint, Cond.instanceMethod yX11_meetPoint, Cond.selects RX11 yX11_meetPoint yX11_meetPoint, Cond.code yX11_meetPoint cX11_meetPoint 3 none, Cond.fieldLink RX11 671 "DurableLoom$Schedule" "overlap" "I", Cond.methodLink RL 223 yX12_pass, Cond.instanceMethod yX12_pass, Cond.selects RX12 yX12_pass yX12_pass, Cond.code yX12_pass cX12_pass 4 (some .int), Cond.fieldLink RX12 655 "DurableLoomModel" "schedules" "I", Cond.methodLink RX12 649 yX12_fires]
def wsL_law0_r71 : List Cond := [Cond.instanceMethod yX12_fires, Cond.selects RX12 yX12_fires yX12_fires, Cond.code yX12_fires cX12_fires 5 none, Cond.methodLink RX12 652 yX12_looksAtActivities, Cond.instanceMethod yX12_looksAtActivities, Cond.selects RX12 yX12_looksAtActivities yX12_looksAtActivities, Cond.code yX12_looksAtActivities cX12_looksAtActivities 6 none, Cond.methodLink RX12 658 yX12_looksAtSchedule, Cond.instanceMethod yX12_looksAtSchedule, Cond.selects RX12 yX12_looksAtSchedule yX12_looksAtSchedule, Cond.code yX12_looksAtSchedule cX12_looksAtSchedule 4 none, Cond.fieldLink RX12 691 "DurableLoomModel" "offset" "I", Cond.methodLink RX12 697 yX12_isRunning, Cond.instanceMethod yX12_isRunning, Cond.selects RX12 yX12_isRunning yX12_isRunning, Cond.code yX12_isRunning cX12_isRunning 2 (some .boolean), Cond.methodLink RX12 700 yX12_comes, Cond.instanceMethod yX12_comes, Cond.selects RX12 yX12_comes yX12_comes, Cond.code yX12_comes cX12_comes 4 none, Cond.methodLink RX12 694 yX12_beginsFor, Cond.instanceMethod yX12_beginsFor, Cond.selects RX12 yX12_beginsFor yX12_beginsFor, Cond.code yX12_beginsFor cX12_beginsFor 4 (some .int)]
def wsL_law0_r72 : List Cond := [Cond.methodLink RX12 703 yX12_ofThousand, Cond.static yX12_ofThousand, Cond.code yX12_ofThousand cX12_ofThousand 2 (some .int), Cond.methodLink RX12 706 yX12_point, Cond.instanceMethod yX12_point, Cond.selects RX12 yX12_point yX12_point, Cond.code yX12_point cX12_point 3 none, Cond.methodLink RL 224 yL_unsafe, Cond.static yL_unsafe, Cond.codeWith yL_unsafe cL_unsafe 5 (some .int) [(0, 10, 13, 13)], Cond.methodLink RL 96 yX11_unsafe, Cond.instanceMethod yX11_unsafe, Cond.selects RX11 yX11_unsafe yX11_unsafe, Cond.code yX11_unsafe cX11_unsafe 6 (some .int), Cond.methodLink RX11 400 yX11_checkVersion, Cond.instanceMethod yX11_checkVersion, Cond.selects RX11 yX11_checkVersion yX11_checkVersion, Cond.code yX11_checkVersion cX11_checkVersion 3 none, Cond.methodLink RL 226 yX12_unsafe, Cond.instanceMethod yX12_unsafe, Cond.selects RX12 yX12_unsafe yX12_unsafe, Cond.code yX12_unsafe cX12_unsafe 5 (some .int), Cond.methodLink RX12 661 yX12_isVersion, Cond.instanceMethod yX12_isVersion]
def wsL_law0_r73 : List Cond := [Cond.selects RX12 yX12_isVersion yX12_isVersion, Cond.code yX12_isVersion cX12_isVersion 3 (some .boolean), Cond.methodLink RL 227 yL_move, Cond.static yL_move, Cond.codeWith yL_move cL_move 5 (some .int) [(0, 17, 20, 13), (0, 17, 24, 17)], Cond.methodLink RL 99 yX11_move, Cond.instanceMethod yX11_move, Cond.selects RX11 yX11_move yX11_move, Cond.code yX11_move cX11_move 4 (some .boolean), Cond.methodLink RL 229 yX12_move, Cond.instanceMethod yX12_move, Cond.selects RX12 yX12_move yX12_move, Cond.code yX12_move cX12_move 4 (some .boolean), Cond.methodLink RL 230 yL_setBack, Cond.static yL_setBack, Cond.codeWith yL_setBack cL_setBack 5 (some .int) [(0, 10, 13, 13), (0, 10, 17, 17)], Cond.methodLink RL 102 yX11_setBack, Cond.instanceMethod yX11_setBack, Cond.selects RX11 yX11_setBack yX11_setBack, Cond.code yX11_setBack cX11_setBack 6 (some .int), Cond.methodLink RX11 407 yX2_taskAt, Cond.instanceMethod yX2_taskAt, Cond.selects RX2 yX2_taskAt yX2_taskAt, Cond.code yX2_taskAt cX2_taskAt 4 (some .int)]
def wsL_law0_r74 : List Cond := [Cond.methodLink RX11 423 yX2_becomeFirst, Cond.instanceMethod yX2_becomeFirst, Cond.selects RX2 yX2_becomeFirst yX2_becomeFirst, Cond.code yX2_becomeFirst cX2_becomeFirst 3 none, Cond.methodLink RX2 47 yX5_becomeFirst, Cond.instanceMethod yX5_becomeFirst, Cond.selects RX5 yX5_becomeFirst yX5_becomeFirst, Cond.code yX5_becomeFirst cX5_becomeFirst 6 none, Cond.methodLink RX5 45 yX5_add, Cond.methodLink RX11 430 yX11_partFromChildren, Cond.instanceMethod yX11_partFromChildren, Cond.selects RX11 yX11_partFromChildren yX11_partFromChildren, Cond.code yX11_partFromChildren cX11_partFromChildren 5 none, Cond.methodLink RX11 434 yX11_restoreWork, Cond.instanceMethod yX11_restoreWork, Cond.selects RX11 yX11_restoreWork yX11_restoreWork, Cond.code yX11_restoreWork cX11_restoreWork 6 none, Cond.methodLink RX11 626 yX2_hasEnded, Cond.instanceMethod yX2_hasEnded, Cond.selects RX2 yX2_hasEnded yX2_hasEnded, Cond.code yX2_hasEnded cX2_hasEnded 4 (some .boolean), Cond.methodLink RX11 629 yX2_timeOfCommand, Cond.instanceMethod yX2_timeOfCommand, Cond.selects RX2 yX2_timeOfCommand yX2_timeOfCommand]
def wsL_law0_r75 : List Cond := [Cond.code yX2_timeOfCommand cX2_timeOfCommand 2 (some .int), Cond.methodLink RL 232 yX12_setBack, Cond.instanceMethod yX12_setBack, Cond.selects RX12 yX12_setBack yX12_setBack, Cond.code yX12_setBack cX12_setBack 7 (some .int), Cond.methodLink RX12 670 yX12_taskAt, Cond.instanceMethod yX12_taskAt, Cond.selects RX12 yX12_taskAt yX12_taskAt, Cond.code yX12_taskAt cX12_taskAt 5 (some .int), Cond.methodLink RX12 673 yX12_recounts, Cond.instanceMethod yX12_recounts, Cond.selects RX12 yX12_recounts yX12_recounts, Cond.code yX12_recounts cX12_recounts 3 none, Cond.methodLink RX12 676 yX12_beginsAnew, Cond.instanceMethod yX12_beginsAnew, Cond.selects RX12 yX12_beginsAnew yX12_beginsAnew, Cond.code yX12_beginsAnew cX12_beginsAnew 5 none, Cond.methodLink RX12 664 yX12_marks, Cond.instanceMethod yX12_marks, Cond.selects RX12 yX12_marks yX12_marks, Cond.code yX12_marks cX12_marks 5 none, Cond.methodLink RX12 667 yX12_isBack, Cond.instanceMethod yX12_isBack, Cond.selects RX12 yX12_isBack yX12_isBack]
def wsL_law0_r76 : List Cond := [Cond.code yX12_isBack cX12_isBack 2 (some .boolean), Cond.methodLink RL 233 yL_copy, Cond.static yL_copy, Cond.codeWith yL_copy cL_copy 5 (some .int) [(0, 10, 13, 13), (0, 10, 17, 15)], Cond.methodLink RL 105 yX11_copy, Cond.instanceMethod yX11_copy, Cond.selects RX11 yX11_copy yX11_copy, Cond.code yX11_copy cX11_copy 4 (some .int), Cond.fieldLink RX11 443 "DurableLoom$Run" "copied" "I", Cond.methodLink RX11 446 Lib.Math.min.name, Cond.methodLink RL 235 yX12_copy, Cond.instanceMethod yX12_copy, Cond.selects RX12 yX12_copy yX12_copy, Cond.code yX12_copy cX12_copy 3 (some .int), Cond.methodLink RX12 679 yX12_least, Cond.static yX12_least, Cond.code yX12_least cX12_least 2 (some .int), Cond.methodLink RL 236 yL_takeOver, Cond.static yL_takeOver, Cond.codeWith yL_takeOver cL_takeOver 3 (some .int) [(0, 8, 11, 17)], Cond.classLink RL 17 "java/lang/IllegalStateException", Cond.methodLink RL 108 yX11_takeOver, Cond.instanceMethod yX11_takeOver, Cond.selects RX11 yX11_takeOver yX11_takeOver]
def wsL_law0_r77 : List Cond := [Cond.code yX11_takeOver cX11_takeOver 4 (some .int), Cond.methodLink RX11 454 yX11_loseEvents, Cond.instanceMethod yX11_loseEvents, Cond.selects RX11 yX11_loseEvents yX11_loseEvents, Cond.code yX11_loseEvents cX11_loseEvents 5 (some .int), Cond.fieldLink RX11 463 "DurableLoom$Run" "lost" "LDurableLoom$Row;", Cond.fieldLink RX11 623 "DurableLoom$Run" "cuts" "I", Cond.methodLink RX11 622 yX2_cut, Cond.methodLink RL 239 yX12_takeOver, Cond.instanceMethod yX12_takeOver, Cond.selects RX12 yX12_takeOver yX12_takeOver, Cond.code yX12_takeOver cX12_takeOver 3 (some .int), Cond.fieldLink RX12 685 "DurableLoomModel" "isTakenOver" "Z", Cond.methodLink RX12 688 yX12_cutsRun, Cond.instanceMethod yX12_cutsRun, Cond.selects RX12 yX12_cutsRun yX12_cutsRun, Cond.code yX12_cutsRun cX12_cutsRun 4 (some .int), Cond.fieldLink RX12 682 "DurableLoomModel" "lost" "I", Cond.methodLink RL 240 yL_join, Cond.static yL_join, Cond.codeWith yL_join cL_join 3 (some .int) [(0, 8, 11, 17)], Cond.methodLink RL 112 yX11_join, Cond.instanceMethod yX11_join, Cond.selects RX11 yX11_join yX11_join]
def wsL_law0_r78 : List Cond := [Cond.code yX11_join cX11_join 6 (some .int), Cond.methodLink RL 242 yX12_join, Cond.instanceMethod yX12_join, Cond.selects RX12 yX12_join yX12_join, Cond.code yX12_join cX12_join 3 (some .int), Cond.methodLink RL 243 yL_schedule, Cond.static yL_schedule, Cond.codeWith yL_schedule cL_schedule 7 (some .int) [(0, 14, 17, 13), (0, 14, 21, 15), (0, 14, 25, 17)], Cond.methodLink RL 115 yX11_schedule, Cond.instanceMethod yX11_schedule, Cond.selects RX11 yX11_schedule yX11_schedule, Cond.code yX11_schedule cX11_schedule 6 (some .int), Cond.classLink RX11 394 RX7, Cond.instantiable RX7 9, Cond.methodLink RX11 476 yX7_init, Cond.instanceMethod yX7_init, Cond.code yX7_init cX7_init 6 none, Cond.methodLink RX7 1 objectInit, Cond.fieldLink RX7 7 "DurableLoom$Schedule" "paused" "Z", Cond.fieldLink RX7 13 "DurableLoom$Schedule" "lastRun" "I", Cond.fieldLink RX7 17 "DurableLoom$Schedule" "waiting" "Z", Cond.fieldLink RX7 20 "DurableLoom$Schedule" "waitingInput" "I", Cond.fieldLink RX7 23 "DurableLoom$Schedule" "type" "I", Cond.fieldLink RX7 26 "DurableLoom$Schedule" "tenant" "I"]
def wsL_law0_r79 : List Cond := [Cond.fieldLink RX7 32 "DurableLoom$Schedule" "overlap" "I", Cond.fieldLink RX7 35 "DurableLoom$Schedule" "lookedTo" "I", Cond.methodLink RL 245 yX12_schedule, Cond.instanceMethod yX12_schedule, Cond.selects RX12 yX12_schedule yX12_schedule, Cond.code yX12_schedule cX12_schedule 7 (some .int), Cond.methodLink RL 246 yL_togglePause, Cond.static yL_togglePause, Cond.codeWith yL_togglePause cL_togglePause 4 (some .int) [(0, 16, 19, 13)], Cond.methodLink RL 118 yX11_togglePause, Cond.instanceMethod yX11_togglePause, Cond.selects RX11 yX11_togglePause yX11_togglePause, Cond.code yX11_togglePause cX11_togglePause 3 (some .boolean), Cond.methodLink RX11 479 yX11_scheduleAt, Cond.instanceMethod yX11_scheduleAt, Cond.selects RX11 yX11_scheduleAt yX11_scheduleAt, Cond.code yX11_scheduleAt cX11_scheduleAt 2 (some (.object "DurableLoom$Schedule")), Cond.methodLink RL 248 yX12_togglePause, Cond.instanceMethod yX12_togglePause, Cond.selects RX12 yX12_togglePause yX12_togglePause, Cond.code yX12_togglePause cX12_togglePause 2 (some .boolean), Cond.methodLink RX12 709 yX12_isSchedule, Cond.instanceMethod yX12_isSchedule, Cond.selects RX12 yX12_isSchedule yX12_isSchedule]
def wsL_law0_r80 : List Cond := [Cond.code yX12_isSchedule cX12_isSchedule 2 (some .boolean), Cond.methodLink RL 249 yL_backfill, Cond.static yL_backfill, Cond.codeWith yL_backfill cL_backfill 5 (some .int) [(0, 10, 13, 13), (0, 10, 17, 15)], Cond.methodLink RL 121 yX11_backfill, Cond.instanceMethod yX11_backfill, Cond.selects RX11 yX11_backfill yX11_backfill, Cond.code yX11_backfill cX11_backfill 8 (some .int), Cond.fieldLink RX11 493 "DurableLoom$Schedule" "period" "I", Cond.methodLink RX11 488 yX7_pointsSoFar, Cond.instanceMethod yX7_pointsSoFar, Cond.selects RX7 yX7_pointsSoFar yX7_pointsSoFar, Cond.code yX7_pointsSoFar cX7_pointsSoFar 1 (some .int), Cond.methodLink RL 251 yX12_backfill, Cond.instanceMethod yX12_backfill, Cond.selects RX12 yX12_backfill yX12_backfill, Cond.code yX12_backfill cX12_backfill 6 (some .int), Cond.methodLink RL 252 yL_shift, Cond.static yL_shift, Cond.codeWith yL_shift cL_shift 4 (some .int) [(0, 9, 12, 15)], Cond.methodLink RL 124 yX11_shift, Cond.instanceMethod yX11_shift, Cond.selects RX11 yX11_shift yX11_shift, Cond.code yX11_shift cX11_shift 2 (some .int)]
def wsL_law0_r81 : List Cond := [Cond.methodLink RL 254 yX12_shift, Cond.instanceMethod yX12_shift, Cond.selects RX12 yX12_shift yX12_shift, Cond.code yX12_shift cX12_shift 2 (some .int), Cond.methodLink RL 255 yL_bringIn, Cond.static yL_bringIn, Cond.codeWith yL_bringIn cL_bringIn 4 (some .int) [(0, 9, 12, 15)], Cond.methodLink RL 127 yX11_bringIn, Cond.instanceMethod yX11_bringIn, Cond.selects RX11 yX11_bringIn yX11_bringIn, Cond.code yX11_bringIn cX11_bringIn 5 (some .int), Cond.fieldLink RX11 501 "DurableLoom$Run" "tag" "I", Cond.methodLink RL 257 yX12_bringIn, Cond.instanceMethod yX12_bringIn, Cond.selects RX12 yX12_bringIn yX12_bringIn, Cond.code yX12_bringIn cX12_bringIn 3 (some .int), Cond.fieldLink RX12 712 "DurableLoomModel" "tagsFrom" "I", Cond.methodLink RL 258 yL_search, Cond.static yL_search, Cond.codeWith yL_search cL_search 4 (some .int) [(0, 9, 12, 15)], Cond.methodLink RL 130 yX11_search, Cond.instanceMethod yX11_search, Cond.selects RX11 yX11_search yX11_search, Cond.code yX11_search cX11_search 4 (some .int)]
def wsL_law0_r82 : List Cond := [Cond.methodLink RL 260 yX12_search, Cond.instanceMethod yX12_search, Cond.selects RX12 yX12_search yX12_search, Cond.code yX12_search cX12_search 4 (some .int)]
def wsL_law0 : List Cond := (wsL_law0_r1 ++ (wsL_law0_r2 ++ (wsL_law0_r3 ++ (wsL_law0_r4 ++ (wsL_law0_r5 ++ (wsL_law0_r6 ++ (wsL_law0_r7 ++ (wsL_law0_r8 ++ (wsL_law0_r9 ++ (wsL_law0_r10 ++ (wsL_law0_r11 ++ (wsL_law0_r12 ++ (wsL_law0_r13 ++ (wsL_law0_r14 ++ (wsL_law0_r15 ++ (wsL_law0_r16 ++ (wsL_law0_r17 ++ (wsL_law0_r18 ++ (wsL_law0_r19 ++ (wsL_law0_r20 ++ (wsL_law0_r21 ++ (wsL_law0_r22 ++ (wsL_law0_r23 ++ (wsL_law0_r24 ++ (wsL_law0_r25 ++ (wsL_law0_r26 ++ (wsL_law0_r27 ++ (wsL_law0_r28 ++ (wsL_law0_r29 ++ (wsL_law0_r30 ++ (wsL_law0_r31 ++ (wsL_law0_r32 ++ (wsL_law0_r33 ++ (wsL_law0_r34 ++ (wsL_law0_r35 ++ (wsL_law0_r36 ++ (wsL_law0_r37 ++ (wsL_law0_r38 ++ (wsL_law0_r39 ++ (wsL_law0_r40 ++ (wsL_law0_r41 ++ (wsL_law0_r42 ++ (wsL_law0_r43 ++ (wsL_law0_r44 ++ (wsL_law0_r45 ++ (wsL_law0_r46 ++ (wsL_law0_r47 ++ (wsL_law0_r48 ++ (wsL_law0_r49 ++ (wsL_law0_r50 ++ (wsL_law0_r51 ++ (wsL_law0_r52 ++ (wsL_law0_r53 ++ (wsL_law0_r54 ++ (wsL_law0_r55 ++ (wsL_law0_r56 ++ (wsL_law0_r57 ++ (wsL_law0_r58 ++ (wsL_law0_r59 ++ (wsL_law0_r60 ++ (wsL_law0_r61 ++ (wsL_law0_r62 ++ (wsL_law0_r63 ++ (wsL_law0_r64 ++ (wsL_law0_r65 ++ (wsL_law0_r66 ++ (wsL_law0_r67 ++ (wsL_law0_r68 ++ (wsL_law0_r69 ++ (wsL_law0_r70 ++ (wsL_law0_r71 ++ (wsL_law0_r72 ++ (wsL_law0_r73 ++ (wsL_law0_r74 ++ (wsL_law0_r75 ++ (wsL_law0_r76 ++ (wsL_law0_r77 ++ (wsL_law0_r78 ++ (wsL_law0_r79 ++ (wsL_law0_r80 ++ (wsL_law0_r81 ++ wsL_law0_r82))))))))))))))))))))))))))))))))))))))))))))))))))))))))))))))))))))))))))))))))) ++ wsX110 ++ wsX120 ++ wsJx4a65c0 ++ wsX50 ++ wsX40 ++ wsX100 ++ wsX30 ++ wsX80 ++ wsX20 ++ wsX10 ++ wsX60 ++ wsX90 ++ wsX00 ++ wsX70 ++ ([] : List Cond)
def wsL_law : List Cond := wsL_law0 ++ (vx_atS RX11 100 "java/lang/IllegalArgumentException" ["java/lang/RuntimeException", "java/lang/Exception"]).filter goodWord ++ (vx_atS RX11 115 "java/lang/IllegalStateException" ["java/lang/RuntimeException", "java/lang/Exception"]).filter goodWord ++ (vx_atS RX11 259 "java/lang/IndexOutOfBoundsException" ["java/lang/RuntimeException", "java/lang/Exception"]).filter goodWord
theorem gd_wsL_law0_r1 : wsL_law0_r1.all goodWord = true := by decide +kernel
theorem gd_wsL_law0_r2 : wsL_law0_r2.all goodWord = true := by decide +kernel
theorem gd_wsL_law0_r3 : wsL_law0_r3.all goodWord = true := by decide +kernel
theorem gd_wsL_law0_r4 : wsL_law0_r4.all goodWord = true := by decide +kernel
theorem gd_wsL_law0_r5 : wsL_law0_r5.all goodWord = true := by decide +kernel
theorem gd_wsL_law0_r6 : wsL_law0_r6.all goodWord = true := by decide +kernel
theorem gd_wsL_law0_r7 : wsL_law0_r7.all goodWord = true := by decide +kernel
theorem gd_wsL_law0_r8 : wsL_law0_r8.all goodWord = true := by decide +kernel
theorem gd_wsL_law0_r9 : wsL_law0_r9.all goodWord = true := by decide +kernel
theorem gd_wsL_law0_r10 : wsL_law0_r10.all goodWord = true := by decide +kernel
theorem gd_wsL_law0_r11 : wsL_law0_r11.all goodWord = true := by decide +kernel
theorem gd_wsL_law0_r12 : wsL_law0_r12.all goodWord = true := by decide +kernel
theorem gd_wsL_law0_r13 : wsL_law0_r13.all goodWord = true := by decide +kernel
theorem gd_wsL_law0_r14 : wsL_law0_r14.all goodWord = true := by decide +kernel
theorem gd_wsL_law0_r15 : wsL_law0_r15.all goodWord = true := by decide +kernel
theorem gd_wsL_law0_r16 : wsL_law0_r16.all goodWord = true := by decide +kernel
theorem gd_wsL_law0_r17 : wsL_law0_r17.all goodWord = true := by decide +kernel
theorem gd_wsL_law0_r18 : wsL_law0_r18.all goodWord = true := by decide +kernel
theorem gd_wsL_law0_r19 : wsL_law0_r19.all goodWord = true := by decide +kernel
theorem gd_wsL_law0_r20 : wsL_law0_r20.all goodWord = true := by decide +kernel
theorem gd_wsL_law0_r21 : wsL_law0_r21.all goodWord = true := by decide +kernel
theorem gd_wsL_law0_r22 : wsL_law0_r22.all goodWord = true := by decide +kernel
theorem gd_wsL_law0_r23 : wsL_law0_r23.all goodWord = true := by decide +kernel
theorem gd_wsL_law0_r24 : wsL_law0_r24.all goodWord = true := by decide +kernel
theorem gd_wsL_law0_r25 : wsL_law0_r25.all goodWord = true := by decide +kernel
theorem gd_wsL_law0_r26 : wsL_law0_r26.all goodWord = true := by decide +kernel
theorem gd_wsL_law0_r27 : wsL_law0_r27.all goodWord = true := by decide +kernel
theorem gd_wsL_law0_r28 : wsL_law0_r28.all goodWord = true := by decide +kernel
theorem gd_wsL_law0_r29 : wsL_law0_r29.all goodWord = true := by decide +kernel
theorem gd_wsL_law0_r30 : wsL_law0_r30.all goodWord = true := by decide +kernel
theorem gd_wsL_law0_r31 : wsL_law0_r31.all goodWord = true := by decide +kernel
theorem gd_wsL_law0_r32 : wsL_law0_r32.all goodWord = true := by decide +kernel
theorem gd_wsL_law0_r33 : wsL_law0_r33.all goodWord = true := by decide +kernel
theorem gd_wsL_law0_r34 : wsL_law0_r34.all goodWord = true := by decide +kernel
theorem gd_wsL_law0_r35 : wsL_law0_r35.all goodWord = true := by decide +kernel
theorem gd_wsL_law0_r36 : wsL_law0_r36.all goodWord = true := by decide +kernel
theorem gd_wsL_law0_r37 : wsL_law0_r37.all goodWord = true := by decide +kernel
theorem gd_wsL_law0_r38 : wsL_law0_r38.all goodWord = true := by decide +kernel
theorem gd_wsL_law0_r39 : wsL_law0_r39.all goodWord = true := by decide +kernel
theorem gd_wsL_law0_r40 : wsL_law0_r40.all goodWord = true := by decide +kernel
theorem gd_wsL_law0_r41 : wsL_law0_r41.all goodWord = true := by decide +kernel
theorem gd_wsL_law0_r42 : wsL_law0_r42.all goodWord = true := by decide +kernel
theorem gd_wsL_law0_r43 : wsL_law0_r43.all goodWord = true := by decide +kernel
theorem gd_wsL_law0_r44 : wsL_law0_r44.all goodWord = true := by decide +kernel
theorem gd_wsL_law0_r45 : wsL_law0_r45.all goodWord = true := by decide +kernel
theorem gd_wsL_law0_r46 : wsL_law0_r46.all goodWord = true := by decide +kernel
theorem gd_wsL_law0_r47 : wsL_law0_r47.all goodWord = true := by decide +kernel
theorem gd_wsL_law0_r48 : wsL_law0_r48.all goodWord = true := by decide +kernel
theorem gd_wsL_law0_r49 : wsL_law0_r49.all goodWord = true := by decide +kernel
theorem gd_wsL_law0_r50 : wsL_law0_r50.all goodWord = true := by decide +kernel
theorem gd_wsL_law0_r51 : wsL_law0_r51.all goodWord = true := by decide +kernel
theorem gd_wsL_law0_r52 : wsL_law0_r52.all goodWord = true := by decide +kernel
theorem gd_wsL_law0_r53 : wsL_law0_r53.all goodWord = true := by decide +kernel
theorem gd_wsL_law0_r54 : wsL_law0_r54.all goodWord = true := by decide +kernel
theorem gd_wsL_law0_r55 : wsL_law0_r55.all goodWord = true := by decide +kernel
theorem gd_wsL_law0_r56 : wsL_law0_r56.all goodWord = true := by decide +kernel
theorem gd_wsL_law0_r57 : wsL_law0_r57.all goodWord = true := by decide +kernel
theorem gd_wsL_law0_r58 : wsL_law0_r58.all goodWord = true := by decide +kernel
theorem gd_wsL_law0_r59 : wsL_law0_r59.all goodWord = true := by decide +kernel
theorem gd_wsL_law0_r60 : wsL_law0_r60.all goodWord = true := by decide +kernel
theorem gd_wsL_law0_r61 : wsL_law0_r61.all goodWord = true := by decide +kernel
theorem gd_wsL_law0_r62 : wsL_law0_r62.all goodWord = true := by decide +kernel
theorem gd_wsL_law0_r63 : wsL_law0_r63.all goodWord = true := by decide +kernel
theorem gd_wsL_law0_r64 : wsL_law0_r64.all goodWord = true := by decide +kernel
theorem gd_wsL_law0_r65 : wsL_law0_r65.all goodWord = true := by decide +kernel
theorem gd_wsL_law0_r66 : wsL_law0_r66.all goodWord = true := by decide +kernel
theorem gd_wsL_law0_r67 : wsL_law0_r67.all goodWord = true := by decide +kernel
theorem gd_wsL_law0_r68 : wsL_law0_r68.all goodWord = true := by decide +kernel
theorem gd_wsL_law0_r69 : wsL_law0_r69.all goodWord = true := by decide +kernel
theorem gd_wsL_law0_r70 : wsL_law0_r70.all goodWord = true := by decide +kernel
theorem gd_wsL_law0_r71 : wsL_law0_r71.all goodWord = true := by decide +kernel
theorem gd_wsL_law0_r72 : wsL_law0_r72.all goodWord = true := by decide +kernel
theorem gd_wsL_law0_r73 : wsL_law0_r73.all goodWord = true := by decide +kernel
theorem gd_wsL_law0_r74 : wsL_law0_r74.all goodWord = true := by decide +kernel
theorem gd_wsL_law0_r75 : wsL_law0_r75.all goodWord = true := by decide +kernel
theorem gd_wsL_law0_r76 : wsL_law0_r76.all goodWord = true := by decide +kernel
theorem gd_wsL_law0_r77 : wsL_law0_r77.all goodWord = true := by decide +kernel
theorem gd_wsL_law0_r78 : wsL_law0_r78.all goodWord = true := by decide +kernel
theorem gd_wsL_law0_r79 : wsL_law0_r79.all goodWord = true := by decide +kernel
theorem gd_wsL_law0_r80 : wsL_law0_r80.all goodWord = true := by decide +kernel
theorem gd_wsL_law0_r81 : wsL_law0_r81.all goodWord = true := by decide +kernel
theorem gd_wsL_law0_r82 : wsL_law0_r82.all goodWord = true := by decide +kernel
theorem gd_wsX110 : (wsX110).all goodWord = true := by decide +kernel
theorem gd_wsX120 : (wsX120).all goodWord = true := by decide +kernel
theorem gd_wsJx4a65c0 : (wsJx4a65c0).all goodWord = true := by decide +kernel
theorem gd_wsX50 : (wsX50).all goodWord = true := by decide +kernel
theorem gd_wsX40 : (wsX40).all goodWord = true := by decide +kernel
theorem gd_wsX100 : (wsX100).all goodWord = true := by decide +kernel
theorem gd_wsX30 : (wsX30).all goodWord = true := by decide +kernel
theorem gd_wsX80 : (wsX80).all goodWord = true := by decide +kernel
theorem gd_wsX20 : (wsX20).all goodWord = true := by decide +kernel
theorem gd_wsX10 : (wsX10).all goodWord = true := by decide +kernel
theorem gd_wsX60 : (wsX60).all goodWord = true := by decide +kernel
theorem gd_wsX90 : (wsX90).all goodWord = true := by decide +kernel
theorem gd_wsX00 : (wsX00).all goodWord = true := by decide +kernel
theorem gd_wsX70 : (wsX70).all goodWord = true := by decide +kernel
set_option maxRecDepth 100000 in
theorem wsL_law_gd0 : ∀ w ∈ wsL_law0, goodWord w = true := by
  unfold wsL_law0
  exact List.forall_mem_append.mpr ⟨List.forall_mem_append.mpr ⟨List.forall_mem_append.mpr ⟨List.forall_mem_append.mpr ⟨List.forall_mem_append.mpr ⟨List.forall_mem_append.mpr ⟨List.forall_mem_append.mpr ⟨List.forall_mem_append.mpr ⟨List.forall_mem_append.mpr ⟨List.forall_mem_append.mpr ⟨List.forall_mem_append.mpr ⟨List.forall_mem_append.mpr ⟨List.forall_mem_append.mpr ⟨List.forall_mem_append.mpr ⟨List.forall_mem_append.mpr ⟨List.forall_mem_append.mpr ⟨List.all_eq_true.mp gd_wsL_law0_r1, List.forall_mem_append.mpr ⟨List.all_eq_true.mp gd_wsL_law0_r2, List.forall_mem_append.mpr ⟨List.all_eq_true.mp gd_wsL_law0_r3, List.forall_mem_append.mpr ⟨List.all_eq_true.mp gd_wsL_law0_r4, List.forall_mem_append.mpr ⟨List.all_eq_true.mp gd_wsL_law0_r5, List.forall_mem_append.mpr ⟨List.all_eq_true.mp gd_wsL_law0_r6, List.forall_mem_append.mpr ⟨List.all_eq_true.mp gd_wsL_law0_r7, List.forall_mem_append.mpr ⟨List.all_eq_true.mp gd_wsL_law0_r8, List.forall_mem_append.mpr ⟨List.all_eq_true.mp gd_wsL_law0_r9, List.forall_mem_append.mpr ⟨List.all_eq_true.mp gd_wsL_law0_r10, List.forall_mem_append.mpr ⟨List.all_eq_true.mp gd_wsL_law0_r11, List.forall_mem_append.mpr ⟨List.all_eq_true.mp gd_wsL_law0_r12, List.forall_mem_append.mpr ⟨List.all_eq_true.mp gd_wsL_law0_r13, List.forall_mem_append.mpr ⟨List.all_eq_true.mp gd_wsL_law0_r14, List.forall_mem_append.mpr ⟨List.all_eq_true.mp gd_wsL_law0_r15, List.forall_mem_append.mpr ⟨List.all_eq_true.mp gd_wsL_law0_r16, List.forall_mem_append.mpr ⟨List.all_eq_true.mp gd_wsL_law0_r17, List.forall_mem_append.mpr ⟨List.all_eq_true.mp gd_wsL_law0_r18, List.forall_mem_append.mpr ⟨List.all_eq_true.mp gd_wsL_law0_r19, List.forall_mem_append.mpr ⟨List.all_eq_true.mp gd_wsL_law0_r20, List.forall_mem_append.mpr ⟨List.all_eq_true.mp gd_wsL_law0_r21, List.forall_mem_append.mpr ⟨List.all_eq_true.mp gd_wsL_law0_r22, List.forall_mem_append.mpr ⟨List.all_eq_true.mp gd_wsL_law0_r23, List.forall_mem_append.mpr ⟨List.all_eq_true.mp gd_wsL_law0_r24, List.forall_mem_append.mpr ⟨List.all_eq_true.mp gd_wsL_law0_r25, List.forall_mem_append.mpr ⟨List.all_eq_true.mp gd_wsL_law0_r26, List.forall_mem_append.mpr ⟨List.all_eq_true.mp gd_wsL_law0_r27, List.forall_mem_append.mpr ⟨List.all_eq_true.mp gd_wsL_law0_r28, List.forall_mem_append.mpr ⟨List.all_eq_true.mp gd_wsL_law0_r29, List.forall_mem_append.mpr ⟨List.all_eq_true.mp gd_wsL_law0_r30, List.forall_mem_append.mpr ⟨List.all_eq_true.mp gd_wsL_law0_r31, List.forall_mem_append.mpr ⟨List.all_eq_true.mp gd_wsL_law0_r32, List.forall_mem_append.mpr ⟨List.all_eq_true.mp gd_wsL_law0_r33, List.forall_mem_append.mpr ⟨List.all_eq_true.mp gd_wsL_law0_r34, List.forall_mem_append.mpr ⟨List.all_eq_true.mp gd_wsL_law0_r35, List.forall_mem_append.mpr ⟨List.all_eq_true.mp gd_wsL_law0_r36, List.forall_mem_append.mpr ⟨List.all_eq_true.mp gd_wsL_law0_r37, List.forall_mem_append.mpr ⟨List.all_eq_true.mp gd_wsL_law0_r38, List.forall_mem_append.mpr ⟨List.all_eq_true.mp gd_wsL_law0_r39, List.forall_mem_append.mpr ⟨List.all_eq_true.mp gd_wsL_law0_r40, List.forall_mem_append.mpr ⟨List.all_eq_true.mp gd_wsL_law0_r41, List.forall_mem_append.mpr ⟨List.all_eq_true.mp gd_wsL_law0_r42, List.forall_mem_append.mpr ⟨List.all_eq_true.mp gd_wsL_law0_r43, List.forall_mem_append.mpr ⟨List.all_eq_true.mp gd_wsL_law0_r44, List.forall_mem_append.mpr ⟨List.all_eq_true.mp gd_wsL_law0_r45, List.forall_mem_append.mpr ⟨List.all_eq_true.mp gd_wsL_law0_r46, List.forall_mem_append.mpr ⟨List.all_eq_true.mp gd_wsL_law0_r47, List.forall_mem_append.mpr ⟨List.all_eq_true.mp gd_wsL_law0_r48, List.forall_mem_append.mpr ⟨List.all_eq_true.mp gd_wsL_law0_r49, List.forall_mem_append.mpr ⟨List.all_eq_true.mp gd_wsL_law0_r50, List.forall_mem_append.mpr ⟨List.all_eq_true.mp gd_wsL_law0_r51, List.forall_mem_append.mpr ⟨List.all_eq_true.mp gd_wsL_law0_r52, List.forall_mem_append.mpr ⟨List.all_eq_true.mp gd_wsL_law0_r53, List.forall_mem_append.mpr ⟨List.all_eq_true.mp gd_wsL_law0_r54, List.forall_mem_append.mpr ⟨List.all_eq_true.mp gd_wsL_law0_r55, List.forall_mem_append.mpr ⟨List.all_eq_true.mp gd_wsL_law0_r56, List.forall_mem_append.mpr ⟨List.all_eq_true.mp gd_wsL_law0_r57, List.forall_mem_append.mpr ⟨List.all_eq_true.mp gd_wsL_law0_r58, List.forall_mem_append.mpr ⟨List.all_eq_true.mp gd_wsL_law0_r59, List.forall_mem_append.mpr ⟨List.all_eq_true.mp gd_wsL_law0_r60, List.forall_mem_append.mpr ⟨List.all_eq_true.mp gd_wsL_law0_r61, List.forall_mem_append.mpr ⟨List.all_eq_true.mp gd_wsL_law0_r62, List.forall_mem_append.mpr ⟨List.all_eq_true.mp gd_wsL_law0_r63, List.forall_mem_append.mpr ⟨List.all_eq_true.mp gd_wsL_law0_r64, List.forall_mem_append.mpr ⟨List.all_eq_true.mp gd_wsL_law0_r65, List.forall_mem_append.mpr ⟨List.all_eq_true.mp gd_wsL_law0_r66, List.forall_mem_append.mpr ⟨List.all_eq_true.mp gd_wsL_law0_r67, List.forall_mem_append.mpr ⟨List.all_eq_true.mp gd_wsL_law0_r68, List.forall_mem_append.mpr ⟨List.all_eq_true.mp gd_wsL_law0_r69, List.forall_mem_append.mpr ⟨List.all_eq_true.mp gd_wsL_law0_r70, List.forall_mem_append.mpr ⟨List.all_eq_true.mp gd_wsL_law0_r71, List.forall_mem_append.mpr ⟨List.all_eq_true.mp gd_wsL_law0_r72, List.forall_mem_append.mpr ⟨List.all_eq_true.mp gd_wsL_law0_r73, List.forall_mem_append.mpr ⟨List.all_eq_true.mp gd_wsL_law0_r74, List.forall_mem_append.mpr ⟨List.all_eq_true.mp gd_wsL_law0_r75, List.forall_mem_append.mpr ⟨List.all_eq_true.mp gd_wsL_law0_r76, List.forall_mem_append.mpr ⟨List.all_eq_true.mp gd_wsL_law0_r77, List.forall_mem_append.mpr ⟨List.all_eq_true.mp gd_wsL_law0_r78, List.forall_mem_append.mpr ⟨List.all_eq_true.mp gd_wsL_law0_r79, List.forall_mem_append.mpr ⟨List.all_eq_true.mp gd_wsL_law0_r80, List.forall_mem_append.mpr ⟨List.all_eq_true.mp gd_wsL_law0_r81, List.all_eq_true.mp gd_wsL_law0_r82⟩⟩⟩⟩⟩⟩⟩⟩⟩⟩⟩⟩⟩⟩⟩⟩⟩⟩⟩⟩⟩⟩⟩⟩⟩⟩⟩⟩⟩⟩⟩⟩⟩⟩⟩⟩⟩⟩⟩⟩⟩⟩⟩⟩⟩⟩⟩⟩⟩⟩⟩⟩⟩⟩⟩⟩⟩⟩⟩⟩⟩⟩⟩⟩⟩⟩⟩⟩⟩⟩⟩⟩⟩⟩⟩⟩⟩⟩⟩⟩⟩, List.all_eq_true.mp gd_wsX110⟩, List.all_eq_true.mp gd_wsX120⟩, List.all_eq_true.mp gd_wsJx4a65c0⟩, List.all_eq_true.mp gd_wsX50⟩, List.all_eq_true.mp gd_wsX40⟩, List.all_eq_true.mp gd_wsX100⟩, List.all_eq_true.mp gd_wsX30⟩, List.all_eq_true.mp gd_wsX80⟩, List.all_eq_true.mp gd_wsX20⟩, List.all_eq_true.mp gd_wsX10⟩, List.all_eq_true.mp gd_wsX60⟩, List.all_eq_true.mp gd_wsX90⟩, List.all_eq_true.mp gd_wsX00⟩, List.all_eq_true.mp gd_wsX70⟩, fun _ h => (List.not_mem_nil h).elim⟩
theorem inlX0 : ∀ w ∈ wsX00, w ∈ wsL_law := fun _ h => List.mem_append_left _ (List.mem_append_left _ (List.mem_append_left _ (List.mem_append_left _ (List.mem_append_left _ (List.mem_append_right _ h)))))
theorem inlX1 : ∀ w ∈ wsX10, w ∈ wsL_law := fun _ h => List.mem_append_left _ (List.mem_append_left _ (List.mem_append_left _ (List.mem_append_left _ (List.mem_append_left _ (List.mem_append_left _ (List.mem_append_left _ (List.mem_append_left _ (List.mem_append_right _ h))))))))
theorem inlX2 : ∀ w ∈ wsX20, w ∈ wsL_law := fun _ h => List.mem_append_left _ (List.mem_append_left _ (List.mem_append_left _ (List.mem_append_left _ (List.mem_append_left _ (List.mem_append_left _ (List.mem_append_left _ (List.mem_append_left _ (List.mem_append_left _ (List.mem_append_right _ h)))))))))
theorem inlX3 : ∀ w ∈ wsX30, w ∈ wsL_law := fun _ h => List.mem_append_left _ (List.mem_append_left _ (List.mem_append_left _ (List.mem_append_left _ (List.mem_append_left _ (List.mem_append_left _ (List.mem_append_left _ (List.mem_append_left _ (List.mem_append_left _ (List.mem_append_left _ (List.mem_append_left _ (List.mem_append_right _ h)))))))))))
theorem inlX4 : ∀ w ∈ wsX40, w ∈ wsL_law := fun _ h => List.mem_append_left _ (List.mem_append_left _ (List.mem_append_left _ (List.mem_append_left _ (List.mem_append_left _ (List.mem_append_left _ (List.mem_append_left _ (List.mem_append_left _ (List.mem_append_left _ (List.mem_append_left _ (List.mem_append_left _ (List.mem_append_left _ (List.mem_append_left _ (List.mem_append_right _ h)))))))))))))
theorem inlX5 : ∀ w ∈ wsX50, w ∈ wsL_law := fun _ h => List.mem_append_left _ (List.mem_append_left _ (List.mem_append_left _ (List.mem_append_left _ (List.mem_append_left _ (List.mem_append_left _ (List.mem_append_left _ (List.mem_append_left _ (List.mem_append_left _ (List.mem_append_left _ (List.mem_append_left _ (List.mem_append_left _ (List.mem_append_left _ (List.mem_append_left _ (List.mem_append_right _ h))))))))))))))
theorem inlX6 : ∀ w ∈ wsX60, w ∈ wsL_law := fun _ h => List.mem_append_left _ (List.mem_append_left _ (List.mem_append_left _ (List.mem_append_left _ (List.mem_append_left _ (List.mem_append_left _ (List.mem_append_left _ (List.mem_append_right _ h)))))))
theorem inlX7 : ∀ w ∈ wsX70, w ∈ wsL_law := fun _ h => List.mem_append_left _ (List.mem_append_left _ (List.mem_append_left _ (List.mem_append_left _ (List.mem_append_right _ h))))
theorem inlX8 : ∀ w ∈ wsX80, w ∈ wsL_law := fun _ h => List.mem_append_left _ (List.mem_append_left _ (List.mem_append_left _ (List.mem_append_left _ (List.mem_append_left _ (List.mem_append_left _ (List.mem_append_left _ (List.mem_append_left _ (List.mem_append_left _ (List.mem_append_left _ (List.mem_append_right _ h))))))))))
theorem inlX9 : ∀ w ∈ wsX90, w ∈ wsL_law := fun _ h => List.mem_append_left _ (List.mem_append_left _ (List.mem_append_left _ (List.mem_append_left _ (List.mem_append_left _ (List.mem_append_left _ (List.mem_append_right _ h))))))
theorem inlX10 : ∀ w ∈ wsX100, w ∈ wsL_law := fun _ h => List.mem_append_left _ (List.mem_append_left _ (List.mem_append_left _ (List.mem_append_left _ (List.mem_append_left _ (List.mem_append_left _ (List.mem_append_left _ (List.mem_append_left _ (List.mem_append_left _ (List.mem_append_left _ (List.mem_append_left _ (List.mem_append_left _ (List.mem_append_right _ h))))))))))))
theorem inlX11 : ∀ w ∈ wsX110, w ∈ wsL_law := fun _ h => List.mem_append_left _ (List.mem_append_left _ (List.mem_append_left _ (List.mem_append_left _ (List.mem_append_left _ (List.mem_append_left _ (List.mem_append_left _ (List.mem_append_left _ (List.mem_append_left _ (List.mem_append_left _ (List.mem_append_left _ (List.mem_append_left _ (List.mem_append_left _ (List.mem_append_left _ (List.mem_append_left _ (List.mem_append_left _ (List.mem_append_left _ (List.mem_append_right _ h)))))))))))))))))
theorem inlX12 : ∀ w ∈ wsX120, w ∈ wsL_law := fun _ h => List.mem_append_left _ (List.mem_append_left _ (List.mem_append_left _ (List.mem_append_left _ (List.mem_append_left _ (List.mem_append_left _ (List.mem_append_left _ (List.mem_append_left _ (List.mem_append_left _ (List.mem_append_left _ (List.mem_append_left _ (List.mem_append_left _ (List.mem_append_left _ (List.mem_append_left _ (List.mem_append_left _ (List.mem_append_left _ (List.mem_append_right _ h))))))))))))))))
theorem inlJx4a65c : ∀ w ∈ wsJx4a65c0, w ∈ wsL_law := fun _ h => List.mem_append_left _ (List.mem_append_left _ (List.mem_append_left _ (List.mem_append_left _ (List.mem_append_left _ (List.mem_append_left _ (List.mem_append_left _ (List.mem_append_left _ (List.mem_append_left _ (List.mem_append_left _ (List.mem_append_left _ (List.mem_append_left _ (List.mem_append_left _ (List.mem_append_left _ (List.mem_append_left _ (List.mem_append_right _ h)))))))))))))))
end
section
/-! A PURE INTERPRETER of the bytecode: values as the machine's, but a reference is the number of a cell of the pure store + 4 (0: the script, 1: ArrayList's empty array, 2 and 3: the class's two arrays of constants). -/
section QI
/-- a cell of the pure store: its kind (below 50: the class of that number in vwCl; 99: a thing that nobody looks at; from 100 on: arrays), its length, what was written into it (the rest is the default) -/
abbrev QC : Type := Nat × Nat × List (Nat × Value)
/-- the pure store: its cells, how many were made, with how many slots -/
abbrev QS : Type := List QC × Nat × Nat
/-- what the constant pool's entries are: entry, tag, three numbers -/
abbrev QK : Type := List (Nat × Nat × Nat × Nat × Nat)
/-- a method: name, bytes, locals, what it returns, its class, whether it is a constructor, handlers (from, to, at, exception), entries, instructions -/
abbrev QM : Type := MethodName × ByteArray × Nat × Option FieldType × String × Bool × List (Nat × Nat × Nat × Nat) × QK × List (Nat × Instr)
abbrev qm_y (M : QM) : MethodName := M.1
abbrev qm_b (M : QM) : ByteArray := M.2.1
abbrev qm_l (M : QM) : Nat := M.2.2.1
abbrev qm_r (M : QM) : Option FieldType := M.2.2.2.1
abbrev qm_o (M : QM) : String := M.2.2.2.2.1
abbrev qm_i (M : QM) : Bool := M.2.2.2.2.2.1
abbrev qm_h (M : QM) : List (Nat × Nat × Nat × Nat) := M.2.2.2.2.2.2.1
abbrev qm_k (M : QM) : QK := M.2.2.2.2.2.2.2.1
abbrev qm_c (M : QM) : List (Nat × Instr) := M.2.2.2.2.2.2.2.2
abbrev QO : Type := Option Value ⊕ Nat
abbrev QL : Type := List (Nat × Value)
def q_ty (k : Nat) : FieldType := if k = 100 then .int else if k = 101 then .long else if k = 102 then .boolean else if k = 103 then .object RX1 else if k = 104 then .object RX3 else if k = 105 then .object RX5 else if k = 106 then .object RX10 else if k = 107 then .object "java/lang/Object" else .array .long
def q_fty (c k : Nat) : FieldType := match c with
  | 0 => tyJx4a65c k
  | 1 => tyX0 k
  | 2 => tyX1 k
  | 3 => tyX2 k
  | 4 => tyX3 k
  | 5 => tyX4 k
  | 6 => tyX5 k
  | 7 => tyX6 k
  | 8 => tyX7 k
  | 9 => tyX8 k
  | 10 => tyX9 k
  | 11 => tyX10 k
  | 12 => tyX11 k
  | _ => tyX12 k
def q_dv (kd i : Nat) : Value := if kd < 50 then defaultValue (q_fty kd i) else defaultValue (q_ty kd)
def q_rd (c : QC) (i : Nat) : Value := match c.2.2.find? (fun q => q.1 == i) with
  | some q => q.2
  | none => q_dv c.1 i
def q_wr (c : QC) (i : Nat) (v : Value) : QC := (c.1, c.2.1, (i, v) :: c.2.2.filter (fun q => !(q.1 == i)))
def q_lo (L : QL) (i : Nat) : Option Value := (L.find? (fun q => q.1 == i)).map (·.2)
def q_s1 (L : QL) (i : Nat) (v : Value) : QL := (i, v) :: L.filter (fun q => !(q.1 == i) && !(q.1 + 1 == i && q.2.category == 2))
def q_s2 (L : QL) (i : Nat) (v : Value) : QL := (i, v) :: L.filter (fun q => !(q.1 == i) && (!(q.1 == i + 1) && !(q.1 + 1 == i && q.2.category == 2)))
def q_rm (L : QL) (i : Nat) : QL := L.filter (fun q => !(q.1 == i) && !(q.1 + 1 == i && q.2.category == 2))
/-- the cell of a reference -/
def q_at (S : QS) (r : Nat) : Option QC := if r < 4 then none else S.1[r - 4]?
def q_put (S : QS) (r : Nat) (c : QC) : QS := (S.1.set (r - 4) c, S.2)
def q_new (S : QS) (c : QC) : QS := (S.1 ++ [c], S.2.1 + 1, S.2.2 + c.2.1)
def q_ii (f : Int32 → Int32 → Value) : List Value → Option (List Value)
  | .int y :: .int x :: st => some (f x y :: st)
  | _ => none
def q_ll (f : Int64 → Int64 → Value) : List Value → Option (List Value)
  | .long y :: .long x :: st => some (f x y :: st)
  | _ => none
def q_li (f : Int64 → Int32 → Value) : List Value → Option (List Value)
  | .int y :: .long x :: st => some (f x y :: st)
  | _ => none
def q_i1 (f : Int32 → Value) : List Value → Option (List Value)
  | .int x :: st => some (f x :: st)
  | _ => none
def q_l1 (f : Int64 → Value) : List Value → Option (List Value)
  | .long x :: st => some (f x :: st)
  | _ => none
def q_iz (f : Int32 → Int32 → Value) : List Value → Option (List Value)
  | .int y :: .int x :: st => if y = 0 then none else some (f x y :: st)
  | _ => none
def q_lz (f : Int64 → Int64 → Value) : List Value → Option (List Value)
  | .long y :: .long x :: st => if y = 0 then none else some (f x y :: st)
  | _ => none
def q_v1 (f : Value → List Value → List Value) : List Value → Option (List Value)
  | v :: st => if v.category = 1 then some (f v st) else none
  | _ => none
def q_v2 (f : Value → Value → List Value → List Value) : List Value → Option (List Value)
  | v :: w :: st => if v.category = 1 ∧ w.category = 1 then some (f v w st) else none
  | _ => none
/-- instructions that look at the stack alone -/
def q_simple (i : Instr) (st : List Value) : Option (List Value) := match i with
  | .iconst n => some (.int (Int32.ofInt n) :: st)
  | .bipush n => some (.int (Int8.ofInt n).toInt32 :: st)
  | .sipush n => some (.int (Int16.ofInt n).toInt32 :: st)
  | .lconst n => some (.long (Int64.ofNat (n : Nat)) :: st)
  | .aconst_null => some (.null :: st)
  | .iadd => q_ii (fun x y => .int (x + y)) st
  | .isub => q_ii (fun x y => .int (x - y)) st
  | .imul => q_ii (fun x y => .int (x * y)) st
  | .iand => q_ii (fun x y => .int (x &&& y)) st
  | .ior => q_ii (fun x y => .int (x ||| y)) st
  | .ixor => q_ii (fun x y => .int (x ^^^ y)) st
  | .ishl => q_ii (fun x y => .int (x <<< (y &&& 31))) st
  | .ishr => q_ii (fun x y => .int (x >>> (y &&& 31))) st
  | .idiv => q_iz (fun x y => .int (x / y)) st
  | .irem => q_iz (fun x y => .int (x - x / y * y)) st
  | .i2l => q_i1 (fun x => .long x.toInt64) st
  | .l2i => q_l1 (fun x => .int x.toInt32) st
  | .ladd => q_ll (fun x y => .long (x + y)) st
  | .lmul => q_ll (fun x y => .long (x * y)) st
  | .land => q_ll (fun x y => .long (x &&& y)) st
  | .lor => q_ll (fun x y => .long (x ||| y)) st
  | .ldiv => q_lz (fun x y => .long (x / y)) st
  | .lrem => q_lz (fun x y => .long (x - x / y * y)) st
  | .lushr => q_li (fun x y => .long (x.toUInt64 >>> (y.toInt64.toUInt64 &&& Int64.toUInt64 63)).toInt64) st
  | .lshl => q_li (fun x y => .long (x <<< (y.toInt64 &&& 63))) st
  | .lshr => q_li (fun x y => .long (x >>> (y.toInt64 &&& 63))) st
  | .lcmp => q_ll (fun x y => .int (lg_cmp x y)) st
  | .dup => q_v1 (fun v st => v :: v :: st) st
  | .pop => q_v1 (fun _ st => st) st
  | .dup_x1 => q_v2 (fun v w st => v :: w :: v :: st) st
  | .dup2 => q_v2 (fun v w st => v :: w :: v :: w :: st) st
  | _ => none
def q_len (i : Instr) : Nat := match i with
  | .bipush _ => 2
  | .sipush _ => 3
  | .iload _ => 2
  | .lload _ => 2
  | .aload _ => 2
  | .istore _ => 2
  | .lstore _ => 2
  | .astore _ => 2
  | .iinc _ _ => 3
  | .goto _ => 3
  | .ifCond _ _ => 3
  | .if_icmp _ _ => 3
  | .if_acmp _ _ => 3
  | .ifnull _ => 3
  | .ifnonnull _ => 3
  | .getfield _ => 3
  | .putfield _ => 3
  | .getstatic _ => 3
  | .invokevirtual _ => 3
  | .invokespecial _ => 3
  | .invokestatic _ => 3
  | .new _ => 3
  | .anewarray _ => 3
  | .checkcast _ => 3
  | .newarray _ => 2
  | .ldc _ => 2
  | .ldc_w _ => 3
  | .ldc2_w _ => 3
  | _ => 1
def q_isSw (i : Instr) : Bool := match i with
  | .tableswitch _ _ _ _ => true
  | _ => false
/-- which local is loaded, and of which tag -/
def q_ldi (i : Instr) : Option (Nat × Nat) := match i with
  | .iload n => some (0, n)
  | .iload_n k => some (0, (k : Nat))
  | .lload n => some (1, n)
  | .lload_n k => some (1, (k : Nat))
  | .aload n => some (2, n)
  | .aload_n k => some (2, (k : Nat))
  | _ => none
def q_sti (i : Instr) : Option (Nat × Nat) := match i with
  | .istore n => some (0, n)
  | .istore_n k => some (0, (k : Nat))
  | .lstore n => some (1, n)
  | .lstore_n k => some (1, (k : Nat))
  | .astore n => some (2, n)
  | .astore_n k => some (2, (k : Nat))
  | _ => none
def q_tag (v : Value) : Nat := match v with
  | .int _ => 0
  | .long _ => 1
  | .ref _ => 2
  | .null => 2
  | _ => 9
def q_cmp (c : ClassFile.Cond) (x y : Int32) : Bool := match c with
  | .eq => decide (x = y)
  | .ne => decide (¬ x = y)
  | .lt => decide (x < y)
  | .ge => decide (y ≤ x)
  | .gt => decide (y < x)
  | .le => decide (x ≤ y)
def q_same (v w : Value) : Option Bool := match v, w with
  | .null, .null => some true
  | .null, .ref _ => some false
  | .ref _, .null => some false
  | .ref a, .ref b => if (a = 1 ∨ 4 ≤ a) ∧ (b = 1 ∨ 4 ≤ b) then some (decide (a = b)) else none
  | _, _ => none
/-- branches: whether it goes by the offset, the offset, the stack behind -/
def q_br (i : Instr) (st : List Value) : Option (Bool × Int × List Value) := match i with
  | .goto o => some (true, o, st)
  | .ifCond c o => (match st with
    | .int x :: r => some (q_cmp c x 0, o, r)
    | _ => none)
  | .if_icmp c o => (match st with
    | .int y :: .int x :: r => some (q_cmp c x y, o, r)
    | _ => none)
  | .ifnull o => (match st with
    | .null :: r => some (true, o, r)
    | .ref _ :: r => some (false, o, r)
    | _ => none)
  | .ifnonnull o => (match st with
    | .null :: r => some (false, o, r)
    | .ref _ :: r => some (true, o, r)
    | _ => none)
  | .if_acmp c o => (match st with
    | w :: v :: r => (q_same v w).map (fun b => ((match c with
      | .eq => b
      | .ne => !b), o, r))
    | _ => none)
  | .tableswitch d lo hi offs => (match st with
    | .int x :: r => if x.toInt < lo ∨ hi < x.toInt then some (true, d, r) else (offs[(x.toInt - lo).toNat]?).map (fun o => (true, o, r))
    | _ => none)
  | _ => none
def q_jump (pc : Nat) (o : Int) : Option Nat := if 0 ≤ (pc : Int) + o then some ((pc : Int) + o).toNat else none
def q_lk (K : QK) (idx : Nat) : Option (Nat × Nat × Nat × Nat) := (K.find? (fun q => q.1 == idx)).map (·.2)
/-- the class's two arrays of constants -/
def q_ta : List Int32 := [5, 5, 3, 100, 3, 3, 5, 23, 23, 0, 23, 0, 23, 0, 3, 0, 0, 0, 5, 9, 5, 0, 0, 5]
def q_tb : List Int32 := [999, 5, 5, 0, 5, 5, 23, 0, 0, 0, 0, 0, 0, 0, 5, 0, 0, 0, 0, 23, 0, 0, 0, 0]
def q_idx (i : Int32) (n : Nat) : Option Nat := if i < 0 ∨ n ≤ i.toNatClampNeg then none else some i.toNatClampNeg
/-- an array's kind, by the instruction that reads or writes it -/
def q_akd (i : Instr) (k : Nat) : Bool := match i with
  | .iaload => k == 100
  | .iastore => k == 100
  | .laload => k == 101
  | .lastore => k == 101
  | .baload => k == 102
  | .bastore => k == 102
  | .aaload => decide (103 ≤ k)
  | _ => false
/-- reads of fields, arrays, lengths: the stack behind -/
def q_read (M : QM) (xs : List Int32) (i : Instr) (st : List Value) (S : QS) : Option (List Value) := match i with
  | .getfield x => (match q_lk (qm_k M) x, st with
    | some (0, ci, k, _), .ref r :: rest => (match q_at S r with
      | some c => if c.1 = ci then some (q_rd c k :: rest) else none
      | none => none)
    | _, _ => none)
  | .arraylength => (match st with
    | .ref 0 :: rest => some (.int (Int32.ofNat xs.length) :: rest)
    | .ref 1 :: rest => some (.int 0 :: rest)
    | .ref 2 :: rest => some (.int (Int32.ofNat 24) :: rest)
    | .ref 3 :: rest => some (.int (Int32.ofNat 24) :: rest)
    | .ref r :: rest => (match q_at S r with
      | some c => if 100 ≤ c.1 then some (.int (Int32.ofNat c.2.1) :: rest) else none
      | none => none)
    | _ => none)
  | .ldc x => (match q_lk (qm_k M) x with
    | some (7, n, _, _) => some (.int (Int32.ofNat n) :: st)
    | _ => none)
  | .ldc_w x => (match q_lk (qm_k M) x with
    | some (7, n, _, _) => some (.int (Int32.ofNat n) :: st)
    | _ => none)
  | .ldc2_w x => (match q_lk (qm_k M) x with
    | some (8, n, _, _) => some (.long (Int64.ofNat n) :: st)
    | _ => none)
  | .getstatic x => (match q_lk (qm_k M) x with
    | some (9, a, _, _) => some (.ref a :: st)
    | _ => none)
  | .iaload => (match st with
    | .int i :: .ref 0 :: rest => (q_idx i xs.length).map (fun j => .int (xs.getD j 0) :: rest)
    | .int i :: .ref 2 :: rest => (q_idx i 24).map (fun j => .int (q_ta.getD j 0) :: rest)
    | .int i :: .ref 3 :: rest => (q_idx i 24).map (fun j => .int (q_tb.getD j 0) :: rest)
    | .int i :: .ref r :: rest => (match q_at S r with
      | some c => if q_akd .iaload c.1 then (q_idx i c.2.1).map (fun j => q_rd c j :: rest) else none
      | none => none)
    | _ => none)
  | i => (match st with
    | .int x :: .ref r :: rest => (match q_at S r with
      | some c => if q_akd i c.1 && (decide (i = .laload) || (decide (i = .baload) || decide (i = .aaload))) then (q_idx x c.2.1).map (fun j => q_rd c j :: rest) else none
      | none => none)
    | _ => none)
/-- writes and makings: the stack and the store behind -/
def q_write (M : QM) (i : Instr) (st : List Value) (S : QS) : Option (List Value × QS) := match i with
  | .putfield x => (match q_lk (qm_k M) x, st with
    | some (0, ci, k, fin), v :: .ref r :: rest => (match q_at S r with
      | some c => if c.1 = ci ∧ narrow (q_fty ci k) v = v ∧ fits (q_fty ci k) v = true ∧ (fin = 0 ∨ (qm_i M) = true) then some (rest, q_put S r (q_wr c k v)) else none
      | none => none)
    | _, _ => none)
  | .iastore => (match st with
    | .int x :: .int i :: .ref r :: rest => (match q_at S r with
      | some c => if c.1 = 100 then (q_idx i c.2.1).map (fun j => (rest, q_put S r (q_wr c j (.int x)))) else none
      | none => none)
    | _ => none)
  | .lastore => (match st with
    | .long x :: .int i :: .ref r :: rest => (match q_at S r with
      | some c => if c.1 = 101 then (q_idx i c.2.1).map (fun j => (rest, q_put S r (q_wr c j (.long x)))) else none
      | none => none)
    | _ => none)
  | .bastore => (match st with
    | .int x :: .int i :: .ref r :: rest => (match q_at S r with
      | some c => if c.1 = 102 then (q_idx i c.2.1).map (fun j => (rest, q_put S r (q_wr c j (narrow .boolean (.int x))))) else none
      | none => none)
    | _ => none)
  | .aastore => (match st with
    | .ref v :: .int i :: .ref r :: rest => (match q_at S r, q_at S v with
      | some c, some d => if (c.1 = 103 ∧ d.1 = 2) ∨ (c.1 = 104 ∧ d.1 = 4) ∨ (c.1 = 105 ∧ d.1 = 6) ∨ (c.1 = 106 ∧ d.1 = 11) ∨ (c.1 = 108 ∧ d.1 = 101) then (q_idx i c.2.1).map (fun j => (rest, q_put S r (q_wr c j (.ref v)))) else none
      | _, _ => none)
    | _ => none)
  | .new x => (match q_lk (qm_k M) x with
    | some (5, ci, n, _) => some (.ref (S.1.length + 4) :: st, q_new S (ci, n, []))
    | _ => none)
  | .newarray t => (match st with
    | .int n :: rest => if n < 0 ∨ 60000000 ≤ n.toNatClampNeg then none else (match t with
      | .int => some (.ref (S.1.length + 4) :: rest, q_new S (100, n.toNatClampNeg, []))
      | .long => some (.ref (S.1.length + 4) :: rest, q_new S (101, n.toNatClampNeg, []))
      | .boolean => some (.ref (S.1.length + 4) :: rest, q_new S (102, n.toNatClampNeg, []))
      | _ => none)
    | _ => none)
  | .anewarray x => (match q_lk (qm_k M) x, st with
    | some (6, kd, _, _), .int n :: rest => if n < 0 ∨ 60000000 ≤ n.toNatClampNeg then none else some (.ref (S.1.length + 4) :: rest, q_new S (kd, n.toNatClampNeg, []))
    | _, _ => none)
  | _ => none
def q_inc (M : QM) (i : Instr) (L : QL) : Option QL := match i with
  | .iinc n k => (match q_lo L n with
    | some (.int x) => if n < (qm_l M) then some (q_s1 L n (.int (x + Int32.ofInt k))) else none
    | _ => none)
  | _ => none
/-- Object's own constructor -/
def q_oi (M : QM) (i : Instr) (st : List Value) : Option (List Value) := match i with
  | .invokespecial x => (match q_lk (qm_k M) x, st with
    | some (4, _, _, _), .ref _ :: rest => if (rest.map fun v => v.category).sum ≤ 8 then some rest else none
    | _, _ => none)
  | _ => none
/-- all that neither calls, nor returns, nor throws: where it goes on, with what -/
def q_step (M : QM) (xs : List Int32) (pc : Nat) (i : Instr) (L : QL) (st : List Value) (S : QS) : Option (Nat × QL × List Value × QS) :=
  match q_simple i st with
  | some st' => some (pc + q_len i, L, st', S)
  | none => match q_ldi i with
    | some (t, n) => (match q_lo L n with
      | some v => if q_tag v = t then some (pc + q_len i, L, v :: st, S) else none
      | none => none)
    | none => match q_sti i with
      | some (t, n) => (match st with
        | v :: rest => if q_tag v = t ∧ n + 1 < (qm_l M) + (if t = 1 then 0 else 1) then some (pc + q_len i, (if t = 1 then q_s2 L n v else q_s1 L n v), rest, S) else none
        | [] => none)
      | none => match q_br i st with
        | some (b, o, rest) => (q_jump pc o).map (fun t => ((if b = true then t else pc + q_len i), L, rest, S))
        | none => match q_inc M i L with
          | some L' => some (pc + 3, L', st, S)
          | none => match q_oi M i st with
            | some st' => some (pc + 3, L, st', S)
            | none => match q_read M xs i st S with
              | some st' => some (pc + q_len i, L, st', S)
              | none => (q_write M i st S).map (fun r => (pc + q_len i, L, r.1, r.2))
/-- a call: which method, its arguments, the stack behind -/
def q_call (M : QM) (i : Instr) (st : List Value) (S : QS) : Option (Nat × List Value × List Value) := match i with
  | .invokevirtual x => (match q_lk (qm_k M) x with
    | some (1, mi, n, ci) => (match st.drop n with
      | .ref b :: rest => (match q_at S b with
        | some c => if c.1 = ci ∧ n ≤ st.length ∧ (rest.map fun v => v.category).sum ≤ 8 then some (mi, .ref b :: (st.take n).reverse, rest) else none
        | none => none)
      | _ => none)
    | _ => none)
  | .invokestatic x => (match q_lk (qm_k M) x with
    | some (2, mi, n, _) => if n ≤ st.length ∧ ((st.drop n).map fun v => v.category).sum ≤ 8 then some (mi, (st.take n).reverse, st.drop n) else none
    | _ => none)
  | .invokespecial x => (match q_lk (qm_k M) x with
    | some (3, mi, n, _) => (match st.drop n with
      | .ref b :: rest => if n ≤ st.length ∧ (rest.map fun v => v.category).sum ≤ 8 then some (mi, .ref b :: (st.take n).reverse, rest) else none
      | _ => none)
    | _ => none)
  | _ => none
def q_ret (M : QM) (i : Instr) (st : List Value) : Option (Option Value) := match i, st with
  | .return_, [] => if (qm_r M) = none then some none else none
  | .ireturn, [.int x] => (match (qm_r M) with
    | some ty => if narrow ty (.int x) = .int x then some (some (.int x)) else none
    | none => none)
  | .lreturn, [.long x] => if (qm_r M) = some .long then some (some (.long x)) else none
  | .areturn, [v] => (match (qm_r M) with
    | some (.object _) => if q_tag v = 2 then some (some v) else none
    | some (.array _) => if q_tag v = 2 then some (some v) else none
    | _ => none)
  | _, _ => none
def q_code (M : QM) (pc : Nat) : Option Instr := ((qm_c M).find? (fun q => q.1 == pc)).map (·.2)
/-- 'throw new E(text)' begins here: which E -/
def q_thr (M : QM) (pc : Nat) (i : Instr) (st : List Value) : Option Nat := match i with
  | .new x => (match q_lk (qm_k M) x with
    | some (11, e, ic, _) => if (st.map fun v => v.category).sum ≤ 8 ∧ (qm_h M) = [] ∧ e < 3 ∧ q_code M (pc + 3) = some .dup then (match q_code M (pc + 4) with
      | some (.ldc z) => if q_lk (qm_k M) z = some (13, 0, 0, 0) ∧ q_code M (pc + 6) = some (.invokespecial ic) ∧ q_code M (pc + 9) = some .athrow then some e else none
      | some (.ldc_w z) => if q_lk (qm_k M) z = some (13, 0, 0, 0) ∧ q_code M (pc + 7) = some (.invokespecial ic) ∧ q_code M (pc + 10) = some .athrow then some e else none
      | _ => none) else none
    | _ => none)
  | _ => none
/-- whether a handler takes the exception e at pc -/
def q_hx (M : QM) (pc e : Nat) (h : Nat × Nat × Nat × Nat) : Bool := decide (h.1 ≤ pc) && (decide (pc < h.2.1) && (match q_lk (qm_k M) h.2.2.2 with
  | some (12, f, _, _) => f == e
  | _ => false))
/-- the handler of an exception: behind its astore -/
def q_hand (M : QM) (pc e : Nat) (L : QL) : Option (Nat × QL) := match (qm_h M).find? (q_hx M pc e) with
  | some h => (match q_code M h.2.2.1 with
    | some (.astore n) => if n < (qm_l M) then some (h.2.2.1 + 2, q_rm L n) else none
    | some (.astore_n k) => if (k : Nat) < (qm_l M) then some (h.2.2.1 + 1, q_rm L (k : Nat)) else none
    | _ => none)
  | none => none
def q_run (call : Nat → List Value → QS → Option (QO × QS)) (M : QM) (xs : List Int32) : Nat → Nat → QL → List Value → QS → Option (QO × QS)
  | 0, _, _, _, _ => none
  | n + 1, pc, L, st, S => match q_code M pc with
    | none => none
    | some i => match q_step M xs pc i L st S with
      | some (pc', L', st', S') => q_run call M xs n pc' L' st' S'
      | none => match q_call M i st S with
        | some (mi, as, rest) => (match call mi as S with
          | some (.inl v, S') => q_run call M xs n (pc + 3) L (v.toList ++ rest) S'
          | some (.inr e, S') => if (qm_h M) = [] then some (.inr e, S') else (match q_hand M pc e L with
            | some (pc', L') => q_run call M xs n pc' L' [] S'
            | none => none)
          | none => none)
        | none => match q_ret M i st with
          | some v => some (.inl v, S)
          | none => (q_thr M pc i st).map (fun e => (.inr e, (S.1 ++ [(99, 0, [])], S.2.1 + 1, S.2.2 + 6)))
/-- a call of a method of the table T, at most d deep, each of at most n steps -/
def q_pc (T : List QM) (xs : List Int32) (n : Nat) : Nat → Nat → List Value → QS → Option (QO × QS)
  | 0, _, _, _ => none
  | d + 1, mi, as, S => match T[mi]? with
    | none => none
    | some M => if (lg_sl as).length ≤ qm_l M then q_run (q_pc T xs n d) M xs n 0 (lv_args 0 as) [] S else none
end QI
end
section
/-! SOUNDNESS of the pure interpreter, I: the stack, the locals, branches. P: the cells of the old things 0 to 3, and the first new cell. -/
section QR
def q_ad (P : (Nat → Nat) × Nat) (r : Nat) : Nat := match r with
  | 0 => P.1 0
  | 1 => P.1 1
  | 2 => P.1 2
  | 3 => P.1 3
  | k + 4 => P.2 + k
def q_rv (P : (Nat → Nat) × Nat) (v : Value) : Value := match v with
  | .ref r => .ref (q_ad P r)
  | v => v
def q_rL (P : (Nat → Nat) × Nat) (L : QL) : QL := L.map (fun q => (q.1, q_rv P q.2))
theorem q_rv_cat (P : (Nat → Nat) × Nat) (v : Value) : (q_rv P v).category = v.category := by cases v <;> rfl
theorem q_sum_cat (P : (Nat → Nat) × Nat) (st : List Value) : ((st.map (q_rv P)).map fun v => v.category).sum = (st.map fun v => v.category).sum := by
  rw [List.map_map]
  congr 1
  exact List.map_congr_left fun v _ => q_rv_cat P v
theorem q_s1_rv (P : (Nat → Nat) × Nat) (L : QL) (i : Nat) (v : Value) : q_rL P (q_s1 L i v) = q_s1 (q_rL P L) i (q_rv P v) := by
  simp only [q_s1, q_rL, List.map_cons, List.filter_map, Function.comp_def, q_rv_cat]
theorem q_s2_rv (P : (Nat → Nat) × Nat) (L : QL) (i : Nat) (v : Value) : q_rL P (q_s2 L i v) = q_s2 (q_rL P L) i (q_rv P v) := by
  simp only [q_s2, q_rL, List.map_cons, List.filter_map, Function.comp_def, q_rv_cat]
theorem q_rm_rv (P : (Nat → Nat) × Nat) (L : QL) (i : Nat) : q_rL P (q_rm L i) = q_rm (q_rL P L) i := by
  simp only [q_rm, q_rL, List.filter_map, Function.comp_def, q_rv_cat]
theorem q_lo_mem {L : QL} {i : Nat} {v : Value} (h : q_lo L i = some v) : (i, v) ∈ L := by
  unfold q_lo at h
  obtain ⟨q, h1, h2⟩ := Option.map_eq_some_iff.mp h
  have h3 := List.mem_of_find?_eq_some h1
  have h4 := List.find?_some h1
  simp only [beq_iff_eq] at h4
  subst h2
  rw [← h4]
  exact h3
theorem q_lo_at {P : (Nat → Nat) × Nat} {ls : Array Slot} {nL : Nat} {L : QL} {i : Nat} {v : Value} (hl : lv_has ls nL (q_rL P L)) (h : q_lo L i = some v) : ls[i]? = some (.val (q_rv P v)) :=
  hl.2.2 (i, q_rv P v) (List.mem_map.mpr ⟨(i, v), q_lo_mem h, rfl⟩)
theorem q_ii_s {f : Int32 → Int32 → Value} {st st' : List Value} (h : q_ii f st = some st') : ∃ x y r, st = .int y :: .int x :: r ∧ st' = f x y :: r := by
  unfold q_ii at h
  split at h
  · cases h; exact ⟨_, _, _, rfl, rfl⟩
  · cases h
theorem q_ll_s {f : Int64 → Int64 → Value} {st st' : List Value} (h : q_ll f st = some st') : ∃ x y r, st = .long y :: .long x :: r ∧ st' = f x y :: r := by
  unfold q_ll at h
  split at h
  · cases h; exact ⟨_, _, _, rfl, rfl⟩
  · cases h
theorem q_li_s {f : Int64 → Int32 → Value} {st st' : List Value} (h : q_li f st = some st') : ∃ x y r, st = .int y :: .long x :: r ∧ st' = f x y :: r := by
  unfold q_li at h
  split at h
  · cases h; exact ⟨_, _, _, rfl, rfl⟩
  · cases h
theorem q_i1_s {f : Int32 → Value} {st st' : List Value} (h : q_i1 f st = some st') : ∃ x r, st = .int x :: r ∧ st' = f x :: r := by
  unfold q_i1 at h
  split at h
  · cases h; exact ⟨_, _, rfl, rfl⟩
  · cases h
theorem q_l1_s {f : Int64 → Value} {st st' : List Value} (h : q_l1 f st = some st') : ∃ x r, st = .long x :: r ∧ st' = f x :: r := by
  unfold q_l1 at h
  split at h
  · cases h; exact ⟨_, _, rfl, rfl⟩
  · cases h
theorem q_iz_s {f : Int32 → Int32 → Value} {st st' : List Value} (h : q_iz f st = some st') : ∃ x y r, st = .int y :: .int x :: r ∧ st' = f x y :: r ∧ ¬ y = 0 := by
  unfold q_iz at h
  split at h
  · split at h
    · cases h
    · rename_i hy
      cases h; exact ⟨_, _, _, rfl, rfl, hy⟩
  · cases h
theorem q_lz_s {f : Int64 → Int64 → Value} {st st' : List Value} (h : q_lz f st = some st') : ∃ x y r, st = .long y :: .long x :: r ∧ st' = f x y :: r ∧ ¬ y = 0 := by
  unfold q_lz at h
  split at h
  · split at h
    · cases h
    · rename_i hy
      cases h; exact ⟨_, _, _, rfl, rfl, hy⟩
  · cases h
theorem q_v1_s {f : Value → List Value → List Value} {st st' : List Value} (h : q_v1 f st = some st') : ∃ v r, st = v :: r ∧ st' = f v r ∧ v.category = 1 := by
  unfold q_v1 at h
  split at h
  · split at h
    · rename_i hv
      cases h; exact ⟨_, _, rfl, rfl, hv⟩
    · cases h
  · cases h
theorem q_v2_s {f : Value → Value → List Value → List Value} {st st' : List Value} (h : q_v2 f st = some st') : ∃ v w r, st = v :: w :: r ∧ st' = f v w r ∧ v.category = 1 ∧ w.category = 1 := by
  unfold q_v2 at h
  split at h
  · split at h
    · rename_i hv
      cases h; exact ⟨_, _, _, rfl, rfl, hv.1, hv.2⟩
    · cases h
  · cases h
section QA
variable {p : Program} {l : Launch} {e : Env} {R : Room} {s : State} {m : MethodId} {args : Array Value} {below : List Frame} {meth : Method} {c : Code} {H : Heap} {locs : List Loc} {cells slots : Nat} {Q : State → Prop} {cc : ByteArray} {pc nL : Nat} {ls : Array Slot} {P : (Nat → Nat) × Nat}
set_option maxHeartbeats 2000000 in
theorem q_simple_ok (hx : p.tables.exec = Jvm.exec) (hb : c.code = cc) {i : Instr} {st st' : List Value} (h : q_simple i st = some st') (hd : decode cc pc = .ok (i, q_len i))
    (k : W p l e R s m args below meth c H locs cells slots Q (F0 m (pc + q_len i) ls (st'.map (q_rv P)))) : W p l e R s m args below meth c H locs cells slots Q (F0 m pc ls (st.map (q_rv P))) := by
  unfold q_simple at h
  split at h
  · cases h; exact lv_iconst hx hb hd rfl k
  · cases h; exact lv_bipush hx hb hd rfl k
  · cases h; exact lv_sipush hx hb hd rfl k
  · cases h; exact lv_lconst hx hb hd rfl k
  · cases h; exact lv_null hx hb hd k
  · obtain ⟨x, y, r, rfl, rfl⟩ := q_ii_s h; exact lv_iadd hx hb hd k
  · obtain ⟨x, y, r, rfl, rfl⟩ := q_ii_s h; exact lv_isub hx hb hd k
  · obtain ⟨x, y, r, rfl, rfl⟩ := q_ii_s h; exact lv_imul hx hb hd k
  · obtain ⟨x, y, r, rfl, rfl⟩ := q_ii_s h; exact lv_iand hx hb hd k
  · obtain ⟨x, y, r, rfl, rfl⟩ := q_ii_s h; exact lv_ior hx hb hd k
  · obtain ⟨x, y, r, rfl, rfl⟩ := q_ii_s h; exact lv_ixor hx hb hd k
  · obtain ⟨x, y, r, rfl, rfl⟩ := q_ii_s h; exact lv_ishl hx hb hd k
  · obtain ⟨x, y, r, rfl, rfl⟩ := q_ii_s h; exact lv_ishr hx hb hd k
  · obtain ⟨x, y, r, rfl, rfl, hy⟩ := q_iz_s h; exact lv_idiv hx hb hd hy k
  · obtain ⟨x, y, r, rfl, rfl, hy⟩ := q_iz_s h; exact lv_irem hx hb hd hy k
  · obtain ⟨x, r, rfl, rfl⟩ := q_i1_s h; exact lv_i2l hx hb hd rfl k
  · obtain ⟨x, r, rfl, rfl⟩ := q_l1_s h; exact lv_l2i hx hb hd rfl k
  · obtain ⟨x, y, r, rfl, rfl⟩ := q_ll_s h; exact lv_ladd hx hb hd k
  · obtain ⟨x, y, r, rfl, rfl⟩ := q_ll_s h; exact lv_lmul hx hb hd k
  · obtain ⟨x, y, r, rfl, rfl⟩ := q_ll_s h; exact lv_land hx hb hd k
  · obtain ⟨x, y, r, rfl, rfl⟩ := q_ll_s h; exact lv_lor hx hb hd k
  · obtain ⟨x, y, r, rfl, rfl, hy⟩ := q_lz_s h; exact lv_ldiv hx hb hd hy k
  · obtain ⟨x, y, r, rfl, rfl, hy⟩ := q_lz_s h; exact lv_lrem hx hb hd hy k
  · obtain ⟨x, y, r, rfl, rfl⟩ := q_li_s h; exact lv_lushr hx hb hd rfl k
  · obtain ⟨x, y, r, rfl, rfl⟩ := q_li_s h; exact lv_lshl hx hb hd rfl k
  · obtain ⟨x, y, r, rfl, rfl⟩ := q_li_s h; exact lv_lshr hx hb hd rfl k
  · obtain ⟨x, y, r, rfl, rfl⟩ := q_ll_s h; exact W.lcmp hx hb hd k
  · obtain ⟨v, r, rfl, rfl, hv⟩ := q_v1_s h; exact lv_dup hx hb hd ((q_rv_cat P v).trans hv) k
  · obtain ⟨v, r, rfl, rfl, hv⟩ := q_v1_s h; exact lv_pop hx hb hd ((q_rv_cat P v).trans hv) k
  · obtain ⟨v, w, r, rfl, rfl, hv, hw⟩ := q_v2_s h; exact lv_dup_x1 hx hb hd ((q_rv_cat P v).trans hv) ((q_rv_cat P w).trans hw) k
  · obtain ⟨v, w, r, rfl, rfl, hv, hw⟩ := q_v2_s h; exact lv_dup2_11 hx hb hd ((q_rv_cat P v).trans hv) ((q_rv_cat P w).trans hw) k
  · cases h
theorem q_tag0 {v : Value} (h : q_tag v = 0) : ∃ x, v = .int x := by cases v <;> first | exact ⟨_, rfl⟩ | (simp [q_tag] at h)
theorem q_tag1 {v : Value} (h : q_tag v = 1) : ∃ x, v = .long x := by cases v <;> first | exact ⟨_, rfl⟩ | (simp [q_tag] at h)
theorem q_tag2 {v : Value} (h : q_tag v = 2) : v = .null ∨ ∃ x, v = .ref x := by cases v <;> first | exact Or.inl rfl | exact Or.inr ⟨_, rfl⟩ | (simp [q_tag] at h)
theorem q_ld_ok (hx : p.tables.exec = Jvm.exec) (hb : c.code = cc) {i : Instr} {t n : Nat} {v : Value} {L : QL} {st : List Value} (h : q_ldi i = some (t, n)) (hv : q_lo L n = some v) (ht : q_tag v = t) (hd : decode cc pc = .ok (i, q_len i)) (hl : lv_has ls nL (q_rL P L))
    (k : W p l e R s m args below meth c H locs cells slots Q (F0 m (pc + q_len i) ls ((v :: st).map (q_rv P)))) : W p l e R s m args below meth c H locs cells slots Q (F0 m pc ls (st.map (q_rv P))) := by
  have hm := q_lo_at hl hv
  unfold q_ldi at h
  split at h
  · cases h; obtain ⟨x, rfl⟩ := q_tag0 ht; exact lv_iload hx hb hd hm k
  · cases h; obtain ⟨x, rfl⟩ := q_tag0 ht; exact lv_iload_n hx hb hd rfl hm k
  · cases h; obtain ⟨x, rfl⟩ := q_tag1 ht; exact lv_lload hx hb hd hm k
  · cases h; obtain ⟨x, rfl⟩ := q_tag1 ht; exact lv_lload_n hx hb hd rfl hm k
  · cases h
    rcases q_tag2 ht with rfl | ⟨x, rfl⟩
    · exact lv_aloadN hx hb hd hm k
    · exact lv_aload hx hb hd hm k
  · cases h
    rcases q_tag2 ht with rfl | ⟨x, rfl⟩
    · exact lv_aload_nN hx hb hd rfl hm k
    · exact lv_aload_n hx hb hd rfl hm k
  · cases h
theorem q_st_ok (hx : p.tables.exec = Jvm.exec) (hb : c.code = cc) {i : Instr} {t n : Nat} {v : Value} {L : QL} {rest : List Value} (h : q_sti i = some (t, n)) (ht : q_tag v = t) (hn : n + 1 < nL + (if t = 1 then 0 else 1)) (hd : decode cc pc = .ok (i, q_len i)) (hl : lv_has ls nL (q_rL P L))
    (k : ∀ ls' : Array Slot, lv_has ls' nL (q_rL P (if t = 1 then q_s2 L n v else q_s1 L n v)) → W p l e R s m args below meth c H locs cells slots Q (F0 m (pc + q_len i) ls' (rest.map (q_rv P)))) : W p l e R s m args below meth c H locs cells slots Q (F0 m pc ls ((v :: rest).map (q_rv P))) := by
  unfold q_sti at h
  split at h
  · cases h; obtain ⟨x, rfl⟩ := q_tag0 ht
    rw [if_neg (by decide)] at hn k
    exact lv_istore (lv' := q_rL P (q_s1 L _ (.int x))) hx hb hd hl (by omega) (q_s1_rv P L _ (.int x)).symm k
  · cases h; obtain ⟨x, rfl⟩ := q_tag0 ht
    rw [if_neg (by decide)] at hn k
    exact lv_istore_n (lv' := q_rL P (q_s1 L _ (.int x))) hx hb hd rfl hl (by omega) (q_s1_rv P L _ (.int x)).symm k
  · cases h; obtain ⟨x, rfl⟩ := q_tag1 ht
    rw [if_pos rfl] at hn k
    exact lv_lstore (lv' := q_rL P (q_s2 L _ (.long x))) hx hb hd hl (by omega) (q_s2_rv P L _ (.long x)).symm k
  · cases h; obtain ⟨x, rfl⟩ := q_tag1 ht
    rw [if_pos rfl] at hn k
    exact lv_lstore_n (lv' := q_rL P (q_s2 L _ (.long x))) hx hb hd rfl hl (by omega) (q_s2_rv P L _ (.long x)).symm k
  · cases h
    rw [if_neg (by decide)] at hn k
    rcases q_tag2 ht with rfl | ⟨x, rfl⟩
    · exact lv_astoreN (lv' := q_rL P (q_s1 L _ (.null))) hx hb hd hl (by omega) (q_s1_rv P L _ (.null)).symm k
    · exact lv_astore (lv' := q_rL P (q_s1 L _ (.ref x))) hx hb hd hl (by omega) (q_s1_rv P L _ (.ref x)).symm k
  · cases h
    rw [if_neg (by decide)] at hn k
    rcases q_tag2 ht with rfl | ⟨x, rfl⟩
    · exact lv_astore_nN (lv' := q_rL P (q_s1 L _ (.null))) hx hb hd rfl hl (by omega) (q_s1_rv P L _ (.null)).symm k
    · exact lv_astore_n (lv' := q_rL P (q_s1 L _ (.ref x))) hx hb hd rfl hl (by omega) (q_s1_rv P L _ (.ref x)).symm k
  · cases h
theorem q_jump_s {o : Int} {t : Nat} (h : q_jump pc o = some t) : (pc : Int) + o = (t : Int) := by
  unfold q_jump at h
  split at h
  · cases h; omega
  · cases h
theorem q_if {b : Bool} {d : Prop} [Decidable d] {x y : Nat} (hb : b = decide d) {F : Nat → Prop} (k : F (if b = true then x else y)) : (d → F x) ∧ (¬ d → F y) := by
  subst hb
  refine ⟨fun hd => ?_, fun hd => ?_⟩
  · simpa [hd] using k
  · simpa [hd] using k
set_option maxHeartbeats 2000000 in
theorem q_br_ok (hx : p.tables.exec = Jvm.exec) (hb : c.code = cc) {i : Instr} {st rest : List Value} {b : Bool} {o : Int} {t n : Nat} (h : q_br i st = some (b, o, rest)) (hj : q_jump pc o = some t) (hd : decode cc pc = .ok (i, n)) (hn : n = q_len i ∨ q_isSw i = true) (hP : P.1 1 < P.2)
    (k : W p l e R s m args below meth c H locs cells slots Q (F0 m (if b = true then t else pc + q_len i) ls (rest.map (q_rv P)))) : W p l e R s m args below meth c H locs cells slots Q (F0 m pc ls (st.map (q_rv P))) := by
  have ht := q_jump_s hj
  unfold q_br at h
  split at h
  · cases h
    rcases hn with rfl | hn
    · exact lv_goto hx hb hd ht k
    · cases hn
  · rename_i cd o'
    rcases hn with rfl | hn
    · split at h
      · cases h
        cases cd with
        | eq => obtain ⟨k1, k2⟩ := q_if (F := fun z => W p l e R s m args below meth c H locs cells slots Q (F0 m z ls _)) rfl k; exact lv_if_eq hx hb hd ht k1 k2
        | ne =>
          obtain ⟨k1, k2⟩ := q_if (F := fun z => W p l e R s m args below meth c H locs cells slots Q (F0 m z ls _)) rfl k
          exact lv_if_ne hx hb hd ht k1 (fun h9 => k2 (fun h8 => h8 h9))
        | lt => obtain ⟨k1, k2⟩ := q_if (F := fun z => W p l e R s m args below meth c H locs cells slots Q (F0 m z ls _)) rfl k; exact lv_if_lt hx hb hd ht k1 k2
        | ge => obtain ⟨k1, k2⟩ := q_if (F := fun z => W p l e R s m args below meth c H locs cells slots Q (F0 m z ls _)) rfl k; exact lv_if_ge hx hb hd ht k1 k2
        | gt => obtain ⟨k1, k2⟩ := q_if (F := fun z => W p l e R s m args below meth c H locs cells slots Q (F0 m z ls _)) rfl k; exact lv_if_gt hx hb hd ht k1 k2
        | le => obtain ⟨k1, k2⟩ := q_if (F := fun z => W p l e R s m args below meth c H locs cells slots Q (F0 m z ls _)) rfl k; exact lv_if_le hx hb hd ht k1 k2
      · cases h
    · cases hn
  · rename_i cd o'
    rcases hn with rfl | hn
    · split at h
      · cases h
        cases cd with
        | eq => obtain ⟨k1, k2⟩ := q_if (F := fun z => W p l e R s m args below meth c H locs cells slots Q (F0 m z ls _)) rfl k; exact lv_icmp_eq hx hb hd ht k1 k2
        | ne =>
          obtain ⟨k1, k2⟩ := q_if (F := fun z => W p l e R s m args below meth c H locs cells slots Q (F0 m z ls _)) rfl k
          exact lv_icmp_ne hx hb hd ht k1 (fun h9 => k2 (fun h8 => h8 h9))
        | lt => obtain ⟨k1, k2⟩ := q_if (F := fun z => W p l e R s m args below meth c H locs cells slots Q (F0 m z ls _)) rfl k; exact lv_icmp_lt hx hb hd ht k1 k2
        | ge => obtain ⟨k1, k2⟩ := q_if (F := fun z => W p l e R s m args below meth c H locs cells slots Q (F0 m z ls _)) rfl k; exact lv_icmp_ge hx hb hd ht k1 k2
        | gt => obtain ⟨k1, k2⟩ := q_if (F := fun z => W p l e R s m args below meth c H locs cells slots Q (F0 m z ls _)) rfl k; exact lv_icmp_gt hx hb hd ht k1 k2
        | le => obtain ⟨k1, k2⟩ := q_if (F := fun z => W p l e R s m args below meth c H locs cells slots Q (F0 m z ls _)) rfl k; exact lv_icmp_le hx hb hd ht k1 k2
      · cases h
    · cases hn
  · rcases hn with rfl | hn
    · split at h
      · cases h; exact lv_ifnullN hx hb hd ht k
      · cases h; exact lv_ifnull hx hb hd k
      · cases h
    · cases hn
  · rcases hn with rfl | hn
    · split at h
      · cases h; exact lv_ifnonnullN hx hb hd k
      · cases h; exact lv_ifnonnull hx hb hd ht k
      · cases h
    · cases hn
  · rename_i cd o'
    rcases hn with rfl | hn
    · split at h
      · rename_i w v r
        obtain ⟨bb, h1, h2⟩ := Option.map_eq_some_iff.mp h
        cases h2
        have key : ∃ rx ry : Option Nat, q_rv P v = va_rf rx ∧ q_rv P w = va_rf ry ∧ (bb = decide (rx = ry)) := by
          unfold q_same at h1
          split at h1
          · cases h1; exact ⟨none, none, rfl, rfl, rfl⟩
          · cases h1; exact ⟨none, some _, rfl, rfl, by simp⟩
          · cases h1; exact ⟨some _, none, rfl, rfl, by simp⟩
          · rename_i a9 b9
            split at h1
            · rename_i h12
              cases h1
              refine ⟨some (q_ad P a9), some (q_ad P b9), rfl, rfl, ?_⟩
              have hinj : (some (q_ad P a9) = some (q_ad P b9)) ↔ a9 = b9 := by
                constructor
                · intro he
                  have he := Option.some.inj he
                  obtain ⟨g1, g2⟩ := h12
                  have r1 : ∀ a : Nat, (a = 1 ∨ 4 ≤ a) → a = 1 ∨ ∃ k1, a = k1 + 4 := fun a ha => ha.imp id fun z => ⟨a - 4, by omega⟩
                  rcases r1 a9 g1 with rfl | ⟨k1, rfl⟩ <;> rcases r1 b9 g2 with rfl | ⟨k2, rfl⟩
                  · rfl
                  · exact absurd hP (Nat.not_lt.mpr (Nat.le_trans (Nat.le_add_right P.2 k2) (Nat.le_of_eq (show P.2 + k2 = P.1 1 from he.symm))))
                  · exact absurd hP (Nat.not_lt.mpr (Nat.le_trans (Nat.le_add_right P.2 k1) (Nat.le_of_eq (show P.2 + k1 = P.1 1 from he))))
                  · exact congrArg (· + 4) (Nat.add_left_cancel (show P.2 + k1 = P.2 + k2 from he))
                · intro he; rw [he]
              by_cases ha : a9 = b9
              · simp [ha]
              · have : ¬ (some (q_ad P a9) = some (q_ad P b9)) := fun z => ha (hinj.mp z)
                simp only [ha, this]
            · cases h1
          · cases h1
        obtain ⟨rx, ry, e1, e2, e3⟩ := key
        rw [List.map_cons, List.map_cons, e1, e2]
        cases cd with
        | eq => obtain ⟨k1, k2⟩ := q_if (F := fun z => W p l e R s m args below meth c H locs cells slots Q (F0 m z ls _)) e3 k; exact lv_acmp_eq hx hb hd ht k1 k2
        | ne =>
          obtain ⟨k1, k2⟩ := q_if (d := ¬ rx = ry) (F := fun z => W p l e R s m args below meth c H locs cells slots Q (F0 m z ls _)) (by rw [e3]; simp) k
          exact lv_acmp_ne hx hb hd ht k1 (fun h9 => k2 (fun h8 => h8 h9))
      · cases h
    · cases hn
  · split at h
    · split at h
      · rename_i hout
        cases h
        exact lv_tableOut hx hb hd hout ht k
      · rename_i hin
        obtain ⟨o9, h1, h2⟩ := Option.map_eq_some_iff.mp h
        cases h2
        exact lv_tableIn hx hb hd (fun z => hin (Or.inl z)) (fun z => hin (Or.inr z)) h1 ht k
    · cases h
  · cases h
end QA
end QR
end
section
/-! SOUNDNESS of the pure interpreter, II: the store. -/
section QH
/-- what the tables say of an array class -/
def q_cn (ty : FieldType) : String := match ty with
  | .object C => C
  | t => t.toString
def q_AC (U : State) (cA : ClassId) (ty : FieldType) : Prop := ArrOfT U cA ty ∧ U.vm.findClass ("[" ++ ty.toString) = some cA ∧ (ty.isReference = true → ∃ (kA : Class) (comp : ClassId), U.vm.classes[cA]? = some kA ∧ kA.kind = .array comp ty ∧ U.vm.findClass (q_cn ty) = some comp)
theorem q_AC.moved {u U : State} (hvm : u.vm.Alike U.vm) {cA : ClassId} {ty : FieldType} (h : q_AC u cA ty) : q_AC U cA ty := by
  obtain ⟨h1, h2, h3⟩ := h
  refine ⟨arrOfT_moved hvm h1, by rw [hvm.findClass]; exact h2, fun hr => ?_⟩
  obtain ⟨kA, comp, g1, g2, g3⟩ := h3 hr
  obtain ⟨k', hk', he⟩ := hvm.2.2 _ _ g1
  exact ⟨k', comp, hk', by rw [he]; exact g2, by rw [hvm.findClass]; exact g3⟩
/-- the cell number k of the store lies in the heap -/
def q_C (P : (Nat → Nat) × Nat) (D : va_G) (U : State) (H : Heap) (k : Nat) (c : QC) : Prop :=
  if c.1 < 50 then ∃ row : vw_C, vwCl[c.1]? = some row ∧ t_OB (P.2 + k) (D.1 c.1) row.2.2 (D.2 c.1) H (fun i => q_rv P (q_rd c i))
  else c.1 = 99 ∨ ∃ cA : ClassId, H[P.2 + k]? = some (arrV cA c.2.1 (fun i => q_rv P (q_rd c i))) ∧ q_AC U cA (q_ty c.1)
def q_W (P : (Nat → Nat) × Nat) (D : va_G) (S : QS) (U : State) (H : Heap) : Prop :=
  H.size = P.2 + S.1.length ∧ (∀ (n : Nat) (q : vw_C), vwCl[n]? = some q → u_Kn U q.1 q.2.1 q.2.2 (D.1 n) (D.2 n)) ∧ ∀ (k : Nat) (c : QC), S.1[k]? = some c → q_C P D U H k c
theorem q_C.kept {P : (Nat → Nat) × Nat} {D : va_G} {U : State} {H H1 : Heap} {k : Nat} {c : QC} (h : q_C P D U H k c) (hq : H1[P.2 + k]? = H[P.2 + k]?) : q_C P D U H1 k c := by
  unfold q_C at h ⊢
  split
  · rename_i hc
    rw [if_pos hc] at h
    obtain ⟨row, h1, h2⟩ := h
    exact ⟨row, h1, h2.kept hq⟩
  · rename_i hc
    rw [if_neg hc] at h
    rcases h with h | ⟨cA, h1, h2⟩
    · exact Or.inl h
    · exact Or.inr ⟨cA, by rw [hq]; exact h1, h2⟩
theorem q_C.moved {P : (Nat → Nat) × Nat} {D : va_G} {u U : State} (hvm : u.vm.Alike U.vm) {H : Heap} {k : Nat} {c : QC} (h : q_C P D u H k c) : q_C P D U H k c := by
  unfold q_C at h ⊢
  split
  · rename_i hc
    rw [if_pos hc] at h
    exact h
  · rename_i hc
    rw [if_neg hc] at h
    rcases h with h | ⟨cA, h1, h2⟩
    · exact Or.inl h
    · exact Or.inr ⟨cA, h1, h2.moved hvm⟩
theorem q_W.moved {P : (Nat → Nat) × Nat} {D : va_G} {S : QS} {u U : State} (hvm : u.vm.Alike U.vm) {H : Heap} (h : q_W P D S u H) : q_W P D S U H :=
  ⟨h.1, fun n q hq => u_Kn_moved hvm (h.2.1 n q hq), fun k c hk => (h.2.2 k c hk).moved hvm⟩
theorem q_W.set {P : (Nat → Nat) × Nat} {D : va_G} {S : QS} {U : State} {H H1 : Heap} {k : Nat} {c' : QC} (h : q_W P D S U H) (hz : H1.size = H.size) (ho : ∀ q : Nat, q ≠ P.2 + k → H1[q]? = H[q]?) (hc : q_C P D U H1 k c') : q_W P D (S.1.set k c', S.2) U H1 := by
  refine ⟨by rw [hz, h.1]; simp, h.2.1, fun j x hx => ?_⟩
  by_cases hj : j = k
  · subst hj
    have hx' : (S.1.set j c')[j]? = some x := hx
    have hl : j < S.1.length := by
      have := (List.getElem?_eq_some_iff.mp hx').1
      simpa using this
    rw [List.getElem?_set_self hl] at hx'
    cases hx'
    exact hc
  · have hx' : (S.1.set k c')[j]? = some x := hx
    rw [List.getElem?_set_ne (fun q => hj q.symm)] at hx'
    exact (h.2.2 j x hx').kept (ho _ (by omega))
theorem q_W.push {P : (Nat → Nat) × Nat} {D : va_G} {S : QS} {U : State} {H H1 : Heap} {c' : QC} {n : Nat × Nat} (h : q_W P D S U H) (hz : H1.size = H.size + 1) (ho : ∀ q : Nat, q < H.size → H1[q]? = H[q]?) (hc : q_C P D U H1 S.1.length c') : q_W P D (S.1 ++ [c'], n) U H1 := by
  refine ⟨by rw [hz, h.1]; simp; omega, h.2.1, fun j x hx => ?_⟩
  have hx' : (S.1 ++ [c'])[j]? = some x := hx
  by_cases hj : j < S.1.length
  · rw [List.getElem?_append_left hj] at hx'
    exact (h.2.2 j x hx').kept (ho _ (by rw [h.1]; omega))
  · have hl : j < (S.1 ++ [c']).length := (List.getElem?_eq_some_iff.mp hx').1
    rw [List.length_append, List.length_singleton] at hl
    have he : j = S.1.length := by omega
    subst he
    rw [List.getElem?_append_right (Nat.le_refl _), Nat.sub_self] at hx'
    cases hx'
    exact hc
theorem q_rd_wr (c : QC) (i j : Nat) (v : Value) : q_rd (q_wr c i v) j = if j = i then v else q_rd c j := by
  unfold q_rd q_wr
  by_cases hj : j = i
  · subst hj
    simp
  · rw [if_neg hj]
    have h1 : (i == j) = false := by simpa using fun z : i = j => hj z.symm
    simp only [List.find?_cons, h1]
    have h2 : (c.2.2.filter (fun q => !(q.1 == i))).find? (fun q => q.1 == j) = c.2.2.find? (fun q => q.1 == j) := by
      rw [List.find?_filter]
      congr 1
      funext q
      by_cases hq : q.1 = j
      · have : ¬ q.1 = i := fun z => hj (hq.symm.trans z)
        simp [hq, hj]
      · simp [hq]
    rw [h2]
theorem q_at_s {S : QS} {r : Nat} {c : QC} (h : q_at S r = some c) : ∃ k, r = k + 4 ∧ S.1[k]? = some c := by
  unfold q_at at h
  split at h
  · cases h
  · exact ⟨r - 4, by omega, h⟩
/-- a class of the table: its words, its fields' types, its fields' names -/
def q_cok (n : Nat) (q : vw_C) : Prop := n < 50 ∧ (∀ w ∈ u_ws q.1 q.2.1 q.2.2, w ∈ wsL_law) ∧ (∀ k, k < q.2.2 → parseFieldDescriptor (q.2.1 k).2.2.1 = some (q_fty n k)) ∧ ∀ a, a < q.2.2 → ∀ b, b < q.2.2 → a ≠ b → (q.2.1 a).2.1 ≠ (q.2.1 b).2.1
theorem q_clok : ∀ (n : Nat) (q : vw_C), vwCl[n]? = some q → q_cok n q := by
  intro n q h
  match n, h with
  | 0, h => cases h; exact ⟨by decide, inlJx4a65c, tyJx4a65c_ok, nmJx4a65c⟩
  | 1, h => cases h; exact ⟨by decide, inlX0, tyX0_ok, nmX0⟩
  | 2, h => cases h; exact ⟨by decide, inlX1, tyX1_ok, nmX1⟩
  | 3, h => cases h; exact ⟨by decide, inlX2, tyX2_ok, nmX2⟩
  | 4, h => cases h; exact ⟨by decide, inlX3, tyX3_ok, nmX3⟩
  | 5, h => cases h; exact ⟨by decide, inlX4, tyX4_ok, nmX4⟩
  | 6, h => cases h; exact ⟨by decide, inlX5, tyX5_ok, nmX5⟩
  | 7, h => cases h; exact ⟨by decide, inlX6, tyX6_ok, nmX6⟩
  | 8, h => cases h; exact ⟨by decide, inlX7, tyX7_ok, nmX7⟩
  | 9, h => cases h; exact ⟨by decide, inlX8, tyX8_ok, nmX8⟩
  | 10, h => cases h; exact ⟨by decide, inlX9, tyX9_ok, nmX9⟩
  | 11, h => cases h; exact ⟨by decide, inlX10, tyX10_ok, nmX10⟩
  | 12, h => cases h; exact ⟨by decide, inlX11, tyX11_ok, nmX11⟩
  | 13, h => cases h; exact ⟨by decide, inlX12, tyX12_ok, nmX12⟩
  | n + 14, h => cases h
/-- the entry idx of class own names field k of the class ci -/
def q_fok (own : String) (idx ci k fin : Nat) : Prop := ∃ (row : vw_C) (ref : String), vwCl[ci]? = some row ∧ k < row.2.2 ∧ Cond.fieldLink own idx ref (row.2.1 k).2.1 (row.2.1 k).2.2.1 ∈ wsL_law ∧ (ref = (row.2.1 k).1 ∨ Cond.sameField ref (row.2.1 k).1 (row.2.1 k).2.1 (row.2.1 k).2.2.1 ∈ wsL_law) ∧ ((fin = 0 ∧ (row.2.1 k).2.2.2 = false) ∨ (fin ≠ 0 ∧ (row.2.1 k).2.2.2 = true ∧ (row.2.1 k).1 = own))
theorem q_via {s : State} {args : Array Value} {ref O n d : String} (h : ref = O ∨ (Cond.sameField ref O n d).before args s = true) : ∀ x, s.fieldFound? O n d = some x → s.fieldFound? ref n d = some x := by
  rcases h with rfl | w
  · exact fun _ h => h
  · intro x hx
    cases hr : s.fieldFound? ref n d with
    | none => simp [Cond.before, Cond.holds, Cond.value, hr] at w
    | some y => obtain ⟨c1, k1, i1, f1⟩ := y; rw [Cond.sameField_spec hr w] at hx; exact hx
def q_A (P : (Nat → Nat) × Nat) : Nat → Prop := fun q => P.2 ≤ q
section QB
variable {p : Program} {l : Launch} {e : Env} {R : Room} {s : State} {m : MethodId} {args : Array Value} {below : List Frame} {meth : Method} {c : Code} {H H0 : Heap} {locs : List Loc} {cells slots : Nat} {Q : State → Prop} {cc : ByteArray} {pc nL : Nat} {ls : Array Slot} {P : (Nat → Nat) × Nat} {D : va_G} {S : QS} {own : String} {rest : List Value}
theorem q_getf_ok (F : CallFix p m c cc nL s args wsL_law own) (hW : q_W P D S s H) {k ci j idx fin : Nat} {x : QC} (hk : S.1[k]? = some x) (hci : x.1 = ci) (hf : q_fok own idx ci j fin) (hd : decode cc pc = .ok (.getfield idx, 3))
    (kk : W p l e R s m args below meth c H locs cells slots Q (F0 m (pc + 3) ls (q_rv P (q_rd x j) :: rest))) : W p l e R s m args below meth c H locs cells slots Q (F0 m pc ls (.ref (P.2 + k) :: rest)) := by
  obtain ⟨hx, hb, hml, hown, hts⟩ := F
  obtain ⟨hz, hcls, hcell⟩ := hW
  obtain ⟨row, ref, hrow, hjN, hmem, hsame, -⟩ := hf
  subst hci
  obtain ⟨h50, hin, hty, hnm⟩ := q_clok _ _ hrow
  have hC := hcell k x hk
  unfold q_C at hC
  rw [if_pos h50] at hC
  obtain ⟨row', hrow', cell, h1, h2, h3, h4⟩ := hC
  cases Option.some.inj (hrow.symm.trans hrow')
  obtain ⟨hS, hfc, kC, hkC, hkind⟩ := hcls x.1 row hrow
  obtain ⟨cf, kf, fi, f, hi, hsl⟩ := hS j hjN
  have hl := u_lays hts hin hjN
  refine W.getf hx hb hown (hts _ hmem) (q_via (hsame.imp id (fun w => hts _ w)) _ hi) (u_facts hfc hkC hl hi).1 h1 (by rw [h3]; exact fun h => by cases h) (v := q_rv P (q_rd x j)) ?_ rfl rfl hd kk
  rw [hsl, h4 j hjN]
theorem q_putf_ok (F : CallFix p m c cc nL s args wsL_law own) (hW : q_W P D S s H) (hS0 : va_S (q_A P) H0 H locs) {k ci j idx fin : Nat} {x : QC} {v : Value} (hk : S.1[k]? = some x) (hci : x.1 = ci) (hf : q_fok own idx ci j fin) (hn : narrow (q_fty ci j) v = v) (hfit : fits (q_fty ci j) v = true) (hfin : fin = 0 ∨ meth.name = "<init>") (hd : decode cc pc = .ok (.putfield idx, 3))
    (kk : ∀ (H1 : Heap) (locs1 : List Loc), q_W P D (S.1.set k (q_wr x j v), S.2) s H1 → va_S (q_A P) H0 H1 locs1 → W p l e R s m args below meth c H1 locs1 cells slots Q (F0 m (pc + 3) ls rest)) : W p l e R s m args below meth c H locs cells slots Q (F0 m pc ls (q_rv P v :: .ref (P.2 + k) :: rest)) := by
  have hW0 := hW
  obtain ⟨hx, hb, hml, hown, hts⟩ := F
  obtain ⟨hz, hcls, hcell⟩ := hW
  obtain ⟨row, ref, hrow, hjN, hmem, hsame, hfl⟩ := hf
  subst hci
  obtain ⟨h50, hin, hty, hnm⟩ := q_clok _ _ hrow
  have hC := hcell k x hk
  unfold q_C at hC
  rw [if_pos h50] at hC
  obtain ⟨row', hrow', cell, h1, h2, h3, h4⟩ := hC
  cases Option.some.inj (hrow.symm.trans hrow')
  obtain ⟨hS, hfc, kC, hkC, hkind⟩ := hcls x.1 row hrow
  obtain ⟨cf, kf, fi, f, hi, hsl⟩ := hS j hjN
  have hlay := hts _ (hin _ (u_in_lay hjN))
  have hls := u_lays hts hin hjN
  have hst := (u_facts hfc hkC hls hi).1
  have hap : ∀ a b, a < row.2.2 → b < row.2.2 → a ≠ b → (D.2 x.1) a ≠ (D.2 x.1) b := by
    intro a b ha hb9 hne
    obtain ⟨_, _, _, fa, hia, ea⟩ := hS a ha
    obtain ⟨_, _, _, fb, hib, eb⟩ := hS b hb9
    rw [← ea, ← eb]
    refine u_apart (u_lays hts hin ha) (u_lays hts hin hb9) hia hib ?_
    rw [(State.fieldFound?_type hia (hty a ha)).1, (State.fieldFound?_type hib (hty b hb9)).1]
    exact hnm a ha b hb9 hne
  have hn2 : narrow (q_fty x.1 j) (q_rv P v) = q_rv P v := by
    cases v <;> first | exact hn | (simp only [q_rv]; cases q_fty x.1 j <;> rfl)
  have hfit2 : fits (q_fty x.1 j) (q_rv P v) = true := by
    cases v <;> first | exact hfit | (simp only [q_rv]; revert hfit; cases q_fty x.1 j <;> exact id)
  have hcell9 : ∀ H1 : Heap, H1[P.2 + k]? = some (cell.setSlot (D.2 x.1 j) (q_rv P v)) → q_C P D s H1 k (q_wr x j v) := by
    intro H1 e1
    unfold q_C
    rw [if_pos (show (q_wr x j v).1 < 50 from h50)]
    refine ⟨row, hrow, _, e1, h2, h3, fun i hi9 => ?_⟩
    show (cell.setSlot (D.2 x.1 j) (q_rv P v)).slots[D.2 x.1 i]? = some (q_rv P (q_rd (q_wr x j v) i))
    rw [t_set h4 hap hjN (q_rv P v) i hi9, q_rd_wr]
    simp only [updV]
    split <;> rfl
  have hAk : q_A P (P.2 + k) := Nat.le_add_right _ _
  rcases hfl with ⟨hf0, hfl⟩ | ⟨hf0, hfl, hdecl⟩
  · unfold u_lay at hlay
    rw [if_neg (by rw [hfl]; decide)] at hlay
    have h6 := u_store hfc hkC hkind hlay hi (hty j hjN) hn2 hfit2
    refine W.putK hx hb (f := f) ⟨hown, hts _ hmem, ⟨_, _, _, q_via (hsame.imp id (fun w => hts _ w)) _ hi⟩, hst⟩ (by rw [h2]; exact h6) h1 h3 (by rw [hsl]; exact k2_hasslot (h4 j hjN)) rfl rfl hd fun H' e1 e2 e3 => ?_
    rw [hsl] at e1 ⊢
    exact kk H' _ (hW0.set e2 e3 (hcell9 H' e1)) (hS0.put e2 e3 hAk)
  · have hin2 : meth.name = "<init>" := hfin.resolve_left hf0
    unfold u_lay at hlay
    rw [if_pos hfl] at hlay
    have hcf : m.cls = cf := by
      obtain ⟨_, _, c', _, _, _, -, -, hf', -, -, -, hown2, -⟩ := Cond.laysFinal_spec hlay
      have e1 : c' = cf := by have := hi.symm.trans hf'; simp at this; exact this.1.symm
      rw [hdecl] at hown2
      rw [← e1]; exact Option.some.inj (hown.symm.trans hown2)
    have h6 := u_fits hfc hkC hkind (Or.inr hlay) hi (hty j hjN) hn2 hfit2
    refine W.putFinK hx hb hown (hts _ hmem) (q_via (hsame.imp id (fun w => hts _ w)) _ hi) hst hcf hin2 (by rw [h2]; exact h6) h1 h3 (by rw [hsl]; exact k2_hasslot (h4 j hjN)) rfl rfl hd fun H' e1 e2 e3 => ?_
    rw [hsl] at e1 ⊢
    exact kk H' _ (hW0.set e2 e3 (hcell9 H' e1)) (hS0.put e2 e3 hAk)
theorem q_idx_s {i : Int32} {n j : Nat} (h : q_idx i n = some j) : ¬ (i < 0 ∨ n ≤ i.toNatClampNeg) ∧ j = i.toNatClampNeg ∧ j < n := by
  unfold q_idx at h
  split at h
  · cases h
  · rename_i hi
    cases h
    exact ⟨hi, rfl, Nat.not_le.mp fun z => hi (Or.inr z)⟩
/-- an array of the store, as the heap has it -/
theorem q_arr_of (hW : q_W P D S s H) {k : Nat} {x : QC} (hk : S.1[k]? = some x) (h100 : 100 ≤ x.1) : ∃ cA : ClassId, H[P.2 + k]? = some (arrV cA x.2.1 (fun i => q_rv P (q_rd x i))) ∧ q_AC s cA (q_ty x.1) := by
  have hC := hW.2.2 k x hk
  unfold q_C at hC
  rw [if_neg (by omega)] at hC
  rcases hC with h | h
  · omega
  · exact h
theorem q_alen_ok (F : CallFix p m c cc nL s args wsL_law own) (hW : q_W P D S s H) {k : Nat} {x : QC} (hk : S.1[k]? = some x) (h100 : 100 ≤ x.1) (hd : decode cc pc = .ok (.arraylength, 1))
    (kk : W p l e R s m args below meth c H locs cells slots Q (F0 m (pc + 1) ls (.int (Int32.ofNat x.2.1) :: rest))) : W p l e R s m args below meth c H locs cells slots Q (F0 m pc ls (.ref (P.2 + k) :: rest)) := by
  obtain ⟨cA, h1, h2, -⟩ := q_arr_of hW hk h100
  exact W.alen (n := Int32.ofNat x.2.1) F.1 F.2.1 h1 (h2 _ _) (by rw [arrV_size]) rfl rfl hd kk
theorem q_ald_ok (F : CallFix p m c cc nL s args wsL_law own) (hW : q_W P D S s H) {k j : Nat} {x : QC} {i : Instr} {y : Int32} (hk : S.1[k]? = some x) (hkd : q_akd i x.1 = true) (hi : i = .iaload ∨ i = .laload ∨ i = .baload ∨ i = .aaload) (hix : q_idx y x.2.1 = some j) (hd : decode cc pc = .ok (i, 1))
    (kk : W p l e R s m args below meth c H locs cells slots Q (F0 m (pc + 1) ls (q_rv P (q_rd x j) :: rest))) : W p l e R s m args below meth c H locs cells slots Q (F0 m pc ls (.int y :: .ref (P.2 + k) :: rest)) := by
  obtain ⟨hin, rfl, hlt⟩ := q_idx_s hix
  have h100 : 100 ≤ x.1 := by
    rcases hi with rfl | rfl | rfl | rfl <;> simp [q_akd] at hkd <;> omega
  obtain ⟨cA, h1, h2, h3, h4⟩ := q_arr_of hW hk h100
  have hin' : ¬ (y < 0 ∨ (arrV cA x.2.1 (fun i => q_rv P (q_rd x i))).slots.size ≤ y.toNatClampNeg) := by rw [arrV_size]; exact hin
  have hv : (arrV cA x.2.1 (fun i => q_rv P (q_rd x i))).slots[y.toNatClampNeg]? = some (q_rv P (q_rd x y.toNatClampNeg)) := arrV_read _ _ hlt
  have hvm : (arrV cA x.2.1 (fun i => q_rv P (q_rd x i))).vm ≠ .unknown := fun z => by cases z
  rcases hi with rfl | rfl | rfl | rfl
  · have e : q_ty x.1 = .int := by simp [q_akd] at hkd; rw [hkd]; rfl
    rw [e] at h2
    exact W.iald F.1 F.2.1 h1 (h2 _ _) hvm hin' hv rfl rfl hd kk
  · have e : q_ty x.1 = .long := by simp [q_akd] at hkd; rw [hkd]; rfl
    rw [e] at h2
    exact W.lald F.1 F.2.1 h1 (h2 _ _) hvm hin' hv rfl rfl hd kk
  · have e : q_ty x.1 = .boolean := by simp [q_akd] at hkd; rw [hkd]; rfl
    rw [e] at h2
    exact W.zald F.1 F.2.1 h1 (h2 _ _) hvm hin' hv rfl rfl hd kk
  · have e : (q_ty x.1).isReference = true := by
      simp [q_akd] at hkd
      unfold q_ty
      rw [if_neg (by omega), if_neg (by omega), if_neg (by omega)]
      split; rfl
      split; rfl
      split; rfl
      split; rfl
      split; rfl
      rfl
    exact W.aald F.1 F.2.1 h1 (h2 _ _) e hvm hin' hv rfl rfl hd kk
/-- a place of an array is written -/
theorem q_arr_set (hW : q_W P D S s H) {k j : Nat} {x : QC} {cA : ClassId} {v : Value} {H1 : Heap} (hk : S.1[k]? = some x) (h100 : 100 ≤ x.1) (h2 : q_AC s cA (q_ty x.1)) (e1 : H1[P.2 + k]? = some ((arrV cA x.2.1 (fun i => q_rv P (q_rd x i))).setSlot j (q_rv P v))) (e2 : H1.size = H.size) (e3 : ∀ q : Nat, q ≠ P.2 + k → H1[q]? = H[q]?) : q_W P D (S.1.set k (q_wr x j v), S.2) s H1 := by
  refine hW.set e2 e3 ?_
  unfold q_C
  rw [if_neg (show ¬ (q_wr x j v).1 < 50 by show ¬ x.1 < 50; omega)]
  refine Or.inr ⟨cA, ?_, h2⟩
  rw [e1, arrV_store]
  congr 2
  funext i
  simp only [updV, q_rd_wr]
  split <;> rfl
theorem q_iast_ok (F : CallFix p m c cc nL s args wsL_law own) (hW : q_W P D S s H) (hS0 : va_S (q_A P) H0 H locs) {k j : Nat} {x : QC} {y z : Int32} (hk : S.1[k]? = some x) (hkd : x.1 = 100) (hix : q_idx y x.2.1 = some j) (hd : decode cc pc = .ok (.iastore, 1))
    (kk : ∀ (H1 : Heap) (locs1 : List Loc), q_W P D (S.1.set k (q_wr x j (.int z)), S.2) s H1 → va_S (q_A P) H0 H1 locs1 → W p l e R s m args below meth c H1 locs1 cells slots Q (F0 m (pc + 1) ls rest)) : W p l e R s m args below meth c H locs cells slots Q (F0 m pc ls (.int z :: .int y :: .ref (P.2 + k) :: rest)) := by
  obtain ⟨hin, rfl, hlt⟩ := q_idx_s hix
  obtain ⟨cA, h1, h2⟩ := q_arr_of hW hk (by omega)
  have h3 := h2.1
  rw [hkd] at h3
  exact W.iast F.1 F.2.1 h1 (h3 _ _) (fun q => by cases q) (by rw [arrV_size]; exact hin) rfl rfl hd fun H1 e1 e2 e3 => kk H1 _ (q_arr_set (v := .int z) hW hk (by omega) h2 e1 e2 e3) (hS0.put e2 e3 (Nat.le_add_right _ _))
theorem q_last_ok (F : CallFix p m c cc nL s args wsL_law own) (hW : q_W P D S s H) (hS0 : va_S (q_A P) H0 H locs) {k j : Nat} {x : QC} {y : Int32} {z : Int64} (hk : S.1[k]? = some x) (hkd : x.1 = 101) (hix : q_idx y x.2.1 = some j) (hd : decode cc pc = .ok (.lastore, 1))
    (kk : ∀ (H1 : Heap) (locs1 : List Loc), q_W P D (S.1.set k (q_wr x j (.long z)), S.2) s H1 → va_S (q_A P) H0 H1 locs1 → W p l e R s m args below meth c H1 locs1 cells slots Q (F0 m (pc + 1) ls rest)) : W p l e R s m args below meth c H locs cells slots Q (F0 m pc ls (.long z :: .int y :: .ref (P.2 + k) :: rest)) := by
  obtain ⟨hin, rfl, hlt⟩ := q_idx_s hix
  obtain ⟨cA, h1, h2⟩ := q_arr_of hW hk (by omega)
  have h3 := h2.1
  rw [hkd] at h3
  exact W.last F.1 F.2.1 h1 (h3 _ _) (fun q => by cases q) (by rw [arrV_size]; exact hin) rfl rfl hd fun H1 e1 e2 e3 => kk H1 _ (q_arr_set (v := .long z) hW hk (by omega) h2 e1 e2 e3) (hS0.put e2 e3 (Nat.le_add_right _ _))
theorem q_zast_ok (F : CallFix p m c cc nL s args wsL_law own) (hW : q_W P D S s H) (hS0 : va_S (q_A P) H0 H locs) {k j : Nat} {x : QC} {y z : Int32} (hk : S.1[k]? = some x) (hkd : x.1 = 102) (hix : q_idx y x.2.1 = some j) (hd : decode cc pc = .ok (.bastore, 1))
    (kk : ∀ (H1 : Heap) (locs1 : List Loc), q_W P D (S.1.set k (q_wr x j (narrow .boolean (.int z))), S.2) s H1 → va_S (q_A P) H0 H1 locs1 → W p l e R s m args below meth c H1 locs1 cells slots Q (F0 m (pc + 1) ls rest)) : W p l e R s m args below meth c H locs cells slots Q (F0 m pc ls (.int z :: .int y :: .ref (P.2 + k) :: rest)) := by
  obtain ⟨hin, rfl, hlt⟩ := q_idx_s hix
  obtain ⟨cA, h1, h2⟩ := q_arr_of hW hk (by omega)
  have h3 := h2.1
  rw [hkd] at h3
  exact W.zast F.1 F.2.1 h1 (h3 _ _) (fun q => by cases q) (by rw [arrV_size]; exact hin) rfl rfl hd fun H1 e1 e2 e3 => kk H1 _ (q_arr_set (v := narrow .boolean (.int z)) hW hk (by omega) h2 e1 e2 e3) (hS0.put e2 e3 (Nat.le_add_right _ _))
/-- which array takes which thing -/
def q_aok (a b : Nat) : Prop := (a = 103 ∧ b = 2) ∨ (a = 104 ∧ b = 4) ∨ (a = 105 ∧ b = 6) ∨ (a = 106 ∧ b = 11) ∨ (a = 108 ∧ b = 101)
theorem q_aast_ok (F : CallFix p m c cc nL s args wsL_law own) (hW : q_W P D S s H) (hS0 : va_S (q_A P) H0 H locs) {k k2 j : Nat} {x x2 : QC} {y : Int32} (hk : S.1[k]? = some x) (hk2 : S.1[k2]? = some x2) (hkd : q_aok x.1 x2.1) (hix : q_idx y x.2.1 = some j) (hd : decode cc pc = .ok (.aastore, 1))
    (kk : ∀ (H1 : Heap) (locs1 : List Loc), q_W P D (S.1.set k (q_wr x j (.ref (k2 + 4))), S.2) s H1 → va_S (q_A P) H0 H1 locs1 → W p l e R s m args below meth c H1 locs1 cells slots Q (F0 m (pc + 1) ls rest)) : W p l e R s m args below meth c H locs cells slots Q (F0 m pc ls (.ref (P.2 + k2) :: .int y :: .ref (P.2 + k) :: rest)) := by
  obtain ⟨hin, rfl, hlt⟩ := q_idx_s hix
  have h100 : 100 ≤ x.1 := by rcases hkd with h | h | h | h | h <;> omega
  obtain ⟨cA, h1, h2⟩ := q_arr_of hW hk h100
  have href : (q_ty x.1).isReference = true := by rcases hkd with h | h | h | h | h <;> rw [h.1] <;> rfl
  obtain ⟨kA, comp, g1, g2, g3⟩ := h2.2.2 href
  have hval : ∃ (cv : Cell) (kv : Class), H[P.2 + k2]? = some cv ∧ cv.vm = .none ∧ cv.cls = comp ∧ s.vm.classes[comp]? = some kv := by
    have hC := hW.2.2 k2 x2 hk2
    have obj : ∀ (n : Nat) (q : vw_C), x2.1 = n → vwCl[n]? = some q → q_cn (q_ty x.1) = q.1 → ∃ (cv : Cell) (kv : Class), H[P.2 + k2]? = some cv ∧ cv.vm = .none ∧ cv.cls = comp ∧ s.vm.classes[comp]? = some kv := by
      intro n q hn hq hcn
      subst hn
      obtain ⟨h50, -⟩ := q_clok _ _ hq
      unfold q_C at hC
      rw [if_pos h50] at hC
      obtain ⟨row', hrow', cell, c1, c2, c3, -⟩ := hC
      obtain ⟨-, hfc, kC, hkC, -⟩ := hW.2.1 _ _ hq
      rw [hcn] at g3
      have hcomp := Option.some.inj (g3.symm.trans hfc)
      subst hcomp
      exact ⟨cell, kC, c1, c3, c2, hkC⟩
    rcases hkd with ⟨ha, hb9⟩ | ⟨ha, hb9⟩ | ⟨ha, hb9⟩ | ⟨ha, hb9⟩ | ⟨ha, hb9⟩
    · exact obj 2 _ hb9 rfl (by rw [ha]; rfl)
    · exact obj 4 _ hb9 rfl (by rw [ha]; rfl)
    · exact obj 6 _ hb9 rfl (by rw [ha]; rfl)
    · exact obj 11 _ hb9 rfl (by rw [ha]; rfl)
    · obtain ⟨cB, b1, b2⟩ := q_arr_of hW hk2 (by omega)
      have hn : q_cn (q_ty x.1) = "[" ++ (q_ty x2.1).toString := by rw [ha, hb9]; decide
      rw [hn] at g3
      have hcomp := Option.some.inj (g3.symm.trans b2.2.1)
      obtain ⟨kB, q1, -⟩ := Vm.findClass_spec b2.2.1
      subst hcomp
      exact ⟨_, kB, b1, rfl, rfl, q1⟩
  obtain ⟨cv, kv, v1, v2, v3, v4⟩ := hval
  have hself : s.vm.assignable cv.cls comp = true := by
    rw [v3]
    first | (show s.vm.assignableAux _ comp comp = true; unfold Vm.assignableAux; simp)
  refine W.aast F.1 F.2.1 h1 (fun q h => by cases h) (fun h => by cases h) g1 g2 href v4 ⟨fun z => hin (Or.inl z), by rw [arrV_size]; exact hlt⟩ v1 (fun q h => by rw [v2] at h; cases h) (by rw [v3]; exact v4) hself rfl rfl hd fun H1 e1 e2 e3 => ?_
  exact kk H1 _ (q_arr_set (v := .ref (k2 + 4)) hW hk h100 h2 e1 e2 e3) (hS0.put e2 e3 (Nat.le_add_right _ _))
end QB
end QH
end
section
/-! SOUNDNESS of the pure interpreter, III: what the Statement gives of the start (old things), makings, throws. -/
section QE
def q_en (e : Nat) : String := if e = 0 then "java/lang/IndexOutOfBoundsException" else if e = 1 then "java/lang/IllegalArgumentException" else "java/lang/IllegalStateException"
def q_nms : List String := ["java/lang/RuntimeException", "java/lang/Exception"]
/-- the old static arrays 1, 2, 3: class, name, descriptor, what their elements are, length, elements -/
def q_zc (a : Nat) : String := if a = 1 then "java/util/ArrayList" else "DurableLoom"
def q_zn (a : Nat) : String := if a = 1 then "DEFAULTCAPACITY_EMPTY_ELEMENTDATA" else if a = 2 then "TOP_A" else "TOP_B"
def q_zd (a : Nat) : String := if a = 1 then "[Ljava/lang/Object;" else "[I"
def q_zt (a : Nat) : FieldType := if a = 1 then .object "java/lang/Object" else .int
def q_zl (a : Nat) : Nat := if a = 1 then 0 else 24
def q_zf (a j : Nat) : Value := if a = 1 then .null else if a = 2 then .int (q_ta.getD j 0) else .int (q_tb.getD j 0)
/-- old things: the script, ArrayList's empty array, two statics of Throwable, the texts of the throws -/
def q_V (P : (Nat → Nat) × Nat) (xs : List Int32) (TX : List (String × Nat × String)) (U : State) (H : Heap) : Prop :=
  (P.1 0 < P.2 ∧ P.1 1 < P.2 ∧ P.2 ≤ H.size) ∧ va_X (P.1 0) xs.length (fun j => xs.getD j 0) U H ∧
  (vx_Zq Bundle.tN "UNASSIGNED_STACK" Bundle.steD (q_A P) U H ∧ vx_Zq Bundle.tN "SUPPRESSED_SENTINEL" Bundle.listD (q_A P) U H) ∧
  (∀ a, 1 ≤ a → a < 4 → va_Z (q_zc a) (q_zn a) (q_zd a) (.ref (P.1 a)) (q_A P) U H) ∧ (∀ a, 1 ≤ a → a < 4 → va_T (q_zt a) (P.1 a) (q_zl a) (q_zf a) (q_A P) U H) ∧
  (∀ q ∈ TX, ∃ sa : Nat, vk_R q.1 q.2.1 q.2.2 sa U) ∧ (∀ e, e < 3 → va_Nw (.castable (q_en e) (q_en e)) U) ∧ (∀ e f, e < 3 → f < 3 → e ≠ f → va_Nc (q_en e) (q_en f) U) ∧
  (∀ kd, 103 ≤ kd → kd ≤ 108 → (Cond.arrayOver (q_ty kd)).before #[] U = true)
theorem q_over_moved {ty : FieldType} (hty : (∃ C, ty = .object C) ∨ ty = .array .long) {u U : State} (hvm : u.vm.Alike U.vm) (h : (Cond.arrayOver ty).before #[] u = true) : (Cond.arrayOver ty).before #[] U = true := by
  have h2 := Cond.arrayOver_setVmC (args := #[]) (s := u) hvm ty
  rw [h] at h2
  rcases hty with ⟨C, rfl⟩ | rfl
  · exact h2
  · exact h2
theorem q_V.moved {P : (Nat → Nat) × Nat} {xs : List Int32} {TX : List (String × Nat × String)} {u U : State} {H : Heap} (hW : u.WarmedH U.vm) (h : q_V P xs TX u H) : q_V P xs TX U H := by
  obtain ⟨h1, h2, ⟨h3, h4⟩, h5, h6, h7, h8, h9, h10⟩ := h
  have hvm : u.vm.Alike U.vm := hW.alike
  refine ⟨h1, h2.moved hvm, ⟨h3.moved hvm, h4.moved hvm⟩, fun a a1 a2 => (h5 a a1 a2).moved hvm, fun a a1 a2 => (h6 a a1 a2).moved hvm, fun q hq => ?_, fun e he => va_Nw.warmC hW (h8 e he), fun e f he hf hne => (h9 e f he hf hne).moved hvm, fun kd k1 k2 => ?_⟩
  · obtain ⟨sa, hs⟩ := h7 q hq
    exact ⟨sa, vk_R.warm hW hs⟩
  · refine q_over_moved ?_ hvm (h10 kd k1 k2)
    unfold q_ty
    rw [if_neg (by omega), if_neg (by omega), if_neg (by omega)]
    split; exact Or.inl ⟨_, rfl⟩
    split; exact Or.inl ⟨_, rfl⟩
    split; exact Or.inl ⟨_, rfl⟩
    split; exact Or.inl ⟨_, rfl⟩
    split; exact Or.inl ⟨_, rfl⟩
    exact Or.inr rfl
theorem q_V.blind {P : (Nat → Nat) × Nat} {xs : List Int32} {TX : List (String × Nat × String)} {u U : State} {H : Heap} (hv : u.vm = U.vm) (h : q_V P xs TX u H) : q_V P xs TX U H := q_V.moved (by rw [← hv]; exact State.WarmedH.refl u) h
theorem q_V.kept {P : (Nat → Nat) × Nat} {xs : List Int32} {TX : List (String × Nat × String)} {U : State} {H H1 : Heap} (h : q_V P xs TX U H) (hz : H.size ≤ H1.size) (hq : ∀ q : Nat, q < H.size → ¬ q_A P q → H1[q]? = H[q]?) : q_V P xs TX U H1 := by
  obtain ⟨⟨h1, h1b, h1c⟩, h2, ⟨h3, h4⟩, h5, h6, h7, h8, h9, h10⟩ := h
  exact ⟨⟨h1, h1b, Nat.le_trans h1c hz⟩, h2.kept (hq _ (Nat.lt_of_lt_of_le h1 h1c) (Nat.not_le.mpr h1)), ⟨h3.kept hq, h4.kept hq⟩, fun a a1 a2 => (h5 a a1 a2).kept hq, fun a a1 a2 => (h6 a a1 a2).kept hq, h7, h8, h9, h10⟩
section QB
variable {p : Program} {l : Launch} {e : Env} {R : Room} {s : State} {m : MethodId} {args : Array Value} {below : List Frame} {meth : Method} {c : Code} {H : Heap} {locs : List Loc} {cells slots : Nat} {Q : State → Prop} {cc : ByteArray} {pc nL : Nat} {ls : Array Slot} {P : (Nat → Nat) × Nat} {D : va_G} {S : QS} {own : String} {rest : List Value} {xs : List Int32} {TX : List (String × Nat × String)}
theorem q_slen_ok (F : CallFix p m c cc nL s args wsL_law own) (hV : q_V P xs TX s s.heap) (hS : va_S (q_A P) s.heap H locs) (hd : decode cc pc = .ok (.arraylength, 1))
    (kk : W p l e R s m args below meth c H locs cells slots Q (F0 m (pc + 1) ls (.int (Int32.ofNat xs.length) :: rest))) : W p l e R s m args below meth c H locs cells slots Q (F0 m pc ls (.ref (P.1 0) :: rest)) :=
  va_slen F.1 F.2.1 hV.2.1 (Nat.lt_of_lt_of_le hV.1.1 hV.1.2.2) (Nat.not_le.mpr hV.1.1) hS hd kk
theorem q_sld_ok (F : CallFix p m c cc nL s args wsL_law own) (hV : q_V P xs TX s s.heap) (hS : va_S (q_A P) s.heap H locs) {i : Int32} {j : Nat} (hi : q_idx i xs.length = some j) (hd : decode cc pc = .ok (.iaload, 1))
    (kk : W p l e R s m args below meth c H locs cells slots Q (F0 m (pc + 1) ls (.int (xs.getD j 0) :: rest))) : W p l e R s m args below meth c H locs cells slots Q (F0 m pc ls (.int i :: .ref (P.1 0) :: rest)) := by
  obtain ⟨h1, rfl, h3⟩ := q_idx_s hi
  exact va_sld F.1 F.2.1 hV.2.1 (Nat.lt_of_lt_of_le hV.1.1 hV.1.2.2) (Nat.not_le.mpr hV.1.1) hS h1 hd kk
theorem q_elen_ok (F : CallFix p m c cc nL s args wsL_law own) (hV : q_V P xs TX s s.heap) (hS : va_S (q_A P) s.heap H locs) {a : Nat} (a1 : 1 ≤ a) (a2 : a < 4) (hd : decode cc pc = .ok (.arraylength, 1))
    (kk : W p l e R s m args below meth c H locs cells slots Q (F0 m (pc + 1) ls (.int (Int32.ofNat (q_zl a)) :: rest))) : W p l e R s m args below meth c H locs cells slots Q (F0 m pc ls (.ref (P.1 a) :: rest)) :=
  va_tlen F.1 F.2.1 (hV.2.2.2.2.1 a a1 a2) hS rfl hd kk
theorem q_eld_ok (F : CallFix p m c cc nL s args wsL_law own) (hV : q_V P xs TX s s.heap) (hS : va_S (q_A P) s.heap H locs) {a : Nat} (a1 : 2 ≤ a) (a2 : a < 4) {i v : Int32} {j : Nat} (hi : q_idx i 24 = some j) (hv : q_zf a j = .int v) (hd : decode cc pc = .ok (.iaload, 1))
    (kk : W p l e R s m args below meth c H locs cells slots Q (F0 m (pc + 1) ls (.int v :: rest))) : W p l e R s m args below meth c H locs cells slots Q (F0 m pc ls (.int i :: .ref (P.1 a) :: rest)) := by
  obtain ⟨h1, rfl, h3⟩ := q_idx_s hi
  have hT := hV.2.2.2.2.1 a (by omega) a2
  have e1 : q_zt a = .int := by unfold q_zt; rw [if_neg (by omega)]
  have e2 : q_zl a = 24 := by unfold q_zl; rw [if_neg (by omega)]
  rw [e1, e2] at hT
  exact va_ti F.1 F.2.1 hT hS h1 hv hd kk
theorem q_gets_ok (F : CallFix p m c cc nL s args wsL_law own) (hV : q_V P xs TX s s.heap) (hS : va_S (q_A P) s.heap H locs) {idx a : Nat} (a1 : 1 ≤ a) (a2 : a < 4) (hlk : Cond.fieldLink own idx (q_zc a) (q_zn a) (q_zd a) ∈ wsL_law) (hd : decode cc pc = .ok (.getstatic idx, 3))
    (kk : W p l e R s m args below meth c H locs cells slots Q (F0 m (pc + 3) ls (.ref (P.1 a) :: rest))) : W p l e R s m args below meth c H locs cells slots Q (F0 m pc ls rest) :=
  va_gets F.1 F.2.1 (hV.2.2.2.1 a a1 a2) hS F.2.2.2.1 (F.2.2.2.2 _ hlk) (fun _ h => h) hd kk
theorem q_rv_old {a : Nat} (h : a < 4) : q_rv P (.ref a) = .ref (P.1 a) := by
  match a, h with
  | 0, _ => rfl
  | 1, _ => rfl
  | 2, _ => rfl
  | 3, _ => rfl
theorem q_S_push {H1 : Heap} (hS : va_S (q_A P) s.heap H locs) (hz : H1.size = H.size + 1) (ho : ∀ q : Nat, q < H.size → H1[q]? = H[q]?) : va_S (q_A P) s.heap H1 locs :=
  ⟨Nat.le_trans hS.1 (by omega), fun x h1 h2 => (ho x (Nat.lt_of_lt_of_le h1 hS.1)).trans (hS.2.1 x h1 h2), hS.2.2⟩
theorem q_rd_new (kd n i : Nat) : q_rd (kd, n, []) i = q_dv kd i := rfl
theorem q_dv_rv (kd i : Nat) : q_rv P (q_dv kd i) = q_dv kd i := by
  have h : ∀ ty : FieldType, q_rv P (defaultValue ty) = defaultValue ty := fun ty => by cases ty <;> rfl
  unfold q_dv
  split
  · exact h _
  · exact h _
theorem q_new_ok (F : CallFix p m c cc nL s args wsL_law own) (hW : q_W P D S s H) (hS : va_S (q_A P) s.heap H locs) {idx ci n : Nat} {row : vw_C} (hrow : vwCl[ci]? = some row) (hN : row.2.2 = n) (hcl : Cond.classLink own idx row.1 ∈ wsL_law) (hinst : Cond.instantiable row.1 n ∈ wsL_law) (hini : Cond.initialized row.1 ∈ wsL_law) (hcells : cells + 1 ≤ R.cells) (hslots : slots + n ≤ R.slots) (hd : decode cc pc = .ok (.new idx, 3))
    (kk : ∀ H1 : Heap, q_W P D (q_new S (ci, n, [])) s H1 → va_S (q_A P) s.heap H1 locs → W p l e R s m args below meth c H1 locs (cells + 1) (slots + n) Q (F0 m (pc + 3) ls (.ref (P.2 + S.1.length) :: rest))) : W p l e R s m args below meth c H locs cells slots Q (F0 m pc ls rest) := by
  obtain ⟨hx, hb, hml, hown, hts⟩ := F
  obtain ⟨h50, hin, hty, hnm⟩ := q_clok _ _ hrow
  have hKn := hW.2.1 _ _ hrow
  rw [← hW.1] at kk
  subst hN
  refine W.newcK hx hb hown (hts _ hcl) (hts _ hinst) (hts _ hini) rfl hd hcells hslots hKn.2.1 rfl fun H1 kC hkC e1 z1 o1 => ?_
  refine kk H1 (hW.push z1 o1 ?_) (q_S_push hS z1 o1)
  unfold q_C
  rw [if_pos (show ci < 50 from h50)]
  refine ⟨row, hrow, ?_⟩
  have hb9 := (u_born (q_fty ci) hts hin hKn hkC (by rw [hW.1] at e1; exact e1) hty)
  refine hb9.to fun i hi => ?_
  rw [q_rd_new, q_dv_rv]
  unfold q_dv
  rw [if_pos h50]
theorem q_newa_ok (F : CallFix p m c cc nL s args wsL_law own) (hW : q_W P D S s H) (hS : va_S (q_A P) s.heap H locs) {at9 : ArrayType} {kd : Nat} {n : Int32} (h100 : 100 ≤ kd) (hk : newarray.typeOf at9 = q_ty kd) (href : (q_ty kd).isReference = false) (hac : Cond.arrayClass (newarray.typeOf at9) ∈ wsL_law) (hcb : componentBytes (newarray.typeOf at9) ≤ 8) (hn : ¬ (n < 0 ∨ 60000000 ≤ n.toNatClampNeg)) (hcells : cells + 1 ≤ R.cells) (hslots : slots + n.toNatClampNeg ≤ R.slots) (hd : decode cc pc = .ok (.newarray at9, 2))
    (kk : ∀ H1 : Heap, q_W P D (q_new S (kd, n.toNatClampNeg, [])) s H1 → va_S (q_A P) s.heap H1 locs → W p l e R s m args below meth c H1 locs (cells + 1) (slots + n.toNatClampNeg) Q (F0 m (pc + 2) ls (.ref (P.2 + S.1.length) :: rest))) : W p l e R s m args below meth c H locs cells slots Q (F0 m pc ls (.int n :: rest)) := by
  obtain ⟨hx, hb, hml, hown, hts⟩ := F
  rw [← hW.1] at kk
  have hn2 : n.toNatClampNeg < 60000000 := Nat.not_le.mp fun z => hn (Or.inr z)
  refine va_newaK hx hb (hts _ hac) rfl hd rfl (fun z => hn (Or.inl z)) rfl ?_ hcells hslots rfl fun H1 cA e1 z1 o1 hAr hNm => ?_
  · exact Nat.le_trans (Nat.mul_le_mul (Nat.le_of_lt hn2) hcb) (Nat.le_of_ble_eq_true rfl)
  refine kk H1 (hW.push z1 o1 ?_) (q_S_push hS z1 o1)
  unfold q_C
  rw [if_neg (show ¬ kd < 50 by omega)]
  rw [hk] at e1 hAr hNm
  refine Or.inr ⟨cA, ?_, hAr, hNm, fun h => ?_⟩
  · rw [← hW.1, e1]
    congr 2
    funext i
    rw [q_rd_new, q_dv_rv]
    unfold q_dv
    rw [if_neg (show ¬ kd < 50 by omega)]
  · rw [href] at h; cases h
theorem q_newq_ok (F : CallFix p m c cc nL s args wsL_law own) (hV : q_V P xs TX s s.heap) (hW : q_W P D S s H) (hS : va_S (q_A P) s.heap H locs) {idx kd : Nat} {n : Int32} (h1 : 103 ≤ kd) (h2 : kd ≤ 108) (hlk : Cond.classLink own idx (q_cn (q_ty kd)) ∈ wsL_law) (hn : ¬ (n < 0 ∨ 60000000 ≤ n.toNatClampNeg)) (hcells : cells + 1 ≤ R.cells) (hslots : slots + n.toNatClampNeg ≤ R.slots) (hd : decode cc pc = .ok (.anewarray idx, 3))
    (kk : ∀ H1 : Heap, q_W P D (q_new S (kd, n.toNatClampNeg, [])) s H1 → va_S (q_A P) s.heap H1 locs → W p l e R s m args below meth c H1 locs (cells + 1) (slots + n.toNatClampNeg) Q (F0 m (pc + 3) ls (.ref (P.2 + S.1.length) :: rest))) : W p l e R s m args below meth c H locs cells slots Q (F0 m pc ls (.int n :: rest)) := by
  obtain ⟨hx, hb, hml, hown, hts⟩ := F
  rw [← hW.1] at kk
  have hn2 : n.toNatClampNeg < 60000000 := Nat.not_le.mp fun z => hn (Or.inr z)
  have hbytes : n.toNatClampNeg * 4 ≤ 536870912 := Nat.le_trans (Nat.mul_le_mul_right 4 (Nat.le_of_lt hn2)) (Nat.le_of_ble_eq_true rfl)
  have hov : (Cond.arrayOver (q_ty kd)).before args s = true := hV.2.2.2.2.2.2.2.2 kd h1 h2
  have fin : ∀ (cA : ClassId) (kA : Class) (comp : ClassId), s.vm.findClass ("[" ++ (q_ty kd).toString) = some cA → s.vm.classes[cA]? = some kA → kA.kind = .array comp (q_ty kd) → s.vm.findClass (q_cn (q_ty kd)) = some comp →
      W p l e R s m args below meth c (H.push { cls := cA, slots := Array.replicate n.toNatClampNeg .null, vm := .none }) locs (cells + 1) (slots + n.toNatClampNeg) Q (F0 m (pc + 3) ls (.ref H.size :: rest)) := by
    intro cA kA comp g1 g2 g3 g4
    have z1 : (H.push { cls := cA, slots := Array.replicate n.toNatClampNeg .null, vm := .none }).size = H.size + 1 := by simp
    have o1 : ∀ q : Nat, q < H.size → (H.push { cls := cA, slots := Array.replicate n.toNatClampNeg .null, vm := .none })[q]? = H[q]? := fun q hq => by rw [Array.getElem?_push, if_neg (Nat.ne_of_lt hq)]
    refine kk _ (hW.push z1 o1 ?_) (q_S_push hS z1 o1)
    unfold q_C
    rw [if_neg (show ¬ kd < 50 by omega)]
    refine Or.inr ⟨cA, ?_, fun n z => ⟨fun k h => (by cases h), kA, g2, comp, g3⟩, g1, fun _ => ⟨kA, comp, g2, g3, g4⟩⟩
    rw [← hW.1, arrV_new]
    simp only [Array.getElem?_push_size]
    congr 2
    funext i
    rw [q_rd_new, q_dv_rv]
    unfold q_dv
    rw [if_neg (show ¬ kd < 50 by omega)]
    unfold q_ty
    rw [if_neg (by omega), if_neg (by omega), if_neg (by omega)]
    split; rfl
    split; rfl
    split; rfl
    split; rfl
    split; rfl
    rfl
  by_cases h8 : kd = 108
  · subst h8
    exact W.anewA (t := .long) hx hb hown (hts _ hlk) hov rfl hd rfl (fun z => hn (Or.inl z)) hbytes hcells hslots fun cA kA comp g1 g2 g3 g4 => fin cA kA comp g1 g2 g3 g4
  · have hobj : ∃ C, q_ty kd = .object C := by
      unfold q_ty
      rw [if_neg (by omega), if_neg (by omega), if_neg (by omega)]
      split; exact ⟨_, rfl⟩
      split; exact ⟨_, rfl⟩
      split; exact ⟨_, rfl⟩
      split; exact ⟨_, rfl⟩
      split; exact ⟨_, rfl⟩
      omega
    obtain ⟨C, hC⟩ := hobj
    rw [hC] at hlk hov fin
    exact W.anew (C := C) hx hb hown (hts _ hlk) hov rfl hd rfl (fun z => hn (Or.inl z)) hbytes hcells hslots fun cA kA comp g1 g2 g3 g4 => fin cA kA comp g1 g2 g3 g4
end QB
end QE
end
section
/-! SOUNDNESS of the pure interpreter, IV: one step that neither calls, nor returns, nor throws. -/
section QT
/-- a method that can be called with n arguments -/
def q_cal (M : QM) (n : Nat) : Prop := (parseMethodDescriptor (qm_y M).desc).map (fun d => d.parameters.length) = some n ∧ ((qm_y M).cls ≠ "java/lang/invoke/MethodHandle" ∧ (qm_y M).cls ≠ "java/lang/invoke/VarHandle") ∧ Cond.initialized (qm_y M).cls ∈ wsL_law
def q_cw (M : QM) : Cond := if qm_h M = [] then Cond.code (qm_y M) (qm_b M) (qm_l M) (qm_r M) else Cond.codeWith (qm_y M) (qm_b M) (qm_l M) (qm_r M) (qm_h M)
/-- an exception e that class own throws by the constructor's entry ic -/
def q_tok (own : String) (idx e ic : Nat) : Prop := e < 3 ∧ Cond.classLink own idx (q_en e) ∈ wsL_law ∧ Cond.initialized (q_en e) ∈ wsL_law ∧ (∀ w ∈ (vx_atS own ic (q_en e) q_nms).filter goodWord, w ∈ wsL_law) ∧ (∀ w ∈ (vx_atS own ic (q_en e) q_nms).filter (fun w => !goodWord w), w = .castable (q_en e) (q_en e)) ∧
  Bundle.fit (q_en e) = true ∧ (∀ n ∈ q_nms, Bundle.fit n = true) ∧ ∀ w ∈ Cond.classLink own idx (q_en e) :: Cond.initialized (q_en e) :: vx_atS own ic (q_en e) q_nms, vx_ot w = true
/-- what an entry of the constant pool is -/
def q_kok (T : List QM) (TX : List (String × Nat × String)) (own : String) (q : Nat × Nat × Nat × Nat × Nat) : Prop := match q with
  | (idx, 0, a, b, c) => q_fok own idx a b c
  | (idx, 1, a, b, c) => ∃ (M : QM) (row : vw_C), T[a]? = some M ∧ vwCl[c]? = some row ∧ row.1 = (qm_y M).cls ∧ qm_h M = [] ∧ Cond.methodLink own idx (qm_y M) ∈ wsL_law ∧ Cond.instanceMethod (qm_y M) ∈ wsL_law ∧ Cond.selects (qm_y M).cls (qm_y M) (qm_y M) ∈ wsL_law ∧ q_cal M b
  | (idx, 2, a, b, _) => ∃ M : QM, T[a]? = some M ∧ Cond.methodLink own idx (qm_y M) ∈ wsL_law ∧ Cond.static (qm_y M) ∈ wsL_law ∧ q_cal M b
  | (idx, 3, a, b, _) => ∃ M : QM, T[a]? = some M ∧ qm_h M = [] ∧ (qm_y M).name = "<init>" ∧ qm_r M = none ∧ Cond.methodLink own idx (qm_y M) ∈ wsL_law ∧ Cond.instanceMethod (qm_y M) ∈ wsL_law ∧ q_cal M b
  | (idx, 4, _, _, _) => Cond.methodLink own idx Lib.objectInit ∈ wsL_law ∧ Cond.instanceMethod Lib.objectInit ∈ wsL_law ∧ Cond.code Lib.objectInit ⟨#[0xb1]⟩ 1 none ∈ wsL_law
  | (idx, 5, a, b, _) => ∃ row : vw_C, vwCl[a]? = some row ∧ row.2.2 = b ∧ Cond.classLink own idx row.1 ∈ wsL_law ∧ Cond.instantiable row.1 b ∈ wsL_law ∧ Cond.initialized row.1 ∈ wsL_law
  | (idx, 6, a, _, _) => 103 ≤ a ∧ a ≤ 108 ∧ Cond.classLink own idx (q_cn (q_ty a)) ∈ wsL_law
  | (idx, 7, a, _, _) => Cond.constant own idx (Int32.ofNat a) ∈ wsL_law
  | (idx, 8, a, _, _) => Cond.constantLong own idx (Int64.ofNat a) ∈ wsL_law
  | (idx, 9, a, _, _) => 1 ≤ a ∧ a < 4 ∧ Cond.fieldLink own idx (q_zc a) (q_zn a) (q_zd a) ∈ wsL_law
  | (idx, 11, a, b, _) => q_tok own idx a b
  | (idx, 12, a, _, _) => a < 3 ∧ Cond.classLink own idx (q_en a) ∈ wsL_law
  | (idx, 13, _, _, _) => ∃ tx : String, (own, idx, tx) ∈ TX
  | _ => True
def q_dok (M : QM) : Prop := ∀ q ∈ qm_c M, ∃ n : Nat, decode (qm_b M) q.1 = .ok (q.2, n) ∧ (n = q_len q.2 ∨ q_isSw q.2 = true)
def q_mok (T : List QM) (TX : List (String × Nat × String)) (M : QM) : Prop := plainName (qm_y M).cls = true ∧ qm_o M = (qm_y M).cls ∧ (qm_i M = true → (qm_y M).name = "<init>") ∧ qm_l M ≤ 41 ∧ q_cw M ∈ wsL_law ∧ q_dok M ∧ (∀ q ∈ qm_k M, q_kok T TX (qm_o M) q) ∧ ∀ h ∈ qm_h M, ∃ f, f < 3 ∧ q_lk (qm_k M) h.2.2.2 = some (12, f, 0, 0) ∧ h.2.2.2 ≠ 0
theorem q_lk_mem {K : QK} {idx : Nat} {t : Nat × Nat × Nat × Nat} (h : q_lk K idx = some t) : (idx, t) ∈ K := by
  unfold q_lk at h
  obtain ⟨q, h1, h2⟩ := Option.map_eq_some_iff.mp h
  have h3 := List.mem_of_find?_eq_some h1
  have h4 := List.find?_some h1
  simp only [beq_iff_eq] at h4
  subst h2
  rw [← h4]
  exact h3
theorem q_code_mem {M : QM} {pc : Nat} {i : Instr} (h : q_code M pc = some i) : (pc, i) ∈ qm_c M := by
  unfold q_code at h
  obtain ⟨q, h1, h2⟩ := Option.map_eq_some_iff.mp h
  have h3 := List.mem_of_find?_eq_some h1
  have h4 := List.find?_some h1
  simp only [beq_iff_eq] at h4
  subst h2
  rw [← h4]
  exact h3
theorem q_dec {T : List QM} {TX : List (String × Nat × String)} {M : QM} (hM : q_mok T TX M) {pc : Nat} {i : Instr} (h : q_code M pc = some i) : ∃ n : Nat, decode (qm_b M) pc = .ok (i, n) ∧ (n = q_len i ∨ q_isSw i = true) :=
  hM.2.2.2.2.2.1 (pc, i) (q_code_mem h)
theorem q_decL {T : List QM} {TX : List (String × Nat × String)} {M : QM} (hM : q_mok T TX M) {pc : Nat} {i : Instr} (h : q_code M pc = some i) (hs : q_isSw i = false) : decode (qm_b M) pc = .ok (i, q_len i) := by
  obtain ⟨n, h1, h2⟩ := q_dec hM h
  rcases h2 with rfl | h2
  · exact h1
  · rw [hs] at h2; cases h2
theorem q_rv2 (P : (Nat → Nat) × Nat) (k : Nat) : q_rv P (.ref (k + 4)) = .ref (P.2 + k) := rfl
section QB
variable {p : Program} {l : Launch} {e : Env} {R : Room} {s : State} {m : MethodId} {args : Array Value} {below : List Frame} {meth : Method} {c : Code} {H : Heap} {locs : List Loc} {cells slots : Nat} {Q : State → Prop} {pc : Nat} {ls : Array Slot} {P : (Nat → Nat) × Nat} {D : va_G} {S S' : QS} {xs : List Int32} {T : List QM} {TX : List (String × Nat × String)} {M : QM} {i : Instr} {st st' : List Value}
/-- what stays while a method runs -/
def q_Fr (P : (Nat → Nat) × Nat) (xs : List Int32) (TX : List (String × Nat × String)) (M : QM) (p : Program) (m : MethodId) (c : Code) (s : State) (args : Array Value) (meth : Method) : Prop :=
  CallFix p m c (qm_b M) (qm_l M) s args wsL_law (qm_o M) ∧ meth.locks = false ∧ meth.sig.returnType = qm_r M ∧ (qm_i M = true → meth.name = "<init>") ∧ q_V P xs TX s s.heap
set_option maxHeartbeats 4000000 in
theorem q_read_ok (hM : q_mok T TX M) (F : q_Fr P xs TX M p m c s args meth) (hW : q_W P D S s H) (hS : va_S (q_A P) s.heap H locs) (h : q_read M xs i st S = some st') (hd : decode (qm_b M) pc = .ok (i, q_len i))
    (k : W p l e R s m args below meth c H locs cells slots Q (F0 m (pc + q_len i) ls (st'.map (q_rv P)))) : W p l e R s m args below meth c H locs cells slots Q (F0 m pc ls (st.map (q_rv P))) := by
  obtain ⟨F1, -, -, -, hV⟩ := F
  have hK := hM.2.2.2.2.2.2.1
  unfold q_read at h
  split at h
  · -- getfield
    split at h
    · rename_i x ci kf fin r rest hlk
      split at h
      · rename_i cc hc
        split at h
        · rename_i hci
          cases h
          obtain ⟨k9, rfl, hk9⟩ := q_at_s hc
          have hf := hK _ (q_lk_mem hlk)
          exact q_getf_ok F1 hW hk9 hci hf hd k
        · cases h
      · cases h
    · cases h
  · -- arraylength
    split at h
    · cases h; exact q_slen_ok F1 hV hS hd k
    · cases h; exact q_elen_ok F1 hV hS (a := 1) (by decide) (by decide) hd k
    · cases h; exact q_elen_ok F1 hV hS (a := 2) (by decide) (by decide) hd k
    · cases h; exact q_elen_ok F1 hV hS (a := 3) (by decide) (by decide) hd k
    · split at h
      · rename_i cc hc
        split at h
        · rename_i h100
          cases h
          obtain ⟨k9, rfl, hk9⟩ := q_at_s hc
          exact q_alen_ok F1 hW hk9 h100 hd k
        · cases h
      · cases h
    · cases h
  · -- ldc
    split at h
    · rename_i x n a b hlk
      cases h
      exact lv_ldc F1.1 F1.2.1 F1.2.2.2.1 (F1.2.2.2.2 _ (hK _ (q_lk_mem hlk))) hd k
    · cases h
  · split at h
    · rename_i x n a b hlk
      cases h
      exact lv_ldcw F1.1 F1.2.1 F1.2.2.2.1 (F1.2.2.2.2 _ (hK _ (q_lk_mem hlk))) hd k
    · cases h
  · split at h
    · rename_i x n a b hlk
      cases h
      exact lv_ldc2 F1.1 F1.2.1 F1.2.2.2.1 (F1.2.2.2.2 _ (hK _ (q_lk_mem hlk))) hd k
    · cases h
  · split at h
    · rename_i x a b d hlk
      cases h
      obtain ⟨a1, a2, a3⟩ := hK _ (q_lk_mem hlk)
      rw [List.map_cons, q_rv_old a2] at k
      exact q_gets_ok F1 hV hS a1 a2 a3 hd k
    · cases h
  · -- iaload
    split at h
    · obtain ⟨j, h1, h2⟩ := Option.map_eq_some_iff.mp h
      cases h2
      exact q_sld_ok F1 hV hS h1 hd k
    · obtain ⟨j, h1, h2⟩ := Option.map_eq_some_iff.mp h
      cases h2
      exact q_eld_ok F1 hV hS (a := 2) (by decide) (by decide) h1 rfl hd k
    · obtain ⟨j, h1, h2⟩ := Option.map_eq_some_iff.mp h
      cases h2
      exact q_eld_ok F1 hV hS (a := 3) (by decide) (by decide) h1 rfl hd k
    · split at h
      · rename_i cc hc
        split at h
        · rename_i hkd
          obtain ⟨j, h1, h2⟩ := Option.map_eq_some_iff.mp h
          cases h2
          obtain ⟨k9, rfl, hk9⟩ := q_at_s hc
          exact q_ald_ok F1 hW hk9 hkd (Or.inl rfl) h1 hd k
        · cases h
      · cases h
    · cases h
  · split at h
    · split at h
      · rename_i cc hc
        split at h
        · rename_i hkd
          obtain ⟨j, h1, h2⟩ := Option.map_eq_some_iff.mp h
          cases h2
          obtain ⟨k9, rfl, hk9⟩ := q_at_s hc
          simp only [Bool.and_eq_true, Bool.or_eq_true, decide_eq_true_eq] at hkd
          obtain ⟨hkd, hi⟩ := hkd
          rcases hi with rfl | rfl | rfl
          · exact q_ald_ok F1 hW hk9 hkd (Or.inr (Or.inl rfl)) h1 hd k
          · exact q_ald_ok F1 hW hk9 hkd (Or.inr (Or.inr (Or.inl rfl))) h1 hd k
          · exact q_ald_ok F1 hW hk9 hkd (Or.inr (Or.inr (Or.inr rfl))) h1 hd k
        · cases h
      · cases h
    · cases h
set_option maxHeartbeats 4000000 in
theorem q_write_ok (hM : q_mok T TX M) (hac : Cond.arrayClass .int ∈ wsL_law ∧ Cond.arrayClass .long ∈ wsL_law ∧ Cond.arrayClass .boolean ∈ wsL_law) (F : q_Fr P xs TX M p m c s args meth) (hW : q_W P D S s H) (hS : va_S (q_A P) s.heap H locs) (h : q_write M i st S = some (st', S')) (hd : decode (qm_b M) pc = .ok (i, q_len i))
    (hc : cells + (S'.2.1 - S.2.1) ≤ R.cells) (hs : slots + (S'.2.2 - S.2.2) ≤ R.slots)
    (k : ∀ (H1 : Heap) (locs1 : List Loc), q_W P D S' s H1 → va_S (q_A P) s.heap H1 locs1 → W p l e R s m args below meth c H1 locs1 (cells + (S'.2.1 - S.2.1)) (slots + (S'.2.2 - S.2.2)) Q (F0 m (pc + q_len i) ls (st'.map (q_rv P)))) : W p l e R s m args below meth c H locs cells slots Q (F0 m pc ls (st.map (q_rv P))) := by
  obtain ⟨F1, -, -, hinit, hV⟩ := F
  have hK := hM.2.2.2.2.2.2.1
  have z1 : ∀ {a b : Nat}, a + (b - b) = a := fun {a b} => by rw [Nat.sub_self]; rfl
  unfold q_write at h
  split at h
  · -- putfield
    split at h
    · rename_i x ci kf fin v r rest hlk
      split at h
      · rename_i cc hc9
        split at h
        · rename_i hci
          obtain ⟨h1, h2, h3, h4⟩ := hci
          cases h
          obtain ⟨k9, rfl, hk9⟩ := q_at_s hc9
          have hf := hK _ (q_lk_mem hlk)
          refine q_putf_ok F1 hW hS hk9 h1 hf h2 h3 (h4.imp id hinit) hd fun H1 locs1 g1 g2 => ?_
          have k2 := k H1 locs1 g1 g2
          rw [show (q_put S (k9 + 4) (q_wr cc kf v)).2 = S.2 from rfl, z1, z1] at k2
          exact k2
        · cases h
      · cases h
    · cases h
  · split at h
    · split at h
      · rename_i cc hc9
        split at h
        · rename_i hkd
          obtain ⟨j, h1, h2⟩ := Option.map_eq_some_iff.mp h
          cases h2
          obtain ⟨k9, rfl, hk9⟩ := q_at_s hc9
          refine q_iast_ok F1 hW hS hk9 hkd h1 hd fun H1 locs1 g1 g2 => ?_
          have k2 := k H1 locs1 g1 g2
          rw [show ∀ y, (q_put S (k9 + 4) y).2 = S.2 from fun _ => rfl, z1, z1] at k2
          exact k2
        · cases h
      · cases h
    · cases h
  · split at h
    · split at h
      · rename_i cc hc9
        split at h
        · rename_i hkd
          obtain ⟨j, h1, h2⟩ := Option.map_eq_some_iff.mp h
          cases h2
          obtain ⟨k9, rfl, hk9⟩ := q_at_s hc9
          refine q_last_ok F1 hW hS hk9 hkd h1 hd fun H1 locs1 g1 g2 => ?_
          have k2 := k H1 locs1 g1 g2
          rw [show ∀ y, (q_put S (k9 + 4) y).2 = S.2 from fun _ => rfl, z1, z1] at k2
          exact k2
        · cases h
      · cases h
    · cases h
  · split at h
    · split at h
      · rename_i cc hc9
        split at h
        · rename_i hkd
          obtain ⟨j, h1, h2⟩ := Option.map_eq_some_iff.mp h
          cases h2
          obtain ⟨k9, rfl, hk9⟩ := q_at_s hc9
          refine q_zast_ok F1 hW hS hk9 hkd h1 hd fun H1 locs1 g1 g2 => ?_
          have k2 := k H1 locs1 g1 g2
          rw [show ∀ y, (q_put S (k9 + 4) y).2 = S.2 from fun _ => rfl, z1, z1] at k2
          exact k2
        · cases h
      · cases h
    · cases h
  · -- aastore
    split at h
    · split at h
      · rename_i cc dd hc9 hc8
        split at h
        · rename_i hkd
          obtain ⟨j, h1, h2⟩ := Option.map_eq_some_iff.mp h
          cases h2
          obtain ⟨k9, rfl, hk9⟩ := q_at_s hc9
          obtain ⟨k8, rfl, hk8⟩ := q_at_s hc8
          refine q_aast_ok F1 hW hS hk9 hk8 hkd h1 hd fun H1 locs1 g1 g2 => ?_
          have k2 := k H1 locs1 g1 g2
          rw [show ∀ y, (q_put S (k9 + 4) y).2 = S.2 from fun _ => rfl, z1, z1] at k2
          exact k2
        · cases h
      · cases h
    · cases h
  · -- new
    split at h
    · rename_i x ci n a hlk
      cases h
      obtain ⟨row, g1, g2, g3, g4, g5⟩ := hK _ (q_lk_mem hlk)
      have e1 : (q_new S (ci, n, [])).2.1 - S.2.1 = 1 := by show S.2.1 + 1 - S.2.1 = 1; omega
      have e2 : (q_new S (ci, n, [])).2.2 - S.2.2 = n := by show S.2.2 + n - S.2.2 = n; omega
      rw [e1] at hc k
      rw [e2] at hs k
      exact q_new_ok F1 hW hS g1 g2 g3 g4 g5 hc hs hd fun H1 w1 w2 => k H1 locs w1 w2
    · cases h
  · -- newarray
    split at h
    · rename_i n rest
      split at h
      · cases h
      · rename_i hn
        split at h
        · cases h
          have e1 : (q_new S (100, n.toNatClampNeg, [])).2.1 - S.2.1 = 1 := by show S.2.1 + 1 - S.2.1 = 1; omega
          have e2 : (q_new S (100, n.toNatClampNeg, [])).2.2 - S.2.2 = n.toNatClampNeg := by show S.2.2 + n.toNatClampNeg - S.2.2 = _; omega
          rw [e1] at hc k
          rw [e2] at hs k
          exact q_newa_ok F1 hW hS (at9 := .int) (kd := 100) (by decide) rfl rfl hac.1 (by decide) hn hc hs hd fun H1 w1 w2 => k H1 locs w1 w2
        · cases h
          have e1 : (q_new S (101, n.toNatClampNeg, [])).2.1 - S.2.1 = 1 := by show S.2.1 + 1 - S.2.1 = 1; omega
          have e2 : (q_new S (101, n.toNatClampNeg, [])).2.2 - S.2.2 = n.toNatClampNeg := by show S.2.2 + n.toNatClampNeg - S.2.2 = _; omega
          rw [e1] at hc k
          rw [e2] at hs k
          exact q_newa_ok F1 hW hS (at9 := .long) (kd := 101) (by decide) rfl rfl hac.2.1 (by decide) hn hc hs hd fun H1 w1 w2 => k H1 locs w1 w2
        · cases h
          have e1 : (q_new S (102, n.toNatClampNeg, [])).2.1 - S.2.1 = 1 := by show S.2.1 + 1 - S.2.1 = 1; omega
          have e2 : (q_new S (102, n.toNatClampNeg, [])).2.2 - S.2.2 = n.toNatClampNeg := by show S.2.2 + n.toNatClampNeg - S.2.2 = _; omega
          rw [e1] at hc k
          rw [e2] at hs k
          exact q_newa_ok F1 hW hS (at9 := .boolean) (kd := 102) (by decide) rfl rfl hac.2.2 (by decide) hn hc hs hd fun H1 w1 w2 => k H1 locs w1 w2
        · cases h
    · cases h
  · -- anewarray
    split at h
    · rename_i x kd a b n rest hlk
      split at h
      · cases h
      · rename_i hn
        cases h
        obtain ⟨g1, g2, g3⟩ := hK _ (q_lk_mem hlk)
        have e1 : (q_new S (kd, n.toNatClampNeg, [])).2.1 - S.2.1 = 1 := by show S.2.1 + 1 - S.2.1 = 1; omega
        have e2 : (q_new S (kd, n.toNatClampNeg, [])).2.2 - S.2.2 = n.toNatClampNeg := by show S.2.2 + n.toNatClampNeg - S.2.2 = _; omega
        rw [e1] at hc k
        rw [e2] at hs k
        exact q_newq_ok F1 hV hW hS g1 g2 g3 hn hc hs hd fun H1 w1 w2 => k H1 locs w1 w2
    · cases h
  · cases h
/-- a step never takes room back -/
theorem q_write_mono (h : q_write M i st S = some (st', S')) : S.2.1 ≤ S'.2.1 ∧ S.2.2 ≤ S'.2.2 := by
  have hp : ∀ r x, S.2.1 ≤ (q_put S r x).2.1 ∧ S.2.2 ≤ (q_put S r x).2.2 := fun r x => ⟨Nat.le_refl _, Nat.le_refl _⟩
  have hn : ∀ x, S.2.1 ≤ (q_new S x).2.1 ∧ S.2.2 ≤ (q_new S x).2.2 := fun x => ⟨Nat.le_succ _, Nat.le_add_right _ _⟩
  unfold q_write at h
  repeat' (split at h)
  all_goals first
    | (cases h; done)
    | (cases h; exact hp _ _)
    | (cases h; exact hn _)
    | (obtain ⟨j, h1, h2⟩ := Option.map_eq_some_iff.mp h; cases h2; exact hp _ _)
end QB
end QT
end
section
/-! Throws: the kit's vx_throwS, vx_throwSW with one word more (the heap grows by one cell). -/
section QX
variable {p : Program} {l : Launch} {e : Env} {R : Room} {s : State} {m : MethodId} {args : Array Value} {below : List Frame} {meth : Method} {c : Code} {H : Heap} {locs : List Loc} {cells slots : Nat} {Q : State → Prop}
variable {mc ms : Nat} {free : Addr → Prop} {A0 A1 : Nat → Prop} {H0 : Heap} {a : Array Value} {ls : Array Slot} {st0 rest : List Value}
variable {Qc : Array Value → State → Outcome → State → Prop} {XC : String → State → State → Prop}
/-- 'throw new E("text")': new; dup; ldc; invokespecial; athrow -/
theorem q_throwS {cc : ByteArray} {pc : Nat} (hexec : p.tables.exec = Jvm.exec) (hb : c.code = cc) (hl : l.stackTraces = false) {own cls text : String} {names : List String} {ik is ic mc ms sa : Nat} {A : Nat → Prop}
    (hown : s.vm.findClass own = some m.cls) (hcls : Bundle.fit cls = true) (hnames : ∀ n ∈ names, Bundle.fit n = true)
    (hk : (Cond.classLink own ik cls).before args s = true) (hini : (Cond.initialized cls).before args s = true) (hstr : vk_R own is text sa s) (hat : ∀ w ∈ vx_atS own ic cls names, w.before args s = true)
    (hgood : ∀ w ∈ Cond.classLink own ik cls :: Cond.initialized cls :: vx_atS own ic cls names, vx_ot w = true)
    (hU : vx_Zq Bundle.tN "UNASSIGNED_STACK" Bundle.steD A s s.heap) (hN : vx_Zq Bundle.tN "SUPPRESSED_SENTINEL" Bundle.listD A s s.heap) (hS : va_S A s.heap H locs) (hsize : ls.size = c.maxLocals)
    (d0 : decode cc pc = .ok (.new ik, 3)) (d3 : decode cc (pc + 3) = .ok (.dup, 1)) (d4 : decode cc (pc + 4) = .ok (.ldc is, 2)) (d6 : decode cc (pc + 6) = .ok (.invokespecial ic, 3)) (d9 : decode cc (pc + 9) = .ok (.athrow, 1))
    (hout : ∀ x ∈ c.exceptionTable.toList, covers x (pc + 9) = false)
    (hRframes : names.length + 3 < R.frames) (hRlocals : (rest.map fun v => v.category).sum + (13 * (names.length + 1) + 43) ≤ R.locals) (hRcells : cells + 1 ≤ R.cells) (hRslots : slots + 6 ≤ R.slots) (hlocks : meth.locks = false)
    (hx : ∀ t : State, s.vm.Alike t.vm → t.heap.size = H.size + 1 → (∀ q : Nat, q < H.size → t.heap[q]? = H[q]?) → XC cls s t)
    (hf : ∀ z ∈ locs, free z.base) (hc : cells + 1 ≤ mc) (hs : slots + 6 ≤ ms) :
    W p l e R s m args below meth c H locs cells slots (vx_MQ below Qc XC args s mc ms free) (F0 m pc ls rest) := by
  intro T hT X
  have htr : e.platform.stackTraces = false := (show e.platform.stackTraces = l.stackTraces by rw [X.admits.platform]).trans hl
  have Y := vx_rebase X (R' := { frames := R.frames, locals := R.locals, cells := 1, slots := 6 }) (Nat.le_refl _) (Nat.le_refl _) hRcells hRslots
  obtain ⟨s', hA⟩ : ∃ z, z = (T.setVm s.vm).setFrames (.invoking m args :: below) := ⟨_, rfl⟩
  rw [← hA] at Y
  have hvm : s'.vm = s.vm := by rw [hA]; rfl
  have hhp : s'.heap = H := by rw [hA]; exact hT
  have hW0 : s.WarmedH s'.vm := by rw [hvm]; exact State.WarmedH.refl s
  have hat' : ∀ w ∈ vx_atS own ic cls names, w.before args s' = true := fun w hw => vx_ot_at hW0 hvm.symm (hgood w (List.mem_cons_of_mem _ (List.mem_cons_of_mem _ hw))) (hat w hw)
  have hk' : (Cond.classLink own ik cls).before args s' = true := vx_ot_at hW0 hvm.symm (hgood _ List.mem_cons_self) hk
  have hini' : (Cond.initialized cls).before args s' = true := vx_ot_at hW0 hvm.symm (hgood _ (List.mem_cons_of_mem _ List.mem_cons_self)) hini
  have hU' : vx_Zq Bundle.tN "UNASSIGNED_STACK" Bundle.steD A s' s'.heap := by rw [hhp]; exact vx_Zq.moved hW0.alike (hU.kept hS.2.1)
  have hN' : vx_Zq Bundle.tN "SUPPRESSED_SENTINEL" Bundle.listD A s' s'.heap := by rw [hhp]; exact vx_Zq.moved hW0.alike (hN.kept hS.2.1)
  have h : ∀ w ∈ Bundle.ownAtoms own ic cls names, w.before args s' = true := vx_own hat' (vx_isRefq hU'.1) (vx_isRefq hN'.1) hU'.2.word hN'.2.word
  have hown' : s'.vm.findClass own = some m.cls := by rw [hvm]; exact hown
  have hins : (Cond.instantiable cls 6).before args s' = true := h _ (by simp [Bundle.ownAtoms])
  obtain ⟨vm₁, cX, kX, hfX, hkX, -, -, X₁, st1⟩ := Y.newCold hexec (own := own) (C := cls) (index := ik) (n := 6) hown' hk' hins hini'
    (g := F0 m pc ls rest) rfl (by rw [hb]; exact d0) (Nat.le_refl _) (Nat.le_refl _)
  generalize hT1 : (T.setVm vm₁).pushCell { cls := cX, slots := kX.instanceTypes.map defaultValue, vm := .none } = T1 at X₁ st1
  have hcat : (Value.ref T.heap.size).category = 1 := rfl
  have hcellA : T1.heap[T.heap.size]? = some (freshCell cX kX) := by rw [← hT1]; exact State.heap_pushCell_size _ _
  have d3' : decode c.code (pc + 3) = .ok (.dup, 1) := by rw [hb]; exact d3
  have d4' : decode c.code (pc + 4) = .ok (.ldc is, 2) := by rw [hb]; exact d4
  have hstr' : vk_R own is text sa s' := vk_R.warm hW0 hstr
  obtain ⟨U, hsteps, hrun, hend, hW, hsame, ce, hce, hO⟩ := X₁.ctorThrowS hexec htr (own := own) (cls := cls) (names := names) (ic := ic) hown' hcls hnames h (fun x hx => nomatch hx) hfX hkX hcellA (by rw [hhp, hT]; exact Nat.le_refl _) (msg := .ref sa) rfl
    (g := { method := m, pc := pc + 6, locals := ls, stack := .ref sa :: .ref T.heap.size :: .ref T.heap.size :: rest, locked := none }) rfl hsize rfl rfl (rest := rest) rfl
    (by rw [hb]; exact d6) (by rw [hb]; exact d9) hout hRframes (by simp only [List.map_cons, List.sum_cons, hcat]; omega) hlocks
  obtain ⟨f1, f2⟩ := vx_frame hsame
  rw [hhp] at f1 f2
  have f3 : U.heap.size = H.size + 1 := by
    have g1 : T.heap.size < U.heap.size := (Array.getElem?_eq_some_iff.mp hce).1
    have g2 : U.heap.size ≤ s'.heap.size + 1 := by simpa using hsame.2.2.1
    rw [hhp] at g2
    rw [hT] at g1
    omega
  have hWs : s.WarmedH U.vm := State.WarmedH.trans hW0 hW
  have hcl : s.vm.findClass cls = some ce.cls := by
    have h9 := hO.cls
    rw [hvm] at h9
    exact h9
  have hall : s.sameButNew ({ U with vm := s.vm } : State) locs mc ms := by
    subst hA
    obtain ⟨e1, e2⟩ := hsame
    rw [State.setFrames_setFrames] at e1
    have h2 : (T.setVm s.vm).sameButNew ({ U with vm := s.vm } : State) [] (0 + 1) (0 + 6) := ⟨e1, e2⟩
    have h3 := X.same.trans h2
    rw [List.append_nil] at h3
    exact h3.mono hc hs
  refine ⟨U, ?_, .threw T.heap.size, hrun, hend, Or.inr ⟨T.heap.size, rfl, cls, ce, locs, hx U hWs.alike f3 (fun q hq => f2 q hq (fun z hz => nomatch hz)), hce, hO.vm, hcl, hWs, hall, hf⟩⟩
  refine st1 _ ?_
  show Steps p.tables e below (T1.setTop { method := m, pc := pc + 3, locals := ls, stack := .ref T.heap.size :: rest, locked := none }) _
  jvm_step X₁.here [X₁.here.top, hexec, d3', Value.category]
  exact X₁.ldcString hexec (own := own) (text := text) (index := is) (a := sa) hown' hstr'.1 hstr'.2
    (g := { method := m, pc := pc + 4, locals := ls, stack := .ref T.heap.size :: .ref T.heap.size :: rest, locked := none }) rfl d4' _ hsteps
/-- 'throw new E("text")', the text by a wide index -/
theorem q_throwSW {cc : ByteArray} {pc : Nat} (hexec : p.tables.exec = Jvm.exec) (hb : c.code = cc) (hl : l.stackTraces = false) {own cls text : String} {names : List String} {ik is ic mc ms sa : Nat} {A : Nat → Prop}
    (hown : s.vm.findClass own = some m.cls) (hcls : Bundle.fit cls = true) (hnames : ∀ n ∈ names, Bundle.fit n = true)
    (hk : (Cond.classLink own ik cls).before args s = true) (hini : (Cond.initialized cls).before args s = true) (hstr : vk_R own is text sa s) (hat : ∀ w ∈ vx_atS own ic cls names, w.before args s = true)
    (hgood : ∀ w ∈ Cond.classLink own ik cls :: Cond.initialized cls :: vx_atS own ic cls names, vx_ot w = true)
    (hU : vx_Zq Bundle.tN "UNASSIGNED_STACK" Bundle.steD A s s.heap) (hN : vx_Zq Bundle.tN "SUPPRESSED_SENTINEL" Bundle.listD A s s.heap) (hS : va_S A s.heap H locs) (hsize : ls.size = c.maxLocals)
    (d0 : decode cc pc = .ok (.new ik, 3)) (d3 : decode cc (pc + 3) = .ok (.dup, 1)) (d4 : decode cc (pc + 4) = .ok (.ldc_w is, 3)) (d7 : decode cc (pc + 7) = .ok (.invokespecial ic, 3)) (d10 : decode cc (pc + 10) = .ok (.athrow, 1))
    (hout : ∀ x ∈ c.exceptionTable.toList, covers x (pc + 10) = false)
    (hRframes : names.length + 3 < R.frames) (hRlocals : (rest.map fun v => v.category).sum + (13 * (names.length + 1) + 43) ≤ R.locals) (hRcells : cells + 1 ≤ R.cells) (hRslots : slots + 6 ≤ R.slots) (hlocks : meth.locks = false)
    (hx : ∀ t : State, s.vm.Alike t.vm → t.heap.size = H.size + 1 → (∀ q : Nat, q < H.size → t.heap[q]? = H[q]?) → XC cls s t)
    (hf : ∀ z ∈ locs, free z.base) (hc : cells + 1 ≤ mc) (hs : slots + 6 ≤ ms) :
    W p l e R s m args below meth c H locs cells slots (vx_MQ below Qc XC args s mc ms free) (F0 m pc ls rest) := by
  intro T hT X
  have htr : e.platform.stackTraces = false := (show e.platform.stackTraces = l.stackTraces by rw [X.admits.platform]).trans hl
  have Y := vx_rebase X (R' := { frames := R.frames, locals := R.locals, cells := 1, slots := 6 }) (Nat.le_refl _) (Nat.le_refl _) hRcells hRslots
  obtain ⟨s', hA⟩ : ∃ z, z = (T.setVm s.vm).setFrames (.invoking m args :: below) := ⟨_, rfl⟩
  rw [← hA] at Y
  have hvm : s'.vm = s.vm := by rw [hA]; rfl
  have hhp : s'.heap = H := by rw [hA]; exact hT
  have hW0 : s.WarmedH s'.vm := by rw [hvm]; exact State.WarmedH.refl s
  have hat' : ∀ w ∈ vx_atS own ic cls names, w.before args s' = true := fun w hw => vx_ot_at hW0 hvm.symm (hgood w (List.mem_cons_of_mem _ (List.mem_cons_of_mem _ hw))) (hat w hw)
  have hk' : (Cond.classLink own ik cls).before args s' = true := vx_ot_at hW0 hvm.symm (hgood _ List.mem_cons_self) hk
  have hini' : (Cond.initialized cls).before args s' = true := vx_ot_at hW0 hvm.symm (hgood _ (List.mem_cons_of_mem _ List.mem_cons_self)) hini
  have hU' : vx_Zq Bundle.tN "UNASSIGNED_STACK" Bundle.steD A s' s'.heap := by rw [hhp]; exact vx_Zq.moved hW0.alike (hU.kept hS.2.1)
  have hN' : vx_Zq Bundle.tN "SUPPRESSED_SENTINEL" Bundle.listD A s' s'.heap := by rw [hhp]; exact vx_Zq.moved hW0.alike (hN.kept hS.2.1)
  have h : ∀ w ∈ Bundle.ownAtoms own ic cls names, w.before args s' = true := vx_own hat' (vx_isRefq hU'.1) (vx_isRefq hN'.1) hU'.2.word hN'.2.word
  have hown' : s'.vm.findClass own = some m.cls := by rw [hvm]; exact hown
  have hins : (Cond.instantiable cls 6).before args s' = true := h _ (by simp [Bundle.ownAtoms])
  obtain ⟨vm₁, cX, kX, hfX, hkX, -, -, X₁, st1⟩ := Y.newCold hexec (own := own) (C := cls) (index := ik) (n := 6) hown' hk' hins hini'
    (g := F0 m pc ls rest) rfl (by rw [hb]; exact d0) (Nat.le_refl _) (Nat.le_refl _)
  generalize hT1 : (T.setVm vm₁).pushCell { cls := cX, slots := kX.instanceTypes.map defaultValue, vm := .none } = T1 at X₁ st1
  have hcat : (Value.ref T.heap.size).category = 1 := rfl
  have hcellA : T1.heap[T.heap.size]? = some (freshCell cX kX) := by rw [← hT1]; exact State.heap_pushCell_size _ _
  have d3' : decode c.code (pc + 3) = .ok (.dup, 1) := by rw [hb]; exact d3
  have d4' : decode c.code (pc + 4) = .ok (.ldc_w is, 3) := by rw [hb]; exact d4
  have hstr' : vk_R own is text sa s' := vk_R.warm hW0 hstr
  obtain ⟨U, hsteps, hrun, hend, hW, hsame, ce, hce, hO⟩ := X₁.ctorThrowS hexec htr (own := own) (cls := cls) (names := names) (ic := ic) hown' hcls hnames h (fun x hx => nomatch hx) hfX hkX hcellA (by rw [hhp, hT]; exact Nat.le_refl _) (msg := .ref sa) rfl
    (g := { method := m, pc := pc + 7, locals := ls, stack := .ref sa :: .ref T.heap.size :: .ref T.heap.size :: rest, locked := none }) rfl hsize rfl rfl (rest := rest) rfl
    (by rw [hb]; exact d7) (by rw [hb]; exact d10) hout hRframes (by simp only [List.map_cons, List.sum_cons, hcat]; omega) hlocks
  obtain ⟨f1, f2⟩ := vx_frame hsame
  rw [hhp] at f1 f2
  have f3 : U.heap.size = H.size + 1 := by
    have g1 : T.heap.size < U.heap.size := (Array.getElem?_eq_some_iff.mp hce).1
    have g2 : U.heap.size ≤ s'.heap.size + 1 := by simpa using hsame.2.2.1
    rw [hhp] at g2
    rw [hT] at g1
    omega
  have hWs : s.WarmedH U.vm := State.WarmedH.trans hW0 hW
  have hcl : s.vm.findClass cls = some ce.cls := by
    have h9 := hO.cls
    rw [hvm] at h9
    exact h9
  have hall : s.sameButNew ({ U with vm := s.vm } : State) locs mc ms := by
    subst hA
    obtain ⟨e1, e2⟩ := hsame
    rw [State.setFrames_setFrames] at e1
    have h2 : (T.setVm s.vm).sameButNew ({ U with vm := s.vm } : State) [] (0 + 1) (0 + 6) := ⟨e1, e2⟩
    have h3 := X.same.trans h2
    rw [List.append_nil] at h3
    exact h3.mono hc hs
  refine ⟨U, ?_, .threw T.heap.size, hrun, hend, Or.inr ⟨T.heap.size, rfl, cls, ce, locs, hx U hWs.alike f3 (fun q hq => f2 q hq (fun z hz => nomatch hz)), hce, hO.vm, hcl, hWs, hall, hf⟩⟩
  refine st1 _ ?_
  show Steps p.tables e below (T1.setTop { method := m, pc := pc + 3, locals := ls, stack := .ref T.heap.size :: rest, locked := none }) _
  jvm_step X₁.here [X₁.here.top, hexec, d3', Value.category]
  exact X₁.ldcStringW hexec (own := own) (text := text) (index := is) (a := sa) hown' hstr'.1 hstr'.2
    (g := { method := m, pc := pc + 4, locals := ls, stack := .ref T.heap.size :: .ref T.heap.size :: rest, locked := none }) rfl d4' _ hsteps
end QX
section VXIA
variable {p : Program} {l : Launch} {e : Env} {R : Room} {s : State} {m : MethodId} {args : Array Value} {below : List Frame} {meth : Method} {c : Code} {T : State} {locs : List Loc} {cells slots : Nat}
theorem q_callI (X : Stand p l e R s m args below meth c T locs cells slots) (hexec : p.tables.exec = Jvm.exec) {own : String} {index : Nat} {y : MethodName} {bytes : ByteArray} {maxL : Nat}
    (hown : s.vm.findClass own = some m.cls) (hy1 : y.name = "<init>") (hlink : (Cond.methodLink own index y).before args s = true) (hinst : (Cond.instanceMethod y).before args s = true)
    (hcode : (Cond.code y bytes maxL none).before args s = true) (hy : y.cls ≠ "java/lang/invoke/MethodHandle" ∧ y.cls ≠ "java/lang/invoke/VarHandle")
    {W9 : Nat} {Pre : Pt → Array Value → Prop} {Post : Pt → Array Value → Option Value → Pt → Prop} {PostX : Pt → Array Value → Addr → Pt → Prop} (hK : vx_Back l R p e below s args y 3 W9 Pre Post PostX)
    {g : JFrame} (hg : g.method = m) (hsize : g.locals.size = c.maxLocals) {a : Addr} {argsL rest : List Value} (hlen : ∀ sig, parseMethodDescriptor y.desc = some sig → argsL.length = sig.parameters.length)
    (hstack : g.stack = argsL.reverse ++ .ref a :: rest) (hW : 2 * g.monitorRoom + (rest.map fun v => v.category).sum ≤ W9) (hdg : decode c.code g.pc = .ok (.invokespecial index, 3))
    (hpre : ∀ vm₁, s.WarmedH vm₁ → Pre ⟨T.setVm vm₁, locs, cells, slots⟩ (Value.ref a :: argsL).toArray) :
    (∃ (v : Option Value) (vm₁ : Vm) (B : Pt), s.WarmedH vm₁ ∧ Stand p l e R s m args below meth c B.U B.locs B.cells B.slots ∧ Post ⟨T.setVm vm₁, locs, cells, slots⟩ (Value.ref a :: argsL).toArray v B ∧
      ∀ target, Steps p.tables e below (B.U.setTop { g with pc := g.pc + 3, stack := v.toList ++ rest }) target → Steps p.tables e below (T.setTop g) target) ∨
    (∃ (q : Addr) (vm₁ : Vm) (B : Pt), s.WarmedH vm₁ ∧ Stand p l e R s m args below meth c B.U B.locs B.cells B.slots ∧ PostX ⟨T.setVm vm₁, locs, cells, slots⟩ (Value.ref a :: argsL).toArray q B ∧
      Steps p.tables e below (T.setTop g) ((B.U.setTop { g with stack := rest }).pushFrame (.throwing q))) := by
  subst hg
  have hpl : e.platform.magicAccessors = ({} : Platform).magicAccessors := by rw [X.admits.platform]
  obtain ⟨mk, methM, cM, kP, vm₁, hnamed, hmethM, hcodeM, -, hlocalsM, -, hkP, -, hW₁, hstep₁⟩ := Steps.initColdArgs (e := e) X.here hexec X.warmed hpl hown hy1 hy hlink hinst hcode (f := g) rfl hlen hstack hdg
  have X₁ := X.noted hW₁
  rcases hK g.method meth c ⟨T.setVm vm₁, locs, cells, slots⟩ { g with stack := rest } (.invokespecial index) mk (Value.ref a :: argsL).toArray X₁ rfl hsize hdg hW (X₁.named hnamed) (hpre vm₁ X₁.warmed) with ⟨v, B, X', hpost, hsteps⟩ | ⟨q, B, X', hpost, hsteps⟩
  · exact Or.inl ⟨v, vm₁, B, X₁.warmed, X', hpost, fun target h => hstep₁ _ fun acts => by rw [doInvoke_state]; exact hsteps.trans h⟩
  · exact Or.inr ⟨q, vm₁, B, X₁.warmed, X', hpost, hstep₁ _ fun acts => by rw [doInvoke_state]; exact hsteps⟩
end VXIA
section VXIB
variable {p : Program} {l : Launch} {e : Env} {R : Room} {s : State} {m : MethodId} {args : Array Value} {below : List Frame} {meth : Method} {c : Code} {H : Heap} {locs : List Loc} {cells slots : Nat}
variable {y : MethodName} {bytes cc : ByteArray} {maxL nL mc ms n index : Nat} {ret : Option FieldType} {ws : List Cond} {rm : Room} {Pc : Array Value → State → Prop} {Qc : Array Value → State → Outcome → State → Prop} {XC : String → State → State → Prop} {free : Addr → Prop} {Ts : List Cond} {own C : String} {b : Addr} {As rest : List Value} {g : JFrame}
theorem q_runI (S : CallFix p m c cc nL s args Ts own) (hM : vx_Met l y ws rm Pc Qc XC mc ms free) (cw : CallB R s args own index y bytes maxL none ws rm mc ms n ∧ y.name = "<init>" ∧ (Cond.instanceMethod y).before args s = true) (hp : PreS s H Pc (.ref b :: As))
    (hg : g.method = m) (hn : As.length = n) (hsize : g.locals.size = nL) (hstack : g.stack = As.reverse ++ .ref b :: rest) (hW : 2 * g.monitorRoom + (rest.map fun v => v.category).sum ≤ 8) (hdg : decode cc g.pc = .ok (.invokespecial index, 3)) (hf : cells + mc ≤ R.cells ∧ slots + ms ≤ R.slots) :
    vx_Run p l e R s m args below meth c H locs cells slots mc ms g rest (Qc (Value.ref b :: As).toArray) XC free := by
  have hK : vx_Back l R p e below s args y 3 8 (PreOf R mc ms Pc) (PostOf Qc mc ms free) (vx_Post XC mc ms free) := vx_callBack cw.1 hM hp.1
  obtain ⟨⟨-, -, -, -, -, -, hcode, -, hy, hlen, hl⟩, hy1, hin⟩ := cw
  obtain ⟨hx, hb, hml, ho, -⟩ := S
  have hPc := hp.2
  intro T hT X
  rcases q_callI X hx (bytes := bytes) (maxL := maxL) ho hy1 hl hin hcode hy hK hg (hsize.trans hml.symm) (a := b) (argsL := As) (rest := rest) (fun sig h => hn.trans (hlen sig h)) hstack hW (by rw [hb]; exact hdg)
    (fun vm₁ hW₁ => ⟨hf.1, hf.2, hPc (T.setVm vm₁) hT hW₁⟩) with ⟨v, vm₁, ⟨U', l2, c2, s2⟩, hW₁, X', ⟨g', mk, t, L, e1, e2, hq, h1, hL, h2, h3⟩, st⟩ | ⟨q, vm₁, ⟨U', l2, c2, s2⟩, hW₁, X', ⟨g', mk, t, L, E, ce, e1, e2, hq, hce, hcv, hcl, h1, hL, h2, h3⟩, st⟩
  · dsimp only [Pt.U, Pt.locs, Pt.cells, Pt.slots] at X' e1 e2 h1 h2 h3 st
    subst h1; subst h2; subst h3
    exact Or.inl ⟨v, (T.setVm vm₁).calling g' mk (Value.ref b :: As).toArray, t, U', L, hT, X', hL, e1, e2, hq, st⟩
  · dsimp only [Pt.U, Pt.locs, Pt.cells, Pt.slots] at X' e1 e2 h1 h2 h3 st hcl
    subst h1; subst h2; subst h3
    exact Or.inr ⟨q, (T.setVm vm₁).calling g' mk (Value.ref b :: As).toArray, t, U', L, E, ce, hT, X', hL, e1, e2, hq, hce, hcv, vx_cls hW₁ hcl, st⟩
end VXIB
end
section
/-! SOUNDNESS of the pure interpreter, V: whole methods. -/
section QZ
def q_Pc (P : (Nat → Nat) × Nat) (D : va_G) (xs : List Int32) (TX : List (String × Nat × String)) (as : List Value) (S : QS) : Array Value → State → Prop := fun v U => v = (as.map (q_rv P)).toArray ∧ q_W P D S U U.heap ∧ q_V P xs TX U U.heap
def q_Qc (P : (Nat → Nat) × Nat) (D : va_G) (o : QO) (S' : QS) : Array Value → State → Outcome → State → Prop := fun _ st oc t => ∃ v : Option Value, o = .inl v ∧ oc = .returned (v.map (q_rv P)) ∧ q_W P D S' t t.heap ∧ va_F (q_A P) st t
def q_XC (P : (Nat → Nat) × Nat) (D : va_G) (o : QO) (S' : QS) : String → State → State → Prop := fun E st t => ∃ e : Nat, o = .inr e ∧ e < 3 ∧ E = q_en e ∧ q_W P D S' t t.heap ∧ va_F (q_A P) st t
/-- the contract of a method at these arguments and this store: it comes to o and S' -/
def q_Met (l : Launch) (P : (Nat → Nat) × Nat) (D : va_G) (xs : List Int32) (TX : List (String × Nat × String)) (M : QM) (d : Nat) (as : List Value) (S : QS) (o : QO) (S' : QS) : Prop :=
  vx_Met l (qm_y M) (q_cw M :: wsL_law) ({ frames := d + 8, cells := S'.2.1 - S.2.1, slots := S'.2.2 - S.2.2, locals := 60 * d + 200 }) (q_Pc P D xs TX as S) (q_Qc P D o S') (q_XC P D o S') (S'.2.1 - S.2.1) (S'.2.2 - S.2.2) (q_A P)
theorem q_Pc_blind {P : (Nat → Nat) × Nat} {D : va_G} {xs : List Int32} {TX : List (String × Nat × String)} {as : List Value} {S : QS} : FrameBlind (q_Pc P D xs TX as S) := fun _ U _ _ h => ⟨h.1, q_W.moved (u := U) (Vm.Alike.refl U.vm) h.2.1, q_V.blind (u := U) rfl h.2.2⟩
section QB
variable {p : Program} {l : Launch} {e : Env} {R : Room} {s : State} {m : MethodId} {args : Array Value} {below : List Frame} {meth : Method} {c : Code} {H : Heap} {locs : List Loc} {cells slots mc ms : Nat} {Q : State → Prop} {pc : Nat} {ls : Array Slot} {P : (Nat → Nat) × Nat} {D : va_G} {S S' : QS} {xs : List Int32} {T : List QM} {TX : List (String × Nat × String)} {M : QM} {i : Instr} {st st' : List Value} {o : QO} {L L' : QL}
theorem q_goOn {a9 : Array Value} {st0 rest : List Value} (hr : vx_Run p l e R s m args below meth c H locs cells slots mc ms (F0 m pc ls st0) rest (q_Qc P D o S' a9) (q_XC P D o S') (q_A P)) (hS : va_S (q_A P) s.heap H locs)
    (kk : ∀ (v : Option Value) (H1 : Heap) (locs1 : List Loc), o = .inl v → q_W P D S' s H1 → va_S (q_A P) s.heap H1 locs1 → W p l e R s m args below meth c H1 locs1 (cells + mc) (slots + ms) Q (F0 m (pc + 3) ls ((v.map (q_rv P)).toList ++ rest)))
    (kx : ∀ (f q : Nat) (ce : Cell) (H1 : Heap) (locs1 : List Loc), o = .inr f → f < 3 → q_W P D S' s H1 → va_S (q_A P) s.heap H1 locs1 → H1[q]? = some ce → ce.vm = .none → s.vm.findClass (q_en f) = some ce.cls → vx_W p l e R s m args below meth c H1 locs1 (cells + mc) (slots + ms) Q (F0 m pc ls rest) q) : W p l e R s m args below meth c H locs cells slots Q (F0 m pc ls st0) := by
  intro T hT X
  rcases hr T hT X with ⟨v, st₀, t, T', L, h0, X', hL, e1, e2, ⟨v9, ho, hoc, hW9, hF⟩, st⟩ | ⟨q, st₀, t, T', L, E, ce, h0, X', hL, e1, e2, ⟨f, ho, hf, hE, hW9, hF⟩, hce, hcv, hcl, st⟩
  · cases hoc
    obtain ⟨k1, k2, k3⟩ := vx_keep (A1 := q_A P) h0 e1 hS (fun _ _ h => h) (fun _ h => h) hL hF
    have hal : s.vm.Alike t.vm := by rw [← e2]; exact X'.warmed.alike
    obtain ⟨t2, a1, b1⟩ := kk v9 T'.heap (locs ++ L) ho (by rw [e1]; exact hW9.moved hal.symm) k3 T' rfl X'
    exact ⟨t2, st t2 a1, b1⟩
  · obtain ⟨k1, k2, k3⟩ := vx_keep (A1 := q_A P) h0 e1 hS (fun _ _ h => h) (fun _ h => h) hL hF
    have hal : s.vm.Alike t.vm := by rw [← e2]; exact X'.warmed.alike
    obtain ⟨t2, a1, b1⟩ := kx f q ce T'.heap (locs ++ L) ho hf (by rw [e1]; exact hW9.moved hal.symm) k3 (by rw [e1]; exact hce) hcv (by rw [← hE]; exact hcl) T' rfl X'
    exact ⟨t2, st.trans a1, b1⟩
theorem q_good : ∀ w ∈ wsL_law, goodWord w = true := by
  intro w h
  unfold wsL_law at h
  rcases List.mem_append.mp h with h | h
  · rcases List.mem_append.mp h with h | h
    · rcases List.mem_append.mp h with h | h
      · exact wsL_law_gd0 w h
      · exact (List.mem_filter.mp h).2
    · exact (List.mem_filter.mp h).2
  · exact (List.mem_filter.mp h).2
theorem q_goodIn (hM : q_mok T TX M) : GoodIn wsL_law (q_cw M :: wsL_law) := by
  intro w h
  rcases List.mem_cons.mp h with rfl | h
  · exact ⟨hM.2.2.2.2.1, good_of_word (q_good _ hM.2.2.2.2.1)⟩
  · exact ⟨h, good_of_word (q_good _ h)⟩
theorem q_read_sw (h : q_read M xs i st S = some st') : q_isSw i = false := by
  cases i with
  | tableswitch d lo hi offs =>
    exfalso
    unfold q_read at h
    simp only at h
    split at h
    · split at h
      · simp [q_akd] at h
      · cases h
    · cases h
  | _ => rfl
theorem q_write_sw (h : q_write M i st S = some (st', S')) : q_isSw i = false := by
  cases i <;> first
    | rfl
    | (exfalso
       simp only [q_write] at h
       cases h)
theorem q_inc_ok (hM : q_mok T TX M) (F : q_Fr P xs TX M p m c s args meth) (hcode : q_code M pc = some i) (h : q_inc M i L = some L') (hl : lv_has ls (qm_l M) (q_rL P L))
    (k : ∀ ls1 : Array Slot, lv_has ls1 (qm_l M) (q_rL P L') → W p l e R s m args below meth c H locs cells slots Q (F0 m (pc + 3) ls1 (st.map (q_rv P)))) : W p l e R s m args below meth c H locs cells slots Q (F0 m pc ls (st.map (q_rv P))) := by
  unfold q_inc at h
  split at h
  · split at h
    · rename_i x hx
      split at h
      · rename_i hn
        cases h
        have hm2 := List.mem_map_of_mem (f := fun q : Nat × Value => (q.1, q_rv P q.2)) (q_lo_mem hx)
        obtain ⟨j, hj⟩ := List.getElem?_of_mem hm2
        exact lv_iinc (lv' := q_rL P (q_s1 L _ (.int (x + Int32.ofInt _)))) F.1.1 F.1.2.1 (q_decL hM hcode rfl) hl hj rfl hn (q_s1_rv P L _ (.int (x + Int32.ofInt _))).symm k
      · cases h
    · cases h
  · cases h
theorem q_oi_ok (hM : q_mok T TX M) (F : q_Fr P xs TX M p m c s args meth) (hR : 1 ≤ R.frames ∧ 20 ≤ R.locals) (hcode : q_code M pc = some i) (h : q_oi M i st = some st') (hl : lv_has ls (qm_l M) (q_rL P L))
    (k : W p l e R s m args below meth c H locs cells slots Q (F0 m (pc + 3) ls (st'.map (q_rv P)))) : W p l e R s m args below meth c H locs cells slots Q (F0 m pc ls (st.map (q_rv P))) := by
  have F1 := F.1
  unfold q_oi at h
  split at h
  · split at h
    · rename_i hlk
      split at h
      · rename_i hsum
        cases h
        obtain ⟨g1, g2, g3⟩ := hM.2.2.2.2.2.2.1 _ (q_lk_mem hlk)
        have hsz : ∀ g : List Value, (F0 m pc ls g).locals.size = c.maxLocals := fun _ => hl.1.trans F1.2.2.1.symm
        refine W.objInit F1.1 F1.2.1 F1.2.2.2.1 (F1.2.2.2.2 _ g1) (F1.2.2.2.2 _ g2) (F1.2.2.2.2 _ g3) rfl (hsz _) rfl (q_decL hM hcode rfl) hR.1 ?_ k
        rw [q_sum_cat]
        show 2 * 0 + _ + 12 ≤ R.locals
        omega
      · cases h
    · cases h
  · cases h
set_option maxHeartbeats 4000000 in
theorem q_step_ok (hM : q_mok T TX M) (hac : Cond.arrayClass .int ∈ wsL_law ∧ Cond.arrayClass .long ∈ wsL_law ∧ Cond.arrayClass .boolean ∈ wsL_law) (F : q_Fr P xs TX M p m c s args meth) (hR : 1 ≤ R.frames ∧ 20 ≤ R.locals) (hcode : q_code M pc = some i) {pc' : Nat} (h : q_step M xs pc i L st S = some (pc', L', st', S'))
    (hl : lv_has ls (qm_l M) (q_rL P L)) (hW : q_W P D S s H) (hS : va_S (q_A P) s.heap H locs) {c0 s0 : Nat} (hc : cells + c0 = S.2.1) (hs : slots + s0 = S.2.2) (hC : S'.2.1 ≤ R.cells + c0) (hSl : S'.2.2 ≤ R.slots + s0)
    (k : ∀ (ls1 : Array Slot) (H1 : Heap) (locs1 : List Loc) (c1 s1 : Nat), lv_has ls1 (qm_l M) (q_rL P L') → q_W P D S' s H1 → va_S (q_A P) s.heap H1 locs1 → c1 + c0 = S'.2.1 → s1 + s0 = S'.2.2 → W p l e R s m args below meth c H1 locs1 c1 s1 Q (F0 m pc' ls1 (st'.map (q_rv P)))) : W p l e R s m args below meth c H locs cells slots Q (F0 m pc ls (st.map (q_rv P))) := by
  have F1 := F.1
  unfold q_step at h
  split at h
  · rename_i st9 hs9
    cases h
    have hsw : q_isSw i = false := by
      cases i <;> first | rfl | (simp only [q_simple] at hs9; cases hs9)
    exact q_simple_ok F1.1 F1.2.1 hs9 (q_decL hM hcode hsw) (k ls H locs cells slots hl hW hS hc hs)
  · split at h
    · rename_i t n hld
      have hsw : q_isSw i = false := by
        cases i <;> first | rfl | (simp only [q_ldi] at hld; cases hld)
      split at h
      · rename_i v hv
        split at h
        · rename_i ht
          cases h
          exact q_ld_ok F1.1 F1.2.1 hld hv ht (q_decL hM hcode hsw) hl (k ls H locs cells slots hl hW hS hc hs)
        · cases h
      · cases h
    · split at h
      · rename_i t n hsti
        have hsw : q_isSw i = false := by
          cases i <;> first | rfl | (simp only [q_sti] at hsti; cases hsti)
        cases st with
        | nil => cases h
        | cons v9 rest9 =>
          by_cases ht : q_tag v9 = t ∧ n + 1 < qm_l M + (if t = 1 then 0 else 1)
          · simp only [if_pos ht] at h
            cases h
            exact q_st_ok F1.1 F1.2.1 hsti ht.1 ht.2 (q_decL hM hcode hsw) hl fun ls1 hl1 => k ls1 H locs cells slots hl1 hW hS hc hs
          · simp only [if_neg ht] at h
            cases h
      · split at h
        · rename_i b o9 rest hbr
          obtain ⟨t, h1, h2⟩ := Option.map_eq_some_iff.mp h
          cases h2
          obtain ⟨n9, hd, hn⟩ := q_dec hM hcode
          exact q_br_ok F1.1 F1.2.1 hbr h1 hd hn F.2.2.2.2.1.2.1 (k ls H locs cells slots hl hW hS hc hs)
        · split at h
          · rename_i L9 hinc
            cases h
            exact q_inc_ok hM F hcode hinc hl fun ls1 hl1 => k ls1 H locs cells slots hl1 hW hS hc hs
          · split at h
            · rename_i st9 hoi
              cases h
              exact q_oi_ok hM F hR hcode hoi hl (k ls H locs cells slots hl hW hS hc hs)
            · split at h
              · rename_i st9 hrd
                cases h
                exact q_read_ok hM F hW hS hrd (q_decL hM hcode (q_read_sw hrd)) (k ls H locs cells slots hl hW hS hc hs)
              · obtain ⟨⟨st9, S9⟩, h1, h2⟩ := Option.map_eq_some_iff.mp h
                cases h2
                have hmn := q_write_mono h1
                have hC9 : S9.2.1 ≤ R.cells + c0 := hC
                have hS9 : S9.2.2 ≤ R.slots + s0 := hSl
                exact q_write_ok hM hac F hW hS h1 (q_decL hM hcode (q_write_sw h1)) (by omega) (by omega) fun H1 locs1 w1 w2 => k ls H1 locs1 _ _ hl w1 w2 (by show _ + c0 = S9.2.1; omega) (by show _ + s0 = S9.2.2; omega)
theorem q_step_mono {pc' : Nat} (h : q_step M xs pc i L st S = some (pc', L', st', S')) : S.2.1 ≤ S'.2.1 ∧ S.2.2 ≤ S'.2.2 := by
  have hr : S.2.1 ≤ S.2.1 ∧ S.2.2 ≤ S.2.2 := ⟨Nat.le_refl _, Nat.le_refl _⟩
  unfold q_step at h
  split at h
  · cases h; exact hr
  · split at h
    · repeat' (split at h)
      all_goals first | (cases h; done) | (cases h; exact hr)
    · split at h
      · repeat' (split at h)
        all_goals first | (cases h; done) | (cases h; exact hr)
      · split at h
        · obtain ⟨t, h1, h2⟩ := Option.map_eq_some_iff.mp h
          cases h2; exact hr
        · split at h
          · cases h; exact hr
          · split at h
            · cases h; exact hr
            · split at h
              · cases h; exact hr
              · obtain ⟨⟨st9, S9⟩, h1, h2⟩ := Option.map_eq_some_iff.mp h
                cases h2
                exact q_write_mono h1
/-- what is known of the calls that a method makes -/
def q_CallOK (l : Launch) (P : (Nat → Nat) × Nat) (D : va_G) (xs : List Int32) (TX : List (String × Nat × String)) (T : List QM) (d : Nat) (call : Nat → List Value → QS → Option (QO × QS)) : Prop := ∀ (mi : Nat) (as : List Value) (S : QS) (o : QO) (S' : QS), call mi as S = some (o, S') → (S.2.1 ≤ S'.2.1 ∧ S.2.2 ≤ S'.2.2) ∧ ∃ M : QM, T[mi]? = some M ∧ q_mok T TX M ∧ q_Met l P D xs TX M d as S o S'
theorem q_run_mono {call : Nat → List Value → QS → Option (QO × QS)} {d : Nat} (hcall : q_CallOK l P D xs TX T d call) : ∀ (n pc : Nat) (L : QL) (st : List Value) (S : QS) (o : QO) (S' : QS), q_run call M xs n pc L st S = some (o, S') → S.2.1 ≤ S'.2.1 ∧ S.2.2 ≤ S'.2.2 := by
  intro n
  induction n with
  | zero => intro pc L st S o S' h; simp [q_run] at h
  | succ n ih =>
    intro pc L st S o S' h
    rw [q_run] at h
    split at h
    · cases h
    · split at h
      · rename_i hst
        have h1 := q_step_mono hst
        have h2 := ih _ _ _ _ _ _ h
        omega
      · split at h
        · split at h
          · rename_i hcl
            have h1 := (hcall _ _ _ _ _ hcl).1
            have h2 := ih _ _ _ _ _ _ h
            omega
          · rename_i hcl
            have h1 := (hcall _ _ _ _ _ hcl).1
            split at h
            · cases h; exact h1
            · split at h
              · have h2 := ih _ _ _ _ _ _ h
                omega
              · cases h
          · cases h
        · split at h
          · cases h; exact ⟨Nat.le_refl _, Nat.le_refl _⟩
          · obtain ⟨f, h1, h2⟩ := Option.map_eq_some_iff.mp h
            cases h2
            exact ⟨Nat.le_succ _, Nat.le_add_right _ _⟩
end QB
end QZ
end
section
/-! SOUNDNESS of the pure interpreter, VI: calls, returns, throws, handlers; then the table of all methods. -/
section QY
variable {p : Program} {l : Launch} {e : Env} {R : Room} {s : State} {m : MethodId} {args : Array Value} {below : List Frame} {meth : Method} {c : Code} {H : Heap} {locs : List Loc} {cells slots mc ms : Nat} {Q : State → Prop} {pc : Nat} {ls : Array Slot} {P : (Nat → Nat) × Nat} {D : va_G} {S S' : QS} {xs : List Int32} {T : List QM} {TX : List (String × Nat × String)} {M : QM} {i : Instr} {st st' : List Value} {o : QO} {L L' : QL}
theorem q_V.at (hV : q_V P xs TX s s.heap) (hS : va_S (q_A P) s.heap H locs) {U : State} (hU : U.heap = H) (hW : s.WarmedH U.vm) : q_V P xs TX U U.heap := by
  rw [hU]
  exact (hV.kept hS.1 hS.2.1).moved hW
theorem q_W.at (hW : q_W P D S s H) {U : State} (hU : U.heap = H) (hv : s.WarmedH U.vm) : q_W P D S U U.heap := by
  rw [hU]
  exact hW.moved hv.alike
theorem q_split (st : List Value) (n : Nat) : st.map (q_rv P) = (((st.take n).reverse).map (q_rv P)).reverse ++ (st.drop n).map (q_rv P) := by
  rw [← List.map_reverse, List.reverse_reverse, ← List.map_append, List.take_append_drop]
theorem q_takelen {st : List Value} {n : Nat} (h : n ≤ st.length) : (((st.take n).reverse).map (q_rv P)).length = n := by
  rw [List.length_map, List.length_reverse, List.length_take]
  omega
set_option maxHeartbeats 4000000 in
theorem q_call_ok (hM : q_mok T TX M) (F : q_Fr P xs TX M p m c s args meth) {d : Nat} (hR : d + 9 ≤ R.frames ∧ 60 * d + 260 ≤ R.locals) (hcode : q_code M pc = some i) {mi : Nat} {as rest : List Value} (h : q_call M i st S = some (mi, as, rest)) {M' : QM} (hT : T[mi]? = some M') (hM' : q_mok T TX M') (hMet : q_Met l P D xs TX M' d as S o S')
    (hl : lv_has ls (qm_l M) (q_rL P L)) (hW : q_W P D S s H) (hS : va_S (q_A P) s.heap H locs) (hf : cells + (S'.2.1 - S.2.1) ≤ R.cells ∧ slots + (S'.2.2 - S.2.2) ≤ R.slots)
    (kk : ∀ (v : Option Value) (H1 : Heap) (locs1 : List Loc), o = .inl v → q_W P D S' s H1 → va_S (q_A P) s.heap H1 locs1 → W p l e R s m args below meth c H1 locs1 (cells + (S'.2.1 - S.2.1)) (slots + (S'.2.2 - S.2.2)) Q (F0 m (pc + 3) ls ((v.toList ++ rest).map (q_rv P))))
    (kx : ∀ (f q : Nat) (ce : Cell) (H1 : Heap) (locs1 : List Loc), o = .inr f → f < 3 → q_W P D S' s H1 → va_S (q_A P) s.heap H1 locs1 → H1[q]? = some ce → ce.vm = .none → s.vm.findClass (q_en f) = some ce.cls → vx_W p l e R s m args below meth c H1 locs1 (cells + (S'.2.1 - S.2.1)) (slots + (S'.2.2 - S.2.2)) Q (F0 m pc ls (rest.map (q_rv P))) q) : W p l e R s m args below meth c H locs cells slots Q (F0 m pc ls (st.map (q_rv P))) := by
  obtain ⟨F1, -, -, -, hV⟩ := F
  have hts := F1.2.2.2.2
  have hK := hM.2.2.2.2.2.2.1
  have hml := hM'.2.2.2.1
  have hR2 : (d + 8) + 1 ≤ R.frames ∧ 8 + (qm_l M' + 11) + (60 * d + 200) ≤ R.locals := by omega
  have hsz : ∀ g : List Value, (F0 m pc ls g).locals.size = qm_l M := fun _ => hl.1
  have hG := q_goodIn hM'
  have kk2 : ∀ (v : Option Value) (H1 : Heap) (locs1 : List Loc), o = .inl v → q_W P D S' s H1 → va_S (q_A P) s.heap H1 locs1 → W p l e R s m args below meth c H1 locs1 (cells + (S'.2.1 - S.2.1)) (slots + (S'.2.2 - S.2.2)) Q (F0 m (pc + 3) ls ((v.map (q_rv P)).toList ++ rest.map (q_rv P))) := by
    intro v H1 locs1 h1 h2 h3
    have h4 := kk v H1 locs1 h1 h2 h3
    rw [List.map_append] at h4
    cases v <;> exact h4
  unfold q_call at h
  split at h
  · rename_i x
    split at h
    · rename_i mi9 n ci hlk
      obtain ⟨M2, row, g1, g2, g3, g4, g5, g6, g7, g8, g9, g10⟩ := hK _ (q_lk_mem hlk)
      split at h
      · rename_i b rest9 hdr
        split at h
        · rename_i cl hcl
          split at h
          · rename_i hcond
            obtain ⟨hci, hn, hsum⟩ := hcond
            cases h
            cases Option.some.inj (hT.symm.trans g1)
            obtain ⟨k9, rfl, hk9⟩ := q_at_s hcl
            have hcw : q_cw M' = Cond.code (qm_y M') (qm_b M') (qm_l M') (qm_r M') := if_pos g4
            unfold q_Met at hMet
            rw [hcw] at hMet hG
            have hsp : st.map (q_rv P) = (((st.take n).reverse).map (q_rv P)).reverse ++ .ref (P.2 + k9) :: rest.map (q_rv P) := by
              rw [q_split (P := P) st n, hdr]; rfl
            have hrecv : ∃ cellB : Cell, H[P.2 + k9]? = some cellB ∧ cellB.vm.isStatics = false ∧ s.vm.findClass (qm_y M').cls = some cellB.cls := by
              have hC := hW.2.2 k9 cl hk9
              obtain ⟨h50, -⟩ := q_clok _ _ g2
              unfold q_C at hC
              rw [hci, if_pos h50] at hC
              obtain ⟨row', hrow', cell, c1, c2, c3, -⟩ := hC
              exact ⟨cell, c1, by rw [c3]; rfl, by rw [c2, ← g3]; exact (hW.2.1 _ _ g2).2.1⟩
            rw [hsp]
            refine q_goOn (vx_runV (C := (qm_y M').cls) (b := P.2 + k9) (As := ((st.take n).reverse).map (q_rv P)) (rest := rest.map (q_rv P)) F1 hMet ⟨callB_of n hts hG rfl rfl rfl (hts _ g10) (hts _ g5) ⟨g9.1, g9.2, g8⟩ hR2, hts _ g6, hts _ g7⟩ ⟨q_Pc_blind, hrecv, fun U hU hv => ⟨rfl, hW.at hU hv, hV.at hS hU hv⟩⟩ rfl (q_takelen hn) (hsz _) rfl ?_ (q_decL hM hcode rfl) hf) hS kk2 kx
            rw [q_sum_cat]
            show 2 * 0 + _ ≤ 8
            omega
          · cases h
        · cases h
      · cases h
    · cases h
  · rename_i x
    split at h
    · rename_i mi9 n ci hlk
      obtain ⟨M2, g1, g5, g6, g8, g9, g10⟩ := hK _ (q_lk_mem hlk)
      split at h
      · rename_i hcond
        obtain ⟨hn, hsum⟩ := hcond
        cases h
        cases Option.some.inj (hT.symm.trans g1)
        have hsp := q_split (P := P) st n
        have hsum2 : 2 * (F0 m pc ls (st.map (q_rv P))).monitorRoom + (((st.drop n).map (q_rv P)).map fun v => v.category).sum ≤ 8 := by
          rw [q_sum_cat]
          show 2 * 0 + _ ≤ 8
          omega
        by_cases hh : qm_h M' = []
        · have hcw : q_cw M' = Cond.code (qm_y M') (qm_b M') (qm_l M') (qm_r M') := if_pos hh
          unfold q_Met at hMet
          rw [hcw] at hMet hG
          exact q_goOn (vx_runS (As := ((st.take n).reverse).map (q_rv P)) (rest := (st.drop n).map (q_rv P)) F1 hMet ⟨callB_of n hts hG rfl rfl rfl (hts _ g10) (hts _ g5) ⟨g9.1, g9.2, g8⟩ hR2, hts _ g6⟩ ⟨q_Pc_blind, fun U hU hv => ⟨rfl, hW.at hU hv, hV.at hS hU hv⟩⟩ rfl (q_takelen hn) (hsz _) hsp hsum2 (q_decL hM hcode rfl) hf) hS kk2 kx
        · have hcw : q_cw M' = Cond.codeWith (qm_y M') (qm_b M') (qm_l M') (qm_r M') (qm_h M') := if_neg hh
          unfold q_Met at hMet
          rw [hcw] at hMet hG
          have hG2 : GoodIn wsL_law (va_wsS (qm_o M) x (qm_y M') (Cond.codeWith (qm_y M') (qm_b M') (qm_l M') (qm_r M') (qm_h M') :: wsL_law)) := by
            intro w hw
            unfold va_wsS at hw
            rcases List.mem_append.mp hw with hw | hw
            · have : w ∈ wsL_law := by
                simp only [List.mem_cons, List.not_mem_nil, or_false] at hw
                rcases hw with rfl | rfl | rfl
                · exact g5
                · exact g6
                · exact g10
              exact ⟨this, good_of_word (q_good _ this)⟩
            · exact hG w hw
          exact q_goOn (vx_runSX (As := ((st.take n).reverse).map (q_rv P)) (rest := (st.drop n).map (q_rv P)) F1 hMet (vx_cwSW n hts hG2 rfl rfl rfl ⟨g9.1, g9.2, g8⟩ hR2) ⟨q_Pc_blind, fun U hU hv => ⟨rfl, hW.at hU hv, hV.at hS hU hv⟩⟩ rfl (q_takelen hn) (hsz _) hsp hsum2 (q_decL hM hcode rfl) hf) hS kk2 kx
      · cases h
    · cases h
  · rename_i x
    split at h
    · rename_i mi9 n ci hlk
      obtain ⟨M2, g1, g2, g3, g4, g5, g6, g8, g9, g10⟩ := hK _ (q_lk_mem hlk)
      split at h
      · rename_i b rest9 hdr
        split at h
        · rename_i hcond
          obtain ⟨hn, hsum⟩ := hcond
          cases h
          cases Option.some.inj (hT.symm.trans g1)
          have hcw : q_cw M' = Cond.code (qm_y M') (qm_b M') (qm_l M') none := by unfold q_cw; rw [if_pos g2, g4]
          unfold q_Met at hMet
          rw [hcw] at hMet hG
          have hsp : st.map (q_rv P) = (((st.take n).reverse).map (q_rv P)).reverse ++ .ref (q_ad P b) :: rest.map (q_rv P) := by
            rw [q_split (P := P) st n, hdr]; rfl
          rw [hsp]
          refine q_goOn (q_runI (b := q_ad P b) (As := ((st.take n).reverse).map (q_rv P)) (rest := rest.map (q_rv P)) F1 hMet ⟨callB_of n hts hG rfl rfl rfl (hts _ g10) (hts _ g5) ⟨g9.1, g9.2, g8⟩ hR2, g3, hts _ g6⟩ ⟨q_Pc_blind, fun U hU hv => ⟨rfl, hW.at hU hv, hV.at hS hU hv⟩⟩ rfl (q_takelen hn) (hsz _) rfl ?_ (q_decL hM hcode rfl) hf) hS kk2 kx
          rw [q_sum_cat]
          show 2 * 0 + _ ≤ 8
          omega
        · cases h
      · cases h
    · cases h
  · cases h
/-- a handler takes it -/
theorem q_hand_ok (hM : q_mok T TX M) (F : q_Fr P xs TX M p m c s args meth) (htab : c.exceptionTable.toList = tableOf (qm_h M)) {f q pc' : Nat} {ce : Cell} {rest : List Value} (h : q_hand M pc f L = some (pc', L')) (hf : f < 3) (hl : lv_has ls (qm_l M) (q_rL P L)) (hcell : H[q]? = some ce) (hv : ce.vm = .none) (hcl : s.vm.findClass (q_en f) = some ce.cls)
    (k : ∀ ls1 : Array Slot, lv_has ls1 (qm_l M) (q_rL P L') → W p l e R s m args below meth c H locs cells slots Q (F0 m pc' ls1 [])) : vx_W p l e R s m args below meth c H locs cells slots Q (F0 m pc ls rest) q := by
  obtain ⟨F1, -, -, -, hV⟩ := F
  have hts := F1.2.2.2.2
  have hK := hM.2.2.2.2.2.2.1
  have hHd := hM.2.2.2.2.2.2.2
  unfold q_hand at h
  split at h
  · rename_i hh hfind
    obtain ⟨hp, pre, suf, hsp, hpre⟩ := List.find?_eq_some_iff_append.mp hfind
    have hspl : c.exceptionTable.toList = tableOf pre ++ ⟨hh.1, hh.2.1, hh.2.2.1, hh.2.2.2⟩ :: tableOf suf := by
      rw [htab, hsp]; simp [tableOf]
    have hmem : hh ∈ qm_h M := by rw [hsp]; simp
    obtain ⟨f1, hf1, hlk, hne⟩ := hHd hh hmem
    unfold q_hx at hp
    simp only [hlk, Bool.and_eq_true, decide_eq_true_eq, beq_iff_eq] at hp
    obtain ⟨hp1, hp2, hp3⟩ := hp
    subst hp3
    have hcov : covers (⟨hh.1, hh.2.1, hh.2.2.1, hh.2.2.2⟩ : ExceptionTableEntry) pc = true := by
      simp [covers, hp1, hp2]
    have hpass : ∀ z ∈ tableOf pre, covers z pc = false ∨ (z.catchType ≠ 0 ∧ ∃ nm : String, (Cond.classLink (qm_o M) z.catchType nm).before args s = true ∧ va_Nc (q_en f1) nm s) := by
      intro z hz
      obtain ⟨h9, hz1, rfl⟩ := List.mem_map.mp hz
      have hmem9 : h9 ∈ qm_h M := by rw [hsp]; simp [hz1]
      obtain ⟨f2, hf2, hlk2, hne2⟩ := hHd h9 hmem9
      by_cases hcv : covers (⟨h9.1, h9.2.1, h9.2.2.1, h9.2.2.2⟩ : ExceptionTableEntry) pc = true
      · refine Or.inr ⟨hne2, q_en f2, hts _ (hK _ (q_lk_mem hlk2)).2, hV.2.2.2.2.2.2.2.1 f1 f2 hf1 hf2 ?_⟩
        intro he
        have h8 := hpre h9 hz1
        unfold q_hx at h8
        simp [covers] at hcv
        simp [hlk2, hcv.1, hcv.2, he] at h8
      · exact Or.inl (by simpa using hcv)
    have hgo : ∀ kk : W p l e R s m args below meth c H locs cells slots Q (F0 m hh.2.2.1 ls [.ref q]), vx_W p l e R s m args below meth c H locs cells slots Q (F0 m pc ls rest) q := fun kk =>
      vx_catch (name := q_en f1) F1.2.2.2.1 (tableOf pre) ⟨hh.1, hh.2.1, hh.2.2.1, hh.2.2.2⟩ (tableOf suf) hspl hpass hcov hne (hts _ (hK _ (q_lk_mem hlk)).2) (va_Nw.use rfl (hV.2.2.2.2.2.2.1 f1 hf1)) hcell hv hcl kk
    have hdrop : ∀ (n : Nat) (ls1 : Array Slot), lv_has ls1 (qm_l M) ((n, Value.ref q) :: (q_rL P L).filter (fun q => !(q.1 == n) && !(q.1 + 1 == n && q.2.category == 2))) → lv_has ls1 (qm_l M) (q_rL P (q_rm L n)) := by
      intro n ls1 h1
      rw [q_rm_rv]
      exact ⟨h1.1, h1.2.1, fun z hz => h1.2.2 z (List.mem_cons_of_mem _ hz)⟩
    split at h
    · rename_i n hc9
      split at h
      · rename_i hn
        cases h
        exact hgo (lv_astore F1.1 F1.2.1 (q_decL hM hc9 rfl) hl hn rfl fun ls1 hl1 => k ls1 (hdrop n ls1 hl1))
      · cases h
    · rename_i n hc9
      split at h
      · rename_i hn
        cases h
        exact hgo (lv_astore_n F1.1 F1.2.1 (q_decL hM hc9 rfl) rfl hl hn rfl fun ls1 hl1 => k ls1 (hdrop _ ls1 hl1))
      · cases h
    · cases h
  · cases h
set_option maxHeartbeats 4000000 in
theorem q_run_ok (hM : q_mok T TX M) (hac : Cond.arrayClass .int ∈ wsL_law ∧ Cond.arrayClass .long ∈ wsL_law ∧ Cond.arrayClass .boolean ∈ wsL_law) (F : q_Fr P xs TX M p m c s args meth) {d : Nat} (hR : d + 9 ≤ R.frames ∧ 60 * d + 260 ≤ R.locals) {call : Nat → List Value → QS → Option (QO × QS)} (hcall : q_CallOK l P D xs TX T d call) {Sf : QS} {c0 s0 : Nat} (hC : Sf.2.1 ≤ R.cells + c0) (hSl : Sf.2.2 ≤ R.slots + s0)
    (htab : qm_h M ≠ [] → c.exceptionTable.toList = tableOf (qm_h M))
    (hret : ∀ (v : Option Value) (pc : Nat) (i : Instr) (ls : Array Slot) (st : List Value) (H : Heap) (locs : List Loc) (c1 s1 : Nat), o = .inl v → q_code M pc = some i → q_ret M i st = some v → q_W P D Sf s H → va_S (q_A P) s.heap H locs → c1 + c0 = Sf.2.1 → s1 + s0 = Sf.2.2 → W p l e R s m args below meth c H locs c1 s1 Q (F0 m pc ls (st.map (q_rv P))))
    (hthr : ∀ (f pc : Nat) (i : Instr) (ls : Array Slot) (st : List Value) (S1 : QS) (H : Heap) (locs : List Loc) (c1 s1 : Nat), o = .inr f → q_code M pc = some i → q_thr M pc i st = some f → Sf = (S1.1 ++ [(99, 0, [])], S1.2.1 + 1, S1.2.2 + 6) → ls.size = qm_l M → q_W P D S1 s H → va_S (q_A P) s.heap H locs → c1 + c0 = S1.2.1 → s1 + s0 = S1.2.2 → W p l e R s m args below meth c H locs c1 s1 Q (F0 m pc ls (st.map (q_rv P))))
    (hprop : ∀ (f q : Nat) (ce : Cell) (pc : Nat) (ls : Array Slot) (rest : List Value) (H : Heap) (locs : List Loc) (c1 s1 : Nat), o = .inr f → f < 3 → qm_h M = [] → q_W P D Sf s H → va_S (q_A P) s.heap H locs → c1 + c0 = Sf.2.1 → s1 + s0 = Sf.2.2 → H[q]? = some ce → ce.vm = .none → s.vm.findClass (q_en f) = some ce.cls → vx_W p l e R s m args below meth c H locs c1 s1 Q (F0 m pc ls rest) q) :
    ∀ (n pc : Nat) (L : QL) (st : List Value) (S : QS) (ls : Array Slot) (H : Heap) (locs : List Loc) (cells slots : Nat), q_run call M xs n pc L st S = some (o, Sf) → lv_has ls (qm_l M) (q_rL P L) → q_W P D S s H → va_S (q_A P) s.heap H locs → cells + c0 = S.2.1 → slots + s0 = S.2.2 → W p l e R s m args below meth c H locs cells slots Q (F0 m pc ls (st.map (q_rv P))) := by
  intro n
  induction n with
  | zero => intro pc L st S ls H locs cells slots h; simp [q_run] at h
  | succ n ih =>
    intro pc L st S ls H locs cells slots h hl hW hS hc hs
    rw [q_run] at h
    split at h
    · cases h
    · rename_i i hcode
      split at h
      · rename_i pc' L' st' S' hst
        have hm1 := q_run_mono hcall _ _ _ _ _ _ _ h
        exact q_step_ok hM hac F ⟨by omega, by omega⟩ hcode hst hl hW hS hc hs (by omega) (by omega) fun ls1 H1 locs1 c1 s1 g1 g2 g3 g4 g5 => ih pc' L' st' S' ls1 H1 locs1 c1 s1 h g1 g2 g3 g4 g5
      · split at h
        · rename_i mi as rest hcl
          split at h
          · rename_i v S' hca
            obtain ⟨hmn, M', hT, hM', hMet⟩ := hcall _ _ _ _ _ hca
            have hm1 := q_run_mono hcall _ _ _ _ _ _ _ h
            refine q_call_ok hM F hR hcode hcl hT hM' hMet hl hW hS ⟨by omega, by omega⟩ (fun v9 H1 locs1 h1 h2 h3 => ?_) (fun f q ce H1 locs1 h1 => by cases h1)
            cases h1
            exact ih _ _ _ _ ls H1 locs1 _ _ h hl h2 h3 (by omega) (by omega)
          · rename_i f S' hca
            obtain ⟨hmn, M', hT, hM', hMet⟩ := hcall _ _ _ _ _ hca
            split at h
            · rename_i hh
              cases h
              exact q_call_ok hM F hR hcode hcl hT hM' hMet hl hW hS ⟨by omega, by omega⟩ (fun v9 H1 locs1 h1 => by cases h1) (fun f9 q ce H1 locs1 h1 h2 h3 h4 h5 h6 h7 => hprop f9 q ce pc ls _ H1 locs1 _ _ h1 h2 hh h3 h4 (by omega) (by omega) h5 h6 h7)
            · rename_i hh
              split at h
              · rename_i pc' L' hhd
                have hm1 := q_run_mono hcall _ _ _ _ _ _ _ h
                refine q_call_ok hM F hR hcode hcl hT hM' hMet hl hW hS ⟨by omega, by omega⟩ (fun v9 H1 locs1 h1 => by cases h1) (fun f9 q ce H1 locs1 h1 h2 h3 h4 h5 h6 h7 => ?_)
                cases h1
                exact q_hand_ok hM F (htab hh) hhd h2 hl h5 h6 h7 fun ls1 hl1 => ih pc' L' [] S' ls1 H1 locs1 _ _ h hl1 h3 h4 (by omega) (by omega)
              · cases h
          · cases h
        · split at h
          · rename_i v hr9
            cases h
            exact hret v pc i ls st H locs cells slots rfl hcode hr9 hW hS hc hs
          · obtain ⟨f, h1, h2⟩ := Option.map_eq_some_iff.mp h
            cases h2
            exact hthr f pc i ls st S H locs cells slots rfl hcode h1 rfl hl.1 hW hS hc hs
end QY
end
section
/-! SOUNDNESS of the pure interpreter, VII: every method of a good table keeps its contract. -/
section QV
theorem q_sl_len (P : (Nat → Nat) × Nat) (as : List Value) : (lg_sl (as.map (q_rv P))).length = (lg_sl as).length := by
  induction as with
  | nil => rfl
  | cons v t ih =>
    simp only [lg_sl, List.map_cons, List.flatMap_cons, List.length_append] at ih ⊢
    rw [ih, q_rv_cat]
    split <;> rfl
theorem q_args_rv (P : (Nat → Nat) × Nat) (as : List Value) : ∀ i : Nat, lv_args i (as.map (q_rv P)) = q_rL P (lv_args i as) := by
  induction as with
  | nil => intro i; rfl
  | cons v t ih =>
    intro i
    simp only [List.map_cons, lv_args, q_rL, q_rv_cat]
    congr 1
    exact ih _
section QB
variable {p : Program} {l : Launch} {e : Env} {R : Room} {s : State} {m : MethodId} {args : Array Value} {below : List Frame} {meth : Method} {c : Code} {H : Heap} {locs : List Loc} {cells slots mc ms : Nat} {Q : State → Prop} {pc : Nat} {ls : Array Slot} {P : (Nat → Nat) × Nat} {D : va_G} {S S' : QS} {xs : List Int32} {T : List QM} {TX : List (String × Nat × String)} {M : QM} {i : Instr} {st st' : List Value} {o : QO} {L L' : QL}
/-- the end of a method that returns -/
theorem q_ret_ok (hM : q_mok T TX M) (F : q_Fr P xs TX M p m c s args meth) {v : Option Value} (hcode : q_code M pc = some i) (h : q_ret M i st = some v) (hW : q_W P D S' s H) (hS : va_S (q_A P) s.heap H locs) :
    W p l e R s m args below meth c H locs cells slots (vx_MQ below (q_Qc P D (.inl v) S') (q_XC P D (.inl v) S') args s cells slots (q_A P)) (F0 m pc ls (st.map (q_rv P))) := by
  obtain ⟨F1, hlocks, hr, -, hV⟩ := F
  have hq : ∀ w : Option Value, w = v → ∀ t : State, t.heap = H → s.WarmedH t.vm → q_Qc P D (.inl v) S' args s (.returned (w.map (q_rv P))) t := fun w hw t ht hW9 => ⟨v, rfl, by rw [hw], hW.at ht hW9, hS.F ht⟩
  refine vx_ret ?_
  unfold q_ret at h
  split at h
  · split at h
    · rename_i hn
      cases h
      exact W.vret F1.1 F1.2.1 (hr.trans hn) (hq none rfl) hS.2.2 (q_decL hM hcode rfl) hlocks
    · cases h
  · split at h
    · rename_i x ty hn
      split at h
      · rename_i hnar
        cases h
        exact W.zret F1.1 F1.2.1 (hr.trans hn) hnar (hq (some (.int _)) rfl) hS.2.2 (q_decL hM hcode rfl) hlocks
      · cases h
    · cases h
  · split at h
    · rename_i x hn
      cases h
      exact W.lret F1.1 F1.2.1 (hr.trans hn) (hq (some (.long _)) rfl) hS.2.2 (q_decL hM hcode rfl) hlocks
    · cases h
  · have href : ∀ w : Value, q_tag w = 2 → (q_rv P w = .null ∨ ∃ a, q_rv P w = .ref a) := by
      intro w hw
      rcases q_tag2 hw with rfl | ⟨x, rfl⟩
      · exact Or.inl rfl
      · exact Or.inr ⟨_, rfl⟩
    split at h
    · rename_i w nm hn
      split at h
      · rename_i ht
        cases h
        exact W.aret F1.1 F1.2.1 (hr.trans hn) (Or.inl ⟨_, rfl⟩) (href _ ht) (hq (some _) rfl) hS.2.2 (q_decL hM hcode rfl) hlocks
      · cases h
    · rename_i w nm hn
      split at h
      · rename_i ht
        cases h
        exact W.aret F1.1 F1.2.1 (hr.trans hn) (Or.inr ⟨_, rfl⟩) (href _ ht) (hq (some _) rfl) hS.2.2 (q_decL hM hcode rfl) hlocks
      · cases h
    · cases h
  · cases h
/-- 'throw new E(text)' -/
theorem q_thr_ok (hl0 : l.stackTraces = false) (hM : q_mok T TX M) (F : q_Fr P xs TX M p m c s args meth) (hR : 9 ≤ R.frames ∧ 100 ≤ R.locals) {f : Nat} (hcode : q_code M pc = some i) (h : q_thr M pc i st = some f) (hnoh : qm_h M = [] → ∀ x ∈ c.exceptionTable.toList, False) (hsz : ls.size = qm_l M) (hW : q_W P D S s H) (hS : va_S (q_A P) s.heap H locs) (hc : cells + 1 ≤ R.cells) (hs : slots + 6 ≤ R.slots) {n9 : Nat × Nat} :
    W p l e R s m args below meth c H locs cells slots (vx_MQ below (q_Qc P D (.inr f) (S.1 ++ [(99, 0, [])], n9)) (q_XC P D (.inr f) (S.1 ++ [(99, 0, [])], n9)) args s (cells + 1) (slots + 6) (q_A P)) (F0 m pc ls (st.map (q_rv P))) := by
  obtain ⟨F1, hlocks, hr, -, hV⟩ := F
  have hts := F1.2.2.2.2
  have hK := hM.2.2.2.2.2.2.1
  unfold q_thr at h
  split at h
  · rename_i x
    split at h
    · rename_i e9 ic z9 hlk
      split at h
      · rename_i hcond
        obtain ⟨hsum, hh, hf, hc3⟩ := hcond
        obtain ⟨-, t1, t2, t3, t4, t5, t6, t7⟩ := hK _ (q_lk_mem hlk)
        have hat : ∀ w ∈ vx_atS (qm_o M) ic (q_en e9) q_nms, w.before args s = true := vx_hat (B := [.castable (q_en e9) (q_en e9)]) (fun w hw => hts w (t3 w hw)) (fun w hw => by rw [t4 w hw]; exact List.mem_cons_self) (fun w hw => by
          rw [List.mem_singleton.mp hw]
          exact va_Nw.use rfl (hV.2.2.2.2.2.2.1 e9 hf))
        have hx : ∀ t : State, s.vm.Alike t.vm → t.heap.size = H.size + 1 → (∀ q : Nat, q < H.size → t.heap[q]? = H[q]?) → q_XC P D (.inr e9) (S.1 ++ [(99, 0, [])], n9) (q_en e9) s t := by
          intro t hal hz ho
          refine ⟨e9, rfl, hf, rfl, (hW.push hz ho ?_).moved hal, ?_, fun q h1 h2 => ?_⟩
          · unfold q_C
            rw [if_neg (by decide)]
            exact Or.inl rfl
          · rw [hz]; exact Nat.le_trans hS.1 (Nat.le_succ _)
          · rw [ho q (Nat.lt_of_lt_of_le h1 hS.1)]
            exact hS.2.1 q h1 h2
        have hsum2 : ((st.map (q_rv P)).map fun v => v.category).sum ≤ 8 := by rw [q_sum_cat]; exact hsum
        have hlen : q_nms.length = 2 := rfl
        split at h
        · rename_i z hc4
          split at h
          · rename_i hcc
            obtain ⟨hz, hc6, hc9⟩ := hcc
            cases h
            obtain ⟨tx, htx⟩ := hK _ (q_lk_mem hz)
            obtain ⟨sa, hsa⟩ := hV.2.2.2.2.2.1 _ htx
            exact q_throwS (names := q_nms) F1.1 F1.2.1 hl0 F1.2.2.2.1 t5 t6 (hts _ t1) (hts _ t2) hsa hat t7 hV.2.2.1.1 hV.2.2.1.2 hS (hsz.trans F1.2.2.1.symm) (q_decL hM hcode rfl) (q_decL hM hc3 rfl) (q_decL hM hc4 rfl) (q_decL hM hc6 rfl) (q_decL hM hc9 rfl) (fun x hx => (hnoh hh x hx).elim) (by rw [hlen]; omega) (by rw [hlen]; omega) hc hs hlocks hx hS.2.2 (Nat.le_refl _) (Nat.le_refl _)
          · cases h
        · rename_i z hc4
          split at h
          · rename_i hcc
            obtain ⟨hz, hc6, hc9⟩ := hcc
            cases h
            obtain ⟨tx, htx⟩ := hK _ (q_lk_mem hz)
            obtain ⟨sa, hsa⟩ := hV.2.2.2.2.2.1 _ htx
            exact q_throwSW (names := q_nms) F1.1 F1.2.1 hl0 F1.2.2.2.1 t5 t6 (hts _ t1) (hts _ t2) hsa hat t7 hV.2.2.1.1 hV.2.2.1.2 hS (hsz.trans F1.2.2.1.symm) (q_decL hM hcode rfl) (q_decL hM hc3 rfl) (q_decL hM hc4 rfl) (q_decL hM hc6 rfl) (q_decL hM hc9 rfl) (fun x hx => (hnoh hh x hx).elim) (by rw [hlen]; omega) (by rw [hlen]; omega) hc hs hlocks hx hS.2.2 (Nat.le_refl _) (Nat.le_refl _)
          · cases h
        · cases h
      · cases h
    · cases h
  · cases h
end QB
set_option maxHeartbeats 4000000 in
/-- THE SOUNDNESS: what the pure interpreter comes to, the machine comes to -/
theorem q_pc_ok (l : Launch) (hl0 : l.stackTraces = false) (P : (Nat → Nat) × Nat) (D : va_G) (xs : List Int32) (TX : List (String × Nat × String)) (T : List QM) (hT : ∀ (mi : Nat) (M : QM), T[mi]? = some M → q_mok T TX M) (hac : Cond.arrayClass .int ∈ wsL_law ∧ Cond.arrayClass .long ∈ wsL_law ∧ Cond.arrayClass .boolean ∈ wsL_law) (n : Nat) : ∀ d : Nat, q_CallOK l P D xs TX T d (q_pc T xs n d) := by
  intro d
  induction d with
  | zero => intro mi as S o S' h; simp [q_pc] at h
  | succ d ih =>
    intro mi as S o Sf h
    rw [q_pc] at h
    split at h
    · cases h
    · rename_i M hTM
      split at h
      · rename_i hlen
        have hmn := q_run_mono ih _ _ _ _ _ _ _ h
        refine ⟨hmn, M, hTM, hT _ _ hTM, ?_⟩
        have hM := hT _ _ hTM
        have main : ∀ (p : Program) (e : Env) (s : State) (m : MethodId) (args : Array Value) (below : List Frame) (meth : Method) (c : Code) (s₁ : State), BodyLoose p l (qm_y M) (headSpec (q_cw M :: wsL_law) ({ frames := (d + 1) + 8, cells := Sf.2.1 - S.2.1, slots := Sf.2.2 - S.2.2, locals := 60 * (d + 1) + 200 })) (qm_b M) (qm_l M) (qm_r M) e s m args below meth c s₁ → c.maxLocals = qm_l M → (qm_h M = [] → ∀ x ∈ c.exceptionTable.toList, False) → (qm_h M ≠ [] → c.exceptionTable.toList = tableOf (qm_h M)) → q_Pc P D xs TX as S args s →
            W p l e ({ frames := (d + 1) + 8, cells := Sf.2.1 - S.2.1, slots := Sf.2.2 - S.2.2, locals := 60 * (d + 1) + 200 }) s m args below meth c s.heap [] 0 0 (vx_MQ below (q_Qc P D o Sf) (q_XC P D o Sf) args s (Sf.2.1 - S.2.1) (Sf.2.2 - S.2.2) (q_A P)) (entryFrame m args (qm_l M)) := by
          intro p e s m args below meth c s₁ B hml hnoh htab hv
          obtain ⟨rfl, hWd, hV⟩ := hv
          have hts : ∀ w ∈ q_cw M :: wsL_law, w.before ((as.map (q_rv P)).toArray) s = true := atoms_spec (ws := q_cw M :: wsL_law) B.pre
          have hown : s.vm.findClass (qm_o M) = some m.cls := by rw [hM.2.1]; exact findClass_of_methodNamed B.named
          have F : q_Fr P xs TX M p m c s ((as.map (q_rv P)).toArray) meth := ⟨⟨B.exec, B.bytes, hml, hown, fun w hw => hts w (List.mem_cons_of_mem _ hw)⟩, B.notSynchronized, B.returns, fun hi => by rw [(name_of_methodNamed B.named B.method).1]; exact hM.2.2.1 hi, hV⟩
          rw [lg_entry_eq]
          have hl := lv_entry (as.map (q_rv P)) (n := qm_l M) (by rw [q_sl_len]; exact hlen)
          rw [q_args_rv] at hl
          refine q_run_ok (c0 := S.2.1) (s0 := S.2.2) hM hac F (d := d) ⟨by show d + 9 ≤ d + 1 + 8; omega, by show 60 * d + 260 ≤ 60 * (d + 1) + 200; omega⟩ ih (by show Sf.2.1 ≤ Sf.2.1 - S.2.1 + S.2.1; omega) (by show Sf.2.2 ≤ Sf.2.2 - S.2.2 + S.2.2; omega) htab ?_ ?_ ?_ n 0 _ [] S _ s.heap [] 0 0 h hl hWd va_S.rf (by omega) (by omega)
          · intro v pc i ls st H locs c1 s1 ho hcode hr hW1 hS1 hc1 hs1
            subst ho
            obtain rfl : c1 = Sf.2.1 - S.2.1 := by omega
            obtain rfl : s1 = Sf.2.2 - S.2.2 := by omega
            exact q_ret_ok hM F hcode hr hW1 hS1
          · intro f pc i ls st S1 H locs c1 s1 ho hcode hr hSf hsz hW1 hS1 hc1 hs1
            subst ho
            have e1 : Sf.2.1 - S.2.1 = c1 + 1 := by rw [hSf]; show S1.2.1 + 1 - S.2.1 = c1 + 1; omega
            have e2 : Sf.2.2 - S.2.2 = s1 + 6 := by rw [hSf]; show S1.2.2 + 6 - S.2.2 = s1 + 6; omega
            have k9 := q_thr_ok (l := l) (e := e) (below := below) (R := { frames := (d + 1) + 8, cells := Sf.2.1 - S.2.1, slots := Sf.2.2 - S.2.2, locals := 60 * (d + 1) + 200 }) (n9 := (S1.2.1 + 1, S1.2.2 + 6)) hl0 hM F ⟨by show 9 ≤ d + 1 + 8; omega, by show 100 ≤ 60 * (d + 1) + 200; omega⟩ hcode hr hnoh hsz hW1 hS1 (by show c1 + 1 ≤ Sf.2.1 - S.2.1; omega) (by show s1 + 6 ≤ Sf.2.2 - S.2.2; omega)
            rw [← e1, ← e2] at k9
            rw [hSf] at k9 ⊢
            exact k9
          · intro f q ce pc ls rest H locs c1 s1 ho hf hh hW1 hS1 hc1 hs1 hce hcv hcl
            subst ho
            exact vx_out (fun x hx => (hnoh hh x hx).elim) B.notSynchronized hce hcv hcl (fun t ht hal => ⟨f, rfl, hf, rfl, by rw [ht]; exact hW1.moved hal, hS1.F ht⟩) hS1.2.2 (by omega) (by omega)
        unfold q_Met
        by_cases hh : qm_h M = []
        · have hcw : q_cw M = Cond.code (qm_y M) (qm_b M) (qm_l M) (qm_r M) := if_pos hh
          rw [hcw] at main ⊢
          exact vx_ofW hM.1 rfl fun p e s m args below meth c s₁ B hml ht hv => main p e s m args below meth c s₁ B hml (fun _ => ht) (fun z => (z hh).elim) hv
        · have hcw : q_cw M = Cond.codeWith (qm_y M) (qm_b M) (qm_l M) (qm_r M) (qm_h M) := if_neg hh
          rw [hcw] at main ⊢
          exact vx_ofWH hM.1 rfl fun p e s m args below meth c s₁ B hml hv => main p e s m args below meth c s₁ B hml (fun z => (hh z).elim) (fun _ => vx_table (x := qm_y M) B (atoms_spec (ws := Cond.codeWith (qm_y M) (qm_b M) (qm_l M) (qm_r M) (qm_h M) :: wsL_law) B.pre _ List.mem_cons_self)) hv
      · cases h
end QV
end
