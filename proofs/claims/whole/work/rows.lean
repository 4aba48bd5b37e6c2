section
-- ===== PART A: goes FIRST, ahead of the names: the tables' words, and 'selects' of the private methods out of them =====
/-- a private method of a class that the tables say can be made, by its rows of tables_1 -/
def lw_okq (q : MethodName × Nat) : Prop := (q.1.cls ≠ "java/lang/invoke/MethodHandle" ∧ q.1.cls ≠ "java/lang/invoke/VarHandle") ∧ Cond.instantiable q.1.cls q.2 ∈ tables_1 ∧ Cond.privateMethod q.1 ∈ tables_1 ∧ Cond.instanceMethod q.1 ∈ tables_1
theorem lw_p0 : lw_okq (⟨"ChoreAssignment$Solver", "allColumns", "()I"⟩, 5) := ⟨⟨by decide +kernel, by decide +kernel⟩, List.mem_of_getElem? (i := 49) (by decide +kernel), List.mem_of_getElem? (i := 197) (by decide +kernel), List.mem_of_getElem? (i := 198) (by decide +kernel)⟩
theorem lw_p1 : lw_okq (⟨"ChoreAssignment$Solver", "findLeast", "(I)V"⟩, 5) := ⟨⟨by decide +kernel, by decide +kernel⟩, List.mem_of_getElem? (i := 49) (by decide +kernel), List.mem_of_getElem? (i := 201) (by decide +kernel), List.mem_of_getElem? (i := 202) (by decide +kernel)⟩
theorem lw_p2 : lw_okq (⟨"ChoreAssignment", "findFirstOptimal", "()V"⟩, 7) := ⟨⟨by decide +kernel, by decide +kernel⟩, List.mem_of_getElem? (i := 16) (by decide +kernel), List.mem_of_getElem? (i := 231) (by decide +kernel), List.mem_of_getElem? (i := 232) (by decide +kernel)⟩
theorem lw_p3 : lw_okq (⟨"ChoreAssignment$Solver", "isOnLeast", "(III)Z"⟩, 5) := ⟨⟨by decide +kernel, by decide +kernel⟩, List.mem_of_getElem? (i := 49) (by decide +kernel), List.mem_of_getElem? (i := 239) (by decide +kernel), List.mem_of_getElem? (i := 240) (by decide +kernel)⟩
theorem lw_p4 : lw_okq (⟨"ChoreAssignment", "leastWithCost", "(III)I"⟩, 7) := ⟨⟨by decide +kernel, by decide +kernel⟩, List.mem_of_getElem? (i := 16) (by decide +kernel), List.mem_of_getElem? (i := 244) (by decide +kernel), List.mem_of_getElem? (i := 245) (by decide +kernel)⟩
theorem lw_p5 : lw_okq (⟨"ChoreAssignment", "findPotentials", "()V"⟩, 7) := ⟨⟨by decide +kernel, by decide +kernel⟩, List.mem_of_getElem? (i := 16) (by decide +kernel), List.mem_of_getElem? (i := 303) (by decide +kernel), List.mem_of_getElem? (i := 304) (by decide +kernel)⟩
theorem lw_p6 : lw_okq (⟨"ChoreAssignment", "requireCell", "(II)V"⟩, 7) := ⟨⟨by decide +kernel, by decide +kernel⟩, List.mem_of_getElem? (i := 16) (by decide +kernel), List.mem_of_getElem? (i := 311) (by decide +kernel), List.mem_of_getElem? (i := 312) (by decide +kernel)⟩
theorem lw_p7 : lw_okq (⟨"ChoreAssignment", "requireRow", "(I)V"⟩, 7) := ⟨⟨by decide +kernel, by decide +kernel⟩, List.mem_of_getElem? (i := 16) (by decide +kernel), List.mem_of_getElem? (i := 315) (by decide +kernel), List.mem_of_getElem? (i := 316) (by decide +kernel)⟩
theorem lw_p8 : lw_okq (⟨"java/lang/Throwable", "fillInStackTrace", "(I)Ljava/lang/Throwable;"⟩, 6) := ⟨⟨by decide +kernel, by decide +kernel⟩, List.mem_of_getElem? (i := 358) (by decide +kernel), List.mem_of_getElem? (i := 356) (by decide +kernel), List.mem_of_getElem? (i := 357) (by decide +kernel)⟩
theorem lw_p9 : lw_okq (⟨"ChoreAssignment", "requireColumn", "(I)V"⟩, 7) := ⟨⟨by decide +kernel, by decide +kernel⟩, List.mem_of_getElem? (i := 16) (by decide +kernel), List.mem_of_getElem? (i := 383) (by decide +kernel), List.mem_of_getElem? (i := 384) (by decide +kernel)⟩
theorem lw_p10 : lw_okq (⟨"ChoreAssignment", "isColumn", "(I)Z"⟩, 7) := ⟨⟨by decide +kernel, by decide +kernel⟩, List.mem_of_getElem? (i := 16) (by decide +kernel), List.mem_of_getElem? (i := 387) (by decide +kernel), List.mem_of_getElem? (i := 388) (by decide +kernel)⟩
theorem lw_p11 : lw_okq (⟨"ChoreAssignment", "smallestRest", "(I)I"⟩, 7) := ⟨⟨by decide +kernel, by decide +kernel⟩, List.mem_of_getElem? (i := 16) (by decide +kernel), List.mem_of_getElem? (i := 391) (by decide +kernel), List.mem_of_getElem? (i := 392) (by decide +kernel)⟩
theorem lw_p12 : lw_okq (⟨"ChoreAssignment", "potentialsAddUp", "()Z"⟩, 7) := ⟨⟨by decide +kernel, by decide +kernel⟩, List.mem_of_getElem? (i := 16) (by decide +kernel), List.mem_of_getElem? (i := 395) (by decide +kernel), List.mem_of_getElem? (i := 396) (by decide +kernel)⟩
theorem lw_p13 : lw_okq (⟨"ChoreAssignment", "reducedCostsHold", "()Z"⟩, 7) := ⟨⟨by decide +kernel, by decide +kernel⟩, List.mem_of_getElem? (i := 16) (by decide +kernel), List.mem_of_getElem? (i := 399) (by decide +kernel), List.mem_of_getElem? (i := 400) (by decide +kernel)⟩
theorem lw_p14 : lw_okq (⟨"ChoreAssignment", "reducedBy", "(II)I"⟩, 7) := ⟨⟨by decide +kernel, by decide +kernel⟩, List.mem_of_getElem? (i := 16) (by decide +kernel), List.mem_of_getElem? (i := 403) (by decide +kernel), List.mem_of_getElem? (i := 404) (by decide +kernel)⟩
theorem lw_p15 : lw_okq (⟨"ChoreAssignment", "cellSplitHolds", "()Z"⟩, 7) := ⟨⟨by decide +kernel, by decide +kernel⟩, List.mem_of_getElem? (i := 16) (by decide +kernel), List.mem_of_getElem? (i := 407) (by decide +kernel), List.mem_of_getElem? (i := 408) (by decide +kernel)⟩
def lw_privs_1 : List (MethodName × Nat) := [(⟨"ChoreAssignment$Solver", "allColumns", "()I"⟩, 5), (⟨"ChoreAssignment$Solver", "findLeast", "(I)V"⟩, 5), (⟨"ChoreAssignment", "findFirstOptimal", "()V"⟩, 7), (⟨"ChoreAssignment$Solver", "isOnLeast", "(III)Z"⟩, 5), (⟨"ChoreAssignment", "leastWithCost", "(III)I"⟩, 7), (⟨"ChoreAssignment", "findPotentials", "()V"⟩, 7), (⟨"ChoreAssignment", "requireCell", "(II)V"⟩, 7), (⟨"ChoreAssignment", "requireRow", "(I)V"⟩, 7), (⟨"java/lang/Throwable", "fillInStackTrace", "(I)Ljava/lang/Throwable;"⟩, 6), (⟨"ChoreAssignment", "requireColumn", "(I)V"⟩, 7), (⟨"ChoreAssignment", "isColumn", "(I)Z"⟩, 7), (⟨"ChoreAssignment", "smallestRest", "(I)I"⟩, 7), (⟨"ChoreAssignment", "potentialsAddUp", "()Z"⟩, 7), (⟨"ChoreAssignment", "reducedCostsHold", "()Z"⟩, 7), (⟨"ChoreAssignment", "reducedBy", "(II)I"⟩, 7), (⟨"ChoreAssignment", "cellSplitHolds", "()Z"⟩, 7)]
theorem lw_r1 : ∀ q ∈ lw_privs_1, lw_okq q := List.forall_mem_cons.mpr ⟨lw_p0, List.forall_mem_cons.mpr ⟨lw_p1, List.forall_mem_cons.mpr ⟨lw_p2, List.forall_mem_cons.mpr ⟨lw_p3, List.forall_mem_cons.mpr ⟨lw_p4, List.forall_mem_cons.mpr ⟨lw_p5, List.forall_mem_cons.mpr ⟨lw_p6, List.forall_mem_cons.mpr ⟨lw_p7, List.forall_mem_cons.mpr ⟨lw_p8, List.forall_mem_cons.mpr ⟨lw_p9, List.forall_mem_cons.mpr ⟨lw_p10, List.forall_mem_cons.mpr ⟨lw_p11, List.forall_mem_cons.mpr ⟨lw_p12, List.forall_mem_cons.mpr ⟨lw_p13, List.forall_mem_cons.mpr ⟨lw_p14, List.forall_mem_cons.mpr ⟨lw_p15, fun _ h => absurd h List.not_mem_nil⟩⟩⟩⟩⟩⟩⟩⟩⟩⟩⟩⟩⟩⟩⟩⟩
theorem lw_p16 : lw_okq (⟨"ChoreAssignment", "bottleneckHolds", "()Z"⟩, 7) := ⟨⟨by decide +kernel, by decide +kernel⟩, List.mem_of_getElem? (i := 16) (by decide +kernel), List.mem_of_getElem? (i := 415) (by decide +kernel), List.mem_of_getElem? (i := 416) (by decide +kernel)⟩
theorem lw_p17 : lw_okq (⟨"ChoreAssignment", "requireRealCell", "(II)V"⟩, 7) := ⟨⟨by decide +kernel, by decide +kernel⟩, List.mem_of_getElem? (i := 16) (by decide +kernel), List.mem_of_getElem? (i := 459) (by decide +kernel), List.mem_of_getElem? (i := 460) (by decide +kernel)⟩
theorem lw_p18 : lw_okq (⟨"ChoreAssignment", "requireRealColumn", "(I)V"⟩, 7) := ⟨⟨by decide +kernel, by decide +kernel⟩, List.mem_of_getElem? (i := 16) (by decide +kernel), List.mem_of_getElem? (i := 463) (by decide +kernel), List.mem_of_getElem? (i := 464) (by decide +kernel)⟩
theorem lw_p19 : lw_okq (⟨"ChoreAssignment", "packedBound", "()J"⟩, 7) := ⟨⟨by decide +kernel, by decide +kernel⟩, List.mem_of_getElem? (i := 16) (by decide +kernel), List.mem_of_getElem? (i := 479) (by decide +kernel), List.mem_of_getElem? (i := 480) (by decide +kernel)⟩
theorem lw_p20 : lw_okq (⟨"ChoreAssignment", "requireAddend", "(I)V"⟩, 7) := ⟨⟨by decide +kernel, by decide +kernel⟩, List.mem_of_getElem? (i := 16) (by decide +kernel), List.mem_of_getElem? (i := 517) (by decide +kernel), List.mem_of_getElem? (i := 518) (by decide +kernel)⟩
theorem lw_p21 : lw_okq (⟨"ChoreAssignment", "requireNoDummyColumn", "()V"⟩, 7) := ⟨⟨by decide +kernel, by decide +kernel⟩, List.mem_of_getElem? (i := 16) (by decide +kernel), List.mem_of_getElem? (i := 521) (by decide +kernel), List.mem_of_getElem? (i := 522) (by decide +kernel)⟩
theorem lw_p22 : lw_okq (⟨"ChoreAssignment", "requireAddable", "(III)V"⟩, 7) := ⟨⟨by decide +kernel, by decide +kernel⟩, List.mem_of_getElem? (i := 16) (by decide +kernel), List.mem_of_getElem? (i := 540) (by decide +kernel), List.mem_of_getElem? (i := 541) (by decide +kernel)⟩
theorem lw_p23 : lw_okq (⟨"ChoreAssignmentModel", "isWrong", "(I)Z"⟩, 24) := ⟨⟨by decide +kernel, by decide +kernel⟩, List.mem_of_getElem? (i := 719) (by decide +kernel), List.mem_of_getElem? (i := 810) (by decide +kernel), List.mem_of_getElem? (i := 811) (by decide +kernel)⟩
theorem lw_p24 : lw_okq (⟨"ChoreAssignmentModel", "isRow", "(I)Z"⟩, 24) := ⟨⟨by decide +kernel, by decide +kernel⟩, List.mem_of_getElem? (i := 719) (by decide +kernel), List.mem_of_getElem? (i := 818) (by decide +kernel), List.mem_of_getElem? (i := 819) (by decide +kernel)⟩
theorem lw_p25 : lw_okq (⟨"ChoreAssignmentModel", "isReal", "(I)Z"⟩, 24) := ⟨⟨by decide +kernel, by decide +kernel⟩, List.mem_of_getElem? (i := 719) (by decide +kernel), List.mem_of_getElem? (i := 822) (by decide +kernel), List.mem_of_getElem? (i := 823) (by decide +kernel)⟩
theorem lw_p26 : lw_okq (⟨"ChoreAssignmentModel", "forbiddenMany", "()I"⟩, 24) := ⟨⟨by decide +kernel, by decide +kernel⟩, List.mem_of_getElem? (i := 719) (by decide +kernel), List.mem_of_getElem? (i := 841) (by decide +kernel), List.mem_of_getElem? (i := 842) (by decide +kernel)⟩
theorem lw_p27 : lw_okq (⟨"ChoreAssignmentModel", "cost", "(II)I"⟩, 24) := ⟨⟨by decide +kernel, by decide +kernel⟩, List.mem_of_getElem? (i := 719) (by decide +kernel), List.mem_of_getElem? (i := 849) (by decide +kernel), List.mem_of_getElem? (i := 850) (by decide +kernel)⟩
theorem lw_p28 : lw_okq (⟨"ChoreAssignmentModel", "takes", "(III)Z"⟩, 24) := ⟨⟨by decide +kernel, by decide +kernel⟩, List.mem_of_getElem? (i := 719) (by decide +kernel), List.mem_of_getElem? (i := 858) (by decide +kernel), List.mem_of_getElem? (i := 859) (by decide +kernel)⟩
theorem lw_p29 : lw_okq (⟨"ChoreAssignmentModel", "rowSum", "(I)I"⟩, 24) := ⟨⟨by decide +kernel, by decide +kernel⟩, List.mem_of_getElem? (i := 719) (by decide +kernel), List.mem_of_getElem? (i := 862) (by decide +kernel), List.mem_of_getElem? (i := 863) (by decide +kernel)⟩
theorem lw_p30 : lw_okq (⟨"ChoreAssignmentModel", "columnSum", "(I)I"⟩, 24) := ⟨⟨by decide +kernel, by decide +kernel⟩, List.mem_of_getElem? (i := 719) (by decide +kernel), List.mem_of_getElem? (i := 870) (by decide +kernel), List.mem_of_getElem? (i := 871) (by decide +kernel)⟩
theorem lw_p31 : lw_okq (⟨"ChoreAssignmentModel", "exchangeCells", "(II)V"⟩, 24) := ⟨⟨by decide +kernel, by decide +kernel⟩, List.mem_of_getElem? (i := 719) (by decide +kernel), List.mem_of_getElem? (i := 878) (by decide +kernel), List.mem_of_getElem? (i := 879) (by decide +kernel)⟩
def lw_privs_2 : List (MethodName × Nat) := [(⟨"ChoreAssignment", "bottleneckHolds", "()Z"⟩, 7), (⟨"ChoreAssignment", "requireRealCell", "(II)V"⟩, 7), (⟨"ChoreAssignment", "requireRealColumn", "(I)V"⟩, 7), (⟨"ChoreAssignment", "packedBound", "()J"⟩, 7), (⟨"ChoreAssignment", "requireAddend", "(I)V"⟩, 7), (⟨"ChoreAssignment", "requireNoDummyColumn", "()V"⟩, 7), (⟨"ChoreAssignment", "requireAddable", "(III)V"⟩, 7), (⟨"ChoreAssignmentModel", "isWrong", "(I)Z"⟩, 24), (⟨"ChoreAssignmentModel", "isRow", "(I)Z"⟩, 24), (⟨"ChoreAssignmentModel", "isReal", "(I)Z"⟩, 24), (⟨"ChoreAssignmentModel", "forbiddenMany", "()I"⟩, 24), (⟨"ChoreAssignmentModel", "cost", "(II)I"⟩, 24), (⟨"ChoreAssignmentModel", "takes", "(III)Z"⟩, 24), (⟨"ChoreAssignmentModel", "rowSum", "(I)I"⟩, 24), (⟨"ChoreAssignmentModel", "columnSum", "(I)I"⟩, 24), (⟨"ChoreAssignmentModel", "exchangeCells", "(II)V"⟩, 24)]
theorem lw_r2 : ∀ q ∈ lw_privs_2, lw_okq q := List.forall_mem_cons.mpr ⟨lw_p16, List.forall_mem_cons.mpr ⟨lw_p17, List.forall_mem_cons.mpr ⟨lw_p18, List.forall_mem_cons.mpr ⟨lw_p19, List.forall_mem_cons.mpr ⟨lw_p20, List.forall_mem_cons.mpr ⟨lw_p21, List.forall_mem_cons.mpr ⟨lw_p22, List.forall_mem_cons.mpr ⟨lw_p23, List.forall_mem_cons.mpr ⟨lw_p24, List.forall_mem_cons.mpr ⟨lw_p25, List.forall_mem_cons.mpr ⟨lw_p26, List.forall_mem_cons.mpr ⟨lw_p27, List.forall_mem_cons.mpr ⟨lw_p28, List.forall_mem_cons.mpr ⟨lw_p29, List.forall_mem_cons.mpr ⟨lw_p30, List.forall_mem_cons.mpr ⟨lw_p31, fun _ h => absurd h List.not_mem_nil⟩⟩⟩⟩⟩⟩⟩⟩⟩⟩⟩⟩⟩⟩⟩⟩
theorem lw_p32 : lw_okq (⟨"ChoreAssignmentModel", "total", "()I"⟩, 24) := ⟨⟨by decide +kernel, by decide +kernel⟩, List.mem_of_getElem? (i := 719) (by decide +kernel), List.mem_of_getElem? (i := 894) (by decide +kernel), List.mem_of_getElem? (i := 895) (by decide +kernel)⟩
theorem lw_p33 : lw_okq (⟨"ChoreAssignmentModel", "savedCost", "(II)I"⟩, 24) := ⟨⟨by decide +kernel, by decide +kernel⟩, List.mem_of_getElem? (i := 719) (by decide +kernel), List.mem_of_getElem? (i := 906) (by decide +kernel), List.mem_of_getElem? (i := 907) (by decide +kernel)⟩
theorem lw_p34 : lw_okq (⟨"ChoreAssignmentModel", "look", "()V"⟩, 24) := ⟨⟨by decide +kernel, by decide +kernel⟩, List.mem_of_getElem? (i := 719) (by decide +kernel), List.mem_of_getElem? (i := 930) (by decide +kernel), List.mem_of_getElem? (i := 931) (by decide +kernel)⟩
theorem lw_p35 : lw_okq (⟨"ChoreAssignmentModel", "take", "()V"⟩, 24) := ⟨⟨by decide +kernel, by decide +kernel⟩, List.mem_of_getElem? (i := 719) (by decide +kernel), List.mem_of_getElem? (i := 934) (by decide +kernel), List.mem_of_getElem? (i := 935) (by decide +kernel)⟩
theorem lw_p36 : lw_okq (⟨"ChoreAssignmentModel", "look", "(I)V"⟩, 24) := ⟨⟨by decide +kernel, by decide +kernel⟩, List.mem_of_getElem? (i := 719) (by decide +kernel), List.mem_of_getElem? (i := 938) (by decide +kernel), List.mem_of_getElem? (i := 939) (by decide +kernel)⟩
theorem lw_p37 : lw_okq (⟨"ChoreAssignmentModel", "begin", "()V"⟩, 24) := ⟨⟨by decide +kernel, by decide +kernel⟩, List.mem_of_getElem? (i := 719) (by decide +kernel), List.mem_of_getElem? (i := 943) (by decide +kernel), List.mem_of_getElem? (i := 944) (by decide +kernel)⟩
theorem lw_p38 : lw_okq (⟨"ChoreAssignmentModel", "sum", "(I)I"⟩, 24) := ⟨⟨by decide +kernel, by decide +kernel⟩, List.mem_of_getElem? (i := 719) (by decide +kernel), List.mem_of_getElem? (i := 950) (by decide +kernel), List.mem_of_getElem? (i := 951) (by decide +kernel)⟩
theorem lw_p39 : lw_okq (⟨"ChoreAssignmentModel", "see", "(II)V"⟩, 24) := ⟨⟨by decide +kernel, by decide +kernel⟩, List.mem_of_getElem? (i := 719) (by decide +kernel), List.mem_of_getElem? (i := 954) (by decide +kernel), List.mem_of_getElem? (i := 955) (by decide +kernel)⟩
theorem lw_p40 : lw_okq (⟨"ChoreAssignmentModel", "goOn", "(I)V"⟩, 24) := ⟨⟨by decide +kernel, by decide +kernel⟩, List.mem_of_getElem? (i := 719) (by decide +kernel), List.mem_of_getElem? (i := 958) (by decide +kernel), List.mem_of_getElem? (i := 959) (by decide +kernel)⟩
theorem lw_p41 : lw_okq (⟨"ChoreAssignmentModel", "exchange", "(II)V"⟩, 24) := ⟨⟨by decide +kernel, by decide +kernel⟩, List.mem_of_getElem? (i := 719) (by decide +kernel), List.mem_of_getElem? (i := 962) (by decide +kernel), List.mem_of_getElem? (i := 963) (by decide +kernel)⟩
theorem lw_p42 : lw_okq (⟨"ChoreAssignmentModel", "findPotentials", "()V"⟩, 24) := ⟨⟨by decide +kernel, by decide +kernel⟩, List.mem_of_getElem? (i := 719) (by decide +kernel), List.mem_of_getElem? (i := 982) (by decide +kernel), List.mem_of_getElem? (i := 983) (by decide +kernel)⟩
theorem lw_p43 : lw_okq (⟨"ChoreAssignmentModel", "reduced", "(II)I"⟩, 24) := ⟨⟨by decide +kernel, by decide +kernel⟩, List.mem_of_getElem? (i := 719) (by decide +kernel), List.mem_of_getElem? (i := 994) (by decide +kernel), List.mem_of_getElem? (i := 995) (by decide +kernel)⟩
theorem lw_p44 : lw_okq (⟨"ChoreAssignmentModel", "without", "(II)I"⟩, 24) := ⟨⟨by decide +kernel, by decide +kernel⟩, List.mem_of_getElem? (i := 719) (by decide +kernel), List.mem_of_getElem? (i := 1006) (by decide +kernel), List.mem_of_getElem? (i := 1007) (by decide +kernel)⟩
def lw_privs_3 : List (MethodName × Nat) := [(⟨"ChoreAssignmentModel", "total", "()I"⟩, 24), (⟨"ChoreAssignmentModel", "savedCost", "(II)I"⟩, 24), (⟨"ChoreAssignmentModel", "look", "()V"⟩, 24), (⟨"ChoreAssignmentModel", "take", "()V"⟩, 24), (⟨"ChoreAssignmentModel", "look", "(I)V"⟩, 24), (⟨"ChoreAssignmentModel", "begin", "()V"⟩, 24), (⟨"ChoreAssignmentModel", "sum", "(I)I"⟩, 24), (⟨"ChoreAssignmentModel", "see", "(II)V"⟩, 24), (⟨"ChoreAssignmentModel", "goOn", "(I)V"⟩, 24), (⟨"ChoreAssignmentModel", "exchange", "(II)V"⟩, 24), (⟨"ChoreAssignmentModel", "findPotentials", "()V"⟩, 24), (⟨"ChoreAssignmentModel", "reduced", "(II)I"⟩, 24), (⟨"ChoreAssignmentModel", "without", "(II)I"⟩, 24)]
theorem lw_r3 : ∀ q ∈ lw_privs_3, lw_okq q := List.forall_mem_cons.mpr ⟨lw_p32, List.forall_mem_cons.mpr ⟨lw_p33, List.forall_mem_cons.mpr ⟨lw_p34, List.forall_mem_cons.mpr ⟨lw_p35, List.forall_mem_cons.mpr ⟨lw_p36, List.forall_mem_cons.mpr ⟨lw_p37, List.forall_mem_cons.mpr ⟨lw_p38, List.forall_mem_cons.mpr ⟨lw_p39, List.forall_mem_cons.mpr ⟨lw_p40, List.forall_mem_cons.mpr ⟨lw_p41, List.forall_mem_cons.mpr ⟨lw_p42, List.forall_mem_cons.mpr ⟨lw_p43, List.forall_mem_cons.mpr ⟨lw_p44, fun _ h => absurd h List.not_mem_nil⟩⟩⟩⟩⟩⟩⟩⟩⟩⟩⟩⟩⟩
def lw_privs : List (MethodName × Nat) := lw_privs_1 ++ (lw_privs_2 ++ (lw_privs_3))
def lw_tbl : List Cond := k2_sels lw_privs ++ tables_1
theorem lw_privs_ok : ∀ q ∈ lw_privs, lw_okq q := by
  show ∀ q ∈ lw_privs_1 ++ (lw_privs_2 ++ (lw_privs_3)), lw_okq q
  exact List.forall_mem_append.mpr ⟨lw_r1, List.forall_mem_append.mpr ⟨lw_r2, lw_r3⟩⟩
/-- the streams that the claim lets the run draw from -/
abbrev lw_cs : List Choice := [Jvm.Choice.named "NaN.bits"]
theorem lw_bits : nanBits ∈ lw_cs := by first | decide | exact List.mem_cons_self | simp [lw_cs, nanBits]
-- ===== end of PART A; then your names; then what follows =====
end
section
/-! ===== BEGIN words of one list among another's, by their places ===== -/
theorem goodIn_r {big : List Cond} (ws : List Cond) (ps : List Nat) (hp : ws = ps.filterMap (fun i => big[i]?)) (h : ws.all goodWord = true) : GoodIn big ws := by
  intro w hw
  have h1 := List.all_eq_true.mp h w hw
  rw [hp] at hw
  obtain ⟨i, -, hi⟩ := List.mem_filterMap.mp hw
  have hm : w ∈ big := by first | exact List.mem_of_getElem? hi | exact List.getElem?_mem hi
  exact ⟨hm, good_of_word h1⟩
theorem goodIn_app {big a b : List Cond} (ha : GoodIn big a) (hb : GoodIn big b) : GoodIn big (a ++ b) := fun w h => (List.mem_append.mp h).elim (ha w) (hb w)
theorem goodIn_ca {big a b : List Cond} {c : Cond} (ha : GoodIn big (c :: a)) (hb : GoodIn big b) : GoodIn big (c :: (a ++ b)) := fun w h => (List.mem_cons.mp h).elim (fun e => ha w (List.mem_cons.mpr (Or.inl e))) (fun h => (List.mem_append.mp h).elim (fun h => ha w (List.mem_cons.mpr (Or.inr h))) (hb w))
theorem goodIn_sub {big ws : List Cond} (hm : ∀ w ∈ ws, w ∈ big) (h : ws.all goodWord = true) : GoodIn big ws := fun w hw => ⟨hm w hw, good_of_word (List.all_eq_true.mp h w hw)⟩
/-! ===== END ===== -/

/-! ===== BEGIN exceptions that leave a method, and their catching by the caller (launches without stack traces) ===== -/
section VXA
/-! The laws vx_back, vx_callV, vx_callS, vx_callSW, vx_throw0, vx_throwS follow proofs of the library, with one case more: JvmDerived/Free/Laws.lean (Back.of_free), Shelf42/LK1.lean (callV, callS), Shelf/KitTraced.lean (throwNew0V, throwNewS). -/
/-- where a method has thrown q: the class by its name, the cell, what was written, the world -/
def vx_T (XC : String → State → State → Prop) (st : State) (q : Addr) (t : State) (mc ms : Nat) (free : Addr → Prop) : Prop :=
  ∃ (E : String) (ce : Cell) (L : List Loc), XC E st t ∧ t.heap[q]? = some ce ∧ ce.vm = .none ∧ st.vm.findClass E = some ce.cls ∧ st.WarmedH t.vm ∧ st.sameButNew ({ t with vm := st.vm } : State) L mc ms ∧ ∀ z ∈ L, free z.base
def vx_Q (Qc : Array Value → State → Outcome → State → Prop) (XC : String → State → State → Prop) (mc ms : Nat) (free : Addr → Prop) : Array Value → State → Outcome → State → Prop := fun a st o t =>
  (Qc a st o t ∧ ∃ L, FrameEnd st o t L mc ms ∧ ∀ q ∈ L, free q.base) ∨ ∃ q, o = .threw q ∧ vx_T XC st q t mc ms free
/-- a callee that returns or throws -/
def vx_Met (l : Launch) (y : MethodName) (ws : List Cond) (rm : Room) (Pc : Array Value → State → Prop) (Qc : Array Value → State → Outcome → State → Prop) (XC : String → State → State → Prop) (mc ms : Nat) (free : Addr → Prop) : Prop :=
  MetFree l y (headSpec ws rm) Pc (fun _ _ _ _ _ => True) (vx_Q Qc XC mc ms free)
def vx_Post (XC : String → State → State → Prop) (mc ms : Nat) (free : Addr → Prop) : Pt → Array Value → Addr → Pt → Prop := fun A a q B =>
  ∃ (g : JFrame) (mk : MethodId) (t : State) (L : List Loc) (E : String) (ce : Cell), B.U.heap = t.heap ∧ B.U.vm = t.vm ∧ XC E (A.U.calling g mk a) t ∧ t.heap[q]? = some ce ∧ ce.vm = .none ∧ A.U.vm.findClass E = some ce.cls ∧ B.locs = A.locs ++ L ∧ (∀ z ∈ L, free z.base) ∧ B.cells = A.cells + mc ∧ B.slots = A.slots + ms
def vx_Back (l : Launch) (R : Room) (p : Program) (e : Env) (below : List Frame) (s : State) (sargs : Array Value) (y : MethodName) (len W9 : Nat)
    (Pre : Pt → Array Value → Prop) (Post : Pt → Array Value → Option Value → Pt → Prop) (PostX : Pt → Array Value → Addr → Pt → Prop) : Prop :=
  ∀ (m : MethodId) (meth : Method) (c : Code) (A : Pt) (g : JFrame) (ig : Instr) (mk : MethodId) (a : Array Value),
    Stand p l e R s m sargs below meth c A.U A.locs A.cells A.slots → g.method = m → g.locals.size = c.maxLocals → decode c.code g.pc = .ok (ig, len) →
    2 * g.monitorRoom + (g.stack.map fun v => v.category).sum ≤ W9 → A.U.methodNamed? y = some mk → Pre A a →
    (∃ (v : Option Value) (B : Pt), Stand p l e R s m sargs below meth c B.U B.locs B.cells B.slots ∧ Post A a v B ∧
      Steps p.tables e below (doInvoke e (A.U.setTop g) [] mk a).1 (B.U.setTop { g with pc := g.pc + len, stack := v.toList ++ g.stack })) ∨
    (∃ (q : Addr) (B : Pt), Stand p l e R s m sargs below meth c B.U B.locs B.cells B.slots ∧ PostX A a q B ∧
      Steps p.tables e below (doInvoke e (A.U.setTop g) [] mk a).1 ((B.U.setTop g).pushFrame (.throwing q)))
section Payer
variable {l : Launch} {R : Room} {p : Program} {e : Env} {below : List Frame} {s : State} {sargs : Array Value} {y : MethodName} {len W9 : Nat}
theorem vx_back {ws : List Cond} {rm : Room} {Pc : Array Value → State → Prop} {Qc : Array Value → State → Outcome → State → Prop} {XC : String → State → State → Prop} {mc ms : Nat} {free : Addr → Prop} {bytes : ByteArray} {maxL : Nat} {ret : Option FieldType}
    (hM : vx_Met l y ws rm Pc Qc XC mc ms free) (hblind : FrameBlind Pc) (hrc : rm.cells = mc) (hrs : rm.slots = ms)
    (hframes : rm.frames + 1 ≤ R.frames) (hlocals : W9 + (maxL + 11) + rm.locals ≤ R.locals)
    (hws : ∀ w ∈ ws, ∀ a' U, s.WarmedH U.vm → w.before a' U = true) (hcode : Cond.code y bytes maxL ret ∈ ws) (hinit : ∀ a' U, s.WarmedH U.vm → (Cond.initialized y.cls).before a' U = true) :
    vx_Back l R p e below s sargs y len W9 (PreOf R mc ms Pc) (PostOf Qc mc ms free) (vx_Post XC mc ms free) := by
  intro m meth c A g ig mk a X hg hsize hdg hW hn hp
  have h1 : (headSpec ws rm).pre.before a A.U = true := atoms_intro fun w hw => hws w hw _ _ X.warmed
  have h2 : (Cond.code y bytes maxL ret).before a A.U = true := hws _ hcode _ _ X.warmed
  have h3 : (Cond.initialized y.cls).before a A.U = true := hinit _ _ X.warmed
  have h4 : A.cells + (headSpec ws rm).room.cells ≤ R.cells := by rw [show (headSpec ws rm).room.cells = mc from hrc]; exact hp.1
  have h5 : A.slots + (headSpec ws rm).room.slots ≤ R.slots := by rw [show (headSpec ws rm).room.slots = ms from hrs]; exact hp.2.1
  have hPc : Pc a (A.U.calling g mk a) := hblind _ _ _ _ hp.2.2
  obtain ⟨U, Ls, c0, s0⟩ := A
  dsimp only [Pt.U, Pt.locs, Pt.cells, Pt.slots] at h1 h2 h3 h4 h5 X hn hPc ⊢
  obtain ⟨methY, cY, hmY, hcY, -, hlY, -, -, -, -⟩ := Cond.code_spec hn h2
  obtain ⟨kY, hkY, -⟩ := className_of_methodNamed hn
  have hinitY : kY.init = .initialized := Cond.initialized_spec (findClass_of_methodNamed hn) hkY h3
  have h : At U g.method c below := by rw [hg]; exact X.here
  have hlocals9 : W9 + (maxL + 11) + (headSpec ws rm).room.locals ≤ R.locals := hlocals
  have happ : (headSpec ws rm).appliesLoose y e.platform (U.calling g mk a) = true :=
    Spec.appliesLoose_calling (g := g) h hdg hn hkY hinitY
      (X.room_calling (g := g) (R' := (headSpec ws rm).room) hsize hmY hcY hframes (by rw [hlY]; omega) h4 h5) h1
  obtain ⟨mid, hmid⟩ := h.above
  have hfr : (U.setTop g).frames = (.java g :: mid) ++ below := by rw [State.frames_setTop' g h.top, hmid]; rfl
  obtain ⟨o, s₂, hsteps, -, hend, hq⟩ := Steps.callFree hM p X.admits X.cas X.clock (acts := []) hfr happ hPc trivial
  have hq' : vx_Q Qc XC mc ms free a (U.calling g mk a) o s₂ := hq
  rw [State.frames_setTop' g h.top] at hend
  obtain ⟨g₀, hg0⟩ := Option.isSome_iff_exists.mp h.top
  obtain ⟨r, hr⟩ := State.topJava?_eq_some.mp hg0
  have hr' : (({ U with heap := s₂.heap, slotsUsed := s₂.slotsUsed } : State).setVm s₂.vm).frames = .java g₀ :: r := hr
  rcases hq' with ⟨hqc, L, hfe, hL⟩ | ⟨q, rfl, E, ce, L, hx, hce, hcv, hcl, hW₂, hsm, hL⟩
  · obtain ⟨⟨v, rfl⟩, hW₂, e2, q2, q3, q4, q5, q6⟩ := id hfe
    have e3 : s₂ = ({ (U.calling g mk a).setFrames s₂.frames with heap := s₂.heap, slotsUsed := s₂.slotsUsed } : State).setVm s₂.vm := by
      have : s₂ = ({ s₂ with vm := (U.calling g mk a).vm } : State).setVm s₂.vm := rfl
      rw [e2] at this
      exact this
    obtain ⟨c₂, i₂, len₂, hc₂, hd₂, hf₂⟩ := hend
    have hW' : U.WarmedH s₂.vm := hW₂
    have hcc : c₂ = c := by
      have h1 : s₂.code? g.method = U.code? g.method := by
        rw [State.code?_eq, State.code?_eq, hW'.alike.method?]
      exact Option.some.inj (hc₂.symm.trans (h1.trans h.code))
    subst hcc
    have hlen : len₂ = len := by rw [hdg] at hd₂; cases hd₂; rfl
    subst hlen
    have hs₂ : s₂ = (({ U with heap := s₂.heap, slotsUsed := s₂.slotsUsed } : State).setVm s₂.vm).setTop { g with pc := g.pc + len₂, stack := v.toList ++ g.stack } := by
      refine e3.trans ?_
      rw [hf₂, State.calling_eq h.top, State.setFrames_setFrames, State.setTop_of_frames _ hr', hr]
      rfl
    have hsame : U.sameButNew ({ U with heap := s₂.heap, slotsUsed := s₂.slotsUsed } : State) L mc ms := by
      refine ⟨?_, q2, q3, q4, q5, q6⟩
      obtain ⟨t, ht, -⟩ := State.frames_cons hr
      show ({ U with heap := s₂.heap, slotsUsed := s₂.slotsUsed } : State) = { U.setFrames U.frames with heap := s₂.heap, slotsUsed := s₂.slotsUsed }
      rw [State.setFrames_self ht]
    subst hg
    refine Or.inl ⟨v, ⟨(({ U with heap := s₂.heap, slotsUsed := s₂.slotsUsed } : State).setVm s₂.vm), Ls ++ L, c0 + mc, s0 + ms⟩,
      ⟨X.admits, X.cas, X.clock, X.frames, X.room, X.hears, X.method, X.code, (X.here.setHeapUsed s₂.heap s₂.slotsUsed).setVm hW'.alike, X.tail, State.WarmedH.trans X.warmed hW', X.limits, X.bytes, X.same.trans (hsame.setVm s.vm)⟩,
      ⟨g, mk, s₂, L, rfl, rfl, hqc, rfl, hL, rfl, rfl⟩, ?_⟩
    show Steps p.tables e below _ ((({ U with heap := s₂.heap, slotsUsed := s₂.slotsUsed } : State).setVm s₂.vm).setTop { g with pc := g.pc + len₂, stack := v.toList ++ g.stack })
    rw [← hs₂]
    exact hsteps
  · obtain ⟨e2, q2, q3, q4, q5, q6⟩ := id hsm
    have e3 : s₂ = ({ (U.calling g mk a).setFrames s₂.frames with heap := s₂.heap, slotsUsed := s₂.slotsUsed } : State).setVm s₂.vm := by
      have : s₂ = ({ s₂ with vm := (U.calling g mk a).vm } : State).setVm s₂.vm := rfl
      rw [e2] at this
      exact this
    have hf₂ : s₂.frames = .throwing q :: .java g :: U.frames.tail := hend
    have hW' : U.WarmedH s₂.vm := hW₂
    have hs₂ : s₂ = ((({ U with heap := s₂.heap, slotsUsed := s₂.slotsUsed } : State).setVm s₂.vm).setTop g).pushFrame (.throwing q) := by
      refine e3.trans ?_
      rw [hf₂, State.calling_eq h.top, State.setFrames_setFrames, State.pushFrame, State.frames_setTop _ hr', State.setTop_of_frames _ hr', State.setFrames_setFrames, hr]
      rfl
    have hsame : U.sameButNew ({ U with heap := s₂.heap, slotsUsed := s₂.slotsUsed } : State) L mc ms := by
      refine ⟨?_, q2, q3, q4, q5, q6⟩
      obtain ⟨t, ht, -⟩ := State.frames_cons hr
      show ({ U with heap := s₂.heap, slotsUsed := s₂.slotsUsed } : State) = { U.setFrames U.frames with heap := s₂.heap, slotsUsed := s₂.slotsUsed }
      rw [State.setFrames_self ht]
    subst hg
    refine Or.inr ⟨q, ⟨(({ U with heap := s₂.heap, slotsUsed := s₂.slotsUsed } : State).setVm s₂.vm), Ls ++ L, c0 + mc, s0 + ms⟩,
      ⟨X.admits, X.cas, X.clock, X.frames, X.room, X.hears, X.method, X.code, (X.here.setHeapUsed s₂.heap s₂.slotsUsed).setVm hW'.alike, X.tail, State.WarmedH.trans X.warmed hW', X.limits, X.bytes, X.same.trans (hsame.setVm s.vm)⟩,
      ⟨g, mk, s₂, L, E, ce, rfl, rfl, hx, hce, hcv, hcl, rfl, hL, rfl, rfl⟩, ?_⟩
    show Steps p.tables e below _ (((({ U with heap := s₂.heap, slotsUsed := s₂.slotsUsed } : State).setVm s₂.vm).setTop g).pushFrame (.throwing q))
    rw [← hs₂]
    exact hsteps
end Payer
section Calls
variable {p : Program} {l : Launch} {e : Env} {R : Room} {s : State} {m : MethodId} {args : Array Value} {below : List Frame} {meth : Method} {c : Code} {T : State} {locs : List Loc} {cells slots : Nat}
theorem vx_callV (X : Stand p l e R s m args below meth c T locs cells slots) (hexec : p.tables.exec = Jvm.exec) {own C : String} {index : Nat} {y : MethodName} {bytes : ByteArray} {maxL : Nat} {ret : Option FieldType}
    (hown : s.vm.findClass own = some m.cls) (hlink : (Cond.methodLink own index y).before args s = true) (hinst : (Cond.instanceMethod y).before args s = true) (hsel : (Cond.selects C y y).before args s = true)
    (hcode : (Cond.code y bytes maxL ret).before args s = true) (hy : y.cls ≠ "java/lang/invoke/MethodHandle" ∧ y.cls ≠ "java/lang/invoke/VarHandle")
    {W9 : Nat} {Pre : Pt → Array Value → Prop} {Post : Pt → Array Value → Option Value → Pt → Prop} {PostX : Pt → Array Value → Addr → Pt → Prop} (hK : vx_Back l R p e below s args y 3 W9 Pre Post PostX)
    {b : Addr} {cellB : Cell} (hcell : T.heap[b]? = some cellB) (hobj : cellB.vm.isStatics = false) (hcls : s.vm.findClass C = some cellB.cls)
    {g : JFrame} (hg : g.method = m) (hsize : g.locals.size = c.maxLocals) {argsL rest : List Value} (hlen : ∀ sig, parseMethodDescriptor y.desc = some sig → argsL.length = sig.parameters.length)
    (hstack : g.stack = argsL.reverse ++ .ref b :: rest) (hW : 2 * g.monitorRoom + (rest.map fun v => v.category).sum ≤ W9) (hdg : decode c.code g.pc = .ok (.invokevirtual index, 3))
    (hpre : ∀ vm₁, s.WarmedH vm₁ → Pre ⟨T.setVm vm₁, locs, cells, slots⟩ (Value.ref b :: argsL).toArray) :
    (∃ (v : Option Value) (vm₁ : Vm) (B : Pt), s.WarmedH vm₁ ∧ Stand p l e R s m args below meth c B.U B.locs B.cells B.slots ∧ Post ⟨T.setVm vm₁, locs, cells, slots⟩ (Value.ref b :: argsL).toArray v B ∧
      ∀ target, Steps p.tables e below (B.U.setTop { g with pc := g.pc + 3, stack := v.toList ++ rest }) target → Steps p.tables e below (T.setTop g) target) ∨
    (∃ (q : Addr) (vm₁ : Vm) (B : Pt), s.WarmedH vm₁ ∧ Stand p l e R s m args below meth c B.U B.locs B.cells B.slots ∧ PostX ⟨T.setVm vm₁, locs, cells, slots⟩ (Value.ref b :: argsL).toArray q B ∧
      Steps p.tables e below (T.setTop g) ((B.U.setTop { g with stack := rest }).pushFrame (.throwing q))) := by
  obtain ⟨mk, methM, hnamed, hmethM, hstM, habM⟩ := Cond.instanceMethod_spec hinst
  obtain ⟨methM', cM, hmethM', -, -, -, -, -, -, hsigM⟩ := Cond.code_spec hnamed hcode
  cases hmethM.symm.trans hmethM'
  obtain ⟨c2, r2, m2, q1, q2, q3, q4, kP, hkP, hkPi⟩ := Cond.selects_spec hsel
  cases hcls.symm.trans q1
  cases (State.methodFound?_of_named hnamed hy).symm.trans q2
  cases hnamed.symm.trans q3
  have hselP : selectMethod e.platform s.vm cellB.cls mk = .method mk := by rw [Launch.admits_selectMethod X.admits]; exact q4
  obtain ⟨vm₁, X₁, hstep₁⟩ := X.invokevirtual hexec hown hlink hnamed hmethM hstM hkP hkPi hy (a := b) (cell := cellB) hcell
    (fun z h => by rw [h] at hobj; cases hobj) hselP hmethM habM hkP hkPi (g := g) hg (argsL := argsL) (rest := rest) (hlen _ hsigM) hstack hdg
  rcases hK m meth c ⟨T.setVm vm₁, locs, cells, slots⟩ { g with stack := rest } (.invokevirtual index) mk (Value.ref b :: argsL).toArray X₁ hg hsize hdg hW (X₁.named hnamed) (hpre vm₁ X₁.warmed) with ⟨v, B, X', hpost, hsteps⟩ | ⟨q, B, X', hpost, hsteps⟩
  · exact Or.inl ⟨v, vm₁, B, X₁.warmed, X', hpost, fun target h => hstep₁ _ fun acts => by rw [doInvoke_state]; exact hsteps.trans h⟩
  · exact Or.inr ⟨q, vm₁, B, X₁.warmed, X', hpost, hstep₁ _ fun acts => by rw [doInvoke_state]; exact hsteps⟩
theorem vx_callS (X : Stand p l e R s m args below meth c T locs cells slots) (hexec : p.tables.exec = Jvm.exec) {own : String} {index : Nat} {y : MethodName} {bytes : ByteArray} {maxL : Nat} {ret : Option FieldType}
    (hown : s.vm.findClass own = some m.cls) (hlink : (Cond.methodLink own index y).before args s = true) (hstat : (Cond.static y).before args s = true) (hinit : (Cond.initialized y.cls).before args s = true)
    (hcode : (Cond.code y bytes maxL ret).before args s = true) (hy : y.cls ≠ "java/lang/invoke/MethodHandle" ∧ y.cls ≠ "java/lang/invoke/VarHandle")
    {W9 : Nat} {Pre : Pt → Array Value → Prop} {Post : Pt → Array Value → Option Value → Pt → Prop} {PostX : Pt → Array Value → Addr → Pt → Prop} (hK : vx_Back l R p e below s args y 3 W9 Pre Post PostX)
    {g : JFrame} (hg : g.method = m) (hsize : g.locals.size = c.maxLocals) {argsL rest : List Value} (hlen : ∀ sig, parseMethodDescriptor y.desc = some sig → argsL.length = sig.parameters.length)
    (hstack : g.stack = argsL.reverse ++ rest) (hW : 2 * g.monitorRoom + (rest.map fun v => v.category).sum ≤ W9) (hdg : decode c.code g.pc = .ok (.invokestatic index, 3))
    (hpre : ∀ vm₁, s.WarmedH vm₁ → Pre ⟨T.setVm vm₁, locs, cells, slots⟩ argsL.toArray) :
    (∃ (v : Option Value) (vm₁ : Vm) (B : Pt), s.WarmedH vm₁ ∧ Stand p l e R s m args below meth c B.U B.locs B.cells B.slots ∧ Post ⟨T.setVm vm₁, locs, cells, slots⟩ argsL.toArray v B ∧
      ∀ target, Steps p.tables e below (B.U.setTop { g with pc := g.pc + 3, stack := v.toList ++ rest }) target → Steps p.tables e below (T.setTop g) target) ∨
    (∃ (q : Addr) (vm₁ : Vm) (B : Pt), s.WarmedH vm₁ ∧ Stand p l e R s m args below meth c B.U B.locs B.cells B.slots ∧ PostX ⟨T.setVm vm₁, locs, cells, slots⟩ argsL.toArray q B ∧
      Steps p.tables e below (T.setTop g) ((B.U.setTop { g with stack := rest }).pushFrame (.throwing q))) := by
  obtain ⟨mk, hnamed⟩ := Cond.code_named hcode
  obtain ⟨methM, cM, hmethM, -, -, -, -, -, -, hsigM⟩ := Cond.code_spec hnamed hcode
  have hstatic : methM.isStatic = true := Cond.static_spec hnamed hmethM hstat
  obtain ⟨kP, hkP, -⟩ := className_of_methodNamed hnamed
  have hinitP : kP.init = .initialized := Cond.initialized_spec (findClass_of_methodNamed hnamed) hkP hinit
  obtain ⟨vm₁, X₁, hstep₁⟩ := X.invokestatic hexec hown hlink hnamed hmethM hstatic hkP hinitP hy (g := g) hg (argsL := argsL) (rest := rest) (hlen _ hsigM) hstack hdg
  rcases hK m meth c ⟨T.setVm vm₁, locs, cells, slots⟩ { g with stack := rest } (.invokestatic index) mk argsL.toArray X₁ hg hsize hdg hW (X₁.named hnamed) (hpre vm₁ X₁.warmed) with ⟨v, B, X', hpost, hsteps⟩ | ⟨q, B, X', hpost, hsteps⟩
  · exact Or.inl ⟨v, vm₁, B, X₁.warmed, X', hpost, fun target h => hstep₁ _ fun acts => by rw [doInvoke_state]; exact hsteps.trans h⟩
  · exact Or.inr ⟨q, vm₁, B, X₁.warmed, X', hpost, hstep₁ _ fun acts => by rw [doInvoke_state]; exact hsteps⟩
end Calls
theorem vx_cls {s : State} {T : State} {vm₁ : Vm} {E : String} {k : ClassId} (hW : s.WarmedH vm₁) (h : (T.setVm vm₁).vm.findClass E = some k) : s.vm.findClass E = some k := by
  have h1 : vm₁.findClass E = some k := h
  rw [hW.alike.findClass] at h1
  exact h1
/-- the method's frame g, with q thrown over it -/
def vx_W (p : Program) (l : Launch) (e : Env) (R : Room) (s : State) (m : MethodId) (args : Array Value) (below : List Frame) (meth : Method) (c : Code) (H : Heap) (locs : List Loc) (cells slots : Nat) (Q : State → Prop) (g : JFrame) (q : Addr) : Prop :=
  ∀ T : State, T.heap = H → Stand p l e R s m args below meth c T locs cells slots → ∃ t, Steps p.tables e below ((T.setTop g).pushFrame (.throwing q)) t ∧ Q t
def vx_Run (p : Program) (l : Launch) (e : Env) (R : Room) (s : State) (m : MethodId) (args : Array Value) (below : List Frame) (meth : Method) (c : Code) (H : Heap) (locs : List Loc) (cells slots mc ms : Nat) (g : JFrame) (rest : List Value) (Qa : State → Outcome → State → Prop) (XC : String → State → State → Prop) (free : Addr → Prop) : Prop :=
  ∀ T : State, T.heap = H → Stand p l e R s m args below meth c T locs cells slots →
    (∃ (v : Option Value) (st₀ t T' : State) (L : List Loc), st₀.heap = H ∧ Stand p l e R s m args below meth c T' (locs ++ L) (cells + mc) (slots + ms) ∧ (∀ q ∈ L, free q.base) ∧ T'.heap = t.heap ∧ T'.vm = t.vm ∧ Qa st₀ (.returned v) t ∧
      Goes p e below T g T' { g with pc := g.pc + 3, stack := v.toList ++ rest }) ∨
    (∃ (q : Addr) (st₀ t T' : State) (L : List Loc) (E : String) (ce : Cell), st₀.heap = H ∧ Stand p l e R s m args below meth c T' (locs ++ L) (cells + mc) (slots + ms) ∧ (∀ z ∈ L, free z.base) ∧ T'.heap = t.heap ∧ T'.vm = t.vm ∧ XC E st₀ t ∧ t.heap[q]? = some ce ∧ ce.vm = .none ∧ s.vm.findClass E = some ce.cls ∧
      Steps p.tables e below (T.setTop g) ((T'.setTop { g with stack := rest }).pushFrame (.throwing q)))
def vx_X {S : Type} (px : S → Prop) (B : String → S → State → Prop) (A : Nat → Prop) : String → State → State → Prop := fun E st t => ∃ u : S, px u ∧ B E u t ∧ va_F A st t
section Runs
variable {p : Program} {l : Launch} {e : Env} {R : Room} {s : State} {m : MethodId} {args : Array Value} {below : List Frame} {meth : Method} {c : Code} {H : Heap} {locs : List Loc} {cells slots : Nat}
variable {y : MethodName} {bytes cc : ByteArray} {maxL nL mc ms n index : Nat} {ret : Option FieldType} {ws : List Cond} {rm : Room} {Pc : Array Value → State → Prop} {Qc : Array Value → State → Outcome → State → Prop} {XC : String → State → State → Prop} {free : Addr → Prop} {Ts : List Cond} {own C : String} {b : Addr} {As rest : List Value} {g : JFrame}
theorem vx_callBack (cb : CallB R s args own index y bytes maxL ret ws rm mc ms n) (hM : vx_Met l y ws rm Pc Qc XC mc ms free) (hbl : FrameBlind Pc) : vx_Back l R p e below s args y 3 8 (PreOf R mc ms Pc) (PostOf Qc mc ms free) (vx_Post XC mc ms free) := by
  obtain ⟨hrc, hrs, hfr, hlo, hws, hcw, -, hini, -⟩ := cb
  exact vx_back (bytes := bytes) (maxL := maxL) (ret := ret) hM hbl hrc hrs hfr hlo hws hcw (fun a' U hW => word_at hW (Or.inl (by first | rfl | simp [Cond.onTables, Cond.keeps, Cond.steady])) hini)
theorem vx_runV (S : CallFix p m c cc nL s args Ts own) (hM : vx_Met l y ws rm Pc Qc XC mc ms free) (cw : CallW R s args own C index y bytes maxL ret ws rm mc ms n) (hp : PreV s H C b Pc As)
    (hg : g.method = m) (hn : As.length = n) (hsize : g.locals.size = nL) (hstack : g.stack = As.reverse ++ .ref b :: rest) (hW : 2 * g.monitorRoom + (rest.map fun v => v.category).sum ≤ 8) (hdg : decode cc g.pc = .ok (.invokevirtual index, 3)) (hf : cells + mc ≤ R.cells ∧ slots + ms ≤ R.slots) :
    vx_Run p l e R s m args below meth c H locs cells slots mc ms g rest (Qc (Value.ref b :: As).toArray) XC free := by
  have hK : vx_Back l R p e below s args y 3 8 (PreOf R mc ms Pc) (PostOf Qc mc ms free) (vx_Post XC mc ms free) := vx_callBack cw.1 hM hp.1
  obtain ⟨⟨-, -, -, -, -, -, hcode, -, hy, hlen, hl⟩, hin, hse⟩ := cw
  obtain ⟨hx, hb, hml, ho, -⟩ := S
  obtain ⟨-, ⟨cellB, hcB, hoB, hclB⟩, hPc⟩ := hp
  intro T hT X
  rcases vx_callV X hx (C := C) (bytes := bytes) (maxL := maxL) (ret := ret) ho hl hin hse hcode hy hK (by rw [hT]; exact hcB) hoB hclB hg (hsize.trans hml.symm) (argsL := As) (rest := rest) (fun sig h => hn.trans (hlen sig h)) hstack hW (by rw [hb]; exact hdg)
    (fun vm₁ hW₁ => ⟨hf.1, hf.2, hPc (T.setVm vm₁) hT hW₁⟩) with ⟨v, vm₁, ⟨U', l2, c2, s2⟩, hW₁, X', ⟨g', mk, t, L, e1, e2, hq, h1, hL, h2, h3⟩, st⟩ | ⟨q, vm₁, ⟨U', l2, c2, s2⟩, hW₁, X', ⟨g', mk, t, L, E, ce, e1, e2, hq, hce, hcv, hcl, h1, hL, h2, h3⟩, st⟩
  · dsimp only [Pt.U, Pt.locs, Pt.cells, Pt.slots] at X' e1 e2 h1 h2 h3 st
    subst h1; subst h2; subst h3
    exact Or.inl ⟨v, (T.setVm vm₁).calling g' mk (Value.ref b :: As).toArray, t, U', L, hT, X', hL, e1, e2, hq, st⟩
  · dsimp only [Pt.U, Pt.locs, Pt.cells, Pt.slots] at X' e1 e2 h1 h2 h3 st hcl
    subst h1; subst h2; subst h3
    exact Or.inr ⟨q, (T.setVm vm₁).calling g' mk (Value.ref b :: As).toArray, t, U', L, E, ce, hT, X', hL, e1, e2, hq, hce, hcv, vx_cls hW₁ hcl, st⟩
theorem vx_runS (S : CallFix p m c cc nL s args Ts own) (hM : vx_Met l y ws rm Pc Qc XC mc ms free) (cw : CallB R s args own index y bytes maxL ret ws rm mc ms n ∧ (Cond.static y).before args s = true) (hp : PreS s H Pc As)
    (hg : g.method = m) (hn : As.length = n) (hsize : g.locals.size = nL) (hstack : g.stack = As.reverse ++ rest) (hW : 2 * g.monitorRoom + (rest.map fun v => v.category).sum ≤ 8) (hdg : decode cc g.pc = .ok (.invokestatic index, 3)) (hf : cells + mc ≤ R.cells ∧ slots + ms ≤ R.slots) :
    vx_Run p l e R s m args below meth c H locs cells slots mc ms g rest (Qc As.toArray) XC free := by
  have hK : vx_Back l R p e below s args y 3 8 (PreOf R mc ms Pc) (PostOf Qc mc ms free) (vx_Post XC mc ms free) := vx_callBack cw.1 hM hp.1
  obtain ⟨⟨-, -, -, -, -, -, hcode, hini, hy, hlen, hl⟩, hstt⟩ := cw
  obtain ⟨hx, hb, hml, ho, -⟩ := S
  intro T hT X
  rcases vx_callS X hx (bytes := bytes) (maxL := maxL) (ret := ret) ho hl hstt hini hcode hy hK hg (hsize.trans hml.symm) (argsL := As) (rest := rest) (fun sig h => hn.trans (hlen sig h)) hstack hW (by rw [hb]; exact hdg)
    (fun vm₁ hW₁ => ⟨hf.1, hf.2, hp.2 (T.setVm vm₁) hT hW₁⟩) with ⟨v, vm₁, ⟨U', l2, c2, s2⟩, hW₁, X', ⟨g', mk, t, L, e1, e2, hq, h1, hL, h2, h3⟩, st⟩ | ⟨q, vm₁, ⟨U', l2, c2, s2⟩, hW₁, X', ⟨g', mk, t, L, E, ce, e1, e2, hq, hce, hcv, hcl, h1, hL, h2, h3⟩, st⟩
  · dsimp only [Pt.U, Pt.locs, Pt.cells, Pt.slots] at X' e1 e2 h1 h2 h3 st
    subst h1; subst h2; subst h3
    exact Or.inl ⟨v, (T.setVm vm₁).calling g' mk As.toArray, t, U', L, hT, X', hL, e1, e2, hq, st⟩
  · dsimp only [Pt.U, Pt.locs, Pt.cells, Pt.slots] at X' e1 e2 h1 h2 h3 st hcl
    subst h1; subst h2; subst h3
    exact Or.inr ⟨q, (T.setVm vm₁).calling g' mk As.toArray, t, U', L, E, ce, hT, X', hL, e1, e2, hq, hce, hcv, vx_cls hW₁ hcl, st⟩
end Runs
section Rows
variable {p : Program} {l : Launch} {e : Env} {R : Room} {s : State} {m : MethodId} {args : Array Value} {below : List Frame} {meth : Method} {c : Code} {H : Heap} {locs : List Loc} {cells slots : Nat} {Q : State → Prop}
variable {mc ms : Nat} {free : Addr → Prop} {A0 A1 : Nat → Prop} {H0 : Heap} {a : Array Value} {pc : Nat} {ls : Array Slot} {st0 rest : List Value}
theorem vx_keep {st₀ t T' : State} {L : List Loc} (h0 : st₀.heap = H) (e1 : T'.heap = t.heap) (hS : va_S A0 H0 H locs) (hA : ∀ q, q < H.size → A1 q → A0 q) (hf : ∀ q, free q → A0 q) (hL : ∀ q ∈ L, free q.base) (hF : va_F A1 st₀ t) :
    H.size ≤ T'.heap.size ∧ (∀ q : Nat, q < H.size → ¬ A1 q → T'.heap[q]? = H[q]?) ∧ va_S A0 H0 T'.heap (locs ++ L) := by
  obtain ⟨hz, hk⟩ := hF
  rw [h0] at hz hk
  exact ⟨by rw [e1]; exact hz, fun q h1 h2 => by rw [e1]; exact hk q h1 h2,
    ⟨Nat.le_trans hS.1 (by rw [e1]; exact hz), fun q h1 h2 => by rw [e1, hk q (Nat.lt_of_lt_of_le h1 hS.1) (fun z => h2 (hA q (Nat.lt_of_lt_of_le h1 hS.1) z))]; exact hS.2.1 q h1 h2, fun q hq => by
      rcases List.mem_append.mp hq with h | h
      · exact hS.2.2 q h
      · exact hf _ (hL q h)⟩⟩
theorem vx_calli {S SX : Type} {post : Int32 → S → Prop} {px : SX → Prop} {B : S → State → Prop} {BX : String → SX → State → Prop} {AX : Nat → Prop} (hr : vx_Run p l e R s m args below meth c H locs cells slots mc ms (F0 m pc ls st0) rest (va_Qi post B A1 a) (vx_X px BX AX) free) (hS : va_S A0 H0 H locs) (hA : ∀ q, q < H.size → A1 q → A0 q) (hf : ∀ q, free q → A0 q) (hAX : ∀ q, q < H.size → AX q → A0 q)
    (kx : ∀ (E : String) (ce : Cell) (q9 : Addr) (u : SX) (t : State) (H1 : Heap) (locs1 : List Loc), t.heap = H1 → s.vm.Alike t.vm → px u → BX E u t → H.size ≤ H1.size → (∀ q : Nat, q < H.size → ¬ AX q → H1[q]? = H[q]?) → va_S A0 H0 H1 locs1 → H1[q9]? = some ce → ce.vm = .none → s.vm.findClass E = some ce.cls → vx_W p l e R s m args below meth c H1 locs1 (cells + mc) (slots + ms) Q (F0 m pc ls rest) q9)
    (kk : ∀ (r : Int32) (u : S) (t : State) (H1 : Heap) (locs1 : List Loc), t.heap = H1 → s.vm.Alike t.vm → post r u → B u t → H.size ≤ H1.size → (∀ q : Nat, q < H.size → ¬ A1 q → H1[q]? = H[q]?) → va_S A0 H0 H1 locs1 → W p l e R s m args below meth c H1 locs1 (cells + mc) (slots + ms) Q (F0 m (pc + 3) ls (.int r :: rest))) : W p l e R s m args below meth c H locs cells slots Q (F0 m pc ls st0) := by
  intro T hT X
  rcases hr T hT X with ⟨v, st₀, t, T', L, h0, X', hL, e1, e2, ⟨⟨r, u, hv, hp, hb⟩, hF⟩, st⟩ | ⟨q, st₀, t, T', L, E, ce, h0, X', hL, e1, e2, ⟨u, hp, hb, hF⟩, hce, hcv, hcl, st⟩
  · cases hv
    obtain ⟨k1, k2, k3⟩ := vx_keep h0 e1 hS hA hf hL hF
    obtain ⟨t2, a1, b1⟩ := kk r u t T'.heap (locs ++ L) e1.symm (by rw [← e2]; exact X'.warmed.alike) hp hb k1 k2 k3 T' rfl X'
    exact ⟨t2, st t2 a1, b1⟩
  · obtain ⟨k1, k2, k3⟩ := vx_keep h0 e1 hS hAX hf hL hF
    obtain ⟨t2, a1, b1⟩ := kx E ce q u t T'.heap (locs ++ L) e1.symm (by rw [← e2]; exact X'.warmed.alike) hp hb k1 k2 k3 (by rw [e1]; exact hce) hcv hcl T' rfl X'
    exact ⟨t2, st.trans a1, b1⟩
theorem vx_calll {S SX : Type} {post : Int64 → S → Prop} {px : SX → Prop} {B : S → State → Prop} {BX : String → SX → State → Prop} {AX : Nat → Prop} (hr : vx_Run p l e R s m args below meth c H locs cells slots mc ms (F0 m pc ls st0) rest (va_Ql post B A1 a) (vx_X px BX AX) free) (hS : va_S A0 H0 H locs) (hA : ∀ q, q < H.size → A1 q → A0 q) (hf : ∀ q, free q → A0 q) (hAX : ∀ q, q < H.size → AX q → A0 q)
    (kx : ∀ (E : String) (ce : Cell) (q9 : Addr) (u : SX) (t : State) (H1 : Heap) (locs1 : List Loc), t.heap = H1 → s.vm.Alike t.vm → px u → BX E u t → H.size ≤ H1.size → (∀ q : Nat, q < H.size → ¬ AX q → H1[q]? = H[q]?) → va_S A0 H0 H1 locs1 → H1[q9]? = some ce → ce.vm = .none → s.vm.findClass E = some ce.cls → vx_W p l e R s m args below meth c H1 locs1 (cells + mc) (slots + ms) Q (F0 m pc ls rest) q9)
    (kk : ∀ (r : Int64) (u : S) (t : State) (H1 : Heap) (locs1 : List Loc), t.heap = H1 → s.vm.Alike t.vm → post r u → B u t → H.size ≤ H1.size → (∀ q : Nat, q < H.size → ¬ A1 q → H1[q]? = H[q]?) → va_S A0 H0 H1 locs1 → W p l e R s m args below meth c H1 locs1 (cells + mc) (slots + ms) Q (F0 m (pc + 3) ls (.long r :: rest))) : W p l e R s m args below meth c H locs cells slots Q (F0 m pc ls st0) := by
  intro T hT X
  rcases hr T hT X with ⟨v, st₀, t, T', L, h0, X', hL, e1, e2, ⟨⟨r, u, hv, hp, hb⟩, hF⟩, st⟩ | ⟨q, st₀, t, T', L, E, ce, h0, X', hL, e1, e2, ⟨u, hp, hb, hF⟩, hce, hcv, hcl, st⟩
  · cases hv
    obtain ⟨k1, k2, k3⟩ := vx_keep h0 e1 hS hA hf hL hF
    obtain ⟨t2, a1, b1⟩ := kk r u t T'.heap (locs ++ L) e1.symm (by rw [← e2]; exact X'.warmed.alike) hp hb k1 k2 k3 T' rfl X'
    exact ⟨t2, st t2 a1, b1⟩
  · obtain ⟨k1, k2, k3⟩ := vx_keep h0 e1 hS hAX hf hL hF
    obtain ⟨t2, a1, b1⟩ := kx E ce q u t T'.heap (locs ++ L) e1.symm (by rw [← e2]; exact X'.warmed.alike) hp hb k1 k2 k3 (by rw [e1]; exact hce) hcv hcl T' rfl X'
    exact ⟨t2, st.trans a1, b1⟩
theorem vx_callf {S SX : Type} {post : UInt32 → S → Prop} {px : SX → Prop} {B : S → State → Prop} {BX : String → SX → State → Prop} {AX : Nat → Prop} (hr : vx_Run p l e R s m args below meth c H locs cells slots mc ms (F0 m pc ls st0) rest (va_Qf post B A1 a) (vx_X px BX AX) free) (hS : va_S A0 H0 H locs) (hA : ∀ q, q < H.size → A1 q → A0 q) (hf : ∀ q, free q → A0 q) (hAX : ∀ q, q < H.size → AX q → A0 q)
    (kx : ∀ (E : String) (ce : Cell) (q9 : Addr) (u : SX) (t : State) (H1 : Heap) (locs1 : List Loc), t.heap = H1 → s.vm.Alike t.vm → px u → BX E u t → H.size ≤ H1.size → (∀ q : Nat, q < H.size → ¬ AX q → H1[q]? = H[q]?) → va_S A0 H0 H1 locs1 → H1[q9]? = some ce → ce.vm = .none → s.vm.findClass E = some ce.cls → vx_W p l e R s m args below meth c H1 locs1 (cells + mc) (slots + ms) Q (F0 m pc ls rest) q9)
    (kk : ∀ (r : UInt32) (u : S) (t : State) (H1 : Heap) (locs1 : List Loc), t.heap = H1 → s.vm.Alike t.vm → post r u → B u t → H.size ≤ H1.size → (∀ q : Nat, q < H.size → ¬ A1 q → H1[q]? = H[q]?) → va_S A0 H0 H1 locs1 → W p l e R s m args below meth c H1 locs1 (cells + mc) (slots + ms) Q (F0 m (pc + 3) ls (.float r :: rest))) : W p l e R s m args below meth c H locs cells slots Q (F0 m pc ls st0) := by
  intro T hT X
  rcases hr T hT X with ⟨v, st₀, t, T', L, h0, X', hL, e1, e2, ⟨⟨r, u, hv, hp, hb⟩, hF⟩, st⟩ | ⟨q, st₀, t, T', L, E, ce, h0, X', hL, e1, e2, ⟨u, hp, hb, hF⟩, hce, hcv, hcl, st⟩
  · cases hv
    obtain ⟨k1, k2, k3⟩ := vx_keep h0 e1 hS hA hf hL hF
    obtain ⟨t2, a1, b1⟩ := kk r u t T'.heap (locs ++ L) e1.symm (by rw [← e2]; exact X'.warmed.alike) hp hb k1 k2 k3 T' rfl X'
    exact ⟨t2, st t2 a1, b1⟩
  · obtain ⟨k1, k2, k3⟩ := vx_keep h0 e1 hS hAX hf hL hF
    obtain ⟨t2, a1, b1⟩ := kx E ce q u t T'.heap (locs ++ L) e1.symm (by rw [← e2]; exact X'.warmed.alike) hp hb k1 k2 k3 (by rw [e1]; exact hce) hcv hcl T' rfl X'
    exact ⟨t2, st.trans a1, b1⟩
theorem vx_calld {S SX : Type} {post : UInt64 → S → Prop} {px : SX → Prop} {B : S → State → Prop} {BX : String → SX → State → Prop} {AX : Nat → Prop} (hr : vx_Run p l e R s m args below meth c H locs cells slots mc ms (F0 m pc ls st0) rest (va_Qd post B A1 a) (vx_X px BX AX) free) (hS : va_S A0 H0 H locs) (hA : ∀ q, q < H.size → A1 q → A0 q) (hf : ∀ q, free q → A0 q) (hAX : ∀ q, q < H.size → AX q → A0 q)
    (kx : ∀ (E : String) (ce : Cell) (q9 : Addr) (u : SX) (t : State) (H1 : Heap) (locs1 : List Loc), t.heap = H1 → s.vm.Alike t.vm → px u → BX E u t → H.size ≤ H1.size → (∀ q : Nat, q < H.size → ¬ AX q → H1[q]? = H[q]?) → va_S A0 H0 H1 locs1 → H1[q9]? = some ce → ce.vm = .none → s.vm.findClass E = some ce.cls → vx_W p l e R s m args below meth c H1 locs1 (cells + mc) (slots + ms) Q (F0 m pc ls rest) q9)
    (kk : ∀ (r : UInt64) (u : S) (t : State) (H1 : Heap) (locs1 : List Loc), t.heap = H1 → s.vm.Alike t.vm → post r u → B u t → H.size ≤ H1.size → (∀ q : Nat, q < H.size → ¬ A1 q → H1[q]? = H[q]?) → va_S A0 H0 H1 locs1 → W p l e R s m args below meth c H1 locs1 (cells + mc) (slots + ms) Q (F0 m (pc + 3) ls (.double r :: rest))) : W p l e R s m args below meth c H locs cells slots Q (F0 m pc ls st0) := by
  intro T hT X
  rcases hr T hT X with ⟨v, st₀, t, T', L, h0, X', hL, e1, e2, ⟨⟨r, u, hv, hp, hb⟩, hF⟩, st⟩ | ⟨q, st₀, t, T', L, E, ce, h0, X', hL, e1, e2, ⟨u, hp, hb, hF⟩, hce, hcv, hcl, st⟩
  · cases hv
    obtain ⟨k1, k2, k3⟩ := vx_keep h0 e1 hS hA hf hL hF
    obtain ⟨t2, a1, b1⟩ := kk r u t T'.heap (locs ++ L) e1.symm (by rw [← e2]; exact X'.warmed.alike) hp hb k1 k2 k3 T' rfl X'
    exact ⟨t2, st t2 a1, b1⟩
  · obtain ⟨k1, k2, k3⟩ := vx_keep h0 e1 hS hAX hf hL hF
    obtain ⟨t2, a1, b1⟩ := kx E ce q u t T'.heap (locs ++ L) e1.symm (by rw [← e2]; exact X'.warmed.alike) hp hb k1 k2 k3 (by rw [e1]; exact hce) hcv hcl T' rfl X'
    exact ⟨t2, st.trans a1, b1⟩
theorem vx_callv {S SX : Type} {post : S → Prop} {px : SX → Prop} {B : S → State → Prop} {BX : String → SX → State → Prop} {AX : Nat → Prop} (hr : vx_Run p l e R s m args below meth c H locs cells slots mc ms (F0 m pc ls st0) rest (va_Qv post B A1 a) (vx_X px BX AX) free) (hS : va_S A0 H0 H locs) (hA : ∀ q, q < H.size → A1 q → A0 q) (hf : ∀ q, free q → A0 q) (hAX : ∀ q, q < H.size → AX q → A0 q)
    (kx : ∀ (E : String) (ce : Cell) (q9 : Addr) (u : SX) (t : State) (H1 : Heap) (locs1 : List Loc), t.heap = H1 → s.vm.Alike t.vm → px u → BX E u t → H.size ≤ H1.size → (∀ q : Nat, q < H.size → ¬ AX q → H1[q]? = H[q]?) → va_S A0 H0 H1 locs1 → H1[q9]? = some ce → ce.vm = .none → s.vm.findClass E = some ce.cls → vx_W p l e R s m args below meth c H1 locs1 (cells + mc) (slots + ms) Q (F0 m pc ls rest) q9)
    (kk : ∀ (u : S) (t : State) (H1 : Heap) (locs1 : List Loc), t.heap = H1 → s.vm.Alike t.vm → post u → B u t → H.size ≤ H1.size → (∀ q : Nat, q < H.size → ¬ A1 q → H1[q]? = H[q]?) → va_S A0 H0 H1 locs1 → W p l e R s m args below meth c H1 locs1 (cells + mc) (slots + ms) Q (F0 m (pc + 3) ls (rest))) : W p l e R s m args below meth c H locs cells slots Q (F0 m pc ls st0) := by
  intro T hT X
  rcases hr T hT X with ⟨v, st₀, t, T', L, h0, X', hL, e1, e2, ⟨⟨u, hv, hp, hb⟩, hF⟩, st⟩ | ⟨q, st₀, t, T', L, E, ce, h0, X', hL, e1, e2, ⟨u, hp, hb, hF⟩, hce, hcv, hcl, st⟩
  · cases hv
    obtain ⟨k1, k2, k3⟩ := vx_keep h0 e1 hS hA hf hL hF
    obtain ⟨t2, a1, b1⟩ := kk u t T'.heap (locs ++ L) e1.symm (by rw [← e2]; exact X'.warmed.alike) hp hb k1 k2 k3 T' rfl X'
    exact ⟨t2, st t2 a1, b1⟩
  · obtain ⟨k1, k2, k3⟩ := vx_keep h0 e1 hS hAX hf hL hF
    obtain ⟨t2, a1, b1⟩ := kx E ce q u t T'.heap (locs ++ L) e1.symm (by rw [← e2]; exact X'.warmed.alike) hp hb k1 k2 k3 (by rw [e1]; exact hce) hcv hcl T' rfl X'
    exact ⟨t2, st.trans a1, b1⟩
/-- caught by the row x of this method's table; the rows ahead don't take it -/
theorem vx_catch {own name : String} {E : String} {ce : Cell} {q : Addr} (hown : s.vm.findClass own = some m.cls) (pre : List ExceptionTableEntry) (x : ExceptionTableEntry) (suf : List ExceptionTableEntry) (hsplit : c.exceptionTable.toList = pre ++ x :: suf)
    (hpass : ∀ z ∈ pre, covers z pc = false ∨ (z.catchType ≠ 0 ∧ ∃ nm : String, (Cond.classLink own z.catchType nm).before args s = true ∧ va_Nc E nm s)) (hx : covers x pc = true) (h0 : x.catchType ≠ 0)
    (hlink : (Cond.classLink own x.catchType name).before args s = true) (hcast : (Cond.castable E name).before args s = true) (hcell : H[q]? = some ce) (hv : ce.vm = .none) (hcl : s.vm.findClass E = some ce.cls)
    (kk : W p l e R s m args below meth c H locs cells slots Q (F0 m x.handlerPc ls [.ref q])) : vx_W p l e R s m args below meth c H locs cells slots Q (F0 m pc ls rest) q := by
  intro T hT X
  have hpl : e.platform.magicAccessors = ({} : Platform).magicAccessors := by rw [X.admits.platform]
  obtain ⟨c3, c4, hc3, hc4, hasg⟩ := Cond.castable_spec hcast
  cases Option.some.inj (hc3.symm.trans hcl)
  obtain ⟨c5, hc5, hcl5⟩ := Cond.classLink_spec hown hlink e.platform hpl
  cases Option.some.inj (hc4.symm.trans hc5)
  obtain ⟨vm', X', st⟩ := X.thenCaughtThrough q (g := F0 m pc ls rest) rfl (Steps.refl _) (by rw [hT]; exact hcell) (by rw [hv]; rfl) (by obtain ⟨k9, h9, -⟩ := Vm.findClass_spec hcl; exact ⟨k9, h9⟩) pre x suf hsplit
    (fun z hz => by
      rcases hpass z hz with h | ⟨hz0, nm, hl1, hn1⟩
      · exact Or.inl h
      · obtain ⟨c6, hc6, hcl6⟩ := Cond.classLink_spec hown hl1 e.platform hpl
        obtain ⟨a8, b8, h1, h2, h3⟩ := hn1
        cases Option.some.inj (h1.symm.trans hcl)
        cases Option.some.inj (h2.symm.trans hc6)
        exact Or.inr ⟨hz0, _, hcl6, h3⟩) hx (Or.inr ⟨h0, c4, hcl5, hasg⟩)
  obtain ⟨t, a1, b1⟩ := kk (T.setVm vm') hT X'
  exact ⟨t, st.trans a1, b1⟩
end Rows
section Ends
variable {p : Program} {l : Launch} {e : Env} {R : Room} {s : State} {m : MethodId} {args : Array Value} {below : List Frame} {meth : Method} {c : Code} {H : Heap} {locs : List Loc} {cells slots : Nat} {Q : State → Prop}
variable {mc ms : Nat} {free : Addr → Prop} {A0 A1 : Nat → Prop} {H0 : Heap} {a : Array Value} {ls : Array Slot} {st0 rest : List Value}
variable {Qc : Array Value → State → Outcome → State → Prop} {XC : String → State → State → Prop}
/-- what a body that may throw owes at its end -/
def vx_MQ (below : List Frame) (Qc : Array Value → State → Outcome → State → Prop) (XC : String → State → State → Prop) (a : Array Value) (s : State) (mc ms : Nat) (free : Addr → Prop) : State → Prop := fun t =>
  ∃ o, t.status = .running ∧ Ended t below o ∧ vx_Q Qc XC mc ms free a s o t
theorem vx_ret {g : JFrame} {mc ms : Nat} (k : W p l e R s m args below meth c H locs cells slots (MQ below Qc args s mc ms free) g) : W p l e R s m args below meth c H locs cells slots (vx_MQ below Qc XC args s mc ms free) g := by
  intro T hT X
  obtain ⟨t, a1, o, b1, b2, b3, b4⟩ := k T hT X
  exact ⟨t, a1, o, b1, b2, Or.inl ⟨b3, b4⟩⟩
/-- not caught here: it goes on to the caller -/
theorem vx_widen {g : JFrame} {q : Addr} {k n : Nat} (h1 : cells ≤ k) (h2 : slots ≤ n) (kk : vx_W p l e R s m args below meth c H locs k n Q g q) : vx_W p l e R s m args below meth c H locs cells slots Q g q := fun T hT X => kk T hT (stand_widen X h1 h2)
theorem vx_out {pc : Nat} {E : String} {ce : Cell} {q : Addr} {mc ms : Nat} (hout : ∀ x ∈ c.exceptionTable.toList, covers x pc = false) (hlocks : meth.locks = false) (hcell : H[q]? = some ce) (hv : ce.vm = .none) (hcl : s.vm.findClass E = some ce.cls)
    (hx : ∀ t : State, t.heap = H → s.vm.Alike t.vm → XC E s t) (hf : ∀ z ∈ locs, free z.base) (hc : cells ≤ mc) (hs : slots ≤ ms) :
    vx_W p l e R s m args below meth c H locs cells slots (vx_MQ below Qc XC args s mc ms free) (F0 m pc ls rest) q := by
  intro T hT X
  obtain ⟨st1, hrun, hend, hW, hsm⟩ := X.leaveThrown q (g := F0 m pc ls rest) rfl rfl rfl hout hlocks
  have hcell9 : (T.setFrames (.throwing q :: below)).heap[q]? = some ce := by
    show T.heap[q]? = some ce
    rw [hT]; exact hcell
  exact ⟨_, st1, .threw q, hrun, hend, Or.inr ⟨q, rfl, E, ce, locs, hx _ hT hW.alike, hcell9, hv, hcl, hW, hsm.mono hc hs, hf⟩⟩
theorem vx_frame {U : State} {k n : Nat} (h : s.sameButNew ({ U with vm := s.vm } : State) locs k n) : s.heap.size ≤ U.heap.size ∧ ∀ q : Nat, q < s.heap.size → (∀ z ∈ locs, z.base ≠ q) → U.heap[q]? = s.heap[q]? := by
  obtain ⟨-, h2, -, -, -, h6⟩ := h
  refine ⟨h2, fun q hq hz => ?_⟩
  obtain ⟨c9, e1, e2, e3, e4⟩ := h6 q _ (Array.getElem?_eq_getElem hq)
  have hs : c9.slots = (s.heap[q]).slots := Array.ext_getElem? fun i => e4 i fun hm => hz _ hm rfl
  have h9 : c9 = s.heap[q] := by
    rw [hs] at e2
    exact e2
  have e5 : U.heap[q]? = some c9 := e1
  rw [e5, h9, Array.getElem?_eq_getElem hq]
/-- the words of a throw but the four that speak of the heap -/
def vx_no (w : Cond) : Bool := decide (w ≠ .isRef (.static Bundle.tN "UNASSIGNED_STACK" Bundle.steD)) && decide (w ≠ .isRef (.static Bundle.tN "SUPPRESSED_SENTINEL" Bundle.listD)) && decide (w ≠ .laysStatic Bundle.tN "UNASSIGNED_STACK" Bundle.steD) && decide (w ≠ .laysStatic Bundle.tN "SUPPRESSED_SENTINEL" Bundle.listD)
def vx_at0 (own : String) (ic : Nat) (X : String) (names : List String) : List Cond := (Bundle.ownAtoms0 own ic X names).filter vx_no
def vx_atS (own : String) (ic : Nat) (X : String) (names : List String) : List Cond := (Bundle.ownAtoms own ic X names).filter vx_no
/-- a word that the tables alone decide, or a good one -/
def vx_ot (w : Cond) : Bool := w.onTables || goodWord w
theorem vx_ot_at {args a' : Array Value} {s U : State} {w : Cond} (hW : s.WarmedH U.vm) (hvm : s.vm = U.vm) (hg : vx_ot w = true) (h : w.before args s = true) : w.before a' U = true := by
  simp only [vx_ot, Bool.or_eq_true] at hg
  rcases hg with hg | hg
  · exact va_tabs hg hvm h
  · exact word_at hW (good_of_word hg) h
/-- a list's words: the good ones out of the method's own list, the others by premises of their own -/
theorem vx_hat {args : Array Value} {s : State} {L B : List Cond} (h1 : ∀ w ∈ L.filter goodWord, w.before args s = true) (h2 : ∀ w ∈ L.filter (fun w => !goodWord w), w ∈ B) (h3 : ∀ w ∈ B, w.before args s = true) : ∀ w ∈ L, w.before args s = true := by
  intro w hw
  by_cases g : goodWord w = true
  · exact h1 w (List.mem_filter.mpr ⟨hw, g⟩)
  · refine h3 w (h2 w (List.mem_filter.mpr ⟨hw, ?_⟩))
    show (!goodWord w) = true
    cases hgw : goodWord w
    · rfl
    · exact absurd hgw g
theorem vx_c {args : Array Value} {s : State} {w : Cond} {B : List Cond} (h : w.before args s = true) (t : ∀ w ∈ B, w.before args s = true) : ∀ w' ∈ w :: B, w'.before args s = true := fun w' h' => (List.mem_cons.mp h').elim (fun e => by rw [e]; exact h) (t w')
theorem vx_n {args : Array Value} {s : State} : ∀ w ∈ ([] : List Cond), w.before args s = true := fun _ h => nomatch h
theorem vx_own {args : Array Value} {s : State} {L : List Cond} (h1 : ∀ w ∈ L.filter vx_no, w.before args s = true)
    (hU : (Cond.isRef (.static Bundle.tN "UNASSIGNED_STACK" Bundle.steD)).before args s = true) (hN : (Cond.isRef (.static Bundle.tN "SUPPRESSED_SENTINEL" Bundle.listD)).before args s = true)
    (lU : (Cond.laysStatic Bundle.tN "UNASSIGNED_STACK" Bundle.steD).before args s = true) (lN : (Cond.laysStatic Bundle.tN "SUPPRESSED_SENTINEL" Bundle.listD).before args s = true) : ∀ w ∈ L, w.before args s = true := by
  intro w hw
  by_cases e1 : w = .isRef (.static Bundle.tN "UNASSIGNED_STACK" Bundle.steD)
  · rw [e1]; exact hU
  · by_cases e2 : w = .isRef (.static Bundle.tN "SUPPRESSED_SENTINEL" Bundle.listD)
    · rw [e2]; exact hN
    · by_cases e3 : w = .laysStatic Bundle.tN "UNASSIGNED_STACK" Bundle.steD
      · rw [e3]; exact lU
      · by_cases e4 : w = .laysStatic Bundle.tN "SUPPRESSED_SENTINEL" Bundle.listD
        · rw [e4]; exact lN
        · exact h1 w (List.mem_filter.mpr ⟨hw, by unfold vx_no; rw [decide_eq_true e1, decide_eq_true e2, decide_eq_true e3, decide_eq_true e4]; rfl⟩)
/-- where a static field lies, its class's statics cell in H -/
def vx_L (C n d : String) (A : Nat → Prop) (U : State) (H : Heap) : Prop := ∃ (c : ClassId) (k : Class) (i : Nat) (f : Field) (a : Nat) (cell : Cell), U.vm.findClass C = some c ∧ U.fieldFound? C n d = some (c, k, i, f) ∧ f.isStatic = true ∧ k.statics = some a ∧ H[a]? = some cell ∧ cell.vm.isStatics = true ∧ cell.cls = c ∧ f.slot < cell.slots.size ∧ k.staticTypes[f.slot]? = some f.type ∧ ¬ A a
theorem vx_L.moved {C n d : String} {A : Nat → Prop} {u U : State} {H : Heap} (hvm : u.vm.Alike U.vm) (h : vx_L C n d A u H) : vx_L C n d A U H := by
  obtain ⟨c, k, i, f, a, cell, h1, h2, h3, h4, h5, h6, h7, h8, h9, h10⟩ := h
  obtain ⟨k', hi', he⟩ := State.fieldFound?_setVm hvm h2
  exact ⟨c, k', i, f, a, cell, by rw [hvm.findClass]; exact h1, hi', h3, by rw [he]; exact h4, h5, h6, h7, h8, by rw [he]; exact h9, h10⟩
theorem vx_L.kept {C n d : String} {A : Nat → Prop} {U : State} {H H1 : Heap} (h : vx_L C n d A U H) (hq : ∀ a : Nat, a < H.size → ¬ A a → H1[a]? = H[a]?) : vx_L C n d A U H1 := by
  obtain ⟨c, k, i, f, a, cell, h1, h2, h3, h4, h5, h6, h7, h8, h9, h10⟩ := h
  exact ⟨c, k, i, f, a, cell, h1, h2, h3, h4, by rw [hq a (Array.getElem?_eq_some_iff.mp h5).1 h10]; exact h5, h6, h7, h8, h9, h10⟩
theorem vx_L.narrow {C n d : String} {A B : Nat → Prop} {U : State} {H : Heap} (h : vx_L C n d A U H) (hAB : ∀ q, B q → A q) : vx_L C n d B U H := by
  obtain ⟨c, k, i, f, a, cell, h1, h2, h3, h4, h5, h6, h7, h8, h9, h10⟩ := h
  exact ⟨c, k, i, f, a, cell, h1, h2, h3, h4, h5, h6, h7, h8, h9, fun z => h10 (hAB _ z)⟩
theorem vx_L.word {C n d : String} {A : Nat → Prop} {s : State} {args : Array Value} (h : vx_L C n d A s s.heap) : (Cond.laysStatic C n d).before args s = true := by
  obtain ⟨c, k, i, f, a, cell, h1, h2, h3, h4, h5, h6, h7, h8, h9, -⟩ := h
  show (Cond.laysStatic C n d).holds args s none s [] = true
  exact Cond.laysStatic_of h1 h2 h3 h4 h5 h6 h7 h8 h9
/-- .. and what it holds: null or some reference -/
def vx_Zq (C n d : String) (A : Nat → Prop) (U : State) (H : Heap) : Prop := va_Zq C n d A U H ∧ vx_L C n d A U H
theorem vx_Zq.moved {C n d : String} {A : Nat → Prop} {u U : State} {H : Heap} (hvm : u.vm.Alike U.vm) (h : vx_Zq C n d A u H) : vx_Zq C n d A U H := ⟨va_Zq.moved hvm h.1, vx_L.moved hvm h.2⟩
theorem vx_Zq.kept {C n d : String} {A : Nat → Prop} {U : State} {H H1 : Heap} (h : vx_Zq C n d A U H) (hq : ∀ a : Nat, a < H.size → ¬ A a → H1[a]? = H[a]?) : vx_Zq C n d A U H1 := ⟨va_Zq.kept h.1 hq, vx_L.kept h.2 hq⟩
theorem vx_Zq.narrow {C n d : String} {A B : Nat → Prop} {U : State} {H : Heap} (h : vx_Zq C n d A U H) (hAB : ∀ q, B q → A q) : vx_Zq C n d B U H := ⟨va_Zq.narrow h.1 hAB, vx_L.narrow h.2 hAB⟩
theorem vx_Zqof {args : Array Value} {s : State} {C n d : String} {A : Nat → Prop} (hl : (Cond.laysStatic C n d).before args s = true) (hini : (Cond.initialized C).before args s = true) (h : (Cond.isRef (.static C n d)).before args s = true) (hA : ∀ a : Nat, a < s.heap.size → ¬ A a) : vx_Zq C n d A s s.heap := by
  refine ⟨va_Zqof hl hini h hA, ?_⟩
  obtain ⟨c, k, i, f, a, cell, h1, h2, h3, h4, h5, h6, h7, h8, h9⟩ := Cond.laysStatic_spec hl
  exact ⟨c, k, i, f, a, cell, h1, h2, h3, h4, h5, h6, h7, h8, h9, hA a (Array.getElem?_eq_some_iff.mp h5).1⟩
theorem vx_isRef {C n d : String} {v : Value} {A : Nat → Prop} {s : State} {args : Array Value} (h : va_Z C n d v A s s.heap) (hv : v.isRef = true) : (Cond.isRef (.static C n d)).before args s = true := by
  obtain ⟨cf, kf, fi, f, a, cell, h1, h2, h3, h4, h5, h6, h7, -⟩ := h
  have he : (Term.static C n d).eval args s none [] s = some v := by
    simp [Term.eval, State.fieldNamed?, h1, h2, h4, h5, h6, h7]
  simp only [Cond.before, Cond.holds, Cond.value, he]
  cases v <;> simp_all [Value.isRef]
theorem vx_isRefq {C n d : String} {A : Nat → Prop} {s : State} {args : Array Value} (h : va_Zq C n d A s s.heap) : (Cond.isRef (.static C n d)).before args s = true := by
  rcases h with h | ⟨t, h⟩
  · exact vx_isRef h rfl
  · exact vx_isRef h rfl
/-- the same frame, seen from here: as if the method were called anew in this heap -/
theorem vx_rebase {T : State} (X : Stand p l e R s m args below meth c T locs cells slots) {R' : Room} (hf : R'.frames ≤ R.frames) (hl : R'.locals ≤ R.locals) (hc : cells + R'.cells ≤ R.cells) (hs : slots + R'.slots ≤ R.slots) :
    Stand p l e R' ((T.setVm s.vm).setFrames (.invoking m args :: below)) m args below meth c T [] 0 0 := by
  have htop : (T.setVm s.vm).topJava?.isSome := X.here.top
  have hF : ((T.setVm s.vm).setFrames (.invoking m args :: below)).frames = .invoking m args :: below := State.frames_setFrames _ (State.cur_lt_of_top htop)
  obtain ⟨g₀, hg0⟩ := Option.isSome_iff_exists.mp htop
  obtain ⟨r, hr⟩ := State.topJava?_eq_some.mp hg0
  have hl9 : e.platform.stackLimits (T.setVm s.vm).me = e.platform.stackLimits s.me := X.limits
  have hb9 : (T.setVm s.vm).me.stackBytes = s.me.stackBytes := X.bytes
  refine ⟨X.admits, X.cas, X.clock, hF, ?_, X.hears, X.method, X.code, X.here, X.tail, X.warmed, ?_, ?_, ?_⟩
  · have h := X.room
    have hU : ((T.setVm s.vm).setFrames (.invoking m args :: below)).localsInUse = s.localsInUse := by
      rw [State.localsInUse_invoking hF (meth := meth) (c := c) X.method X.code, State.localsInUse_invoking X.frames X.method X.code]
    simp only [State.hasRoom, Bool.and_eq_true, decide_eq_true_eq] at h ⊢
    obtain ⟨⟨⟨⟨h1, h2, h3, h4, h5, h6⟩, h7⟩, h8⟩, h9⟩ := h
    rw [X.frames, List.length_cons] at h2 h3
    have q1 := X.heapSize
    have q2 := X.used
    simp only [hF, hU, List.length_cons, State.stackLimits_setFrames, State.stackBytes_setFrames, hl9, hb9]
    refine ⟨⟨⟨⟨by omega, by omega, by omega, by omega, by omega, h6⟩, ?_⟩, ?_⟩, X.book⟩
    · show T.heap.size + R'.cells ≤ e.platform.maxCells
      omega
    · show T.slotsUsed + R'.slots ≤ e.platform.maxSlots
      omega
  · rw [State.stackLimits_setFrames]; rfl
  · rw [State.stackBytes_setFrames]; rfl
  · refine ⟨?_, Nat.le_refl _, Nat.le_refl _, ?_, ?_, fun a c9 h9 => ⟨c9, h9, rfl, rfl, fun _ _ => rfl⟩⟩
    · obtain ⟨t, ht, -⟩ := State.frames_cons hr
      show T.setVm s.vm = { ((T.setVm s.vm).setFrames (.invoking m args :: below)).setFrames (T.setVm s.vm).frames with heap := T.heap, slotsUsed := T.slotsUsed }
      rw [State.setFrames_setFrames, State.setFrames_self ht]
      rfl
    · show T.slotsUsed = T.slotsUsed + ((T.heap.toList.drop T.heap.size).map (·.slots.size)).sum
      rw [List.drop_eq_nil_of_le (Nat.le_of_eq Array.length_toList)]
      rfl
    · show ((T.heap.toList.drop T.heap.size).map (·.slots.size)).sum ≤ 0
      rw [List.drop_eq_nil_of_le (Nat.le_of_eq Array.length_toList)]
      exact Nat.le_refl _
/-- 'throw new E()': new; dup; invokespecial; athrow -/
theorem vx_throw0 {cc : ByteArray} {pc : Nat} (hexec : p.tables.exec = Jvm.exec) (hb : c.code = cc) (hl : l.stackTraces = false) {own cls : String} {names : List String} {ik ic mc ms : Nat} {A : Nat → Prop}
    (hown : s.vm.findClass own = some m.cls) (hcls : Bundle.fit cls = true) (hnames : ∀ n ∈ names, Bundle.fit n = true)
    (hk : (Cond.classLink own ik cls).before args s = true) (hini : (Cond.initialized cls).before args s = true) (hat : ∀ w ∈ vx_at0 own ic cls names, w.before args s = true)
    (hgood : ∀ w ∈ Cond.classLink own ik cls :: Cond.initialized cls :: vx_at0 own ic cls names, vx_ot w = true)
    (hU : vx_Zq Bundle.tN "UNASSIGNED_STACK" Bundle.steD A s s.heap) (hN : vx_Zq Bundle.tN "SUPPRESSED_SENTINEL" Bundle.listD A s s.heap) (hS : va_S A s.heap H locs) (hsize : ls.size = c.maxLocals)
    (d0 : decode cc pc = .ok (.new ik, 3)) (d3 : decode cc (pc + 3) = .ok (.dup, 1)) (d4 : decode cc (pc + 4) = .ok (.invokespecial ic, 3)) (d7 : decode cc (pc + 7) = .ok (.athrow, 1))
    (hout : ∀ x ∈ c.exceptionTable.toList, covers x (pc + 7) = false)
    (hRframes : names.length + 3 < R.frames) (hRlocals : (rest.map fun v => v.category).sum + (13 * (names.length + 1) + 42) ≤ R.locals) (hRcells : cells + 1 ≤ R.cells) (hRslots : slots + 6 ≤ R.slots) (hlocks : meth.locks = false)
    (hx : ∀ t : State, s.vm.Alike t.vm → H.size ≤ t.heap.size → (∀ q : Nat, q < H.size → t.heap[q]? = H[q]?) → XC cls s t)
    (hf : ∀ z ∈ locs, free z.base) (hc : cells + 1 ≤ mc) (hs : slots + 6 ≤ ms) :
    W p l e R s m args below meth c H locs cells slots (vx_MQ below Qc XC args s mc ms free) (F0 m pc ls rest) := by
  intro T hT X
  have htr : e.platform.stackTraces = false := (show e.platform.stackTraces = l.stackTraces by rw [X.admits.platform]).trans hl
  have Y := vx_rebase X (R' := { frames := R.frames, locals := R.locals, cells := 1, slots := 6 }) (Nat.le_refl _) (Nat.le_refl _) hRcells hRslots
  obtain ⟨s', hA⟩ : ∃ z, z = (T.setVm s.vm).setFrames (.invoking m args :: below) := ⟨_, rfl⟩
  rw [← hA] at Y
  have hvm : s'.vm = s.vm := by rw [hA]; rfl
  have hhp : s'.heap = H := by rw [hA]; exact hT
  have hW0 : s.WarmedH s'.vm := by rw [hvm]; exact State.WarmedH.refl s
  have hat' : ∀ w ∈ vx_at0 own ic cls names, w.before args s' = true := fun w hw => vx_ot_at hW0 hvm.symm (hgood w (List.mem_cons_of_mem _ (List.mem_cons_of_mem _ hw))) (hat w hw)
  have hk' : (Cond.classLink own ik cls).before args s' = true := vx_ot_at hW0 hvm.symm (hgood _ List.mem_cons_self) hk
  have hini' : (Cond.initialized cls).before args s' = true := vx_ot_at hW0 hvm.symm (hgood _ (List.mem_cons_of_mem _ List.mem_cons_self)) hini
  have hU' : vx_Zq Bundle.tN "UNASSIGNED_STACK" Bundle.steD A s' s'.heap := by rw [hhp]; exact vx_Zq.moved hW0.alike (hU.kept hS.2.1)
  have hN' : vx_Zq Bundle.tN "SUPPRESSED_SENTINEL" Bundle.listD A s' s'.heap := by rw [hhp]; exact vx_Zq.moved hW0.alike (hN.kept hS.2.1)
  have h : ∀ w ∈ Bundle.ownAtoms0 own ic cls names, w.before args s' = true := vx_own hat' (vx_isRefq hU'.1) (vx_isRefq hN'.1) hU'.2.word hN'.2.word
  have hown' : s'.vm.findClass own = some m.cls := by rw [hvm]; exact hown
  have hins : (Cond.instantiable cls 6).before args s' = true := h _ (by simp [Bundle.ownAtoms0])
  obtain ⟨vm₁, cX, kX, hfX, hkX, -, -, X₁, st1⟩ := Y.newCold hexec (own := own) (C := cls) (index := ik) (n := 6) hown' hk' hins hini'
    (g := F0 m pc ls rest) rfl (by rw [hb]; exact d0) (Nat.le_refl _) (Nat.le_refl _)
  generalize hT1 : (T.setVm vm₁).pushCell { cls := cX, slots := kX.instanceTypes.map defaultValue, vm := .none } = T1 at X₁ st1
  have hcat : (Value.ref T.heap.size).category = 1 := rfl
  have hcellA : T1.heap[T.heap.size]? = some (freshCell cX kX) := by rw [← hT1]; exact State.heap_pushCell_size _ _
  have d3' : decode c.code (pc + 3) = .ok (.dup, 1) := by rw [hb]; exact d3
  obtain ⟨U, hsteps, hrun, hend, hW, hsame, ce, hce, hO⟩ := X₁.ctorThrow0 hexec htr (own := own) (cls := cls) (names := names) (ic := ic) hown' hcls hnames h (fun x hx => nomatch hx) hfX hkX hcellA (by rw [hhp, hT]; exact Nat.le_refl _)
    (g := { method := m, pc := pc + 4, locals := ls, stack := .ref T.heap.size :: .ref T.heap.size :: rest, locked := none }) rfl hsize rfl rfl (rest := rest) rfl
    (by rw [hb]; exact d4) (by rw [hb]; exact d7) hout hRframes (by simp only [List.map_cons, List.sum_cons, hcat]; omega) hlocks
  obtain ⟨f1, f2⟩ := vx_frame hsame
  rw [hhp] at f1 f2
  have hWs : s.WarmedH U.vm := State.WarmedH.trans hW0 hW
  have hcl : s.vm.findClass cls = some ce.cls := by
    have h9 := hO.cls
    rw [hvm] at h9
    exact h9
  have hall : s.sameButNew ({ U with vm := s.vm } : State) locs mc ms := by
    subst hA
    obtain ⟨e1, e2⟩ := hsame
    rw [State.setFrames_setFrames] at e1
    have h2 : (T.setVm s.vm).sameButNew ({ U with vm := s.vm } : State) [] (0 + 1) (0 + 6) := ⟨e1, e2⟩
    have h3 := X.same.trans h2
    rw [List.append_nil] at h3
    exact h3.mono hc hs
  refine ⟨U, ?_, .threw T.heap.size, hrun, hend, Or.inr ⟨T.heap.size, rfl, cls, ce, locs, hx U hWs.alike f1 (fun q hq => f2 q hq (fun z hz => nomatch hz)), hce, hO.vm, hcl, hWs, hall, hf⟩⟩
  refine st1 _ ?_
  show Steps p.tables e below (T1.setTop { method := m, pc := pc + 3, locals := ls, stack := .ref T.heap.size :: rest, locked := none }) _
  jvm_step X₁.here [X₁.here.top, hexec, d3', Value.category]
  exact hsteps
/-- 'throw new E("text")': new; dup; ldc; invokespecial; athrow -/
theorem vx_throwS {cc : ByteArray} {pc : Nat} (hexec : p.tables.exec = Jvm.exec) (hb : c.code = cc) (hl : l.stackTraces = false) {own cls text : String} {names : List String} {ik is ic mc ms sa : Nat} {A : Nat → Prop}
    (hown : s.vm.findClass own = some m.cls) (hcls : Bundle.fit cls = true) (hnames : ∀ n ∈ names, Bundle.fit n = true)
    (hk : (Cond.classLink own ik cls).before args s = true) (hini : (Cond.initialized cls).before args s = true) (hstr : vk_R own is text sa s) (hat : ∀ w ∈ vx_atS own ic cls names, w.before args s = true)
    (hgood : ∀ w ∈ Cond.classLink own ik cls :: Cond.initialized cls :: vx_atS own ic cls names, vx_ot w = true)
    (hU : vx_Zq Bundle.tN "UNASSIGNED_STACK" Bundle.steD A s s.heap) (hN : vx_Zq Bundle.tN "SUPPRESSED_SENTINEL" Bundle.listD A s s.heap) (hS : va_S A s.heap H locs) (hsize : ls.size = c.maxLocals)
    (d0 : decode cc pc = .ok (.new ik, 3)) (d3 : decode cc (pc + 3) = .ok (.dup, 1)) (d4 : decode cc (pc + 4) = .ok (.ldc is, 2)) (d6 : decode cc (pc + 6) = .ok (.invokespecial ic, 3)) (d9 : decode cc (pc + 9) = .ok (.athrow, 1))
    (hout : ∀ x ∈ c.exceptionTable.toList, covers x (pc + 9) = false)
    (hRframes : names.length + 3 < R.frames) (hRlocals : (rest.map fun v => v.category).sum + (13 * (names.length + 1) + 43) ≤ R.locals) (hRcells : cells + 1 ≤ R.cells) (hRslots : slots + 6 ≤ R.slots) (hlocks : meth.locks = false)
    (hx : ∀ t : State, s.vm.Alike t.vm → H.size ≤ t.heap.size → (∀ q : Nat, q < H.size → t.heap[q]? = H[q]?) → XC cls s t)
    (hf : ∀ z ∈ locs, free z.base) (hc : cells + 1 ≤ mc) (hs : slots + 6 ≤ ms) :
    W p l e R s m args below meth c H locs cells slots (vx_MQ below Qc XC args s mc ms free) (F0 m pc ls rest) := by
  intro T hT X
  have htr : e.platform.stackTraces = false := (show e.platform.stackTraces = l.stackTraces by rw [X.admits.platform]).trans hl
  have Y := vx_rebase X (R' := { frames := R.frames, locals := R.locals, cells := 1, slots := 6 }) (Nat.le_refl _) (Nat.le_refl _) hRcells hRslots
  obtain ⟨s', hA⟩ : ∃ z, z = (T.setVm s.vm).setFrames (.invoking m args :: below) := ⟨_, rfl⟩
  rw [← hA] at Y
  have hvm : s'.vm = s.vm := by rw [hA]; rfl
  have hhp : s'.heap = H := by rw [hA]; exact hT
  have hW0 : s.WarmedH s'.vm := by rw [hvm]; exact State.WarmedH.refl s
  have hat' : ∀ w ∈ vx_atS own ic cls names, w.before args s' = true := fun w hw => vx_ot_at hW0 hvm.symm (hgood w (List.mem_cons_of_mem _ (List.mem_cons_of_mem _ hw))) (hat w hw)
  have hk' : (Cond.classLink own ik cls).before args s' = true := vx_ot_at hW0 hvm.symm (hgood _ List.mem_cons_self) hk
  have hini' : (Cond.initialized cls).before args s' = true := vx_ot_at hW0 hvm.symm (hgood _ (List.mem_cons_of_mem _ List.mem_cons_self)) hini
  have hU' : vx_Zq Bundle.tN "UNASSIGNED_STACK" Bundle.steD A s' s'.heap := by rw [hhp]; exact vx_Zq.moved hW0.alike (hU.kept hS.2.1)
  have hN' : vx_Zq Bundle.tN "SUPPRESSED_SENTINEL" Bundle.listD A s' s'.heap := by rw [hhp]; exact vx_Zq.moved hW0.alike (hN.kept hS.2.1)
  have h : ∀ w ∈ Bundle.ownAtoms own ic cls names, w.before args s' = true := vx_own hat' (vx_isRefq hU'.1) (vx_isRefq hN'.1) hU'.2.word hN'.2.word
  have hown' : s'.vm.findClass own = some m.cls := by rw [hvm]; exact hown
  have hins : (Cond.instantiable cls 6).before args s' = true := h _ (by simp [Bundle.ownAtoms])
  obtain ⟨vm₁, cX, kX, hfX, hkX, -, -, X₁, st1⟩ := Y.newCold hexec (own := own) (C := cls) (index := ik) (n := 6) hown' hk' hins hini'
    (g := F0 m pc ls rest) rfl (by rw [hb]; exact d0) (Nat.le_refl _) (Nat.le_refl _)
  generalize hT1 : (T.setVm vm₁).pushCell { cls := cX, slots := kX.instanceTypes.map defaultValue, vm := .none } = T1 at X₁ st1
  have hcat : (Value.ref T.heap.size).category = 1 := rfl
  have hcellA : T1.heap[T.heap.size]? = some (freshCell cX kX) := by rw [← hT1]; exact State.heap_pushCell_size _ _
  have d3' : decode c.code (pc + 3) = .ok (.dup, 1) := by rw [hb]; exact d3
  have d4' : decode c.code (pc + 4) = .ok (.ldc is, 2) := by rw [hb]; exact d4
  have hstr' : vk_R own is text sa s' := vk_R.warm hW0 hstr
  obtain ⟨U, hsteps, hrun, hend, hW, hsame, ce, hce, hO⟩ := X₁.ctorThrowS hexec htr (own := own) (cls := cls) (names := names) (ic := ic) hown' hcls hnames h (fun x hx => nomatch hx) hfX hkX hcellA (by rw [hhp, hT]; exact Nat.le_refl _) (msg := .ref sa) rfl
    (g := { method := m, pc := pc + 6, locals := ls, stack := .ref sa :: .ref T.heap.size :: .ref T.heap.size :: rest, locked := none }) rfl hsize rfl rfl (rest := rest) rfl
    (by rw [hb]; exact d6) (by rw [hb]; exact d9) hout hRframes (by simp only [List.map_cons, List.sum_cons, hcat]; omega) hlocks
  obtain ⟨f1, f2⟩ := vx_frame hsame
  rw [hhp] at f1 f2
  have hWs : s.WarmedH U.vm := State.WarmedH.trans hW0 hW
  have hcl : s.vm.findClass cls = some ce.cls := by
    have h9 := hO.cls
    rw [hvm] at h9
    exact h9
  have hall : s.sameButNew ({ U with vm := s.vm } : State) locs mc ms := by
    subst hA
    obtain ⟨e1, e2⟩ := hsame
    rw [State.setFrames_setFrames] at e1
    have h2 : (T.setVm s.vm).sameButNew ({ U with vm := s.vm } : State) [] (0 + 1) (0 + 6) := ⟨e1, e2⟩
    have h3 := X.same.trans h2
    rw [List.append_nil] at h3
    exact h3.mono hc hs
  refine ⟨U, ?_, .threw T.heap.size, hrun, hend, Or.inr ⟨T.heap.size, rfl, cls, ce, locs, hx U hWs.alike f1 (fun q hq => f2 q hq (fun z hz => nomatch hz)), hce, hO.vm, hcl, hWs, hall, hf⟩⟩
  refine st1 _ ?_
  show Steps p.tables e below (T1.setTop { method := m, pc := pc + 3, locals := ls, stack := .ref T.heap.size :: rest, locked := none }) _
  jvm_step X₁.here [X₁.here.top, hexec, d3', Value.category]
  exact X₁.ldcString hexec (own := own) (text := text) (index := is) (a := sa) hown' hstr'.1 hstr'.2
    (g := { method := m, pc := pc + 4, locals := ls, stack := .ref T.heap.size :: .ref T.heap.size :: rest, locked := none }) rfl d4' _ hsteps
/-- 'throw new E("text")', the text by a wide index -/
theorem vx_throwSW {cc : ByteArray} {pc : Nat} (hexec : p.tables.exec = Jvm.exec) (hb : c.code = cc) (hl : l.stackTraces = false) {own cls text : String} {names : List String} {ik is ic mc ms sa : Nat} {A : Nat → Prop}
    (hown : s.vm.findClass own = some m.cls) (hcls : Bundle.fit cls = true) (hnames : ∀ n ∈ names, Bundle.fit n = true)
    (hk : (Cond.classLink own ik cls).before args s = true) (hini : (Cond.initialized cls).before args s = true) (hstr : vk_R own is text sa s) (hat : ∀ w ∈ vx_atS own ic cls names, w.before args s = true)
    (hgood : ∀ w ∈ Cond.classLink own ik cls :: Cond.initialized cls :: vx_atS own ic cls names, vx_ot w = true)
    (hU : vx_Zq Bundle.tN "UNASSIGNED_STACK" Bundle.steD A s s.heap) (hN : vx_Zq Bundle.tN "SUPPRESSED_SENTINEL" Bundle.listD A s s.heap) (hS : va_S A s.heap H locs) (hsize : ls.size = c.maxLocals)
    (d0 : decode cc pc = .ok (.new ik, 3)) (d3 : decode cc (pc + 3) = .ok (.dup, 1)) (d4 : decode cc (pc + 4) = .ok (.ldc_w is, 3)) (d7 : decode cc (pc + 7) = .ok (.invokespecial ic, 3)) (d10 : decode cc (pc + 10) = .ok (.athrow, 1))
    (hout : ∀ x ∈ c.exceptionTable.toList, covers x (pc + 10) = false)
    (hRframes : names.length + 3 < R.frames) (hRlocals : (rest.map fun v => v.category).sum + (13 * (names.length + 1) + 43) ≤ R.locals) (hRcells : cells + 1 ≤ R.cells) (hRslots : slots + 6 ≤ R.slots) (hlocks : meth.locks = false)
    (hx : ∀ t : State, s.vm.Alike t.vm → H.size ≤ t.heap.size → (∀ q : Nat, q < H.size → t.heap[q]? = H[q]?) → XC cls s t)
    (hf : ∀ z ∈ locs, free z.base) (hc : cells + 1 ≤ mc) (hs : slots + 6 ≤ ms) :
    W p l e R s m args below meth c H locs cells slots (vx_MQ below Qc XC args s mc ms free) (F0 m pc ls rest) := by
  intro T hT X
  have htr : e.platform.stackTraces = false := (show e.platform.stackTraces = l.stackTraces by rw [X.admits.platform]).trans hl
  have Y := vx_rebase X (R' := { frames := R.frames, locals := R.locals, cells := 1, slots := 6 }) (Nat.le_refl _) (Nat.le_refl _) hRcells hRslots
  obtain ⟨s', hA⟩ : ∃ z, z = (T.setVm s.vm).setFrames (.invoking m args :: below) := ⟨_, rfl⟩
  rw [← hA] at Y
  have hvm : s'.vm = s.vm := by rw [hA]; rfl
  have hhp : s'.heap = H := by rw [hA]; exact hT
  have hW0 : s.WarmedH s'.vm := by rw [hvm]; exact State.WarmedH.refl s
  have hat' : ∀ w ∈ vx_atS own ic cls names, w.before args s' = true := fun w hw => vx_ot_at hW0 hvm.symm (hgood w (List.mem_cons_of_mem _ (List.mem_cons_of_mem _ hw))) (hat w hw)
  have hk' : (Cond.classLink own ik cls).before args s' = true := vx_ot_at hW0 hvm.symm (hgood _ List.mem_cons_self) hk
  have hini' : (Cond.initialized cls).before args s' = true := vx_ot_at hW0 hvm.symm (hgood _ (List.mem_cons_of_mem _ List.mem_cons_self)) hini
  have hU' : vx_Zq Bundle.tN "UNASSIGNED_STACK" Bundle.steD A s' s'.heap := by rw [hhp]; exact vx_Zq.moved hW0.alike (hU.kept hS.2.1)
  have hN' : vx_Zq Bundle.tN "SUPPRESSED_SENTINEL" Bundle.listD A s' s'.heap := by rw [hhp]; exact vx_Zq.moved hW0.alike (hN.kept hS.2.1)
  have h : ∀ w ∈ Bundle.ownAtoms own ic cls names, w.before args s' = true := vx_own hat' (vx_isRefq hU'.1) (vx_isRefq hN'.1) hU'.2.word hN'.2.word
  have hown' : s'.vm.findClass own = some m.cls := by rw [hvm]; exact hown
  have hins : (Cond.instantiable cls 6).before args s' = true := h _ (by simp [Bundle.ownAtoms])
  obtain ⟨vm₁, cX, kX, hfX, hkX, -, -, X₁, st1⟩ := Y.newCold hexec (own := own) (C := cls) (index := ik) (n := 6) hown' hk' hins hini'
    (g := F0 m pc ls rest) rfl (by rw [hb]; exact d0) (Nat.le_refl _) (Nat.le_refl _)
  generalize hT1 : (T.setVm vm₁).pushCell { cls := cX, slots := kX.instanceTypes.map defaultValue, vm := .none } = T1 at X₁ st1
  have hcat : (Value.ref T.heap.size).category = 1 := rfl
  have hcellA : T1.heap[T.heap.size]? = some (freshCell cX kX) := by rw [← hT1]; exact State.heap_pushCell_size _ _
  have d3' : decode c.code (pc + 3) = .ok (.dup, 1) := by rw [hb]; exact d3
  have d4' : decode c.code (pc + 4) = .ok (.ldc_w is, 3) := by rw [hb]; exact d4
  have hstr' : vk_R own is text sa s' := vk_R.warm hW0 hstr
  obtain ⟨U, hsteps, hrun, hend, hW, hsame, ce, hce, hO⟩ := X₁.ctorThrowS hexec htr (own := own) (cls := cls) (names := names) (ic := ic) hown' hcls hnames h (fun x hx => nomatch hx) hfX hkX hcellA (by rw [hhp, hT]; exact Nat.le_refl _) (msg := .ref sa) rfl
    (g := { method := m, pc := pc + 7, locals := ls, stack := .ref sa :: .ref T.heap.size :: .ref T.heap.size :: rest, locked := none }) rfl hsize rfl rfl (rest := rest) rfl
    (by rw [hb]; exact d7) (by rw [hb]; exact d10) hout hRframes (by simp only [List.map_cons, List.sum_cons, hcat]; omega) hlocks
  obtain ⟨f1, f2⟩ := vx_frame hsame
  rw [hhp] at f1 f2
  have hWs : s.WarmedH U.vm := State.WarmedH.trans hW0 hW
  have hcl : s.vm.findClass cls = some ce.cls := by
    have h9 := hO.cls
    rw [hvm] at h9
    exact h9
  have hall : s.sameButNew ({ U with vm := s.vm } : State) locs mc ms := by
    subst hA
    obtain ⟨e1, e2⟩ := hsame
    rw [State.setFrames_setFrames] at e1
    have h2 : (T.setVm s.vm).sameButNew ({ U with vm := s.vm } : State) [] (0 + 1) (0 + 6) := ⟨e1, e2⟩
    have h3 := X.same.trans h2
    rw [List.append_nil] at h3
    exact h3.mono hc hs
  refine ⟨U, ?_, .threw T.heap.size, hrun, hend, Or.inr ⟨T.heap.size, rfl, cls, ce, locs, hx U hWs.alike f1 (fun q hq => f2 q hq (fun z hz => nomatch hz)), hce, hO.vm, hcl, hWs, hall, hf⟩⟩
  refine st1 _ ?_
  show Steps p.tables e below (T1.setTop { method := m, pc := pc + 3, locals := ls, stack := .ref T.heap.size :: rest, locked := none }) _
  jvm_step X₁.here [X₁.here.top, hexec, d3', Value.category]
  exact X₁.ldcStringW hexec (own := own) (text := text) (index := is) (a := sa) hown' hstr'.1 hstr'.2
    (g := { method := m, pc := pc + 4, locals := ls, stack := .ref T.heap.size :: .ref T.heap.size :: rest, locked := none }) rfl d4' _ hsteps
end Ends
section Bodies
variable {l : Launch}
theorem vx_ofW {y : MethodName} {ws ws' : List Cond} {rm : Room} {Pc : Array Value → State → Prop} {Qc : Array Value → State → Outcome → State → Prop} {XC : String → State → State → Prop} {mc ms : Nat} {free : Addr → Prop} {cc : ByteArray} {maxL : Nat} {ret : Option FieldType}
    (hy : plainName y.cls = true) (hw : ws = Cond.code y cc maxL ret :: ws')
    (body : ∀ p e s m args below meth c s₁, BodyLoose p l y (headSpec ws rm) cc maxL ret e s m args below meth c s₁ → c.maxLocals = maxL → (∀ x ∈ c.exceptionTable.toList, False) → Pc args s →
      W p l e (headSpec ws rm).room s m args below meth c s.heap [] 0 0 (vx_MQ below Qc XC args s mc ms free) (entryFrame m args maxL)) : vx_Met l y ws rm Pc Qc XC mc ms free := by
  refine MetFree.of_bodyS (code := cc) (maxLocals := maxL) (ret := ret) hy ?_ ?_
  · intro args s m h hn
    obtain ⟨meth, c, h1, h2, h3, h4, h5, h6, -, -⟩ := Cond.code_spec hn (atoms_spec (ws := ws) h _ (by rw [hw]; exact List.mem_cons_self))
    exact ⟨meth, c, h1, h2, h3, h4, h5, h6⟩
  · intro p e s m args below meth c s₁ B hml hP _
    have hh0 : s₁.heap = s.heap := by rw [B.state]; rfl
    have ht : ∀ x ∈ c.exceptionTable.toList, False := by
      obtain ⟨meth9, c9, h1, h2, -, -, -, -, h7, -⟩ := Cond.code_spec B.named (atoms_spec (ws := ws) B.pre _ (by rw [hw]; exact List.mem_cons_self))
      cases Option.some.inj (h1.symm.trans B.method)
      cases Option.some.inj (h2.symm.trans (Stand.of_body B).code)
      intro x hx
      rw [Array.isEmpty_iff.mp h7] at hx
      cases hx
    obtain ⟨t, a1, o, b1, b2, b3⟩ := body p e s m args below meth c s₁ B hml ht hP s₁ hh0 (Stand.of_body B)
    exact ⟨t, o, a1, b1, b2, b3⟩
/-- the table of a body with handlers -/
theorem vx_table {p : Program} {x y : MethodName} {S : Spec} {cc bytes : ByteArray} {maxL maxL' : Nat} {ret ret' : Option FieldType} {e : Env} {s s₁ : State} {m : MethodId} {args : Array Value} {below : List Frame} {meth : Method} {c : Code} {hh : List (Nat × Nat × Nat × Nat)}
    (B : BodyLoose p l y S cc maxL ret e s m args below meth c s₁) (h : (Cond.codeWith y bytes maxL' ret' hh).before args s = true) : c.exceptionTable.toList = tableOf hh := by
  obtain ⟨m9, meth9, c9, hn9, h1, h2, -, -, h6, -⟩ := Cond.codeWith_spec h
  cases Option.some.inj (hn9.symm.trans B.named)
  cases Option.some.inj (h1.symm.trans B.method)
  cases Option.some.inj (h2.symm.trans (Stand.of_body B).code)
  rw [← h6, table_eq]
end Bodies
end VXA
/-! ===== END ===== -/
/-! ===== BEGIN a static call of a method with an exception table ===== -/
section VXS
variable {p : Program} {l : Launch} {e : Env} {R : Room} {s : State} {m : MethodId} {args : Array Value} {below : List Frame} {meth : Method} {c : Code} {T : State} {H : Heap} {locs : List Loc} {cells slots : Nat}
abbrev vx_CSW (R : Room) (s : State) (args : Array Value) (own : String) (index : Nat) (y : MethodName) (bytes : ByteArray) (maxL : Nat) (ret : Option FieldType) (hh : List (Nat × Nat × Nat × Nat)) (ws : List Cond) (rm : Room) (mc ms n : Nat) : Prop :=
  (rm.cells = mc ∧ rm.slots = ms ∧ rm.frames + 1 ≤ R.frames ∧ 8 + (maxL + 11) + rm.locals ≤ R.locals ∧ (∀ w ∈ ws, ∀ (a' : Array Value) (U : State), s.WarmedH U.vm → w.before a' U = true) ∧ Cond.codeWith y bytes maxL ret hh ∈ ws) ∧
  (Cond.codeWith y bytes maxL ret hh).before args s = true ∧ (Cond.initialized y.cls).before args s = true ∧ (y.cls ≠ "java/lang/invoke/MethodHandle" ∧ y.cls ≠ "java/lang/invoke/VarHandle") ∧
  (∀ sig, parseMethodDescriptor y.desc = some sig → n = sig.parameters.length) ∧ (Cond.methodLink own index y).before args s = true ∧ (Cond.static y).before args s = true
theorem vx_cwSW {own : String} {index maxL mc ms : Nat} {y : MethodName} {bytes : ByteArray} {ret : Option FieldType} {hh : List (Nat × Nat × Nat × Nat)} {Ts ws ws' : List Cond} {rm : Room} (n : Nat) (ht : ∀ w ∈ Ts, w.before args s = true) (hT : GoodIn Ts (va_wsS own index y ws)) (hw : ws = Cond.codeWith y bytes maxL ret hh :: ws') (hrc : rm.cells = mc) (hrs : rm.slots = ms)
    (hd : y.cls ≠ "java/lang/invoke/MethodHandle" ∧ y.cls ≠ "java/lang/invoke/VarHandle" ∧ (parseMethodDescriptor y.desc).map (fun d => d.parameters.length) = some n) (hR : rm.frames + 1 ≤ R.frames ∧ 8 + (maxL + 11) + rm.locals ≤ R.locals) :
    vx_CSW R s args own index y bytes maxL ret hh ws rm mc ms n := by
  have ok : ∀ w ∈ va_wsS own index y ws, w.before args s = true := fun w h => ht w (hT w h).1
  have hG : GoodIn Ts ws := fun w h => hT w (by unfold va_wsS; exact List.mem_append_right _ h)
  have hc : Cond.codeWith y bytes maxL ret hh ∈ ws := by rw [hw]; exact List.mem_cons_self
  refine ⟨⟨hrc, hrs, hR.1, hR.2, pay_in ht hG, hc⟩, ht _ (hG _ hc).1, ok _ (by simp [va_wsS]), ⟨hd.1, hd.2.1⟩, fun sig h => ?_, ok _ (by simp [va_wsS]), ok _ (by simp [va_wsS])⟩
  have h2 := hd.2.2
  rw [h] at h2
  exact (Option.some.inj h2).symm
theorem vx_callSW (X : Stand p l e R s m args below meth c T locs cells slots) (hexec : p.tables.exec = Jvm.exec) {own : String} {index : Nat} {y : MethodName} {bytes : ByteArray} {maxL : Nat} {ret : Option FieldType} {hh : List (Nat × Nat × Nat × Nat)}
    (hown : s.vm.findClass own = some m.cls) (hlink : (Cond.methodLink own index y).before args s = true) (hstat : (Cond.static y).before args s = true) (hinit : (Cond.initialized y.cls).before args s = true)
    (hcode : (Cond.codeWith y bytes maxL ret hh).before args s = true) (hy : y.cls ≠ "java/lang/invoke/MethodHandle" ∧ y.cls ≠ "java/lang/invoke/VarHandle")
    {W9 : Nat} {Pre : Pt → Array Value → Prop} {Post : Pt → Array Value → Option Value → Pt → Prop} (hK : Back l R p e below s args y 3 W9 Pre Post)
    {g : JFrame} (hg : g.method = m) (hsize : g.locals.size = c.maxLocals) {argsL rest : List Value} (hlen : ∀ sig, parseMethodDescriptor y.desc = some sig → argsL.length = sig.parameters.length)
    (hstack : g.stack = argsL.reverse ++ rest) (hW : 2 * g.monitorRoom + (rest.map fun v => v.category).sum ≤ W9) (hdg : decode c.code g.pc = .ok (.invokestatic index, 3))
    (hpre : ∀ vm₁, s.WarmedH vm₁ → Pre ⟨T.setVm vm₁, locs, cells, slots⟩ argsL.toArray) :
    ∃ (v : Option Value) (vm₁ : Vm) (B : Pt), s.WarmedH vm₁ ∧ Stand p l e R s m args below meth c B.U B.locs B.cells B.slots ∧ Post ⟨T.setVm vm₁, locs, cells, slots⟩ argsL.toArray v B ∧
      ∀ target, Steps p.tables e below (B.U.setTop { g with pc := g.pc + 3, stack := v.toList ++ rest }) target → Steps p.tables e below (T.setTop g) target := by
  obtain ⟨mk, methM, cM, hnamed, hmethM, -, -, -, -, -, -, hsigM⟩ := Cond.codeWith_spec hcode
  have hstatic : methM.isStatic = true := Cond.static_spec hnamed hmethM hstat
  obtain ⟨kP, hkP, -⟩ := className_of_methodNamed hnamed
  have hinitP : kP.init = .initialized := Cond.initialized_spec (findClass_of_methodNamed hnamed) hkP hinit
  obtain ⟨vm₁, X₁, hstep₁⟩ := X.invokestatic hexec hown hlink hnamed hmethM hstatic hkP hinitP hy (g := g) hg (argsL := argsL) (rest := rest) (hlen _ hsigM) hstack hdg
  obtain ⟨v, B, X', hpost, hsteps⟩ := hK m meth c ⟨T.setVm vm₁, locs, cells, slots⟩ { g with stack := rest } (.invokestatic index) mk argsL.toArray X₁ hg hsize hdg hW (X₁.named hnamed) (hpre vm₁ X₁.warmed)
  exact ⟨v, vm₁, B, X₁.warmed, X', hpost, fun target h => hstep₁ _ fun acts => by rw [doInvoke_state]; exact hsteps.trans h⟩
theorem vx_runSW {y : MethodName} {bytes cc : ByteArray} {maxL nL mc ms n index : Nat} {ret : Option FieldType} {hh : List (Nat × Nat × Nat × Nat)} {ws : List Cond} {rm : Room} {Pc : Array Value → State → Prop} {Qc : Array Value → State → Outcome → State → Prop} {free : Addr → Prop} {Ts : List Cond} {own : String} {As rest : List Value} {g : JFrame}
    (S : CallFix p m c cc nL s args Ts own) (hM : Met l y ws rm Pc Qc mc ms free) (cw : vx_CSW R s args own index y bytes maxL ret hh ws rm mc ms n) (hp : PreS s H Pc As)
    (hg : g.method = m) (hn : As.length = n) (hsize : g.locals.size = nL) (hstack : g.stack = As.reverse ++ rest) (hW : 2 * g.monitorRoom + (rest.map fun v => v.category).sum ≤ 8) (hdg : decode cc g.pc = .ok (.invokestatic index, 3)) (hf : cells + mc ≤ R.cells ∧ slots + ms ≤ R.slots) :
    va_Run p l e R s m args below meth c H locs cells slots mc ms g rest (Qc As.toArray) (free) := by
  obtain ⟨⟨hrc, hrs, hfr, hlo, hws, hcw⟩, hcode, hini, hy, hlen, hl, hstt⟩ := cw
  have hK : Back l R p e below s args y 3 8 (PreOf R mc ms Pc) (PostOf Qc mc ms free) := va_backW (hh := hh) (bytes := bytes) (maxL := maxL) (ret := ret) hM hp.1 hrc hrs hfr hlo hws hcw (fun a' U hW => word_at hW (Or.inl (by first | rfl | simp [Cond.onTables, Cond.keeps, Cond.steady])) hini)
  obtain ⟨hx, hb, hml, ho, -⟩ := S
  intro T hT X
  obtain ⟨v, vm₁, ⟨U', l2, c2, s2⟩, hW₁, X', ⟨g', mk, t, L, e1, e2, hq, h1, hL, h2, h3⟩, st⟩ := vx_callSW X hx (hh := hh) (bytes := bytes) (maxL := maxL) (ret := ret) ho hl hstt hini hcode hy hK hg (hsize.trans hml.symm) (argsL := As) (rest := rest) (fun sig h => hn.trans (hlen sig h)) hstack hW (by rw [hb]; exact hdg)
    (fun vm₁ hW₁ => ⟨hf.1, hf.2, hp.2 (T.setVm vm₁) hT hW₁⟩)
  dsimp only [Pt.U, Pt.locs, Pt.cells, Pt.slots] at X' e1 e2 h1 h2 h3 st
  subst h1; subst h2; subst h3
  exact ⟨v, (T.setVm vm₁).calling g' mk As.toArray, t, U', L, hT, X', hL, e1, e2, hq, st⟩
/-- not caught here, past rows that name other classes: it goes on to the caller -/
theorem vx_outP {p : Program} {l : Launch} {e : Env} {R : Room} {s : State} {m : MethodId} {args : Array Value} {below : List Frame} {meth : Method} {c : Code} {H : Heap} {locs : List Loc} {cells slots : Nat} {free : Addr → Prop} {ls : Array Slot} {rest : List Value} {Qc : Array Value → State → Outcome → State → Prop} {XC : String → State → State → Prop}
    {pc : Nat} {own E : String} {ce : Cell} {q : Addr} {mc ms : Nat} (hown : s.vm.findClass own = some m.cls) (hlocks : meth.locks = false)
    (hpass : ∀ z ∈ c.exceptionTable.toList, covers z pc = false ∨ (z.catchType ≠ 0 ∧ ∃ nm : String, (Cond.classLink own z.catchType nm).before args s = true ∧ va_Nc E nm s)) (hcell : H[q]? = some ce) (hv : ce.vm = .none) (hcl : s.vm.findClass E = some ce.cls)
    (hx : ∀ t : State, t.heap = H → s.vm.Alike t.vm → XC E s t) (hf : ∀ z ∈ locs, free z.base) (hc : cells ≤ mc) (hs : slots ≤ ms) :
    vx_W p l e R s m args below meth c H locs cells slots (vx_MQ below Qc XC args s mc ms free) (F0 m pc ls rest) q := by
  intro T hT X
  have hpl : e.platform.magicAccessors = ({} : Platform).magicAccessors := by rw [X.admits.platform]
  obtain ⟨vm', hW', X', st⟩ := X.outThrough hlocks q (g := F0 m pc ls rest) rfl rfl rfl (cell := ce) (by rw [hT]; exact hcell) (by rw [hv]; rfl)
    (by obtain ⟨k9, h9, -⟩ := Vm.findClass_spec hcl; exact ⟨k9, h9⟩) (fun z hz => by
      rcases hpass z hz with h | ⟨hz0, nm, hl1, hn1⟩
      · exact Or.inl h
      · obtain ⟨c6, hc6, hcl6⟩ := Cond.classLink_spec hown hl1 e.platform hpl
        obtain ⟨a8, b8, h1, h2, h3⟩ := hn1
        cases Option.some.inj (h1.symm.trans hcl)
        cases Option.some.inj (h2.symm.trans hc6)
        exact Or.inr ⟨hz0, _, hcl6, h3⟩)
  obtain ⟨g₀, hfr⟩ := X'.frames_eq
  have hcell9 : ((T.setVm vm').setFrames (.throwing q :: below)).heap[q]? = some ce := by
    show T.heap[q]? = some ce
    rw [hT]; exact hcell
  have hend : Ended ((T.setVm vm').setFrames (.throwing q :: below)) below (.threw q) := State.frames_setFrames _ (State.cur_lt_of_frames hfr)
  refine ⟨(T.setVm vm').setFrames (.throwing q :: below), ?_, .threw q, X'.here.running, hend, Or.inr ⟨q, rfl, E, ce, locs, hx _ hT (X'.ends _).1.alike, hcell9, hv, hcl, (X'.ends _).1, (X'.ends _).2.mono hc hs, hf⟩⟩
  rw [X.pushThrowing_eq]
  exact st
/-- a thing of a world lies in the heap -/
theorem vx_lt {D : va_G} {cl : List vw_C} {ws : va_W} {H1 : Heap} (h : va_P D cl ws H1) {k : Nat} {q : Nat × va_E} (hk : ws[k]? = some q) : q.1 < H1.size := (h k q hk).lt
end VXS
/-! ===== END ===== -/
/-! ===== BEGIN methods with a table of their own: called by a name, returning or throwing ===== -/
section VXH
/-! vx_backW, vx_callVX, vx_callSX, vx_callVW, vx_runVW, vx_runVX, vx_runSX, vx_ofWH follow the same proofs as their sisters above (Free/Laws.lean, Shelf42/LK1.lean); vx_outP calls Shelf42/NT130.lean (outThrough). -/
section
variable {l : Launch} {R : Room} {p : Program} {e : Env} {below : List Frame} {s : State} {sargs : Array Value} {y : MethodName} {len W9 : Nat}
theorem vx_backW {ws : List Cond} {rm : Room} {Pc : Array Value → State → Prop} {Qc : Array Value → State → Outcome → State → Prop} {XC : String → State → State → Prop} {mc ms : Nat} {free : Addr → Prop} {bytes : ByteArray} {maxL : Nat} {ret : Option FieldType} {hh : List (Nat × Nat × Nat × Nat)}
    (hM : vx_Met l y ws rm Pc Qc XC mc ms free) (hblind : FrameBlind Pc) (hrc : rm.cells = mc) (hrs : rm.slots = ms)
    (hframes : rm.frames + 1 ≤ R.frames) (hlocals : W9 + (maxL + 11) + rm.locals ≤ R.locals)
    (hws : ∀ w ∈ ws, ∀ a' U, s.WarmedH U.vm → w.before a' U = true) (hcode : Cond.codeWith y bytes maxL ret hh ∈ ws) (hinit : ∀ a' U, s.WarmedH U.vm → (Cond.initialized y.cls).before a' U = true) :
    vx_Back l R p e below s sargs y len W9 (PreOf R mc ms Pc) (PostOf Qc mc ms free) (vx_Post XC mc ms free) := by
  intro m meth c A g ig mk a X hg hsize hdg hW hn hp
  have h1 : (headSpec ws rm).pre.before a A.U = true := atoms_intro fun w hw => hws w hw _ _ X.warmed
  have h2 : (Cond.codeWith y bytes maxL ret hh).before a A.U = true := hws _ hcode _ _ X.warmed
  have h3 : (Cond.initialized y.cls).before a A.U = true := hinit _ _ X.warmed
  have h4 : A.cells + (headSpec ws rm).room.cells ≤ R.cells := by rw [show (headSpec ws rm).room.cells = mc from hrc]; exact hp.1
  have h5 : A.slots + (headSpec ws rm).room.slots ≤ R.slots := by rw [show (headSpec ws rm).room.slots = ms from hrs]; exact hp.2.1
  have hPc : Pc a (A.U.calling g mk a) := hblind _ _ _ _ hp.2.2
  obtain ⟨U, Ls, c0, s0⟩ := A
  dsimp only [Pt.U, Pt.locs, Pt.cells, Pt.slots] at h1 h2 h3 h4 h5 X hn hPc ⊢
  obtain ⟨m9, methY, cY, hn9, hmY, hcY, -, hlY, -⟩ := Cond.codeWith_spec h2
  cases Option.some.inj (hn9.symm.trans hn)
  obtain ⟨kY, hkY, -⟩ := className_of_methodNamed hn
  have hinitY : kY.init = .initialized := Cond.initialized_spec (findClass_of_methodNamed hn) hkY h3
  have h : At U g.method c below := by rw [hg]; exact X.here
  have hlocals9 : W9 + (maxL + 11) + (headSpec ws rm).room.locals ≤ R.locals := hlocals
  have happ : (headSpec ws rm).appliesLoose y e.platform (U.calling g mk a) = true :=
    Spec.appliesLoose_calling (g := g) h hdg hn hkY hinitY
      (X.room_calling (g := g) (R' := (headSpec ws rm).room) hsize hmY hcY hframes (by rw [hlY]; omega) h4 h5) h1
  obtain ⟨mid, hmid⟩ := h.above
  have hfr : (U.setTop g).frames = (.java g :: mid) ++ below := by rw [State.frames_setTop' g h.top, hmid]; rfl
  obtain ⟨o, s₂, hsteps, -, hend, hq⟩ := Steps.callFree hM p X.admits X.cas X.clock (acts := []) hfr happ hPc trivial
  have hq' : vx_Q Qc XC mc ms free a (U.calling g mk a) o s₂ := hq
  rw [State.frames_setTop' g h.top] at hend
  obtain ⟨g₀, hg0⟩ := Option.isSome_iff_exists.mp h.top
  obtain ⟨r, hr⟩ := State.topJava?_eq_some.mp hg0
  have hr' : (({ U with heap := s₂.heap, slotsUsed := s₂.slotsUsed } : State).setVm s₂.vm).frames = .java g₀ :: r := hr
  rcases hq' with ⟨hqc, L, hfe, hL⟩ | ⟨q, rfl, E, ce, L, hx, hce, hcv, hcl, hW₂, hsm, hL⟩
  · obtain ⟨⟨v, rfl⟩, hW₂, e2, q2, q3, q4, q5, q6⟩ := id hfe
    have e3 : s₂ = ({ (U.calling g mk a).setFrames s₂.frames with heap := s₂.heap, slotsUsed := s₂.slotsUsed } : State).setVm s₂.vm := by
      have : s₂ = ({ s₂ with vm := (U.calling g mk a).vm } : State).setVm s₂.vm := rfl
      rw [e2] at this
      exact this
    obtain ⟨c₂, i₂, len₂, hc₂, hd₂, hf₂⟩ := hend
    have hW' : U.WarmedH s₂.vm := hW₂
    have hcc : c₂ = c := by
      have h1 : s₂.code? g.method = U.code? g.method := by
        rw [State.code?_eq, State.code?_eq, hW'.alike.method?]
      exact Option.some.inj (hc₂.symm.trans (h1.trans h.code))
    subst hcc
    have hlen : len₂ = len := by rw [hdg] at hd₂; cases hd₂; rfl
    subst hlen
    have hs₂ : s₂ = (({ U with heap := s₂.heap, slotsUsed := s₂.slotsUsed } : State).setVm s₂.vm).setTop { g with pc := g.pc + len₂, stack := v.toList ++ g.stack } := by
      refine e3.trans ?_
      rw [hf₂, State.calling_eq h.top, State.setFrames_setFrames, State.setTop_of_frames _ hr', hr]
      rfl
    have hsame : U.sameButNew ({ U with heap := s₂.heap, slotsUsed := s₂.slotsUsed } : State) L mc ms := by
      refine ⟨?_, q2, q3, q4, q5, q6⟩
      obtain ⟨t, ht, -⟩ := State.frames_cons hr
      show ({ U with heap := s₂.heap, slotsUsed := s₂.slotsUsed } : State) = { U.setFrames U.frames with heap := s₂.heap, slotsUsed := s₂.slotsUsed }
      rw [State.setFrames_self ht]
    subst hg
    refine Or.inl ⟨v, ⟨(({ U with heap := s₂.heap, slotsUsed := s₂.slotsUsed } : State).setVm s₂.vm), Ls ++ L, c0 + mc, s0 + ms⟩,
      ⟨X.admits, X.cas, X.clock, X.frames, X.room, X.hears, X.method, X.code, (X.here.setHeapUsed s₂.heap s₂.slotsUsed).setVm hW'.alike, X.tail, State.WarmedH.trans X.warmed hW', X.limits, X.bytes, X.same.trans (hsame.setVm s.vm)⟩,
      ⟨g, mk, s₂, L, rfl, rfl, hqc, rfl, hL, rfl, rfl⟩, ?_⟩
    show Steps p.tables e below _ ((({ U with heap := s₂.heap, slotsUsed := s₂.slotsUsed } : State).setVm s₂.vm).setTop { g with pc := g.pc + len₂, stack := v.toList ++ g.stack })
    rw [← hs₂]
    exact hsteps
  · obtain ⟨e2, q2, q3, q4, q5, q6⟩ := id hsm
    have e3 : s₂ = ({ (U.calling g mk a).setFrames s₂.frames with heap := s₂.heap, slotsUsed := s₂.slotsUsed } : State).setVm s₂.vm := by
      have : s₂ = ({ s₂ with vm := (U.calling g mk a).vm } : State).setVm s₂.vm := rfl
      rw [e2] at this
      exact this
    have hf₂ : s₂.frames = .throwing q :: .java g :: U.frames.tail := hend
    have hW' : U.WarmedH s₂.vm := hW₂
    have hs₂ : s₂ = ((({ U with heap := s₂.heap, slotsUsed := s₂.slotsUsed } : State).setVm s₂.vm).setTop g).pushFrame (.throwing q) := by
      refine e3.trans ?_
      rw [hf₂, State.calling_eq h.top, State.setFrames_setFrames, State.pushFrame, State.frames_setTop _ hr', State.setTop_of_frames _ hr', State.setFrames_setFrames, hr]
      rfl
    have hsame : U.sameButNew ({ U with heap := s₂.heap, slotsUsed := s₂.slotsUsed } : State) L mc ms := by
      refine ⟨?_, q2, q3, q4, q5, q6⟩
      obtain ⟨t, ht, -⟩ := State.frames_cons hr
      show ({ U with heap := s₂.heap, slotsUsed := s₂.slotsUsed } : State) = { U.setFrames U.frames with heap := s₂.heap, slotsUsed := s₂.slotsUsed }
      rw [State.setFrames_self ht]
    subst hg
    refine Or.inr ⟨q, ⟨(({ U with heap := s₂.heap, slotsUsed := s₂.slotsUsed } : State).setVm s₂.vm), Ls ++ L, c0 + mc, s0 + ms⟩,
      ⟨X.admits, X.cas, X.clock, X.frames, X.room, X.hears, X.method, X.code, (X.here.setHeapUsed s₂.heap s₂.slotsUsed).setVm hW'.alike, X.tail, State.WarmedH.trans X.warmed hW', X.limits, X.bytes, X.same.trans (hsame.setVm s.vm)⟩,
      ⟨g, mk, s₂, L, E, ce, rfl, rfl, hx, hce, hcv, hcl, rfl, hL, rfl, rfl⟩, ?_⟩
    show Steps p.tables e below _ (((({ U with heap := s₂.heap, slotsUsed := s₂.slotsUsed } : State).setVm s₂.vm).setTop g).pushFrame (.throwing q))
    rw [← hs₂]
    exact hsteps
end
variable {p : Program} {l : Launch} {e : Env} {R : Room} {s : State} {m : MethodId} {args : Array Value} {below : List Frame} {meth : Method} {c : Code} {T : State} {H : Heap} {locs : List Loc} {cells slots : Nat}
theorem vx_callVX (X : Stand p l e R s m args below meth c T locs cells slots) (hexec : p.tables.exec = Jvm.exec) {own C : String} {index : Nat} {y : MethodName} {bytes : ByteArray} {maxL : Nat} {ret : Option FieldType} {hh : List (Nat × Nat × Nat × Nat)}
    (hown : s.vm.findClass own = some m.cls) (hlink : (Cond.methodLink own index y).before args s = true) (hinst : (Cond.instanceMethod y).before args s = true) (hsel : (Cond.selects C y y).before args s = true)
    (hcode : (Cond.codeWith y bytes maxL ret hh).before args s = true) (hy : y.cls ≠ "java/lang/invoke/MethodHandle" ∧ y.cls ≠ "java/lang/invoke/VarHandle")
    {W9 : Nat} {Pre : Pt → Array Value → Prop} {Post : Pt → Array Value → Option Value → Pt → Prop} {PostX : Pt → Array Value → Addr → Pt → Prop} (hK : vx_Back l R p e below s args y 3 W9 Pre Post PostX)
    {b : Addr} {cellB : Cell} (hcell : T.heap[b]? = some cellB) (hobj : cellB.vm.isStatics = false) (hcls : s.vm.findClass C = some cellB.cls)
    {g : JFrame} (hg : g.method = m) (hsize : g.locals.size = c.maxLocals) {argsL rest : List Value} (hlen : ∀ sig, parseMethodDescriptor y.desc = some sig → argsL.length = sig.parameters.length)
    (hstack : g.stack = argsL.reverse ++ .ref b :: rest) (hW : 2 * g.monitorRoom + (rest.map fun v => v.category).sum ≤ W9) (hdg : decode c.code g.pc = .ok (.invokevirtual index, 3))
    (hpre : ∀ vm₁, s.WarmedH vm₁ → Pre ⟨T.setVm vm₁, locs, cells, slots⟩ (Value.ref b :: argsL).toArray) :
    (∃ (v : Option Value) (vm₁ : Vm) (B : Pt), s.WarmedH vm₁ ∧ Stand p l e R s m args below meth c B.U B.locs B.cells B.slots ∧ Post ⟨T.setVm vm₁, locs, cells, slots⟩ (Value.ref b :: argsL).toArray v B ∧
      ∀ target, Steps p.tables e below (B.U.setTop { g with pc := g.pc + 3, stack := v.toList ++ rest }) target → Steps p.tables e below (T.setTop g) target) ∨
    (∃ (q : Addr) (vm₁ : Vm) (B : Pt), s.WarmedH vm₁ ∧ Stand p l e R s m args below meth c B.U B.locs B.cells B.slots ∧ PostX ⟨T.setVm vm₁, locs, cells, slots⟩ (Value.ref b :: argsL).toArray q B ∧
      Steps p.tables e below (T.setTop g) ((B.U.setTop { g with stack := rest }).pushFrame (.throwing q))) := by
  obtain ⟨mk, methM, hnamed, hmethM, hstM, habM⟩ := Cond.instanceMethod_spec hinst
  obtain ⟨m8, methM', cM, hn8, hmethM', -, -, -, -, -, -, hsigM⟩ := Cond.codeWith_spec hcode
  cases Option.some.inj (hn8.symm.trans hnamed)
  cases hmethM.symm.trans hmethM'
  obtain ⟨c2, r2, m2, q1, q2, q3, q4, kP, hkP, hkPi⟩ := Cond.selects_spec hsel
  cases hcls.symm.trans q1
  cases (State.methodFound?_of_named hnamed hy).symm.trans q2
  cases hnamed.symm.trans q3
  have hselP : selectMethod e.platform s.vm cellB.cls mk = .method mk := by rw [Launch.admits_selectMethod X.admits]; exact q4
  obtain ⟨vm₁, X₁, hstep₁⟩ := X.invokevirtual hexec hown hlink hnamed hmethM hstM hkP hkPi hy (a := b) (cell := cellB) hcell
    (fun z h => by rw [h] at hobj; cases hobj) hselP hmethM habM hkP hkPi (g := g) hg (argsL := argsL) (rest := rest) (hlen _ hsigM) hstack hdg
  rcases hK m meth c ⟨T.setVm vm₁, locs, cells, slots⟩ { g with stack := rest } (.invokevirtual index) mk (Value.ref b :: argsL).toArray X₁ hg hsize hdg hW (X₁.named hnamed) (hpre vm₁ X₁.warmed) with ⟨v, B, X', hpost, hsteps⟩ | ⟨q, B, X', hpost, hsteps⟩
  · exact Or.inl ⟨v, vm₁, B, X₁.warmed, X', hpost, fun target h => hstep₁ _ fun acts => by rw [doInvoke_state]; exact hsteps.trans h⟩
  · exact Or.inr ⟨q, vm₁, B, X₁.warmed, X', hpost, hstep₁ _ fun acts => by rw [doInvoke_state]; exact hsteps⟩
theorem vx_callSX (X : Stand p l e R s m args below meth c T locs cells slots) (hexec : p.tables.exec = Jvm.exec) {own : String} {index : Nat} {y : MethodName} {bytes : ByteArray} {maxL : Nat} {ret : Option FieldType} {hh : List (Nat × Nat × Nat × Nat)}
    (hown : s.vm.findClass own = some m.cls) (hlink : (Cond.methodLink own index y).before args s = true) (hstat : (Cond.static y).before args s = true) (hinit : (Cond.initialized y.cls).before args s = true)
    (hcode : (Cond.codeWith y bytes maxL ret hh).before args s = true) (hy : y.cls ≠ "java/lang/invoke/MethodHandle" ∧ y.cls ≠ "java/lang/invoke/VarHandle")
    {W9 : Nat} {Pre : Pt → Array Value → Prop} {Post : Pt → Array Value → Option Value → Pt → Prop} {PostX : Pt → Array Value → Addr → Pt → Prop} (hK : vx_Back l R p e below s args y 3 W9 Pre Post PostX)
    {g : JFrame} (hg : g.method = m) (hsize : g.locals.size = c.maxLocals) {argsL rest : List Value} (hlen : ∀ sig, parseMethodDescriptor y.desc = some sig → argsL.length = sig.parameters.length)
    (hstack : g.stack = argsL.reverse ++ rest) (hW : 2 * g.monitorRoom + (rest.map fun v => v.category).sum ≤ W9) (hdg : decode c.code g.pc = .ok (.invokestatic index, 3))
    (hpre : ∀ vm₁, s.WarmedH vm₁ → Pre ⟨T.setVm vm₁, locs, cells, slots⟩ argsL.toArray) :
    (∃ (v : Option Value) (vm₁ : Vm) (B : Pt), s.WarmedH vm₁ ∧ Stand p l e R s m args below meth c B.U B.locs B.cells B.slots ∧ Post ⟨T.setVm vm₁, locs, cells, slots⟩ argsL.toArray v B ∧
      ∀ target, Steps p.tables e below (B.U.setTop { g with pc := g.pc + 3, stack := v.toList ++ rest }) target → Steps p.tables e below (T.setTop g) target) ∨
    (∃ (q : Addr) (vm₁ : Vm) (B : Pt), s.WarmedH vm₁ ∧ Stand p l e R s m args below meth c B.U B.locs B.cells B.slots ∧ PostX ⟨T.setVm vm₁, locs, cells, slots⟩ argsL.toArray q B ∧
      Steps p.tables e below (T.setTop g) ((B.U.setTop { g with stack := rest }).pushFrame (.throwing q))) := by
  obtain ⟨mk, methM, cM, hnamed, hmethM, -, -, -, -, -, -, hsigM⟩ := Cond.codeWith_spec hcode
  have hstatic : methM.isStatic = true := Cond.static_spec hnamed hmethM hstat
  obtain ⟨kP, hkP, -⟩ := className_of_methodNamed hnamed
  have hinitP : kP.init = .initialized := Cond.initialized_spec (findClass_of_methodNamed hnamed) hkP hinit
  obtain ⟨vm₁, X₁, hstep₁⟩ := X.invokestatic hexec hown hlink hnamed hmethM hstatic hkP hinitP hy (g := g) hg (argsL := argsL) (rest := rest) (hlen _ hsigM) hstack hdg
  rcases hK m meth c ⟨T.setVm vm₁, locs, cells, slots⟩ { g with stack := rest } (.invokestatic index) mk argsL.toArray X₁ hg hsize hdg hW (X₁.named hnamed) (hpre vm₁ X₁.warmed) with ⟨v, B, X', hpost, hsteps⟩ | ⟨q, B, X', hpost, hsteps⟩
  · exact Or.inl ⟨v, vm₁, B, X₁.warmed, X', hpost, fun target h => hstep₁ _ fun acts => by rw [doInvoke_state]; exact hsteps.trans h⟩
  · exact Or.inr ⟨q, vm₁, B, X₁.warmed, X', hpost, hstep₁ _ fun acts => by rw [doInvoke_state]; exact hsteps⟩
theorem vx_callVW (X : Stand p l e R s m args below meth c T locs cells slots) (hexec : p.tables.exec = Jvm.exec) {own C : String} {index : Nat} {y : MethodName} {bytes : ByteArray} {maxL : Nat} {ret : Option FieldType} {hh : List (Nat × Nat × Nat × Nat)}
    (hown : s.vm.findClass own = some m.cls) (hlink : (Cond.methodLink own index y).before args s = true) (hinst : (Cond.instanceMethod y).before args s = true) (hsel : (Cond.selects C y y).before args s = true)
    (hcode : (Cond.codeWith y bytes maxL ret hh).before args s = true) (hy : y.cls ≠ "java/lang/invoke/MethodHandle" ∧ y.cls ≠ "java/lang/invoke/VarHandle")
    {W9 : Nat} {Pre : Pt → Array Value → Prop} {Post : Pt → Array Value → Option Value → Pt → Prop} (hK : Back l R p e below s args y 3 W9 Pre Post)
    {b : Addr} {cellB : Cell} (hcell : T.heap[b]? = some cellB) (hobj : cellB.vm.isStatics = false) (hcls : s.vm.findClass C = some cellB.cls)
    {g : JFrame} (hg : g.method = m) (hsize : g.locals.size = c.maxLocals) {argsL rest : List Value} (hlen : ∀ sig, parseMethodDescriptor y.desc = some sig → argsL.length = sig.parameters.length)
    (hstack : g.stack = argsL.reverse ++ .ref b :: rest) (hW : 2 * g.monitorRoom + (rest.map fun v => v.category).sum ≤ W9) (hdg : decode c.code g.pc = .ok (.invokevirtual index, 3))
    (hpre : ∀ vm₁, s.WarmedH vm₁ → Pre ⟨T.setVm vm₁, locs, cells, slots⟩ (Value.ref b :: argsL).toArray) :
    ∃ (v : Option Value) (vm₁ : Vm) (B : Pt), s.WarmedH vm₁ ∧ Stand p l e R s m args below meth c B.U B.locs B.cells B.slots ∧ Post ⟨T.setVm vm₁, locs, cells, slots⟩ (Value.ref b :: argsL).toArray v B ∧
      ∀ target, Steps p.tables e below (B.U.setTop { g with pc := g.pc + 3, stack := v.toList ++ rest }) target → Steps p.tables e below (T.setTop g) target := by
  obtain ⟨mk, methM, hnamed, hmethM, hstM, habM⟩ := Cond.instanceMethod_spec hinst
  obtain ⟨m8, methM', cM, hn8, hmethM', -, -, -, -, -, -, hsigM⟩ := Cond.codeWith_spec hcode
  cases Option.some.inj (hn8.symm.trans hnamed)
  cases hmethM.symm.trans hmethM'
  obtain ⟨c2, r2, m2, q1, q2, q3, q4, kP, hkP, hkPi⟩ := Cond.selects_spec hsel
  cases hcls.symm.trans q1
  cases (State.methodFound?_of_named hnamed hy).symm.trans q2
  cases hnamed.symm.trans q3
  have hselP : selectMethod e.platform s.vm cellB.cls mk = .method mk := by rw [Launch.admits_selectMethod X.admits]; exact q4
  obtain ⟨vm₁, X₁, hstep₁⟩ := X.invokevirtual hexec hown hlink hnamed hmethM hstM hkP hkPi hy (a := b) (cell := cellB) hcell
    (fun z h => by rw [h] at hobj; cases hobj) hselP hmethM habM hkP hkPi (g := g) hg (argsL := argsL) (rest := rest) (hlen _ hsigM) hstack hdg
  obtain ⟨v, B, X', hpost, hsteps⟩ := hK m meth c ⟨T.setVm vm₁, locs, cells, slots⟩ { g with stack := rest } (.invokevirtual index) mk (Value.ref b :: argsL).toArray X₁ hg hsize hdg hW (X₁.named hnamed) (hpre vm₁ X₁.warmed)
  exact ⟨v, vm₁, B, X₁.warmed, X', hpost, fun target h => hstep₁ _ fun acts => by rw [doInvoke_state]; exact hsteps.trans h⟩
abbrev vx_CVW (R : Room) (s : State) (args : Array Value) (own C : String) (index : Nat) (y : MethodName) (bytes : ByteArray) (maxL : Nat) (ret : Option FieldType) (hh : List (Nat × Nat × Nat × Nat)) (ws : List Cond) (rm : Room) (mc ms n : Nat) : Prop :=
  (rm.cells = mc ∧ rm.slots = ms ∧ rm.frames + 1 ≤ R.frames ∧ 8 + (maxL + 11) + rm.locals ≤ R.locals ∧ (∀ w ∈ ws, ∀ (a' : Array Value) (U : State), s.WarmedH U.vm → w.before a' U = true) ∧ Cond.codeWith y bytes maxL ret hh ∈ ws) ∧
  (Cond.codeWith y bytes maxL ret hh).before args s = true ∧ (Cond.initialized y.cls).before args s = true ∧ (y.cls ≠ "java/lang/invoke/MethodHandle" ∧ y.cls ≠ "java/lang/invoke/VarHandle") ∧
  (∀ sig, parseMethodDescriptor y.desc = some sig → n = sig.parameters.length) ∧ (Cond.methodLink own index y).before args s = true ∧ (Cond.instanceMethod y).before args s = true ∧ (Cond.selects C y y).before args s = true
theorem vx_cwVW {own C : String} {index maxL mc ms : Nat} {y : MethodName} {bytes : ByteArray} {ret : Option FieldType} {hh : List (Nat × Nat × Nat × Nat)} {Ts ws ws' : List Cond} {rm : Room} (n : Nat) (ht : ∀ w ∈ Ts, w.before args s = true) (hT : GoodIn Ts (wsV own index C y ws)) (hw : ws = Cond.codeWith y bytes maxL ret hh :: ws') (hrc : rm.cells = mc) (hrs : rm.slots = ms)
    (hd : y.cls = C ∧ y.cls ≠ "java/lang/invoke/MethodHandle" ∧ y.cls ≠ "java/lang/invoke/VarHandle" ∧ (parseMethodDescriptor y.desc).map (fun d => d.parameters.length) = some n) (hR : rm.frames + 1 ≤ R.frames ∧ 8 + (maxL + 11) + rm.locals ≤ R.locals) :
    vx_CVW R s args own C index y bytes maxL ret hh ws rm mc ms n := by
  obtain ⟨hC, hd⟩ := hd
  subst hC
  have ok : ∀ w ∈ wsV own index y.cls y ws, w.before args s = true := fun w h => ht w (hT w h).1
  have hG : GoodIn Ts ws := fun w h => hT w (by unfold wsV; exact List.mem_append_right _ h)
  have hc : Cond.codeWith y bytes maxL ret hh ∈ ws := by rw [hw]; exact List.mem_cons_self
  refine ⟨⟨hrc, hrs, hR.1, hR.2, pay_in ht hG, hc⟩, ht _ (hG _ hc).1, ok _ (by simp [wsV]), ⟨hd.1, hd.2.1⟩, fun sig h => ?_, ok _ (by simp [wsV]), ok _ (by simp [wsV]), ok _ (by simp [wsV])⟩
  have h2 := hd.2.2
  rw [h] at h2
  exact (Option.some.inj h2).symm
theorem vx_runVW {y : MethodName} {bytes cc : ByteArray} {maxL nL mc ms n index : Nat} {ret : Option FieldType} {hh : List (Nat × Nat × Nat × Nat)} {ws : List Cond} {rm : Room} {Pc : Array Value → State → Prop} {Qc : Array Value → State → Outcome → State → Prop} {free : Addr → Prop} {Ts : List Cond} {own C : String} {b : Addr} {As rest : List Value} {g : JFrame}
    (S : CallFix p m c cc nL s args Ts own) (hM : Met l y ws rm Pc Qc mc ms free) (cw : vx_CVW R s args own C index y bytes maxL ret hh ws rm mc ms n) (hp : PreV s H C b Pc As)
    (hg : g.method = m) (hn : As.length = n) (hsize : g.locals.size = nL) (hstack : g.stack = As.reverse ++ .ref b :: rest) (hW : 2 * g.monitorRoom + (rest.map fun v => v.category).sum ≤ 8) (hdg : decode cc g.pc = .ok (.invokevirtual index, 3)) (hf : cells + mc ≤ R.cells ∧ slots + ms ≤ R.slots) :
    va_Run p l e R s m args below meth c H locs cells slots mc ms g rest (Qc (Value.ref b :: As).toArray) free := by
  obtain ⟨⟨hrc, hrs, hfr, hlo, hws, hcw⟩, hcode, hini, hy, hlen, hl, hin, hse⟩ := cw
  have hK : Back l R p e below s args y 3 8 (PreOf R mc ms Pc) (PostOf Qc mc ms free) := va_backW (hh := hh) (bytes := bytes) (maxL := maxL) (ret := ret) hM hp.1 hrc hrs hfr hlo hws hcw (fun a' U hW => word_at hW (Or.inl (by first | rfl | simp [Cond.onTables, Cond.keeps, Cond.steady])) hini)
  obtain ⟨hx, hb, hml, ho, -⟩ := S
  obtain ⟨-, ⟨cellB, hcB, hoB, hclB⟩, hPc⟩ := hp
  intro T hT X
  obtain ⟨v, vm₁, ⟨U', l2, c2, s2⟩, hW₁, X', ⟨g', mk, t, L, e1, e2, hq, h1, hL, h2, h3⟩, st⟩ := vx_callVW X hx (C := C) (hh := hh) (bytes := bytes) (maxL := maxL) (ret := ret) ho hl hin hse hcode hy hK (by rw [hT]; exact hcB) hoB hclB hg (hsize.trans hml.symm) (argsL := As) (rest := rest) (fun sig h => hn.trans (hlen sig h)) hstack hW (by rw [hb]; exact hdg)
    (fun vm₁ hW₁ => ⟨hf.1, hf.2, hPc (T.setVm vm₁) hT hW₁⟩)
  dsimp only [Pt.U, Pt.locs, Pt.cells, Pt.slots] at X' e1 e2 h1 h2 h3 st
  subst h1; subst h2; subst h3
  exact ⟨v, (T.setVm vm₁).calling g' mk (Value.ref b :: As).toArray, t, U', L, hT, X', hL, e1, e2, hq, st⟩
section
variable {y : MethodName} {bytes cc : ByteArray} {maxL nL mc ms n index : Nat} {ret : Option FieldType} {ws : List Cond} {rm : Room} {Pc : Array Value → State → Prop} {Qc : Array Value → State → Outcome → State → Prop} {XC : String → State → State → Prop} {free : Addr → Prop} {Ts : List Cond} {own C : String} {b : Addr} {As rest : List Value} {g : JFrame}
theorem vx_runVX {hh : List (Nat × Nat × Nat × Nat)} (S : CallFix p m c cc nL s args Ts own) (hM : vx_Met l y ws rm Pc Qc XC mc ms free) (cw : vx_CVW R s args own C index y bytes maxL ret hh ws rm mc ms n) (hp : PreV s H C b Pc As)
    (hg : g.method = m) (hn : As.length = n) (hsize : g.locals.size = nL) (hstack : g.stack = As.reverse ++ .ref b :: rest) (hW : 2 * g.monitorRoom + (rest.map fun v => v.category).sum ≤ 8) (hdg : decode cc g.pc = .ok (.invokevirtual index, 3)) (hf : cells + mc ≤ R.cells ∧ slots + ms ≤ R.slots) :
    vx_Run p l e R s m args below meth c H locs cells slots mc ms g rest (Qc (Value.ref b :: As).toArray) XC free := by
  obtain ⟨⟨hrc, hrs, hfr, hlo, hws, hcw⟩, hcode, hini, hy, hlen, hl, hin, hse⟩ := cw
  have hK : vx_Back l R p e below s args y 3 8 (PreOf R mc ms Pc) (PostOf Qc mc ms free) (vx_Post XC mc ms free) := vx_backW (hh := hh) (bytes := bytes) (maxL := maxL) (ret := ret) hM hp.1 hrc hrs hfr hlo hws hcw (fun a' U hW => word_at hW (Or.inl (by first | rfl | simp [Cond.onTables, Cond.keeps, Cond.steady])) hini)
  obtain ⟨hx, hb, hml, ho, -⟩ := S
  obtain ⟨-, ⟨cellB, hcB, hoB, hclB⟩, hPc⟩ := hp
  intro T hT X
  rcases vx_callVX X hx (C := C) (hh := hh) (bytes := bytes) (maxL := maxL) (ret := ret) ho hl hin hse hcode hy hK (by rw [hT]; exact hcB) hoB hclB hg (hsize.trans hml.symm) (argsL := As) (rest := rest) (fun sig h => hn.trans (hlen sig h)) hstack hW (by rw [hb]; exact hdg)
    (fun vm₁ hW₁ => ⟨hf.1, hf.2, hPc (T.setVm vm₁) hT hW₁⟩) with ⟨v, vm₁, ⟨U', l2, c2, s2⟩, hW₁, X', ⟨g', mk, t, L, e1, e2, hq, h1, hL, h2, h3⟩, st⟩ | ⟨q, vm₁, ⟨U', l2, c2, s2⟩, hW₁, X', ⟨g', mk, t, L, E, ce, e1, e2, hq, hce, hcv, hcl, h1, hL, h2, h3⟩, st⟩
  · dsimp only [Pt.U, Pt.locs, Pt.cells, Pt.slots] at X' e1 e2 h1 h2 h3 st
    subst h1; subst h2; subst h3
    exact Or.inl ⟨v, (T.setVm vm₁).calling g' mk (Value.ref b :: As).toArray, t, U', L, hT, X', hL, e1, e2, hq, st⟩
  · dsimp only [Pt.U, Pt.locs, Pt.cells, Pt.slots] at X' e1 e2 h1 h2 h3 st hcl
    subst h1; subst h2; subst h3
    exact Or.inr ⟨q, (T.setVm vm₁).calling g' mk (Value.ref b :: As).toArray, t, U', L, E, ce, hT, X', hL, e1, e2, hq, hce, hcv, vx_cls hW₁ hcl, st⟩
theorem vx_runSX {hh : List (Nat × Nat × Nat × Nat)} (S : CallFix p m c cc nL s args Ts own) (hM : vx_Met l y ws rm Pc Qc XC mc ms free) (cw : vx_CSW R s args own index y bytes maxL ret hh ws rm mc ms n) (hp : PreS s H Pc As)
    (hg : g.method = m) (hn : As.length = n) (hsize : g.locals.size = nL) (hstack : g.stack = As.reverse ++ rest) (hW : 2 * g.monitorRoom + (rest.map fun v => v.category).sum ≤ 8) (hdg : decode cc g.pc = .ok (.invokestatic index, 3)) (hf : cells + mc ≤ R.cells ∧ slots + ms ≤ R.slots) :
    vx_Run p l e R s m args below meth c H locs cells slots mc ms g rest (Qc As.toArray) XC free := by
  obtain ⟨⟨hrc, hrs, hfr, hlo, hws, hcw⟩, hcode, hini, hy, hlen, hl, hstt⟩ := cw
  have hK : vx_Back l R p e below s args y 3 8 (PreOf R mc ms Pc) (PostOf Qc mc ms free) (vx_Post XC mc ms free) := vx_backW (hh := hh) (bytes := bytes) (maxL := maxL) (ret := ret) hM hp.1 hrc hrs hfr hlo hws hcw (fun a' U hW => word_at hW (Or.inl (by first | rfl | simp [Cond.onTables, Cond.keeps, Cond.steady])) hini)
  obtain ⟨hx, hb, hml, ho, -⟩ := S
  intro T hT X
  rcases vx_callSX X hx (hh := hh) (bytes := bytes) (maxL := maxL) (ret := ret) ho hl hstt hini hcode hy hK hg (hsize.trans hml.symm) (argsL := As) (rest := rest) (fun sig h => hn.trans (hlen sig h)) hstack hW (by rw [hb]; exact hdg)
    (fun vm₁ hW₁ => ⟨hf.1, hf.2, hp.2 (T.setVm vm₁) hT hW₁⟩) with ⟨v, vm₁, ⟨U', l2, c2, s2⟩, hW₁, X', ⟨g', mk, t, L, e1, e2, hq, h1, hL, h2, h3⟩, st⟩ | ⟨q, vm₁, ⟨U', l2, c2, s2⟩, hW₁, X', ⟨g', mk, t, L, E, ce, e1, e2, hq, hce, hcv, hcl, h1, hL, h2, h3⟩, st⟩
  · dsimp only [Pt.U, Pt.locs, Pt.cells, Pt.slots] at X' e1 e2 h1 h2 h3 st
    subst h1; subst h2; subst h3
    exact Or.inl ⟨v, (T.setVm vm₁).calling g' mk As.toArray, t, U', L, hT, X', hL, e1, e2, hq, st⟩
  · dsimp only [Pt.U, Pt.locs, Pt.cells, Pt.slots] at X' e1 e2 h1 h2 h3 st hcl
    subst h1; subst h2; subst h3
    exact Or.inr ⟨q, (T.setVm vm₁).calling g' mk As.toArray, t, U', L, E, ce, hT, X', hL, e1, e2, hq, hce, hcv, vx_cls hW₁ hcl, st⟩
end
end VXH
theorem vx_ofWH {l : Launch} {y : MethodName} {ws ws' : List Cond} {rm : Room} {Pc : Array Value → State → Prop} {Qc : Array Value → State → Outcome → State → Prop} {XC : String → State → State → Prop} {mc ms : Nat} {free : Addr → Prop} {cc : ByteArray} {maxL : Nat} {ret : Option FieldType} {hh : List (Nat × Nat × Nat × Nat)}
    (hy : plainName y.cls = true) (hw : ws = Cond.codeWith y cc maxL ret hh :: ws')
    (body : ∀ p e s m args below meth c s₁, BodyLoose p l y (headSpec ws rm) cc maxL ret e s m args below meth c s₁ → c.maxLocals = maxL → Pc args s →
      W p l e (headSpec ws rm).room s m args below meth c s.heap [] 0 0 (vx_MQ below Qc XC args s mc ms free) (entryFrame m args maxL)) : vx_Met l y ws rm Pc Qc XC mc ms free := by
  refine MetFree.of_bodyS (code := cc) (maxLocals := maxL) (ret := ret) hy ?_ ?_
  · intro args s m h hn
    obtain ⟨m9, meth, c, hn9, h1, h2, h3, h4, -, h5, h6, -⟩ := Cond.codeWith_spec (atoms_spec (ws := ws) h _ (by rw [hw]; exact List.mem_cons_self))
    cases hn.symm.trans hn9
    exact ⟨meth, c, h1, h2, h3, h4, h5, h6⟩
  · intro p e s m args below meth c s₁ B hml hP _
    have hh0 : s₁.heap = s.heap := by rw [B.state]; rfl
    obtain ⟨t, a1, o, b1, b2, b3⟩ := body p e s m args below meth c s₁ B hml hP s₁ hh0 (Stand.of_body B)
    exact ⟨t, o, a1, b1, b2, b3⟩
/-! ===== END ===== -/
end
section
def RX0 : String := "ChoreAssignment$Solver"
def TX0 : u_T := fun k => match k with
  | 0 => ("ChoreAssignment$Solver", "size", "I", false)
  | 1 => ("ChoreAssignment$Solver", "costs", "[I", true)
  | 2 => ("ChoreAssignment$Solver", "least", "[I", true)
  | 3 => ("ChoreAssignment$Solver", "ways", "[I", true)
  | _ => ("ChoreAssignment$Solver", "greatest", "[I", true)
def tyX0 : Nat → FieldType := fun k => match k with
  | 0 => .int
  | 1 => .array .int
  | 2 => .array .int
  | 3 => .array .int
  | _ => .array .int
theorem nmX0 : ∀ a, a < 5 → ∀ b, b < 5 → a ≠ b → (TX0 a).2.1 ≠ (TX0 b).2.1 := by decide +kernel
theorem tyX0_ok : ∀ k, k < 5 → parseFieldDescriptor (TX0 k).2.2.1 = some (tyX0 k) := by decide +kernel
abbrev cX0_init : ByteArray := prog_2_method_1_code
def yX0_init : MethodName := ⟨RX0, "<init>", "()V"⟩
abbrev cX0_load : ByteArray := prog_2_method_2_code
def yX0_load : MethodName := ⟨RX0, "load", "(LChoreAssignment$Table;)V"⟩
abbrev cX0_putCost : ByteArray := prog_2_method_3_code
def yX0_putCost : MethodName := ⟨RX0, "putCost", "(III)V"⟩
abbrev cX0_allColumns : ByteArray := prog_2_method_4_code
def yX0_allColumns : MethodName := ⟨RX0, "allColumns", "()I"⟩
abbrev cX0_isFree : ByteArray := prog_2_method_5_code
def yX0_isFree : MethodName := ⟨RX0, "isFree", "(II)Z"⟩
abbrev cX0_leastSum : ByteArray := prog_2_method_6_code
def yX0_leastSum : MethodName := ⟨RX0, "leastSum", "()I"⟩
abbrev cX0_findLeast : ByteArray := prog_2_method_7_code
def yX0_findLeast : MethodName := ⟨RX0, "findLeast", "(I)V"⟩
abbrev cX0_leastWays : ByteArray := prog_2_method_8_code
def yX0_leastWays : MethodName := ⟨RX0, "leastWays", "()I"⟩
abbrev cX0_traceLeast : ByteArray := prog_2_method_9_code
def yX0_traceLeast : MethodName := ⟨RX0, "traceLeast", "([I)V"⟩
abbrev cX0_isOnLeast : ByteArray := prog_2_method_10_code
def yX0_isOnLeast : MethodName := ⟨RX0, "isOnLeast", "(III)Z"⟩
abbrev cX0_greatestSum : ByteArray := prog_2_method_11_code
def yX0_greatestSum : MethodName := ⟨RX0, "greatestSum", "()I"⟩
abbrev cX0_leastPeak : ByteArray := prog_2_method_12_code
def yX0_leastPeak : MethodName := ⟨RX0, "leastPeak", "()I"⟩
abbrev cX0_countFrom : ByteArray := prog_2_method_13_code
def yX0_countFrom : MethodName := ⟨RX0, "countFrom", "(LChoreAssignment$Solver;III)I"⟩
def RX1 : String := "ChoreAssignment$Table"
def TX1 : u_T := fun k => match k with
  | 0 => ("ChoreAssignment$Table", "rowCount", "I", false)
  | 1 => ("ChoreAssignment$Table", "columnCount", "I", false)
  | 2 => ("ChoreAssignment$Table", "numbers", "[I", true)
  | _ => ("ChoreAssignment$Table", "forbidden", "[Z", true)
def tyX1 : Nat → FieldType := fun k => match k with
  | 0 => .int
  | 1 => .int
  | 2 => .array .int
  | _ => .array .boolean
theorem nmX1 : ∀ a, a < 4 → ∀ b, b < 4 → a ≠ b → (TX1 a).2.1 ≠ (TX1 b).2.1 := by decide +kernel
theorem tyX1_ok : ∀ k, k < 4 → parseFieldDescriptor (TX1 k).2.2.1 = some (tyX1 k) := by decide +kernel
abbrev cX1_init : ByteArray := prog_3_method_1_code
def yX1_init : MethodName := ⟨RX1, "<init>", "()V"⟩
abbrev cX1_clearTo : ByteArray := prog_3_method_2_code
def yX1_clearTo : MethodName := ⟨RX1, "clearTo", "(II)V"⟩
abbrev cX1_copyFrom : ByteArray := prog_3_method_3_code
def yX1_copyFrom : MethodName := ⟨RX1, "copyFrom", "(LChoreAssignment$Table;)V"⟩
abbrev cX1_numberAt : ByteArray := prog_3_method_4_code
def yX1_numberAt : MethodName := ⟨RX1, "numberAt", "(II)I"⟩
abbrev cX1_putNumber : ByteArray := prog_3_method_5_code
def yX1_putNumber : MethodName := ⟨RX1, "putNumber", "(III)V"⟩
abbrev cX1_isForbidden : ByteArray := prog_3_method_6_code
def yX1_isForbidden : MethodName := ⟨RX1, "isForbidden", "(II)Z"⟩
abbrev cX1_putForbidden : ByteArray := prog_3_method_7_code
def yX1_putForbidden : MethodName := ⟨RX1, "putForbidden", "(IIZ)V"⟩
abbrev cX1_costOf : ByteArray := prog_3_method_8_code
def yX1_costOf : MethodName := ⟨RX1, "costOf", "(II)I"⟩
abbrev cX1_sumOfRow : ByteArray := prog_3_method_9_code
def yX1_sumOfRow : MethodName := ⟨RX1, "sumOfRow", "(I)I"⟩
abbrev cX1_sumOfColumn : ByteArray := prog_3_method_10_code
def yX1_sumOfColumn : MethodName := ⟨RX1, "sumOfColumn", "(I)I"⟩
abbrev cX1_swapCells : ByteArray := prog_3_method_11_code
def yX1_swapCells : MethodName := ⟨RX1, "swapCells", "(IIII)V"⟩
def RX2 : String := "ChoreAssignment$Walk"
def TX2 : u_T := fun k => match k with
  | 0 => ("ChoreAssignment$Walk", "active", "Z", false)
  | 1 => ("ChoreAssignment$Walk", "steps", "I", false)
  | 2 => ("ChoreAssignment$Walk", "visitedKey", "I", false)
  | 3 => ("ChoreAssignment$Walk", "keyCount", "I", false)
  | _ => ("ChoreAssignment$Walk", "keys", "[I", true)
def tyX2 : Nat → FieldType := fun k => match k with
  | 0 => .boolean
  | 1 => .int
  | 2 => .int
  | 3 => .int
  | _ => .array .int
theorem nmX2 : ∀ a, a < 5 → ∀ b, b < 5 → a ≠ b → (TX2 a).2.1 ≠ (TX2 b).2.1 := by decide +kernel
theorem tyX2_ok : ∀ k, k < 5 → parseFieldDescriptor (TX2 k).2.2.1 = some (tyX2 k) := by decide +kernel
abbrev cX2_init : ByteArray := prog_4_method_1_code
def yX2_init : MethodName := ⟨RX2, "<init>", "()V"⟩
abbrev cX2_cancel : ByteArray := prog_4_method_2_code
def yX2_cancel : MethodName := ⟨RX2, "cancel", "()V"⟩
abbrev cX2_begin : ByteArray := prog_4_method_3_code
def yX2_begin : MethodName := ⟨RX2, "begin", "(LChoreAssignment$Table;)V"⟩
abbrev cX2_addKeys : ByteArray := prog_4_method_4_code
def yX2_addKeys : MethodName := ⟨RX2, "addKeys", "(LChoreAssignment$Walk;LChoreAssignment$Table;III)V"⟩
abbrev cX2_shiftOf : ByteArray := prog_4_method_5_code
def yX2_shiftOf : MethodName := ⟨RX2, "shiftOf", "(I)I"⟩
abbrev cX2_advance : ByteArray := prog_4_method_6_code
def yX2_advance : MethodName := ⟨RX2, "advance", "()V"⟩
abbrev cX2_visitedSum : ByteArray := prog_4_method_7_code
def yX2_visitedSum : MethodName := ⟨RX2, "visitedSum", "()I"⟩
abbrev cX2_visitedColumn : ByteArray := prog_4_method_8_code
def yX2_visitedColumn : MethodName := ⟨RX2, "visitedColumn", "(I)I"⟩
def RX3 : String := "ChoreAssignment"
def TX3 : u_T := fun k => match k with
  | 0 => ("ChoreAssignment", "table", "LChoreAssignment$Table;", true)
  | 1 => ("ChoreAssignment", "saved", "LChoreAssignment$Table;", true)
  | 2 => ("ChoreAssignment", "solver", "LChoreAssignment$Solver;", true)
  | 3 => ("ChoreAssignment", "rowPotentials", "[I", true)
  | 4 => ("ChoreAssignment", "columnPotentials", "[I", true)
  | 5 => ("ChoreAssignment", "firstOptimal", "[I", true)
  | _ => ("ChoreAssignment", "walk", "LChoreAssignment$Walk;", true)
def tyX3 : Nat → FieldType := fun k => match k with
  | 0 => .object "ChoreAssignment$Table"
  | 1 => .object "ChoreAssignment$Table"
  | 2 => .object "ChoreAssignment$Solver"
  | 3 => .array .int
  | 4 => .array .int
  | 5 => .array .int
  | _ => .object "ChoreAssignment$Walk"
theorem nmX3 : ∀ a, a < 7 → ∀ b, b < 7 → a ≠ b → (TX3 a).2.1 ≠ (TX3 b).2.1 := by decide +kernel
theorem tyX3_ok : ∀ k, k < 7 → parseFieldDescriptor (TX3 k).2.2.1 = some (tyX3 k) := by decide +kernel
abbrev cX3_init : ByteArray := prog_1_method_1_code
def yX3_init : MethodName := ⟨RX3, "<init>", "()V"⟩
abbrev cX3_resize : ByteArray := prog_1_method_2_code
def yX3_resize : MethodName := ⟨RX3, "resize", "(II)I"⟩
abbrev cX3_setCost : ByteArray := prog_1_method_3_code
def yX3_setCost : MethodName := ⟨RX3, "setCost", "(III)I"⟩
abbrev cX3_setRow : ByteArray := prog_1_method_4_code
def yX3_setRow : MethodName := ⟨RX3, "setRow", "(IJ)I"⟩
abbrev cX3_fill : ByteArray := prog_1_method_5_code
def yX3_fill : MethodName := ⟨RX3, "fill", "(II)I"⟩
abbrev cX3_setForbidden : ByteArray := prog_1_method_6_code
def yX3_setForbidden : MethodName := ⟨RX3, "setForbidden", "(IIZ)I"⟩
abbrev cX3_costAt : ByteArray := prog_1_method_7_code
def yX3_costAt : MethodName := ⟨RX3, "costAt", "(II)I"⟩
abbrev cX3_addToRow : ByteArray := prog_1_method_8_code
def yX3_addToRow : MethodName := ⟨RX3, "addToRow", "(II)I"⟩
abbrev cX3_addToColumn : ByteArray := prog_1_method_9_code
def yX3_addToColumn : MethodName := ⟨RX3, "addToColumn", "(II)I"⟩
abbrev cX3_swapRows : ByteArray := prog_1_method_10_code
def yX3_swapRows : MethodName := ⟨RX3, "swapRows", "(II)I"⟩
abbrev cX3_swapColumns : ByteArray := prog_1_method_11_code
def yX3_swapColumns : MethodName := ⟨RX3, "swapColumns", "(II)I"⟩
abbrev cX3_transpose : ByteArray := prog_1_method_12_code
def yX3_transpose : MethodName := ⟨RX3, "transpose", "()I"⟩
abbrev cX3_save : ByteArray := prog_1_method_13_code
def yX3_save : MethodName := ⟨RX3, "save", "()I"⟩
abbrev cX3_restore : ByteArray := prog_1_method_14_code
def yX3_restore : MethodName := ⟨RX3, "restore", "()I"⟩
abbrev cX3_distance : ByteArray := prog_1_method_15_code
def yX3_distance : MethodName := ⟨RX3, "distance", "()I"⟩
abbrev cX3_rows : ByteArray := prog_1_method_16_code
def yX3_rows : MethodName := ⟨RX3, "rows", "()I"⟩
abbrev cX3_columns : ByteArray := prog_1_method_17_code
def yX3_columns : MethodName := ⟨RX3, "columns", "()I"⟩
abbrev cX3_forbiddenCount : ByteArray := prog_1_method_18_code
def yX3_forbiddenCount : MethodName := ⟨RX3, "forbiddenCount", "()I"⟩
abbrev cX3_totalCost : ByteArray := prog_1_method_19_code
def yX3_totalCost : MethodName := ⟨RX3, "totalCost", "()I"⟩
abbrev cX3_minimum : ByteArray := prog_1_method_20_code
def yX3_minimum : MethodName := ⟨RX3, "minimum", "()I"⟩
abbrev cX3_savedMinimum : ByteArray := prog_1_method_21_code
def yX3_savedMinimum : MethodName := ⟨RX3, "savedMinimum", "()I"⟩
abbrev cX3_assigned : ByteArray := prog_1_method_22_code
def yX3_assigned : MethodName := ⟨RX3, "assigned", "(I)I"⟩
abbrev cX3_optimalCount : ByteArray := prog_1_method_23_code
def yX3_optimalCount : MethodName := ⟨RX3, "optimalCount", "()I"⟩
abbrev cX3_rowPotential : ByteArray := prog_1_method_24_code
def yX3_rowPotential : MethodName := ⟨RX3, "rowPotential", "(I)I"⟩
abbrev cX3_columnPotential : ByteArray := prog_1_method_25_code
def yX3_columnPotential : MethodName := ⟨RX3, "columnPotential", "(I)I"⟩
abbrev cX3_reducedCost : ByteArray := prog_1_method_26_code
def yX3_reducedCost : MethodName := ⟨RX3, "reducedCost", "(II)I"⟩
abbrev cX3_minimumWith : ByteArray := prog_1_method_27_code
def yX3_minimumWith : MethodName := ⟨RX3, "minimumWith", "(II)I"⟩
abbrev cX3_minimumWithout : ByteArray := prog_1_method_28_code
def yX3_minimumWithout : MethodName := ⟨RX3, "minimumWithout", "(II)I"⟩
abbrev cX3_minimumIfCost : ByteArray := prog_1_method_29_code
def yX3_minimumIfCost : MethodName := ⟨RX3, "minimumIfCost", "(III)I"⟩
abbrev cX3_secondBest : ByteArray := prog_1_method_30_code
def yX3_secondBest : MethodName := ⟨RX3, "secondBest", "()I"⟩
abbrev cX3_maximum : ByteArray := prog_1_method_31_code
def yX3_maximum : MethodName := ⟨RX3, "maximum", "()I"⟩
abbrev cX3_bottleneck : ByteArray := prog_1_method_32_code
def yX3_bottleneck : MethodName := ⟨RX3, "bottleneck", "()I"⟩
abbrev cX3_fits : ByteArray := prog_1_method_33_code
def yX3_fits : MethodName := ⟨RX3, "fits", "(I)Z"⟩
abbrev cX3_countWithin : ByteArray := prog_1_method_34_code
def yX3_countWithin : MethodName := ⟨RX3, "countWithin", "(I)I"⟩
abbrev cX3_sumOf : ByteArray := prog_1_method_35_code
def yX3_sumOf : MethodName := ⟨RX3, "sumOf", "(I)I"⟩
abbrev cX3_startEnumeration : ByteArray := prog_1_method_36_code
def yX3_startEnumeration : MethodName := ⟨RX3, "startEnumeration", "()I"⟩
abbrev cX3_nextSum : ByteArray := prog_1_method_37_code
def yX3_nextSum : MethodName := ⟨RX3, "nextSum", "()I"⟩
abbrev cX3_currentColumn : ByteArray := prog_1_method_38_code
def yX3_currentColumn : MethodName := ⟨RX3, "currentColumn", "(I)I"⟩
abbrev cX3_stepsMade : ByteArray := prog_1_method_39_code
def yX3_stepsMade : MethodName := ⟨RX3, "stepsMade", "()I"⟩
abbrev cX3_meanCost : ByteArray := prog_1_method_40_code
def yX3_meanCost : MethodName := ⟨RX3, "meanCost", "()D"⟩
abbrev cX3_shareOf : ByteArray := prog_1_method_41_code
def yX3_shareOf : MethodName := ⟨RX3, "shareOf", "(I)F"⟩
abbrev cX3_checksum : ByteArray := prog_1_method_42_code
def yX3_checksum : MethodName := ⟨RX3, "checksum", "()J"⟩
abbrev cX3_isSound : ByteArray := prog_1_method_43_code
def yX3_isSound : MethodName := ⟨RX3, "isSound", "()Z"⟩
abbrev cX3_isColumn : ByteArray := prog_1_method_44_code
def yX3_isColumn : MethodName := ⟨RX3, "isColumn", "(I)Z"⟩
abbrev cX3_requireRow : ByteArray := prog_1_method_45_code
def yX3_requireRow : MethodName := ⟨RX3, "requireRow", "(I)V"⟩
abbrev cX3_requireColumn : ByteArray := prog_1_method_46_code
def yX3_requireColumn : MethodName := ⟨RX3, "requireColumn", "(I)V"⟩
abbrev cX3_requireRealColumn : ByteArray := prog_1_method_47_code
def yX3_requireRealColumn : MethodName := ⟨RX3, "requireRealColumn", "(I)V"⟩
abbrev cX3_requireCell : ByteArray := prog_1_method_48_code
def yX3_requireCell : MethodName := ⟨RX3, "requireCell", "(II)V"⟩
abbrev cX3_requireRealCell : ByteArray := prog_1_method_49_code
def yX3_requireRealCell : MethodName := ⟨RX3, "requireRealCell", "(II)V"⟩
abbrev cX3_requireAddend : ByteArray := prog_1_method_50_code
def yX3_requireAddend : MethodName := ⟨RX3, "requireAddend", "(I)V"⟩
abbrev cX3_requireNoDummyColumn : ByteArray := prog_1_method_51_code
def yX3_requireNoDummyColumn : MethodName := ⟨RX3, "requireNoDummyColumn", "()V"⟩
abbrev cX3_requireAddable : ByteArray := prog_1_method_52_code
def yX3_requireAddable : MethodName := ⟨RX3, "requireAddable", "(III)V"⟩
abbrev cX3_packedBound : ByteArray := prog_1_method_53_code
def yX3_packedBound : MethodName := ⟨RX3, "packedBound", "()J"⟩
abbrev cX3_findFirstOptimal : ByteArray := prog_1_method_54_code
def yX3_findFirstOptimal : MethodName := ⟨RX3, "findFirstOptimal", "()V"⟩
abbrev cX3_leastWithCost : ByteArray := prog_1_method_55_code
def yX3_leastWithCost : MethodName := ⟨RX3, "leastWithCost", "(III)I"⟩
abbrev cX3_findPotentials : ByteArray := prog_1_method_56_code
def yX3_findPotentials : MethodName := ⟨RX3, "findPotentials", "()V"⟩
abbrev cX3_smallestRest : ByteArray := prog_1_method_57_code
def yX3_smallestRest : MethodName := ⟨RX3, "smallestRest", "(I)I"⟩
abbrev cX3_reducedBy : ByteArray := prog_1_method_58_code
def yX3_reducedBy : MethodName := ⟨RX3, "reducedBy", "(II)I"⟩
abbrev cX3_potentialsAddUp : ByteArray := prog_1_method_59_code
def yX3_potentialsAddUp : MethodName := ⟨RX3, "potentialsAddUp", "()Z"⟩
abbrev cX3_reducedCostsHold : ByteArray := prog_1_method_60_code
def yX3_reducedCostsHold : MethodName := ⟨RX3, "reducedCostsHold", "()Z"⟩
abbrev cX3_cellSplitHolds : ByteArray := prog_1_method_61_code
def yX3_cellSplitHolds : MethodName := ⟨RX3, "cellSplitHolds", "()Z"⟩
abbrev cX3_bottleneckHolds : ByteArray := prog_1_method_62_code
def yX3_bottleneckHolds : MethodName := ⟨RX3, "bottleneckHolds", "()Z"⟩
abbrev cX3_mixed : ByteArray := prog_1_method_63_code
def yX3_mixed : MethodName := ⟨RX3, "mixed", "(JI)J"⟩
abbrev cX3_mixedCosts : ByteArray := prog_1_method_64_code
def yX3_mixedCosts : MethodName := ⟨RX3, "mixedCosts", "(JLChoreAssignment$Table;)J"⟩
abbrev cX3_factorial : ByteArray := prog_1_method_65_code
def yX3_factorial : MethodName := ⟨RX3, "factorial", "(I)I"⟩
abbrev cX3_cellIndex : ByteArray := prog_1_method_66_code
def yX3_cellIndex : MethodName := ⟨RX3, "cellIndex", "(II)I"⟩
def RX4 : String := "ChoreAssignmentModel"
def TX4 : u_T := fun k => match k with
  | 0 => ("ChoreAssignmentModel", "n", "I", false)
  | 1 => ("ChoreAssignmentModel", "m", "I", false)
  | 2 => ("ChoreAssignmentModel", "savedN", "I", false)
  | 3 => ("ChoreAssignmentModel", "savedM", "I", false)
  | 4 => ("ChoreAssignmentModel", "thrown", "I", false)
  | 5 => ("ChoreAssignmentModel", "number", "[I", true)
  | 6 => ("ChoreAssignmentModel", "savedNumber", "[I", true)
  | 7 => ("ChoreAssignmentModel", "isForbidden", "[Z", true)
  | 8 => ("ChoreAssignmentModel", "savedForbidden", "[Z", true)
  | 9 => ("ChoreAssignmentModel", "costs", "[I", true)
  | 10 => ("ChoreAssignmentModel", "with", "[I", true)
  | 11 => ("ChoreAssignmentModel", "p", "[I", true)
  | 12 => ("ChoreAssignmentModel", "first", "[I", true)
  | 13 => ("ChoreAssignmentModel", "least", "I", false)
  | 14 => ("ChoreAssignmentModel", "leastMany", "I", false)
  | 15 => ("ChoreAssignmentModel", "second", "I", false)
  | 16 => ("ChoreAssignmentModel", "greatest", "I", false)
  | 17 => ("ChoreAssignmentModel", "narrowest", "I", false)
  | 18 => ("ChoreAssignmentModel", "steps", "I", false)
  | 19 => ("ChoreAssignmentModel", "lastSum", "I", false)
  | 20 => ("ChoreAssignmentModel", "lastPlace", "I", false)
  | 21 => ("ChoreAssignmentModel", "current", "[I", true)
  | 22 => ("ChoreAssignmentModel", "rowPotentials", "[I", true)
  | _ => ("ChoreAssignmentModel", "columnPotentials", "[I", true)
def tyX4 : Nat → FieldType := fun k => match k with
  | 0 => .int
  | 1 => .int
  | 2 => .int
  | 3 => .int
  | 4 => .int
  | 5 => .array .int
  | 6 => .array .int
  | 7 => .array .boolean
  | 8 => .array .boolean
  | 9 => .array .int
  | 10 => .array .int
  | 11 => .array .int
  | 12 => .array .int
  | 13 => .int
  | 14 => .int
  | 15 => .int
  | 16 => .int
  | 17 => .int
  | 18 => .int
  | 19 => .int
  | 20 => .int
  | 21 => .array .int
  | 22 => .array .int
  | _ => .array .int
theorem nmX4 : ∀ a, a < 24 → ∀ b, b < 24 → a ≠ b → (TX4 a).2.1 ≠ (TX4 b).2.1 := by decide +kernel
theorem tyX4_ok : ∀ k, k < 24 → parseFieldDescriptor (TX4 k).2.2.1 = some (tyX4 k) := by decide +kernel
abbrev cX4_init : ByteArray := prog_6_method_1_code
def yX4_init : MethodName := ⟨RX4, "<init>", "()V"⟩
abbrev cX4_thrown : ByteArray := prog_6_method_2_code
def yX4_thrown : MethodName := ⟨RX4, "thrown", "()I"⟩
abbrev cX4_isWrong : ByteArray := prog_6_method_3_code
def yX4_isWrong : MethodName := ⟨RX4, "isWrong", "(I)Z"⟩
abbrev cX4_isIn : ByteArray := prog_6_method_4_code
def yX4_isIn : MethodName := ⟨RX4, "isIn", "(JJJ)Z"⟩
abbrev cX4_isRow : ByteArray := prog_6_method_5_code
def yX4_isRow : MethodName := ⟨RX4, "isRow", "(I)Z"⟩
abbrev cX4_isReal : ByteArray := prog_6_method_6_code
def yX4_isReal : MethodName := ⟨RX4, "isReal", "(I)Z"⟩
abbrev cX4_cost : ByteArray := prog_6_method_7_code
def yX4_cost : MethodName := ⟨RX4, "cost", "(II)I"⟩
abbrev cX4_savedCost : ByteArray := prog_6_method_8_code
def yX4_savedCost : MethodName := ⟨RX4, "savedCost", "(II)I"⟩
abbrev cX4_factorial : ByteArray := prog_6_method_9_code
def yX4_factorial : MethodName := ⟨RX4, "factorial", "(I)I"⟩
abbrev cX4_begin : ByteArray := prog_6_method_10_code
def yX4_begin : MethodName := ⟨RX4, "begin", "()V"⟩
abbrev cX4_goOn : ByteArray := prog_6_method_11_code
def yX4_goOn : MethodName := ⟨RX4, "goOn", "(I)V"⟩
abbrev cX4_exchange : ByteArray := prog_6_method_12_code
def yX4_exchange : MethodName := ⟨RX4, "exchange", "(II)V"⟩
abbrev cX4_sum : ByteArray := prog_6_method_13_code
def yX4_sum : MethodName := ⟨RX4, "sum", "(I)I"⟩
abbrev cX4_take : ByteArray := prog_6_method_14_code
def yX4_take : MethodName := ⟨RX4, "take", "()V"⟩
abbrev cX4_look : ByteArray := prog_6_method_15_code
def yX4_look : MethodName := ⟨RX4, "look", "(I)V"⟩
abbrev cX4_see : ByteArray := prog_6_method_16_code
def yX4_see : MethodName := ⟨RX4, "see", "(II)V"⟩
abbrev cX4_look_ : ByteArray := prog_6_method_17_code
def yX4_look_ : MethodName := ⟨RX4, "look", "()V"⟩
abbrev cX4_without : ByteArray := prog_6_method_18_code
def yX4_without : MethodName := ⟨RX4, "without", "(II)I"⟩
abbrev cX4_findPotentials : ByteArray := prog_6_method_19_code
def yX4_findPotentials : MethodName := ⟨RX4, "findPotentials", "()V"⟩
abbrev cX4_reduced : ByteArray := prog_6_method_20_code
def yX4_reduced : MethodName := ⟨RX4, "reduced", "(II)I"⟩
abbrev cX4_resize : ByteArray := prog_6_method_21_code
def yX4_resize : MethodName := ⟨RX4, "resize", "(II)I"⟩
abbrev cX4_setCost : ByteArray := prog_6_method_22_code
def yX4_setCost : MethodName := ⟨RX4, "setCost", "(III)I"⟩
abbrev cX4_setRow : ByteArray := prog_6_method_23_code
def yX4_setRow : MethodName := ⟨RX4, "setRow", "(IJ)I"⟩
abbrev cX4_fill : ByteArray := prog_6_method_24_code
def yX4_fill : MethodName := ⟨RX4, "fill", "(II)I"⟩
abbrev cX4_forbiddenMany : ByteArray := prog_6_method_25_code
def yX4_forbiddenMany : MethodName := ⟨RX4, "forbiddenMany", "()I"⟩
abbrev cX4_setForbidden : ByteArray := prog_6_method_26_code
def yX4_setForbidden : MethodName := ⟨RX4, "setForbidden", "(IIZ)I"⟩
abbrev cX4_costAt : ByteArray := prog_6_method_27_code
def yX4_costAt : MethodName := ⟨RX4, "costAt", "(II)I"⟩
abbrev cX4_rowSum : ByteArray := prog_6_method_28_code
def yX4_rowSum : MethodName := ⟨RX4, "rowSum", "(I)I"⟩
abbrev cX4_columnSum : ByteArray := prog_6_method_29_code
def yX4_columnSum : MethodName := ⟨RX4, "columnSum", "(I)I"⟩
abbrev cX4_takes : ByteArray := prog_6_method_30_code
def yX4_takes : MethodName := ⟨RX4, "takes", "(III)Z"⟩
abbrev cX4_addToRow : ByteArray := prog_6_method_31_code
def yX4_addToRow : MethodName := ⟨RX4, "addToRow", "(II)I"⟩
abbrev cX4_addToColumn : ByteArray := prog_6_method_32_code
def yX4_addToColumn : MethodName := ⟨RX4, "addToColumn", "(II)I"⟩
abbrev cX4_exchangeCells : ByteArray := prog_6_method_33_code
def yX4_exchangeCells : MethodName := ⟨RX4, "exchangeCells", "(II)V"⟩
abbrev cX4_swapRows : ByteArray := prog_6_method_34_code
def yX4_swapRows : MethodName := ⟨RX4, "swapRows", "(II)I"⟩
abbrev cX4_swapColumns : ByteArray := prog_6_method_35_code
def yX4_swapColumns : MethodName := ⟨RX4, "swapColumns", "(II)I"⟩
abbrev cX4_transpose : ByteArray := prog_6_method_36_code
def yX4_transpose : MethodName := ⟨RX4, "transpose", "()I"⟩
abbrev cX4_total : ByteArray := prog_6_method_37_code
def yX4_total : MethodName := ⟨RX4, "total", "()I"⟩
abbrev cX4_save : ByteArray := prog_6_method_38_code
def yX4_save : MethodName := ⟨RX4, "save", "()I"⟩
abbrev cX4_restore : ByteArray := prog_6_method_39_code
def yX4_restore : MethodName := ⟨RX4, "restore", "()I"⟩
abbrev cX4_distance : ByteArray := prog_6_method_40_code
def yX4_distance : MethodName := ⟨RX4, "distance", "()I"⟩
abbrev cX4_rows : ByteArray := prog_6_method_41_code
def yX4_rows : MethodName := ⟨RX4, "rows", "()I"⟩
abbrev cX4_columns : ByteArray := prog_6_method_42_code
def yX4_columns : MethodName := ⟨RX4, "columns", "()I"⟩
abbrev cX4_forbiddenCount : ByteArray := prog_6_method_43_code
def yX4_forbiddenCount : MethodName := ⟨RX4, "forbiddenCount", "()I"⟩
abbrev cX4_totalCost : ByteArray := prog_6_method_44_code
def yX4_totalCost : MethodName := ⟨RX4, "totalCost", "()I"⟩
abbrev cX4_minimum : ByteArray := prog_6_method_45_code
def yX4_minimum : MethodName := ⟨RX4, "minimum", "()I"⟩
abbrev cX4_savedMinimum : ByteArray := prog_6_method_46_code
def yX4_savedMinimum : MethodName := ⟨RX4, "savedMinimum", "()I"⟩
abbrev cX4_assigned : ByteArray := prog_6_method_47_code
def yX4_assigned : MethodName := ⟨RX4, "assigned", "(I)I"⟩
abbrev cX4_optimalCount : ByteArray := prog_6_method_48_code
def yX4_optimalCount : MethodName := ⟨RX4, "optimalCount", "()I"⟩
abbrev cX4_rowPotential : ByteArray := prog_6_method_49_code
def yX4_rowPotential : MethodName := ⟨RX4, "rowPotential", "(I)I"⟩
abbrev cX4_columnPotential : ByteArray := prog_6_method_50_code
def yX4_columnPotential : MethodName := ⟨RX4, "columnPotential", "(I)I"⟩
abbrev cX4_reducedCost : ByteArray := prog_6_method_51_code
def yX4_reducedCost : MethodName := ⟨RX4, "reducedCost", "(II)I"⟩
abbrev cX4_minimumWith : ByteArray := prog_6_method_52_code
def yX4_minimumWith : MethodName := ⟨RX4, "minimumWith", "(II)I"⟩
abbrev cX4_minimumWithout : ByteArray := prog_6_method_53_code
def yX4_minimumWithout : MethodName := ⟨RX4, "minimumWithout", "(II)I"⟩
abbrev cX4_minimumIfCost : ByteArray := prog_6_method_54_code
def yX4_minimumIfCost : MethodName := ⟨RX4, "minimumIfCost", "(III)I"⟩
abbrev cX4_secondBest : ByteArray := prog_6_method_55_code
def yX4_secondBest : MethodName := ⟨RX4, "secondBest", "()I"⟩
abbrev cX4_maximum : ByteArray := prog_6_method_56_code
def yX4_maximum : MethodName := ⟨RX4, "maximum", "()I"⟩
abbrev cX4_bottleneck : ByteArray := prog_6_method_57_code
def yX4_bottleneck : MethodName := ⟨RX4, "bottleneck", "()I"⟩
abbrev cX4_fits : ByteArray := prog_6_method_58_code
def yX4_fits : MethodName := ⟨RX4, "fits", "(I)Z"⟩
abbrev cX4_countWithin : ByteArray := prog_6_method_59_code
def yX4_countWithin : MethodName := ⟨RX4, "countWithin", "(I)I"⟩
abbrev cX4_sumOf : ByteArray := prog_6_method_60_code
def yX4_sumOf : MethodName := ⟨RX4, "sumOf", "(I)I"⟩
abbrev cX4_startEnumeration : ByteArray := prog_6_method_61_code
def yX4_startEnumeration : MethodName := ⟨RX4, "startEnumeration", "()I"⟩
abbrev cX4_nextSum : ByteArray := prog_6_method_62_code
def yX4_nextSum : MethodName := ⟨RX4, "nextSum", "()I"⟩
abbrev cX4_currentColumn : ByteArray := prog_6_method_63_code
def yX4_currentColumn : MethodName := ⟨RX4, "currentColumn", "(I)I"⟩
abbrev cX4_stepsMade : ByteArray := prog_6_method_64_code
def yX4_stepsMade : MethodName := ⟨RX4, "stepsMade", "()I"⟩
abbrev cX4_meanCost : ByteArray := prog_6_method_65_code
def yX4_meanCost : MethodName := ⟨RX4, "meanCost", "()D"⟩
abbrev cX4_shareOf : ByteArray := prog_6_method_66_code
def yX4_shareOf : MethodName := ⟨RX4, "shareOf", "(I)F"⟩
abbrev cX4_checksum : ByteArray := prog_6_method_67_code
def yX4_checksum : MethodName := ⟨RX4, "checksum", "()J"⟩
abbrev cX4_isSound : ByteArray := prog_6_method_68_code
def yX4_isSound : MethodName := ⟨RX4, "isSound", "()Z"⟩
def RJx145de : String := "java/io/Serializable"
def TJx145de : u_T := fun k => match k with
  | _ => ("", "", "", false)
def tyJx145de : Nat → FieldType := fun k => match k with
  | _ => .int
theorem nmJx145de : ∀ a, a < 0 → ∀ b, b < 0 → a ≠ b → (TJx145de a).2.1 ≠ (TJx145de b).2.1 := by decide +kernel
theorem tyJx145de_ok : ∀ k, k < 0 → parseFieldDescriptor (TJx145de k).2.2.1 = some (tyJx145de k) := by decide +kernel
def RJ6 : String := "java/lang/Integer"
def TJ6 : u_T := fun k => match k with
  | _ => ("", "", "", false)
def tyJ6 : Nat → FieldType := fun k => match k with
  | _ => .int
theorem nmJ6 : ∀ a, a < 0 → ∀ b, b < 0 → a ≠ b → (TJ6 a).2.1 ≠ (TJ6 b).2.1 := by decide +kernel
theorem tyJ6_ok : ∀ k, k < 0 → parseFieldDescriptor (TJ6 k).2.2.1 = some (tyJ6 k) := by decide +kernel
abbrev cJ6_bitCount_0f7a4 : ByteArray := prog_12_method_49_code
def yJ6_bitCount_0f7a4 : MethodName := ⟨RJ6, "bitCount", "(I)I"⟩
def RJ9 : String := "java/lang/Math"
def TJ9 : u_T := fun k => match k with
  | _ => ("", "", "", false)
def tyJ9 : Nat → FieldType := fun k => match k with
  | _ => .int
theorem nmJ9 : ∀ a, a < 0 → ∀ b, b < 0 → a ≠ b → (TJ9 a).2.1 ≠ (TJ9 b).2.1 := by decide +kernel
theorem tyJ9_ok : ∀ k, k < 0 → parseFieldDescriptor (TJ9 k).2.2.1 = some (tyJ9 k) := by decide +kernel
abbrev cJ9_abs_0f7a4 : ByteArray := prog_13_method_59_code
def yJ9_abs_0f7a4 : MethodName := ⟨RJ9, "abs", "(I)I"⟩
abbrev cJ9_max_7cf53 : ByteArray := prog_13_method_65_code
def yJ9_max_7cf53 : MethodName := ⟨RJ9, "max", "(II)I"⟩
abbrev cJ9_min_7cf53 : ByteArray := prog_13_method_69_code
def yJ9_min_7cf53 : MethodName := ⟨RJ9, "min", "(II)I"⟩
def RL : String := "ChoreAssignmentLaw"
abbrev cL_resize : ByteArray := method_3_code
def yL_resize : MethodName := ⟨RL, "resize", "(LChoreAssignment;II[J)I"⟩
abbrev cL_setCost : ByteArray := method_4_code
def yL_setCost : MethodName := ⟨RL, "setCost", "(LChoreAssignment;III[J)I"⟩
abbrev cL_setRow : ByteArray := method_5_code
def yL_setRow : MethodName := ⟨RL, "setRow", "(LChoreAssignment;IJ[J)I"⟩
abbrev cL_fill : ByteArray := method_6_code
def yL_fill : MethodName := ⟨RL, "fill", "(LChoreAssignment;II[J)I"⟩
abbrev cL_setForbidden : ByteArray := method_7_code
def yL_setForbidden : MethodName := ⟨RL, "setForbidden", "(LChoreAssignment;IIZ[J)I"⟩
abbrev cL_costAt : ByteArray := method_8_code
def yL_costAt : MethodName := ⟨RL, "costAt", "(LChoreAssignment;II[J)I"⟩
abbrev cL_addToRow : ByteArray := method_9_code
def yL_addToRow : MethodName := ⟨RL, "addToRow", "(LChoreAssignment;II[J)I"⟩
abbrev cL_addToColumn : ByteArray := method_10_code
def yL_addToColumn : MethodName := ⟨RL, "addToColumn", "(LChoreAssignment;II[J)I"⟩
abbrev cL_swapRows : ByteArray := method_11_code
def yL_swapRows : MethodName := ⟨RL, "swapRows", "(LChoreAssignment;II[J)I"⟩
abbrev cL_swapColumns : ByteArray := method_12_code
def yL_swapColumns : MethodName := ⟨RL, "swapColumns", "(LChoreAssignment;II[J)I"⟩
abbrev cL_transpose : ByteArray := method_13_code
def yL_transpose : MethodName := ⟨RL, "transpose", "(LChoreAssignment;[J)I"⟩
abbrev cL_assigned : ByteArray := method_14_code
def yL_assigned : MethodName := ⟨RL, "assigned", "(LChoreAssignment;I[J)I"⟩
abbrev cL_rowPotential : ByteArray := method_15_code
def yL_rowPotential : MethodName := ⟨RL, "rowPotential", "(LChoreAssignment;I[J)I"⟩
abbrev cL_columnPotential : ByteArray := method_16_code
def yL_columnPotential : MethodName := ⟨RL, "columnPotential", "(LChoreAssignment;I[J)I"⟩
abbrev cL_reducedCost : ByteArray := method_17_code
def yL_reducedCost : MethodName := ⟨RL, "reducedCost", "(LChoreAssignment;II[J)I"⟩
abbrev cL_minimumWith : ByteArray := method_18_code
def yL_minimumWith : MethodName := ⟨RL, "minimumWith", "(LChoreAssignment;II[J)I"⟩
abbrev cL_minimumWithout : ByteArray := method_19_code
def yL_minimumWithout : MethodName := ⟨RL, "minimumWithout", "(LChoreAssignment;II[J)I"⟩
abbrev cL_minimumIfCost : ByteArray := method_20_code
def yL_minimumIfCost : MethodName := ⟨RL, "minimumIfCost", "(LChoreAssignment;III[J)I"⟩
abbrev cL_fits : ByteArray := method_21_code
def yL_fits : MethodName := ⟨RL, "fits", "(LChoreAssignment;I[J)I"⟩
abbrev cL_countWithin : ByteArray := method_22_code
def yL_countWithin : MethodName := ⟨RL, "countWithin", "(LChoreAssignment;I[J)I"⟩
abbrev cL_sumOf : ByteArray := method_23_code
def yL_sumOf : MethodName := ⟨RL, "sumOf", "(LChoreAssignment;I[J)I"⟩
abbrev cL_startEnumeration : ByteArray := method_24_code
def yL_startEnumeration : MethodName := ⟨RL, "startEnumeration", "(LChoreAssignment;[J)I"⟩
abbrev cL_nextSum : ByteArray := method_25_code
def yL_nextSum : MethodName := ⟨RL, "nextSum", "(LChoreAssignment;[J)I"⟩
abbrev cL_currentColumn : ByteArray := method_26_code
def yL_currentColumn : MethodName := ⟨RL, "currentColumn", "(LChoreAssignment;I[J)I"⟩
abbrev cL_shareOf : ByteArray := method_27_code
def yL_shareOf : MethodName := ⟨RL, "shareOf", "(LChoreAssignment;I[D)I"⟩
abbrev cL_law : ByteArray := code
def yL_law : MethodName := ⟨RL, "law", "([I)Z"⟩
abbrev vwCl : List vw_C := [(RX0, TX0, 5), (RX1, TX1, 4), (RX2, TX2, 5), (RX3, TX3, 7), (RX4, TX4, 24)]
end
section
theorem dX0_init_0 : decode cX0_init 0 = .ok (.aload_n 0, 1) := by decide +kernel
theorem dX0_init_1 : decode cX0_init 1 = .ok (.invokespecial 3, 3) := by decide +kernel
theorem dX0_init_4 : decode cX0_init 4 = .ok (.aload_n 0, 1) := by decide +kernel
theorem dX0_init_5 : decode cX0_init 5 = .ok (.iconst 1, 1) := by decide +kernel
theorem dX0_init_6 : decode cX0_init 6 = .ok (.putfield 9, 3) := by decide +kernel
theorem dX0_init_9 : decode cX0_init 9 = .ok (.aload_n 0, 1) := by decide +kernel
theorem dX0_init_10 : decode cX0_init 10 = .ok (.bipush 49, 2) := by decide +kernel
theorem dX0_init_12 : decode cX0_init 12 = .ok (.newarray .int, 2) := by decide +kernel
theorem dX0_init_14 : decode cX0_init 14 = .ok (.putfield 15, 3) := by decide +kernel
theorem dX0_init_17 : decode cX0_init 17 = .ok (.aload_n 0, 1) := by decide +kernel
theorem dX0_init_18 : decode cX0_init 18 = .ok (.sipush 128, 3) := by decide +kernel
theorem dX0_init_21 : decode cX0_init 21 = .ok (.newarray .int, 2) := by decide +kernel
theorem dX0_init_23 : decode cX0_init 23 = .ok (.putfield 19, 3) := by decide +kernel
theorem dX0_init_26 : decode cX0_init 26 = .ok (.aload_n 0, 1) := by decide +kernel
theorem dX0_init_27 : decode cX0_init 27 = .ok (.sipush 128, 3) := by decide +kernel
theorem dX0_init_30 : decode cX0_init 30 = .ok (.newarray .int, 2) := by decide +kernel
theorem dX0_init_32 : decode cX0_init 32 = .ok (.putfield 22, 3) := by decide +kernel
theorem dX0_init_35 : decode cX0_init 35 = .ok (.aload_n 0, 1) := by decide +kernel
theorem dX0_init_36 : decode cX0_init 36 = .ok (.sipush 128, 3) := by decide +kernel
theorem dX0_init_39 : decode cX0_init 39 = .ok (.newarray .int, 2) := by decide +kernel
theorem dX0_init_41 : decode cX0_init 41 = .ok (.putfield 25, 3) := by decide +kernel
theorem dX0_init_44 : decode cX0_init 44 = .ok (.return_, 1) := by decide +kernel
theorem dX0_load_0 : decode cX0_load 0 = .ok (.aload_n 0, 1) := by decide +kernel
theorem dX0_load_1 : decode cX0_load 1 = .ok (.aload_n 1, 1) := by decide +kernel
theorem dX0_load_2 : decode cX0_load 2 = .ok (.getfield 28, 3) := by decide +kernel
theorem dX0_load_5 : decode cX0_load 5 = .ok (.putfield 9, 3) := by decide +kernel
theorem dX0_load_8 : decode cX0_load 8 = .ok (.iconst 0, 1) := by decide +kernel
theorem dX0_load_9 : decode cX0_load 9 = .ok (.istore_n 2, 1) := by decide +kernel
theorem dX0_load_10 : decode cX0_load 10 = .ok (.iload_n 2, 1) := by decide +kernel
theorem dX0_load_11 : decode cX0_load 11 = .ok (.aload_n 0, 1) := by decide +kernel
theorem dX0_load_12 : decode cX0_load 12 = .ok (.getfield 9, 3) := by decide +kernel
theorem dX0_load_15 : decode cX0_load 15 = .ok (.if_icmp .ge 37, 3) := by decide +kernel
theorem dX0_load_18 : decode cX0_load 18 = .ok (.iconst 0, 1) := by decide +kernel
theorem dX0_load_19 : decode cX0_load 19 = .ok (.istore_n 3, 1) := by decide +kernel
theorem dX0_load_20 : decode cX0_load 20 = .ok (.iload_n 3, 1) := by decide +kernel
theorem dX0_load_21 : decode cX0_load 21 = .ok (.aload_n 0, 1) := by decide +kernel
theorem dX0_load_22 : decode cX0_load 22 = .ok (.getfield 9, 3) := by decide +kernel
theorem dX0_load_25 : decode cX0_load 25 = .ok (.if_icmp .ge 21, 3) := by decide +kernel
theorem dX0_load_28 : decode cX0_load 28 = .ok (.aload_n 0, 1) := by decide +kernel
theorem dX0_load_29 : decode cX0_load 29 = .ok (.iload_n 2, 1) := by decide +kernel
theorem dX0_load_30 : decode cX0_load 30 = .ok (.iload_n 3, 1) := by decide +kernel
theorem dX0_load_31 : decode cX0_load 31 = .ok (.aload_n 1, 1) := by decide +kernel
theorem dX0_load_32 : decode cX0_load 32 = .ok (.iload_n 2, 1) := by decide +kernel
theorem dX0_load_33 : decode cX0_load 33 = .ok (.iload_n 3, 1) := by decide +kernel
theorem dX0_load_34 : decode cX0_load 34 = .ok (.invokevirtual 33, 3) := by decide +kernel
theorem dX0_load_37 : decode cX0_load 37 = .ok (.invokevirtual 37, 3) := by decide +kernel
theorem dX0_load_40 : decode cX0_load 40 = .ok (.iinc 3 1, 3) := by decide +kernel
theorem dX0_load_43 : decode cX0_load 43 = .ok (.goto (-23), 3) := by decide +kernel
theorem dX0_load_46 : decode cX0_load 46 = .ok (.iinc 2 1, 3) := by decide +kernel
theorem dX0_load_49 : decode cX0_load 49 = .ok (.goto (-39), 3) := by decide +kernel
theorem dX0_load_52 : decode cX0_load 52 = .ok (.return_, 1) := by decide +kernel
theorem dX0_putCost_0 : decode cX0_putCost 0 = .ok (.aload_n 0, 1) := by decide +kernel
theorem dX0_putCost_1 : decode cX0_putCost 1 = .ok (.getfield 15, 3) := by decide +kernel
theorem dX0_putCost_4 : decode cX0_putCost 4 = .ok (.iload_n 1, 1) := by decide +kernel
theorem dX0_putCost_5 : decode cX0_putCost 5 = .ok (.iload_n 2, 1) := by decide +kernel
theorem dX0_putCost_6 : decode cX0_putCost 6 = .ok (.invokestatic 41, 3) := by decide +kernel
theorem dX0_putCost_9 : decode cX0_putCost 9 = .ok (.iload_n 3, 1) := by decide +kernel
theorem dX0_putCost_10 : decode cX0_putCost 10 = .ok (.iastore, 1) := by decide +kernel
theorem dX0_putCost_11 : decode cX0_putCost 11 = .ok (.return_, 1) := by decide +kernel
theorem dX0_allColumns_0 : decode cX0_allColumns 0 = .ok (.iconst 1, 1) := by decide +kernel
theorem dX0_allColumns_1 : decode cX0_allColumns 1 = .ok (.aload_n 0, 1) := by decide +kernel
theorem dX0_allColumns_2 : decode cX0_allColumns 2 = .ok (.getfield 9, 3) := by decide +kernel
theorem dX0_allColumns_5 : decode cX0_allColumns 5 = .ok (.ishl, 1) := by decide +kernel
theorem dX0_allColumns_6 : decode cX0_allColumns 6 = .ok (.iconst 1, 1) := by decide +kernel
theorem dX0_allColumns_7 : decode cX0_allColumns 7 = .ok (.isub, 1) := by decide +kernel
theorem dX0_allColumns_8 : decode cX0_allColumns 8 = .ok (.ireturn, 1) := by decide +kernel
theorem dX0_isFree_0 : decode cX0_isFree 0 = .ok (.iload_n 0, 1) := by decide +kernel
theorem dX0_isFree_1 : decode cX0_isFree 1 = .ok (.iload_n 1, 1) := by decide +kernel
theorem dX0_isFree_2 : decode cX0_isFree 2 = .ok (.ishr, 1) := by decide +kernel
theorem dX0_isFree_3 : decode cX0_isFree 3 = .ok (.iconst 1, 1) := by decide +kernel
theorem dX0_isFree_4 : decode cX0_isFree 4 = .ok (.iand, 1) := by decide +kernel
theorem dX0_isFree_5 : decode cX0_isFree 5 = .ok (.ifCond .ne 7, 3) := by decide +kernel
theorem dX0_isFree_8 : decode cX0_isFree 8 = .ok (.iconst 1, 1) := by decide +kernel
theorem dX0_isFree_9 : decode cX0_isFree 9 = .ok (.goto 4, 3) := by decide +kernel
theorem dX0_isFree_12 : decode cX0_isFree 12 = .ok (.iconst 0, 1) := by decide +kernel
theorem dX0_isFree_13 : decode cX0_isFree 13 = .ok (.ireturn, 1) := by decide +kernel
theorem dX0_leastSum_0 : decode cX0_leastSum 0 = .ok (.aload_n 0, 1) := by decide +kernel
theorem dX0_leastSum_1 : decode cX0_leastSum 1 = .ok (.invokevirtual 44, 3) := by decide +kernel
theorem dX0_leastSum_4 : decode cX0_leastSum 4 = .ok (.istore_n 1, 1) := by decide +kernel
theorem dX0_leastSum_5 : decode cX0_leastSum 5 = .ok (.aload_n 0, 1) := by decide +kernel
theorem dX0_leastSum_6 : decode cX0_leastSum 6 = .ok (.getfield 19, 3) := by decide +kernel
theorem dX0_leastSum_9 : decode cX0_leastSum 9 = .ok (.iload_n 1, 1) := by decide +kernel
theorem dX0_leastSum_10 : decode cX0_leastSum 10 = .ok (.iconst 0, 1) := by decide +kernel
theorem dX0_leastSum_11 : decode cX0_leastSum 11 = .ok (.iastore, 1) := by decide +kernel
theorem dX0_leastSum_12 : decode cX0_leastSum 12 = .ok (.aload_n 0, 1) := by decide +kernel
theorem dX0_leastSum_13 : decode cX0_leastSum 13 = .ok (.getfield 22, 3) := by decide +kernel
theorem dX0_leastSum_16 : decode cX0_leastSum 16 = .ok (.iload_n 1, 1) := by decide +kernel
theorem dX0_leastSum_17 : decode cX0_leastSum 17 = .ok (.iconst 1, 1) := by decide +kernel
theorem dX0_leastSum_18 : decode cX0_leastSum 18 = .ok (.iastore, 1) := by decide +kernel
theorem dX0_leastSum_19 : decode cX0_leastSum 19 = .ok (.iload_n 1, 1) := by decide +kernel
theorem dX0_leastSum_20 : decode cX0_leastSum 20 = .ok (.iconst 1, 1) := by decide +kernel
theorem dX0_leastSum_21 : decode cX0_leastSum 21 = .ok (.isub, 1) := by decide +kernel
theorem dX0_leastSum_22 : decode cX0_leastSum 22 = .ok (.istore_n 2, 1) := by decide +kernel
theorem dX0_leastSum_23 : decode cX0_leastSum 23 = .ok (.iload_n 2, 1) := by decide +kernel
theorem dX0_leastSum_24 : decode cX0_leastSum 24 = .ok (.ifCond .lt 14, 3) := by decide +kernel
theorem dX0_leastSum_27 : decode cX0_leastSum 27 = .ok (.aload_n 0, 1) := by decide +kernel
theorem dX0_leastSum_28 : decode cX0_leastSum 28 = .ok (.iload_n 2, 1) := by decide +kernel
theorem dX0_leastSum_29 : decode cX0_leastSum 29 = .ok (.invokevirtual 48, 3) := by decide +kernel
theorem dX0_leastSum_32 : decode cX0_leastSum 32 = .ok (.iinc 2 (-1), 3) := by decide +kernel
theorem dX0_leastSum_35 : decode cX0_leastSum 35 = .ok (.goto (-12), 3) := by decide +kernel
theorem dX0_leastSum_38 : decode cX0_leastSum 38 = .ok (.aload_n 0, 1) := by decide +kernel
theorem dX0_leastSum_39 : decode cX0_leastSum 39 = .ok (.getfield 19, 3) := by decide +kernel
theorem dX0_leastSum_42 : decode cX0_leastSum 42 = .ok (.iconst 0, 1) := by decide +kernel
theorem dX0_leastSum_43 : decode cX0_leastSum 43 = .ok (.iaload, 1) := by decide +kernel
theorem dX0_leastSum_44 : decode cX0_leastSum 44 = .ok (.ireturn, 1) := by decide +kernel
theorem dX0_findLeast_0 : decode cX0_findLeast 0 = .ok (.iload_n 1, 1) := by decide +kernel
theorem dX0_findLeast_1 : decode cX0_findLeast 1 = .ok (.invokestatic 52, 3) := by decide +kernel
theorem dX0_findLeast_4 : decode cX0_findLeast 4 = .ok (.istore_n 2, 1) := by decide +kernel
theorem dX0_findLeast_5 : decode cX0_findLeast 5 = .ok (.ldc 58, 2) := by decide +kernel
theorem dX0_findLeast_7 : decode cX0_findLeast 7 = .ok (.istore_n 3, 1) := by decide +kernel
theorem dX0_findLeast_8 : decode cX0_findLeast 8 = .ok (.iconst 0, 1) := by decide +kernel
theorem dX0_findLeast_9 : decode cX0_findLeast 9 = .ok (.istore 4, 2) := by decide +kernel
theorem dX0_findLeast_11 : decode cX0_findLeast 11 = .ok (.iconst 0, 1) := by decide +kernel
theorem dX0_findLeast_12 : decode cX0_findLeast 12 = .ok (.istore 5, 2) := by decide +kernel
theorem dX0_findLeast_14 : decode cX0_findLeast 14 = .ok (.iload 5, 2) := by decide +kernel
theorem dX0_findLeast_16 : decode cX0_findLeast 16 = .ok (.aload_n 0, 1) := by decide +kernel
theorem dX0_findLeast_17 : decode cX0_findLeast 17 = .ok (.getfield 9, 3) := by decide +kernel
theorem dX0_findLeast_20 : decode cX0_findLeast 20 = .ok (.if_icmp .ge 77, 3) := by decide +kernel
theorem dX0_findLeast_23 : decode cX0_findLeast 23 = .ok (.iload_n 1, 1) := by decide +kernel
theorem dX0_findLeast_24 : decode cX0_findLeast 24 = .ok (.iload 5, 2) := by decide +kernel
theorem dX0_findLeast_26 : decode cX0_findLeast 26 = .ok (.invokestatic 59, 3) := by decide +kernel
theorem dX0_findLeast_29 : decode cX0_findLeast 29 = .ok (.ifCond .eq 62, 3) := by decide +kernel
theorem dX0_findLeast_32 : decode cX0_findLeast 32 = .ok (.iload_n 1, 1) := by decide +kernel
theorem dX0_findLeast_33 : decode cX0_findLeast 33 = .ok (.iconst 1, 1) := by decide +kernel
theorem dX0_findLeast_34 : decode cX0_findLeast 34 = .ok (.iload 5, 2) := by decide +kernel
theorem dX0_findLeast_36 : decode cX0_findLeast 36 = .ok (.ishl, 1) := by decide +kernel
theorem dX0_findLeast_37 : decode cX0_findLeast 37 = .ok (.ior, 1) := by decide +kernel
theorem dX0_findLeast_38 : decode cX0_findLeast 38 = .ok (.istore 6, 2) := by decide +kernel
theorem dX0_findLeast_40 : decode cX0_findLeast 40 = .ok (.aload_n 0, 1) := by decide +kernel
theorem dX0_findLeast_41 : decode cX0_findLeast 41 = .ok (.getfield 15, 3) := by decide +kernel
theorem dX0_findLeast_44 : decode cX0_findLeast 44 = .ok (.iload_n 2, 1) := by decide +kernel
theorem dX0_findLeast_45 : decode cX0_findLeast 45 = .ok (.iload 5, 2) := by decide +kernel
theorem dX0_findLeast_47 : decode cX0_findLeast 47 = .ok (.invokestatic 41, 3) := by decide +kernel
theorem dX0_findLeast_50 : decode cX0_findLeast 50 = .ok (.iaload, 1) := by decide +kernel
theorem dX0_findLeast_51 : decode cX0_findLeast 51 = .ok (.aload_n 0, 1) := by decide +kernel
theorem dX0_findLeast_52 : decode cX0_findLeast 52 = .ok (.getfield 19, 3) := by decide +kernel
theorem dX0_findLeast_55 : decode cX0_findLeast 55 = .ok (.iload 6, 2) := by decide +kernel
theorem dX0_findLeast_57 : decode cX0_findLeast 57 = .ok (.iaload, 1) := by decide +kernel
theorem dX0_findLeast_58 : decode cX0_findLeast 58 = .ok (.iadd, 1) := by decide +kernel
theorem dX0_findLeast_59 : decode cX0_findLeast 59 = .ok (.istore 7, 2) := by decide +kernel
theorem dX0_findLeast_61 : decode cX0_findLeast 61 = .ok (.iload 7, 2) := by decide +kernel
theorem dX0_findLeast_63 : decode cX0_findLeast 63 = .ok (.iload_n 3, 1) := by decide +kernel
theorem dX0_findLeast_64 : decode cX0_findLeast 64 = .ok (.if_icmp .ge 9, 3) := by decide +kernel
theorem dX0_findLeast_67 : decode cX0_findLeast 67 = .ok (.iload 7, 2) := by decide +kernel
theorem dX0_findLeast_69 : decode cX0_findLeast 69 = .ok (.istore_n 3, 1) := by decide +kernel
theorem dX0_findLeast_70 : decode cX0_findLeast 70 = .ok (.iconst 0, 1) := by decide +kernel
theorem dX0_findLeast_71 : decode cX0_findLeast 71 = .ok (.istore 4, 2) := by decide +kernel
theorem dX0_findLeast_73 : decode cX0_findLeast 73 = .ok (.iload 7, 2) := by decide +kernel
theorem dX0_findLeast_75 : decode cX0_findLeast 75 = .ok (.iload_n 3, 1) := by decide +kernel
theorem dX0_findLeast_76 : decode cX0_findLeast 76 = .ok (.if_icmp .ne 15, 3) := by decide +kernel
theorem dX0_findLeast_79 : decode cX0_findLeast 79 = .ok (.iload 4, 2) := by decide +kernel
theorem dX0_findLeast_81 : decode cX0_findLeast 81 = .ok (.aload_n 0, 1) := by decide +kernel
theorem dX0_findLeast_82 : decode cX0_findLeast 82 = .ok (.getfield 22, 3) := by decide +kernel
theorem dX0_findLeast_85 : decode cX0_findLeast 85 = .ok (.iload 6, 2) := by decide +kernel
theorem dX0_findLeast_87 : decode cX0_findLeast 87 = .ok (.iaload, 1) := by decide +kernel
theorem dX0_findLeast_88 : decode cX0_findLeast 88 = .ok (.iadd, 1) := by decide +kernel
theorem dX0_findLeast_89 : decode cX0_findLeast 89 = .ok (.istore 4, 2) := by decide +kernel
theorem dX0_findLeast_91 : decode cX0_findLeast 91 = .ok (.iinc 5 1, 3) := by decide +kernel
theorem dX0_findLeast_94 : decode cX0_findLeast 94 = .ok (.goto (-80), 3) := by decide +kernel
theorem dX0_findLeast_97 : decode cX0_findLeast 97 = .ok (.aload_n 0, 1) := by decide +kernel
theorem dX0_findLeast_98 : decode cX0_findLeast 98 = .ok (.getfield 19, 3) := by decide +kernel
theorem dX0_findLeast_101 : decode cX0_findLeast 101 = .ok (.iload_n 1, 1) := by decide +kernel
theorem dX0_findLeast_102 : decode cX0_findLeast 102 = .ok (.iload_n 3, 1) := by decide +kernel
theorem dX0_findLeast_103 : decode cX0_findLeast 103 = .ok (.iastore, 1) := by decide +kernel
theorem dX0_findLeast_104 : decode cX0_findLeast 104 = .ok (.aload_n 0, 1) := by decide +kernel
theorem dX0_findLeast_105 : decode cX0_findLeast 105 = .ok (.getfield 22, 3) := by decide +kernel
theorem dX0_findLeast_108 : decode cX0_findLeast 108 = .ok (.iload_n 1, 1) := by decide +kernel
theorem dX0_findLeast_109 : decode cX0_findLeast 109 = .ok (.iload 4, 2) := by decide +kernel
theorem dX0_findLeast_111 : decode cX0_findLeast 111 = .ok (.iastore, 1) := by decide +kernel
theorem dX0_findLeast_112 : decode cX0_findLeast 112 = .ok (.return_, 1) := by decide +kernel
theorem dX0_leastWays_0 : decode cX0_leastWays 0 = .ok (.aload_n 0, 1) := by decide +kernel
theorem dX0_leastWays_1 : decode cX0_leastWays 1 = .ok (.getfield 22, 3) := by decide +kernel
theorem dX0_leastWays_4 : decode cX0_leastWays 4 = .ok (.iconst 0, 1) := by decide +kernel
theorem dX0_leastWays_5 : decode cX0_leastWays 5 = .ok (.iaload, 1) := by decide +kernel
theorem dX0_leastWays_6 : decode cX0_leastWays 6 = .ok (.ireturn, 1) := by decide +kernel
theorem dX0_traceLeast_0 : decode cX0_traceLeast 0 = .ok (.iconst 0, 1) := by decide +kernel
theorem dX0_traceLeast_1 : decode cX0_traceLeast 1 = .ok (.istore_n 2, 1) := by decide +kernel
theorem dX0_traceLeast_2 : decode cX0_traceLeast 2 = .ok (.iconst 0, 1) := by decide +kernel
theorem dX0_traceLeast_3 : decode cX0_traceLeast 3 = .ok (.istore_n 3, 1) := by decide +kernel
theorem dX0_traceLeast_4 : decode cX0_traceLeast 4 = .ok (.iload_n 3, 1) := by decide +kernel
theorem dX0_traceLeast_5 : decode cX0_traceLeast 5 = .ok (.aload_n 0, 1) := by decide +kernel
theorem dX0_traceLeast_6 : decode cX0_traceLeast 6 = .ok (.getfield 9, 3) := by decide +kernel
theorem dX0_traceLeast_9 : decode cX0_traceLeast 9 = .ok (.if_icmp .ge 62, 3) := by decide +kernel
theorem dX0_traceLeast_12 : decode cX0_traceLeast 12 = .ok (.iconst 0, 1) := by decide +kernel
theorem dX0_traceLeast_13 : decode cX0_traceLeast 13 = .ok (.istore 4, 2) := by decide +kernel
theorem dX0_traceLeast_15 : decode cX0_traceLeast 15 = .ok (.iload 4, 2) := by decide +kernel
theorem dX0_traceLeast_17 : decode cX0_traceLeast 17 = .ok (.aload_n 0, 1) := by decide +kernel
theorem dX0_traceLeast_18 : decode cX0_traceLeast 18 = .ok (.getfield 9, 3) := by decide +kernel
theorem dX0_traceLeast_21 : decode cX0_traceLeast 21 = .ok (.if_icmp .ge 44, 3) := by decide +kernel
theorem dX0_traceLeast_24 : decode cX0_traceLeast 24 = .ok (.iload_n 2, 1) := by decide +kernel
theorem dX0_traceLeast_25 : decode cX0_traceLeast 25 = .ok (.iload 4, 2) := by decide +kernel
theorem dX0_traceLeast_27 : decode cX0_traceLeast 27 = .ok (.invokestatic 59, 3) := by decide +kernel
theorem dX0_traceLeast_30 : decode cX0_traceLeast 30 = .ok (.ifCond .eq 29, 3) := by decide +kernel
theorem dX0_traceLeast_33 : decode cX0_traceLeast 33 = .ok (.aload_n 0, 1) := by decide +kernel
theorem dX0_traceLeast_34 : decode cX0_traceLeast 34 = .ok (.iload_n 3, 1) := by decide +kernel
theorem dX0_traceLeast_35 : decode cX0_traceLeast 35 = .ok (.iload 4, 2) := by decide +kernel
theorem dX0_traceLeast_37 : decode cX0_traceLeast 37 = .ok (.iload_n 2, 1) := by decide +kernel
theorem dX0_traceLeast_38 : decode cX0_traceLeast 38 = .ok (.invokevirtual 63, 3) := by decide +kernel
theorem dX0_traceLeast_41 : decode cX0_traceLeast 41 = .ok (.ifCond .eq 18, 3) := by decide +kernel
theorem dX0_traceLeast_44 : decode cX0_traceLeast 44 = .ok (.aload_n 1, 1) := by decide +kernel
theorem dX0_traceLeast_45 : decode cX0_traceLeast 45 = .ok (.iload_n 3, 1) := by decide +kernel
theorem dX0_traceLeast_46 : decode cX0_traceLeast 46 = .ok (.iload 4, 2) := by decide +kernel
theorem dX0_traceLeast_48 : decode cX0_traceLeast 48 = .ok (.iastore, 1) := by decide +kernel
theorem dX0_traceLeast_49 : decode cX0_traceLeast 49 = .ok (.iload_n 2, 1) := by decide +kernel
theorem dX0_traceLeast_50 : decode cX0_traceLeast 50 = .ok (.iconst 1, 1) := by decide +kernel
theorem dX0_traceLeast_51 : decode cX0_traceLeast 51 = .ok (.iload 4, 2) := by decide +kernel
theorem dX0_traceLeast_53 : decode cX0_traceLeast 53 = .ok (.ishl, 1) := by decide +kernel
theorem dX0_traceLeast_54 : decode cX0_traceLeast 54 = .ok (.ior, 1) := by decide +kernel
theorem dX0_traceLeast_55 : decode cX0_traceLeast 55 = .ok (.istore_n 2, 1) := by decide +kernel
theorem dX0_traceLeast_56 : decode cX0_traceLeast 56 = .ok (.goto 9, 3) := by decide +kernel
theorem dX0_traceLeast_59 : decode cX0_traceLeast 59 = .ok (.iinc 4 1, 3) := by decide +kernel
theorem dX0_traceLeast_62 : decode cX0_traceLeast 62 = .ok (.goto (-47), 3) := by decide +kernel
theorem dX0_traceLeast_65 : decode cX0_traceLeast 65 = .ok (.iinc 3 1, 3) := by decide +kernel
theorem dX0_traceLeast_68 : decode cX0_traceLeast 68 = .ok (.goto (-64), 3) := by decide +kernel
theorem dX0_traceLeast_71 : decode cX0_traceLeast 71 = .ok (.return_, 1) := by decide +kernel
theorem dX0_isOnLeast_0 : decode cX0_isOnLeast 0 = .ok (.aload_n 0, 1) := by decide +kernel
theorem dX0_isOnLeast_1 : decode cX0_isOnLeast 1 = .ok (.getfield 15, 3) := by decide +kernel
theorem dX0_isOnLeast_4 : decode cX0_isOnLeast 4 = .ok (.iload_n 1, 1) := by decide +kernel
theorem dX0_isOnLeast_5 : decode cX0_isOnLeast 5 = .ok (.iload_n 2, 1) := by decide +kernel
theorem dX0_isOnLeast_6 : decode cX0_isOnLeast 6 = .ok (.invokestatic 41, 3) := by decide +kernel
theorem dX0_isOnLeast_9 : decode cX0_isOnLeast 9 = .ok (.iaload, 1) := by decide +kernel
theorem dX0_isOnLeast_10 : decode cX0_isOnLeast 10 = .ok (.aload_n 0, 1) := by decide +kernel
theorem dX0_isOnLeast_11 : decode cX0_isOnLeast 11 = .ok (.getfield 19, 3) := by decide +kernel
theorem dX0_isOnLeast_14 : decode cX0_isOnLeast 14 = .ok (.iload_n 3, 1) := by decide +kernel
theorem dX0_isOnLeast_15 : decode cX0_isOnLeast 15 = .ok (.iconst 1, 1) := by decide +kernel
theorem dX0_isOnLeast_16 : decode cX0_isOnLeast 16 = .ok (.iload_n 2, 1) := by decide +kernel
theorem dX0_isOnLeast_17 : decode cX0_isOnLeast 17 = .ok (.ishl, 1) := by decide +kernel
theorem dX0_isOnLeast_18 : decode cX0_isOnLeast 18 = .ok (.ior, 1) := by decide +kernel
theorem dX0_isOnLeast_19 : decode cX0_isOnLeast 19 = .ok (.iaload, 1) := by decide +kernel
theorem dX0_isOnLeast_20 : decode cX0_isOnLeast 20 = .ok (.iadd, 1) := by decide +kernel
theorem dX0_isOnLeast_21 : decode cX0_isOnLeast 21 = .ok (.aload_n 0, 1) := by decide +kernel
theorem dX0_isOnLeast_22 : decode cX0_isOnLeast 22 = .ok (.getfield 19, 3) := by decide +kernel
theorem dX0_isOnLeast_25 : decode cX0_isOnLeast 25 = .ok (.iload_n 3, 1) := by decide +kernel
theorem dX0_isOnLeast_26 : decode cX0_isOnLeast 26 = .ok (.iaload, 1) := by decide +kernel
theorem dX0_isOnLeast_27 : decode cX0_isOnLeast 27 = .ok (.if_icmp .ne 7, 3) := by decide +kernel
theorem dX0_isOnLeast_30 : decode cX0_isOnLeast 30 = .ok (.iconst 1, 1) := by decide +kernel
theorem dX0_isOnLeast_31 : decode cX0_isOnLeast 31 = .ok (.goto 4, 3) := by decide +kernel
theorem dX0_isOnLeast_34 : decode cX0_isOnLeast 34 = .ok (.iconst 0, 1) := by decide +kernel
theorem dX0_isOnLeast_35 : decode cX0_isOnLeast 35 = .ok (.ireturn, 1) := by decide +kernel
theorem dX0_greatestSum_0 : decode cX0_greatestSum 0 = .ok (.aload_n 0, 1) := by decide +kernel
theorem dX0_greatestSum_1 : decode cX0_greatestSum 1 = .ok (.invokevirtual 44, 3) := by decide +kernel
theorem dX0_greatestSum_4 : decode cX0_greatestSum 4 = .ok (.istore_n 1, 1) := by decide +kernel
theorem dX0_greatestSum_5 : decode cX0_greatestSum 5 = .ok (.aload_n 0, 1) := by decide +kernel
theorem dX0_greatestSum_6 : decode cX0_greatestSum 6 = .ok (.getfield 25, 3) := by decide +kernel
theorem dX0_greatestSum_9 : decode cX0_greatestSum 9 = .ok (.iload_n 1, 1) := by decide +kernel
theorem dX0_greatestSum_10 : decode cX0_greatestSum 10 = .ok (.iconst 0, 1) := by decide +kernel
theorem dX0_greatestSum_11 : decode cX0_greatestSum 11 = .ok (.iastore, 1) := by decide +kernel
theorem dX0_greatestSum_12 : decode cX0_greatestSum 12 = .ok (.iload_n 1, 1) := by decide +kernel
theorem dX0_greatestSum_13 : decode cX0_greatestSum 13 = .ok (.iconst 1, 1) := by decide +kernel
theorem dX0_greatestSum_14 : decode cX0_greatestSum 14 = .ok (.isub, 1) := by decide +kernel
theorem dX0_greatestSum_15 : decode cX0_greatestSum 15 = .ok (.istore_n 2, 1) := by decide +kernel
theorem dX0_greatestSum_16 : decode cX0_greatestSum 16 = .ok (.iload_n 2, 1) := by decide +kernel
theorem dX0_greatestSum_17 : decode cX0_greatestSum 17 = .ok (.ifCond .lt 87, 3) := by decide +kernel
theorem dX0_greatestSum_20 : decode cX0_greatestSum 20 = .ok (.iload_n 2, 1) := by decide +kernel
theorem dX0_greatestSum_21 : decode cX0_greatestSum 21 = .ok (.invokestatic 52, 3) := by decide +kernel
theorem dX0_greatestSum_24 : decode cX0_greatestSum 24 = .ok (.istore_n 3, 1) := by decide +kernel
theorem dX0_greatestSum_25 : decode cX0_greatestSum 25 = .ok (.ldc 67, 2) := by decide +kernel
theorem dX0_greatestSum_27 : decode cX0_greatestSum 27 = .ok (.istore 4, 2) := by decide +kernel
theorem dX0_greatestSum_29 : decode cX0_greatestSum 29 = .ok (.iconst 0, 1) := by decide +kernel
theorem dX0_greatestSum_30 : decode cX0_greatestSum 30 = .ok (.istore 5, 2) := by decide +kernel
theorem dX0_greatestSum_32 : decode cX0_greatestSum 32 = .ok (.iload 5, 2) := by decide +kernel
theorem dX0_greatestSum_34 : decode cX0_greatestSum 34 = .ok (.aload_n 0, 1) := by decide +kernel
theorem dX0_greatestSum_35 : decode cX0_greatestSum 35 = .ok (.getfield 9, 3) := by decide +kernel
theorem dX0_greatestSum_38 : decode cX0_greatestSum 38 = .ok (.if_icmp .ge 52, 3) := by decide +kernel
theorem dX0_greatestSum_41 : decode cX0_greatestSum 41 = .ok (.iload_n 2, 1) := by decide +kernel
theorem dX0_greatestSum_42 : decode cX0_greatestSum 42 = .ok (.iload 5, 2) := by decide +kernel
theorem dX0_greatestSum_44 : decode cX0_greatestSum 44 = .ok (.invokestatic 59, 3) := by decide +kernel
theorem dX0_greatestSum_47 : decode cX0_greatestSum 47 = .ok (.ifCond .eq 37, 3) := by decide +kernel
theorem dX0_greatestSum_50 : decode cX0_greatestSum 50 = .ok (.aload_n 0, 1) := by decide +kernel
theorem dX0_greatestSum_51 : decode cX0_greatestSum 51 = .ok (.getfield 15, 3) := by decide +kernel
theorem dX0_greatestSum_54 : decode cX0_greatestSum 54 = .ok (.iload_n 3, 1) := by decide +kernel
theorem dX0_greatestSum_55 : decode cX0_greatestSum 55 = .ok (.iload 5, 2) := by decide +kernel
theorem dX0_greatestSum_57 : decode cX0_greatestSum 57 = .ok (.invokestatic 41, 3) := by decide +kernel
theorem dX0_greatestSum_60 : decode cX0_greatestSum 60 = .ok (.iaload, 1) := by decide +kernel
theorem dX0_greatestSum_61 : decode cX0_greatestSum 61 = .ok (.aload_n 0, 1) := by decide +kernel
theorem dX0_greatestSum_62 : decode cX0_greatestSum 62 = .ok (.getfield 25, 3) := by decide +kernel
theorem dX0_greatestSum_65 : decode cX0_greatestSum 65 = .ok (.iload_n 2, 1) := by decide +kernel
theorem dX0_greatestSum_66 : decode cX0_greatestSum 66 = .ok (.iconst 1, 1) := by decide +kernel
theorem dX0_greatestSum_67 : decode cX0_greatestSum 67 = .ok (.iload 5, 2) := by decide +kernel
theorem dX0_greatestSum_69 : decode cX0_greatestSum 69 = .ok (.ishl, 1) := by decide +kernel
theorem dX0_greatestSum_70 : decode cX0_greatestSum 70 = .ok (.ior, 1) := by decide +kernel
theorem dX0_greatestSum_71 : decode cX0_greatestSum 71 = .ok (.iaload, 1) := by decide +kernel
theorem dX0_greatestSum_72 : decode cX0_greatestSum 72 = .ok (.iadd, 1) := by decide +kernel
theorem dX0_greatestSum_73 : decode cX0_greatestSum 73 = .ok (.istore 6, 2) := by decide +kernel
theorem dX0_greatestSum_75 : decode cX0_greatestSum 75 = .ok (.iload 4, 2) := by decide +kernel
theorem dX0_greatestSum_77 : decode cX0_greatestSum 77 = .ok (.iload 6, 2) := by decide +kernel
theorem dX0_greatestSum_79 : decode cX0_greatestSum 79 = .ok (.invokestatic 68, 3) := by decide +kernel
theorem dX0_greatestSum_82 : decode cX0_greatestSum 82 = .ok (.istore 4, 2) := by decide +kernel
theorem dX0_greatestSum_84 : decode cX0_greatestSum 84 = .ok (.iinc 5 1, 3) := by decide +kernel
theorem dX0_greatestSum_87 : decode cX0_greatestSum 87 = .ok (.goto (-55), 3) := by decide +kernel
theorem dX0_greatestSum_90 : decode cX0_greatestSum 90 = .ok (.aload_n 0, 1) := by decide +kernel
theorem dX0_greatestSum_91 : decode cX0_greatestSum 91 = .ok (.getfield 25, 3) := by decide +kernel
theorem dX0_greatestSum_94 : decode cX0_greatestSum 94 = .ok (.iload_n 2, 1) := by decide +kernel
theorem dX0_greatestSum_95 : decode cX0_greatestSum 95 = .ok (.iload 4, 2) := by decide +kernel
theorem dX0_greatestSum_97 : decode cX0_greatestSum 97 = .ok (.iastore, 1) := by decide +kernel
theorem dX0_greatestSum_98 : decode cX0_greatestSum 98 = .ok (.iinc 2 (-1), 3) := by decide +kernel
theorem dX0_greatestSum_101 : decode cX0_greatestSum 101 = .ok (.goto (-85), 3) := by decide +kernel
theorem dX0_greatestSum_104 : decode cX0_greatestSum 104 = .ok (.aload_n 0, 1) := by decide +kernel
theorem dX0_greatestSum_105 : decode cX0_greatestSum 105 = .ok (.getfield 25, 3) := by decide +kernel
theorem dX0_greatestSum_108 : decode cX0_greatestSum 108 = .ok (.iconst 0, 1) := by decide +kernel
theorem dX0_greatestSum_109 : decode cX0_greatestSum 109 = .ok (.iaload, 1) := by decide +kernel
theorem dX0_greatestSum_110 : decode cX0_greatestSum 110 = .ok (.ireturn, 1) := by decide +kernel
theorem dX0_leastPeak_0 : decode cX0_leastPeak 0 = .ok (.aload_n 0, 1) := by decide +kernel
theorem dX0_leastPeak_1 : decode cX0_leastPeak 1 = .ok (.invokevirtual 44, 3) := by decide +kernel
theorem dX0_leastPeak_4 : decode cX0_leastPeak 4 = .ok (.istore_n 1, 1) := by decide +kernel
theorem dX0_leastPeak_5 : decode cX0_leastPeak 5 = .ok (.aload_n 0, 1) := by decide +kernel
theorem dX0_leastPeak_6 : decode cX0_leastPeak 6 = .ok (.getfield 19, 3) := by decide +kernel
theorem dX0_leastPeak_9 : decode cX0_leastPeak 9 = .ok (.iload_n 1, 1) := by decide +kernel
theorem dX0_leastPeak_10 : decode cX0_leastPeak 10 = .ok (.iconst 0, 1) := by decide +kernel
theorem dX0_leastPeak_11 : decode cX0_leastPeak 11 = .ok (.iastore, 1) := by decide +kernel
theorem dX0_leastPeak_12 : decode cX0_leastPeak 12 = .ok (.iload_n 1, 1) := by decide +kernel
theorem dX0_leastPeak_13 : decode cX0_leastPeak 13 = .ok (.iconst 1, 1) := by decide +kernel
theorem dX0_leastPeak_14 : decode cX0_leastPeak 14 = .ok (.isub, 1) := by decide +kernel
theorem dX0_leastPeak_15 : decode cX0_leastPeak 15 = .ok (.istore_n 2, 1) := by decide +kernel
theorem dX0_leastPeak_16 : decode cX0_leastPeak 16 = .ok (.iload_n 2, 1) := by decide +kernel
theorem dX0_leastPeak_17 : decode cX0_leastPeak 17 = .ok (.ifCond .lt 89, 3) := by decide +kernel
theorem dX0_leastPeak_20 : decode cX0_leastPeak 20 = .ok (.iload_n 2, 1) := by decide +kernel
theorem dX0_leastPeak_21 : decode cX0_leastPeak 21 = .ok (.invokestatic 52, 3) := by decide +kernel
theorem dX0_leastPeak_24 : decode cX0_leastPeak 24 = .ok (.istore_n 3, 1) := by decide +kernel
theorem dX0_leastPeak_25 : decode cX0_leastPeak 25 = .ok (.ldc 58, 2) := by decide +kernel
theorem dX0_leastPeak_27 : decode cX0_leastPeak 27 = .ok (.istore 4, 2) := by decide +kernel
theorem dX0_leastPeak_29 : decode cX0_leastPeak 29 = .ok (.iconst 0, 1) := by decide +kernel
theorem dX0_leastPeak_30 : decode cX0_leastPeak 30 = .ok (.istore 5, 2) := by decide +kernel
theorem dX0_leastPeak_32 : decode cX0_leastPeak 32 = .ok (.iload 5, 2) := by decide +kernel
theorem dX0_leastPeak_34 : decode cX0_leastPeak 34 = .ok (.aload_n 0, 1) := by decide +kernel
theorem dX0_leastPeak_35 : decode cX0_leastPeak 35 = .ok (.getfield 9, 3) := by decide +kernel
theorem dX0_leastPeak_38 : decode cX0_leastPeak 38 = .ok (.if_icmp .ge 54, 3) := by decide +kernel
theorem dX0_leastPeak_41 : decode cX0_leastPeak 41 = .ok (.iload_n 2, 1) := by decide +kernel
theorem dX0_leastPeak_42 : decode cX0_leastPeak 42 = .ok (.iload 5, 2) := by decide +kernel
theorem dX0_leastPeak_44 : decode cX0_leastPeak 44 = .ok (.invokestatic 59, 3) := by decide +kernel
theorem dX0_leastPeak_47 : decode cX0_leastPeak 47 = .ok (.ifCond .eq 39, 3) := by decide +kernel
theorem dX0_leastPeak_50 : decode cX0_leastPeak 50 = .ok (.aload_n 0, 1) := by decide +kernel
theorem dX0_leastPeak_51 : decode cX0_leastPeak 51 = .ok (.getfield 15, 3) := by decide +kernel
theorem dX0_leastPeak_54 : decode cX0_leastPeak 54 = .ok (.iload_n 3, 1) := by decide +kernel
theorem dX0_leastPeak_55 : decode cX0_leastPeak 55 = .ok (.iload 5, 2) := by decide +kernel
theorem dX0_leastPeak_57 : decode cX0_leastPeak 57 = .ok (.invokestatic 41, 3) := by decide +kernel
theorem dX0_leastPeak_60 : decode cX0_leastPeak 60 = .ok (.iaload, 1) := by decide +kernel
theorem dX0_leastPeak_61 : decode cX0_leastPeak 61 = .ok (.istore 6, 2) := by decide +kernel
theorem dX0_leastPeak_63 : decode cX0_leastPeak 63 = .ok (.iload 4, 2) := by decide +kernel
theorem dX0_leastPeak_65 : decode cX0_leastPeak 65 = .ok (.iload 6, 2) := by decide +kernel
theorem dX0_leastPeak_67 : decode cX0_leastPeak 67 = .ok (.aload_n 0, 1) := by decide +kernel
theorem dX0_leastPeak_68 : decode cX0_leastPeak 68 = .ok (.getfield 19, 3) := by decide +kernel
theorem dX0_leastPeak_71 : decode cX0_leastPeak 71 = .ok (.iload_n 2, 1) := by decide +kernel
theorem dX0_leastPeak_72 : decode cX0_leastPeak 72 = .ok (.iconst 1, 1) := by decide +kernel
theorem dX0_leastPeak_73 : decode cX0_leastPeak 73 = .ok (.iload 5, 2) := by decide +kernel
theorem dX0_leastPeak_75 : decode cX0_leastPeak 75 = .ok (.ishl, 1) := by decide +kernel
theorem dX0_leastPeak_76 : decode cX0_leastPeak 76 = .ok (.ior, 1) := by decide +kernel
theorem dX0_leastPeak_77 : decode cX0_leastPeak 77 = .ok (.iaload, 1) := by decide +kernel
theorem dX0_leastPeak_78 : decode cX0_leastPeak 78 = .ok (.invokestatic 68, 3) := by decide +kernel
theorem dX0_leastPeak_81 : decode cX0_leastPeak 81 = .ok (.invokestatic 73, 3) := by decide +kernel
theorem dX0_leastPeak_84 : decode cX0_leastPeak 84 = .ok (.istore 4, 2) := by decide +kernel
theorem dX0_leastPeak_86 : decode cX0_leastPeak 86 = .ok (.iinc 5 1, 3) := by decide +kernel
theorem dX0_leastPeak_89 : decode cX0_leastPeak 89 = .ok (.goto (-57), 3) := by decide +kernel
theorem dX0_leastPeak_92 : decode cX0_leastPeak 92 = .ok (.aload_n 0, 1) := by decide +kernel
theorem dX0_leastPeak_93 : decode cX0_leastPeak 93 = .ok (.getfield 19, 3) := by decide +kernel
theorem dX0_leastPeak_96 : decode cX0_leastPeak 96 = .ok (.iload_n 2, 1) := by decide +kernel
theorem dX0_leastPeak_97 : decode cX0_leastPeak 97 = .ok (.iload 4, 2) := by decide +kernel
theorem dX0_leastPeak_99 : decode cX0_leastPeak 99 = .ok (.iastore, 1) := by decide +kernel
theorem dX0_leastPeak_100 : decode cX0_leastPeak 100 = .ok (.iinc 2 (-1), 3) := by decide +kernel
theorem dX0_leastPeak_103 : decode cX0_leastPeak 103 = .ok (.goto (-87), 3) := by decide +kernel
theorem dX0_leastPeak_106 : decode cX0_leastPeak 106 = .ok (.aload_n 0, 1) := by decide +kernel
theorem dX0_leastPeak_107 : decode cX0_leastPeak 107 = .ok (.getfield 19, 3) := by decide +kernel
theorem dX0_leastPeak_110 : decode cX0_leastPeak 110 = .ok (.iconst 0, 1) := by decide +kernel
theorem dX0_leastPeak_111 : decode cX0_leastPeak 111 = .ok (.iaload, 1) := by decide +kernel
theorem dX0_leastPeak_112 : decode cX0_leastPeak 112 = .ok (.ireturn, 1) := by decide +kernel
theorem dX0_countFrom_0 : decode cX0_countFrom 0 = .ok (.iload_n 3, 1) := by decide +kernel
theorem dX0_countFrom_1 : decode cX0_countFrom 1 = .ok (.aload_n 0, 1) := by decide +kernel
theorem dX0_countFrom_2 : decode cX0_countFrom 2 = .ok (.getfield 19, 3) := by decide +kernel
theorem dX0_countFrom_5 : decode cX0_countFrom 5 = .ok (.iload_n 2, 1) := by decide +kernel
theorem dX0_countFrom_6 : decode cX0_countFrom 6 = .ok (.iaload, 1) := by decide +kernel
theorem dX0_countFrom_7 : decode cX0_countFrom 7 = .ok (.if_icmp .ge 5, 3) := by decide +kernel
theorem dX0_countFrom_10 : decode cX0_countFrom 10 = .ok (.iconst 0, 1) := by decide +kernel
theorem dX0_countFrom_11 : decode cX0_countFrom 11 = .ok (.ireturn, 1) := by decide +kernel
theorem dX0_countFrom_12 : decode cX0_countFrom 12 = .ok (.iload_n 1, 1) := by decide +kernel
theorem dX0_countFrom_13 : decode cX0_countFrom 13 = .ok (.aload_n 0, 1) := by decide +kernel
theorem dX0_countFrom_14 : decode cX0_countFrom 14 = .ok (.getfield 9, 3) := by decide +kernel
theorem dX0_countFrom_17 : decode cX0_countFrom 17 = .ok (.if_icmp .ge 13, 3) := by decide +kernel
theorem dX0_countFrom_20 : decode cX0_countFrom 20 = .ok (.iload_n 3, 1) := by decide +kernel
theorem dX0_countFrom_21 : decode cX0_countFrom 21 = .ok (.aload_n 0, 1) := by decide +kernel
theorem dX0_countFrom_22 : decode cX0_countFrom 22 = .ok (.getfield 25, 3) := by decide +kernel
theorem dX0_countFrom_25 : decode cX0_countFrom 25 = .ok (.iload_n 2, 1) := by decide +kernel
theorem dX0_countFrom_26 : decode cX0_countFrom 26 = .ok (.iaload, 1) := by decide +kernel
theorem dX0_countFrom_27 : decode cX0_countFrom 27 = .ok (.if_icmp .lt 13, 3) := by decide +kernel
theorem dX0_countFrom_30 : decode cX0_countFrom 30 = .ok (.aload_n 0, 1) := by decide +kernel
theorem dX0_countFrom_31 : decode cX0_countFrom 31 = .ok (.getfield 9, 3) := by decide +kernel
theorem dX0_countFrom_34 : decode cX0_countFrom 34 = .ok (.iload_n 1, 1) := by decide +kernel
theorem dX0_countFrom_35 : decode cX0_countFrom 35 = .ok (.isub, 1) := by decide +kernel
theorem dX0_countFrom_36 : decode cX0_countFrom 36 = .ok (.invokestatic 76, 3) := by decide +kernel
theorem dX0_countFrom_39 : decode cX0_countFrom 39 = .ok (.ireturn, 1) := by decide +kernel
theorem dX0_countFrom_40 : decode cX0_countFrom 40 = .ok (.iconst 0, 1) := by decide +kernel
theorem dX0_countFrom_41 : decode cX0_countFrom 41 = .ok (.istore 4, 2) := by decide +kernel
theorem dX0_countFrom_43 : decode cX0_countFrom 43 = .ok (.iconst 0, 1) := by decide +kernel
theorem dX0_countFrom_44 : decode cX0_countFrom 44 = .ok (.istore 5, 2) := by decide +kernel
theorem dX0_countFrom_46 : decode cX0_countFrom 46 = .ok (.iload 5, 2) := by decide +kernel
theorem dX0_countFrom_48 : decode cX0_countFrom 48 = .ok (.aload_n 0, 1) := by decide +kernel
theorem dX0_countFrom_49 : decode cX0_countFrom 49 = .ok (.getfield 9, 3) := by decide +kernel
theorem dX0_countFrom_52 : decode cX0_countFrom 52 = .ok (.if_icmp .ge 53, 3) := by decide +kernel
theorem dX0_countFrom_55 : decode cX0_countFrom 55 = .ok (.iload_n 2, 1) := by decide +kernel
theorem dX0_countFrom_56 : decode cX0_countFrom 56 = .ok (.iload 5, 2) := by decide +kernel
theorem dX0_countFrom_58 : decode cX0_countFrom 58 = .ok (.invokestatic 59, 3) := by decide +kernel
theorem dX0_countFrom_61 : decode cX0_countFrom 61 = .ok (.ifCond .eq 38, 3) := by decide +kernel
theorem dX0_countFrom_64 : decode cX0_countFrom 64 = .ok (.iload_n 3, 1) := by decide +kernel
theorem dX0_countFrom_65 : decode cX0_countFrom 65 = .ok (.aload_n 0, 1) := by decide +kernel
theorem dX0_countFrom_66 : decode cX0_countFrom 66 = .ok (.getfield 15, 3) := by decide +kernel
theorem dX0_countFrom_69 : decode cX0_countFrom 69 = .ok (.iload_n 1, 1) := by decide +kernel
theorem dX0_countFrom_70 : decode cX0_countFrom 70 = .ok (.iload 5, 2) := by decide +kernel
theorem dX0_countFrom_72 : decode cX0_countFrom 72 = .ok (.invokestatic 41, 3) := by decide +kernel
theorem dX0_countFrom_75 : decode cX0_countFrom 75 = .ok (.iaload, 1) := by decide +kernel
theorem dX0_countFrom_76 : decode cX0_countFrom 76 = .ok (.isub, 1) := by decide +kernel
theorem dX0_countFrom_77 : decode cX0_countFrom 77 = .ok (.istore 6, 2) := by decide +kernel
theorem dX0_countFrom_79 : decode cX0_countFrom 79 = .ok (.iload 4, 2) := by decide +kernel
theorem dX0_countFrom_81 : decode cX0_countFrom 81 = .ok (.aload_n 0, 1) := by decide +kernel
theorem dX0_countFrom_82 : decode cX0_countFrom 82 = .ok (.iload_n 1, 1) := by decide +kernel
theorem dX0_countFrom_83 : decode cX0_countFrom 83 = .ok (.iconst 1, 1) := by decide +kernel
theorem dX0_countFrom_84 : decode cX0_countFrom 84 = .ok (.iadd, 1) := by decide +kernel
theorem dX0_countFrom_85 : decode cX0_countFrom 85 = .ok (.iload_n 2, 1) := by decide +kernel
theorem dX0_countFrom_86 : decode cX0_countFrom 86 = .ok (.iconst 1, 1) := by decide +kernel
theorem dX0_countFrom_87 : decode cX0_countFrom 87 = .ok (.iload 5, 2) := by decide +kernel
theorem dX0_countFrom_89 : decode cX0_countFrom 89 = .ok (.ishl, 1) := by decide +kernel
theorem dX0_countFrom_90 : decode cX0_countFrom 90 = .ok (.ior, 1) := by decide +kernel
theorem dX0_countFrom_91 : decode cX0_countFrom 91 = .ok (.iload 6, 2) := by decide +kernel
theorem dX0_countFrom_93 : decode cX0_countFrom 93 = .ok (.invokestatic 79, 3) := by decide +kernel
theorem dX0_countFrom_96 : decode cX0_countFrom 96 = .ok (.iadd, 1) := by decide +kernel
theorem dX0_countFrom_97 : decode cX0_countFrom 97 = .ok (.istore 4, 2) := by decide +kernel
theorem dX0_countFrom_99 : decode cX0_countFrom 99 = .ok (.iinc 5 1, 3) := by decide +kernel
theorem dX0_countFrom_102 : decode cX0_countFrom 102 = .ok (.goto (-56), 3) := by decide +kernel
theorem dX0_countFrom_105 : decode cX0_countFrom 105 = .ok (.iload 4, 2) := by decide +kernel
theorem dX0_countFrom_107 : decode cX0_countFrom 107 = .ok (.ireturn, 1) := by decide +kernel
theorem dX1_init_0 : decode cX1_init 0 = .ok (.aload_n 0, 1) := by decide +kernel
theorem dX1_init_1 : decode cX1_init 1 = .ok (.invokespecial 3, 3) := by decide +kernel
theorem dX1_init_4 : decode cX1_init 4 = .ok (.aload_n 0, 1) := by decide +kernel
theorem dX1_init_5 : decode cX1_init 5 = .ok (.iconst 1, 1) := by decide +kernel
theorem dX1_init_6 : decode cX1_init 6 = .ok (.putfield 9, 3) := by decide +kernel
theorem dX1_init_9 : decode cX1_init 9 = .ok (.aload_n 0, 1) := by decide +kernel
theorem dX1_init_10 : decode cX1_init 10 = .ok (.iconst 1, 1) := by decide +kernel
theorem dX1_init_11 : decode cX1_init 11 = .ok (.putfield 15, 3) := by decide +kernel
theorem dX1_init_14 : decode cX1_init 14 = .ok (.aload_n 0, 1) := by decide +kernel
theorem dX1_init_15 : decode cX1_init 15 = .ok (.bipush 49, 2) := by decide +kernel
theorem dX1_init_17 : decode cX1_init 17 = .ok (.newarray .int, 2) := by decide +kernel
theorem dX1_init_19 : decode cX1_init 19 = .ok (.putfield 18, 3) := by decide +kernel
theorem dX1_init_22 : decode cX1_init 22 = .ok (.aload_n 0, 1) := by decide +kernel
theorem dX1_init_23 : decode cX1_init 23 = .ok (.bipush 49, 2) := by decide +kernel
theorem dX1_init_25 : decode cX1_init 25 = .ok (.newarray .boolean, 2) := by decide +kernel
theorem dX1_init_27 : decode cX1_init 27 = .ok (.putfield 22, 3) := by decide +kernel
theorem dX1_init_30 : decode cX1_init 30 = .ok (.return_, 1) := by decide +kernel
theorem dX1_clearTo_0 : decode cX1_clearTo 0 = .ok (.aload_n 0, 1) := by decide +kernel
theorem dX1_clearTo_1 : decode cX1_clearTo 1 = .ok (.iload_n 1, 1) := by decide +kernel
theorem dX1_clearTo_2 : decode cX1_clearTo 2 = .ok (.putfield 9, 3) := by decide +kernel
theorem dX1_clearTo_5 : decode cX1_clearTo 5 = .ok (.aload_n 0, 1) := by decide +kernel
theorem dX1_clearTo_6 : decode cX1_clearTo 6 = .ok (.iload_n 2, 1) := by decide +kernel
theorem dX1_clearTo_7 : decode cX1_clearTo 7 = .ok (.putfield 15, 3) := by decide +kernel
theorem dX1_clearTo_10 : decode cX1_clearTo 10 = .ok (.iconst 0, 1) := by decide +kernel
theorem dX1_clearTo_11 : decode cX1_clearTo 11 = .ok (.istore_n 3, 1) := by decide +kernel
theorem dX1_clearTo_12 : decode cX1_clearTo 12 = .ok (.iload_n 3, 1) := by decide +kernel
theorem dX1_clearTo_13 : decode cX1_clearTo 13 = .ok (.bipush 49, 2) := by decide +kernel
theorem dX1_clearTo_15 : decode cX1_clearTo 15 = .ok (.if_icmp .ge 23, 3) := by decide +kernel
theorem dX1_clearTo_18 : decode cX1_clearTo 18 = .ok (.aload_n 0, 1) := by decide +kernel
theorem dX1_clearTo_19 : decode cX1_clearTo 19 = .ok (.getfield 18, 3) := by decide +kernel
theorem dX1_clearTo_22 : decode cX1_clearTo 22 = .ok (.iload_n 3, 1) := by decide +kernel
theorem dX1_clearTo_23 : decode cX1_clearTo 23 = .ok (.iconst 0, 1) := by decide +kernel
theorem dX1_clearTo_24 : decode cX1_clearTo 24 = .ok (.iastore, 1) := by decide +kernel
theorem dX1_clearTo_25 : decode cX1_clearTo 25 = .ok (.aload_n 0, 1) := by decide +kernel
theorem dX1_clearTo_26 : decode cX1_clearTo 26 = .ok (.getfield 22, 3) := by decide +kernel
theorem dX1_clearTo_29 : decode cX1_clearTo 29 = .ok (.iload_n 3, 1) := by decide +kernel
theorem dX1_clearTo_30 : decode cX1_clearTo 30 = .ok (.iconst 0, 1) := by decide +kernel
theorem dX1_clearTo_31 : decode cX1_clearTo 31 = .ok (.bastore, 1) := by decide +kernel
theorem dX1_clearTo_32 : decode cX1_clearTo 32 = .ok (.iinc 3 1, 3) := by decide +kernel
theorem dX1_clearTo_35 : decode cX1_clearTo 35 = .ok (.goto (-23), 3) := by decide +kernel
theorem dX1_clearTo_38 : decode cX1_clearTo 38 = .ok (.return_, 1) := by decide +kernel
theorem dX1_copyFrom_0 : decode cX1_copyFrom 0 = .ok (.aload_n 0, 1) := by decide +kernel
theorem dX1_copyFrom_1 : decode cX1_copyFrom 1 = .ok (.aload_n 1, 1) := by decide +kernel
theorem dX1_copyFrom_2 : decode cX1_copyFrom 2 = .ok (.getfield 9, 3) := by decide +kernel
theorem dX1_copyFrom_5 : decode cX1_copyFrom 5 = .ok (.putfield 9, 3) := by decide +kernel
theorem dX1_copyFrom_8 : decode cX1_copyFrom 8 = .ok (.aload_n 0, 1) := by decide +kernel
theorem dX1_copyFrom_9 : decode cX1_copyFrom 9 = .ok (.aload_n 1, 1) := by decide +kernel
theorem dX1_copyFrom_10 : decode cX1_copyFrom 10 = .ok (.getfield 15, 3) := by decide +kernel
theorem dX1_copyFrom_13 : decode cX1_copyFrom 13 = .ok (.putfield 15, 3) := by decide +kernel
theorem dX1_copyFrom_16 : decode cX1_copyFrom 16 = .ok (.iconst 0, 1) := by decide +kernel
theorem dX1_copyFrom_17 : decode cX1_copyFrom 17 = .ok (.istore_n 2, 1) := by decide +kernel
theorem dX1_copyFrom_18 : decode cX1_copyFrom 18 = .ok (.iload_n 2, 1) := by decide +kernel
theorem dX1_copyFrom_19 : decode cX1_copyFrom 19 = .ok (.bipush 49, 2) := by decide +kernel
theorem dX1_copyFrom_21 : decode cX1_copyFrom 21 = .ok (.if_icmp .ge 33, 3) := by decide +kernel
theorem dX1_copyFrom_24 : decode cX1_copyFrom 24 = .ok (.aload_n 0, 1) := by decide +kernel
theorem dX1_copyFrom_25 : decode cX1_copyFrom 25 = .ok (.getfield 18, 3) := by decide +kernel
theorem dX1_copyFrom_28 : decode cX1_copyFrom 28 = .ok (.iload_n 2, 1) := by decide +kernel
theorem dX1_copyFrom_29 : decode cX1_copyFrom 29 = .ok (.aload_n 1, 1) := by decide +kernel
theorem dX1_copyFrom_30 : decode cX1_copyFrom 30 = .ok (.getfield 18, 3) := by decide +kernel
theorem dX1_copyFrom_33 : decode cX1_copyFrom 33 = .ok (.iload_n 2, 1) := by decide +kernel
theorem dX1_copyFrom_34 : decode cX1_copyFrom 34 = .ok (.iaload, 1) := by decide +kernel
theorem dX1_copyFrom_35 : decode cX1_copyFrom 35 = .ok (.iastore, 1) := by decide +kernel
theorem dX1_copyFrom_36 : decode cX1_copyFrom 36 = .ok (.aload_n 0, 1) := by decide +kernel
theorem dX1_copyFrom_37 : decode cX1_copyFrom 37 = .ok (.getfield 22, 3) := by decide +kernel
theorem dX1_copyFrom_40 : decode cX1_copyFrom 40 = .ok (.iload_n 2, 1) := by decide +kernel
theorem dX1_copyFrom_41 : decode cX1_copyFrom 41 = .ok (.aload_n 1, 1) := by decide +kernel
theorem dX1_copyFrom_42 : decode cX1_copyFrom 42 = .ok (.getfield 22, 3) := by decide +kernel
theorem dX1_copyFrom_45 : decode cX1_copyFrom 45 = .ok (.iload_n 2, 1) := by decide +kernel
theorem dX1_copyFrom_46 : decode cX1_copyFrom 46 = .ok (.baload, 1) := by decide +kernel
theorem dX1_copyFrom_47 : decode cX1_copyFrom 47 = .ok (.bastore, 1) := by decide +kernel
theorem dX1_copyFrom_48 : decode cX1_copyFrom 48 = .ok (.iinc 2 1, 3) := by decide +kernel
theorem dX1_copyFrom_51 : decode cX1_copyFrom 51 = .ok (.goto (-33), 3) := by decide +kernel
theorem dX1_copyFrom_54 : decode cX1_copyFrom 54 = .ok (.return_, 1) := by decide +kernel
theorem dX1_numberAt_0 : decode cX1_numberAt 0 = .ok (.aload_n 0, 1) := by decide +kernel
theorem dX1_numberAt_1 : decode cX1_numberAt 1 = .ok (.getfield 18, 3) := by decide +kernel
theorem dX1_numberAt_4 : decode cX1_numberAt 4 = .ok (.iload_n 1, 1) := by decide +kernel
theorem dX1_numberAt_5 : decode cX1_numberAt 5 = .ok (.iload_n 2, 1) := by decide +kernel
theorem dX1_numberAt_6 : decode cX1_numberAt 6 = .ok (.invokestatic 26, 3) := by decide +kernel
theorem dX1_numberAt_9 : decode cX1_numberAt 9 = .ok (.iaload, 1) := by decide +kernel
theorem dX1_numberAt_10 : decode cX1_numberAt 10 = .ok (.ireturn, 1) := by decide +kernel
theorem dX1_putNumber_0 : decode cX1_putNumber 0 = .ok (.aload_n 0, 1) := by decide +kernel
theorem dX1_putNumber_1 : decode cX1_putNumber 1 = .ok (.getfield 18, 3) := by decide +kernel
theorem dX1_putNumber_4 : decode cX1_putNumber 4 = .ok (.iload_n 1, 1) := by decide +kernel
theorem dX1_putNumber_5 : decode cX1_putNumber 5 = .ok (.iload_n 2, 1) := by decide +kernel
theorem dX1_putNumber_6 : decode cX1_putNumber 6 = .ok (.invokestatic 26, 3) := by decide +kernel
theorem dX1_putNumber_9 : decode cX1_putNumber 9 = .ok (.iload_n 3, 1) := by decide +kernel
theorem dX1_putNumber_10 : decode cX1_putNumber 10 = .ok (.iastore, 1) := by decide +kernel
theorem dX1_putNumber_11 : decode cX1_putNumber 11 = .ok (.return_, 1) := by decide +kernel
theorem dX1_isForbidden_0 : decode cX1_isForbidden 0 = .ok (.aload_n 0, 1) := by decide +kernel
theorem dX1_isForbidden_1 : decode cX1_isForbidden 1 = .ok (.getfield 22, 3) := by decide +kernel
theorem dX1_isForbidden_4 : decode cX1_isForbidden 4 = .ok (.iload_n 1, 1) := by decide +kernel
theorem dX1_isForbidden_5 : decode cX1_isForbidden 5 = .ok (.iload_n 2, 1) := by decide +kernel
theorem dX1_isForbidden_6 : decode cX1_isForbidden 6 = .ok (.invokestatic 26, 3) := by decide +kernel
theorem dX1_isForbidden_9 : decode cX1_isForbidden 9 = .ok (.baload, 1) := by decide +kernel
theorem dX1_isForbidden_10 : decode cX1_isForbidden 10 = .ok (.ireturn, 1) := by decide +kernel
theorem dX1_putForbidden_0 : decode cX1_putForbidden 0 = .ok (.aload_n 0, 1) := by decide +kernel
theorem dX1_putForbidden_1 : decode cX1_putForbidden 1 = .ok (.getfield 22, 3) := by decide +kernel
theorem dX1_putForbidden_4 : decode cX1_putForbidden 4 = .ok (.iload_n 1, 1) := by decide +kernel
theorem dX1_putForbidden_5 : decode cX1_putForbidden 5 = .ok (.iload_n 2, 1) := by decide +kernel
theorem dX1_putForbidden_6 : decode cX1_putForbidden 6 = .ok (.invokestatic 26, 3) := by decide +kernel
theorem dX1_putForbidden_9 : decode cX1_putForbidden 9 = .ok (.iload_n 3, 1) := by decide +kernel
theorem dX1_putForbidden_10 : decode cX1_putForbidden 10 = .ok (.bastore, 1) := by decide +kernel
theorem dX1_putForbidden_11 : decode cX1_putForbidden 11 = .ok (.return_, 1) := by decide +kernel
theorem dX1_costOf_0 : decode cX1_costOf 0 = .ok (.iload_n 2, 1) := by decide +kernel
theorem dX1_costOf_1 : decode cX1_costOf 1 = .ok (.aload_n 0, 1) := by decide +kernel
theorem dX1_costOf_2 : decode cX1_costOf 2 = .ok (.getfield 15, 3) := by decide +kernel
theorem dX1_costOf_5 : decode cX1_costOf 5 = .ok (.if_icmp .lt 5, 3) := by decide +kernel
theorem dX1_costOf_8 : decode cX1_costOf 8 = .ok (.iconst 0, 1) := by decide +kernel
theorem dX1_costOf_9 : decode cX1_costOf 9 = .ok (.ireturn, 1) := by decide +kernel
theorem dX1_costOf_10 : decode cX1_costOf 10 = .ok (.aload_n 0, 1) := by decide +kernel
theorem dX1_costOf_11 : decode cX1_costOf 11 = .ok (.iload_n 1, 1) := by decide +kernel
theorem dX1_costOf_12 : decode cX1_costOf 12 = .ok (.iload_n 2, 1) := by decide +kernel
theorem dX1_costOf_13 : decode cX1_costOf 13 = .ok (.invokevirtual 30, 3) := by decide +kernel
theorem dX1_costOf_16 : decode cX1_costOf 16 = .ok (.ifCond .eq 9, 3) := by decide +kernel
theorem dX1_costOf_19 : decode cX1_costOf 19 = .ok (.sipush 1000, 3) := by decide +kernel
theorem dX1_costOf_22 : decode cX1_costOf 22 = .ok (.goto 9, 3) := by decide +kernel
theorem dX1_costOf_25 : decode cX1_costOf 25 = .ok (.aload_n 0, 1) := by decide +kernel
theorem dX1_costOf_26 : decode cX1_costOf 26 = .ok (.iload_n 1, 1) := by decide +kernel
theorem dX1_costOf_27 : decode cX1_costOf 27 = .ok (.iload_n 2, 1) := by decide +kernel
theorem dX1_costOf_28 : decode cX1_costOf 28 = .ok (.invokevirtual 34, 3) := by decide +kernel
theorem dX1_costOf_31 : decode cX1_costOf 31 = .ok (.ireturn, 1) := by decide +kernel
theorem dX1_sumOfRow_0 : decode cX1_sumOfRow 0 = .ok (.iconst 0, 1) := by decide +kernel
theorem dX1_sumOfRow_1 : decode cX1_sumOfRow 1 = .ok (.istore_n 2, 1) := by decide +kernel
theorem dX1_sumOfRow_2 : decode cX1_sumOfRow 2 = .ok (.iconst 0, 1) := by decide +kernel
theorem dX1_sumOfRow_3 : decode cX1_sumOfRow 3 = .ok (.istore_n 3, 1) := by decide +kernel
theorem dX1_sumOfRow_4 : decode cX1_sumOfRow 4 = .ok (.iload_n 3, 1) := by decide +kernel
theorem dX1_sumOfRow_5 : decode cX1_sumOfRow 5 = .ok (.aload_n 0, 1) := by decide +kernel
theorem dX1_sumOfRow_6 : decode cX1_sumOfRow 6 = .ok (.getfield 15, 3) := by decide +kernel
theorem dX1_sumOfRow_9 : decode cX1_sumOfRow 9 = .ok (.if_icmp .ge 18, 3) := by decide +kernel
theorem dX1_sumOfRow_12 : decode cX1_sumOfRow 12 = .ok (.iload_n 2, 1) := by decide +kernel
theorem dX1_sumOfRow_13 : decode cX1_sumOfRow 13 = .ok (.aload_n 0, 1) := by decide +kernel
theorem dX1_sumOfRow_14 : decode cX1_sumOfRow 14 = .ok (.iload_n 1, 1) := by decide +kernel
theorem dX1_sumOfRow_15 : decode cX1_sumOfRow 15 = .ok (.iload_n 3, 1) := by decide +kernel
theorem dX1_sumOfRow_16 : decode cX1_sumOfRow 16 = .ok (.invokevirtual 37, 3) := by decide +kernel
theorem dX1_sumOfRow_19 : decode cX1_sumOfRow 19 = .ok (.iadd, 1) := by decide +kernel
theorem dX1_sumOfRow_20 : decode cX1_sumOfRow 20 = .ok (.istore_n 2, 1) := by decide +kernel
theorem dX1_sumOfRow_21 : decode cX1_sumOfRow 21 = .ok (.iinc 3 1, 3) := by decide +kernel
theorem dX1_sumOfRow_24 : decode cX1_sumOfRow 24 = .ok (.goto (-20), 3) := by decide +kernel
theorem dX1_sumOfRow_27 : decode cX1_sumOfRow 27 = .ok (.iload_n 2, 1) := by decide +kernel
theorem dX1_sumOfRow_28 : decode cX1_sumOfRow 28 = .ok (.ireturn, 1) := by decide +kernel
theorem dX1_sumOfColumn_0 : decode cX1_sumOfColumn 0 = .ok (.iconst 0, 1) := by decide +kernel
theorem dX1_sumOfColumn_1 : decode cX1_sumOfColumn 1 = .ok (.istore_n 2, 1) := by decide +kernel
theorem dX1_sumOfColumn_2 : decode cX1_sumOfColumn 2 = .ok (.iconst 0, 1) := by decide +kernel
theorem dX1_sumOfColumn_3 : decode cX1_sumOfColumn 3 = .ok (.istore_n 3, 1) := by decide +kernel
theorem dX1_sumOfColumn_4 : decode cX1_sumOfColumn 4 = .ok (.iload_n 3, 1) := by decide +kernel
theorem dX1_sumOfColumn_5 : decode cX1_sumOfColumn 5 = .ok (.aload_n 0, 1) := by decide +kernel
theorem dX1_sumOfColumn_6 : decode cX1_sumOfColumn 6 = .ok (.getfield 9, 3) := by decide +kernel
theorem dX1_sumOfColumn_9 : decode cX1_sumOfColumn 9 = .ok (.if_icmp .ge 18, 3) := by decide +kernel
theorem dX1_sumOfColumn_12 : decode cX1_sumOfColumn 12 = .ok (.iload_n 2, 1) := by decide +kernel
theorem dX1_sumOfColumn_13 : decode cX1_sumOfColumn 13 = .ok (.aload_n 0, 1) := by decide +kernel
theorem dX1_sumOfColumn_14 : decode cX1_sumOfColumn 14 = .ok (.iload_n 3, 1) := by decide +kernel
theorem dX1_sumOfColumn_15 : decode cX1_sumOfColumn 15 = .ok (.iload_n 1, 1) := by decide +kernel
theorem dX1_sumOfColumn_16 : decode cX1_sumOfColumn 16 = .ok (.invokevirtual 37, 3) := by decide +kernel
theorem dX1_sumOfColumn_19 : decode cX1_sumOfColumn 19 = .ok (.iadd, 1) := by decide +kernel
theorem dX1_sumOfColumn_20 : decode cX1_sumOfColumn 20 = .ok (.istore_n 2, 1) := by decide +kernel
theorem dX1_sumOfColumn_21 : decode cX1_sumOfColumn 21 = .ok (.iinc 3 1, 3) := by decide +kernel
theorem dX1_sumOfColumn_24 : decode cX1_sumOfColumn 24 = .ok (.goto (-20), 3) := by decide +kernel
theorem dX1_sumOfColumn_27 : decode cX1_sumOfColumn 27 = .ok (.iload_n 2, 1) := by decide +kernel
theorem dX1_sumOfColumn_28 : decode cX1_sumOfColumn 28 = .ok (.ireturn, 1) := by decide +kernel
theorem dX1_swapCells_0 : decode cX1_swapCells 0 = .ok (.aload_n 0, 1) := by decide +kernel
theorem dX1_swapCells_1 : decode cX1_swapCells 1 = .ok (.iload_n 1, 1) := by decide +kernel
theorem dX1_swapCells_2 : decode cX1_swapCells 2 = .ok (.iload_n 2, 1) := by decide +kernel
theorem dX1_swapCells_3 : decode cX1_swapCells 3 = .ok (.invokevirtual 34, 3) := by decide +kernel
theorem dX1_swapCells_6 : decode cX1_swapCells 6 = .ok (.istore 5, 2) := by decide +kernel
theorem dX1_swapCells_8 : decode cX1_swapCells 8 = .ok (.aload_n 0, 1) := by decide +kernel
theorem dX1_swapCells_9 : decode cX1_swapCells 9 = .ok (.iload_n 1, 1) := by decide +kernel
theorem dX1_swapCells_10 : decode cX1_swapCells 10 = .ok (.iload_n 2, 1) := by decide +kernel
theorem dX1_swapCells_11 : decode cX1_swapCells 11 = .ok (.invokevirtual 30, 3) := by decide +kernel
theorem dX1_swapCells_14 : decode cX1_swapCells 14 = .ok (.istore 6, 2) := by decide +kernel
theorem dX1_swapCells_16 : decode cX1_swapCells 16 = .ok (.aload_n 0, 1) := by decide +kernel
theorem dX1_swapCells_17 : decode cX1_swapCells 17 = .ok (.iload_n 1, 1) := by decide +kernel
theorem dX1_swapCells_18 : decode cX1_swapCells 18 = .ok (.iload_n 2, 1) := by decide +kernel
theorem dX1_swapCells_19 : decode cX1_swapCells 19 = .ok (.aload_n 0, 1) := by decide +kernel
theorem dX1_swapCells_20 : decode cX1_swapCells 20 = .ok (.iload_n 3, 1) := by decide +kernel
theorem dX1_swapCells_21 : decode cX1_swapCells 21 = .ok (.iload 4, 2) := by decide +kernel
theorem dX1_swapCells_23 : decode cX1_swapCells 23 = .ok (.invokevirtual 34, 3) := by decide +kernel
theorem dX1_swapCells_26 : decode cX1_swapCells 26 = .ok (.invokevirtual 40, 3) := by decide +kernel
theorem dX1_swapCells_29 : decode cX1_swapCells 29 = .ok (.aload_n 0, 1) := by decide +kernel
theorem dX1_swapCells_30 : decode cX1_swapCells 30 = .ok (.iload_n 1, 1) := by decide +kernel
theorem dX1_swapCells_31 : decode cX1_swapCells 31 = .ok (.iload_n 2, 1) := by decide +kernel
theorem dX1_swapCells_32 : decode cX1_swapCells 32 = .ok (.aload_n 0, 1) := by decide +kernel
theorem dX1_swapCells_33 : decode cX1_swapCells 33 = .ok (.iload_n 3, 1) := by decide +kernel
theorem dX1_swapCells_34 : decode cX1_swapCells 34 = .ok (.iload 4, 2) := by decide +kernel
theorem dX1_swapCells_36 : decode cX1_swapCells 36 = .ok (.invokevirtual 30, 3) := by decide +kernel
theorem dX1_swapCells_39 : decode cX1_swapCells 39 = .ok (.invokevirtual 44, 3) := by decide +kernel
theorem dX1_swapCells_42 : decode cX1_swapCells 42 = .ok (.aload_n 0, 1) := by decide +kernel
theorem dX1_swapCells_43 : decode cX1_swapCells 43 = .ok (.iload_n 3, 1) := by decide +kernel
theorem dX1_swapCells_44 : decode cX1_swapCells 44 = .ok (.iload 4, 2) := by decide +kernel
theorem dX1_swapCells_46 : decode cX1_swapCells 46 = .ok (.iload 5, 2) := by decide +kernel
theorem dX1_swapCells_48 : decode cX1_swapCells 48 = .ok (.invokevirtual 40, 3) := by decide +kernel
theorem dX1_swapCells_51 : decode cX1_swapCells 51 = .ok (.aload_n 0, 1) := by decide +kernel
theorem dX1_swapCells_52 : decode cX1_swapCells 52 = .ok (.iload_n 3, 1) := by decide +kernel
theorem dX1_swapCells_53 : decode cX1_swapCells 53 = .ok (.iload 4, 2) := by decide +kernel
theorem dX1_swapCells_55 : decode cX1_swapCells 55 = .ok (.iload 6, 2) := by decide +kernel
theorem dX1_swapCells_57 : decode cX1_swapCells 57 = .ok (.invokevirtual 44, 3) := by decide +kernel
theorem dX1_swapCells_60 : decode cX1_swapCells 60 = .ok (.return_, 1) := by decide +kernel
theorem dX2_init_0 : decode cX2_init 0 = .ok (.aload_n 0, 1) := by decide +kernel
theorem dX2_init_1 : decode cX2_init 1 = .ok (.invokespecial 3, 3) := by decide +kernel
theorem dX2_init_4 : decode cX2_init 4 = .ok (.aload_n 0, 1) := by decide +kernel
theorem dX2_init_5 : decode cX2_init 5 = .ok (.iconst 0, 1) := by decide +kernel
theorem dX2_init_6 : decode cX2_init 6 = .ok (.putfield 9, 3) := by decide +kernel
theorem dX2_init_9 : decode cX2_init 9 = .ok (.aload_n 0, 1) := by decide +kernel
theorem dX2_init_10 : decode cX2_init 10 = .ok (.iconst 0, 1) := by decide +kernel
theorem dX2_init_11 : decode cX2_init 11 = .ok (.putfield 13, 3) := by decide +kernel
theorem dX2_init_14 : decode cX2_init 14 = .ok (.aload_n 0, 1) := by decide +kernel
theorem dX2_init_15 : decode cX2_init 15 = .ok (.iconst (-1), 1) := by decide +kernel
theorem dX2_init_16 : decode cX2_init 16 = .ok (.putfield 17, 3) := by decide +kernel
theorem dX2_init_19 : decode cX2_init 19 = .ok (.aload_n 0, 1) := by decide +kernel
theorem dX2_init_20 : decode cX2_init 20 = .ok (.iconst 0, 1) := by decide +kernel
theorem dX2_init_21 : decode cX2_init 21 = .ok (.putfield 20, 3) := by decide +kernel
theorem dX2_init_24 : decode cX2_init 24 = .ok (.aload_n 0, 1) := by decide +kernel
theorem dX2_init_25 : decode cX2_init 25 = .ok (.sipush 720, 3) := by decide +kernel
theorem dX2_init_28 : decode cX2_init 28 = .ok (.newarray .int, 2) := by decide +kernel
theorem dX2_init_30 : decode cX2_init 30 = .ok (.putfield 23, 3) := by decide +kernel
theorem dX2_init_33 : decode cX2_init 33 = .ok (.return_, 1) := by decide +kernel
theorem dX2_cancel_0 : decode cX2_cancel 0 = .ok (.aload_n 0, 1) := by decide +kernel
theorem dX2_cancel_1 : decode cX2_cancel 1 = .ok (.iconst 0, 1) := by decide +kernel
theorem dX2_cancel_2 : decode cX2_cancel 2 = .ok (.putfield 9, 3) := by decide +kernel
theorem dX2_cancel_5 : decode cX2_cancel 5 = .ok (.return_, 1) := by decide +kernel
theorem dX2_begin_0 : decode cX2_begin 0 = .ok (.aload_n 0, 1) := by decide +kernel
theorem dX2_begin_1 : decode cX2_begin 1 = .ok (.iconst 1, 1) := by decide +kernel
theorem dX2_begin_2 : decode cX2_begin 2 = .ok (.putfield 9, 3) := by decide +kernel
theorem dX2_begin_5 : decode cX2_begin 5 = .ok (.aload_n 0, 1) := by decide +kernel
theorem dX2_begin_6 : decode cX2_begin 6 = .ok (.iconst 0, 1) := by decide +kernel
theorem dX2_begin_7 : decode cX2_begin 7 = .ok (.putfield 13, 3) := by decide +kernel
theorem dX2_begin_10 : decode cX2_begin 10 = .ok (.aload_n 0, 1) := by decide +kernel
theorem dX2_begin_11 : decode cX2_begin 11 = .ok (.iconst (-1), 1) := by decide +kernel
theorem dX2_begin_12 : decode cX2_begin 12 = .ok (.putfield 17, 3) := by decide +kernel
theorem dX2_begin_15 : decode cX2_begin 15 = .ok (.aload_n 0, 1) := by decide +kernel
theorem dX2_begin_16 : decode cX2_begin 16 = .ok (.iconst 0, 1) := by decide +kernel
theorem dX2_begin_17 : decode cX2_begin 17 = .ok (.putfield 20, 3) := by decide +kernel
theorem dX2_begin_20 : decode cX2_begin 20 = .ok (.aload_n 0, 1) := by decide +kernel
theorem dX2_begin_21 : decode cX2_begin 21 = .ok (.aload_n 1, 1) := by decide +kernel
theorem dX2_begin_22 : decode cX2_begin 22 = .ok (.iconst 0, 1) := by decide +kernel
theorem dX2_begin_23 : decode cX2_begin 23 = .ok (.iconst 0, 1) := by decide +kernel
theorem dX2_begin_24 : decode cX2_begin 24 = .ok (.iconst 0, 1) := by decide +kernel
theorem dX2_begin_25 : decode cX2_begin 25 = .ok (.invokestatic 27, 3) := by decide +kernel
theorem dX2_begin_28 : decode cX2_begin 28 = .ok (.return_, 1) := by decide +kernel
theorem dX2_addKeys_0 : decode cX2_addKeys 0 = .ok (.iload_n 2, 1) := by decide +kernel
theorem dX2_addKeys_1 : decode cX2_addKeys 1 = .ok (.aload_n 1, 1) := by decide +kernel
theorem dX2_addKeys_2 : decode cX2_addKeys 2 = .ok (.getfield 31, 3) := by decide +kernel
theorem dX2_addKeys_5 : decode cX2_addKeys 5 = .ok (.if_icmp .lt 35, 3) := by decide +kernel
theorem dX2_addKeys_8 : decode cX2_addKeys 8 = .ok (.aload_n 0, 1) := by decide +kernel
theorem dX2_addKeys_9 : decode cX2_addKeys 9 = .ok (.getfield 20, 3) := by decide +kernel
theorem dX2_addKeys_12 : decode cX2_addKeys 12 = .ok (.sipush 720, 3) := by decide +kernel
theorem dX2_addKeys_15 : decode cX2_addKeys 15 = .ok (.if_icmp .ge 24, 3) := by decide +kernel
theorem dX2_addKeys_18 : decode cX2_addKeys 18 = .ok (.aload_n 0, 1) := by decide +kernel
theorem dX2_addKeys_19 : decode cX2_addKeys 19 = .ok (.getfield 23, 3) := by decide +kernel
theorem dX2_addKeys_22 : decode cX2_addKeys 22 = .ok (.aload_n 0, 1) := by decide +kernel
theorem dX2_addKeys_23 : decode cX2_addKeys 23 = .ok (.getfield 20, 3) := by decide +kernel
theorem dX2_addKeys_26 : decode cX2_addKeys 26 = .ok (.iload 4, 2) := by decide +kernel
theorem dX2_addKeys_28 : decode cX2_addKeys 28 = .ok (.iastore, 1) := by decide +kernel
theorem dX2_addKeys_29 : decode cX2_addKeys 29 = .ok (.aload_n 0, 1) := by decide +kernel
theorem dX2_addKeys_30 : decode cX2_addKeys 30 = .ok (.dup, 1) := by decide +kernel
theorem dX2_addKeys_31 : decode cX2_addKeys 31 = .ok (.getfield 20, 3) := by decide +kernel
theorem dX2_addKeys_34 : decode cX2_addKeys 34 = .ok (.iconst 1, 1) := by decide +kernel
theorem dX2_addKeys_35 : decode cX2_addKeys 35 = .ok (.iadd, 1) := by decide +kernel
theorem dX2_addKeys_36 : decode cX2_addKeys 36 = .ok (.putfield 20, 3) := by decide +kernel
theorem dX2_addKeys_39 : decode cX2_addKeys 39 = .ok (.return_, 1) := by decide +kernel
theorem dX2_addKeys_40 : decode cX2_addKeys 40 = .ok (.iconst 0, 1) := by decide +kernel
theorem dX2_addKeys_41 : decode cX2_addKeys 41 = .ok (.istore 5, 2) := by decide +kernel
theorem dX2_addKeys_43 : decode cX2_addKeys 43 = .ok (.iload 5, 2) := by decide +kernel
theorem dX2_addKeys_45 : decode cX2_addKeys 45 = .ok (.aload_n 1, 1) := by decide +kernel
theorem dX2_addKeys_46 : decode cX2_addKeys 46 = .ok (.getfield 31, 3) := by decide +kernel
theorem dX2_addKeys_49 : decode cX2_addKeys 49 = .ok (.if_icmp .ge 57, 3) := by decide +kernel
theorem dX2_addKeys_52 : decode cX2_addKeys 52 = .ok (.iload_n 3, 1) := by decide +kernel
theorem dX2_addKeys_53 : decode cX2_addKeys 53 = .ok (.iload 5, 2) := by decide +kernel
theorem dX2_addKeys_55 : decode cX2_addKeys 55 = .ok (.ishr, 1) := by decide +kernel
theorem dX2_addKeys_56 : decode cX2_addKeys 56 = .ok (.iconst 1, 1) := by decide +kernel
theorem dX2_addKeys_57 : decode cX2_addKeys 57 = .ok (.iand, 1) := by decide +kernel
theorem dX2_addKeys_58 : decode cX2_addKeys 58 = .ok (.ifCond .ne 42, 3) := by decide +kernel
theorem dX2_addKeys_61 : decode cX2_addKeys 61 = .ok (.aload_n 1, 1) := by decide +kernel
theorem dX2_addKeys_62 : decode cX2_addKeys 62 = .ok (.iload_n 2, 1) := by decide +kernel
theorem dX2_addKeys_63 : decode cX2_addKeys 63 = .ok (.iload 5, 2) := by decide +kernel
theorem dX2_addKeys_65 : decode cX2_addKeys 65 = .ok (.invokevirtual 36, 3) := by decide +kernel
theorem dX2_addKeys_68 : decode cX2_addKeys 68 = .ok (.bipush 18, 2) := by decide +kernel
theorem dX2_addKeys_70 : decode cX2_addKeys 70 = .ok (.ishl, 1) := by decide +kernel
theorem dX2_addKeys_71 : decode cX2_addKeys 71 = .ok (.iload 5, 2) := by decide +kernel
theorem dX2_addKeys_73 : decode cX2_addKeys 73 = .ok (.iload_n 2, 1) := by decide +kernel
theorem dX2_addKeys_74 : decode cX2_addKeys 74 = .ok (.invokestatic 40, 3) := by decide +kernel
theorem dX2_addKeys_77 : decode cX2_addKeys 77 = .ok (.ishl, 1) := by decide +kernel
theorem dX2_addKeys_78 : decode cX2_addKeys 78 = .ok (.iadd, 1) := by decide +kernel
theorem dX2_addKeys_79 : decode cX2_addKeys 79 = .ok (.istore 6, 2) := by decide +kernel
theorem dX2_addKeys_81 : decode cX2_addKeys 81 = .ok (.aload_n 0, 1) := by decide +kernel
theorem dX2_addKeys_82 : decode cX2_addKeys 82 = .ok (.aload_n 1, 1) := by decide +kernel
theorem dX2_addKeys_83 : decode cX2_addKeys 83 = .ok (.iload_n 2, 1) := by decide +kernel
theorem dX2_addKeys_84 : decode cX2_addKeys 84 = .ok (.iconst 1, 1) := by decide +kernel
theorem dX2_addKeys_85 : decode cX2_addKeys 85 = .ok (.iadd, 1) := by decide +kernel
theorem dX2_addKeys_86 : decode cX2_addKeys 86 = .ok (.iload_n 3, 1) := by decide +kernel
theorem dX2_addKeys_87 : decode cX2_addKeys 87 = .ok (.iconst 1, 1) := by decide +kernel
theorem dX2_addKeys_88 : decode cX2_addKeys 88 = .ok (.iload 5, 2) := by decide +kernel
theorem dX2_addKeys_90 : decode cX2_addKeys 90 = .ok (.ishl, 1) := by decide +kernel
theorem dX2_addKeys_91 : decode cX2_addKeys 91 = .ok (.ior, 1) := by decide +kernel
theorem dX2_addKeys_92 : decode cX2_addKeys 92 = .ok (.iload 4, 2) := by decide +kernel
theorem dX2_addKeys_94 : decode cX2_addKeys 94 = .ok (.iload 6, 2) := by decide +kernel
theorem dX2_addKeys_96 : decode cX2_addKeys 96 = .ok (.iadd, 1) := by decide +kernel
theorem dX2_addKeys_97 : decode cX2_addKeys 97 = .ok (.invokestatic 27, 3) := by decide +kernel
theorem dX2_addKeys_100 : decode cX2_addKeys 100 = .ok (.iinc 5 1, 3) := by decide +kernel
theorem dX2_addKeys_103 : decode cX2_addKeys 103 = .ok (.goto (-60), 3) := by decide +kernel
theorem dX2_addKeys_106 : decode cX2_addKeys 106 = .ok (.return_, 1) := by decide +kernel
theorem dX2_shiftOf_0 : decode cX2_shiftOf 0 = .ok (.iconst 3, 1) := by decide +kernel
theorem dX2_shiftOf_1 : decode cX2_shiftOf 1 = .ok (.iconst 5, 1) := by decide +kernel
theorem dX2_shiftOf_2 : decode cX2_shiftOf 2 = .ok (.iload_n 0, 1) := by decide +kernel
theorem dX2_shiftOf_3 : decode cX2_shiftOf 3 = .ok (.isub, 1) := by decide +kernel
theorem dX2_shiftOf_4 : decode cX2_shiftOf 4 = .ok (.imul, 1) := by decide +kernel
theorem dX2_shiftOf_5 : decode cX2_shiftOf 5 = .ok (.ireturn, 1) := by decide +kernel
theorem dX2_advance_0 : decode cX2_advance 0 = .ok (.ldc 46, 2) := by decide +kernel
theorem dX2_advance_2 : decode cX2_advance 2 = .ok (.istore_n 1, 1) := by decide +kernel
theorem dX2_advance_3 : decode cX2_advance 3 = .ok (.iconst 0, 1) := by decide +kernel
theorem dX2_advance_4 : decode cX2_advance 4 = .ok (.istore_n 2, 1) := by decide +kernel
theorem dX2_advance_5 : decode cX2_advance 5 = .ok (.iload_n 2, 1) := by decide +kernel
theorem dX2_advance_6 : decode cX2_advance 6 = .ok (.aload_n 0, 1) := by decide +kernel
theorem dX2_advance_7 : decode cX2_advance 7 = .ok (.getfield 20, 3) := by decide +kernel
theorem dX2_advance_10 : decode cX2_advance 10 = .ok (.if_icmp .ge 31, 3) := by decide +kernel
theorem dX2_advance_13 : decode cX2_advance 13 = .ok (.aload_n 0, 1) := by decide +kernel
theorem dX2_advance_14 : decode cX2_advance 14 = .ok (.getfield 23, 3) := by decide +kernel
theorem dX2_advance_17 : decode cX2_advance 17 = .ok (.iload_n 2, 1) := by decide +kernel
theorem dX2_advance_18 : decode cX2_advance 18 = .ok (.iaload, 1) := by decide +kernel
theorem dX2_advance_19 : decode cX2_advance 19 = .ok (.istore_n 3, 1) := by decide +kernel
theorem dX2_advance_20 : decode cX2_advance 20 = .ok (.iload_n 3, 1) := by decide +kernel
theorem dX2_advance_21 : decode cX2_advance 21 = .ok (.aload_n 0, 1) := by decide +kernel
theorem dX2_advance_22 : decode cX2_advance 22 = .ok (.getfield 17, 3) := by decide +kernel
theorem dX2_advance_25 : decode cX2_advance 25 = .ok (.if_icmp .le 10, 3) := by decide +kernel
theorem dX2_advance_28 : decode cX2_advance 28 = .ok (.iload_n 3, 1) := by decide +kernel
theorem dX2_advance_29 : decode cX2_advance 29 = .ok (.iload_n 1, 1) := by decide +kernel
theorem dX2_advance_30 : decode cX2_advance 30 = .ok (.if_icmp .ge 5, 3) := by decide +kernel
theorem dX2_advance_33 : decode cX2_advance 33 = .ok (.iload_n 3, 1) := by decide +kernel
theorem dX2_advance_34 : decode cX2_advance 34 = .ok (.istore_n 1, 1) := by decide +kernel
theorem dX2_advance_35 : decode cX2_advance 35 = .ok (.iinc 2 1, 3) := by decide +kernel
theorem dX2_advance_38 : decode cX2_advance 38 = .ok (.goto (-33), 3) := by decide +kernel
theorem dX2_advance_41 : decode cX2_advance 41 = .ok (.aload_n 0, 1) := by decide +kernel
theorem dX2_advance_42 : decode cX2_advance 42 = .ok (.iload_n 1, 1) := by decide +kernel
theorem dX2_advance_43 : decode cX2_advance 43 = .ok (.putfield 17, 3) := by decide +kernel
theorem dX2_advance_46 : decode cX2_advance 46 = .ok (.aload_n 0, 1) := by decide +kernel
theorem dX2_advance_47 : decode cX2_advance 47 = .ok (.dup, 1) := by decide +kernel
theorem dX2_advance_48 : decode cX2_advance 48 = .ok (.getfield 13, 3) := by decide +kernel
theorem dX2_advance_51 : decode cX2_advance 51 = .ok (.iconst 1, 1) := by decide +kernel
theorem dX2_advance_52 : decode cX2_advance 52 = .ok (.iadd, 1) := by decide +kernel
theorem dX2_advance_53 : decode cX2_advance 53 = .ok (.putfield 13, 3) := by decide +kernel
theorem dX2_advance_56 : decode cX2_advance 56 = .ok (.return_, 1) := by decide +kernel
theorem dX2_visitedSum_0 : decode cX2_visitedSum 0 = .ok (.aload_n 0, 1) := by decide +kernel
theorem dX2_visitedSum_1 : decode cX2_visitedSum 1 = .ok (.getfield 17, 3) := by decide +kernel
theorem dX2_visitedSum_4 : decode cX2_visitedSum 4 = .ok (.bipush 18, 2) := by decide +kernel
theorem dX2_visitedSum_6 : decode cX2_visitedSum 6 = .ok (.ishr, 1) := by decide +kernel
theorem dX2_visitedSum_7 : decode cX2_visitedSum 7 = .ok (.ireturn, 1) := by decide +kernel
theorem dX2_visitedColumn_0 : decode cX2_visitedColumn 0 = .ok (.aload_n 0, 1) := by decide +kernel
theorem dX2_visitedColumn_1 : decode cX2_visitedColumn 1 = .ok (.getfield 17, 3) := by decide +kernel
theorem dX2_visitedColumn_4 : decode cX2_visitedColumn 4 = .ok (.iload_n 1, 1) := by decide +kernel
theorem dX2_visitedColumn_5 : decode cX2_visitedColumn 5 = .ok (.invokestatic 40, 3) := by decide +kernel
theorem dX2_visitedColumn_8 : decode cX2_visitedColumn 8 = .ok (.ishr, 1) := by decide +kernel
theorem dX2_visitedColumn_9 : decode cX2_visitedColumn 9 = .ok (.bipush 7, 2) := by decide +kernel
theorem dX2_visitedColumn_11 : decode cX2_visitedColumn 11 = .ok (.iand, 1) := by decide +kernel
theorem dX2_visitedColumn_12 : decode cX2_visitedColumn 12 = .ok (.ireturn, 1) := by decide +kernel
theorem dX3_init_0 : decode cX3_init 0 = .ok (.aload_n 0, 1) := by decide +kernel
theorem dX3_init_1 : decode cX3_init 1 = .ok (.invokespecial 3, 3) := by decide +kernel
theorem dX3_init_4 : decode cX3_init 4 = .ok (.aload_n 0, 1) := by decide +kernel
theorem dX3_init_5 : decode cX3_init 5 = .ok (.new 9, 3) := by decide +kernel
theorem dX3_init_8 : decode cX3_init 8 = .ok (.dup, 1) := by decide +kernel
theorem dX3_init_9 : decode cX3_init 9 = .ok (.invokespecial 11, 3) := by decide +kernel
theorem dX3_init_12 : decode cX3_init 12 = .ok (.putfield 12, 3) := by decide +kernel
theorem dX3_init_15 : decode cX3_init 15 = .ok (.aload_n 0, 1) := by decide +kernel
theorem dX3_init_16 : decode cX3_init 16 = .ok (.new 9, 3) := by decide +kernel
theorem dX3_init_19 : decode cX3_init 19 = .ok (.dup, 1) := by decide +kernel
theorem dX3_init_20 : decode cX3_init 20 = .ok (.invokespecial 11, 3) := by decide +kernel
theorem dX3_init_23 : decode cX3_init 23 = .ok (.putfield 16, 3) := by decide +kernel
theorem dX3_init_26 : decode cX3_init 26 = .ok (.aload_n 0, 1) := by decide +kernel
theorem dX3_init_27 : decode cX3_init 27 = .ok (.new 19, 3) := by decide +kernel
theorem dX3_init_30 : decode cX3_init 30 = .ok (.dup, 1) := by decide +kernel
theorem dX3_init_31 : decode cX3_init 31 = .ok (.invokespecial 21, 3) := by decide +kernel
theorem dX3_init_34 : decode cX3_init 34 = .ok (.putfield 22, 3) := by decide +kernel
theorem dX3_init_37 : decode cX3_init 37 = .ok (.aload_n 0, 1) := by decide +kernel
theorem dX3_init_38 : decode cX3_init 38 = .ok (.bipush 7, 2) := by decide +kernel
theorem dX3_init_40 : decode cX3_init 40 = .ok (.newarray .int, 2) := by decide +kernel
theorem dX3_init_42 : decode cX3_init 42 = .ok (.putfield 26, 3) := by decide +kernel
theorem dX3_init_45 : decode cX3_init 45 = .ok (.aload_n 0, 1) := by decide +kernel
theorem dX3_init_46 : decode cX3_init 46 = .ok (.bipush 7, 2) := by decide +kernel
theorem dX3_init_48 : decode cX3_init 48 = .ok (.newarray .int, 2) := by decide +kernel
theorem dX3_init_50 : decode cX3_init 50 = .ok (.putfield 30, 3) := by decide +kernel
theorem dX3_init_53 : decode cX3_init 53 = .ok (.aload_n 0, 1) := by decide +kernel
theorem dX3_init_54 : decode cX3_init 54 = .ok (.bipush 7, 2) := by decide +kernel
theorem dX3_init_56 : decode cX3_init 56 = .ok (.newarray .int, 2) := by decide +kernel
theorem dX3_init_58 : decode cX3_init 58 = .ok (.putfield 33, 3) := by decide +kernel
theorem dX3_init_61 : decode cX3_init 61 = .ok (.aload_n 0, 1) := by decide +kernel
theorem dX3_init_62 : decode cX3_init 62 = .ok (.new 36, 3) := by decide +kernel
theorem dX3_init_65 : decode cX3_init 65 = .ok (.dup, 1) := by decide +kernel
theorem dX3_init_66 : decode cX3_init 66 = .ok (.invokespecial 38, 3) := by decide +kernel
theorem dX3_init_69 : decode cX3_init 69 = .ok (.putfield 39, 3) := by decide +kernel
theorem dX3_init_72 : decode cX3_init 72 = .ok (.return_, 1) := by decide +kernel
theorem dX3_resize_0 : decode cX3_resize 0 = .ok (.iload_n 1, 1) := by decide +kernel
theorem dX3_resize_1 : decode cX3_resize 1 = .ok (.iconst 1, 1) := by decide +kernel
theorem dX3_resize_2 : decode cX3_resize 2 = .ok (.if_icmp .lt 19, 3) := by decide +kernel
theorem dX3_resize_5 : decode cX3_resize 5 = .ok (.iload_n 1, 1) := by decide +kernel
theorem dX3_resize_6 : decode cX3_resize 6 = .ok (.bipush 7, 2) := by decide +kernel
theorem dX3_resize_8 : decode cX3_resize 8 = .ok (.if_icmp .gt 13, 3) := by decide +kernel
theorem dX3_resize_11 : decode cX3_resize 11 = .ok (.iload_n 2, 1) := by decide +kernel
theorem dX3_resize_12 : decode cX3_resize 12 = .ok (.iconst 1, 1) := by decide +kernel
theorem dX3_resize_13 : decode cX3_resize 13 = .ok (.if_icmp .lt 8, 3) := by decide +kernel
theorem dX3_resize_16 : decode cX3_resize 16 = .ok (.iload_n 2, 1) := by decide +kernel
theorem dX3_resize_17 : decode cX3_resize 17 = .ok (.iload_n 1, 1) := by decide +kernel
theorem dX3_resize_18 : decode cX3_resize 18 = .ok (.if_icmp .le 11, 3) := by decide +kernel
theorem dX3_resize_21 : decode cX3_resize 21 = .ok (.new 43, 3) := by decide +kernel
theorem dX3_resize_24 : decode cX3_resize 24 = .ok (.dup, 1) := by decide +kernel
theorem dX3_resize_25 : decode cX3_resize 25 = .ok (.invokespecial 45, 3) := by decide +kernel
theorem dX3_resize_28 : decode cX3_resize 28 = .ok (.athrow, 1) := by decide +kernel
theorem dX3_resize_29 : decode cX3_resize 29 = .ok (.aload_n 0, 1) := by decide +kernel
theorem dX3_resize_30 : decode cX3_resize 30 = .ok (.getfield 12, 3) := by decide +kernel
theorem dX3_resize_33 : decode cX3_resize 33 = .ok (.iload_n 1, 1) := by decide +kernel
theorem dX3_resize_34 : decode cX3_resize 34 = .ok (.iload_n 2, 1) := by decide +kernel
theorem dX3_resize_35 : decode cX3_resize 35 = .ok (.invokevirtual 46, 3) := by decide +kernel
theorem dX3_resize_38 : decode cX3_resize 38 = .ok (.aload_n 0, 1) := by decide +kernel
theorem dX3_resize_39 : decode cX3_resize 39 = .ok (.getfield 39, 3) := by decide +kernel
theorem dX3_resize_42 : decode cX3_resize 42 = .ok (.invokevirtual 50, 3) := by decide +kernel
theorem dX3_resize_45 : decode cX3_resize 45 = .ok (.iload_n 1, 1) := by decide +kernel
theorem dX3_resize_46 : decode cX3_resize 46 = .ok (.iload_n 2, 1) := by decide +kernel
theorem dX3_resize_47 : decode cX3_resize 47 = .ok (.imul, 1) := by decide +kernel
theorem dX3_resize_48 : decode cX3_resize 48 = .ok (.ireturn, 1) := by decide +kernel
theorem dX3_setCost_0 : decode cX3_setCost 0 = .ok (.aload_n 0, 1) := by decide +kernel
theorem dX3_setCost_1 : decode cX3_setCost 1 = .ok (.iload_n 1, 1) := by decide +kernel
theorem dX3_setCost_2 : decode cX3_setCost 2 = .ok (.iload_n 2, 1) := by decide +kernel
theorem dX3_setCost_3 : decode cX3_setCost 3 = .ok (.invokevirtual 53, 3) := by decide +kernel
theorem dX3_setCost_6 : decode cX3_setCost 6 = .ok (.iload_n 3, 1) := by decide +kernel
theorem dX3_setCost_7 : decode cX3_setCost 7 = .ok (.ifCond .lt 9, 3) := by decide +kernel
theorem dX3_setCost_10 : decode cX3_setCost 10 = .ok (.iload_n 3, 1) := by decide +kernel
theorem dX3_setCost_11 : decode cX3_setCost 11 = .ok (.bipush 99, 2) := by decide +kernel
theorem dX3_setCost_13 : decode cX3_setCost 13 = .ok (.if_icmp .le 11, 3) := by decide +kernel
theorem dX3_setCost_16 : decode cX3_setCost 16 = .ok (.new 43, 3) := by decide +kernel
theorem dX3_setCost_19 : decode cX3_setCost 19 = .ok (.dup, 1) := by decide +kernel
theorem dX3_setCost_20 : decode cX3_setCost 20 = .ok (.invokespecial 45, 3) := by decide +kernel
theorem dX3_setCost_23 : decode cX3_setCost 23 = .ok (.athrow, 1) := by decide +kernel
theorem dX3_setCost_24 : decode cX3_setCost 24 = .ok (.aload_n 0, 1) := by decide +kernel
theorem dX3_setCost_25 : decode cX3_setCost 25 = .ok (.getfield 12, 3) := by decide +kernel
theorem dX3_setCost_28 : decode cX3_setCost 28 = .ok (.iload_n 1, 1) := by decide +kernel
theorem dX3_setCost_29 : decode cX3_setCost 29 = .ok (.iload_n 2, 1) := by decide +kernel
theorem dX3_setCost_30 : decode cX3_setCost 30 = .ok (.invokevirtual 56, 3) := by decide +kernel
theorem dX3_setCost_33 : decode cX3_setCost 33 = .ok (.istore 4, 2) := by decide +kernel
theorem dX3_setCost_35 : decode cX3_setCost 35 = .ok (.aload_n 0, 1) := by decide +kernel
theorem dX3_setCost_36 : decode cX3_setCost 36 = .ok (.getfield 12, 3) := by decide +kernel
theorem dX3_setCost_39 : decode cX3_setCost 39 = .ok (.iload_n 1, 1) := by decide +kernel
theorem dX3_setCost_40 : decode cX3_setCost 40 = .ok (.iload_n 2, 1) := by decide +kernel
theorem dX3_setCost_41 : decode cX3_setCost 41 = .ok (.iload_n 3, 1) := by decide +kernel
theorem dX3_setCost_42 : decode cX3_setCost 42 = .ok (.invokevirtual 60, 3) := by decide +kernel
theorem dX3_setCost_45 : decode cX3_setCost 45 = .ok (.aload_n 0, 1) := by decide +kernel
theorem dX3_setCost_46 : decode cX3_setCost 46 = .ok (.getfield 39, 3) := by decide +kernel
theorem dX3_setCost_49 : decode cX3_setCost 49 = .ok (.invokevirtual 50, 3) := by decide +kernel
theorem dX3_setCost_52 : decode cX3_setCost 52 = .ok (.iload 4, 2) := by decide +kernel
theorem dX3_setCost_54 : decode cX3_setCost 54 = .ok (.ireturn, 1) := by decide +kernel
theorem dX3_setRow_0 : decode cX3_setRow 0 = .ok (.aload_n 0, 1) := by decide +kernel
theorem dX3_setRow_1 : decode cX3_setRow 1 = .ok (.iload_n 1, 1) := by decide +kernel
theorem dX3_setRow_2 : decode cX3_setRow 2 = .ok (.invokevirtual 64, 3) := by decide +kernel
theorem dX3_setRow_5 : decode cX3_setRow 5 = .ok (.lload_n 2, 1) := by decide +kernel
theorem dX3_setRow_6 : decode cX3_setRow 6 = .ok (.lconst 0, 1) := by decide +kernel
theorem dX3_setRow_7 : decode cX3_setRow 7 = .ok (.lcmp, 1) := by decide +kernel
theorem dX3_setRow_8 : decode cX3_setRow 8 = .ok (.ifCond .lt 12, 3) := by decide +kernel
theorem dX3_setRow_11 : decode cX3_setRow 11 = .ok (.lload_n 2, 1) := by decide +kernel
theorem dX3_setRow_12 : decode cX3_setRow 12 = .ok (.aload_n 0, 1) := by decide +kernel
theorem dX3_setRow_13 : decode cX3_setRow 13 = .ok (.invokevirtual 68, 3) := by decide +kernel
theorem dX3_setRow_16 : decode cX3_setRow 16 = .ok (.lcmp, 1) := by decide +kernel
theorem dX3_setRow_17 : decode cX3_setRow 17 = .ok (.ifCond .lt 11, 3) := by decide +kernel
theorem dX3_setRow_20 : decode cX3_setRow 20 = .ok (.new 43, 3) := by decide +kernel
theorem dX3_setRow_23 : decode cX3_setRow 23 = .ok (.dup, 1) := by decide +kernel
theorem dX3_setRow_24 : decode cX3_setRow 24 = .ok (.invokespecial 45, 3) := by decide +kernel
theorem dX3_setRow_27 : decode cX3_setRow 27 = .ok (.athrow, 1) := by decide +kernel
theorem dX3_setRow_28 : decode cX3_setRow 28 = .ok (.lload_n 2, 1) := by decide +kernel
theorem dX3_setRow_29 : decode cX3_setRow 29 = .ok (.lstore 4, 2) := by decide +kernel
theorem dX3_setRow_31 : decode cX3_setRow 31 = .ok (.bipush 99, 2) := by decide +kernel
theorem dX3_setRow_33 : decode cX3_setRow 33 = .ok (.istore 6, 2) := by decide +kernel
theorem dX3_setRow_35 : decode cX3_setRow 35 = .ok (.aload_n 0, 1) := by decide +kernel
theorem dX3_setRow_36 : decode cX3_setRow 36 = .ok (.getfield 12, 3) := by decide +kernel
theorem dX3_setRow_39 : decode cX3_setRow 39 = .ok (.getfield 72, 3) := by decide +kernel
theorem dX3_setRow_42 : decode cX3_setRow 42 = .ok (.iconst 1, 1) := by decide +kernel
theorem dX3_setRow_43 : decode cX3_setRow 43 = .ok (.isub, 1) := by decide +kernel
theorem dX3_setRow_44 : decode cX3_setRow 44 = .ok (.istore 7, 2) := by decide +kernel
theorem dX3_setRow_46 : decode cX3_setRow 46 = .ok (.iload 7, 2) := by decide +kernel
theorem dX3_setRow_48 : decode cX3_setRow 48 = .ok (.ifCond .lt 47, 3) := by decide +kernel
theorem dX3_setRow_51 : decode cX3_setRow 51 = .ok (.lload 4, 2) := by decide +kernel
theorem dX3_setRow_53 : decode cX3_setRow 53 = .ok (.ldc2_w 76, 3) := by decide +kernel
theorem dX3_setRow_56 : decode cX3_setRow 56 = .ok (.lrem, 1) := by decide +kernel
theorem dX3_setRow_57 : decode cX3_setRow 57 = .ok (.l2i, 1) := by decide +kernel
theorem dX3_setRow_58 : decode cX3_setRow 58 = .ok (.istore 8, 2) := by decide +kernel
theorem dX3_setRow_60 : decode cX3_setRow 60 = .ok (.lload 4, 2) := by decide +kernel
theorem dX3_setRow_62 : decode cX3_setRow 62 = .ok (.ldc2_w 76, 3) := by decide +kernel
theorem dX3_setRow_65 : decode cX3_setRow 65 = .ok (.ldiv, 1) := by decide +kernel
theorem dX3_setRow_66 : decode cX3_setRow 66 = .ok (.lstore 4, 2) := by decide +kernel
theorem dX3_setRow_68 : decode cX3_setRow 68 = .ok (.aload_n 0, 1) := by decide +kernel
theorem dX3_setRow_69 : decode cX3_setRow 69 = .ok (.getfield 12, 3) := by decide +kernel
theorem dX3_setRow_72 : decode cX3_setRow 72 = .ok (.iload_n 1, 1) := by decide +kernel
theorem dX3_setRow_73 : decode cX3_setRow 73 = .ok (.iload 7, 2) := by decide +kernel
theorem dX3_setRow_75 : decode cX3_setRow 75 = .ok (.iload 8, 2) := by decide +kernel
theorem dX3_setRow_77 : decode cX3_setRow 77 = .ok (.invokevirtual 60, 3) := by decide +kernel
theorem dX3_setRow_80 : decode cX3_setRow 80 = .ok (.iload 6, 2) := by decide +kernel
theorem dX3_setRow_82 : decode cX3_setRow 82 = .ok (.iload 8, 2) := by decide +kernel
theorem dX3_setRow_84 : decode cX3_setRow 84 = .ok (.invokestatic 78, 3) := by decide +kernel
theorem dX3_setRow_87 : decode cX3_setRow 87 = .ok (.istore 6, 2) := by decide +kernel
theorem dX3_setRow_89 : decode cX3_setRow 89 = .ok (.iinc 7 (-1), 3) := by decide +kernel
theorem dX3_setRow_92 : decode cX3_setRow 92 = .ok (.goto (-46), 3) := by decide +kernel
theorem dX3_setRow_95 : decode cX3_setRow 95 = .ok (.aload_n 0, 1) := by decide +kernel
theorem dX3_setRow_96 : decode cX3_setRow 96 = .ok (.getfield 39, 3) := by decide +kernel
theorem dX3_setRow_99 : decode cX3_setRow 99 = .ok (.invokevirtual 50, 3) := by decide +kernel
theorem dX3_setRow_102 : decode cX3_setRow 102 = .ok (.iload 6, 2) := by decide +kernel
theorem dX3_setRow_104 : decode cX3_setRow 104 = .ok (.ireturn, 1) := by decide +kernel
theorem dX3_fill_0 : decode cX3_fill 0 = .ok (.iload_n 1, 1) := by decide +kernel
theorem dX3_fill_1 : decode cX3_fill 1 = .ok (.ifCond .lt 20, 3) := by decide +kernel
theorem dX3_fill_4 : decode cX3_fill 4 = .ok (.iload_n 1, 1) := by decide +kernel
theorem dX3_fill_5 : decode cX3_fill 5 = .ok (.sipush 9999, 3) := by decide +kernel
theorem dX3_fill_8 : decode cX3_fill 8 = .ok (.if_icmp .gt 13, 3) := by decide +kernel
theorem dX3_fill_11 : decode cX3_fill 11 = .ok (.iload_n 2, 1) := by decide +kernel
theorem dX3_fill_12 : decode cX3_fill 12 = .ok (.ifCond .lt 9, 3) := by decide +kernel
theorem dX3_fill_15 : decode cX3_fill 15 = .ok (.iload_n 2, 1) := by decide +kernel
theorem dX3_fill_16 : decode cX3_fill 16 = .ok (.bipush 99, 2) := by decide +kernel
theorem dX3_fill_18 : decode cX3_fill 18 = .ok (.if_icmp .le 11, 3) := by decide +kernel
theorem dX3_fill_21 : decode cX3_fill 21 = .ok (.new 43, 3) := by decide +kernel
theorem dX3_fill_24 : decode cX3_fill 24 = .ok (.dup, 1) := by decide +kernel
theorem dX3_fill_25 : decode cX3_fill 25 = .ok (.invokespecial 45, 3) := by decide +kernel
theorem dX3_fill_28 : decode cX3_fill 28 = .ok (.athrow, 1) := by decide +kernel
theorem dX3_fill_29 : decode cX3_fill 29 = .ok (.iload_n 1, 1) := by decide +kernel
theorem dX3_fill_30 : decode cX3_fill 30 = .ok (.istore_n 3, 1) := by decide +kernel
theorem dX3_fill_31 : decode cX3_fill 31 = .ok (.iconst 0, 1) := by decide +kernel
theorem dX3_fill_32 : decode cX3_fill 32 = .ok (.istore 4, 2) := by decide +kernel
theorem dX3_fill_34 : decode cX3_fill 34 = .ok (.iconst 0, 1) := by decide +kernel
theorem dX3_fill_35 : decode cX3_fill 35 = .ok (.istore 5, 2) := by decide +kernel
theorem dX3_fill_37 : decode cX3_fill 37 = .ok (.iload 5, 2) := by decide +kernel
theorem dX3_fill_39 : decode cX3_fill 39 = .ok (.aload_n 0, 1) := by decide +kernel
theorem dX3_fill_40 : decode cX3_fill 40 = .ok (.getfield 12, 3) := by decide +kernel
theorem dX3_fill_43 : decode cX3_fill 43 = .ok (.getfield 83, 3) := by decide +kernel
theorem dX3_fill_46 : decode cX3_fill 46 = .ok (.if_icmp .ge 81, 3) := by decide +kernel
theorem dX3_fill_49 : decode cX3_fill 49 = .ok (.iconst 0, 1) := by decide +kernel
theorem dX3_fill_50 : decode cX3_fill 50 = .ok (.istore 6, 2) := by decide +kernel
theorem dX3_fill_52 : decode cX3_fill 52 = .ok (.iload 6, 2) := by decide +kernel
theorem dX3_fill_54 : decode cX3_fill 54 = .ok (.aload_n 0, 1) := by decide +kernel
theorem dX3_fill_55 : decode cX3_fill 55 = .ok (.getfield 12, 3) := by decide +kernel
theorem dX3_fill_58 : decode cX3_fill 58 = .ok (.getfield 72, 3) := by decide +kernel
theorem dX3_fill_61 : decode cX3_fill 61 = .ok (.if_icmp .ge 60, 3) := by decide +kernel
theorem dX3_fill_64 : decode cX3_fill 64 = .ok (.bipush 37, 2) := by decide +kernel
theorem dX3_fill_66 : decode cX3_fill 66 = .ok (.iload_n 3, 1) := by decide +kernel
theorem dX3_fill_67 : decode cX3_fill 67 = .ok (.imul, 1) := by decide +kernel
theorem dX3_fill_68 : decode cX3_fill 68 = .ok (.bipush 11, 2) := by decide +kernel
theorem dX3_fill_70 : decode cX3_fill 70 = .ok (.iadd, 1) := by decide +kernel
theorem dX3_fill_71 : decode cX3_fill 71 = .ok (.sipush 10007, 3) := by decide +kernel
theorem dX3_fill_74 : decode cX3_fill 74 = .ok (.irem, 1) := by decide +kernel
theorem dX3_fill_75 : decode cX3_fill 75 = .ok (.istore_n 3, 1) := by decide +kernel
theorem dX3_fill_76 : decode cX3_fill 76 = .ok (.iload_n 3, 1) := by decide +kernel
theorem dX3_fill_77 : decode cX3_fill 77 = .ok (.iload_n 2, 1) := by decide +kernel
theorem dX3_fill_78 : decode cX3_fill 78 = .ok (.iconst 1, 1) := by decide +kernel
theorem dX3_fill_79 : decode cX3_fill 79 = .ok (.iadd, 1) := by decide +kernel
theorem dX3_fill_80 : decode cX3_fill 80 = .ok (.irem, 1) := by decide +kernel
theorem dX3_fill_81 : decode cX3_fill 81 = .ok (.istore 7, 2) := by decide +kernel
theorem dX3_fill_83 : decode cX3_fill 83 = .ok (.aload_n 0, 1) := by decide +kernel
theorem dX3_fill_84 : decode cX3_fill 84 = .ok (.getfield 12, 3) := by decide +kernel
theorem dX3_fill_87 : decode cX3_fill 87 = .ok (.iload 5, 2) := by decide +kernel
theorem dX3_fill_89 : decode cX3_fill 89 = .ok (.iload 6, 2) := by decide +kernel
theorem dX3_fill_91 : decode cX3_fill 91 = .ok (.iload 7, 2) := by decide +kernel
theorem dX3_fill_93 : decode cX3_fill 93 = .ok (.invokevirtual 60, 3) := by decide +kernel
theorem dX3_fill_96 : decode cX3_fill 96 = .ok (.aload_n 0, 1) := by decide +kernel
theorem dX3_fill_97 : decode cX3_fill 97 = .ok (.getfield 12, 3) := by decide +kernel
theorem dX3_fill_100 : decode cX3_fill 100 = .ok (.iload 5, 2) := by decide +kernel
theorem dX3_fill_102 : decode cX3_fill 102 = .ok (.iload 6, 2) := by decide +kernel
theorem dX3_fill_104 : decode cX3_fill 104 = .ok (.iconst 0, 1) := by decide +kernel
theorem dX3_fill_105 : decode cX3_fill 105 = .ok (.invokevirtual 86, 3) := by decide +kernel
theorem dX3_fill_108 : decode cX3_fill 108 = .ok (.iload 4, 2) := by decide +kernel
theorem dX3_fill_110 : decode cX3_fill 110 = .ok (.iload 7, 2) := by decide +kernel
theorem dX3_fill_112 : decode cX3_fill 112 = .ok (.iadd, 1) := by decide +kernel
theorem dX3_fill_113 : decode cX3_fill 113 = .ok (.istore 4, 2) := by decide +kernel
theorem dX3_fill_115 : decode cX3_fill 115 = .ok (.iinc 6 1, 3) := by decide +kernel
theorem dX3_fill_118 : decode cX3_fill 118 = .ok (.goto (-66), 3) := by decide +kernel
theorem dX3_fill_121 : decode cX3_fill 121 = .ok (.iinc 5 1, 3) := by decide +kernel
theorem dX3_fill_124 : decode cX3_fill 124 = .ok (.goto (-87), 3) := by decide +kernel
theorem dX3_fill_127 : decode cX3_fill 127 = .ok (.aload_n 0, 1) := by decide +kernel
theorem dX3_fill_128 : decode cX3_fill 128 = .ok (.getfield 39, 3) := by decide +kernel
theorem dX3_fill_131 : decode cX3_fill 131 = .ok (.invokevirtual 50, 3) := by decide +kernel
theorem dX3_fill_134 : decode cX3_fill 134 = .ok (.iload 4, 2) := by decide +kernel
theorem dX3_fill_136 : decode cX3_fill 136 = .ok (.ireturn, 1) := by decide +kernel
theorem dX3_setForbidden_0 : decode cX3_setForbidden 0 = .ok (.aload_n 0, 1) := by decide +kernel
theorem dX3_setForbidden_1 : decode cX3_setForbidden 1 = .ok (.iload_n 1, 1) := by decide +kernel
theorem dX3_setForbidden_2 : decode cX3_setForbidden 2 = .ok (.iload_n 2, 1) := by decide +kernel
theorem dX3_setForbidden_3 : decode cX3_setForbidden 3 = .ok (.invokevirtual 53, 3) := by decide +kernel
theorem dX3_setForbidden_6 : decode cX3_setForbidden 6 = .ok (.aload_n 0, 1) := by decide +kernel
theorem dX3_setForbidden_7 : decode cX3_setForbidden 7 = .ok (.getfield 12, 3) := by decide +kernel
theorem dX3_setForbidden_10 : decode cX3_setForbidden 10 = .ok (.iload_n 1, 1) := by decide +kernel
theorem dX3_setForbidden_11 : decode cX3_setForbidden 11 = .ok (.iload_n 2, 1) := by decide +kernel
theorem dX3_setForbidden_12 : decode cX3_setForbidden 12 = .ok (.iload_n 3, 1) := by decide +kernel
theorem dX3_setForbidden_13 : decode cX3_setForbidden 13 = .ok (.invokevirtual 86, 3) := by decide +kernel
theorem dX3_setForbidden_16 : decode cX3_setForbidden 16 = .ok (.aload_n 0, 1) := by decide +kernel
theorem dX3_setForbidden_17 : decode cX3_setForbidden 17 = .ok (.getfield 39, 3) := by decide +kernel
theorem dX3_setForbidden_20 : decode cX3_setForbidden 20 = .ok (.invokevirtual 50, 3) := by decide +kernel
theorem dX3_setForbidden_23 : decode cX3_setForbidden 23 = .ok (.aload_n 0, 1) := by decide +kernel
theorem dX3_setForbidden_24 : decode cX3_setForbidden 24 = .ok (.invokevirtual 90, 3) := by decide +kernel
theorem dX3_setForbidden_27 : decode cX3_setForbidden 27 = .ok (.ireturn, 1) := by decide +kernel
theorem dX3_costAt_0 : decode cX3_costAt 0 = .ok (.aload_n 0, 1) := by decide +kernel
theorem dX3_costAt_1 : decode cX3_costAt 1 = .ok (.iload_n 1, 1) := by decide +kernel
theorem dX3_costAt_2 : decode cX3_costAt 2 = .ok (.iload_n 2, 1) := by decide +kernel
theorem dX3_costAt_3 : decode cX3_costAt 3 = .ok (.invokevirtual 94, 3) := by decide +kernel
theorem dX3_costAt_6 : decode cX3_costAt 6 = .ok (.aload_n 0, 1) := by decide +kernel
theorem dX3_costAt_7 : decode cX3_costAt 7 = .ok (.getfield 12, 3) := by decide +kernel
theorem dX3_costAt_10 : decode cX3_costAt 10 = .ok (.iload_n 1, 1) := by decide +kernel
theorem dX3_costAt_11 : decode cX3_costAt 11 = .ok (.iload_n 2, 1) := by decide +kernel
theorem dX3_costAt_12 : decode cX3_costAt 12 = .ok (.invokevirtual 97, 3) := by decide +kernel
theorem dX3_costAt_15 : decode cX3_costAt 15 = .ok (.ireturn, 1) := by decide +kernel
theorem dX3_addToRow_0 : decode cX3_addToRow 0 = .ok (.aload_n 0, 1) := by decide +kernel
theorem dX3_addToRow_1 : decode cX3_addToRow 1 = .ok (.iload_n 1, 1) := by decide +kernel
theorem dX3_addToRow_2 : decode cX3_addToRow 2 = .ok (.invokevirtual 64, 3) := by decide +kernel
theorem dX3_addToRow_5 : decode cX3_addToRow 5 = .ok (.aload_n 0, 1) := by decide +kernel
theorem dX3_addToRow_6 : decode cX3_addToRow 6 = .ok (.iload_n 2, 1) := by decide +kernel
theorem dX3_addToRow_7 : decode cX3_addToRow 7 = .ok (.invokevirtual 100, 3) := by decide +kernel
theorem dX3_addToRow_10 : decode cX3_addToRow 10 = .ok (.aload_n 0, 1) := by decide +kernel
theorem dX3_addToRow_11 : decode cX3_addToRow 11 = .ok (.invokevirtual 103, 3) := by decide +kernel
theorem dX3_addToRow_14 : decode cX3_addToRow 14 = .ok (.iconst 0, 1) := by decide +kernel
theorem dX3_addToRow_15 : decode cX3_addToRow 15 = .ok (.istore_n 3, 1) := by decide +kernel
theorem dX3_addToRow_16 : decode cX3_addToRow 16 = .ok (.iload_n 3, 1) := by decide +kernel
theorem dX3_addToRow_17 : decode cX3_addToRow 17 = .ok (.aload_n 0, 1) := by decide +kernel
theorem dX3_addToRow_18 : decode cX3_addToRow 18 = .ok (.getfield 12, 3) := by decide +kernel
theorem dX3_addToRow_21 : decode cX3_addToRow 21 = .ok (.getfield 72, 3) := by decide +kernel
theorem dX3_addToRow_24 : decode cX3_addToRow 24 = .ok (.if_icmp .ge 16, 3) := by decide +kernel
theorem dX3_addToRow_27 : decode cX3_addToRow 27 = .ok (.aload_n 0, 1) := by decide +kernel
theorem dX3_addToRow_28 : decode cX3_addToRow 28 = .ok (.iload_n 1, 1) := by decide +kernel
theorem dX3_addToRow_29 : decode cX3_addToRow 29 = .ok (.iload_n 3, 1) := by decide +kernel
theorem dX3_addToRow_30 : decode cX3_addToRow 30 = .ok (.iload_n 2, 1) := by decide +kernel
theorem dX3_addToRow_31 : decode cX3_addToRow 31 = .ok (.invokevirtual 106, 3) := by decide +kernel
theorem dX3_addToRow_34 : decode cX3_addToRow 34 = .ok (.iinc 3 1, 3) := by decide +kernel
theorem dX3_addToRow_37 : decode cX3_addToRow 37 = .ok (.goto (-21), 3) := by decide +kernel
theorem dX3_addToRow_40 : decode cX3_addToRow 40 = .ok (.iconst 0, 1) := by decide +kernel
theorem dX3_addToRow_41 : decode cX3_addToRow 41 = .ok (.istore_n 3, 1) := by decide +kernel
theorem dX3_addToRow_42 : decode cX3_addToRow 42 = .ok (.iload_n 3, 1) := by decide +kernel
theorem dX3_addToRow_43 : decode cX3_addToRow 43 = .ok (.aload_n 0, 1) := by decide +kernel
theorem dX3_addToRow_44 : decode cX3_addToRow 44 = .ok (.getfield 12, 3) := by decide +kernel
theorem dX3_addToRow_47 : decode cX3_addToRow 47 = .ok (.getfield 72, 3) := by decide +kernel
theorem dX3_addToRow_50 : decode cX3_addToRow 50 = .ok (.if_icmp .ge 29, 3) := by decide +kernel
theorem dX3_addToRow_53 : decode cX3_addToRow 53 = .ok (.aload_n 0, 1) := by decide +kernel
theorem dX3_addToRow_54 : decode cX3_addToRow 54 = .ok (.getfield 12, 3) := by decide +kernel
theorem dX3_addToRow_57 : decode cX3_addToRow 57 = .ok (.iload_n 1, 1) := by decide +kernel
theorem dX3_addToRow_58 : decode cX3_addToRow 58 = .ok (.iload_n 3, 1) := by decide +kernel
theorem dX3_addToRow_59 : decode cX3_addToRow 59 = .ok (.aload_n 0, 1) := by decide +kernel
theorem dX3_addToRow_60 : decode cX3_addToRow 60 = .ok (.getfield 12, 3) := by decide +kernel
theorem dX3_addToRow_63 : decode cX3_addToRow 63 = .ok (.iload_n 1, 1) := by decide +kernel
theorem dX3_addToRow_64 : decode cX3_addToRow 64 = .ok (.iload_n 3, 1) := by decide +kernel
theorem dX3_addToRow_65 : decode cX3_addToRow 65 = .ok (.invokevirtual 56, 3) := by decide +kernel
theorem dX3_addToRow_68 : decode cX3_addToRow 68 = .ok (.iload_n 2, 1) := by decide +kernel
theorem dX3_addToRow_69 : decode cX3_addToRow 69 = .ok (.iadd, 1) := by decide +kernel
theorem dX3_addToRow_70 : decode cX3_addToRow 70 = .ok (.invokevirtual 60, 3) := by decide +kernel
theorem dX3_addToRow_73 : decode cX3_addToRow 73 = .ok (.iinc 3 1, 3) := by decide +kernel
theorem dX3_addToRow_76 : decode cX3_addToRow 76 = .ok (.goto (-34), 3) := by decide +kernel
theorem dX3_addToRow_79 : decode cX3_addToRow 79 = .ok (.aload_n 0, 1) := by decide +kernel
theorem dX3_addToRow_80 : decode cX3_addToRow 80 = .ok (.getfield 39, 3) := by decide +kernel
theorem dX3_addToRow_83 : decode cX3_addToRow 83 = .ok (.invokevirtual 50, 3) := by decide +kernel
theorem dX3_addToRow_86 : decode cX3_addToRow 86 = .ok (.aload_n 0, 1) := by decide +kernel
theorem dX3_addToRow_87 : decode cX3_addToRow 87 = .ok (.getfield 12, 3) := by decide +kernel
theorem dX3_addToRow_90 : decode cX3_addToRow 90 = .ok (.iload_n 1, 1) := by decide +kernel
theorem dX3_addToRow_91 : decode cX3_addToRow 91 = .ok (.invokevirtual 109, 3) := by decide +kernel
theorem dX3_addToRow_94 : decode cX3_addToRow 94 = .ok (.ireturn, 1) := by decide +kernel
theorem dX3_addToColumn_0 : decode cX3_addToColumn 0 = .ok (.aload_n 0, 1) := by decide +kernel
theorem dX3_addToColumn_1 : decode cX3_addToColumn 1 = .ok (.iload_n 1, 1) := by decide +kernel
theorem dX3_addToColumn_2 : decode cX3_addToColumn 2 = .ok (.invokevirtual 113, 3) := by decide +kernel
theorem dX3_addToColumn_5 : decode cX3_addToColumn 5 = .ok (.aload_n 0, 1) := by decide +kernel
theorem dX3_addToColumn_6 : decode cX3_addToColumn 6 = .ok (.iload_n 2, 1) := by decide +kernel
theorem dX3_addToColumn_7 : decode cX3_addToColumn 7 = .ok (.invokevirtual 100, 3) := by decide +kernel
theorem dX3_addToColumn_10 : decode cX3_addToColumn 10 = .ok (.iconst 0, 1) := by decide +kernel
theorem dX3_addToColumn_11 : decode cX3_addToColumn 11 = .ok (.istore_n 3, 1) := by decide +kernel
theorem dX3_addToColumn_12 : decode cX3_addToColumn 12 = .ok (.iload_n 3, 1) := by decide +kernel
theorem dX3_addToColumn_13 : decode cX3_addToColumn 13 = .ok (.aload_n 0, 1) := by decide +kernel
theorem dX3_addToColumn_14 : decode cX3_addToColumn 14 = .ok (.getfield 12, 3) := by decide +kernel
theorem dX3_addToColumn_17 : decode cX3_addToColumn 17 = .ok (.getfield 83, 3) := by decide +kernel
theorem dX3_addToColumn_20 : decode cX3_addToColumn 20 = .ok (.if_icmp .ge 16, 3) := by decide +kernel
theorem dX3_addToColumn_23 : decode cX3_addToColumn 23 = .ok (.aload_n 0, 1) := by decide +kernel
theorem dX3_addToColumn_24 : decode cX3_addToColumn 24 = .ok (.iload_n 3, 1) := by decide +kernel
theorem dX3_addToColumn_25 : decode cX3_addToColumn 25 = .ok (.iload_n 1, 1) := by decide +kernel
theorem dX3_addToColumn_26 : decode cX3_addToColumn 26 = .ok (.iload_n 2, 1) := by decide +kernel
theorem dX3_addToColumn_27 : decode cX3_addToColumn 27 = .ok (.invokevirtual 106, 3) := by decide +kernel
theorem dX3_addToColumn_30 : decode cX3_addToColumn 30 = .ok (.iinc 3 1, 3) := by decide +kernel
theorem dX3_addToColumn_33 : decode cX3_addToColumn 33 = .ok (.goto (-21), 3) := by decide +kernel
theorem dX3_addToColumn_36 : decode cX3_addToColumn 36 = .ok (.iconst 0, 1) := by decide +kernel
theorem dX3_addToColumn_37 : decode cX3_addToColumn 37 = .ok (.istore_n 3, 1) := by decide +kernel
theorem dX3_addToColumn_38 : decode cX3_addToColumn 38 = .ok (.iload_n 3, 1) := by decide +kernel
theorem dX3_addToColumn_39 : decode cX3_addToColumn 39 = .ok (.aload_n 0, 1) := by decide +kernel
theorem dX3_addToColumn_40 : decode cX3_addToColumn 40 = .ok (.getfield 12, 3) := by decide +kernel
theorem dX3_addToColumn_43 : decode cX3_addToColumn 43 = .ok (.getfield 83, 3) := by decide +kernel
theorem dX3_addToColumn_46 : decode cX3_addToColumn 46 = .ok (.if_icmp .ge 29, 3) := by decide +kernel
theorem dX3_addToColumn_49 : decode cX3_addToColumn 49 = .ok (.aload_n 0, 1) := by decide +kernel
theorem dX3_addToColumn_50 : decode cX3_addToColumn 50 = .ok (.getfield 12, 3) := by decide +kernel
theorem dX3_addToColumn_53 : decode cX3_addToColumn 53 = .ok (.iload_n 3, 1) := by decide +kernel
theorem dX3_addToColumn_54 : decode cX3_addToColumn 54 = .ok (.iload_n 1, 1) := by decide +kernel
theorem dX3_addToColumn_55 : decode cX3_addToColumn 55 = .ok (.aload_n 0, 1) := by decide +kernel
theorem dX3_addToColumn_56 : decode cX3_addToColumn 56 = .ok (.getfield 12, 3) := by decide +kernel
theorem dX3_addToColumn_59 : decode cX3_addToColumn 59 = .ok (.iload_n 3, 1) := by decide +kernel
theorem dX3_addToColumn_60 : decode cX3_addToColumn 60 = .ok (.iload_n 1, 1) := by decide +kernel
theorem dX3_addToColumn_61 : decode cX3_addToColumn 61 = .ok (.invokevirtual 56, 3) := by decide +kernel
theorem dX3_addToColumn_64 : decode cX3_addToColumn 64 = .ok (.iload_n 2, 1) := by decide +kernel
theorem dX3_addToColumn_65 : decode cX3_addToColumn 65 = .ok (.iadd, 1) := by decide +kernel
theorem dX3_addToColumn_66 : decode cX3_addToColumn 66 = .ok (.invokevirtual 60, 3) := by decide +kernel
theorem dX3_addToColumn_69 : decode cX3_addToColumn 69 = .ok (.iinc 3 1, 3) := by decide +kernel
theorem dX3_addToColumn_72 : decode cX3_addToColumn 72 = .ok (.goto (-34), 3) := by decide +kernel
theorem dX3_addToColumn_75 : decode cX3_addToColumn 75 = .ok (.aload_n 0, 1) := by decide +kernel
theorem dX3_addToColumn_76 : decode cX3_addToColumn 76 = .ok (.getfield 39, 3) := by decide +kernel
theorem dX3_addToColumn_79 : decode cX3_addToColumn 79 = .ok (.invokevirtual 50, 3) := by decide +kernel
theorem dX3_addToColumn_82 : decode cX3_addToColumn 82 = .ok (.aload_n 0, 1) := by decide +kernel
theorem dX3_addToColumn_83 : decode cX3_addToColumn 83 = .ok (.getfield 12, 3) := by decide +kernel
theorem dX3_addToColumn_86 : decode cX3_addToColumn 86 = .ok (.iload_n 1, 1) := by decide +kernel
theorem dX3_addToColumn_87 : decode cX3_addToColumn 87 = .ok (.invokevirtual 116, 3) := by decide +kernel
theorem dX3_addToColumn_90 : decode cX3_addToColumn 90 = .ok (.ireturn, 1) := by decide +kernel
theorem dX3_swapRows_0 : decode cX3_swapRows 0 = .ok (.aload_n 0, 1) := by decide +kernel
theorem dX3_swapRows_1 : decode cX3_swapRows 1 = .ok (.iload_n 1, 1) := by decide +kernel
theorem dX3_swapRows_2 : decode cX3_swapRows 2 = .ok (.invokevirtual 64, 3) := by decide +kernel
theorem dX3_swapRows_5 : decode cX3_swapRows 5 = .ok (.aload_n 0, 1) := by decide +kernel
theorem dX3_swapRows_6 : decode cX3_swapRows 6 = .ok (.iload_n 2, 1) := by decide +kernel
theorem dX3_swapRows_7 : decode cX3_swapRows 7 = .ok (.invokevirtual 64, 3) := by decide +kernel
theorem dX3_swapRows_10 : decode cX3_swapRows 10 = .ok (.iconst 0, 1) := by decide +kernel
theorem dX3_swapRows_11 : decode cX3_swapRows 11 = .ok (.istore_n 3, 1) := by decide +kernel
theorem dX3_swapRows_12 : decode cX3_swapRows 12 = .ok (.iload_n 3, 1) := by decide +kernel
theorem dX3_swapRows_13 : decode cX3_swapRows 13 = .ok (.aload_n 0, 1) := by decide +kernel
theorem dX3_swapRows_14 : decode cX3_swapRows 14 = .ok (.getfield 12, 3) := by decide +kernel
theorem dX3_swapRows_17 : decode cX3_swapRows 17 = .ok (.getfield 72, 3) := by decide +kernel
theorem dX3_swapRows_20 : decode cX3_swapRows 20 = .ok (.if_icmp .ge 20, 3) := by decide +kernel
theorem dX3_swapRows_23 : decode cX3_swapRows 23 = .ok (.aload_n 0, 1) := by decide +kernel
theorem dX3_swapRows_24 : decode cX3_swapRows 24 = .ok (.getfield 12, 3) := by decide +kernel
theorem dX3_swapRows_27 : decode cX3_swapRows 27 = .ok (.iload_n 1, 1) := by decide +kernel
theorem dX3_swapRows_28 : decode cX3_swapRows 28 = .ok (.iload_n 3, 1) := by decide +kernel
theorem dX3_swapRows_29 : decode cX3_swapRows 29 = .ok (.iload_n 2, 1) := by decide +kernel
theorem dX3_swapRows_30 : decode cX3_swapRows 30 = .ok (.iload_n 3, 1) := by decide +kernel
theorem dX3_swapRows_31 : decode cX3_swapRows 31 = .ok (.invokevirtual 119, 3) := by decide +kernel
theorem dX3_swapRows_34 : decode cX3_swapRows 34 = .ok (.iinc 3 1, 3) := by decide +kernel
theorem dX3_swapRows_37 : decode cX3_swapRows 37 = .ok (.goto (-25), 3) := by decide +kernel
theorem dX3_swapRows_40 : decode cX3_swapRows 40 = .ok (.aload_n 0, 1) := by decide +kernel
theorem dX3_swapRows_41 : decode cX3_swapRows 41 = .ok (.getfield 39, 3) := by decide +kernel
theorem dX3_swapRows_44 : decode cX3_swapRows 44 = .ok (.invokevirtual 50, 3) := by decide +kernel
theorem dX3_swapRows_47 : decode cX3_swapRows 47 = .ok (.aload_n 0, 1) := by decide +kernel
theorem dX3_swapRows_48 : decode cX3_swapRows 48 = .ok (.getfield 12, 3) := by decide +kernel
theorem dX3_swapRows_51 : decode cX3_swapRows 51 = .ok (.iload_n 1, 1) := by decide +kernel
theorem dX3_swapRows_52 : decode cX3_swapRows 52 = .ok (.invokevirtual 109, 3) := by decide +kernel
theorem dX3_swapRows_55 : decode cX3_swapRows 55 = .ok (.ireturn, 1) := by decide +kernel
theorem dX3_swapColumns_0 : decode cX3_swapColumns 0 = .ok (.aload_n 0, 1) := by decide +kernel
theorem dX3_swapColumns_1 : decode cX3_swapColumns 1 = .ok (.iload_n 1, 1) := by decide +kernel
theorem dX3_swapColumns_2 : decode cX3_swapColumns 2 = .ok (.invokevirtual 113, 3) := by decide +kernel
theorem dX3_swapColumns_5 : decode cX3_swapColumns 5 = .ok (.aload_n 0, 1) := by decide +kernel
theorem dX3_swapColumns_6 : decode cX3_swapColumns 6 = .ok (.iload_n 2, 1) := by decide +kernel
theorem dX3_swapColumns_7 : decode cX3_swapColumns 7 = .ok (.invokevirtual 113, 3) := by decide +kernel
theorem dX3_swapColumns_10 : decode cX3_swapColumns 10 = .ok (.iconst 0, 1) := by decide +kernel
theorem dX3_swapColumns_11 : decode cX3_swapColumns 11 = .ok (.istore_n 3, 1) := by decide +kernel
theorem dX3_swapColumns_12 : decode cX3_swapColumns 12 = .ok (.iload_n 3, 1) := by decide +kernel
theorem dX3_swapColumns_13 : decode cX3_swapColumns 13 = .ok (.aload_n 0, 1) := by decide +kernel
theorem dX3_swapColumns_14 : decode cX3_swapColumns 14 = .ok (.getfield 12, 3) := by decide +kernel
theorem dX3_swapColumns_17 : decode cX3_swapColumns 17 = .ok (.getfield 83, 3) := by decide +kernel
theorem dX3_swapColumns_20 : decode cX3_swapColumns 20 = .ok (.if_icmp .ge 20, 3) := by decide +kernel
theorem dX3_swapColumns_23 : decode cX3_swapColumns 23 = .ok (.aload_n 0, 1) := by decide +kernel
theorem dX3_swapColumns_24 : decode cX3_swapColumns 24 = .ok (.getfield 12, 3) := by decide +kernel
theorem dX3_swapColumns_27 : decode cX3_swapColumns 27 = .ok (.iload_n 3, 1) := by decide +kernel
theorem dX3_swapColumns_28 : decode cX3_swapColumns 28 = .ok (.iload_n 1, 1) := by decide +kernel
theorem dX3_swapColumns_29 : decode cX3_swapColumns 29 = .ok (.iload_n 3, 1) := by decide +kernel
theorem dX3_swapColumns_30 : decode cX3_swapColumns 30 = .ok (.iload_n 2, 1) := by decide +kernel
theorem dX3_swapColumns_31 : decode cX3_swapColumns 31 = .ok (.invokevirtual 119, 3) := by decide +kernel
theorem dX3_swapColumns_34 : decode cX3_swapColumns 34 = .ok (.iinc 3 1, 3) := by decide +kernel
theorem dX3_swapColumns_37 : decode cX3_swapColumns 37 = .ok (.goto (-25), 3) := by decide +kernel
theorem dX3_swapColumns_40 : decode cX3_swapColumns 40 = .ok (.aload_n 0, 1) := by decide +kernel
theorem dX3_swapColumns_41 : decode cX3_swapColumns 41 = .ok (.getfield 39, 3) := by decide +kernel
theorem dX3_swapColumns_44 : decode cX3_swapColumns 44 = .ok (.invokevirtual 50, 3) := by decide +kernel
theorem dX3_swapColumns_47 : decode cX3_swapColumns 47 = .ok (.aload_n 0, 1) := by decide +kernel
theorem dX3_swapColumns_48 : decode cX3_swapColumns 48 = .ok (.getfield 12, 3) := by decide +kernel
theorem dX3_swapColumns_51 : decode cX3_swapColumns 51 = .ok (.iload_n 1, 1) := by decide +kernel
theorem dX3_swapColumns_52 : decode cX3_swapColumns 52 = .ok (.invokevirtual 116, 3) := by decide +kernel
theorem dX3_swapColumns_55 : decode cX3_swapColumns 55 = .ok (.ireturn, 1) := by decide +kernel
theorem dX3_transpose_0 : decode cX3_transpose 0 = .ok (.aload_n 0, 1) := by decide +kernel
theorem dX3_transpose_1 : decode cX3_transpose 1 = .ok (.invokevirtual 103, 3) := by decide +kernel
theorem dX3_transpose_4 : decode cX3_transpose 4 = .ok (.iconst 0, 1) := by decide +kernel
theorem dX3_transpose_5 : decode cX3_transpose 5 = .ok (.istore_n 1, 1) := by decide +kernel
theorem dX3_transpose_6 : decode cX3_transpose 6 = .ok (.iload_n 1, 1) := by decide +kernel
theorem dX3_transpose_7 : decode cX3_transpose 7 = .ok (.aload_n 0, 1) := by decide +kernel
theorem dX3_transpose_8 : decode cX3_transpose 8 = .ok (.getfield 12, 3) := by decide +kernel
theorem dX3_transpose_11 : decode cX3_transpose 11 = .ok (.getfield 83, 3) := by decide +kernel
theorem dX3_transpose_14 : decode cX3_transpose 14 = .ok (.if_icmp .ge 33, 3) := by decide +kernel
theorem dX3_transpose_17 : decode cX3_transpose 17 = .ok (.iconst 0, 1) := by decide +kernel
theorem dX3_transpose_18 : decode cX3_transpose 18 = .ok (.istore_n 2, 1) := by decide +kernel
theorem dX3_transpose_19 : decode cX3_transpose 19 = .ok (.iload_n 2, 1) := by decide +kernel
theorem dX3_transpose_20 : decode cX3_transpose 20 = .ok (.iload_n 1, 1) := by decide +kernel
theorem dX3_transpose_21 : decode cX3_transpose 21 = .ok (.if_icmp .ge 20, 3) := by decide +kernel
theorem dX3_transpose_24 : decode cX3_transpose 24 = .ok (.aload_n 0, 1) := by decide +kernel
theorem dX3_transpose_25 : decode cX3_transpose 25 = .ok (.getfield 12, 3) := by decide +kernel
theorem dX3_transpose_28 : decode cX3_transpose 28 = .ok (.iload_n 1, 1) := by decide +kernel
theorem dX3_transpose_29 : decode cX3_transpose 29 = .ok (.iload_n 2, 1) := by decide +kernel
theorem dX3_transpose_30 : decode cX3_transpose 30 = .ok (.iload_n 2, 1) := by decide +kernel
theorem dX3_transpose_31 : decode cX3_transpose 31 = .ok (.iload_n 1, 1) := by decide +kernel
theorem dX3_transpose_32 : decode cX3_transpose 32 = .ok (.invokevirtual 119, 3) := by decide +kernel
theorem dX3_transpose_35 : decode cX3_transpose 35 = .ok (.iinc 2 1, 3) := by decide +kernel
theorem dX3_transpose_38 : decode cX3_transpose 38 = .ok (.goto (-19), 3) := by decide +kernel
theorem dX3_transpose_41 : decode cX3_transpose 41 = .ok (.iinc 1 1, 3) := by decide +kernel
theorem dX3_transpose_44 : decode cX3_transpose 44 = .ok (.goto (-38), 3) := by decide +kernel
theorem dX3_transpose_47 : decode cX3_transpose 47 = .ok (.aload_n 0, 1) := by decide +kernel
theorem dX3_transpose_48 : decode cX3_transpose 48 = .ok (.getfield 39, 3) := by decide +kernel
theorem dX3_transpose_51 : decode cX3_transpose 51 = .ok (.invokevirtual 50, 3) := by decide +kernel
theorem dX3_transpose_54 : decode cX3_transpose 54 = .ok (.aload_n 0, 1) := by decide +kernel
theorem dX3_transpose_55 : decode cX3_transpose 55 = .ok (.getfield 12, 3) := by decide +kernel
theorem dX3_transpose_58 : decode cX3_transpose 58 = .ok (.getfield 83, 3) := by decide +kernel
theorem dX3_transpose_61 : decode cX3_transpose 61 = .ok (.ireturn, 1) := by decide +kernel
theorem dX3_save_0 : decode cX3_save 0 = .ok (.aload_n 0, 1) := by decide +kernel
theorem dX3_save_1 : decode cX3_save 1 = .ok (.getfield 16, 3) := by decide +kernel
theorem dX3_save_4 : decode cX3_save 4 = .ok (.aload_n 0, 1) := by decide +kernel
theorem dX3_save_5 : decode cX3_save 5 = .ok (.getfield 12, 3) := by decide +kernel
theorem dX3_save_8 : decode cX3_save 8 = .ok (.invokevirtual 123, 3) := by decide +kernel
theorem dX3_save_11 : decode cX3_save 11 = .ok (.aload_n 0, 1) := by decide +kernel
theorem dX3_save_12 : decode cX3_save 12 = .ok (.invokevirtual 127, 3) := by decide +kernel
theorem dX3_save_15 : decode cX3_save 15 = .ok (.ireturn, 1) := by decide +kernel
theorem dX3_restore_0 : decode cX3_restore 0 = .ok (.aload_n 0, 1) := by decide +kernel
theorem dX3_restore_1 : decode cX3_restore 1 = .ok (.getfield 12, 3) := by decide +kernel
theorem dX3_restore_4 : decode cX3_restore 4 = .ok (.aload_n 0, 1) := by decide +kernel
theorem dX3_restore_5 : decode cX3_restore 5 = .ok (.getfield 16, 3) := by decide +kernel
theorem dX3_restore_8 : decode cX3_restore 8 = .ok (.invokevirtual 123, 3) := by decide +kernel
theorem dX3_restore_11 : decode cX3_restore 11 = .ok (.aload_n 0, 1) := by decide +kernel
theorem dX3_restore_12 : decode cX3_restore 12 = .ok (.getfield 39, 3) := by decide +kernel
theorem dX3_restore_15 : decode cX3_restore 15 = .ok (.invokevirtual 50, 3) := by decide +kernel
theorem dX3_restore_18 : decode cX3_restore 18 = .ok (.aload_n 0, 1) := by decide +kernel
theorem dX3_restore_19 : decode cX3_restore 19 = .ok (.getfield 12, 3) := by decide +kernel
theorem dX3_restore_22 : decode cX3_restore 22 = .ok (.getfield 83, 3) := by decide +kernel
theorem dX3_restore_25 : decode cX3_restore 25 = .ok (.ireturn, 1) := by decide +kernel
theorem dX3_distance_0 : decode cX3_distance 0 = .ok (.aload_n 0, 1) := by decide +kernel
theorem dX3_distance_1 : decode cX3_distance 1 = .ok (.getfield 12, 3) := by decide +kernel
theorem dX3_distance_4 : decode cX3_distance 4 = .ok (.getfield 83, 3) := by decide +kernel
theorem dX3_distance_7 : decode cX3_distance 7 = .ok (.aload_n 0, 1) := by decide +kernel
theorem dX3_distance_8 : decode cX3_distance 8 = .ok (.getfield 16, 3) := by decide +kernel
theorem dX3_distance_11 : decode cX3_distance 11 = .ok (.getfield 83, 3) := by decide +kernel
theorem dX3_distance_14 : decode cX3_distance 14 = .ok (.if_icmp .ne 20, 3) := by decide +kernel
theorem dX3_distance_17 : decode cX3_distance 17 = .ok (.aload_n 0, 1) := by decide +kernel
theorem dX3_distance_18 : decode cX3_distance 18 = .ok (.getfield 12, 3) := by decide +kernel
theorem dX3_distance_21 : decode cX3_distance 21 = .ok (.getfield 72, 3) := by decide +kernel
theorem dX3_distance_24 : decode cX3_distance 24 = .ok (.aload_n 0, 1) := by decide +kernel
theorem dX3_distance_25 : decode cX3_distance 25 = .ok (.getfield 16, 3) := by decide +kernel
theorem dX3_distance_28 : decode cX3_distance 28 = .ok (.getfield 72, 3) := by decide +kernel
theorem dX3_distance_31 : decode cX3_distance 31 = .ok (.if_icmp .eq 5, 3) := by decide +kernel
theorem dX3_distance_34 : decode cX3_distance 34 = .ok (.iconst (-1), 1) := by decide +kernel
theorem dX3_distance_35 : decode cX3_distance 35 = .ok (.ireturn, 1) := by decide +kernel
theorem dX3_distance_36 : decode cX3_distance 36 = .ok (.iconst 0, 1) := by decide +kernel
theorem dX3_distance_37 : decode cX3_distance 37 = .ok (.istore_n 1, 1) := by decide +kernel
theorem dX3_distance_38 : decode cX3_distance 38 = .ok (.iconst 0, 1) := by decide +kernel
theorem dX3_distance_39 : decode cX3_distance 39 = .ok (.istore_n 2, 1) := by decide +kernel
theorem dX3_distance_40 : decode cX3_distance 40 = .ok (.iload_n 2, 1) := by decide +kernel
theorem dX3_distance_41 : decode cX3_distance 41 = .ok (.aload_n 0, 1) := by decide +kernel
theorem dX3_distance_42 : decode cX3_distance 42 = .ok (.getfield 12, 3) := by decide +kernel
theorem dX3_distance_45 : decode cX3_distance 45 = .ok (.getfield 83, 3) := by decide +kernel
theorem dX3_distance_48 : decode cX3_distance 48 = .ok (.if_icmp .ge 53, 3) := by decide +kernel
theorem dX3_distance_51 : decode cX3_distance 51 = .ok (.iconst 0, 1) := by decide +kernel
theorem dX3_distance_52 : decode cX3_distance 52 = .ok (.istore_n 3, 1) := by decide +kernel
theorem dX3_distance_53 : decode cX3_distance 53 = .ok (.iload_n 3, 1) := by decide +kernel
theorem dX3_distance_54 : decode cX3_distance 54 = .ok (.aload_n 0, 1) := by decide +kernel
theorem dX3_distance_55 : decode cX3_distance 55 = .ok (.getfield 12, 3) := by decide +kernel
theorem dX3_distance_58 : decode cX3_distance 58 = .ok (.getfield 83, 3) := by decide +kernel
theorem dX3_distance_61 : decode cX3_distance 61 = .ok (.if_icmp .ge 34, 3) := by decide +kernel
theorem dX3_distance_64 : decode cX3_distance 64 = .ok (.iload_n 1, 1) := by decide +kernel
theorem dX3_distance_65 : decode cX3_distance 65 = .ok (.aload_n 0, 1) := by decide +kernel
theorem dX3_distance_66 : decode cX3_distance 66 = .ok (.getfield 12, 3) := by decide +kernel
theorem dX3_distance_69 : decode cX3_distance 69 = .ok (.iload_n 2, 1) := by decide +kernel
theorem dX3_distance_70 : decode cX3_distance 70 = .ok (.iload_n 3, 1) := by decide +kernel
theorem dX3_distance_71 : decode cX3_distance 71 = .ok (.invokevirtual 97, 3) := by decide +kernel
theorem dX3_distance_74 : decode cX3_distance 74 = .ok (.aload_n 0, 1) := by decide +kernel
theorem dX3_distance_75 : decode cX3_distance 75 = .ok (.getfield 16, 3) := by decide +kernel
theorem dX3_distance_78 : decode cX3_distance 78 = .ok (.iload_n 2, 1) := by decide +kernel
theorem dX3_distance_79 : decode cX3_distance 79 = .ok (.iload_n 3, 1) := by decide +kernel
theorem dX3_distance_80 : decode cX3_distance 80 = .ok (.invokevirtual 97, 3) := by decide +kernel
theorem dX3_distance_83 : decode cX3_distance 83 = .ok (.isub, 1) := by decide +kernel
theorem dX3_distance_84 : decode cX3_distance 84 = .ok (.invokestatic 130, 3) := by decide +kernel
theorem dX3_distance_87 : decode cX3_distance 87 = .ok (.iadd, 1) := by decide +kernel
theorem dX3_distance_88 : decode cX3_distance 88 = .ok (.istore_n 1, 1) := by decide +kernel
theorem dX3_distance_89 : decode cX3_distance 89 = .ok (.iinc 3 1, 3) := by decide +kernel
theorem dX3_distance_92 : decode cX3_distance 92 = .ok (.goto (-39), 3) := by decide +kernel
theorem dX3_distance_95 : decode cX3_distance 95 = .ok (.iinc 2 1, 3) := by decide +kernel
theorem dX3_distance_98 : decode cX3_distance 98 = .ok (.goto (-58), 3) := by decide +kernel
theorem dX3_distance_101 : decode cX3_distance 101 = .ok (.iload_n 1, 1) := by decide +kernel
theorem dX3_distance_102 : decode cX3_distance 102 = .ok (.ireturn, 1) := by decide +kernel
theorem dX3_rows_0 : decode cX3_rows 0 = .ok (.aload_n 0, 1) := by decide +kernel
theorem dX3_rows_1 : decode cX3_rows 1 = .ok (.getfield 12, 3) := by decide +kernel
theorem dX3_rows_4 : decode cX3_rows 4 = .ok (.getfield 83, 3) := by decide +kernel
theorem dX3_rows_7 : decode cX3_rows 7 = .ok (.ireturn, 1) := by decide +kernel
theorem dX3_columns_0 : decode cX3_columns 0 = .ok (.aload_n 0, 1) := by decide +kernel
theorem dX3_columns_1 : decode cX3_columns 1 = .ok (.getfield 12, 3) := by decide +kernel
theorem dX3_columns_4 : decode cX3_columns 4 = .ok (.getfield 72, 3) := by decide +kernel
theorem dX3_columns_7 : decode cX3_columns 7 = .ok (.ireturn, 1) := by decide +kernel
theorem dX3_forbiddenCount_0 : decode cX3_forbiddenCount 0 = .ok (.iconst 0, 1) := by decide +kernel
theorem dX3_forbiddenCount_1 : decode cX3_forbiddenCount 1 = .ok (.istore_n 1, 1) := by decide +kernel
theorem dX3_forbiddenCount_2 : decode cX3_forbiddenCount 2 = .ok (.iconst 0, 1) := by decide +kernel
theorem dX3_forbiddenCount_3 : decode cX3_forbiddenCount 3 = .ok (.istore_n 2, 1) := by decide +kernel
theorem dX3_forbiddenCount_4 : decode cX3_forbiddenCount 4 = .ok (.iload_n 2, 1) := by decide +kernel
theorem dX3_forbiddenCount_5 : decode cX3_forbiddenCount 5 = .ok (.aload_n 0, 1) := by decide +kernel
theorem dX3_forbiddenCount_6 : decode cX3_forbiddenCount 6 = .ok (.getfield 12, 3) := by decide +kernel
theorem dX3_forbiddenCount_9 : decode cX3_forbiddenCount 9 = .ok (.getfield 83, 3) := by decide +kernel
theorem dX3_forbiddenCount_12 : decode cX3_forbiddenCount 12 = .ok (.if_icmp .ge 43, 3) := by decide +kernel
theorem dX3_forbiddenCount_15 : decode cX3_forbiddenCount 15 = .ok (.iconst 0, 1) := by decide +kernel
theorem dX3_forbiddenCount_16 : decode cX3_forbiddenCount 16 = .ok (.istore_n 3, 1) := by decide +kernel
theorem dX3_forbiddenCount_17 : decode cX3_forbiddenCount 17 = .ok (.iload_n 3, 1) := by decide +kernel
theorem dX3_forbiddenCount_18 : decode cX3_forbiddenCount 18 = .ok (.aload_n 0, 1) := by decide +kernel
theorem dX3_forbiddenCount_19 : decode cX3_forbiddenCount 19 = .ok (.getfield 12, 3) := by decide +kernel
theorem dX3_forbiddenCount_22 : decode cX3_forbiddenCount 22 = .ok (.getfield 72, 3) := by decide +kernel
theorem dX3_forbiddenCount_25 : decode cX3_forbiddenCount 25 = .ok (.if_icmp .ge 24, 3) := by decide +kernel
theorem dX3_forbiddenCount_28 : decode cX3_forbiddenCount 28 = .ok (.aload_n 0, 1) := by decide +kernel
theorem dX3_forbiddenCount_29 : decode cX3_forbiddenCount 29 = .ok (.getfield 12, 3) := by decide +kernel
theorem dX3_forbiddenCount_32 : decode cX3_forbiddenCount 32 = .ok (.iload_n 2, 1) := by decide +kernel
theorem dX3_forbiddenCount_33 : decode cX3_forbiddenCount 33 = .ok (.iload_n 3, 1) := by decide +kernel
theorem dX3_forbiddenCount_34 : decode cX3_forbiddenCount 34 = .ok (.invokevirtual 133, 3) := by decide +kernel
theorem dX3_forbiddenCount_37 : decode cX3_forbiddenCount 37 = .ok (.ifCond .eq 6, 3) := by decide +kernel
theorem dX3_forbiddenCount_40 : decode cX3_forbiddenCount 40 = .ok (.iinc 1 1, 3) := by decide +kernel
theorem dX3_forbiddenCount_43 : decode cX3_forbiddenCount 43 = .ok (.iinc 3 1, 3) := by decide +kernel
theorem dX3_forbiddenCount_46 : decode cX3_forbiddenCount 46 = .ok (.goto (-29), 3) := by decide +kernel
theorem dX3_forbiddenCount_49 : decode cX3_forbiddenCount 49 = .ok (.iinc 2 1, 3) := by decide +kernel
theorem dX3_forbiddenCount_52 : decode cX3_forbiddenCount 52 = .ok (.goto (-48), 3) := by decide +kernel
theorem dX3_forbiddenCount_55 : decode cX3_forbiddenCount 55 = .ok (.iload_n 1, 1) := by decide +kernel
theorem dX3_forbiddenCount_56 : decode cX3_forbiddenCount 56 = .ok (.ireturn, 1) := by decide +kernel
theorem dX3_totalCost_0 : decode cX3_totalCost 0 = .ok (.iconst 0, 1) := by decide +kernel
theorem dX3_totalCost_1 : decode cX3_totalCost 1 = .ok (.istore_n 1, 1) := by decide +kernel
theorem dX3_totalCost_2 : decode cX3_totalCost 2 = .ok (.iconst 0, 1) := by decide +kernel
theorem dX3_totalCost_3 : decode cX3_totalCost 3 = .ok (.istore_n 2, 1) := by decide +kernel
theorem dX3_totalCost_4 : decode cX3_totalCost 4 = .ok (.iload_n 2, 1) := by decide +kernel
theorem dX3_totalCost_5 : decode cX3_totalCost 5 = .ok (.aload_n 0, 1) := by decide +kernel
theorem dX3_totalCost_6 : decode cX3_totalCost 6 = .ok (.getfield 12, 3) := by decide +kernel
theorem dX3_totalCost_9 : decode cX3_totalCost 9 = .ok (.getfield 83, 3) := by decide +kernel
theorem dX3_totalCost_12 : decode cX3_totalCost 12 = .ok (.if_icmp .ge 20, 3) := by decide +kernel
theorem dX3_totalCost_15 : decode cX3_totalCost 15 = .ok (.iload_n 1, 1) := by decide +kernel
theorem dX3_totalCost_16 : decode cX3_totalCost 16 = .ok (.aload_n 0, 1) := by decide +kernel
theorem dX3_totalCost_17 : decode cX3_totalCost 17 = .ok (.getfield 12, 3) := by decide +kernel
theorem dX3_totalCost_20 : decode cX3_totalCost 20 = .ok (.iload_n 2, 1) := by decide +kernel
theorem dX3_totalCost_21 : decode cX3_totalCost 21 = .ok (.invokevirtual 109, 3) := by decide +kernel
theorem dX3_totalCost_24 : decode cX3_totalCost 24 = .ok (.iadd, 1) := by decide +kernel
theorem dX3_totalCost_25 : decode cX3_totalCost 25 = .ok (.istore_n 1, 1) := by decide +kernel
theorem dX3_totalCost_26 : decode cX3_totalCost 26 = .ok (.iinc 2 1, 3) := by decide +kernel
theorem dX3_totalCost_29 : decode cX3_totalCost 29 = .ok (.goto (-25), 3) := by decide +kernel
theorem dX3_totalCost_32 : decode cX3_totalCost 32 = .ok (.iload_n 1, 1) := by decide +kernel
theorem dX3_totalCost_33 : decode cX3_totalCost 33 = .ok (.ireturn, 1) := by decide +kernel
theorem dX3_minimum_0 : decode cX3_minimum 0 = .ok (.aload_n 0, 1) := by decide +kernel
theorem dX3_minimum_1 : decode cX3_minimum 1 = .ok (.getfield 22, 3) := by decide +kernel
theorem dX3_minimum_4 : decode cX3_minimum 4 = .ok (.aload_n 0, 1) := by decide +kernel
theorem dX3_minimum_5 : decode cX3_minimum 5 = .ok (.getfield 12, 3) := by decide +kernel
theorem dX3_minimum_8 : decode cX3_minimum 8 = .ok (.invokevirtual 137, 3) := by decide +kernel
theorem dX3_minimum_11 : decode cX3_minimum 11 = .ok (.aload_n 0, 1) := by decide +kernel
theorem dX3_minimum_12 : decode cX3_minimum 12 = .ok (.getfield 22, 3) := by decide +kernel
theorem dX3_minimum_15 : decode cX3_minimum 15 = .ok (.invokevirtual 140, 3) := by decide +kernel
theorem dX3_minimum_18 : decode cX3_minimum 18 = .ok (.ireturn, 1) := by decide +kernel
theorem dX3_savedMinimum_0 : decode cX3_savedMinimum 0 = .ok (.aload_n 0, 1) := by decide +kernel
theorem dX3_savedMinimum_1 : decode cX3_savedMinimum 1 = .ok (.getfield 22, 3) := by decide +kernel
theorem dX3_savedMinimum_4 : decode cX3_savedMinimum 4 = .ok (.aload_n 0, 1) := by decide +kernel
theorem dX3_savedMinimum_5 : decode cX3_savedMinimum 5 = .ok (.getfield 16, 3) := by decide +kernel
theorem dX3_savedMinimum_8 : decode cX3_savedMinimum 8 = .ok (.invokevirtual 137, 3) := by decide +kernel
theorem dX3_savedMinimum_11 : decode cX3_savedMinimum 11 = .ok (.aload_n 0, 1) := by decide +kernel
theorem dX3_savedMinimum_12 : decode cX3_savedMinimum 12 = .ok (.getfield 22, 3) := by decide +kernel
theorem dX3_savedMinimum_15 : decode cX3_savedMinimum 15 = .ok (.invokevirtual 140, 3) := by decide +kernel
theorem dX3_savedMinimum_18 : decode cX3_savedMinimum 18 = .ok (.ireturn, 1) := by decide +kernel
theorem dX3_assigned_0 : decode cX3_assigned 0 = .ok (.aload_n 0, 1) := by decide +kernel
theorem dX3_assigned_1 : decode cX3_assigned 1 = .ok (.iload_n 1, 1) := by decide +kernel
theorem dX3_assigned_2 : decode cX3_assigned 2 = .ok (.invokevirtual 64, 3) := by decide +kernel
theorem dX3_assigned_5 : decode cX3_assigned 5 = .ok (.aload_n 0, 1) := by decide +kernel
theorem dX3_assigned_6 : decode cX3_assigned 6 = .ok (.invokevirtual 143, 3) := by decide +kernel
theorem dX3_assigned_9 : decode cX3_assigned 9 = .ok (.aload_n 0, 1) := by decide +kernel
theorem dX3_assigned_10 : decode cX3_assigned 10 = .ok (.getfield 33, 3) := by decide +kernel
theorem dX3_assigned_13 : decode cX3_assigned 13 = .ok (.iload_n 1, 1) := by decide +kernel
theorem dX3_assigned_14 : decode cX3_assigned 14 = .ok (.iaload, 1) := by decide +kernel
theorem dX3_assigned_15 : decode cX3_assigned 15 = .ok (.ireturn, 1) := by decide +kernel
theorem dX3_optimalCount_0 : decode cX3_optimalCount 0 = .ok (.aload_n 0, 1) := by decide +kernel
theorem dX3_optimalCount_1 : decode cX3_optimalCount 1 = .ok (.getfield 22, 3) := by decide +kernel
theorem dX3_optimalCount_4 : decode cX3_optimalCount 4 = .ok (.aload_n 0, 1) := by decide +kernel
theorem dX3_optimalCount_5 : decode cX3_optimalCount 5 = .ok (.getfield 12, 3) := by decide +kernel
theorem dX3_optimalCount_8 : decode cX3_optimalCount 8 = .ok (.invokevirtual 137, 3) := by decide +kernel
theorem dX3_optimalCount_11 : decode cX3_optimalCount 11 = .ok (.aload_n 0, 1) := by decide +kernel
theorem dX3_optimalCount_12 : decode cX3_optimalCount 12 = .ok (.getfield 22, 3) := by decide +kernel
theorem dX3_optimalCount_15 : decode cX3_optimalCount 15 = .ok (.invokevirtual 140, 3) := by decide +kernel
theorem dX3_optimalCount_18 : decode cX3_optimalCount 18 = .ok (.pop, 1) := by decide +kernel
theorem dX3_optimalCount_19 : decode cX3_optimalCount 19 = .ok (.aload_n 0, 1) := by decide +kernel
theorem dX3_optimalCount_20 : decode cX3_optimalCount 20 = .ok (.getfield 22, 3) := by decide +kernel
theorem dX3_optimalCount_23 : decode cX3_optimalCount 23 = .ok (.invokevirtual 146, 3) := by decide +kernel
theorem dX3_optimalCount_26 : decode cX3_optimalCount 26 = .ok (.ireturn, 1) := by decide +kernel
theorem dX3_rowPotential_0 : decode cX3_rowPotential 0 = .ok (.aload_n 0, 1) := by decide +kernel
theorem dX3_rowPotential_1 : decode cX3_rowPotential 1 = .ok (.iload_n 1, 1) := by decide +kernel
theorem dX3_rowPotential_2 : decode cX3_rowPotential 2 = .ok (.invokevirtual 64, 3) := by decide +kernel
theorem dX3_rowPotential_5 : decode cX3_rowPotential 5 = .ok (.aload_n 0, 1) := by decide +kernel
theorem dX3_rowPotential_6 : decode cX3_rowPotential 6 = .ok (.invokevirtual 149, 3) := by decide +kernel
theorem dX3_rowPotential_9 : decode cX3_rowPotential 9 = .ok (.aload_n 0, 1) := by decide +kernel
theorem dX3_rowPotential_10 : decode cX3_rowPotential 10 = .ok (.getfield 26, 3) := by decide +kernel
theorem dX3_rowPotential_13 : decode cX3_rowPotential 13 = .ok (.iload_n 1, 1) := by decide +kernel
theorem dX3_rowPotential_14 : decode cX3_rowPotential 14 = .ok (.iaload, 1) := by decide +kernel
theorem dX3_rowPotential_15 : decode cX3_rowPotential 15 = .ok (.ireturn, 1) := by decide +kernel
theorem dX3_columnPotential_0 : decode cX3_columnPotential 0 = .ok (.aload_n 0, 1) := by decide +kernel
theorem dX3_columnPotential_1 : decode cX3_columnPotential 1 = .ok (.iload_n 1, 1) := by decide +kernel
theorem dX3_columnPotential_2 : decode cX3_columnPotential 2 = .ok (.invokevirtual 152, 3) := by decide +kernel
theorem dX3_columnPotential_5 : decode cX3_columnPotential 5 = .ok (.aload_n 0, 1) := by decide +kernel
theorem dX3_columnPotential_6 : decode cX3_columnPotential 6 = .ok (.invokevirtual 149, 3) := by decide +kernel
theorem dX3_columnPotential_9 : decode cX3_columnPotential 9 = .ok (.aload_n 0, 1) := by decide +kernel
theorem dX3_columnPotential_10 : decode cX3_columnPotential 10 = .ok (.getfield 30, 3) := by decide +kernel
theorem dX3_columnPotential_13 : decode cX3_columnPotential 13 = .ok (.iload_n 1, 1) := by decide +kernel
theorem dX3_columnPotential_14 : decode cX3_columnPotential 14 = .ok (.iaload, 1) := by decide +kernel
theorem dX3_columnPotential_15 : decode cX3_columnPotential 15 = .ok (.ireturn, 1) := by decide +kernel
theorem dX3_reducedCost_0 : decode cX3_reducedCost 0 = .ok (.aload_n 0, 1) := by decide +kernel
theorem dX3_reducedCost_1 : decode cX3_reducedCost 1 = .ok (.iload_n 1, 1) := by decide +kernel
theorem dX3_reducedCost_2 : decode cX3_reducedCost 2 = .ok (.iload_n 2, 1) := by decide +kernel
theorem dX3_reducedCost_3 : decode cX3_reducedCost 3 = .ok (.invokevirtual 94, 3) := by decide +kernel
theorem dX3_reducedCost_6 : decode cX3_reducedCost 6 = .ok (.aload_n 0, 1) := by decide +kernel
theorem dX3_reducedCost_7 : decode cX3_reducedCost 7 = .ok (.invokevirtual 149, 3) := by decide +kernel
theorem dX3_reducedCost_10 : decode cX3_reducedCost 10 = .ok (.aload_n 0, 1) := by decide +kernel
theorem dX3_reducedCost_11 : decode cX3_reducedCost 11 = .ok (.iload_n 1, 1) := by decide +kernel
theorem dX3_reducedCost_12 : decode cX3_reducedCost 12 = .ok (.iload_n 2, 1) := by decide +kernel
theorem dX3_reducedCost_13 : decode cX3_reducedCost 13 = .ok (.invokevirtual 155, 3) := by decide +kernel
theorem dX3_reducedCost_16 : decode cX3_reducedCost 16 = .ok (.ireturn, 1) := by decide +kernel
theorem dX3_minimumWith_0 : decode cX3_minimumWith 0 = .ok (.aload_n 0, 1) := by decide +kernel
theorem dX3_minimumWith_1 : decode cX3_minimumWith 1 = .ok (.iload_n 1, 1) := by decide +kernel
theorem dX3_minimumWith_2 : decode cX3_minimumWith 2 = .ok (.iload_n 2, 1) := by decide +kernel
theorem dX3_minimumWith_3 : decode cX3_minimumWith 3 = .ok (.invokevirtual 94, 3) := by decide +kernel
theorem dX3_minimumWith_6 : decode cX3_minimumWith 6 = .ok (.aload_n 0, 1) := by decide +kernel
theorem dX3_minimumWith_7 : decode cX3_minimumWith 7 = .ok (.getfield 22, 3) := by decide +kernel
theorem dX3_minimumWith_10 : decode cX3_minimumWith 10 = .ok (.aload_n 0, 1) := by decide +kernel
theorem dX3_minimumWith_11 : decode cX3_minimumWith 11 = .ok (.getfield 12, 3) := by decide +kernel
theorem dX3_minimumWith_14 : decode cX3_minimumWith 14 = .ok (.invokevirtual 137, 3) := by decide +kernel
theorem dX3_minimumWith_17 : decode cX3_minimumWith 17 = .ok (.iconst 0, 1) := by decide +kernel
theorem dX3_minimumWith_18 : decode cX3_minimumWith 18 = .ok (.istore_n 3, 1) := by decide +kernel
theorem dX3_minimumWith_19 : decode cX3_minimumWith 19 = .ok (.iload_n 3, 1) := by decide +kernel
theorem dX3_minimumWith_20 : decode cX3_minimumWith 20 = .ok (.aload_n 0, 1) := by decide +kernel
theorem dX3_minimumWith_21 : decode cX3_minimumWith 21 = .ok (.getfield 12, 3) := by decide +kernel
theorem dX3_minimumWith_24 : decode cX3_minimumWith 24 = .ok (.getfield 83, 3) := by decide +kernel
theorem dX3_minimumWith_27 : decode cX3_minimumWith 27 = .ok (.if_icmp .ge 25, 3) := by decide +kernel
theorem dX3_minimumWith_30 : decode cX3_minimumWith 30 = .ok (.iload_n 3, 1) := by decide +kernel
theorem dX3_minimumWith_31 : decode cX3_minimumWith 31 = .ok (.iload_n 2, 1) := by decide +kernel
theorem dX3_minimumWith_32 : decode cX3_minimumWith 32 = .ok (.if_icmp .eq 14, 3) := by decide +kernel
theorem dX3_minimumWith_35 : decode cX3_minimumWith 35 = .ok (.aload_n 0, 1) := by decide +kernel
theorem dX3_minimumWith_36 : decode cX3_minimumWith 36 = .ok (.getfield 22, 3) := by decide +kernel
theorem dX3_minimumWith_39 : decode cX3_minimumWith 39 = .ok (.iload_n 1, 1) := by decide +kernel
theorem dX3_minimumWith_40 : decode cX3_minimumWith 40 = .ok (.iload_n 3, 1) := by decide +kernel
theorem dX3_minimumWith_41 : decode cX3_minimumWith 41 = .ok (.ldc 158, 2) := by decide +kernel
theorem dX3_minimumWith_43 : decode cX3_minimumWith 43 = .ok (.invokevirtual 159, 3) := by decide +kernel
theorem dX3_minimumWith_46 : decode cX3_minimumWith 46 = .ok (.iinc 3 1, 3) := by decide +kernel
theorem dX3_minimumWith_49 : decode cX3_minimumWith 49 = .ok (.goto (-30), 3) := by decide +kernel
theorem dX3_minimumWith_52 : decode cX3_minimumWith 52 = .ok (.aload_n 0, 1) := by decide +kernel
theorem dX3_minimumWith_53 : decode cX3_minimumWith 53 = .ok (.getfield 22, 3) := by decide +kernel
theorem dX3_minimumWith_56 : decode cX3_minimumWith 56 = .ok (.invokevirtual 140, 3) := by decide +kernel
theorem dX3_minimumWith_59 : decode cX3_minimumWith 59 = .ok (.ireturn, 1) := by decide +kernel
theorem dX3_minimumWithout_0 : decode cX3_minimumWithout 0 = .ok (.aload_n 0, 1) := by decide +kernel
theorem dX3_minimumWithout_1 : decode cX3_minimumWithout 1 = .ok (.iload_n 1, 1) := by decide +kernel
theorem dX3_minimumWithout_2 : decode cX3_minimumWithout 2 = .ok (.iload_n 2, 1) := by decide +kernel
theorem dX3_minimumWithout_3 : decode cX3_minimumWithout 3 = .ok (.invokevirtual 94, 3) := by decide +kernel
theorem dX3_minimumWithout_6 : decode cX3_minimumWithout 6 = .ok (.aload_n 0, 1) := by decide +kernel
theorem dX3_minimumWithout_7 : decode cX3_minimumWithout 7 = .ok (.getfield 12, 3) := by decide +kernel
theorem dX3_minimumWithout_10 : decode cX3_minimumWithout 10 = .ok (.getfield 83, 3) := by decide +kernel
theorem dX3_minimumWithout_13 : decode cX3_minimumWithout 13 = .ok (.iconst 1, 1) := by decide +kernel
theorem dX3_minimumWithout_14 : decode cX3_minimumWithout 14 = .ok (.if_icmp .ne 7, 3) := by decide +kernel
theorem dX3_minimumWithout_17 : decode cX3_minimumWithout 17 = .ok (.iconst (-1), 1) := by decide +kernel
theorem dX3_minimumWithout_18 : decode cX3_minimumWithout 18 = .ok (.goto 11, 3) := by decide +kernel
theorem dX3_minimumWithout_21 : decode cX3_minimumWithout 21 = .ok (.aload_n 0, 1) := by decide +kernel
theorem dX3_minimumWithout_22 : decode cX3_minimumWithout 22 = .ok (.iload_n 1, 1) := by decide +kernel
theorem dX3_minimumWithout_23 : decode cX3_minimumWithout 23 = .ok (.iload_n 2, 1) := by decide +kernel
theorem dX3_minimumWithout_24 : decode cX3_minimumWithout 24 = .ok (.ldc 158, 2) := by decide +kernel
theorem dX3_minimumWithout_26 : decode cX3_minimumWithout 26 = .ok (.invokevirtual 162, 3) := by decide +kernel
theorem dX3_minimumWithout_29 : decode cX3_minimumWithout 29 = .ok (.ireturn, 1) := by decide +kernel
theorem dX3_minimumIfCost_0 : decode cX3_minimumIfCost 0 = .ok (.aload_n 0, 1) := by decide +kernel
theorem dX3_minimumIfCost_1 : decode cX3_minimumIfCost 1 = .ok (.iload_n 1, 1) := by decide +kernel
theorem dX3_minimumIfCost_2 : decode cX3_minimumIfCost 2 = .ok (.iload_n 2, 1) := by decide +kernel
theorem dX3_minimumIfCost_3 : decode cX3_minimumIfCost 3 = .ok (.invokevirtual 53, 3) := by decide +kernel
theorem dX3_minimumIfCost_6 : decode cX3_minimumIfCost 6 = .ok (.iload_n 3, 1) := by decide +kernel
theorem dX3_minimumIfCost_7 : decode cX3_minimumIfCost 7 = .ok (.ifCond .lt 9, 3) := by decide +kernel
theorem dX3_minimumIfCost_10 : decode cX3_minimumIfCost 10 = .ok (.iload_n 3, 1) := by decide +kernel
theorem dX3_minimumIfCost_11 : decode cX3_minimumIfCost 11 = .ok (.bipush 99, 2) := by decide +kernel
theorem dX3_minimumIfCost_13 : decode cX3_minimumIfCost 13 = .ok (.if_icmp .le 18, 3) := by decide +kernel
theorem dX3_minimumIfCost_16 : decode cX3_minimumIfCost 16 = .ok (.iload_n 3, 1) := by decide +kernel
theorem dX3_minimumIfCost_17 : decode cX3_minimumIfCost 17 = .ok (.sipush 1000, 3) := by decide +kernel
theorem dX3_minimumIfCost_20 : decode cX3_minimumIfCost 20 = .ok (.if_icmp .eq 11, 3) := by decide +kernel
theorem dX3_minimumIfCost_23 : decode cX3_minimumIfCost 23 = .ok (.new 43, 3) := by decide +kernel
theorem dX3_minimumIfCost_26 : decode cX3_minimumIfCost 26 = .ok (.dup, 1) := by decide +kernel
theorem dX3_minimumIfCost_27 : decode cX3_minimumIfCost 27 = .ok (.invokespecial 45, 3) := by decide +kernel
theorem dX3_minimumIfCost_30 : decode cX3_minimumIfCost 30 = .ok (.athrow, 1) := by decide +kernel
theorem dX3_minimumIfCost_31 : decode cX3_minimumIfCost 31 = .ok (.aload_n 0, 1) := by decide +kernel
theorem dX3_minimumIfCost_32 : decode cX3_minimumIfCost 32 = .ok (.iload_n 1, 1) := by decide +kernel
theorem dX3_minimumIfCost_33 : decode cX3_minimumIfCost 33 = .ok (.iload_n 2, 1) := by decide +kernel
theorem dX3_minimumIfCost_34 : decode cX3_minimumIfCost 34 = .ok (.iload_n 3, 1) := by decide +kernel
theorem dX3_minimumIfCost_35 : decode cX3_minimumIfCost 35 = .ok (.invokevirtual 162, 3) := by decide +kernel
theorem dX3_minimumIfCost_38 : decode cX3_minimumIfCost 38 = .ok (.ireturn, 1) := by decide +kernel
theorem dX3_secondBest_0 : decode cX3_secondBest 0 = .ok (.aload_n 0, 1) := by decide +kernel
theorem dX3_secondBest_1 : decode cX3_secondBest 1 = .ok (.getfield 12, 3) := by decide +kernel
theorem dX3_secondBest_4 : decode cX3_secondBest 4 = .ok (.getfield 83, 3) := by decide +kernel
theorem dX3_secondBest_7 : decode cX3_secondBest 7 = .ok (.iconst 1, 1) := by decide +kernel
theorem dX3_secondBest_8 : decode cX3_secondBest 8 = .ok (.if_icmp .ne 5, 3) := by decide +kernel
theorem dX3_secondBest_11 : decode cX3_secondBest 11 = .ok (.iconst (-1), 1) := by decide +kernel
theorem dX3_secondBest_12 : decode cX3_secondBest 12 = .ok (.ireturn, 1) := by decide +kernel
theorem dX3_secondBest_13 : decode cX3_secondBest 13 = .ok (.aload_n 0, 1) := by decide +kernel
theorem dX3_secondBest_14 : decode cX3_secondBest 14 = .ok (.invokevirtual 143, 3) := by decide +kernel
theorem dX3_secondBest_17 : decode cX3_secondBest 17 = .ok (.ldc 158, 2) := by decide +kernel
theorem dX3_secondBest_19 : decode cX3_secondBest 19 = .ok (.istore_n 1, 1) := by decide +kernel
theorem dX3_secondBest_20 : decode cX3_secondBest 20 = .ok (.iconst 0, 1) := by decide +kernel
theorem dX3_secondBest_21 : decode cX3_secondBest 21 = .ok (.istore_n 2, 1) := by decide +kernel
theorem dX3_secondBest_22 : decode cX3_secondBest 22 = .ok (.iload_n 2, 1) := by decide +kernel
theorem dX3_secondBest_23 : decode cX3_secondBest 23 = .ok (.aload_n 0, 1) := by decide +kernel
theorem dX3_secondBest_24 : decode cX3_secondBest 24 = .ok (.getfield 12, 3) := by decide +kernel
theorem dX3_secondBest_27 : decode cX3_secondBest 27 = .ok (.getfield 83, 3) := by decide +kernel
theorem dX3_secondBest_30 : decode cX3_secondBest 30 = .ok (.if_icmp .ge 27, 3) := by decide +kernel
theorem dX3_secondBest_33 : decode cX3_secondBest 33 = .ok (.iload_n 1, 1) := by decide +kernel
theorem dX3_secondBest_34 : decode cX3_secondBest 34 = .ok (.aload_n 0, 1) := by decide +kernel
theorem dX3_secondBest_35 : decode cX3_secondBest 35 = .ok (.iload_n 2, 1) := by decide +kernel
theorem dX3_secondBest_36 : decode cX3_secondBest 36 = .ok (.aload_n 0, 1) := by decide +kernel
theorem dX3_secondBest_37 : decode cX3_secondBest 37 = .ok (.getfield 33, 3) := by decide +kernel
theorem dX3_secondBest_40 : decode cX3_secondBest 40 = .ok (.iload_n 2, 1) := by decide +kernel
theorem dX3_secondBest_41 : decode cX3_secondBest 41 = .ok (.iaload, 1) := by decide +kernel
theorem dX3_secondBest_42 : decode cX3_secondBest 42 = .ok (.ldc 158, 2) := by decide +kernel
theorem dX3_secondBest_44 : decode cX3_secondBest 44 = .ok (.invokevirtual 162, 3) := by decide +kernel
theorem dX3_secondBest_47 : decode cX3_secondBest 47 = .ok (.invokestatic 78, 3) := by decide +kernel
theorem dX3_secondBest_50 : decode cX3_secondBest 50 = .ok (.istore_n 1, 1) := by decide +kernel
theorem dX3_secondBest_51 : decode cX3_secondBest 51 = .ok (.iinc 2 1, 3) := by decide +kernel
theorem dX3_secondBest_54 : decode cX3_secondBest 54 = .ok (.goto (-32), 3) := by decide +kernel
theorem dX3_secondBest_57 : decode cX3_secondBest 57 = .ok (.iload_n 1, 1) := by decide +kernel
theorem dX3_secondBest_58 : decode cX3_secondBest 58 = .ok (.ireturn, 1) := by decide +kernel
theorem dX3_maximum_0 : decode cX3_maximum 0 = .ok (.aload_n 0, 1) := by decide +kernel
theorem dX3_maximum_1 : decode cX3_maximum 1 = .ok (.getfield 22, 3) := by decide +kernel
theorem dX3_maximum_4 : decode cX3_maximum 4 = .ok (.aload_n 0, 1) := by decide +kernel
theorem dX3_maximum_5 : decode cX3_maximum 5 = .ok (.getfield 12, 3) := by decide +kernel
theorem dX3_maximum_8 : decode cX3_maximum 8 = .ok (.invokevirtual 137, 3) := by decide +kernel
theorem dX3_maximum_11 : decode cX3_maximum 11 = .ok (.iconst 0, 1) := by decide +kernel
theorem dX3_maximum_12 : decode cX3_maximum 12 = .ok (.istore_n 1, 1) := by decide +kernel
theorem dX3_maximum_13 : decode cX3_maximum 13 = .ok (.iload_n 1, 1) := by decide +kernel
theorem dX3_maximum_14 : decode cX3_maximum 14 = .ok (.aload_n 0, 1) := by decide +kernel
theorem dX3_maximum_15 : decode cX3_maximum 15 = .ok (.getfield 12, 3) := by decide +kernel
theorem dX3_maximum_18 : decode cX3_maximum 18 = .ok (.getfield 83, 3) := by decide +kernel
theorem dX3_maximum_21 : decode cX3_maximum 21 = .ok (.if_icmp .ge 51, 3) := by decide +kernel
theorem dX3_maximum_24 : decode cX3_maximum 24 = .ok (.iconst 0, 1) := by decide +kernel
theorem dX3_maximum_25 : decode cX3_maximum 25 = .ok (.istore_n 2, 1) := by decide +kernel
theorem dX3_maximum_26 : decode cX3_maximum 26 = .ok (.iload_n 2, 1) := by decide +kernel
theorem dX3_maximum_27 : decode cX3_maximum 27 = .ok (.aload_n 0, 1) := by decide +kernel
theorem dX3_maximum_28 : decode cX3_maximum 28 = .ok (.getfield 12, 3) := by decide +kernel
theorem dX3_maximum_31 : decode cX3_maximum 31 = .ok (.getfield 72, 3) := by decide +kernel
theorem dX3_maximum_34 : decode cX3_maximum 34 = .ok (.if_icmp .ge 32, 3) := by decide +kernel
theorem dX3_maximum_37 : decode cX3_maximum 37 = .ok (.aload_n 0, 1) := by decide +kernel
theorem dX3_maximum_38 : decode cX3_maximum 38 = .ok (.getfield 12, 3) := by decide +kernel
theorem dX3_maximum_41 : decode cX3_maximum 41 = .ok (.iload_n 1, 1) := by decide +kernel
theorem dX3_maximum_42 : decode cX3_maximum 42 = .ok (.iload_n 2, 1) := by decide +kernel
theorem dX3_maximum_43 : decode cX3_maximum 43 = .ok (.invokevirtual 133, 3) := by decide +kernel
theorem dX3_maximum_46 : decode cX3_maximum 46 = .ok (.ifCond .eq 14, 3) := by decide +kernel
theorem dX3_maximum_49 : decode cX3_maximum 49 = .ok (.aload_n 0, 1) := by decide +kernel
theorem dX3_maximum_50 : decode cX3_maximum 50 = .ok (.getfield 22, 3) := by decide +kernel
theorem dX3_maximum_53 : decode cX3_maximum 53 = .ok (.iload_n 1, 1) := by decide +kernel
theorem dX3_maximum_54 : decode cX3_maximum 54 = .ok (.iload_n 2, 1) := by decide +kernel
theorem dX3_maximum_55 : decode cX3_maximum 55 = .ok (.ldc 166, 2) := by decide +kernel
theorem dX3_maximum_57 : decode cX3_maximum 57 = .ok (.invokevirtual 159, 3) := by decide +kernel
theorem dX3_maximum_60 : decode cX3_maximum 60 = .ok (.iinc 2 1, 3) := by decide +kernel
theorem dX3_maximum_63 : decode cX3_maximum 63 = .ok (.goto (-37), 3) := by decide +kernel
theorem dX3_maximum_66 : decode cX3_maximum 66 = .ok (.iinc 1 1, 3) := by decide +kernel
theorem dX3_maximum_69 : decode cX3_maximum 69 = .ok (.goto (-56), 3) := by decide +kernel
theorem dX3_maximum_72 : decode cX3_maximum 72 = .ok (.aload_n 0, 1) := by decide +kernel
theorem dX3_maximum_73 : decode cX3_maximum 73 = .ok (.getfield 22, 3) := by decide +kernel
theorem dX3_maximum_76 : decode cX3_maximum 76 = .ok (.invokevirtual 167, 3) := by decide +kernel
theorem dX3_maximum_79 : decode cX3_maximum 79 = .ok (.istore_n 1, 1) := by decide +kernel
theorem dX3_maximum_80 : decode cX3_maximum 80 = .ok (.iload_n 1, 1) := by decide +kernel
theorem dX3_maximum_81 : decode cX3_maximum 81 = .ok (.ifCond .ge 7, 3) := by decide +kernel
theorem dX3_maximum_84 : decode cX3_maximum 84 = .ok (.iconst (-1), 1) := by decide +kernel
theorem dX3_maximum_85 : decode cX3_maximum 85 = .ok (.goto 4, 3) := by decide +kernel
theorem dX3_maximum_88 : decode cX3_maximum 88 = .ok (.iload_n 1, 1) := by decide +kernel
theorem dX3_maximum_89 : decode cX3_maximum 89 = .ok (.ireturn, 1) := by decide +kernel
theorem dX3_bottleneck_0 : decode cX3_bottleneck 0 = .ok (.aload_n 0, 1) := by decide +kernel
theorem dX3_bottleneck_1 : decode cX3_bottleneck 1 = .ok (.getfield 22, 3) := by decide +kernel
theorem dX3_bottleneck_4 : decode cX3_bottleneck 4 = .ok (.aload_n 0, 1) := by decide +kernel
theorem dX3_bottleneck_5 : decode cX3_bottleneck 5 = .ok (.getfield 12, 3) := by decide +kernel
theorem dX3_bottleneck_8 : decode cX3_bottleneck 8 = .ok (.invokevirtual 137, 3) := by decide +kernel
theorem dX3_bottleneck_11 : decode cX3_bottleneck 11 = .ok (.aload_n 0, 1) := by decide +kernel
theorem dX3_bottleneck_12 : decode cX3_bottleneck 12 = .ok (.getfield 22, 3) := by decide +kernel
theorem dX3_bottleneck_15 : decode cX3_bottleneck 15 = .ok (.invokevirtual 170, 3) := by decide +kernel
theorem dX3_bottleneck_18 : decode cX3_bottleneck 18 = .ok (.ireturn, 1) := by decide +kernel
theorem dX3_fits_0 : decode cX3_fits 0 = .ok (.iload_n 1, 1) := by decide +kernel
theorem dX3_fits_1 : decode cX3_fits 1 = .ok (.ifCond .lt 10, 3) := by decide +kernel
theorem dX3_fits_4 : decode cX3_fits 4 = .ok (.iload_n 1, 1) := by decide +kernel
theorem dX3_fits_5 : decode cX3_fits 5 = .ok (.sipush 1000, 3) := by decide +kernel
theorem dX3_fits_8 : decode cX3_fits 8 = .ok (.if_icmp .le 11, 3) := by decide +kernel
theorem dX3_fits_11 : decode cX3_fits 11 = .ok (.new 43, 3) := by decide +kernel
theorem dX3_fits_14 : decode cX3_fits 14 = .ok (.dup, 1) := by decide +kernel
theorem dX3_fits_15 : decode cX3_fits 15 = .ok (.invokespecial 45, 3) := by decide +kernel
theorem dX3_fits_18 : decode cX3_fits 18 = .ok (.athrow, 1) := by decide +kernel
theorem dX3_fits_19 : decode cX3_fits 19 = .ok (.aload_n 0, 1) := by decide +kernel
theorem dX3_fits_20 : decode cX3_fits 20 = .ok (.getfield 22, 3) := by decide +kernel
theorem dX3_fits_23 : decode cX3_fits 23 = .ok (.aload_n 0, 1) := by decide +kernel
theorem dX3_fits_24 : decode cX3_fits 24 = .ok (.getfield 12, 3) := by decide +kernel
theorem dX3_fits_27 : decode cX3_fits 27 = .ok (.invokevirtual 137, 3) := by decide +kernel
theorem dX3_fits_30 : decode cX3_fits 30 = .ok (.iconst 0, 1) := by decide +kernel
theorem dX3_fits_31 : decode cX3_fits 31 = .ok (.istore_n 2, 1) := by decide +kernel
theorem dX3_fits_32 : decode cX3_fits 32 = .ok (.iload_n 2, 1) := by decide +kernel
theorem dX3_fits_33 : decode cX3_fits 33 = .ok (.aload_n 0, 1) := by decide +kernel
theorem dX3_fits_34 : decode cX3_fits 34 = .ok (.getfield 12, 3) := by decide +kernel
theorem dX3_fits_37 : decode cX3_fits 37 = .ok (.getfield 83, 3) := by decide +kernel
theorem dX3_fits_40 : decode cX3_fits 40 = .ok (.if_icmp .ge 55, 3) := by decide +kernel
theorem dX3_fits_43 : decode cX3_fits 43 = .ok (.iconst 0, 1) := by decide +kernel
theorem dX3_fits_44 : decode cX3_fits 44 = .ok (.istore_n 3, 1) := by decide +kernel
theorem dX3_fits_45 : decode cX3_fits 45 = .ok (.iload_n 3, 1) := by decide +kernel
theorem dX3_fits_46 : decode cX3_fits 46 = .ok (.aload_n 0, 1) := by decide +kernel
theorem dX3_fits_47 : decode cX3_fits 47 = .ok (.getfield 12, 3) := by decide +kernel
theorem dX3_fits_50 : decode cX3_fits 50 = .ok (.getfield 83, 3) := by decide +kernel
theorem dX3_fits_53 : decode cX3_fits 53 = .ok (.if_icmp .ge 36, 3) := by decide +kernel
theorem dX3_fits_56 : decode cX3_fits 56 = .ok (.aload_n 0, 1) := by decide +kernel
theorem dX3_fits_57 : decode cX3_fits 57 = .ok (.getfield 22, 3) := by decide +kernel
theorem dX3_fits_60 : decode cX3_fits 60 = .ok (.iload_n 2, 1) := by decide +kernel
theorem dX3_fits_61 : decode cX3_fits 61 = .ok (.iload_n 3, 1) := by decide +kernel
theorem dX3_fits_62 : decode cX3_fits 62 = .ok (.aload_n 0, 1) := by decide +kernel
theorem dX3_fits_63 : decode cX3_fits 63 = .ok (.getfield 12, 3) := by decide +kernel
theorem dX3_fits_66 : decode cX3_fits 66 = .ok (.iload_n 2, 1) := by decide +kernel
theorem dX3_fits_67 : decode cX3_fits 67 = .ok (.iload_n 3, 1) := by decide +kernel
theorem dX3_fits_68 : decode cX3_fits 68 = .ok (.invokevirtual 97, 3) := by decide +kernel
theorem dX3_fits_71 : decode cX3_fits 71 = .ok (.iload_n 1, 1) := by decide +kernel
theorem dX3_fits_72 : decode cX3_fits 72 = .ok (.if_icmp .le 7, 3) := by decide +kernel
theorem dX3_fits_75 : decode cX3_fits 75 = .ok (.iconst 1, 1) := by decide +kernel
theorem dX3_fits_76 : decode cX3_fits 76 = .ok (.goto 4, 3) := by decide +kernel
theorem dX3_fits_79 : decode cX3_fits 79 = .ok (.iconst 0, 1) := by decide +kernel
theorem dX3_fits_80 : decode cX3_fits 80 = .ok (.invokevirtual 159, 3) := by decide +kernel
theorem dX3_fits_83 : decode cX3_fits 83 = .ok (.iinc 3 1, 3) := by decide +kernel
theorem dX3_fits_86 : decode cX3_fits 86 = .ok (.goto (-41), 3) := by decide +kernel
theorem dX3_fits_89 : decode cX3_fits 89 = .ok (.iinc 2 1, 3) := by decide +kernel
theorem dX3_fits_92 : decode cX3_fits 92 = .ok (.goto (-60), 3) := by decide +kernel
theorem dX3_fits_95 : decode cX3_fits 95 = .ok (.aload_n 0, 1) := by decide +kernel
theorem dX3_fits_96 : decode cX3_fits 96 = .ok (.getfield 22, 3) := by decide +kernel
theorem dX3_fits_99 : decode cX3_fits 99 = .ok (.invokevirtual 140, 3) := by decide +kernel
theorem dX3_fits_102 : decode cX3_fits 102 = .ok (.ifCond .ne 7, 3) := by decide +kernel
theorem dX3_fits_105 : decode cX3_fits 105 = .ok (.iconst 1, 1) := by decide +kernel
theorem dX3_fits_106 : decode cX3_fits 106 = .ok (.goto 4, 3) := by decide +kernel
theorem dX3_fits_109 : decode cX3_fits 109 = .ok (.iconst 0, 1) := by decide +kernel
theorem dX3_fits_110 : decode cX3_fits 110 = .ok (.ireturn, 1) := by decide +kernel
theorem dX3_countWithin_0 : decode cX3_countWithin 0 = .ok (.iload_n 1, 1) := by decide +kernel
theorem dX3_countWithin_1 : decode cX3_countWithin 1 = .ok (.ifCond .lt 10, 3) := by decide +kernel
theorem dX3_countWithin_4 : decode cX3_countWithin 4 = .ok (.iload_n 1, 1) := by decide +kernel
theorem dX3_countWithin_5 : decode cX3_countWithin 5 = .ok (.sipush 7000, 3) := by decide +kernel
theorem dX3_countWithin_8 : decode cX3_countWithin 8 = .ok (.if_icmp .le 11, 3) := by decide +kernel
theorem dX3_countWithin_11 : decode cX3_countWithin 11 = .ok (.new 43, 3) := by decide +kernel
theorem dX3_countWithin_14 : decode cX3_countWithin 14 = .ok (.dup, 1) := by decide +kernel
theorem dX3_countWithin_15 : decode cX3_countWithin 15 = .ok (.invokespecial 45, 3) := by decide +kernel
theorem dX3_countWithin_18 : decode cX3_countWithin 18 = .ok (.athrow, 1) := by decide +kernel
theorem dX3_countWithin_19 : decode cX3_countWithin 19 = .ok (.aload_n 0, 1) := by decide +kernel
theorem dX3_countWithin_20 : decode cX3_countWithin 20 = .ok (.getfield 22, 3) := by decide +kernel
theorem dX3_countWithin_23 : decode cX3_countWithin 23 = .ok (.aload_n 0, 1) := by decide +kernel
theorem dX3_countWithin_24 : decode cX3_countWithin 24 = .ok (.getfield 12, 3) := by decide +kernel
theorem dX3_countWithin_27 : decode cX3_countWithin 27 = .ok (.invokevirtual 137, 3) := by decide +kernel
theorem dX3_countWithin_30 : decode cX3_countWithin 30 = .ok (.aload_n 0, 1) := by decide +kernel
theorem dX3_countWithin_31 : decode cX3_countWithin 31 = .ok (.getfield 22, 3) := by decide +kernel
theorem dX3_countWithin_34 : decode cX3_countWithin 34 = .ok (.invokevirtual 140, 3) := by decide +kernel
theorem dX3_countWithin_37 : decode cX3_countWithin 37 = .ok (.pop, 1) := by decide +kernel
theorem dX3_countWithin_38 : decode cX3_countWithin 38 = .ok (.aload_n 0, 1) := by decide +kernel
theorem dX3_countWithin_39 : decode cX3_countWithin 39 = .ok (.getfield 22, 3) := by decide +kernel
theorem dX3_countWithin_42 : decode cX3_countWithin 42 = .ok (.invokevirtual 167, 3) := by decide +kernel
theorem dX3_countWithin_45 : decode cX3_countWithin 45 = .ok (.pop, 1) := by decide +kernel
theorem dX3_countWithin_46 : decode cX3_countWithin 46 = .ok (.aload_n 0, 1) := by decide +kernel
theorem dX3_countWithin_47 : decode cX3_countWithin 47 = .ok (.getfield 22, 3) := by decide +kernel
theorem dX3_countWithin_50 : decode cX3_countWithin 50 = .ok (.iconst 0, 1) := by decide +kernel
theorem dX3_countWithin_51 : decode cX3_countWithin 51 = .ok (.iconst 0, 1) := by decide +kernel
theorem dX3_countWithin_52 : decode cX3_countWithin 52 = .ok (.iload_n 1, 1) := by decide +kernel
theorem dX3_countWithin_53 : decode cX3_countWithin 53 = .ok (.invokestatic 173, 3) := by decide +kernel
theorem dX3_countWithin_56 : decode cX3_countWithin 56 = .ok (.ireturn, 1) := by decide +kernel
theorem dX3_sumOf_0 : decode cX3_sumOf 0 = .ok (.iload_n 1, 1) := by decide +kernel
theorem dX3_sumOf_1 : decode cX3_sumOf 1 = .ok (.istore_n 2, 1) := by decide +kernel
theorem dX3_sumOf_2 : decode cX3_sumOf 2 = .ok (.iconst 0, 1) := by decide +kernel
theorem dX3_sumOf_3 : decode cX3_sumOf 3 = .ok (.istore_n 3, 1) := by decide +kernel
theorem dX3_sumOf_4 : decode cX3_sumOf 4 = .ok (.iconst 0, 1) := by decide +kernel
theorem dX3_sumOf_5 : decode cX3_sumOf 5 = .ok (.istore 4, 2) := by decide +kernel
theorem dX3_sumOf_7 : decode cX3_sumOf 7 = .ok (.aload_n 0, 1) := by decide +kernel
theorem dX3_sumOf_8 : decode cX3_sumOf 8 = .ok (.getfield 12, 3) := by decide +kernel
theorem dX3_sumOf_11 : decode cX3_sumOf 11 = .ok (.getfield 83, 3) := by decide +kernel
theorem dX3_sumOf_14 : decode cX3_sumOf 14 = .ok (.iconst 1, 1) := by decide +kernel
theorem dX3_sumOf_15 : decode cX3_sumOf 15 = .ok (.isub, 1) := by decide +kernel
theorem dX3_sumOf_16 : decode cX3_sumOf 16 = .ok (.istore 5, 2) := by decide +kernel
theorem dX3_sumOf_18 : decode cX3_sumOf 18 = .ok (.iload 5, 2) := by decide +kernel
theorem dX3_sumOf_20 : decode cX3_sumOf 20 = .ok (.ifCond .lt 71, 3) := by decide +kernel
theorem dX3_sumOf_23 : decode cX3_sumOf 23 = .ok (.iload_n 2, 1) := by decide +kernel
theorem dX3_sumOf_24 : decode cX3_sumOf 24 = .ok (.bipush 10, 2) := by decide +kernel
theorem dX3_sumOf_26 : decode cX3_sumOf 26 = .ok (.irem, 1) := by decide +kernel
theorem dX3_sumOf_27 : decode cX3_sumOf 27 = .ok (.iconst 1, 1) := by decide +kernel
theorem dX3_sumOf_28 : decode cX3_sumOf 28 = .ok (.isub, 1) := by decide +kernel
theorem dX3_sumOf_29 : decode cX3_sumOf 29 = .ok (.istore 6, 2) := by decide +kernel
theorem dX3_sumOf_31 : decode cX3_sumOf 31 = .ok (.iload_n 2, 1) := by decide +kernel
theorem dX3_sumOf_32 : decode cX3_sumOf 32 = .ok (.bipush 10, 2) := by decide +kernel
theorem dX3_sumOf_34 : decode cX3_sumOf 34 = .ok (.idiv, 1) := by decide +kernel
theorem dX3_sumOf_35 : decode cX3_sumOf 35 = .ok (.istore_n 2, 1) := by decide +kernel
theorem dX3_sumOf_36 : decode cX3_sumOf 36 = .ok (.aload_n 0, 1) := by decide +kernel
theorem dX3_sumOf_37 : decode cX3_sumOf 37 = .ok (.iload 6, 2) := by decide +kernel
theorem dX3_sumOf_39 : decode cX3_sumOf 39 = .ok (.invokevirtual 177, 3) := by decide +kernel
theorem dX3_sumOf_42 : decode cX3_sumOf 42 = .ok (.ifCond .eq 12, 3) := by decide +kernel
theorem dX3_sumOf_45 : decode cX3_sumOf 45 = .ok (.iload_n 3, 1) := by decide +kernel
theorem dX3_sumOf_46 : decode cX3_sumOf 46 = .ok (.iload 6, 2) := by decide +kernel
theorem dX3_sumOf_48 : decode cX3_sumOf 48 = .ok (.ishr, 1) := by decide +kernel
theorem dX3_sumOf_49 : decode cX3_sumOf 49 = .ok (.iconst 1, 1) := by decide +kernel
theorem dX3_sumOf_50 : decode cX3_sumOf 50 = .ok (.iand, 1) := by decide +kernel
theorem dX3_sumOf_51 : decode cX3_sumOf 51 = .ok (.ifCond .eq 11, 3) := by decide +kernel
theorem dX3_sumOf_54 : decode cX3_sumOf 54 = .ok (.new 43, 3) := by decide +kernel
theorem dX3_sumOf_57 : decode cX3_sumOf 57 = .ok (.dup, 1) := by decide +kernel
theorem dX3_sumOf_58 : decode cX3_sumOf 58 = .ok (.invokespecial 45, 3) := by decide +kernel
theorem dX3_sumOf_61 : decode cX3_sumOf 61 = .ok (.athrow, 1) := by decide +kernel
theorem dX3_sumOf_62 : decode cX3_sumOf 62 = .ok (.iload_n 3, 1) := by decide +kernel
theorem dX3_sumOf_63 : decode cX3_sumOf 63 = .ok (.iconst 1, 1) := by decide +kernel
theorem dX3_sumOf_64 : decode cX3_sumOf 64 = .ok (.iload 6, 2) := by decide +kernel
theorem dX3_sumOf_66 : decode cX3_sumOf 66 = .ok (.ishl, 1) := by decide +kernel
theorem dX3_sumOf_67 : decode cX3_sumOf 67 = .ok (.ior, 1) := by decide +kernel
theorem dX3_sumOf_68 : decode cX3_sumOf 68 = .ok (.istore_n 3, 1) := by decide +kernel
theorem dX3_sumOf_69 : decode cX3_sumOf 69 = .ok (.iload 4, 2) := by decide +kernel
theorem dX3_sumOf_71 : decode cX3_sumOf 71 = .ok (.aload_n 0, 1) := by decide +kernel
theorem dX3_sumOf_72 : decode cX3_sumOf 72 = .ok (.getfield 12, 3) := by decide +kernel
theorem dX3_sumOf_75 : decode cX3_sumOf 75 = .ok (.iload 5, 2) := by decide +kernel
theorem dX3_sumOf_77 : decode cX3_sumOf 77 = .ok (.iload 6, 2) := by decide +kernel
theorem dX3_sumOf_79 : decode cX3_sumOf 79 = .ok (.invokevirtual 97, 3) := by decide +kernel
theorem dX3_sumOf_82 : decode cX3_sumOf 82 = .ok (.iadd, 1) := by decide +kernel
theorem dX3_sumOf_83 : decode cX3_sumOf 83 = .ok (.istore 4, 2) := by decide +kernel
theorem dX3_sumOf_85 : decode cX3_sumOf 85 = .ok (.iinc 5 (-1), 3) := by decide +kernel
theorem dX3_sumOf_88 : decode cX3_sumOf 88 = .ok (.goto (-70), 3) := by decide +kernel
theorem dX3_sumOf_91 : decode cX3_sumOf 91 = .ok (.iload_n 2, 1) := by decide +kernel
theorem dX3_sumOf_92 : decode cX3_sumOf 92 = .ok (.ifCond .eq 11, 3) := by decide +kernel
theorem dX3_sumOf_95 : decode cX3_sumOf 95 = .ok (.new 43, 3) := by decide +kernel
theorem dX3_sumOf_98 : decode cX3_sumOf 98 = .ok (.dup, 1) := by decide +kernel
theorem dX3_sumOf_99 : decode cX3_sumOf 99 = .ok (.invokespecial 45, 3) := by decide +kernel
theorem dX3_sumOf_102 : decode cX3_sumOf 102 = .ok (.athrow, 1) := by decide +kernel
theorem dX3_sumOf_103 : decode cX3_sumOf 103 = .ok (.iload 4, 2) := by decide +kernel
theorem dX3_sumOf_105 : decode cX3_sumOf 105 = .ok (.ireturn, 1) := by decide +kernel
theorem dX3_startEnumeration_0 : decode cX3_startEnumeration 0 = .ok (.aload_n 0, 1) := by decide +kernel
theorem dX3_startEnumeration_1 : decode cX3_startEnumeration 1 = .ok (.getfield 12, 3) := by decide +kernel
theorem dX3_startEnumeration_4 : decode cX3_startEnumeration 4 = .ok (.getfield 83, 3) := by decide +kernel
theorem dX3_startEnumeration_7 : decode cX3_startEnumeration 7 = .ok (.bipush 6, 2) := by decide +kernel
theorem dX3_startEnumeration_9 : decode cX3_startEnumeration 9 = .ok (.if_icmp .le 11, 3) := by decide +kernel
theorem dX3_startEnumeration_12 : decode cX3_startEnumeration 12 = .ok (.new 181, 3) := by decide +kernel
theorem dX3_startEnumeration_15 : decode cX3_startEnumeration 15 = .ok (.dup, 1) := by decide +kernel
theorem dX3_startEnumeration_16 : decode cX3_startEnumeration 16 = .ok (.invokespecial 183, 3) := by decide +kernel
theorem dX3_startEnumeration_19 : decode cX3_startEnumeration 19 = .ok (.athrow, 1) := by decide +kernel
theorem dX3_startEnumeration_20 : decode cX3_startEnumeration 20 = .ok (.aload_n 0, 1) := by decide +kernel
theorem dX3_startEnumeration_21 : decode cX3_startEnumeration 21 = .ok (.getfield 39, 3) := by decide +kernel
theorem dX3_startEnumeration_24 : decode cX3_startEnumeration 24 = .ok (.aload_n 0, 1) := by decide +kernel
theorem dX3_startEnumeration_25 : decode cX3_startEnumeration 25 = .ok (.getfield 12, 3) := by decide +kernel
theorem dX3_startEnumeration_28 : decode cX3_startEnumeration 28 = .ok (.invokevirtual 184, 3) := by decide +kernel
theorem dX3_startEnumeration_31 : decode cX3_startEnumeration 31 = .ok (.aload_n 0, 1) := by decide +kernel
theorem dX3_startEnumeration_32 : decode cX3_startEnumeration 32 = .ok (.getfield 39, 3) := by decide +kernel
theorem dX3_startEnumeration_35 : decode cX3_startEnumeration 35 = .ok (.getfield 187, 3) := by decide +kernel
theorem dX3_startEnumeration_38 : decode cX3_startEnumeration 38 = .ok (.ireturn, 1) := by decide +kernel
theorem dX3_nextSum_0 : decode cX3_nextSum 0 = .ok (.aload_n 0, 1) := by decide +kernel
theorem dX3_nextSum_1 : decode cX3_nextSum 1 = .ok (.getfield 39, 3) := by decide +kernel
theorem dX3_nextSum_4 : decode cX3_nextSum 4 = .ok (.getfield 190, 3) := by decide +kernel
theorem dX3_nextSum_7 : decode cX3_nextSum 7 = .ok (.ifCond .ne 11, 3) := by decide +kernel
theorem dX3_nextSum_10 : decode cX3_nextSum 10 = .ok (.new 181, 3) := by decide +kernel
theorem dX3_nextSum_13 : decode cX3_nextSum 13 = .ok (.dup, 1) := by decide +kernel
theorem dX3_nextSum_14 : decode cX3_nextSum 14 = .ok (.invokespecial 183, 3) := by decide +kernel
theorem dX3_nextSum_17 : decode cX3_nextSum 17 = .ok (.athrow, 1) := by decide +kernel
theorem dX3_nextSum_18 : decode cX3_nextSum 18 = .ok (.aload_n 0, 1) := by decide +kernel
theorem dX3_nextSum_19 : decode cX3_nextSum 19 = .ok (.getfield 39, 3) := by decide +kernel
theorem dX3_nextSum_22 : decode cX3_nextSum 22 = .ok (.getfield 194, 3) := by decide +kernel
theorem dX3_nextSum_25 : decode cX3_nextSum 25 = .ok (.aload_n 0, 1) := by decide +kernel
theorem dX3_nextSum_26 : decode cX3_nextSum 26 = .ok (.getfield 39, 3) := by decide +kernel
theorem dX3_nextSum_29 : decode cX3_nextSum 29 = .ok (.getfield 187, 3) := by decide +kernel
theorem dX3_nextSum_32 : decode cX3_nextSum 32 = .ok (.if_icmp .lt 11, 3) := by decide +kernel
theorem dX3_nextSum_35 : decode cX3_nextSum 35 = .ok (.new 197, 3) := by decide +kernel
theorem dX3_nextSum_38 : decode cX3_nextSum 38 = .ok (.dup, 1) := by decide +kernel
theorem dX3_nextSum_39 : decode cX3_nextSum 39 = .ok (.invokespecial 199, 3) := by decide +kernel
theorem dX3_nextSum_42 : decode cX3_nextSum 42 = .ok (.athrow, 1) := by decide +kernel
theorem dX3_nextSum_43 : decode cX3_nextSum 43 = .ok (.aload_n 0, 1) := by decide +kernel
theorem dX3_nextSum_44 : decode cX3_nextSum 44 = .ok (.getfield 39, 3) := by decide +kernel
theorem dX3_nextSum_47 : decode cX3_nextSum 47 = .ok (.invokevirtual 200, 3) := by decide +kernel
theorem dX3_nextSum_50 : decode cX3_nextSum 50 = .ok (.aload_n 0, 1) := by decide +kernel
theorem dX3_nextSum_51 : decode cX3_nextSum 51 = .ok (.getfield 39, 3) := by decide +kernel
theorem dX3_nextSum_54 : decode cX3_nextSum 54 = .ok (.invokevirtual 203, 3) := by decide +kernel
theorem dX3_nextSum_57 : decode cX3_nextSum 57 = .ok (.ireturn, 1) := by decide +kernel
theorem dX3_currentColumn_0 : decode cX3_currentColumn 0 = .ok (.aload_n 0, 1) := by decide +kernel
theorem dX3_currentColumn_1 : decode cX3_currentColumn 1 = .ok (.iload_n 1, 1) := by decide +kernel
theorem dX3_currentColumn_2 : decode cX3_currentColumn 2 = .ok (.invokevirtual 64, 3) := by decide +kernel
theorem dX3_currentColumn_5 : decode cX3_currentColumn 5 = .ok (.aload_n 0, 1) := by decide +kernel
theorem dX3_currentColumn_6 : decode cX3_currentColumn 6 = .ok (.getfield 39, 3) := by decide +kernel
theorem dX3_currentColumn_9 : decode cX3_currentColumn 9 = .ok (.getfield 190, 3) := by decide +kernel
theorem dX3_currentColumn_12 : decode cX3_currentColumn 12 = .ok (.ifCond .eq 13, 3) := by decide +kernel
theorem dX3_currentColumn_15 : decode cX3_currentColumn 15 = .ok (.aload_n 0, 1) := by decide +kernel
theorem dX3_currentColumn_16 : decode cX3_currentColumn 16 = .ok (.getfield 39, 3) := by decide +kernel
theorem dX3_currentColumn_19 : decode cX3_currentColumn 19 = .ok (.getfield 194, 3) := by decide +kernel
theorem dX3_currentColumn_22 : decode cX3_currentColumn 22 = .ok (.ifCond .ne 11, 3) := by decide +kernel
theorem dX3_currentColumn_25 : decode cX3_currentColumn 25 = .ok (.new 181, 3) := by decide +kernel
theorem dX3_currentColumn_28 : decode cX3_currentColumn 28 = .ok (.dup, 1) := by decide +kernel
theorem dX3_currentColumn_29 : decode cX3_currentColumn 29 = .ok (.invokespecial 183, 3) := by decide +kernel
theorem dX3_currentColumn_32 : decode cX3_currentColumn 32 = .ok (.athrow, 1) := by decide +kernel
theorem dX3_currentColumn_33 : decode cX3_currentColumn 33 = .ok (.aload_n 0, 1) := by decide +kernel
theorem dX3_currentColumn_34 : decode cX3_currentColumn 34 = .ok (.getfield 39, 3) := by decide +kernel
theorem dX3_currentColumn_37 : decode cX3_currentColumn 37 = .ok (.iload_n 1, 1) := by decide +kernel
theorem dX3_currentColumn_38 : decode cX3_currentColumn 38 = .ok (.invokevirtual 206, 3) := by decide +kernel
theorem dX3_currentColumn_41 : decode cX3_currentColumn 41 = .ok (.ireturn, 1) := by decide +kernel
theorem dX3_stepsMade_0 : decode cX3_stepsMade 0 = .ok (.aload_n 0, 1) := by decide +kernel
theorem dX3_stepsMade_1 : decode cX3_stepsMade 1 = .ok (.getfield 39, 3) := by decide +kernel
theorem dX3_stepsMade_4 : decode cX3_stepsMade 4 = .ok (.getfield 190, 3) := by decide +kernel
theorem dX3_stepsMade_7 : decode cX3_stepsMade 7 = .ok (.ifCond .eq 13, 3) := by decide +kernel
theorem dX3_stepsMade_10 : decode cX3_stepsMade 10 = .ok (.aload_n 0, 1) := by decide +kernel
theorem dX3_stepsMade_11 : decode cX3_stepsMade 11 = .ok (.getfield 39, 3) := by decide +kernel
theorem dX3_stepsMade_14 : decode cX3_stepsMade 14 = .ok (.getfield 194, 3) := by decide +kernel
theorem dX3_stepsMade_17 : decode cX3_stepsMade 17 = .ok (.goto 4, 3) := by decide +kernel
theorem dX3_stepsMade_20 : decode cX3_stepsMade 20 = .ok (.iconst (-1), 1) := by decide +kernel
theorem dX3_stepsMade_21 : decode cX3_stepsMade 21 = .ok (.ireturn, 1) := by decide +kernel
theorem dX3_meanCost_0 : decode cX3_meanCost 0 = .ok (.aload_n 0, 1) := by decide +kernel
theorem dX3_meanCost_1 : decode cX3_meanCost 1 = .ok (.invokevirtual 127, 3) := by decide +kernel
theorem dX3_meanCost_4 : decode cX3_meanCost 4 = .ok (.i2d, 1) := by decide +kernel
theorem dX3_meanCost_5 : decode cX3_meanCost 5 = .ok (.aload_n 0, 1) := by decide +kernel
theorem dX3_meanCost_6 : decode cX3_meanCost 6 = .ok (.getfield 12, 3) := by decide +kernel
theorem dX3_meanCost_9 : decode cX3_meanCost 9 = .ok (.getfield 83, 3) := by decide +kernel
theorem dX3_meanCost_12 : decode cX3_meanCost 12 = .ok (.aload_n 0, 1) := by decide +kernel
theorem dX3_meanCost_13 : decode cX3_meanCost 13 = .ok (.getfield 12, 3) := by decide +kernel
theorem dX3_meanCost_16 : decode cX3_meanCost 16 = .ok (.getfield 83, 3) := by decide +kernel
theorem dX3_meanCost_19 : decode cX3_meanCost 19 = .ok (.imul, 1) := by decide +kernel
theorem dX3_meanCost_20 : decode cX3_meanCost 20 = .ok (.i2d, 1) := by decide +kernel
theorem dX3_meanCost_21 : decode cX3_meanCost 21 = .ok (.ddiv, 1) := by decide +kernel
theorem dX3_meanCost_22 : decode cX3_meanCost 22 = .ok (.dreturn, 1) := by decide +kernel
theorem dX3_shareOf_0 : decode cX3_shareOf 0 = .ok (.aload_n 0, 1) := by decide +kernel
theorem dX3_shareOf_1 : decode cX3_shareOf 1 = .ok (.iload_n 1, 1) := by decide +kernel
theorem dX3_shareOf_2 : decode cX3_shareOf 2 = .ok (.invokevirtual 64, 3) := by decide +kernel
theorem dX3_shareOf_5 : decode cX3_shareOf 5 = .ok (.aload_n 0, 1) := by decide +kernel
theorem dX3_shareOf_6 : decode cX3_shareOf 6 = .ok (.invokevirtual 209, 3) := by decide +kernel
theorem dX3_shareOf_9 : decode cX3_shareOf 9 = .ok (.istore_n 2, 1) := by decide +kernel
theorem dX3_shareOf_10 : decode cX3_shareOf 10 = .ok (.iload_n 2, 1) := by decide +kernel
theorem dX3_shareOf_11 : decode cX3_shareOf 11 = .ok (.ifCond .ne 5, 3) := by decide +kernel
theorem dX3_shareOf_14 : decode cX3_shareOf 14 = .ok (.fconst 0, 1) := by decide +kernel
theorem dX3_shareOf_15 : decode cX3_shareOf 15 = .ok (.freturn, 1) := by decide +kernel
theorem dX3_shareOf_16 : decode cX3_shareOf 16 = .ok (.aload_n 0, 1) := by decide +kernel
theorem dX3_shareOf_17 : decode cX3_shareOf 17 = .ok (.getfield 12, 3) := by decide +kernel
theorem dX3_shareOf_20 : decode cX3_shareOf 20 = .ok (.iload_n 1, 1) := by decide +kernel
theorem dX3_shareOf_21 : decode cX3_shareOf 21 = .ok (.aload_n 0, 1) := by decide +kernel
theorem dX3_shareOf_22 : decode cX3_shareOf 22 = .ok (.iload_n 1, 1) := by decide +kernel
theorem dX3_shareOf_23 : decode cX3_shareOf 23 = .ok (.invokevirtual 212, 3) := by decide +kernel
theorem dX3_shareOf_26 : decode cX3_shareOf 26 = .ok (.invokevirtual 97, 3) := by decide +kernel
theorem dX3_shareOf_29 : decode cX3_shareOf 29 = .ok (.i2f, 1) := by decide +kernel
theorem dX3_shareOf_30 : decode cX3_shareOf 30 = .ok (.iload_n 2, 1) := by decide +kernel
theorem dX3_shareOf_31 : decode cX3_shareOf 31 = .ok (.i2f, 1) := by decide +kernel
theorem dX3_shareOf_32 : decode cX3_shareOf 32 = .ok (.fdiv, 1) := by decide +kernel
theorem dX3_shareOf_33 : decode cX3_shareOf 33 = .ok (.freturn, 1) := by decide +kernel
theorem dX3_checksum_0 : decode cX3_checksum 0 = .ok (.ldc2_w 215, 3) := by decide +kernel
theorem dX3_checksum_3 : decode cX3_checksum 3 = .ok (.lstore_n 1, 1) := by decide +kernel
theorem dX3_checksum_4 : decode cX3_checksum 4 = .ok (.lload_n 1, 1) := by decide +kernel
theorem dX3_checksum_5 : decode cX3_checksum 5 = .ok (.aload_n 0, 1) := by decide +kernel
theorem dX3_checksum_6 : decode cX3_checksum 6 = .ok (.invokevirtual 217, 3) := by decide +kernel
theorem dX3_checksum_9 : decode cX3_checksum 9 = .ok (.invokestatic 220, 3) := by decide +kernel
theorem dX3_checksum_12 : decode cX3_checksum 12 = .ok (.lstore_n 1, 1) := by decide +kernel
theorem dX3_checksum_13 : decode cX3_checksum 13 = .ok (.lload_n 1, 1) := by decide +kernel
theorem dX3_checksum_14 : decode cX3_checksum 14 = .ok (.aload_n 0, 1) := by decide +kernel
theorem dX3_checksum_15 : decode cX3_checksum 15 = .ok (.invokevirtual 224, 3) := by decide +kernel
theorem dX3_checksum_18 : decode cX3_checksum 18 = .ok (.invokestatic 220, 3) := by decide +kernel
theorem dX3_checksum_21 : decode cX3_checksum 21 = .ok (.lstore_n 1, 1) := by decide +kernel
theorem dX3_checksum_22 : decode cX3_checksum 22 = .ok (.lload_n 1, 1) := by decide +kernel
theorem dX3_checksum_23 : decode cX3_checksum 23 = .ok (.aload_n 0, 1) := by decide +kernel
theorem dX3_checksum_24 : decode cX3_checksum 24 = .ok (.invokevirtual 90, 3) := by decide +kernel
theorem dX3_checksum_27 : decode cX3_checksum 27 = .ok (.invokestatic 220, 3) := by decide +kernel
theorem dX3_checksum_30 : decode cX3_checksum 30 = .ok (.lstore_n 1, 1) := by decide +kernel
theorem dX3_checksum_31 : decode cX3_checksum 31 = .ok (.lload_n 1, 1) := by decide +kernel
theorem dX3_checksum_32 : decode cX3_checksum 32 = .ok (.aload_n 0, 1) := by decide +kernel
theorem dX3_checksum_33 : decode cX3_checksum 33 = .ok (.invokevirtual 127, 3) := by decide +kernel
theorem dX3_checksum_36 : decode cX3_checksum 36 = .ok (.invokestatic 220, 3) := by decide +kernel
theorem dX3_checksum_39 : decode cX3_checksum 39 = .ok (.lstore_n 1, 1) := by decide +kernel
theorem dX3_checksum_40 : decode cX3_checksum 40 = .ok (.lload_n 1, 1) := by decide +kernel
theorem dX3_checksum_41 : decode cX3_checksum 41 = .ok (.aload_n 0, 1) := by decide +kernel
theorem dX3_checksum_42 : decode cX3_checksum 42 = .ok (.invokevirtual 227, 3) := by decide +kernel
theorem dX3_checksum_45 : decode cX3_checksum 45 = .ok (.invokestatic 220, 3) := by decide +kernel
theorem dX3_checksum_48 : decode cX3_checksum 48 = .ok (.lstore_n 1, 1) := by decide +kernel
theorem dX3_checksum_49 : decode cX3_checksum 49 = .ok (.lload_n 1, 1) := by decide +kernel
theorem dX3_checksum_50 : decode cX3_checksum 50 = .ok (.aload_n 0, 1) := by decide +kernel
theorem dX3_checksum_51 : decode cX3_checksum 51 = .ok (.getfield 12, 3) := by decide +kernel
theorem dX3_checksum_54 : decode cX3_checksum 54 = .ok (.invokestatic 230, 3) := by decide +kernel
theorem dX3_checksum_57 : decode cX3_checksum 57 = .ok (.lstore_n 1, 1) := by decide +kernel
theorem dX3_checksum_58 : decode cX3_checksum 58 = .ok (.lload_n 1, 1) := by decide +kernel
theorem dX3_checksum_59 : decode cX3_checksum 59 = .ok (.aload_n 0, 1) := by decide +kernel
theorem dX3_checksum_60 : decode cX3_checksum 60 = .ok (.invokevirtual 209, 3) := by decide +kernel
theorem dX3_checksum_63 : decode cX3_checksum 63 = .ok (.invokestatic 220, 3) := by decide +kernel
theorem dX3_checksum_66 : decode cX3_checksum 66 = .ok (.lstore_n 1, 1) := by decide +kernel
theorem dX3_checksum_67 : decode cX3_checksum 67 = .ok (.aload_n 0, 1) := by decide +kernel
theorem dX3_checksum_68 : decode cX3_checksum 68 = .ok (.invokevirtual 143, 3) := by decide +kernel
theorem dX3_checksum_71 : decode cX3_checksum 71 = .ok (.iconst 0, 1) := by decide +kernel
theorem dX3_checksum_72 : decode cX3_checksum 72 = .ok (.istore_n 3, 1) := by decide +kernel
theorem dX3_checksum_73 : decode cX3_checksum 73 = .ok (.iload_n 3, 1) := by decide +kernel
theorem dX3_checksum_74 : decode cX3_checksum 74 = .ok (.aload_n 0, 1) := by decide +kernel
theorem dX3_checksum_75 : decode cX3_checksum 75 = .ok (.getfield 12, 3) := by decide +kernel
theorem dX3_checksum_78 : decode cX3_checksum 78 = .ok (.getfield 83, 3) := by decide +kernel
theorem dX3_checksum_81 : decode cX3_checksum 81 = .ok (.if_icmp .ge 20, 3) := by decide +kernel
theorem dX3_checksum_84 : decode cX3_checksum 84 = .ok (.lload_n 1, 1) := by decide +kernel
theorem dX3_checksum_85 : decode cX3_checksum 85 = .ok (.aload_n 0, 1) := by decide +kernel
theorem dX3_checksum_86 : decode cX3_checksum 86 = .ok (.getfield 33, 3) := by decide +kernel
theorem dX3_checksum_89 : decode cX3_checksum 89 = .ok (.iload_n 3, 1) := by decide +kernel
theorem dX3_checksum_90 : decode cX3_checksum 90 = .ok (.iaload, 1) := by decide +kernel
theorem dX3_checksum_91 : decode cX3_checksum 91 = .ok (.invokestatic 220, 3) := by decide +kernel
theorem dX3_checksum_94 : decode cX3_checksum 94 = .ok (.lstore_n 1, 1) := by decide +kernel
theorem dX3_checksum_95 : decode cX3_checksum 95 = .ok (.iinc 3 1, 3) := by decide +kernel
theorem dX3_checksum_98 : decode cX3_checksum 98 = .ok (.goto (-25), 3) := by decide +kernel
theorem dX3_checksum_101 : decode cX3_checksum 101 = .ok (.lload_n 1, 1) := by decide +kernel
theorem dX3_checksum_102 : decode cX3_checksum 102 = .ok (.aload_n 0, 1) := by decide +kernel
theorem dX3_checksum_103 : decode cX3_checksum 103 = .ok (.getfield 16, 3) := by decide +kernel
theorem dX3_checksum_106 : decode cX3_checksum 106 = .ok (.getfield 83, 3) := by decide +kernel
theorem dX3_checksum_109 : decode cX3_checksum 109 = .ok (.invokestatic 220, 3) := by decide +kernel
theorem dX3_checksum_112 : decode cX3_checksum 112 = .ok (.lstore_n 1, 1) := by decide +kernel
theorem dX3_checksum_113 : decode cX3_checksum 113 = .ok (.lload_n 1, 1) := by decide +kernel
theorem dX3_checksum_114 : decode cX3_checksum 114 = .ok (.aload_n 0, 1) := by decide +kernel
theorem dX3_checksum_115 : decode cX3_checksum 115 = .ok (.getfield 16, 3) := by decide +kernel
theorem dX3_checksum_118 : decode cX3_checksum 118 = .ok (.getfield 72, 3) := by decide +kernel
theorem dX3_checksum_121 : decode cX3_checksum 121 = .ok (.invokestatic 220, 3) := by decide +kernel
theorem dX3_checksum_124 : decode cX3_checksum 124 = .ok (.lstore_n 1, 1) := by decide +kernel
theorem dX3_checksum_125 : decode cX3_checksum 125 = .ok (.lload_n 1, 1) := by decide +kernel
theorem dX3_checksum_126 : decode cX3_checksum 126 = .ok (.aload_n 0, 1) := by decide +kernel
theorem dX3_checksum_127 : decode cX3_checksum 127 = .ok (.getfield 16, 3) := by decide +kernel
theorem dX3_checksum_130 : decode cX3_checksum 130 = .ok (.invokestatic 230, 3) := by decide +kernel
theorem dX3_checksum_133 : decode cX3_checksum 133 = .ok (.lreturn, 1) := by decide +kernel
theorem dX3_isSound_0 : decode cX3_isSound 0 = .ok (.aload_n 0, 1) := by decide +kernel
theorem dX3_isSound_1 : decode cX3_isSound 1 = .ok (.invokevirtual 149, 3) := by decide +kernel
theorem dX3_isSound_4 : decode cX3_isSound 4 = .ok (.aload_n 0, 1) := by decide +kernel
theorem dX3_isSound_5 : decode cX3_isSound 5 = .ok (.invokevirtual 143, 3) := by decide +kernel
theorem dX3_isSound_8 : decode cX3_isSound 8 = .ok (.aload_n 0, 1) := by decide +kernel
theorem dX3_isSound_9 : decode cX3_isSound 9 = .ok (.invokevirtual 234, 3) := by decide +kernel
theorem dX3_isSound_12 : decode cX3_isSound 12 = .ok (.ifCond .eq 28, 3) := by decide +kernel
theorem dX3_isSound_15 : decode cX3_isSound 15 = .ok (.aload_n 0, 1) := by decide +kernel
theorem dX3_isSound_16 : decode cX3_isSound 16 = .ok (.invokevirtual 238, 3) := by decide +kernel
theorem dX3_isSound_19 : decode cX3_isSound 19 = .ok (.ifCond .eq 21, 3) := by decide +kernel
theorem dX3_isSound_22 : decode cX3_isSound 22 = .ok (.aload_n 0, 1) := by decide +kernel
theorem dX3_isSound_23 : decode cX3_isSound 23 = .ok (.invokevirtual 241, 3) := by decide +kernel
theorem dX3_isSound_26 : decode cX3_isSound 26 = .ok (.ifCond .eq 14, 3) := by decide +kernel
theorem dX3_isSound_29 : decode cX3_isSound 29 = .ok (.aload_n 0, 1) := by decide +kernel
theorem dX3_isSound_30 : decode cX3_isSound 30 = .ok (.invokevirtual 244, 3) := by decide +kernel
theorem dX3_isSound_33 : decode cX3_isSound 33 = .ok (.ifCond .eq 7, 3) := by decide +kernel
theorem dX3_isSound_36 : decode cX3_isSound 36 = .ok (.iconst 1, 1) := by decide +kernel
theorem dX3_isSound_37 : decode cX3_isSound 37 = .ok (.goto 4, 3) := by decide +kernel
theorem dX3_isSound_40 : decode cX3_isSound 40 = .ok (.iconst 0, 1) := by decide +kernel
theorem dX3_isSound_41 : decode cX3_isSound 41 = .ok (.ireturn, 1) := by decide +kernel
theorem dX3_isColumn_0 : decode cX3_isColumn 0 = .ok (.iload_n 1, 1) := by decide +kernel
theorem dX3_isColumn_1 : decode cX3_isColumn 1 = .ok (.ifCond .lt 18, 3) := by decide +kernel
theorem dX3_isColumn_4 : decode cX3_isColumn 4 = .ok (.iload_n 1, 1) := by decide +kernel
theorem dX3_isColumn_5 : decode cX3_isColumn 5 = .ok (.aload_n 0, 1) := by decide +kernel
theorem dX3_isColumn_6 : decode cX3_isColumn 6 = .ok (.getfield 12, 3) := by decide +kernel
theorem dX3_isColumn_9 : decode cX3_isColumn 9 = .ok (.getfield 83, 3) := by decide +kernel
theorem dX3_isColumn_12 : decode cX3_isColumn 12 = .ok (.if_icmp .ge 7, 3) := by decide +kernel
theorem dX3_isColumn_15 : decode cX3_isColumn 15 = .ok (.iconst 1, 1) := by decide +kernel
theorem dX3_isColumn_16 : decode cX3_isColumn 16 = .ok (.goto 4, 3) := by decide +kernel
theorem dX3_isColumn_19 : decode cX3_isColumn 19 = .ok (.iconst 0, 1) := by decide +kernel
theorem dX3_isColumn_20 : decode cX3_isColumn 20 = .ok (.ireturn, 1) := by decide +kernel
theorem dX3_requireRow_0 : decode cX3_requireRow 0 = .ok (.iload_n 1, 1) := by decide +kernel
theorem dX3_requireRow_1 : decode cX3_requireRow 1 = .ok (.ifCond .lt 14, 3) := by decide +kernel
theorem dX3_requireRow_4 : decode cX3_requireRow 4 = .ok (.iload_n 1, 1) := by decide +kernel
theorem dX3_requireRow_5 : decode cX3_requireRow 5 = .ok (.aload_n 0, 1) := by decide +kernel
theorem dX3_requireRow_6 : decode cX3_requireRow 6 = .ok (.getfield 12, 3) := by decide +kernel
theorem dX3_requireRow_9 : decode cX3_requireRow 9 = .ok (.getfield 83, 3) := by decide +kernel
theorem dX3_requireRow_12 : decode cX3_requireRow 12 = .ok (.if_icmp .lt 11, 3) := by decide +kernel
theorem dX3_requireRow_15 : decode cX3_requireRow 15 = .ok (.new 247, 3) := by decide +kernel
theorem dX3_requireRow_18 : decode cX3_requireRow 18 = .ok (.dup, 1) := by decide +kernel
theorem dX3_requireRow_19 : decode cX3_requireRow 19 = .ok (.invokespecial 249, 3) := by decide +kernel
theorem dX3_requireRow_22 : decode cX3_requireRow 22 = .ok (.athrow, 1) := by decide +kernel
theorem dX3_requireRow_23 : decode cX3_requireRow 23 = .ok (.return_, 1) := by decide +kernel
theorem dX3_requireColumn_0 : decode cX3_requireColumn 0 = .ok (.aload_n 0, 1) := by decide +kernel
theorem dX3_requireColumn_1 : decode cX3_requireColumn 1 = .ok (.iload_n 1, 1) := by decide +kernel
theorem dX3_requireColumn_2 : decode cX3_requireColumn 2 = .ok (.invokevirtual 177, 3) := by decide +kernel
theorem dX3_requireColumn_5 : decode cX3_requireColumn 5 = .ok (.ifCond .ne 11, 3) := by decide +kernel
theorem dX3_requireColumn_8 : decode cX3_requireColumn 8 = .ok (.new 247, 3) := by decide +kernel
theorem dX3_requireColumn_11 : decode cX3_requireColumn 11 = .ok (.dup, 1) := by decide +kernel
theorem dX3_requireColumn_12 : decode cX3_requireColumn 12 = .ok (.invokespecial 249, 3) := by decide +kernel
theorem dX3_requireColumn_15 : decode cX3_requireColumn 15 = .ok (.athrow, 1) := by decide +kernel
theorem dX3_requireColumn_16 : decode cX3_requireColumn 16 = .ok (.return_, 1) := by decide +kernel
theorem dX3_requireRealColumn_0 : decode cX3_requireRealColumn 0 = .ok (.iload_n 1, 1) := by decide +kernel
theorem dX3_requireRealColumn_1 : decode cX3_requireRealColumn 1 = .ok (.ifCond .lt 14, 3) := by decide +kernel
theorem dX3_requireRealColumn_4 : decode cX3_requireRealColumn 4 = .ok (.iload_n 1, 1) := by decide +kernel
theorem dX3_requireRealColumn_5 : decode cX3_requireRealColumn 5 = .ok (.aload_n 0, 1) := by decide +kernel
theorem dX3_requireRealColumn_6 : decode cX3_requireRealColumn 6 = .ok (.getfield 12, 3) := by decide +kernel
theorem dX3_requireRealColumn_9 : decode cX3_requireRealColumn 9 = .ok (.getfield 72, 3) := by decide +kernel
theorem dX3_requireRealColumn_12 : decode cX3_requireRealColumn 12 = .ok (.if_icmp .lt 11, 3) := by decide +kernel
theorem dX3_requireRealColumn_15 : decode cX3_requireRealColumn 15 = .ok (.new 247, 3) := by decide +kernel
theorem dX3_requireRealColumn_18 : decode cX3_requireRealColumn 18 = .ok (.dup, 1) := by decide +kernel
theorem dX3_requireRealColumn_19 : decode cX3_requireRealColumn 19 = .ok (.invokespecial 249, 3) := by decide +kernel
theorem dX3_requireRealColumn_22 : decode cX3_requireRealColumn 22 = .ok (.athrow, 1) := by decide +kernel
theorem dX3_requireRealColumn_23 : decode cX3_requireRealColumn 23 = .ok (.return_, 1) := by decide +kernel
theorem dX3_requireCell_0 : decode cX3_requireCell 0 = .ok (.aload_n 0, 1) := by decide +kernel
theorem dX3_requireCell_1 : decode cX3_requireCell 1 = .ok (.iload_n 1, 1) := by decide +kernel
theorem dX3_requireCell_2 : decode cX3_requireCell 2 = .ok (.invokevirtual 64, 3) := by decide +kernel
theorem dX3_requireCell_5 : decode cX3_requireCell 5 = .ok (.aload_n 0, 1) := by decide +kernel
theorem dX3_requireCell_6 : decode cX3_requireCell 6 = .ok (.iload_n 2, 1) := by decide +kernel
theorem dX3_requireCell_7 : decode cX3_requireCell 7 = .ok (.invokevirtual 152, 3) := by decide +kernel
theorem dX3_requireCell_10 : decode cX3_requireCell 10 = .ok (.return_, 1) := by decide +kernel
theorem dX3_requireRealCell_0 : decode cX3_requireRealCell 0 = .ok (.aload_n 0, 1) := by decide +kernel
theorem dX3_requireRealCell_1 : decode cX3_requireRealCell 1 = .ok (.iload_n 1, 1) := by decide +kernel
theorem dX3_requireRealCell_2 : decode cX3_requireRealCell 2 = .ok (.invokevirtual 64, 3) := by decide +kernel
theorem dX3_requireRealCell_5 : decode cX3_requireRealCell 5 = .ok (.aload_n 0, 1) := by decide +kernel
theorem dX3_requireRealCell_6 : decode cX3_requireRealCell 6 = .ok (.iload_n 2, 1) := by decide +kernel
theorem dX3_requireRealCell_7 : decode cX3_requireRealCell 7 = .ok (.invokevirtual 113, 3) := by decide +kernel
theorem dX3_requireRealCell_10 : decode cX3_requireRealCell 10 = .ok (.return_, 1) := by decide +kernel
theorem dX3_requireAddend_0 : decode cX3_requireAddend 0 = .ok (.iload_n 1, 1) := by decide +kernel
theorem dX3_requireAddend_1 : decode cX3_requireAddend 1 = .ok (.bipush (-99), 2) := by decide +kernel
theorem dX3_requireAddend_3 : decode cX3_requireAddend 3 = .ok (.if_icmp .lt 9, 3) := by decide +kernel
theorem dX3_requireAddend_6 : decode cX3_requireAddend 6 = .ok (.iload_n 1, 1) := by decide +kernel
theorem dX3_requireAddend_7 : decode cX3_requireAddend 7 = .ok (.bipush 99, 2) := by decide +kernel
theorem dX3_requireAddend_9 : decode cX3_requireAddend 9 = .ok (.if_icmp .le 11, 3) := by decide +kernel
theorem dX3_requireAddend_12 : decode cX3_requireAddend 12 = .ok (.new 43, 3) := by decide +kernel
theorem dX3_requireAddend_15 : decode cX3_requireAddend 15 = .ok (.dup, 1) := by decide +kernel
theorem dX3_requireAddend_16 : decode cX3_requireAddend 16 = .ok (.invokespecial 45, 3) := by decide +kernel
theorem dX3_requireAddend_19 : decode cX3_requireAddend 19 = .ok (.athrow, 1) := by decide +kernel
theorem dX3_requireAddend_20 : decode cX3_requireAddend 20 = .ok (.return_, 1) := by decide +kernel
theorem dX3_requireNoDummyColumn_0 : decode cX3_requireNoDummyColumn 0 = .ok (.aload_n 0, 1) := by decide +kernel
theorem dX3_requireNoDummyColumn_1 : decode cX3_requireNoDummyColumn 1 = .ok (.getfield 12, 3) := by decide +kernel
theorem dX3_requireNoDummyColumn_4 : decode cX3_requireNoDummyColumn 4 = .ok (.getfield 72, 3) := by decide +kernel
theorem dX3_requireNoDummyColumn_7 : decode cX3_requireNoDummyColumn 7 = .ok (.aload_n 0, 1) := by decide +kernel
theorem dX3_requireNoDummyColumn_8 : decode cX3_requireNoDummyColumn 8 = .ok (.getfield 12, 3) := by decide +kernel
theorem dX3_requireNoDummyColumn_11 : decode cX3_requireNoDummyColumn 11 = .ok (.getfield 83, 3) := by decide +kernel
theorem dX3_requireNoDummyColumn_14 : decode cX3_requireNoDummyColumn 14 = .ok (.if_icmp .ge 11, 3) := by decide +kernel
theorem dX3_requireNoDummyColumn_17 : decode cX3_requireNoDummyColumn 17 = .ok (.new 181, 3) := by decide +kernel
theorem dX3_requireNoDummyColumn_20 : decode cX3_requireNoDummyColumn 20 = .ok (.dup, 1) := by decide +kernel
theorem dX3_requireNoDummyColumn_21 : decode cX3_requireNoDummyColumn 21 = .ok (.invokespecial 183, 3) := by decide +kernel
theorem dX3_requireNoDummyColumn_24 : decode cX3_requireNoDummyColumn 24 = .ok (.athrow, 1) := by decide +kernel
theorem dX3_requireNoDummyColumn_25 : decode cX3_requireNoDummyColumn 25 = .ok (.return_, 1) := by decide +kernel
theorem dX3_requireAddable_0 : decode cX3_requireAddable 0 = .ok (.aload_n 0, 1) := by decide +kernel
theorem dX3_requireAddable_1 : decode cX3_requireAddable 1 = .ok (.getfield 12, 3) := by decide +kernel
theorem dX3_requireAddable_4 : decode cX3_requireAddable 4 = .ok (.iload_n 1, 1) := by decide +kernel
theorem dX3_requireAddable_5 : decode cX3_requireAddable 5 = .ok (.iload_n 2, 1) := by decide +kernel
theorem dX3_requireAddable_6 : decode cX3_requireAddable 6 = .ok (.invokevirtual 56, 3) := by decide +kernel
theorem dX3_requireAddable_9 : decode cX3_requireAddable 9 = .ok (.iload_n 3, 1) := by decide +kernel
theorem dX3_requireAddable_10 : decode cX3_requireAddable 10 = .ok (.iadd, 1) := by decide +kernel
theorem dX3_requireAddable_11 : decode cX3_requireAddable 11 = .ok (.istore 4, 2) := by decide +kernel
theorem dX3_requireAddable_13 : decode cX3_requireAddable 13 = .ok (.aload_n 0, 1) := by decide +kernel
theorem dX3_requireAddable_14 : decode cX3_requireAddable 14 = .ok (.getfield 12, 3) := by decide +kernel
theorem dX3_requireAddable_17 : decode cX3_requireAddable 17 = .ok (.iload_n 1, 1) := by decide +kernel
theorem dX3_requireAddable_18 : decode cX3_requireAddable 18 = .ok (.iload_n 2, 1) := by decide +kernel
theorem dX3_requireAddable_19 : decode cX3_requireAddable 19 = .ok (.invokevirtual 133, 3) := by decide +kernel
theorem dX3_requireAddable_22 : decode cX3_requireAddable 22 = .ok (.ifCond .ne 15, 3) := by decide +kernel
theorem dX3_requireAddable_25 : decode cX3_requireAddable 25 = .ok (.iload 4, 2) := by decide +kernel
theorem dX3_requireAddable_27 : decode cX3_requireAddable 27 = .ok (.ifCond .lt 10, 3) := by decide +kernel
theorem dX3_requireAddable_30 : decode cX3_requireAddable 30 = .ok (.iload 4, 2) := by decide +kernel
theorem dX3_requireAddable_32 : decode cX3_requireAddable 32 = .ok (.bipush 99, 2) := by decide +kernel
theorem dX3_requireAddable_34 : decode cX3_requireAddable 34 = .ok (.if_icmp .le 11, 3) := by decide +kernel
theorem dX3_requireAddable_37 : decode cX3_requireAddable 37 = .ok (.new 181, 3) := by decide +kernel
theorem dX3_requireAddable_40 : decode cX3_requireAddable 40 = .ok (.dup, 1) := by decide +kernel
theorem dX3_requireAddable_41 : decode cX3_requireAddable 41 = .ok (.invokespecial 183, 3) := by decide +kernel
theorem dX3_requireAddable_44 : decode cX3_requireAddable 44 = .ok (.athrow, 1) := by decide +kernel
theorem dX3_requireAddable_45 : decode cX3_requireAddable 45 = .ok (.return_, 1) := by decide +kernel
theorem dX3_packedBound_0 : decode cX3_packedBound 0 = .ok (.lconst 1, 1) := by decide +kernel
theorem dX3_packedBound_1 : decode cX3_packedBound 1 = .ok (.lstore_n 1, 1) := by decide +kernel
theorem dX3_packedBound_2 : decode cX3_packedBound 2 = .ok (.iconst 0, 1) := by decide +kernel
theorem dX3_packedBound_3 : decode cX3_packedBound 3 = .ok (.istore_n 3, 1) := by decide +kernel
theorem dX3_packedBound_4 : decode cX3_packedBound 4 = .ok (.iload_n 3, 1) := by decide +kernel
theorem dX3_packedBound_5 : decode cX3_packedBound 5 = .ok (.aload_n 0, 1) := by decide +kernel
theorem dX3_packedBound_6 : decode cX3_packedBound 6 = .ok (.getfield 12, 3) := by decide +kernel
theorem dX3_packedBound_9 : decode cX3_packedBound 9 = .ok (.getfield 72, 3) := by decide +kernel
theorem dX3_packedBound_12 : decode cX3_packedBound 12 = .ok (.if_icmp .ge 15, 3) := by decide +kernel
theorem dX3_packedBound_15 : decode cX3_packedBound 15 = .ok (.lload_n 1, 1) := by decide +kernel
theorem dX3_packedBound_16 : decode cX3_packedBound 16 = .ok (.ldc2_w 76, 3) := by decide +kernel
theorem dX3_packedBound_19 : decode cX3_packedBound 19 = .ok (.lmul, 1) := by decide +kernel
theorem dX3_packedBound_20 : decode cX3_packedBound 20 = .ok (.lstore_n 1, 1) := by decide +kernel
theorem dX3_packedBound_21 : decode cX3_packedBound 21 = .ok (.iinc 3 1, 3) := by decide +kernel
theorem dX3_packedBound_24 : decode cX3_packedBound 24 = .ok (.goto (-20), 3) := by decide +kernel
theorem dX3_packedBound_27 : decode cX3_packedBound 27 = .ok (.lload_n 1, 1) := by decide +kernel
theorem dX3_packedBound_28 : decode cX3_packedBound 28 = .ok (.lreturn, 1) := by decide +kernel
theorem dX3_findFirstOptimal_0 : decode cX3_findFirstOptimal 0 = .ok (.aload_n 0, 1) := by decide +kernel
theorem dX3_findFirstOptimal_1 : decode cX3_findFirstOptimal 1 = .ok (.getfield 22, 3) := by decide +kernel
theorem dX3_findFirstOptimal_4 : decode cX3_findFirstOptimal 4 = .ok (.aload_n 0, 1) := by decide +kernel
theorem dX3_findFirstOptimal_5 : decode cX3_findFirstOptimal 5 = .ok (.getfield 12, 3) := by decide +kernel
theorem dX3_findFirstOptimal_8 : decode cX3_findFirstOptimal 8 = .ok (.invokevirtual 137, 3) := by decide +kernel
theorem dX3_findFirstOptimal_11 : decode cX3_findFirstOptimal 11 = .ok (.aload_n 0, 1) := by decide +kernel
theorem dX3_findFirstOptimal_12 : decode cX3_findFirstOptimal 12 = .ok (.getfield 22, 3) := by decide +kernel
theorem dX3_findFirstOptimal_15 : decode cX3_findFirstOptimal 15 = .ok (.invokevirtual 140, 3) := by decide +kernel
theorem dX3_findFirstOptimal_18 : decode cX3_findFirstOptimal 18 = .ok (.pop, 1) := by decide +kernel
theorem dX3_findFirstOptimal_19 : decode cX3_findFirstOptimal 19 = .ok (.aload_n 0, 1) := by decide +kernel
theorem dX3_findFirstOptimal_20 : decode cX3_findFirstOptimal 20 = .ok (.getfield 22, 3) := by decide +kernel
theorem dX3_findFirstOptimal_23 : decode cX3_findFirstOptimal 23 = .ok (.aload_n 0, 1) := by decide +kernel
theorem dX3_findFirstOptimal_24 : decode cX3_findFirstOptimal 24 = .ok (.getfield 33, 3) := by decide +kernel
theorem dX3_findFirstOptimal_27 : decode cX3_findFirstOptimal 27 = .ok (.invokevirtual 250, 3) := by decide +kernel
theorem dX3_findFirstOptimal_30 : decode cX3_findFirstOptimal 30 = .ok (.return_, 1) := by decide +kernel
theorem dX3_leastWithCost_0 : decode cX3_leastWithCost 0 = .ok (.aload_n 0, 1) := by decide +kernel
theorem dX3_leastWithCost_1 : decode cX3_leastWithCost 1 = .ok (.getfield 22, 3) := by decide +kernel
theorem dX3_leastWithCost_4 : decode cX3_leastWithCost 4 = .ok (.aload_n 0, 1) := by decide +kernel
theorem dX3_leastWithCost_5 : decode cX3_leastWithCost 5 = .ok (.getfield 12, 3) := by decide +kernel
theorem dX3_leastWithCost_8 : decode cX3_leastWithCost 8 = .ok (.invokevirtual 137, 3) := by decide +kernel
theorem dX3_leastWithCost_11 : decode cX3_leastWithCost 11 = .ok (.aload_n 0, 1) := by decide +kernel
theorem dX3_leastWithCost_12 : decode cX3_leastWithCost 12 = .ok (.getfield 22, 3) := by decide +kernel
theorem dX3_leastWithCost_15 : decode cX3_leastWithCost 15 = .ok (.iload_n 1, 1) := by decide +kernel
theorem dX3_leastWithCost_16 : decode cX3_leastWithCost 16 = .ok (.iload_n 2, 1) := by decide +kernel
theorem dX3_leastWithCost_17 : decode cX3_leastWithCost 17 = .ok (.iload_n 3, 1) := by decide +kernel
theorem dX3_leastWithCost_18 : decode cX3_leastWithCost 18 = .ok (.invokevirtual 159, 3) := by decide +kernel
theorem dX3_leastWithCost_21 : decode cX3_leastWithCost 21 = .ok (.aload_n 0, 1) := by decide +kernel
theorem dX3_leastWithCost_22 : decode cX3_leastWithCost 22 = .ok (.getfield 22, 3) := by decide +kernel
theorem dX3_leastWithCost_25 : decode cX3_leastWithCost 25 = .ok (.invokevirtual 140, 3) := by decide +kernel
theorem dX3_leastWithCost_28 : decode cX3_leastWithCost 28 = .ok (.ireturn, 1) := by decide +kernel
theorem dX3_findPotentials_0 : decode cX3_findPotentials 0 = .ok (.aload_n 0, 1) := by decide +kernel
theorem dX3_findPotentials_1 : decode cX3_findPotentials 1 = .ok (.invokevirtual 209, 3) := by decide +kernel
theorem dX3_findPotentials_4 : decode cX3_findPotentials 4 = .ok (.istore_n 1, 1) := by decide +kernel
theorem dX3_findPotentials_5 : decode cX3_findPotentials 5 = .ok (.iconst 0, 1) := by decide +kernel
theorem dX3_findPotentials_6 : decode cX3_findPotentials 6 = .ok (.istore_n 2, 1) := by decide +kernel
theorem dX3_findPotentials_7 : decode cX3_findPotentials 7 = .ok (.iload_n 2, 1) := by decide +kernel
theorem dX3_findPotentials_8 : decode cX3_findPotentials 8 = .ok (.aload_n 0, 1) := by decide +kernel
theorem dX3_findPotentials_9 : decode cX3_findPotentials 9 = .ok (.getfield 12, 3) := by decide +kernel
theorem dX3_findPotentials_12 : decode cX3_findPotentials 12 = .ok (.getfield 83, 3) := by decide +kernel
theorem dX3_findPotentials_15 : decode cX3_findPotentials 15 = .ok (.if_icmp .ge 35, 3) := by decide +kernel
theorem dX3_findPotentials_18 : decode cX3_findPotentials 18 = .ok (.aload_n 0, 1) := by decide +kernel
theorem dX3_findPotentials_19 : decode cX3_findPotentials 19 = .ok (.iload_n 2, 1) := by decide +kernel
theorem dX3_findPotentials_20 : decode cX3_findPotentials 20 = .ok (.iconst 0, 1) := by decide +kernel
theorem dX3_findPotentials_21 : decode cX3_findPotentials 21 = .ok (.invokevirtual 254, 3) := by decide +kernel
theorem dX3_findPotentials_24 : decode cX3_findPotentials 24 = .ok (.aload_n 0, 1) := by decide +kernel
theorem dX3_findPotentials_25 : decode cX3_findPotentials 25 = .ok (.getfield 12, 3) := by decide +kernel
theorem dX3_findPotentials_28 : decode cX3_findPotentials 28 = .ok (.iload_n 2, 1) := by decide +kernel
theorem dX3_findPotentials_29 : decode cX3_findPotentials 29 = .ok (.iconst 0, 1) := by decide +kernel
theorem dX3_findPotentials_30 : decode cX3_findPotentials 30 = .ok (.invokevirtual 97, 3) := by decide +kernel
theorem dX3_findPotentials_33 : decode cX3_findPotentials 33 = .ok (.isub, 1) := by decide +kernel
theorem dX3_findPotentials_34 : decode cX3_findPotentials 34 = .ok (.istore_n 3, 1) := by decide +kernel
theorem dX3_findPotentials_35 : decode cX3_findPotentials 35 = .ok (.aload_n 0, 1) := by decide +kernel
theorem dX3_findPotentials_36 : decode cX3_findPotentials 36 = .ok (.getfield 26, 3) := by decide +kernel
theorem dX3_findPotentials_39 : decode cX3_findPotentials 39 = .ok (.iload_n 2, 1) := by decide +kernel
theorem dX3_findPotentials_40 : decode cX3_findPotentials 40 = .ok (.iload_n 1, 1) := by decide +kernel
theorem dX3_findPotentials_41 : decode cX3_findPotentials 41 = .ok (.iload_n 3, 1) := by decide +kernel
theorem dX3_findPotentials_42 : decode cX3_findPotentials 42 = .ok (.isub, 1) := by decide +kernel
theorem dX3_findPotentials_43 : decode cX3_findPotentials 43 = .ok (.iastore, 1) := by decide +kernel
theorem dX3_findPotentials_44 : decode cX3_findPotentials 44 = .ok (.iinc 2 1, 3) := by decide +kernel
theorem dX3_findPotentials_47 : decode cX3_findPotentials 47 = .ok (.goto (-40), 3) := by decide +kernel
theorem dX3_findPotentials_50 : decode cX3_findPotentials 50 = .ok (.iconst 0, 1) := by decide +kernel
theorem dX3_findPotentials_51 : decode cX3_findPotentials 51 = .ok (.istore_n 2, 1) := by decide +kernel
theorem dX3_findPotentials_52 : decode cX3_findPotentials 52 = .ok (.iload_n 2, 1) := by decide +kernel
theorem dX3_findPotentials_53 : decode cX3_findPotentials 53 = .ok (.aload_n 0, 1) := by decide +kernel
theorem dX3_findPotentials_54 : decode cX3_findPotentials 54 = .ok (.getfield 12, 3) := by decide +kernel
theorem dX3_findPotentials_57 : decode cX3_findPotentials 57 = .ok (.getfield 83, 3) := by decide +kernel
theorem dX3_findPotentials_60 : decode cX3_findPotentials 60 = .ok (.if_icmp .ge 20, 3) := by decide +kernel
theorem dX3_findPotentials_63 : decode cX3_findPotentials 63 = .ok (.aload_n 0, 1) := by decide +kernel
theorem dX3_findPotentials_64 : decode cX3_findPotentials 64 = .ok (.getfield 30, 3) := by decide +kernel
theorem dX3_findPotentials_67 : decode cX3_findPotentials 67 = .ok (.iload_n 2, 1) := by decide +kernel
theorem dX3_findPotentials_68 : decode cX3_findPotentials 68 = .ok (.aload_n 0, 1) := by decide +kernel
theorem dX3_findPotentials_69 : decode cX3_findPotentials 69 = .ok (.iload_n 2, 1) := by decide +kernel
end
section
theorem dX3_findPotentials_70 : decode cX3_findPotentials 70 = .ok (.invokevirtual 257, 3) := by decide +kernel
theorem dX3_findPotentials_73 : decode cX3_findPotentials 73 = .ok (.iastore, 1) := by decide +kernel
theorem dX3_findPotentials_74 : decode cX3_findPotentials 74 = .ok (.iinc 2 1, 3) := by decide +kernel
theorem dX3_findPotentials_77 : decode cX3_findPotentials 77 = .ok (.goto (-25), 3) := by decide +kernel
theorem dX3_findPotentials_80 : decode cX3_findPotentials 80 = .ok (.return_, 1) := by decide +kernel
theorem dX3_smallestRest_0 : decode cX3_smallestRest 0 = .ok (.aload_n 0, 1) := by decide +kernel
theorem dX3_smallestRest_1 : decode cX3_smallestRest 1 = .ok (.getfield 12, 3) := by decide +kernel
theorem dX3_smallestRest_4 : decode cX3_smallestRest 4 = .ok (.iconst 0, 1) := by decide +kernel
theorem dX3_smallestRest_5 : decode cX3_smallestRest 5 = .ok (.iload_n 1, 1) := by decide +kernel
theorem dX3_smallestRest_6 : decode cX3_smallestRest 6 = .ok (.invokevirtual 97, 3) := by decide +kernel
theorem dX3_smallestRest_9 : decode cX3_smallestRest 9 = .ok (.aload_n 0, 1) := by decide +kernel
theorem dX3_smallestRest_10 : decode cX3_smallestRest 10 = .ok (.getfield 26, 3) := by decide +kernel
theorem dX3_smallestRest_13 : decode cX3_smallestRest 13 = .ok (.iconst 0, 1) := by decide +kernel
theorem dX3_smallestRest_14 : decode cX3_smallestRest 14 = .ok (.iaload, 1) := by decide +kernel
theorem dX3_smallestRest_15 : decode cX3_smallestRest 15 = .ok (.isub, 1) := by decide +kernel
theorem dX3_smallestRest_16 : decode cX3_smallestRest 16 = .ok (.istore_n 2, 1) := by decide +kernel
theorem dX3_smallestRest_17 : decode cX3_smallestRest 17 = .ok (.iconst 1, 1) := by decide +kernel
theorem dX3_smallestRest_18 : decode cX3_smallestRest 18 = .ok (.istore_n 3, 1) := by decide +kernel
theorem dX3_smallestRest_19 : decode cX3_smallestRest 19 = .ok (.iload_n 3, 1) := by decide +kernel
theorem dX3_smallestRest_20 : decode cX3_smallestRest 20 = .ok (.aload_n 0, 1) := by decide +kernel
theorem dX3_smallestRest_21 : decode cX3_smallestRest 21 = .ok (.getfield 12, 3) := by decide +kernel
theorem dX3_smallestRest_24 : decode cX3_smallestRest 24 = .ok (.getfield 83, 3) := by decide +kernel
theorem dX3_smallestRest_27 : decode cX3_smallestRest 27 = .ok (.if_icmp .ge 30, 3) := by decide +kernel
theorem dX3_smallestRest_30 : decode cX3_smallestRest 30 = .ok (.iload_n 2, 1) := by decide +kernel
theorem dX3_smallestRest_31 : decode cX3_smallestRest 31 = .ok (.aload_n 0, 1) := by decide +kernel
theorem dX3_smallestRest_32 : decode cX3_smallestRest 32 = .ok (.getfield 12, 3) := by decide +kernel
theorem dX3_smallestRest_35 : decode cX3_smallestRest 35 = .ok (.iload_n 3, 1) := by decide +kernel
theorem dX3_smallestRest_36 : decode cX3_smallestRest 36 = .ok (.iload_n 1, 1) := by decide +kernel
theorem dX3_smallestRest_37 : decode cX3_smallestRest 37 = .ok (.invokevirtual 97, 3) := by decide +kernel
theorem dX3_smallestRest_40 : decode cX3_smallestRest 40 = .ok (.aload_n 0, 1) := by decide +kernel
theorem dX3_smallestRest_41 : decode cX3_smallestRest 41 = .ok (.getfield 26, 3) := by decide +kernel
theorem dX3_smallestRest_44 : decode cX3_smallestRest 44 = .ok (.iload_n 3, 1) := by decide +kernel
theorem dX3_smallestRest_45 : decode cX3_smallestRest 45 = .ok (.iaload, 1) := by decide +kernel
theorem dX3_smallestRest_46 : decode cX3_smallestRest 46 = .ok (.isub, 1) := by decide +kernel
theorem dX3_smallestRest_47 : decode cX3_smallestRest 47 = .ok (.invokestatic 78, 3) := by decide +kernel
theorem dX3_smallestRest_50 : decode cX3_smallestRest 50 = .ok (.istore_n 2, 1) := by decide +kernel
theorem dX3_smallestRest_51 : decode cX3_smallestRest 51 = .ok (.iinc 3 1, 3) := by decide +kernel
theorem dX3_smallestRest_54 : decode cX3_smallestRest 54 = .ok (.goto (-35), 3) := by decide +kernel
theorem dX3_smallestRest_57 : decode cX3_smallestRest 57 = .ok (.iload_n 2, 1) := by decide +kernel
theorem dX3_smallestRest_58 : decode cX3_smallestRest 58 = .ok (.ireturn, 1) := by decide +kernel
theorem dX3_reducedBy_0 : decode cX3_reducedBy 0 = .ok (.aload_n 0, 1) := by decide +kernel
theorem dX3_reducedBy_1 : decode cX3_reducedBy 1 = .ok (.getfield 12, 3) := by decide +kernel
theorem dX3_reducedBy_4 : decode cX3_reducedBy 4 = .ok (.iload_n 1, 1) := by decide +kernel
theorem dX3_reducedBy_5 : decode cX3_reducedBy 5 = .ok (.iload_n 2, 1) := by decide +kernel
theorem dX3_reducedBy_6 : decode cX3_reducedBy 6 = .ok (.invokevirtual 97, 3) := by decide +kernel
theorem dX3_reducedBy_9 : decode cX3_reducedBy 9 = .ok (.aload_n 0, 1) := by decide +kernel
theorem dX3_reducedBy_10 : decode cX3_reducedBy 10 = .ok (.getfield 26, 3) := by decide +kernel
theorem dX3_reducedBy_13 : decode cX3_reducedBy 13 = .ok (.iload_n 1, 1) := by decide +kernel
theorem dX3_reducedBy_14 : decode cX3_reducedBy 14 = .ok (.iaload, 1) := by decide +kernel
theorem dX3_reducedBy_15 : decode cX3_reducedBy 15 = .ok (.isub, 1) := by decide +kernel
theorem dX3_reducedBy_16 : decode cX3_reducedBy 16 = .ok (.aload_n 0, 1) := by decide +kernel
theorem dX3_reducedBy_17 : decode cX3_reducedBy 17 = .ok (.getfield 30, 3) := by decide +kernel
theorem dX3_reducedBy_20 : decode cX3_reducedBy 20 = .ok (.iload_n 2, 1) := by decide +kernel
theorem dX3_reducedBy_21 : decode cX3_reducedBy 21 = .ok (.iaload, 1) := by decide +kernel
theorem dX3_reducedBy_22 : decode cX3_reducedBy 22 = .ok (.isub, 1) := by decide +kernel
theorem dX3_reducedBy_23 : decode cX3_reducedBy 23 = .ok (.ireturn, 1) := by decide +kernel
theorem dX3_potentialsAddUp_0 : decode cX3_potentialsAddUp 0 = .ok (.iconst 0, 1) := by decide +kernel
theorem dX3_potentialsAddUp_1 : decode cX3_potentialsAddUp 1 = .ok (.istore_n 1, 1) := by decide +kernel
theorem dX3_potentialsAddUp_2 : decode cX3_potentialsAddUp 2 = .ok (.iconst 0, 1) := by decide +kernel
theorem dX3_potentialsAddUp_3 : decode cX3_potentialsAddUp 3 = .ok (.istore_n 2, 1) := by decide +kernel
theorem dX3_potentialsAddUp_4 : decode cX3_potentialsAddUp 4 = .ok (.iload_n 2, 1) := by decide +kernel
theorem dX3_potentialsAddUp_5 : decode cX3_potentialsAddUp 5 = .ok (.aload_n 0, 1) := by decide +kernel
theorem dX3_potentialsAddUp_6 : decode cX3_potentialsAddUp 6 = .ok (.getfield 12, 3) := by decide +kernel
theorem dX3_potentialsAddUp_9 : decode cX3_potentialsAddUp 9 = .ok (.getfield 83, 3) := by decide +kernel
theorem dX3_potentialsAddUp_12 : decode cX3_potentialsAddUp 12 = .ok (.if_icmp .ge 25, 3) := by decide +kernel
theorem dX3_potentialsAddUp_15 : decode cX3_potentialsAddUp 15 = .ok (.iload_n 1, 1) := by decide +kernel
theorem dX3_potentialsAddUp_16 : decode cX3_potentialsAddUp 16 = .ok (.aload_n 0, 1) := by decide +kernel
theorem dX3_potentialsAddUp_17 : decode cX3_potentialsAddUp 17 = .ok (.getfield 26, 3) := by decide +kernel
theorem dX3_potentialsAddUp_20 : decode cX3_potentialsAddUp 20 = .ok (.iload_n 2, 1) := by decide +kernel
theorem dX3_potentialsAddUp_21 : decode cX3_potentialsAddUp 21 = .ok (.iaload, 1) := by decide +kernel
theorem dX3_potentialsAddUp_22 : decode cX3_potentialsAddUp 22 = .ok (.aload_n 0, 1) := by decide +kernel
theorem dX3_potentialsAddUp_23 : decode cX3_potentialsAddUp 23 = .ok (.getfield 30, 3) := by decide +kernel
theorem dX3_potentialsAddUp_26 : decode cX3_potentialsAddUp 26 = .ok (.iload_n 2, 1) := by decide +kernel
theorem dX3_potentialsAddUp_27 : decode cX3_potentialsAddUp 27 = .ok (.iaload, 1) := by decide +kernel
theorem dX3_potentialsAddUp_28 : decode cX3_potentialsAddUp 28 = .ok (.iadd, 1) := by decide +kernel
theorem dX3_potentialsAddUp_29 : decode cX3_potentialsAddUp 29 = .ok (.iadd, 1) := by decide +kernel
theorem dX3_potentialsAddUp_30 : decode cX3_potentialsAddUp 30 = .ok (.istore_n 1, 1) := by decide +kernel
theorem dX3_potentialsAddUp_31 : decode cX3_potentialsAddUp 31 = .ok (.iinc 2 1, 3) := by decide +kernel
theorem dX3_potentialsAddUp_34 : decode cX3_potentialsAddUp 34 = .ok (.goto (-30), 3) := by decide +kernel
theorem dX3_potentialsAddUp_37 : decode cX3_potentialsAddUp 37 = .ok (.iload_n 1, 1) := by decide +kernel
theorem dX3_potentialsAddUp_38 : decode cX3_potentialsAddUp 38 = .ok (.aload_n 0, 1) := by decide +kernel
theorem dX3_potentialsAddUp_39 : decode cX3_potentialsAddUp 39 = .ok (.invokevirtual 209, 3) := by decide +kernel
theorem dX3_potentialsAddUp_42 : decode cX3_potentialsAddUp 42 = .ok (.if_icmp .ne 7, 3) := by decide +kernel
theorem dX3_potentialsAddUp_45 : decode cX3_potentialsAddUp 45 = .ok (.iconst 1, 1) := by decide +kernel
theorem dX3_potentialsAddUp_46 : decode cX3_potentialsAddUp 46 = .ok (.goto 4, 3) := by decide +kernel
theorem dX3_potentialsAddUp_49 : decode cX3_potentialsAddUp 49 = .ok (.iconst 0, 1) := by decide +kernel
theorem dX3_potentialsAddUp_50 : decode cX3_potentialsAddUp 50 = .ok (.ireturn, 1) := by decide +kernel
theorem dX3_reducedCostsHold_0 : decode cX3_reducedCostsHold 0 = .ok (.iconst 0, 1) := by decide +kernel
theorem dX3_reducedCostsHold_1 : decode cX3_reducedCostsHold 1 = .ok (.istore_n 1, 1) := by decide +kernel
theorem dX3_reducedCostsHold_2 : decode cX3_reducedCostsHold 2 = .ok (.iload_n 1, 1) := by decide +kernel
theorem dX3_reducedCostsHold_3 : decode cX3_reducedCostsHold 3 = .ok (.aload_n 0, 1) := by decide +kernel
theorem dX3_reducedCostsHold_4 : decode cX3_reducedCostsHold 4 = .ok (.getfield 12, 3) := by decide +kernel
theorem dX3_reducedCostsHold_7 : decode cX3_reducedCostsHold 7 = .ok (.getfield 83, 3) := by decide +kernel
theorem dX3_reducedCostsHold_10 : decode cX3_reducedCostsHold 10 = .ok (.if_icmp .ge 55, 3) := by decide +kernel
theorem dX3_reducedCostsHold_13 : decode cX3_reducedCostsHold 13 = .ok (.iconst 0, 1) := by decide +kernel
theorem dX3_reducedCostsHold_14 : decode cX3_reducedCostsHold 14 = .ok (.istore_n 2, 1) := by decide +kernel
theorem dX3_reducedCostsHold_15 : decode cX3_reducedCostsHold 15 = .ok (.iload_n 2, 1) := by decide +kernel
theorem dX3_reducedCostsHold_16 : decode cX3_reducedCostsHold 16 = .ok (.aload_n 0, 1) := by decide +kernel
theorem dX3_reducedCostsHold_17 : decode cX3_reducedCostsHold 17 = .ok (.getfield 12, 3) := by decide +kernel
theorem dX3_reducedCostsHold_20 : decode cX3_reducedCostsHold 20 = .ok (.getfield 83, 3) := by decide +kernel
theorem dX3_reducedCostsHold_23 : decode cX3_reducedCostsHold 23 = .ok (.if_icmp .ge 36, 3) := by decide +kernel
theorem dX3_reducedCostsHold_26 : decode cX3_reducedCostsHold 26 = .ok (.aload_n 0, 1) := by decide +kernel
theorem dX3_reducedCostsHold_27 : decode cX3_reducedCostsHold 27 = .ok (.iload_n 1, 1) := by decide +kernel
theorem dX3_reducedCostsHold_28 : decode cX3_reducedCostsHold 28 = .ok (.iload_n 2, 1) := by decide +kernel
theorem dX3_reducedCostsHold_29 : decode cX3_reducedCostsHold 29 = .ok (.invokevirtual 155, 3) := by decide +kernel
theorem dX3_reducedCostsHold_32 : decode cX3_reducedCostsHold 32 = .ok (.istore_n 3, 1) := by decide +kernel
theorem dX3_reducedCostsHold_33 : decode cX3_reducedCostsHold 33 = .ok (.iload_n 3, 1) := by decide +kernel
theorem dX3_reducedCostsHold_34 : decode cX3_reducedCostsHold 34 = .ok (.ifCond .lt 17, 3) := by decide +kernel
theorem dX3_reducedCostsHold_37 : decode cX3_reducedCostsHold 37 = .ok (.iload_n 3, 1) := by decide +kernel
theorem dX3_reducedCostsHold_38 : decode cX3_reducedCostsHold 38 = .ok (.ifCond .eq 15, 3) := by decide +kernel
theorem dX3_reducedCostsHold_41 : decode cX3_reducedCostsHold 41 = .ok (.aload_n 0, 1) := by decide +kernel
theorem dX3_reducedCostsHold_42 : decode cX3_reducedCostsHold 42 = .ok (.getfield 33, 3) := by decide +kernel
theorem dX3_reducedCostsHold_45 : decode cX3_reducedCostsHold 45 = .ok (.iload_n 1, 1) := by decide +kernel
theorem dX3_reducedCostsHold_46 : decode cX3_reducedCostsHold 46 = .ok (.iaload, 1) := by decide +kernel
theorem dX3_reducedCostsHold_47 : decode cX3_reducedCostsHold 47 = .ok (.iload_n 2, 1) := by decide +kernel
theorem dX3_reducedCostsHold_48 : decode cX3_reducedCostsHold 48 = .ok (.if_icmp .ne 5, 3) := by decide +kernel
theorem dX3_reducedCostsHold_51 : decode cX3_reducedCostsHold 51 = .ok (.iconst 0, 1) := by decide +kernel
theorem dX3_reducedCostsHold_52 : decode cX3_reducedCostsHold 52 = .ok (.ireturn, 1) := by decide +kernel
theorem dX3_reducedCostsHold_53 : decode cX3_reducedCostsHold 53 = .ok (.iinc 2 1, 3) := by decide +kernel
theorem dX3_reducedCostsHold_56 : decode cX3_reducedCostsHold 56 = .ok (.goto (-41), 3) := by decide +kernel
theorem dX3_reducedCostsHold_59 : decode cX3_reducedCostsHold 59 = .ok (.iinc 1 1, 3) := by decide +kernel
theorem dX3_reducedCostsHold_62 : decode cX3_reducedCostsHold 62 = .ok (.goto (-60), 3) := by decide +kernel
theorem dX3_reducedCostsHold_65 : decode cX3_reducedCostsHold 65 = .ok (.iconst 1, 1) := by decide +kernel
theorem dX3_reducedCostsHold_66 : decode cX3_reducedCostsHold 66 = .ok (.ireturn, 1) := by decide +kernel
theorem dX3_cellSplitHolds_0 : decode cX3_cellSplitHolds 0 = .ok (.aload_n 0, 1) := by decide +kernel
theorem dX3_cellSplitHolds_1 : decode cX3_cellSplitHolds 1 = .ok (.iconst 0, 1) := by decide +kernel
theorem dX3_cellSplitHolds_2 : decode cX3_cellSplitHolds 2 = .ok (.iconst 0, 1) := by decide +kernel
theorem dX3_cellSplitHolds_3 : decode cX3_cellSplitHolds 3 = .ok (.invokevirtual 254, 3) := by decide +kernel
theorem dX3_cellSplitHolds_6 : decode cX3_cellSplitHolds 6 = .ok (.istore_n 1, 1) := by decide +kernel
theorem dX3_cellSplitHolds_7 : decode cX3_cellSplitHolds 7 = .ok (.aload_n 0, 1) := by decide +kernel
theorem dX3_cellSplitHolds_8 : decode cX3_cellSplitHolds 8 = .ok (.getfield 12, 3) := by decide +kernel
theorem dX3_cellSplitHolds_11 : decode cX3_cellSplitHolds 11 = .ok (.getfield 83, 3) := by decide +kernel
theorem dX3_cellSplitHolds_14 : decode cX3_cellSplitHolds 14 = .ok (.iconst 1, 1) := by decide +kernel
theorem dX3_cellSplitHolds_15 : decode cX3_cellSplitHolds 15 = .ok (.if_icmp .le 14, 3) := by decide +kernel
theorem dX3_cellSplitHolds_18 : decode cX3_cellSplitHolds 18 = .ok (.iload_n 1, 1) := by decide +kernel
theorem dX3_cellSplitHolds_19 : decode cX3_cellSplitHolds 19 = .ok (.aload_n 0, 1) := by decide +kernel
theorem dX3_cellSplitHolds_20 : decode cX3_cellSplitHolds 20 = .ok (.iconst 0, 1) := by decide +kernel
theorem dX3_cellSplitHolds_21 : decode cX3_cellSplitHolds 21 = .ok (.iconst 0, 1) := by decide +kernel
theorem dX3_cellSplitHolds_22 : decode cX3_cellSplitHolds 22 = .ok (.invokevirtual 260, 3) := by decide +kernel
theorem dX3_cellSplitHolds_25 : decode cX3_cellSplitHolds 25 = .ok (.invokestatic 78, 3) := by decide +kernel
theorem dX3_cellSplitHolds_28 : decode cX3_cellSplitHolds 28 = .ok (.istore_n 1, 1) := by decide +kernel
theorem dX3_cellSplitHolds_29 : decode cX3_cellSplitHolds 29 = .ok (.aload_n 0, 1) := by decide +kernel
theorem dX3_cellSplitHolds_30 : decode cX3_cellSplitHolds 30 = .ok (.invokevirtual 209, 3) := by decide +kernel
theorem dX3_cellSplitHolds_33 : decode cX3_cellSplitHolds 33 = .ok (.iload_n 1, 1) := by decide +kernel
theorem dX3_cellSplitHolds_34 : decode cX3_cellSplitHolds 34 = .ok (.if_icmp .ne 7, 3) := by decide +kernel
theorem dX3_cellSplitHolds_37 : decode cX3_cellSplitHolds 37 = .ok (.iconst 1, 1) := by decide +kernel
theorem dX3_cellSplitHolds_38 : decode cX3_cellSplitHolds 38 = .ok (.goto 4, 3) := by decide +kernel
theorem dX3_cellSplitHolds_41 : decode cX3_cellSplitHolds 41 = .ok (.iconst 0, 1) := by decide +kernel
theorem dX3_cellSplitHolds_42 : decode cX3_cellSplitHolds 42 = .ok (.ireturn, 1) := by decide +kernel
theorem dX3_bottleneckHolds_0 : decode cX3_bottleneckHolds 0 = .ok (.aload_n 0, 1) := by decide +kernel
theorem dX3_bottleneckHolds_1 : decode cX3_bottleneckHolds 1 = .ok (.invokevirtual 263, 3) := by decide +kernel
theorem dX3_bottleneckHolds_4 : decode cX3_bottleneckHolds 4 = .ok (.istore_n 1, 1) := by decide +kernel
theorem dX3_bottleneckHolds_5 : decode cX3_bottleneckHolds 5 = .ok (.aload_n 0, 1) := by decide +kernel
theorem dX3_bottleneckHolds_6 : decode cX3_bottleneckHolds 6 = .ok (.iload_n 1, 1) := by decide +kernel
theorem dX3_bottleneckHolds_7 : decode cX3_bottleneckHolds 7 = .ok (.invokevirtual 266, 3) := by decide +kernel
theorem dX3_bottleneckHolds_10 : decode cX3_bottleneckHolds 10 = .ok (.ifCond .eq 21, 3) := by decide +kernel
theorem dX3_bottleneckHolds_13 : decode cX3_bottleneckHolds 13 = .ok (.iload_n 1, 1) := by decide +kernel
theorem dX3_bottleneckHolds_14 : decode cX3_bottleneckHolds 14 = .ok (.ifCond .eq 13, 3) := by decide +kernel
theorem dX3_bottleneckHolds_17 : decode cX3_bottleneckHolds 17 = .ok (.aload_n 0, 1) := by decide +kernel
theorem dX3_bottleneckHolds_18 : decode cX3_bottleneckHolds 18 = .ok (.iload_n 1, 1) := by decide +kernel
theorem dX3_bottleneckHolds_19 : decode cX3_bottleneckHolds 19 = .ok (.iconst 1, 1) := by decide +kernel
theorem dX3_bottleneckHolds_20 : decode cX3_bottleneckHolds 20 = .ok (.isub, 1) := by decide +kernel
theorem dX3_bottleneckHolds_21 : decode cX3_bottleneckHolds 21 = .ok (.invokevirtual 266, 3) := by decide +kernel
theorem dX3_bottleneckHolds_24 : decode cX3_bottleneckHolds 24 = .ok (.ifCond .ne 7, 3) := by decide +kernel
theorem dX3_bottleneckHolds_27 : decode cX3_bottleneckHolds 27 = .ok (.iconst 1, 1) := by decide +kernel
theorem dX3_bottleneckHolds_28 : decode cX3_bottleneckHolds 28 = .ok (.goto 4, 3) := by decide +kernel
theorem dX3_bottleneckHolds_31 : decode cX3_bottleneckHolds 31 = .ok (.iconst 0, 1) := by decide +kernel
theorem dX3_bottleneckHolds_32 : decode cX3_bottleneckHolds 32 = .ok (.ireturn, 1) := by decide +kernel
theorem dX3_mixed_0 : decode cX3_mixed 0 = .ok (.ldc2_w 269, 3) := by decide +kernel
theorem dX3_mixed_3 : decode cX3_mixed 3 = .ok (.lload_n 0, 1) := by decide +kernel
theorem dX3_mixed_4 : decode cX3_mixed 4 = .ok (.lmul, 1) := by decide +kernel
theorem dX3_mixed_5 : decode cX3_mixed 5 = .ok (.iload_n 2, 1) := by decide +kernel
theorem dX3_mixed_6 : decode cX3_mixed 6 = .ok (.i2l, 1) := by decide +kernel
theorem dX3_mixed_7 : decode cX3_mixed 7 = .ok (.ladd, 1) := by decide +kernel
theorem dX3_mixed_8 : decode cX3_mixed 8 = .ok (.lreturn, 1) := by decide +kernel
theorem dX3_mixedCosts_0 : decode cX3_mixedCosts 0 = .ok (.lload_n 0, 1) := by decide +kernel
theorem dX3_mixedCosts_1 : decode cX3_mixedCosts 1 = .ok (.lstore_n 3, 1) := by decide +kernel
theorem dX3_mixedCosts_2 : decode cX3_mixedCosts 2 = .ok (.iconst 0, 1) := by decide +kernel
theorem dX3_mixedCosts_3 : decode cX3_mixedCosts 3 = .ok (.istore 5, 2) := by decide +kernel
theorem dX3_mixedCosts_5 : decode cX3_mixedCosts 5 = .ok (.iload 5, 2) := by decide +kernel
theorem dX3_mixedCosts_7 : decode cX3_mixedCosts 7 = .ok (.aload_n 2, 1) := by decide +kernel
theorem dX3_mixedCosts_8 : decode cX3_mixedCosts 8 = .ok (.getfield 83, 3) := by decide +kernel
theorem dX3_mixedCosts_11 : decode cX3_mixedCosts 11 = .ok (.if_icmp .ge 40, 3) := by decide +kernel
theorem dX3_mixedCosts_14 : decode cX3_mixedCosts 14 = .ok (.iconst 0, 1) := by decide +kernel
theorem dX3_mixedCosts_15 : decode cX3_mixedCosts 15 = .ok (.istore 6, 2) := by decide +kernel
theorem dX3_mixedCosts_17 : decode cX3_mixedCosts 17 = .ok (.iload 6, 2) := by decide +kernel
theorem dX3_mixedCosts_19 : decode cX3_mixedCosts 19 = .ok (.aload_n 2, 1) := by decide +kernel
theorem dX3_mixedCosts_20 : decode cX3_mixedCosts 20 = .ok (.getfield 83, 3) := by decide +kernel
theorem dX3_mixedCosts_23 : decode cX3_mixedCosts 23 = .ok (.if_icmp .ge 22, 3) := by decide +kernel
theorem dX3_mixedCosts_26 : decode cX3_mixedCosts 26 = .ok (.lload_n 3, 1) := by decide +kernel
theorem dX3_mixedCosts_27 : decode cX3_mixedCosts 27 = .ok (.aload_n 2, 1) := by decide +kernel
theorem dX3_mixedCosts_28 : decode cX3_mixedCosts 28 = .ok (.iload 5, 2) := by decide +kernel
theorem dX3_mixedCosts_30 : decode cX3_mixedCosts 30 = .ok (.iload 6, 2) := by decide +kernel
theorem dX3_mixedCosts_32 : decode cX3_mixedCosts 32 = .ok (.invokevirtual 97, 3) := by decide +kernel
theorem dX3_mixedCosts_35 : decode cX3_mixedCosts 35 = .ok (.invokestatic 220, 3) := by decide +kernel
theorem dX3_mixedCosts_38 : decode cX3_mixedCosts 38 = .ok (.lstore_n 3, 1) := by decide +kernel
theorem dX3_mixedCosts_39 : decode cX3_mixedCosts 39 = .ok (.iinc 6 1, 3) := by decide +kernel
theorem dX3_mixedCosts_42 : decode cX3_mixedCosts 42 = .ok (.goto (-25), 3) := by decide +kernel
theorem dX3_mixedCosts_45 : decode cX3_mixedCosts 45 = .ok (.iinc 5 1, 3) := by decide +kernel
theorem dX3_mixedCosts_48 : decode cX3_mixedCosts 48 = .ok (.goto (-43), 3) := by decide +kernel
theorem dX3_mixedCosts_51 : decode cX3_mixedCosts 51 = .ok (.lload_n 3, 1) := by decide +kernel
theorem dX3_mixedCosts_52 : decode cX3_mixedCosts 52 = .ok (.lreturn, 1) := by decide +kernel
theorem dX3_factorial_0 : decode cX3_factorial 0 = .ok (.iconst 1, 1) := by decide +kernel
theorem dX3_factorial_1 : decode cX3_factorial 1 = .ok (.istore_n 1, 1) := by decide +kernel
theorem dX3_factorial_2 : decode cX3_factorial 2 = .ok (.iconst 2, 1) := by decide +kernel
theorem dX3_factorial_3 : decode cX3_factorial 3 = .ok (.istore_n 2, 1) := by decide +kernel
theorem dX3_factorial_4 : decode cX3_factorial 4 = .ok (.iload_n 2, 1) := by decide +kernel
theorem dX3_factorial_5 : decode cX3_factorial 5 = .ok (.iload_n 0, 1) := by decide +kernel
theorem dX3_factorial_6 : decode cX3_factorial 6 = .ok (.if_icmp .gt 13, 3) := by decide +kernel
theorem dX3_factorial_9 : decode cX3_factorial 9 = .ok (.iload_n 1, 1) := by decide +kernel
theorem dX3_factorial_10 : decode cX3_factorial 10 = .ok (.iload_n 2, 1) := by decide +kernel
theorem dX3_factorial_11 : decode cX3_factorial 11 = .ok (.imul, 1) := by decide +kernel
theorem dX3_factorial_12 : decode cX3_factorial 12 = .ok (.istore_n 1, 1) := by decide +kernel
theorem dX3_factorial_13 : decode cX3_factorial 13 = .ok (.iinc 2 1, 3) := by decide +kernel
theorem dX3_factorial_16 : decode cX3_factorial 16 = .ok (.goto (-12), 3) := by decide +kernel
theorem dX3_factorial_19 : decode cX3_factorial 19 = .ok (.iload_n 1, 1) := by decide +kernel
theorem dX3_factorial_20 : decode cX3_factorial 20 = .ok (.ireturn, 1) := by decide +kernel
theorem dX3_cellIndex_0 : decode cX3_cellIndex 0 = .ok (.iload_n 0, 1) := by decide +kernel
theorem dX3_cellIndex_1 : decode cX3_cellIndex 1 = .ok (.bipush 7, 2) := by decide +kernel
theorem dX3_cellIndex_3 : decode cX3_cellIndex 3 = .ok (.imul, 1) := by decide +kernel
theorem dX3_cellIndex_4 : decode cX3_cellIndex 4 = .ok (.iload_n 1, 1) := by decide +kernel
theorem dX3_cellIndex_5 : decode cX3_cellIndex 5 = .ok (.iadd, 1) := by decide +kernel
theorem dX3_cellIndex_6 : decode cX3_cellIndex 6 = .ok (.ireturn, 1) := by decide +kernel
theorem dX4_init_0 : decode cX4_init 0 = .ok (.aload_n 0, 1) := by decide +kernel
theorem dX4_init_1 : decode cX4_init 1 = .ok (.invokespecial 1, 3) := by decide +kernel
theorem dX4_init_4 : decode cX4_init 4 = .ok (.aload_n 0, 1) := by decide +kernel
theorem dX4_init_5 : decode cX4_init 5 = .ok (.iconst 1, 1) := by decide +kernel
theorem dX4_init_6 : decode cX4_init 6 = .ok (.putfield 7, 3) := by decide +kernel
theorem dX4_init_9 : decode cX4_init 9 = .ok (.aload_n 0, 1) := by decide +kernel
theorem dX4_init_10 : decode cX4_init 10 = .ok (.iconst 1, 1) := by decide +kernel
theorem dX4_init_11 : decode cX4_init 11 = .ok (.putfield 13, 3) := by decide +kernel
theorem dX4_init_14 : decode cX4_init 14 = .ok (.aload_n 0, 1) := by decide +kernel
theorem dX4_init_15 : decode cX4_init 15 = .ok (.iconst 1, 1) := by decide +kernel
theorem dX4_init_16 : decode cX4_init 16 = .ok (.putfield 16, 3) := by decide +kernel
theorem dX4_init_19 : decode cX4_init 19 = .ok (.aload_n 0, 1) := by decide +kernel
theorem dX4_init_20 : decode cX4_init 20 = .ok (.iconst 1, 1) := by decide +kernel
theorem dX4_init_21 : decode cX4_init 21 = .ok (.putfield 19, 3) := by decide +kernel
theorem dX4_init_24 : decode cX4_init 24 = .ok (.aload_n 0, 1) := by decide +kernel
theorem dX4_init_25 : decode cX4_init 25 = .ok (.bipush 49, 2) := by decide +kernel
theorem dX4_init_27 : decode cX4_init 27 = .ok (.newarray .int, 2) := by decide +kernel
theorem dX4_init_29 : decode cX4_init 29 = .ok (.putfield 22, 3) := by decide +kernel
theorem dX4_init_32 : decode cX4_init 32 = .ok (.aload_n 0, 1) := by decide +kernel
theorem dX4_init_33 : decode cX4_init 33 = .ok (.bipush 49, 2) := by decide +kernel
theorem dX4_init_35 : decode cX4_init 35 = .ok (.newarray .int, 2) := by decide +kernel
theorem dX4_init_37 : decode cX4_init 37 = .ok (.putfield 26, 3) := by decide +kernel
theorem dX4_init_40 : decode cX4_init 40 = .ok (.aload_n 0, 1) := by decide +kernel
theorem dX4_init_41 : decode cX4_init 41 = .ok (.bipush 49, 2) := by decide +kernel
theorem dX4_init_43 : decode cX4_init 43 = .ok (.newarray .boolean, 2) := by decide +kernel
theorem dX4_init_45 : decode cX4_init 45 = .ok (.putfield 29, 3) := by decide +kernel
theorem dX4_init_48 : decode cX4_init 48 = .ok (.aload_n 0, 1) := by decide +kernel
theorem dX4_init_49 : decode cX4_init 49 = .ok (.bipush 49, 2) := by decide +kernel
theorem dX4_init_51 : decode cX4_init 51 = .ok (.newarray .boolean, 2) := by decide +kernel
theorem dX4_init_53 : decode cX4_init 53 = .ok (.putfield 33, 3) := by decide +kernel
theorem dX4_init_56 : decode cX4_init 56 = .ok (.aload_n 0, 1) := by decide +kernel
theorem dX4_init_57 : decode cX4_init 57 = .ok (.bipush 49, 2) := by decide +kernel
theorem dX4_init_59 : decode cX4_init 59 = .ok (.newarray .int, 2) := by decide +kernel
theorem dX4_init_61 : decode cX4_init 61 = .ok (.putfield 36, 3) := by decide +kernel
theorem dX4_init_64 : decode cX4_init 64 = .ok (.aload_n 0, 1) := by decide +kernel
theorem dX4_init_65 : decode cX4_init 65 = .ok (.bipush 49, 2) := by decide +kernel
theorem dX4_init_67 : decode cX4_init 67 = .ok (.newarray .int, 2) := by decide +kernel
theorem dX4_init_69 : decode cX4_init 69 = .ok (.putfield 39, 3) := by decide +kernel
theorem dX4_init_72 : decode cX4_init 72 = .ok (.aload_n 0, 1) := by decide +kernel
theorem dX4_init_73 : decode cX4_init 73 = .ok (.bipush 7, 2) := by decide +kernel
theorem dX4_init_75 : decode cX4_init 75 = .ok (.newarray .int, 2) := by decide +kernel
theorem dX4_init_77 : decode cX4_init 77 = .ok (.putfield 42, 3) := by decide +kernel
theorem dX4_init_80 : decode cX4_init 80 = .ok (.aload_n 0, 1) := by decide +kernel
theorem dX4_init_81 : decode cX4_init 81 = .ok (.bipush 7, 2) := by decide +kernel
theorem dX4_init_83 : decode cX4_init 83 = .ok (.newarray .int, 2) := by decide +kernel
theorem dX4_init_85 : decode cX4_init 85 = .ok (.putfield 45, 3) := by decide +kernel
theorem dX4_init_88 : decode cX4_init 88 = .ok (.aload_n 0, 1) := by decide +kernel
theorem dX4_init_89 : decode cX4_init 89 = .ok (.iconst (-1), 1) := by decide +kernel
theorem dX4_init_90 : decode cX4_init 90 = .ok (.putfield 48, 3) := by decide +kernel
theorem dX4_init_93 : decode cX4_init 93 = .ok (.aload_n 0, 1) := by decide +kernel
theorem dX4_init_94 : decode cX4_init 94 = .ok (.bipush 7, 2) := by decide +kernel
theorem dX4_init_96 : decode cX4_init 96 = .ok (.newarray .int, 2) := by decide +kernel
theorem dX4_init_98 : decode cX4_init 98 = .ok (.putfield 51, 3) := by decide +kernel
theorem dX4_init_101 : decode cX4_init 101 = .ok (.aload_n 0, 1) := by decide +kernel
theorem dX4_init_102 : decode cX4_init 102 = .ok (.bipush 7, 2) := by decide +kernel
theorem dX4_init_104 : decode cX4_init 104 = .ok (.newarray .int, 2) := by decide +kernel
theorem dX4_init_106 : decode cX4_init 106 = .ok (.putfield 54, 3) := by decide +kernel
theorem dX4_init_109 : decode cX4_init 109 = .ok (.aload_n 0, 1) := by decide +kernel
theorem dX4_init_110 : decode cX4_init 110 = .ok (.bipush 7, 2) := by decide +kernel
theorem dX4_init_112 : decode cX4_init 112 = .ok (.newarray .int, 2) := by decide +kernel
theorem dX4_init_114 : decode cX4_init 114 = .ok (.putfield 57, 3) := by decide +kernel
theorem dX4_init_117 : decode cX4_init 117 = .ok (.return_, 1) := by decide +kernel
theorem dX4_thrown_0 : decode cX4_thrown 0 = .ok (.aload_n 0, 1) := by decide +kernel
theorem dX4_thrown_1 : decode cX4_thrown 1 = .ok (.getfield 60, 3) := by decide +kernel
theorem dX4_thrown_4 : decode cX4_thrown 4 = .ok (.ireturn, 1) := by decide +kernel
theorem dX4_isWrong_0 : decode cX4_isWrong 0 = .ok (.aload_n 0, 1) := by decide +kernel
theorem dX4_isWrong_1 : decode cX4_isWrong 1 = .ok (.iload_n 1, 1) := by decide +kernel
theorem dX4_isWrong_2 : decode cX4_isWrong 2 = .ok (.putfield 60, 3) := by decide +kernel
theorem dX4_isWrong_5 : decode cX4_isWrong 5 = .ok (.iload_n 1, 1) := by decide +kernel
theorem dX4_isWrong_6 : decode cX4_isWrong 6 = .ok (.ifCond .eq 7, 3) := by decide +kernel
theorem dX4_isWrong_9 : decode cX4_isWrong 9 = .ok (.iconst 1, 1) := by decide +kernel
theorem dX4_isWrong_10 : decode cX4_isWrong 10 = .ok (.goto 4, 3) := by decide +kernel
theorem dX4_isWrong_13 : decode cX4_isWrong 13 = .ok (.iconst 0, 1) := by decide +kernel
theorem dX4_isWrong_14 : decode cX4_isWrong 14 = .ok (.ireturn, 1) := by decide +kernel
theorem dX4_isIn_0 : decode cX4_isIn 0 = .ok (.lload_n 0, 1) := by decide +kernel
theorem dX4_isIn_1 : decode cX4_isIn 1 = .ok (.lload_n 2, 1) := by decide +kernel
theorem dX4_isIn_2 : decode cX4_isIn 2 = .ok (.lcmp, 1) := by decide +kernel
theorem dX4_isIn_3 : decode cX4_isIn 3 = .ok (.ifCond .lt 14, 3) := by decide +kernel
theorem dX4_isIn_6 : decode cX4_isIn 6 = .ok (.lload_n 0, 1) := by decide +kernel
theorem dX4_isIn_7 : decode cX4_isIn 7 = .ok (.lload 4, 2) := by decide +kernel
theorem dX4_isIn_9 : decode cX4_isIn 9 = .ok (.lcmp, 1) := by decide +kernel
theorem dX4_isIn_10 : decode cX4_isIn 10 = .ok (.ifCond .gt 7, 3) := by decide +kernel
theorem dX4_isIn_13 : decode cX4_isIn 13 = .ok (.iconst 1, 1) := by decide +kernel
theorem dX4_isIn_14 : decode cX4_isIn 14 = .ok (.goto 4, 3) := by decide +kernel
theorem dX4_isIn_17 : decode cX4_isIn 17 = .ok (.iconst 0, 1) := by decide +kernel
theorem dX4_isIn_18 : decode cX4_isIn 18 = .ok (.ireturn, 1) := by decide +kernel
theorem dX4_isRow_0 : decode cX4_isRow 0 = .ok (.iload_n 1, 1) := by decide +kernel
theorem dX4_isRow_1 : decode cX4_isRow 1 = .ok (.i2l, 1) := by decide +kernel
theorem dX4_isRow_2 : decode cX4_isRow 2 = .ok (.lconst 0, 1) := by decide +kernel
theorem dX4_isRow_3 : decode cX4_isRow 3 = .ok (.aload_n 0, 1) := by decide +kernel
theorem dX4_isRow_4 : decode cX4_isRow 4 = .ok (.getfield 7, 3) := by decide +kernel
theorem dX4_isRow_7 : decode cX4_isRow 7 = .ok (.iconst 1, 1) := by decide +kernel
theorem dX4_isRow_8 : decode cX4_isRow 8 = .ok (.isub, 1) := by decide +kernel
theorem dX4_isRow_9 : decode cX4_isRow 9 = .ok (.i2l, 1) := by decide +kernel
theorem dX4_isRow_10 : decode cX4_isRow 10 = .ok (.invokestatic 63, 3) := by decide +kernel
theorem dX4_isRow_13 : decode cX4_isRow 13 = .ok (.ireturn, 1) := by decide +kernel
theorem dX4_isReal_0 : decode cX4_isReal 0 = .ok (.iload_n 1, 1) := by decide +kernel
theorem dX4_isReal_1 : decode cX4_isReal 1 = .ok (.i2l, 1) := by decide +kernel
theorem dX4_isReal_2 : decode cX4_isReal 2 = .ok (.lconst 0, 1) := by decide +kernel
theorem dX4_isReal_3 : decode cX4_isReal 3 = .ok (.aload_n 0, 1) := by decide +kernel
theorem dX4_isReal_4 : decode cX4_isReal 4 = .ok (.getfield 13, 3) := by decide +kernel
theorem dX4_isReal_7 : decode cX4_isReal 7 = .ok (.iconst 1, 1) := by decide +kernel
theorem dX4_isReal_8 : decode cX4_isReal 8 = .ok (.isub, 1) := by decide +kernel
theorem dX4_isReal_9 : decode cX4_isReal 9 = .ok (.i2l, 1) := by decide +kernel
theorem dX4_isReal_10 : decode cX4_isReal 10 = .ok (.invokestatic 63, 3) := by decide +kernel
theorem dX4_isReal_13 : decode cX4_isReal 13 = .ok (.ireturn, 1) := by decide +kernel
theorem dX4_cost_0 : decode cX4_cost 0 = .ok (.iload_n 2, 1) := by decide +kernel
theorem dX4_cost_1 : decode cX4_cost 1 = .ok (.aload_n 0, 1) := by decide +kernel
theorem dX4_cost_2 : decode cX4_cost 2 = .ok (.getfield 13, 3) := by decide +kernel
theorem dX4_cost_5 : decode cX4_cost 5 = .ok (.if_icmp .lt 7, 3) := by decide +kernel
theorem dX4_cost_8 : decode cX4_cost 8 = .ok (.iconst 0, 1) := by decide +kernel
theorem dX4_cost_9 : decode cX4_cost 9 = .ok (.goto 34, 3) := by decide +kernel
theorem dX4_cost_12 : decode cX4_cost 12 = .ok (.aload_n 0, 1) := by decide +kernel
theorem dX4_cost_13 : decode cX4_cost 13 = .ok (.getfield 29, 3) := by decide +kernel
theorem dX4_cost_16 : decode cX4_cost 16 = .ok (.bipush 7, 2) := by decide +kernel
theorem dX4_cost_18 : decode cX4_cost 18 = .ok (.iload_n 1, 1) := by decide +kernel
theorem dX4_cost_19 : decode cX4_cost 19 = .ok (.imul, 1) := by decide +kernel
theorem dX4_cost_20 : decode cX4_cost 20 = .ok (.iload_n 2, 1) := by decide +kernel
theorem dX4_cost_21 : decode cX4_cost 21 = .ok (.iadd, 1) := by decide +kernel
theorem dX4_cost_22 : decode cX4_cost 22 = .ok (.baload, 1) := by decide +kernel
theorem dX4_cost_23 : decode cX4_cost 23 = .ok (.ifCond .eq 9, 3) := by decide +kernel
theorem dX4_cost_26 : decode cX4_cost 26 = .ok (.sipush 1000, 3) := by decide +kernel
theorem dX4_cost_29 : decode cX4_cost 29 = .ok (.goto 14, 3) := by decide +kernel
theorem dX4_cost_32 : decode cX4_cost 32 = .ok (.aload_n 0, 1) := by decide +kernel
theorem dX4_cost_33 : decode cX4_cost 33 = .ok (.getfield 22, 3) := by decide +kernel
theorem dX4_cost_36 : decode cX4_cost 36 = .ok (.bipush 7, 2) := by decide +kernel
theorem dX4_cost_38 : decode cX4_cost 38 = .ok (.iload_n 1, 1) := by decide +kernel
theorem dX4_cost_39 : decode cX4_cost 39 = .ok (.imul, 1) := by decide +kernel
theorem dX4_cost_40 : decode cX4_cost 40 = .ok (.iload_n 2, 1) := by decide +kernel
theorem dX4_cost_41 : decode cX4_cost 41 = .ok (.iadd, 1) := by decide +kernel
theorem dX4_cost_42 : decode cX4_cost 42 = .ok (.iaload, 1) := by decide +kernel
theorem dX4_cost_43 : decode cX4_cost 43 = .ok (.ireturn, 1) := by decide +kernel
theorem dX4_savedCost_0 : decode cX4_savedCost 0 = .ok (.iload_n 2, 1) := by decide +kernel
theorem dX4_savedCost_1 : decode cX4_savedCost 1 = .ok (.aload_n 0, 1) := by decide +kernel
theorem dX4_savedCost_2 : decode cX4_savedCost 2 = .ok (.getfield 19, 3) := by decide +kernel
theorem dX4_savedCost_5 : decode cX4_savedCost 5 = .ok (.if_icmp .lt 7, 3) := by decide +kernel
theorem dX4_savedCost_8 : decode cX4_savedCost 8 = .ok (.iconst 0, 1) := by decide +kernel
theorem dX4_savedCost_9 : decode cX4_savedCost 9 = .ok (.goto 34, 3) := by decide +kernel
theorem dX4_savedCost_12 : decode cX4_savedCost 12 = .ok (.aload_n 0, 1) := by decide +kernel
theorem dX4_savedCost_13 : decode cX4_savedCost 13 = .ok (.getfield 33, 3) := by decide +kernel
theorem dX4_savedCost_16 : decode cX4_savedCost 16 = .ok (.bipush 7, 2) := by decide +kernel
theorem dX4_savedCost_18 : decode cX4_savedCost 18 = .ok (.iload_n 1, 1) := by decide +kernel
theorem dX4_savedCost_19 : decode cX4_savedCost 19 = .ok (.imul, 1) := by decide +kernel
theorem dX4_savedCost_20 : decode cX4_savedCost 20 = .ok (.iload_n 2, 1) := by decide +kernel
theorem dX4_savedCost_21 : decode cX4_savedCost 21 = .ok (.iadd, 1) := by decide +kernel
theorem dX4_savedCost_22 : decode cX4_savedCost 22 = .ok (.baload, 1) := by decide +kernel
theorem dX4_savedCost_23 : decode cX4_savedCost 23 = .ok (.ifCond .eq 9, 3) := by decide +kernel
theorem dX4_savedCost_26 : decode cX4_savedCost 26 = .ok (.sipush 1000, 3) := by decide +kernel
theorem dX4_savedCost_29 : decode cX4_savedCost 29 = .ok (.goto 14, 3) := by decide +kernel
theorem dX4_savedCost_32 : decode cX4_savedCost 32 = .ok (.aload_n 0, 1) := by decide +kernel
theorem dX4_savedCost_33 : decode cX4_savedCost 33 = .ok (.getfield 26, 3) := by decide +kernel
theorem dX4_savedCost_36 : decode cX4_savedCost 36 = .ok (.bipush 7, 2) := by decide +kernel
theorem dX4_savedCost_38 : decode cX4_savedCost 38 = .ok (.iload_n 1, 1) := by decide +kernel
theorem dX4_savedCost_39 : decode cX4_savedCost 39 = .ok (.imul, 1) := by decide +kernel
theorem dX4_savedCost_40 : decode cX4_savedCost 40 = .ok (.iload_n 2, 1) := by decide +kernel
theorem dX4_savedCost_41 : decode cX4_savedCost 41 = .ok (.iadd, 1) := by decide +kernel
theorem dX4_savedCost_42 : decode cX4_savedCost 42 = .ok (.iaload, 1) := by decide +kernel
theorem dX4_savedCost_43 : decode cX4_savedCost 43 = .ok (.ireturn, 1) := by decide +kernel
theorem dX4_factorial_0 : decode cX4_factorial 0 = .ok (.iload_n 0, 1) := by decide +kernel
theorem dX4_factorial_1 : decode cX4_factorial 1 = .ok (.iconst 2, 1) := by decide +kernel
theorem dX4_factorial_2 : decode cX4_factorial 2 = .ok (.if_icmp .ge 7, 3) := by decide +kernel
theorem dX4_factorial_5 : decode cX4_factorial 5 = .ok (.iconst 1, 1) := by decide +kernel
theorem dX4_factorial_6 : decode cX4_factorial 6 = .ok (.goto 11, 3) := by decide +kernel
theorem dX4_factorial_9 : decode cX4_factorial 9 = .ok (.iload_n 0, 1) := by decide +kernel
theorem dX4_factorial_10 : decode cX4_factorial 10 = .ok (.iload_n 0, 1) := by decide +kernel
theorem dX4_factorial_11 : decode cX4_factorial 11 = .ok (.iconst 1, 1) := by decide +kernel
theorem dX4_factorial_12 : decode cX4_factorial 12 = .ok (.isub, 1) := by decide +kernel
theorem dX4_factorial_13 : decode cX4_factorial 13 = .ok (.invokestatic 67, 3) := by decide +kernel
theorem dX4_factorial_16 : decode cX4_factorial 16 = .ok (.imul, 1) := by decide +kernel
theorem dX4_factorial_17 : decode cX4_factorial 17 = .ok (.ireturn, 1) := by decide +kernel
theorem dX4_begin_0 : decode cX4_begin 0 = .ok (.iconst 0, 1) := by decide +kernel
theorem dX4_begin_1 : decode cX4_begin 1 = .ok (.istore_n 1, 1) := by decide +kernel
theorem dX4_begin_2 : decode cX4_begin 2 = .ok (.iload_n 1, 1) := by decide +kernel
theorem dX4_begin_3 : decode cX4_begin 3 = .ok (.bipush 7, 2) := by decide +kernel
theorem dX4_begin_5 : decode cX4_begin 5 = .ok (.if_icmp .ge 16, 3) := by decide +kernel
theorem dX4_begin_8 : decode cX4_begin 8 = .ok (.aload_n 0, 1) := by decide +kernel
theorem dX4_begin_9 : decode cX4_begin 9 = .ok (.getfield 42, 3) := by decide +kernel
theorem dX4_begin_12 : decode cX4_begin 12 = .ok (.iload_n 1, 1) := by decide +kernel
theorem dX4_begin_13 : decode cX4_begin 13 = .ok (.iload_n 1, 1) := by decide +kernel
theorem dX4_begin_14 : decode cX4_begin 14 = .ok (.iastore, 1) := by decide +kernel
theorem dX4_begin_15 : decode cX4_begin 15 = .ok (.iinc 1 1, 3) := by decide +kernel
theorem dX4_begin_18 : decode cX4_begin 18 = .ok (.goto (-16), 3) := by decide +kernel
theorem dX4_begin_21 : decode cX4_begin 21 = .ok (.return_, 1) := by decide +kernel
theorem dX4_goOn_0 : decode cX4_goOn 0 = .ok (.iload_n 1, 1) := by decide +kernel
theorem dX4_goOn_1 : decode cX4_goOn 1 = .ok (.iconst 2, 1) := by decide +kernel
theorem dX4_goOn_2 : decode cX4_goOn 2 = .ok (.isub, 1) := by decide +kernel
theorem dX4_goOn_3 : decode cX4_goOn 3 = .ok (.istore_n 2, 1) := by decide +kernel
theorem dX4_goOn_4 : decode cX4_goOn 4 = .ok (.iload_n 2, 1) := by decide +kernel
theorem dX4_goOn_5 : decode cX4_goOn 5 = .ok (.ifCond .lt 26, 3) := by decide +kernel
theorem dX4_goOn_8 : decode cX4_goOn 8 = .ok (.aload_n 0, 1) := by decide +kernel
theorem dX4_goOn_9 : decode cX4_goOn 9 = .ok (.getfield 42, 3) := by decide +kernel
theorem dX4_goOn_12 : decode cX4_goOn 12 = .ok (.iload_n 2, 1) := by decide +kernel
theorem dX4_goOn_13 : decode cX4_goOn 13 = .ok (.iaload, 1) := by decide +kernel
theorem dX4_goOn_14 : decode cX4_goOn 14 = .ok (.aload_n 0, 1) := by decide +kernel
theorem dX4_goOn_15 : decode cX4_goOn 15 = .ok (.getfield 42, 3) := by decide +kernel
theorem dX4_goOn_18 : decode cX4_goOn 18 = .ok (.iload_n 2, 1) := by decide +kernel
theorem dX4_goOn_19 : decode cX4_goOn 19 = .ok (.iconst 1, 1) := by decide +kernel
theorem dX4_goOn_20 : decode cX4_goOn 20 = .ok (.iadd, 1) := by decide +kernel
theorem dX4_goOn_21 : decode cX4_goOn 21 = .ok (.iaload, 1) := by decide +kernel
theorem dX4_goOn_22 : decode cX4_goOn 22 = .ok (.if_icmp .le 9, 3) := by decide +kernel
theorem dX4_goOn_25 : decode cX4_goOn 25 = .ok (.iinc 2 (-1), 3) := by decide +kernel
theorem dX4_goOn_28 : decode cX4_goOn 28 = .ok (.goto (-24), 3) := by decide +kernel
theorem dX4_goOn_31 : decode cX4_goOn 31 = .ok (.iload_n 2, 1) := by decide +kernel
theorem dX4_goOn_32 : decode cX4_goOn 32 = .ok (.ifCond .ge 4, 3) := by decide +kernel
theorem dX4_goOn_35 : decode cX4_goOn 35 = .ok (.return_, 1) := by decide +kernel
theorem dX4_goOn_36 : decode cX4_goOn 36 = .ok (.iload_n 1, 1) := by decide +kernel
theorem dX4_goOn_37 : decode cX4_goOn 37 = .ok (.iconst 1, 1) := by decide +kernel
theorem dX4_goOn_38 : decode cX4_goOn 38 = .ok (.isub, 1) := by decide +kernel
theorem dX4_goOn_39 : decode cX4_goOn 39 = .ok (.istore_n 3, 1) := by decide +kernel
theorem dX4_goOn_40 : decode cX4_goOn 40 = .ok (.aload_n 0, 1) := by decide +kernel
theorem dX4_goOn_41 : decode cX4_goOn 41 = .ok (.getfield 42, 3) := by decide +kernel
theorem dX4_goOn_44 : decode cX4_goOn 44 = .ok (.iload_n 3, 1) := by decide +kernel
theorem dX4_goOn_45 : decode cX4_goOn 45 = .ok (.iaload, 1) := by decide +kernel
theorem dX4_goOn_46 : decode cX4_goOn 46 = .ok (.aload_n 0, 1) := by decide +kernel
theorem dX4_goOn_47 : decode cX4_goOn 47 = .ok (.getfield 42, 3) := by decide +kernel
theorem dX4_goOn_50 : decode cX4_goOn 50 = .ok (.iload_n 2, 1) := by decide +kernel
theorem dX4_goOn_51 : decode cX4_goOn 51 = .ok (.iaload, 1) := by decide +kernel
theorem dX4_goOn_52 : decode cX4_goOn 52 = .ok (.if_icmp .ge 9, 3) := by decide +kernel
theorem dX4_goOn_55 : decode cX4_goOn 55 = .ok (.iinc 3 (-1), 3) := by decide +kernel
theorem dX4_goOn_58 : decode cX4_goOn 58 = .ok (.goto (-18), 3) := by decide +kernel
theorem dX4_goOn_61 : decode cX4_goOn 61 = .ok (.aload_n 0, 1) := by decide +kernel
theorem dX4_goOn_62 : decode cX4_goOn 62 = .ok (.iload_n 2, 1) := by decide +kernel
theorem dX4_goOn_63 : decode cX4_goOn 63 = .ok (.iload_n 3, 1) := by decide +kernel
theorem dX4_goOn_64 : decode cX4_goOn 64 = .ok (.invokevirtual 71, 3) := by decide +kernel
theorem dX4_goOn_67 : decode cX4_goOn 67 = .ok (.iload_n 2, 1) := by decide +kernel
theorem dX4_goOn_68 : decode cX4_goOn 68 = .ok (.iconst 1, 1) := by decide +kernel
theorem dX4_goOn_69 : decode cX4_goOn 69 = .ok (.iadd, 1) := by decide +kernel
theorem dX4_goOn_70 : decode cX4_goOn 70 = .ok (.istore 4, 2) := by decide +kernel
theorem dX4_goOn_72 : decode cX4_goOn 72 = .ok (.iload_n 1, 1) := by decide +kernel
theorem dX4_goOn_73 : decode cX4_goOn 73 = .ok (.iconst 1, 1) := by decide +kernel
theorem dX4_goOn_74 : decode cX4_goOn 74 = .ok (.isub, 1) := by decide +kernel
theorem dX4_goOn_75 : decode cX4_goOn 75 = .ok (.istore 5, 2) := by decide +kernel
theorem dX4_goOn_77 : decode cX4_goOn 77 = .ok (.iload 4, 2) := by decide +kernel
theorem dX4_goOn_79 : decode cX4_goOn 79 = .ok (.iload 5, 2) := by decide +kernel
theorem dX4_goOn_81 : decode cX4_goOn 81 = .ok (.if_icmp .ge 20, 3) := by decide +kernel
theorem dX4_goOn_84 : decode cX4_goOn 84 = .ok (.aload_n 0, 1) := by decide +kernel
theorem dX4_goOn_85 : decode cX4_goOn 85 = .ok (.iload 4, 2) := by decide +kernel
theorem dX4_goOn_87 : decode cX4_goOn 87 = .ok (.iload 5, 2) := by decide +kernel
theorem dX4_goOn_89 : decode cX4_goOn 89 = .ok (.invokevirtual 71, 3) := by decide +kernel
theorem dX4_goOn_92 : decode cX4_goOn 92 = .ok (.iinc 4 1, 3) := by decide +kernel
theorem dX4_goOn_95 : decode cX4_goOn 95 = .ok (.iinc 5 (-1), 3) := by decide +kernel
theorem dX4_goOn_98 : decode cX4_goOn 98 = .ok (.goto (-21), 3) := by decide +kernel
theorem dX4_goOn_101 : decode cX4_goOn 101 = .ok (.return_, 1) := by decide +kernel
theorem dX4_exchange_0 : decode cX4_exchange 0 = .ok (.aload_n 0, 1) := by decide +kernel
theorem dX4_exchange_1 : decode cX4_exchange 1 = .ok (.getfield 42, 3) := by decide +kernel
theorem dX4_exchange_4 : decode cX4_exchange 4 = .ok (.iload_n 1, 1) := by decide +kernel
theorem dX4_exchange_5 : decode cX4_exchange 5 = .ok (.iaload, 1) := by decide +kernel
theorem dX4_exchange_6 : decode cX4_exchange 6 = .ok (.istore_n 3, 1) := by decide +kernel
theorem dX4_exchange_7 : decode cX4_exchange 7 = .ok (.aload_n 0, 1) := by decide +kernel
theorem dX4_exchange_8 : decode cX4_exchange 8 = .ok (.getfield 42, 3) := by decide +kernel
theorem dX4_exchange_11 : decode cX4_exchange 11 = .ok (.iload_n 1, 1) := by decide +kernel
theorem dX4_exchange_12 : decode cX4_exchange 12 = .ok (.aload_n 0, 1) := by decide +kernel
theorem dX4_exchange_13 : decode cX4_exchange 13 = .ok (.getfield 42, 3) := by decide +kernel
theorem dX4_exchange_16 : decode cX4_exchange 16 = .ok (.iload_n 2, 1) := by decide +kernel
theorem dX4_exchange_17 : decode cX4_exchange 17 = .ok (.iaload, 1) := by decide +kernel
theorem dX4_exchange_18 : decode cX4_exchange 18 = .ok (.iastore, 1) := by decide +kernel
theorem dX4_exchange_19 : decode cX4_exchange 19 = .ok (.aload_n 0, 1) := by decide +kernel
theorem dX4_exchange_20 : decode cX4_exchange 20 = .ok (.getfield 42, 3) := by decide +kernel
theorem dX4_exchange_23 : decode cX4_exchange 23 = .ok (.iload_n 2, 1) := by decide +kernel
theorem dX4_exchange_24 : decode cX4_exchange 24 = .ok (.iload_n 3, 1) := by decide +kernel
theorem dX4_exchange_25 : decode cX4_exchange 25 = .ok (.iastore, 1) := by decide +kernel
theorem dX4_exchange_26 : decode cX4_exchange 26 = .ok (.return_, 1) := by decide +kernel
theorem dX4_sum_0 : decode cX4_sum 0 = .ok (.iconst 0, 1) := by decide +kernel
theorem dX4_sum_1 : decode cX4_sum 1 = .ok (.istore_n 2, 1) := by decide +kernel
theorem dX4_sum_2 : decode cX4_sum 2 = .ok (.iconst 0, 1) := by decide +kernel
theorem dX4_sum_3 : decode cX4_sum 3 = .ok (.istore_n 3, 1) := by decide +kernel
theorem dX4_sum_4 : decode cX4_sum 4 = .ok (.iload_n 3, 1) := by decide +kernel
theorem dX4_sum_5 : decode cX4_sum 5 = .ok (.iload_n 1, 1) := by decide +kernel
theorem dX4_sum_6 : decode cX4_sum 6 = .ok (.if_icmp .ge 28, 3) := by decide +kernel
theorem dX4_sum_9 : decode cX4_sum 9 = .ok (.iload_n 2, 1) := by decide +kernel
theorem dX4_sum_10 : decode cX4_sum 10 = .ok (.aload_n 0, 1) := by decide +kernel
theorem dX4_sum_11 : decode cX4_sum 11 = .ok (.getfield 36, 3) := by decide +kernel
theorem dX4_sum_14 : decode cX4_sum 14 = .ok (.bipush 7, 2) := by decide +kernel
theorem dX4_sum_16 : decode cX4_sum 16 = .ok (.iload_n 3, 1) := by decide +kernel
theorem dX4_sum_17 : decode cX4_sum 17 = .ok (.imul, 1) := by decide +kernel
theorem dX4_sum_18 : decode cX4_sum 18 = .ok (.aload_n 0, 1) := by decide +kernel
theorem dX4_sum_19 : decode cX4_sum 19 = .ok (.getfield 42, 3) := by decide +kernel
theorem dX4_sum_22 : decode cX4_sum 22 = .ok (.iload_n 3, 1) := by decide +kernel
theorem dX4_sum_23 : decode cX4_sum 23 = .ok (.iaload, 1) := by decide +kernel
theorem dX4_sum_24 : decode cX4_sum 24 = .ok (.iadd, 1) := by decide +kernel
theorem dX4_sum_25 : decode cX4_sum 25 = .ok (.iaload, 1) := by decide +kernel
theorem dX4_sum_26 : decode cX4_sum 26 = .ok (.iadd, 1) := by decide +kernel
theorem dX4_sum_27 : decode cX4_sum 27 = .ok (.istore_n 2, 1) := by decide +kernel
theorem dX4_sum_28 : decode cX4_sum 28 = .ok (.iinc 3 1, 3) := by decide +kernel
theorem dX4_sum_31 : decode cX4_sum 31 = .ok (.goto (-27), 3) := by decide +kernel
theorem dX4_sum_34 : decode cX4_sum 34 = .ok (.iload_n 2, 1) := by decide +kernel
theorem dX4_sum_35 : decode cX4_sum 35 = .ok (.ireturn, 1) := by decide +kernel
theorem dX4_take_0 : decode cX4_take 0 = .ok (.iconst 0, 1) := by decide +kernel
theorem dX4_take_1 : decode cX4_take 1 = .ok (.istore_n 1, 1) := by decide +kernel
theorem dX4_take_2 : decode cX4_take 2 = .ok (.iload_n 1, 1) := by decide +kernel
theorem dX4_take_3 : decode cX4_take 3 = .ok (.aload_n 0, 1) := by decide +kernel
theorem dX4_take_4 : decode cX4_take 4 = .ok (.getfield 7, 3) := by decide +kernel
theorem dX4_take_7 : decode cX4_take 7 = .ok (.if_icmp .ge 42, 3) := by decide +kernel
theorem dX4_take_10 : decode cX4_take 10 = .ok (.iconst 0, 1) := by decide +kernel
theorem dX4_take_11 : decode cX4_take 11 = .ok (.istore_n 2, 1) := by decide +kernel
theorem dX4_take_12 : decode cX4_take 12 = .ok (.iload_n 2, 1) := by decide +kernel
theorem dX4_take_13 : decode cX4_take 13 = .ok (.aload_n 0, 1) := by decide +kernel
theorem dX4_take_14 : decode cX4_take 14 = .ok (.getfield 7, 3) := by decide +kernel
theorem dX4_take_17 : decode cX4_take 17 = .ok (.if_icmp .ge 26, 3) := by decide +kernel
theorem dX4_take_20 : decode cX4_take 20 = .ok (.aload_n 0, 1) := by decide +kernel
theorem dX4_take_21 : decode cX4_take 21 = .ok (.getfield 36, 3) := by decide +kernel
theorem dX4_take_24 : decode cX4_take 24 = .ok (.bipush 7, 2) := by decide +kernel
theorem dX4_take_26 : decode cX4_take 26 = .ok (.iload_n 1, 1) := by decide +kernel
theorem dX4_take_27 : decode cX4_take 27 = .ok (.imul, 1) := by decide +kernel
theorem dX4_take_28 : decode cX4_take 28 = .ok (.iload_n 2, 1) := by decide +kernel
theorem dX4_take_29 : decode cX4_take 29 = .ok (.iadd, 1) := by decide +kernel
theorem dX4_take_30 : decode cX4_take 30 = .ok (.aload_n 0, 1) := by decide +kernel
theorem dX4_take_31 : decode cX4_take 31 = .ok (.iload_n 1, 1) := by decide +kernel
theorem dX4_take_32 : decode cX4_take 32 = .ok (.iload_n 2, 1) := by decide +kernel
theorem dX4_take_33 : decode cX4_take 33 = .ok (.invokevirtual 75, 3) := by decide +kernel
theorem dX4_take_36 : decode cX4_take 36 = .ok (.iastore, 1) := by decide +kernel
theorem dX4_take_37 : decode cX4_take 37 = .ok (.iinc 2 1, 3) := by decide +kernel
theorem dX4_take_40 : decode cX4_take 40 = .ok (.goto (-28), 3) := by decide +kernel
theorem dX4_take_43 : decode cX4_take 43 = .ok (.iinc 1 1, 3) := by decide +kernel
theorem dX4_take_46 : decode cX4_take 46 = .ok (.goto (-44), 3) := by decide +kernel
theorem dX4_take_49 : decode cX4_take 49 = .ok (.return_, 1) := by decide +kernel
theorem dX4_look_0 : decode cX4_look 0 = .ok (.aload_n 0, 1) := by decide +kernel
theorem dX4_look_1 : decode cX4_look 1 = .ok (.ldc 79, 2) := by decide +kernel
theorem dX4_look_3 : decode cX4_look 3 = .ok (.putfield 80, 3) := by decide +kernel
theorem dX4_look_6 : decode cX4_look 6 = .ok (.aload_n 0, 1) := by decide +kernel
theorem dX4_look_7 : decode cX4_look 7 = .ok (.iconst 0, 1) := by decide +kernel
theorem dX4_look_8 : decode cX4_look 8 = .ok (.putfield 83, 3) := by decide +kernel
theorem dX4_look_11 : decode cX4_look 11 = .ok (.aload_n 0, 1) := by decide +kernel
theorem dX4_look_12 : decode cX4_look 12 = .ok (.ldc 79, 2) := by decide +kernel
theorem dX4_look_14 : decode cX4_look 14 = .ok (.putfield 86, 3) := by decide +kernel
theorem dX4_look_17 : decode cX4_look 17 = .ok (.aload_n 0, 1) := by decide +kernel
theorem dX4_look_18 : decode cX4_look 18 = .ok (.iconst (-1), 1) := by decide +kernel
theorem dX4_look_19 : decode cX4_look 19 = .ok (.putfield 89, 3) := by decide +kernel
theorem dX4_look_22 : decode cX4_look 22 = .ok (.aload_n 0, 1) := by decide +kernel
theorem dX4_look_23 : decode cX4_look 23 = .ok (.ldc 79, 2) := by decide +kernel
theorem dX4_look_25 : decode cX4_look 25 = .ok (.putfield 92, 3) := by decide +kernel
theorem dX4_look_28 : decode cX4_look 28 = .ok (.iconst 0, 1) := by decide +kernel
theorem dX4_look_29 : decode cX4_look 29 = .ok (.istore_n 2, 1) := by decide +kernel
theorem dX4_look_30 : decode cX4_look 30 = .ok (.iload_n 2, 1) := by decide +kernel
theorem dX4_look_31 : decode cX4_look 31 = .ok (.bipush 49, 2) := by decide +kernel
theorem dX4_look_33 : decode cX4_look 33 = .ok (.if_icmp .ge 17, 3) := by decide +kernel
theorem dX4_look_36 : decode cX4_look 36 = .ok (.aload_n 0, 1) := by decide +kernel
theorem dX4_look_37 : decode cX4_look 37 = .ok (.getfield 39, 3) := by decide +kernel
theorem dX4_look_40 : decode cX4_look 40 = .ok (.iload_n 2, 1) := by decide +kernel
theorem dX4_look_41 : decode cX4_look 41 = .ok (.ldc 79, 2) := by decide +kernel
theorem dX4_look_43 : decode cX4_look 43 = .ok (.iastore, 1) := by decide +kernel
theorem dX4_look_44 : decode cX4_look 44 = .ok (.iinc 2 1, 3) := by decide +kernel
theorem dX4_look_47 : decode cX4_look 47 = .ok (.goto (-17), 3) := by decide +kernel
theorem dX4_look_50 : decode cX4_look 50 = .ok (.aload_n 0, 1) := by decide +kernel
theorem dX4_look_51 : decode cX4_look 51 = .ok (.invokevirtual 95, 3) := by decide +kernel
theorem dX4_look_54 : decode cX4_look 54 = .ok (.iload_n 1, 1) := by decide +kernel
theorem dX4_look_55 : decode cX4_look 55 = .ok (.invokestatic 67, 3) := by decide +kernel
theorem dX4_look_58 : decode cX4_look 58 = .ok (.istore_n 2, 1) := by decide +kernel
theorem dX4_look_59 : decode cX4_look 59 = .ok (.iload_n 2, 1) := by decide +kernel
theorem dX4_look_60 : decode cX4_look 60 = .ok (.ifCond .le 24, 3) := by decide +kernel
theorem dX4_look_63 : decode cX4_look 63 = .ok (.aload_n 0, 1) := by decide +kernel
theorem dX4_look_64 : decode cX4_look 64 = .ok (.iload_n 1, 1) := by decide +kernel
theorem dX4_look_65 : decode cX4_look 65 = .ok (.aload_n 0, 1) := by decide +kernel
theorem dX4_look_66 : decode cX4_look 66 = .ok (.iload_n 1, 1) := by decide +kernel
theorem dX4_look_67 : decode cX4_look 67 = .ok (.invokevirtual 98, 3) := by decide +kernel
theorem dX4_look_70 : decode cX4_look 70 = .ok (.invokevirtual 101, 3) := by decide +kernel
theorem dX4_look_73 : decode cX4_look 73 = .ok (.aload_n 0, 1) := by decide +kernel
theorem dX4_look_74 : decode cX4_look 74 = .ok (.iload_n 1, 1) := by decide +kernel
theorem dX4_look_75 : decode cX4_look 75 = .ok (.invokevirtual 104, 3) := by decide +kernel
theorem dX4_look_78 : decode cX4_look 78 = .ok (.iinc 2 (-1), 3) := by decide +kernel
theorem dX4_look_81 : decode cX4_look 81 = .ok (.goto (-22), 3) := by decide +kernel
theorem dX4_look_84 : decode cX4_look 84 = .ok (.return_, 1) := by decide +kernel
theorem dX4_see_0 : decode cX4_see 0 = .ok (.iconst 0, 1) := by decide +kernel
theorem dX4_see_1 : decode cX4_see 1 = .ok (.istore_n 3, 1) := by decide +kernel
theorem dX4_see_2 : decode cX4_see 2 = .ok (.iconst 0, 1) := by decide +kernel
theorem dX4_see_3 : decode cX4_see 3 = .ok (.istore 4, 2) := by decide +kernel
theorem dX4_see_5 : decode cX4_see 5 = .ok (.iload 4, 2) := by decide +kernel
theorem dX4_see_7 : decode cX4_see 7 = .ok (.iload_n 1, 1) := by decide +kernel
theorem dX4_see_8 : decode cX4_see 8 = .ok (.if_icmp .ge 76, 3) := by decide +kernel
theorem dX4_see_11 : decode cX4_see 11 = .ok (.bipush 7, 2) := by decide +kernel
theorem dX4_see_13 : decode cX4_see 13 = .ok (.iload 4, 2) := by decide +kernel
theorem dX4_see_15 : decode cX4_see 15 = .ok (.imul, 1) := by decide +kernel
theorem dX4_see_16 : decode cX4_see 16 = .ok (.aload_n 0, 1) := by decide +kernel
theorem dX4_see_17 : decode cX4_see 17 = .ok (.getfield 42, 3) := by decide +kernel
theorem dX4_see_20 : decode cX4_see 20 = .ok (.iload 4, 2) := by decide +kernel
theorem dX4_see_22 : decode cX4_see 22 = .ok (.iaload, 1) := by decide +kernel
theorem dX4_see_23 : decode cX4_see 23 = .ok (.iadd, 1) := by decide +kernel
theorem dX4_see_24 : decode cX4_see 24 = .ok (.istore 5, 2) := by decide +kernel
theorem dX4_see_26 : decode cX4_see 26 = .ok (.aload_n 0, 1) := by decide +kernel
theorem dX4_see_27 : decode cX4_see 27 = .ok (.getfield 39, 3) := by decide +kernel
theorem dX4_see_30 : decode cX4_see 30 = .ok (.iload 5, 2) := by decide +kernel
theorem dX4_see_32 : decode cX4_see 32 = .ok (.iload_n 2, 1) := by decide +kernel
theorem dX4_see_33 : decode cX4_see 33 = .ok (.aload_n 0, 1) := by decide +kernel
theorem dX4_see_34 : decode cX4_see 34 = .ok (.getfield 39, 3) := by decide +kernel
theorem dX4_see_37 : decode cX4_see 37 = .ok (.iload 5, 2) := by decide +kernel
theorem dX4_see_39 : decode cX4_see 39 = .ok (.iaload, 1) := by decide +kernel
theorem dX4_see_40 : decode cX4_see 40 = .ok (.if_icmp .ge 7, 3) := by decide +kernel
theorem dX4_see_43 : decode cX4_see 43 = .ok (.iload_n 2, 1) := by decide +kernel
theorem dX4_see_44 : decode cX4_see 44 = .ok (.goto 10, 3) := by decide +kernel
theorem dX4_see_47 : decode cX4_see 47 = .ok (.aload_n 0, 1) := by decide +kernel
theorem dX4_see_48 : decode cX4_see 48 = .ok (.getfield 39, 3) := by decide +kernel
theorem dX4_see_51 : decode cX4_see 51 = .ok (.iload 5, 2) := by decide +kernel
theorem dX4_see_53 : decode cX4_see 53 = .ok (.iaload, 1) := by decide +kernel
theorem dX4_see_54 : decode cX4_see 54 = .ok (.iastore, 1) := by decide +kernel
theorem dX4_see_55 : decode cX4_see 55 = .ok (.aload_n 0, 1) := by decide +kernel
theorem dX4_see_56 : decode cX4_see 56 = .ok (.getfield 36, 3) := by decide +kernel
theorem dX4_see_59 : decode cX4_see 59 = .ok (.iload 5, 2) := by decide +kernel
theorem dX4_see_61 : decode cX4_see 61 = .ok (.iaload, 1) := by decide +kernel
theorem dX4_see_62 : decode cX4_see 62 = .ok (.iload_n 3, 1) := by decide +kernel
theorem dX4_see_63 : decode cX4_see 63 = .ok (.if_icmp .le 13, 3) := by decide +kernel
theorem dX4_see_66 : decode cX4_see 66 = .ok (.aload_n 0, 1) := by decide +kernel
theorem dX4_see_67 : decode cX4_see 67 = .ok (.getfield 36, 3) := by decide +kernel
theorem dX4_see_70 : decode cX4_see 70 = .ok (.iload 5, 2) := by decide +kernel
theorem dX4_see_72 : decode cX4_see 72 = .ok (.iaload, 1) := by decide +kernel
theorem dX4_see_73 : decode cX4_see 73 = .ok (.goto 4, 3) := by decide +kernel
theorem dX4_see_76 : decode cX4_see 76 = .ok (.iload_n 3, 1) := by decide +kernel
theorem dX4_see_77 : decode cX4_see 77 = .ok (.istore_n 3, 1) := by decide +kernel
theorem dX4_see_78 : decode cX4_see 78 = .ok (.iinc 4 1, 3) := by decide +kernel
theorem dX4_see_81 : decode cX4_see 81 = .ok (.goto (-76), 3) := by decide +kernel
theorem dX4_see_84 : decode cX4_see 84 = .ok (.aload_n 0, 1) := by decide +kernel
theorem dX4_see_85 : decode cX4_see 85 = .ok (.iload_n 3, 1) := by decide +kernel
theorem dX4_see_86 : decode cX4_see 86 = .ok (.aload_n 0, 1) := by decide +kernel
theorem dX4_see_87 : decode cX4_see 87 = .ok (.getfield 92, 3) := by decide +kernel
theorem dX4_see_90 : decode cX4_see 90 = .ok (.if_icmp .ge 7, 3) := by decide +kernel
theorem dX4_see_93 : decode cX4_see 93 = .ok (.iload_n 3, 1) := by decide +kernel
theorem dX4_see_94 : decode cX4_see 94 = .ok (.goto 7, 3) := by decide +kernel
theorem dX4_see_97 : decode cX4_see 97 = .ok (.aload_n 0, 1) := by decide +kernel
theorem dX4_see_98 : decode cX4_see 98 = .ok (.getfield 92, 3) := by decide +kernel
theorem dX4_see_101 : decode cX4_see 101 = .ok (.putfield 92, 3) := by decide +kernel
theorem dX4_see_104 : decode cX4_see 104 = .ok (.aload_n 0, 1) := by decide +kernel
theorem dX4_see_105 : decode cX4_see 105 = .ok (.iload_n 2, 1) := by decide +kernel
theorem dX4_see_106 : decode cX4_see 106 = .ok (.sipush 1000, 3) := by decide +kernel
theorem dX4_see_109 : decode cX4_see 109 = .ok (.if_icmp .ge 15, 3) := by decide +kernel
theorem dX4_see_112 : decode cX4_see 112 = .ok (.iload_n 2, 1) := by decide +kernel
theorem dX4_see_113 : decode cX4_see 113 = .ok (.aload_n 0, 1) := by decide +kernel
theorem dX4_see_114 : decode cX4_see 114 = .ok (.getfield 89, 3) := by decide +kernel
theorem dX4_see_117 : decode cX4_see 117 = .ok (.if_icmp .le 7, 3) := by decide +kernel
theorem dX4_see_120 : decode cX4_see 120 = .ok (.iload_n 2, 1) := by decide +kernel
theorem dX4_see_121 : decode cX4_see 121 = .ok (.goto 7, 3) := by decide +kernel
theorem dX4_see_124 : decode cX4_see 124 = .ok (.aload_n 0, 1) := by decide +kernel
theorem dX4_see_125 : decode cX4_see 125 = .ok (.getfield 89, 3) := by decide +kernel
theorem dX4_see_128 : decode cX4_see 128 = .ok (.putfield 89, 3) := by decide +kernel
theorem dX4_see_131 : decode cX4_see 131 = .ok (.iload_n 2, 1) := by decide +kernel
theorem dX4_see_132 : decode cX4_see 132 = .ok (.aload_n 0, 1) := by decide +kernel
theorem dX4_see_133 : decode cX4_see 133 = .ok (.getfield 80, 3) := by decide +kernel
theorem dX4_see_136 : decode cX4_see 136 = .ok (.if_icmp .ge 53, 3) := by decide +kernel
theorem dX4_see_139 : decode cX4_see 139 = .ok (.aload_n 0, 1) := by decide +kernel
theorem dX4_see_140 : decode cX4_see 140 = .ok (.aload_n 0, 1) := by decide +kernel
theorem dX4_see_141 : decode cX4_see 141 = .ok (.getfield 80, 3) := by decide +kernel
theorem dX4_see_144 : decode cX4_see 144 = .ok (.putfield 86, 3) := by decide +kernel
theorem dX4_see_147 : decode cX4_see 147 = .ok (.aload_n 0, 1) := by decide +kernel
theorem dX4_see_148 : decode cX4_see 148 = .ok (.iload_n 2, 1) := by decide +kernel
theorem dX4_see_149 : decode cX4_see 149 = .ok (.putfield 80, 3) := by decide +kernel
theorem dX4_see_152 : decode cX4_see 152 = .ok (.aload_n 0, 1) := by decide +kernel
theorem dX4_see_153 : decode cX4_see 153 = .ok (.iconst 1, 1) := by decide +kernel
theorem dX4_see_154 : decode cX4_see 154 = .ok (.putfield 83, 3) := by decide +kernel
theorem dX4_see_157 : decode cX4_see 157 = .ok (.iconst 0, 1) := by decide +kernel
theorem dX4_see_158 : decode cX4_see 158 = .ok (.istore 4, 2) := by decide +kernel
theorem dX4_see_160 : decode cX4_see 160 = .ok (.iload 4, 2) := by decide +kernel
theorem dX4_see_162 : decode cX4_see 162 = .ok (.iload_n 1, 1) := by decide +kernel
theorem dX4_see_163 : decode cX4_see 163 = .ok (.if_icmp .ge 23, 3) := by decide +kernel
theorem dX4_see_166 : decode cX4_see 166 = .ok (.aload_n 0, 1) := by decide +kernel
theorem dX4_see_167 : decode cX4_see 167 = .ok (.getfield 45, 3) := by decide +kernel
theorem dX4_see_170 : decode cX4_see 170 = .ok (.iload 4, 2) := by decide +kernel
theorem dX4_see_172 : decode cX4_see 172 = .ok (.aload_n 0, 1) := by decide +kernel
theorem dX4_see_173 : decode cX4_see 173 = .ok (.getfield 42, 3) := by decide +kernel
theorem dX4_see_176 : decode cX4_see 176 = .ok (.iload 4, 2) := by decide +kernel
theorem dX4_see_178 : decode cX4_see 178 = .ok (.iaload, 1) := by decide +kernel
theorem dX4_see_179 : decode cX4_see 179 = .ok (.iastore, 1) := by decide +kernel
theorem dX4_see_180 : decode cX4_see 180 = .ok (.iinc 4 1, 3) := by decide +kernel
theorem dX4_see_183 : decode cX4_see 183 = .ok (.goto (-23), 3) := by decide +kernel
theorem dX4_see_186 : decode cX4_see 186 = .ok (.goto 45, 3) := by decide +kernel
theorem dX4_see_189 : decode cX4_see 189 = .ok (.aload_n 0, 1) := by decide +kernel
theorem dX4_see_190 : decode cX4_see 190 = .ok (.iload_n 2, 1) := by decide +kernel
theorem dX4_see_191 : decode cX4_see 191 = .ok (.aload_n 0, 1) := by decide +kernel
theorem dX4_see_192 : decode cX4_see 192 = .ok (.getfield 86, 3) := by decide +kernel
theorem dX4_see_195 : decode cX4_see 195 = .ok (.if_icmp .ge 7, 3) := by decide +kernel
theorem dX4_see_198 : decode cX4_see 198 = .ok (.iload_n 2, 1) := by decide +kernel
theorem dX4_see_199 : decode cX4_see 199 = .ok (.goto 7, 3) := by decide +kernel
theorem dX4_see_202 : decode cX4_see 202 = .ok (.aload_n 0, 1) := by decide +kernel
theorem dX4_see_203 : decode cX4_see 203 = .ok (.getfield 86, 3) := by decide +kernel
theorem dX4_see_206 : decode cX4_see 206 = .ok (.putfield 86, 3) := by decide +kernel
theorem dX4_see_209 : decode cX4_see 209 = .ok (.aload_n 0, 1) := by decide +kernel
theorem dX4_see_210 : decode cX4_see 210 = .ok (.dup, 1) := by decide +kernel
theorem dX4_see_211 : decode cX4_see 211 = .ok (.getfield 83, 3) := by decide +kernel
theorem dX4_see_214 : decode cX4_see 214 = .ok (.iload_n 2, 1) := by decide +kernel
theorem dX4_see_215 : decode cX4_see 215 = .ok (.aload_n 0, 1) := by decide +kernel
theorem dX4_see_216 : decode cX4_see 216 = .ok (.getfield 80, 3) := by decide +kernel
theorem dX4_see_219 : decode cX4_see 219 = .ok (.if_icmp .ne 7, 3) := by decide +kernel
theorem dX4_see_222 : decode cX4_see 222 = .ok (.iconst 1, 1) := by decide +kernel
theorem dX4_see_223 : decode cX4_see 223 = .ok (.goto 4, 3) := by decide +kernel
theorem dX4_see_226 : decode cX4_see 226 = .ok (.iconst 0, 1) := by decide +kernel
theorem dX4_see_227 : decode cX4_see 227 = .ok (.iadd, 1) := by decide +kernel
theorem dX4_see_228 : decode cX4_see 228 = .ok (.putfield 83, 3) := by decide +kernel
theorem dX4_see_231 : decode cX4_see 231 = .ok (.return_, 1) := by decide +kernel
theorem dX4_look__0 : decode cX4_look_ 0 = .ok (.aload_n 0, 1) := by decide +kernel
theorem dX4_look__1 : decode cX4_look_ 1 = .ok (.invokevirtual 108, 3) := by decide +kernel
theorem dX4_look__4 : decode cX4_look_ 4 = .ok (.aload_n 0, 1) := by decide +kernel
theorem dX4_look__5 : decode cX4_look_ 5 = .ok (.aload_n 0, 1) := by decide +kernel
theorem dX4_look__6 : decode cX4_look_ 6 = .ok (.getfield 7, 3) := by decide +kernel
theorem dX4_look__9 : decode cX4_look_ 9 = .ok (.invokevirtual 111, 3) := by decide +kernel
theorem dX4_look__12 : decode cX4_look_ 12 = .ok (.return_, 1) := by decide +kernel
theorem dX4_without_0 : decode cX4_without 0 = .ok (.ldc 79, 2) := by decide +kernel
theorem dX4_without_2 : decode cX4_without 2 = .ok (.istore_n 3, 1) := by decide +kernel
theorem dX4_without_3 : decode cX4_without 3 = .ok (.iconst 0, 1) := by decide +kernel
theorem dX4_without_4 : decode cX4_without 4 = .ok (.istore 4, 2) := by decide +kernel
theorem dX4_without_6 : decode cX4_without 6 = .ok (.iload 4, 2) := by decide +kernel
theorem dX4_without_8 : decode cX4_without 8 = .ok (.aload_n 0, 1) := by decide +kernel
theorem dX4_without_9 : decode cX4_without 9 = .ok (.getfield 7, 3) := by decide +kernel
theorem dX4_without_12 : decode cX4_without 12 = .ok (.if_icmp .ge 48, 3) := by decide +kernel
theorem dX4_without_15 : decode cX4_without 15 = .ok (.iload 4, 2) := by decide +kernel
theorem dX4_without_17 : decode cX4_without 17 = .ok (.iload_n 2, 1) := by decide +kernel
theorem dX4_without_18 : decode cX4_without 18 = .ok (.if_icmp .eq 34, 3) := by decide +kernel
theorem dX4_without_21 : decode cX4_without 21 = .ok (.aload_n 0, 1) := by decide +kernel
theorem dX4_without_22 : decode cX4_without 22 = .ok (.getfield 39, 3) := by decide +kernel
theorem dX4_without_25 : decode cX4_without 25 = .ok (.bipush 7, 2) := by decide +kernel
theorem dX4_without_27 : decode cX4_without 27 = .ok (.iload_n 1, 1) := by decide +kernel
theorem dX4_without_28 : decode cX4_without 28 = .ok (.imul, 1) := by decide +kernel
theorem dX4_without_29 : decode cX4_without 29 = .ok (.iload 4, 2) := by decide +kernel
theorem dX4_without_31 : decode cX4_without 31 = .ok (.iadd, 1) := by decide +kernel
theorem dX4_without_32 : decode cX4_without 32 = .ok (.iaload, 1) := by decide +kernel
theorem dX4_without_33 : decode cX4_without 33 = .ok (.iload_n 3, 1) := by decide +kernel
theorem dX4_without_34 : decode cX4_without 34 = .ok (.if_icmp .ge 18, 3) := by decide +kernel
theorem dX4_without_37 : decode cX4_without 37 = .ok (.aload_n 0, 1) := by decide +kernel
theorem dX4_without_38 : decode cX4_without 38 = .ok (.getfield 39, 3) := by decide +kernel
theorem dX4_without_41 : decode cX4_without 41 = .ok (.bipush 7, 2) := by decide +kernel
theorem dX4_without_43 : decode cX4_without 43 = .ok (.iload_n 1, 1) := by decide +kernel
theorem dX4_without_44 : decode cX4_without 44 = .ok (.imul, 1) := by decide +kernel
theorem dX4_without_45 : decode cX4_without 45 = .ok (.iload 4, 2) := by decide +kernel
theorem dX4_without_47 : decode cX4_without 47 = .ok (.iadd, 1) := by decide +kernel
theorem dX4_without_48 : decode cX4_without 48 = .ok (.iaload, 1) := by decide +kernel
theorem dX4_without_49 : decode cX4_without 49 = .ok (.goto 4, 3) := by decide +kernel
theorem dX4_without_52 : decode cX4_without 52 = .ok (.iload_n 3, 1) := by decide +kernel
theorem dX4_without_53 : decode cX4_without 53 = .ok (.istore_n 3, 1) := by decide +kernel
theorem dX4_without_54 : decode cX4_without 54 = .ok (.iinc 4 1, 3) := by decide +kernel
theorem dX4_without_57 : decode cX4_without 57 = .ok (.goto (-51), 3) := by decide +kernel
theorem dX4_without_60 : decode cX4_without 60 = .ok (.iload_n 3, 1) := by decide +kernel
theorem dX4_without_61 : decode cX4_without 61 = .ok (.ireturn, 1) := by decide +kernel
theorem dX4_findPotentials_0 : decode cX4_findPotentials 0 = .ok (.aload_n 0, 1) := by decide +kernel
theorem dX4_findPotentials_1 : decode cX4_findPotentials 1 = .ok (.invokevirtual 114, 3) := by decide +kernel
theorem dX4_findPotentials_4 : decode cX4_findPotentials 4 = .ok (.iconst 0, 1) := by decide +kernel
theorem dX4_findPotentials_5 : decode cX4_findPotentials 5 = .ok (.istore_n 1, 1) := by decide +kernel
theorem dX4_findPotentials_6 : decode cX4_findPotentials 6 = .ok (.iload_n 1, 1) := by decide +kernel
theorem dX4_findPotentials_7 : decode cX4_findPotentials 7 = .ok (.aload_n 0, 1) := by decide +kernel
theorem dX4_findPotentials_8 : decode cX4_findPotentials 8 = .ok (.getfield 7, 3) := by decide +kernel
theorem dX4_findPotentials_11 : decode cX4_findPotentials 11 = .ok (.if_icmp .ge 39, 3) := by decide +kernel
theorem dX4_findPotentials_14 : decode cX4_findPotentials 14 = .ok (.aload_n 0, 1) := by decide +kernel
theorem dX4_findPotentials_15 : decode cX4_findPotentials 15 = .ok (.getfield 54, 3) := by decide +kernel
theorem dX4_findPotentials_18 : decode cX4_findPotentials 18 = .ok (.iload_n 1, 1) := by decide +kernel
theorem dX4_findPotentials_19 : decode cX4_findPotentials 19 = .ok (.aload_n 0, 1) := by decide +kernel
theorem dX4_findPotentials_20 : decode cX4_findPotentials 20 = .ok (.getfield 80, 3) := by decide +kernel
theorem dX4_findPotentials_23 : decode cX4_findPotentials 23 = .ok (.aload_n 0, 1) := by decide +kernel
theorem dX4_findPotentials_24 : decode cX4_findPotentials 24 = .ok (.getfield 39, 3) := by decide +kernel
theorem dX4_findPotentials_27 : decode cX4_findPotentials 27 = .ok (.bipush 7, 2) := by decide +kernel
theorem dX4_findPotentials_29 : decode cX4_findPotentials 29 = .ok (.iload_n 1, 1) := by decide +kernel
theorem dX4_findPotentials_30 : decode cX4_findPotentials 30 = .ok (.imul, 1) := by decide +kernel
theorem dX4_findPotentials_31 : decode cX4_findPotentials 31 = .ok (.iaload, 1) := by decide +kernel
theorem dX4_findPotentials_32 : decode cX4_findPotentials 32 = .ok (.aload_n 0, 1) := by decide +kernel
theorem dX4_findPotentials_33 : decode cX4_findPotentials 33 = .ok (.getfield 36, 3) := by decide +kernel
theorem dX4_findPotentials_36 : decode cX4_findPotentials 36 = .ok (.bipush 7, 2) := by decide +kernel
theorem dX4_findPotentials_38 : decode cX4_findPotentials 38 = .ok (.iload_n 1, 1) := by decide +kernel
theorem dX4_findPotentials_39 : decode cX4_findPotentials 39 = .ok (.imul, 1) := by decide +kernel
theorem dX4_findPotentials_40 : decode cX4_findPotentials 40 = .ok (.iaload, 1) := by decide +kernel
theorem dX4_findPotentials_41 : decode cX4_findPotentials 41 = .ok (.isub, 1) := by decide +kernel
theorem dX4_findPotentials_42 : decode cX4_findPotentials 42 = .ok (.isub, 1) := by decide +kernel
theorem dX4_findPotentials_43 : decode cX4_findPotentials 43 = .ok (.iastore, 1) := by decide +kernel
theorem dX4_findPotentials_44 : decode cX4_findPotentials 44 = .ok (.iinc 1 1, 3) := by decide +kernel
theorem dX4_findPotentials_47 : decode cX4_findPotentials 47 = .ok (.goto (-41), 3) := by decide +kernel
theorem dX4_findPotentials_50 : decode cX4_findPotentials 50 = .ok (.iconst 0, 1) := by decide +kernel
theorem dX4_findPotentials_51 : decode cX4_findPotentials 51 = .ok (.istore_n 1, 1) := by decide +kernel
theorem dX4_findPotentials_52 : decode cX4_findPotentials 52 = .ok (.iload_n 1, 1) := by decide +kernel
theorem dX4_findPotentials_53 : decode cX4_findPotentials 53 = .ok (.aload_n 0, 1) := by decide +kernel
theorem dX4_findPotentials_54 : decode cX4_findPotentials 54 = .ok (.getfield 7, 3) := by decide +kernel
theorem dX4_findPotentials_57 : decode cX4_findPotentials 57 = .ok (.if_icmp .ge 78, 3) := by decide +kernel
theorem dX4_findPotentials_60 : decode cX4_findPotentials 60 = .ok (.aload_n 0, 1) := by decide +kernel
theorem dX4_findPotentials_61 : decode cX4_findPotentials 61 = .ok (.getfield 57, 3) := by decide +kernel
theorem dX4_findPotentials_64 : decode cX4_findPotentials 64 = .ok (.iload_n 1, 1) := by decide +kernel
theorem dX4_findPotentials_65 : decode cX4_findPotentials 65 = .ok (.ldc 79, 2) := by decide +kernel
theorem dX4_findPotentials_67 : decode cX4_findPotentials 67 = .ok (.iastore, 1) := by decide +kernel
theorem dX4_findPotentials_68 : decode cX4_findPotentials 68 = .ok (.iconst 0, 1) := by decide +kernel
theorem dX4_findPotentials_69 : decode cX4_findPotentials 69 = .ok (.istore_n 2, 1) := by decide +kernel
theorem dX4_findPotentials_70 : decode cX4_findPotentials 70 = .ok (.iload_n 2, 1) := by decide +kernel
theorem dX4_findPotentials_71 : decode cX4_findPotentials 71 = .ok (.aload_n 0, 1) := by decide +kernel
theorem dX4_findPotentials_72 : decode cX4_findPotentials 72 = .ok (.getfield 7, 3) := by decide +kernel
theorem dX4_findPotentials_75 : decode cX4_findPotentials 75 = .ok (.if_icmp .ge 54, 3) := by decide +kernel
theorem dX4_findPotentials_78 : decode cX4_findPotentials 78 = .ok (.aload_n 0, 1) := by decide +kernel
theorem dX4_findPotentials_79 : decode cX4_findPotentials 79 = .ok (.getfield 36, 3) := by decide +kernel
theorem dX4_findPotentials_82 : decode cX4_findPotentials 82 = .ok (.bipush 7, 2) := by decide +kernel
theorem dX4_findPotentials_84 : decode cX4_findPotentials 84 = .ok (.iload_n 2, 1) := by decide +kernel
theorem dX4_findPotentials_85 : decode cX4_findPotentials 85 = .ok (.imul, 1) := by decide +kernel
theorem dX4_findPotentials_86 : decode cX4_findPotentials 86 = .ok (.iload_n 1, 1) := by decide +kernel
theorem dX4_findPotentials_87 : decode cX4_findPotentials 87 = .ok (.iadd, 1) := by decide +kernel
theorem dX4_findPotentials_88 : decode cX4_findPotentials 88 = .ok (.iaload, 1) := by decide +kernel
theorem dX4_findPotentials_89 : decode cX4_findPotentials 89 = .ok (.aload_n 0, 1) := by decide +kernel
theorem dX4_findPotentials_90 : decode cX4_findPotentials 90 = .ok (.getfield 54, 3) := by decide +kernel
theorem dX4_findPotentials_93 : decode cX4_findPotentials 93 = .ok (.iload_n 2, 1) := by decide +kernel
theorem dX4_findPotentials_94 : decode cX4_findPotentials 94 = .ok (.iaload, 1) := by decide +kernel
theorem dX4_findPotentials_95 : decode cX4_findPotentials 95 = .ok (.isub, 1) := by decide +kernel
theorem dX4_findPotentials_96 : decode cX4_findPotentials 96 = .ok (.istore_n 3, 1) := by decide +kernel
theorem dX4_findPotentials_97 : decode cX4_findPotentials 97 = .ok (.aload_n 0, 1) := by decide +kernel
theorem dX4_findPotentials_98 : decode cX4_findPotentials 98 = .ok (.getfield 57, 3) := by decide +kernel
theorem dX4_findPotentials_101 : decode cX4_findPotentials 101 = .ok (.iload_n 1, 1) := by decide +kernel
theorem dX4_findPotentials_102 : decode cX4_findPotentials 102 = .ok (.iload_n 3, 1) := by decide +kernel
theorem dX4_findPotentials_103 : decode cX4_findPotentials 103 = .ok (.aload_n 0, 1) := by decide +kernel
theorem dX4_findPotentials_104 : decode cX4_findPotentials 104 = .ok (.getfield 57, 3) := by decide +kernel
theorem dX4_findPotentials_107 : decode cX4_findPotentials 107 = .ok (.iload_n 1, 1) := by decide +kernel
theorem dX4_findPotentials_108 : decode cX4_findPotentials 108 = .ok (.iaload, 1) := by decide +kernel
theorem dX4_findPotentials_109 : decode cX4_findPotentials 109 = .ok (.if_icmp .ge 7, 3) := by decide +kernel
theorem dX4_findPotentials_112 : decode cX4_findPotentials 112 = .ok (.iload_n 3, 1) := by decide +kernel
theorem dX4_findPotentials_113 : decode cX4_findPotentials 113 = .ok (.goto 9, 3) := by decide +kernel
theorem dX4_findPotentials_116 : decode cX4_findPotentials 116 = .ok (.aload_n 0, 1) := by decide +kernel
theorem dX4_findPotentials_117 : decode cX4_findPotentials 117 = .ok (.getfield 57, 3) := by decide +kernel
theorem dX4_findPotentials_120 : decode cX4_findPotentials 120 = .ok (.iload_n 1, 1) := by decide +kernel
theorem dX4_findPotentials_121 : decode cX4_findPotentials 121 = .ok (.iaload, 1) := by decide +kernel
theorem dX4_findPotentials_122 : decode cX4_findPotentials 122 = .ok (.iastore, 1) := by decide +kernel
theorem dX4_findPotentials_123 : decode cX4_findPotentials 123 = .ok (.iinc 2 1, 3) := by decide +kernel
theorem dX4_findPotentials_126 : decode cX4_findPotentials 126 = .ok (.goto (-56), 3) := by decide +kernel
theorem dX4_findPotentials_129 : decode cX4_findPotentials 129 = .ok (.iinc 1 1, 3) := by decide +kernel
theorem dX4_findPotentials_132 : decode cX4_findPotentials 132 = .ok (.goto (-80), 3) := by decide +kernel
theorem dX4_findPotentials_135 : decode cX4_findPotentials 135 = .ok (.return_, 1) := by decide +kernel
theorem dX4_reduced_0 : decode cX4_reduced 0 = .ok (.aload_n 0, 1) := by decide +kernel
theorem dX4_reduced_1 : decode cX4_reduced 1 = .ok (.getfield 36, 3) := by decide +kernel
theorem dX4_reduced_4 : decode cX4_reduced 4 = .ok (.bipush 7, 2) := by decide +kernel
theorem dX4_reduced_6 : decode cX4_reduced 6 = .ok (.iload_n 1, 1) := by decide +kernel
theorem dX4_reduced_7 : decode cX4_reduced 7 = .ok (.imul, 1) := by decide +kernel
theorem dX4_reduced_8 : decode cX4_reduced 8 = .ok (.iload_n 2, 1) := by decide +kernel
theorem dX4_reduced_9 : decode cX4_reduced 9 = .ok (.iadd, 1) := by decide +kernel
theorem dX4_reduced_10 : decode cX4_reduced 10 = .ok (.iaload, 1) := by decide +kernel
theorem dX4_reduced_11 : decode cX4_reduced 11 = .ok (.aload_n 0, 1) := by decide +kernel
theorem dX4_reduced_12 : decode cX4_reduced 12 = .ok (.getfield 54, 3) := by decide +kernel
theorem dX4_reduced_15 : decode cX4_reduced 15 = .ok (.iload_n 1, 1) := by decide +kernel
theorem dX4_reduced_16 : decode cX4_reduced 16 = .ok (.iaload, 1) := by decide +kernel
theorem dX4_reduced_17 : decode cX4_reduced 17 = .ok (.isub, 1) := by decide +kernel
theorem dX4_reduced_18 : decode cX4_reduced 18 = .ok (.aload_n 0, 1) := by decide +kernel
theorem dX4_reduced_19 : decode cX4_reduced 19 = .ok (.getfield 57, 3) := by decide +kernel
theorem dX4_reduced_22 : decode cX4_reduced 22 = .ok (.iload_n 2, 1) := by decide +kernel
theorem dX4_reduced_23 : decode cX4_reduced 23 = .ok (.iaload, 1) := by decide +kernel
theorem dX4_reduced_24 : decode cX4_reduced 24 = .ok (.isub, 1) := by decide +kernel
theorem dX4_reduced_25 : decode cX4_reduced 25 = .ok (.ireturn, 1) := by decide +kernel
theorem dX4_resize_0 : decode cX4_resize 0 = .ok (.aload_n 0, 1) := by decide +kernel
theorem dX4_resize_1 : decode cX4_resize 1 = .ok (.iload_n 1, 1) := by decide +kernel
theorem dX4_resize_2 : decode cX4_resize 2 = .ok (.i2l, 1) := by decide +kernel
theorem dX4_resize_3 : decode cX4_resize 3 = .ok (.lconst 1, 1) := by decide +kernel
theorem dX4_resize_4 : decode cX4_resize 4 = .ok (.ldc2_w 116, 3) := by decide +kernel
theorem dX4_resize_7 : decode cX4_resize 7 = .ok (.invokestatic 63, 3) := by decide +kernel
theorem dX4_resize_10 : decode cX4_resize 10 = .ok (.ifCond .eq 14, 3) := by decide +kernel
theorem dX4_resize_13 : decode cX4_resize 13 = .ok (.iload_n 2, 1) := by decide +kernel
theorem dX4_resize_14 : decode cX4_resize 14 = .ok (.i2l, 1) := by decide +kernel
theorem dX4_resize_15 : decode cX4_resize 15 = .ok (.lconst 1, 1) := by decide +kernel
theorem dX4_resize_16 : decode cX4_resize 16 = .ok (.iload_n 1, 1) := by decide +kernel
theorem dX4_resize_17 : decode cX4_resize 17 = .ok (.i2l, 1) := by decide +kernel
theorem dX4_resize_18 : decode cX4_resize 18 = .ok (.invokestatic 63, 3) := by decide +kernel
theorem dX4_resize_21 : decode cX4_resize 21 = .ok (.ifCond .ne 7, 3) := by decide +kernel
theorem dX4_resize_24 : decode cX4_resize 24 = .ok (.iconst 1, 1) := by decide +kernel
theorem dX4_resize_25 : decode cX4_resize 25 = .ok (.goto 4, 3) := by decide +kernel
theorem dX4_resize_28 : decode cX4_resize 28 = .ok (.iconst 0, 1) := by decide +kernel
theorem dX4_resize_29 : decode cX4_resize 29 = .ok (.invokevirtual 118, 3) := by decide +kernel
theorem dX4_resize_32 : decode cX4_resize 32 = .ok (.ifCond .eq 5, 3) := by decide +kernel
theorem dX4_resize_35 : decode cX4_resize 35 = .ok (.iconst 0, 1) := by decide +kernel
theorem dX4_resize_36 : decode cX4_resize 36 = .ok (.ireturn, 1) := by decide +kernel
theorem dX4_resize_37 : decode cX4_resize 37 = .ok (.aload_n 0, 1) := by decide +kernel
theorem dX4_resize_38 : decode cX4_resize 38 = .ok (.iload_n 1, 1) := by decide +kernel
theorem dX4_resize_39 : decode cX4_resize 39 = .ok (.putfield 7, 3) := by decide +kernel
theorem dX4_resize_42 : decode cX4_resize 42 = .ok (.aload_n 0, 1) := by decide +kernel
theorem dX4_resize_43 : decode cX4_resize 43 = .ok (.iload_n 2, 1) := by decide +kernel
theorem dX4_resize_44 : decode cX4_resize 44 = .ok (.putfield 13, 3) := by decide +kernel
theorem dX4_resize_47 : decode cX4_resize 47 = .ok (.iconst 0, 1) := by decide +kernel
theorem dX4_resize_48 : decode cX4_resize 48 = .ok (.istore_n 3, 1) := by decide +kernel
theorem dX4_resize_49 : decode cX4_resize 49 = .ok (.iload_n 3, 1) := by decide +kernel
theorem dX4_resize_50 : decode cX4_resize 50 = .ok (.bipush 49, 2) := by decide +kernel
theorem dX4_resize_52 : decode cX4_resize 52 = .ok (.if_icmp .ge 23, 3) := by decide +kernel
theorem dX4_resize_55 : decode cX4_resize 55 = .ok (.aload_n 0, 1) := by decide +kernel
theorem dX4_resize_56 : decode cX4_resize 56 = .ok (.getfield 22, 3) := by decide +kernel
theorem dX4_resize_59 : decode cX4_resize 59 = .ok (.iload_n 3, 1) := by decide +kernel
theorem dX4_resize_60 : decode cX4_resize 60 = .ok (.iconst 0, 1) := by decide +kernel
theorem dX4_resize_61 : decode cX4_resize 61 = .ok (.iastore, 1) := by decide +kernel
theorem dX4_resize_62 : decode cX4_resize 62 = .ok (.aload_n 0, 1) := by decide +kernel
theorem dX4_resize_63 : decode cX4_resize 63 = .ok (.getfield 29, 3) := by decide +kernel
theorem dX4_resize_66 : decode cX4_resize 66 = .ok (.iload_n 3, 1) := by decide +kernel
theorem dX4_resize_67 : decode cX4_resize 67 = .ok (.iconst 0, 1) := by decide +kernel
theorem dX4_resize_68 : decode cX4_resize 68 = .ok (.bastore, 1) := by decide +kernel
theorem dX4_resize_69 : decode cX4_resize 69 = .ok (.iinc 3 1, 3) := by decide +kernel
theorem dX4_resize_72 : decode cX4_resize 72 = .ok (.goto (-23), 3) := by decide +kernel
theorem dX4_resize_75 : decode cX4_resize 75 = .ok (.aload_n 0, 1) := by decide +kernel
theorem dX4_resize_76 : decode cX4_resize 76 = .ok (.iconst (-1), 1) := by decide +kernel
theorem dX4_resize_77 : decode cX4_resize 77 = .ok (.putfield 48, 3) := by decide +kernel
theorem dX4_resize_80 : decode cX4_resize 80 = .ok (.aload_n 0, 1) := by decide +kernel
theorem dX4_resize_81 : decode cX4_resize 81 = .ok (.getfield 7, 3) := by decide +kernel
theorem dX4_resize_84 : decode cX4_resize 84 = .ok (.aload_n 0, 1) := by decide +kernel
theorem dX4_resize_85 : decode cX4_resize 85 = .ok (.getfield 13, 3) := by decide +kernel
theorem dX4_resize_88 : decode cX4_resize 88 = .ok (.imul, 1) := by decide +kernel
theorem dX4_resize_89 : decode cX4_resize 89 = .ok (.ireturn, 1) := by decide +kernel
theorem dX4_setCost_0 : decode cX4_setCost 0 = .ok (.aload_n 0, 1) := by decide +kernel
theorem dX4_setCost_1 : decode cX4_setCost 1 = .ok (.aload_n 0, 1) := by decide +kernel
theorem dX4_setCost_2 : decode cX4_setCost 2 = .ok (.iload_n 1, 1) := by decide +kernel
theorem dX4_setCost_3 : decode cX4_setCost 3 = .ok (.invokevirtual 122, 3) := by decide +kernel
theorem dX4_setCost_6 : decode cX4_setCost 6 = .ok (.ifCond .eq 11, 3) := by decide +kernel
theorem dX4_setCost_9 : decode cX4_setCost 9 = .ok (.aload_n 0, 1) := by decide +kernel
theorem dX4_setCost_10 : decode cX4_setCost 10 = .ok (.iload_n 2, 1) := by decide +kernel
theorem dX4_setCost_11 : decode cX4_setCost 11 = .ok (.invokevirtual 125, 3) := by decide +kernel
theorem dX4_setCost_14 : decode cX4_setCost 14 = .ok (.ifCond .ne 7, 3) := by decide +kernel
theorem dX4_setCost_17 : decode cX4_setCost 17 = .ok (.iconst 1, 1) := by decide +kernel
theorem dX4_setCost_18 : decode cX4_setCost 18 = .ok (.goto 20, 3) := by decide +kernel
theorem dX4_setCost_21 : decode cX4_setCost 21 = .ok (.iload_n 3, 1) := by decide +kernel
theorem dX4_setCost_22 : decode cX4_setCost 22 = .ok (.i2l, 1) := by decide +kernel
theorem dX4_setCost_23 : decode cX4_setCost 23 = .ok (.lconst 0, 1) := by decide +kernel
theorem dX4_setCost_24 : decode cX4_setCost 24 = .ok (.ldc2_w 128, 3) := by decide +kernel
theorem dX4_setCost_27 : decode cX4_setCost 27 = .ok (.invokestatic 63, 3) := by decide +kernel
theorem dX4_setCost_30 : decode cX4_setCost 30 = .ok (.ifCond .ne 7, 3) := by decide +kernel
theorem dX4_setCost_33 : decode cX4_setCost 33 = .ok (.iconst 2, 1) := by decide +kernel
theorem dX4_setCost_34 : decode cX4_setCost 34 = .ok (.goto 4, 3) := by decide +kernel
theorem dX4_setCost_37 : decode cX4_setCost 37 = .ok (.iconst 0, 1) := by decide +kernel
theorem dX4_setCost_38 : decode cX4_setCost 38 = .ok (.invokevirtual 118, 3) := by decide +kernel
theorem dX4_setCost_41 : decode cX4_setCost 41 = .ok (.ifCond .eq 5, 3) := by decide +kernel
theorem dX4_setCost_44 : decode cX4_setCost 44 = .ok (.iconst 0, 1) := by decide +kernel
theorem dX4_setCost_45 : decode cX4_setCost 45 = .ok (.ireturn, 1) := by decide +kernel
theorem dX4_setCost_46 : decode cX4_setCost 46 = .ok (.aload_n 0, 1) := by decide +kernel
theorem dX4_setCost_47 : decode cX4_setCost 47 = .ok (.getfield 22, 3) := by decide +kernel
theorem dX4_setCost_50 : decode cX4_setCost 50 = .ok (.bipush 7, 2) := by decide +kernel
theorem dX4_setCost_52 : decode cX4_setCost 52 = .ok (.iload_n 1, 1) := by decide +kernel
theorem dX4_setCost_53 : decode cX4_setCost 53 = .ok (.imul, 1) := by decide +kernel
theorem dX4_setCost_54 : decode cX4_setCost 54 = .ok (.iload_n 2, 1) := by decide +kernel
theorem dX4_setCost_55 : decode cX4_setCost 55 = .ok (.iadd, 1) := by decide +kernel
theorem dX4_setCost_56 : decode cX4_setCost 56 = .ok (.iaload, 1) := by decide +kernel
theorem dX4_setCost_57 : decode cX4_setCost 57 = .ok (.istore 4, 2) := by decide +kernel
theorem dX4_setCost_59 : decode cX4_setCost 59 = .ok (.aload_n 0, 1) := by decide +kernel
theorem dX4_setCost_60 : decode cX4_setCost 60 = .ok (.getfield 22, 3) := by decide +kernel
theorem dX4_setCost_63 : decode cX4_setCost 63 = .ok (.bipush 7, 2) := by decide +kernel
theorem dX4_setCost_65 : decode cX4_setCost 65 = .ok (.iload_n 1, 1) := by decide +kernel
theorem dX4_setCost_66 : decode cX4_setCost 66 = .ok (.imul, 1) := by decide +kernel
theorem dX4_setCost_67 : decode cX4_setCost 67 = .ok (.iload_n 2, 1) := by decide +kernel
theorem dX4_setCost_68 : decode cX4_setCost 68 = .ok (.iadd, 1) := by decide +kernel
theorem dX4_setCost_69 : decode cX4_setCost 69 = .ok (.iload_n 3, 1) := by decide +kernel
theorem dX4_setCost_70 : decode cX4_setCost 70 = .ok (.iastore, 1) := by decide +kernel
theorem dX4_setCost_71 : decode cX4_setCost 71 = .ok (.aload_n 0, 1) := by decide +kernel
theorem dX4_setCost_72 : decode cX4_setCost 72 = .ok (.iconst (-1), 1) := by decide +kernel
theorem dX4_setCost_73 : decode cX4_setCost 73 = .ok (.putfield 48, 3) := by decide +kernel
theorem dX4_setCost_76 : decode cX4_setCost 76 = .ok (.iload 4, 2) := by decide +kernel
theorem dX4_setCost_78 : decode cX4_setCost 78 = .ok (.ireturn, 1) := by decide +kernel
theorem dX4_setRow_0 : decode cX4_setRow 0 = .ok (.lconst 1, 1) := by decide +kernel
theorem dX4_setRow_1 : decode cX4_setRow 1 = .ok (.lstore 4, 2) := by decide +kernel
theorem dX4_setRow_3 : decode cX4_setRow 3 = .ok (.iconst 0, 1) := by decide +kernel
theorem dX4_setRow_4 : decode cX4_setRow 4 = .ok (.istore 6, 2) := by decide +kernel
theorem dX4_setRow_6 : decode cX4_setRow 6 = .ok (.iload 6, 2) := by decide +kernel
theorem dX4_setRow_8 : decode cX4_setRow 8 = .ok (.aload_n 0, 1) := by decide +kernel
theorem dX4_setRow_9 : decode cX4_setRow 9 = .ok (.getfield 13, 3) := by decide +kernel
theorem dX4_setRow_12 : decode cX4_setRow 12 = .ok (.if_icmp .ge 17, 3) := by decide +kernel
theorem dX4_setRow_15 : decode cX4_setRow 15 = .ok (.lload 4, 2) := by decide +kernel
theorem dX4_setRow_17 : decode cX4_setRow 17 = .ok (.ldc2_w 130, 3) := by decide +kernel
theorem dX4_setRow_20 : decode cX4_setRow 20 = .ok (.lmul, 1) := by decide +kernel
theorem dX4_setRow_21 : decode cX4_setRow 21 = .ok (.lstore 4, 2) := by decide +kernel
theorem dX4_setRow_23 : decode cX4_setRow 23 = .ok (.iinc 6 1, 3) := by decide +kernel
theorem dX4_setRow_26 : decode cX4_setRow 26 = .ok (.goto (-20), 3) := by decide +kernel
theorem dX4_setRow_29 : decode cX4_setRow 29 = .ok (.aload_n 0, 1) := by decide +kernel
theorem dX4_setRow_30 : decode cX4_setRow 30 = .ok (.aload_n 0, 1) := by decide +kernel
theorem dX4_setRow_31 : decode cX4_setRow 31 = .ok (.iload_n 1, 1) := by decide +kernel
theorem dX4_setRow_32 : decode cX4_setRow 32 = .ok (.invokevirtual 122, 3) := by decide +kernel
theorem dX4_setRow_35 : decode cX4_setRow 35 = .ok (.ifCond .ne 7, 3) := by decide +kernel
theorem dX4_setRow_38 : decode cX4_setRow 38 = .ok (.iconst 1, 1) := by decide +kernel
theorem dX4_setRow_39 : decode cX4_setRow 39 = .ok (.goto 21, 3) := by decide +kernel
theorem dX4_setRow_42 : decode cX4_setRow 42 = .ok (.lload_n 2, 1) := by decide +kernel
theorem dX4_setRow_43 : decode cX4_setRow 43 = .ok (.lconst 0, 1) := by decide +kernel
theorem dX4_setRow_44 : decode cX4_setRow 44 = .ok (.lcmp, 1) := by decide +kernel
theorem dX4_setRow_45 : decode cX4_setRow 45 = .ok (.ifCond .lt 10, 3) := by decide +kernel
theorem dX4_setRow_48 : decode cX4_setRow 48 = .ok (.lload_n 2, 1) := by decide +kernel
theorem dX4_setRow_49 : decode cX4_setRow 49 = .ok (.lload 4, 2) := by decide +kernel
theorem dX4_setRow_51 : decode cX4_setRow 51 = .ok (.lcmp, 1) := by decide +kernel
theorem dX4_setRow_52 : decode cX4_setRow 52 = .ok (.ifCond .lt 7, 3) := by decide +kernel
theorem dX4_setRow_55 : decode cX4_setRow 55 = .ok (.iconst 2, 1) := by decide +kernel
theorem dX4_setRow_56 : decode cX4_setRow 56 = .ok (.goto 4, 3) := by decide +kernel
theorem dX4_setRow_59 : decode cX4_setRow 59 = .ok (.iconst 0, 1) := by decide +kernel
theorem dX4_setRow_60 : decode cX4_setRow 60 = .ok (.invokevirtual 118, 3) := by decide +kernel
theorem dX4_setRow_63 : decode cX4_setRow 63 = .ok (.ifCond .eq 5, 3) := by decide +kernel
theorem dX4_setRow_66 : decode cX4_setRow 66 = .ok (.iconst 0, 1) := by decide +kernel
theorem dX4_setRow_67 : decode cX4_setRow 67 = .ok (.ireturn, 1) := by decide +kernel
theorem dX4_setRow_68 : decode cX4_setRow 68 = .ok (.lload_n 2, 1) := by decide +kernel
theorem dX4_setRow_69 : decode cX4_setRow 69 = .ok (.lstore 6, 2) := by decide +kernel
theorem dX4_setRow_71 : decode cX4_setRow 71 = .ok (.bipush 99, 2) := by decide +kernel
theorem dX4_setRow_73 : decode cX4_setRow 73 = .ok (.istore 8, 2) := by decide +kernel
theorem dX4_setRow_75 : decode cX4_setRow 75 = .ok (.aload_n 0, 1) := by decide +kernel
theorem dX4_setRow_76 : decode cX4_setRow 76 = .ok (.getfield 13, 3) := by decide +kernel
theorem dX4_setRow_79 : decode cX4_setRow 79 = .ok (.iconst 1, 1) := by decide +kernel
theorem dX4_setRow_80 : decode cX4_setRow 80 = .ok (.isub, 1) := by decide +kernel
theorem dX4_setRow_81 : decode cX4_setRow 81 = .ok (.istore 9, 2) := by decide +kernel
theorem dX4_setRow_83 : decode cX4_setRow 83 = .ok (.iload 9, 2) := by decide +kernel
theorem dX4_setRow_85 : decode cX4_setRow 85 = .ok (.ifCond .lt 56, 3) := by decide +kernel
theorem dX4_setRow_88 : decode cX4_setRow 88 = .ok (.lload 6, 2) := by decide +kernel
theorem dX4_setRow_90 : decode cX4_setRow 90 = .ok (.ldc2_w 130, 3) := by decide +kernel
theorem dX4_setRow_93 : decode cX4_setRow 93 = .ok (.lrem, 1) := by decide +kernel
theorem dX4_setRow_94 : decode cX4_setRow 94 = .ok (.l2i, 1) := by decide +kernel
theorem dX4_setRow_95 : decode cX4_setRow 95 = .ok (.istore 10, 2) := by decide +kernel
theorem dX4_setRow_97 : decode cX4_setRow 97 = .ok (.lload 6, 2) := by decide +kernel
theorem dX4_setRow_99 : decode cX4_setRow 99 = .ok (.ldc2_w 130, 3) := by decide +kernel
theorem dX4_setRow_102 : decode cX4_setRow 102 = .ok (.ldiv, 1) := by decide +kernel
theorem dX4_setRow_103 : decode cX4_setRow 103 = .ok (.lstore 6, 2) := by decide +kernel
theorem dX4_setRow_105 : decode cX4_setRow 105 = .ok (.aload_n 0, 1) := by decide +kernel
theorem dX4_setRow_106 : decode cX4_setRow 106 = .ok (.getfield 22, 3) := by decide +kernel
theorem dX4_setRow_109 : decode cX4_setRow 109 = .ok (.bipush 7, 2) := by decide +kernel
theorem dX4_setRow_111 : decode cX4_setRow 111 = .ok (.iload_n 1, 1) := by decide +kernel
theorem dX4_setRow_112 : decode cX4_setRow 112 = .ok (.imul, 1) := by decide +kernel
theorem dX4_setRow_113 : decode cX4_setRow 113 = .ok (.iload 9, 2) := by decide +kernel
theorem dX4_setRow_115 : decode cX4_setRow 115 = .ok (.iadd, 1) := by decide +kernel
theorem dX4_setRow_116 : decode cX4_setRow 116 = .ok (.iload 10, 2) := by decide +kernel
theorem dX4_setRow_118 : decode cX4_setRow 118 = .ok (.iastore, 1) := by decide +kernel
theorem dX4_setRow_119 : decode cX4_setRow 119 = .ok (.iload 10, 2) := by decide +kernel
theorem dX4_setRow_121 : decode cX4_setRow 121 = .ok (.iload 8, 2) := by decide +kernel
theorem dX4_setRow_123 : decode cX4_setRow 123 = .ok (.if_icmp .ge 8, 3) := by decide +kernel
theorem dX4_setRow_126 : decode cX4_setRow 126 = .ok (.iload 10, 2) := by decide +kernel
theorem dX4_setRow_128 : decode cX4_setRow 128 = .ok (.goto 5, 3) := by decide +kernel
theorem dX4_setRow_131 : decode cX4_setRow 131 = .ok (.iload 8, 2) := by decide +kernel
theorem dX4_setRow_133 : decode cX4_setRow 133 = .ok (.istore 8, 2) := by decide +kernel
theorem dX4_setRow_135 : decode cX4_setRow 135 = .ok (.iinc 9 (-1), 3) := by decide +kernel
theorem dX4_setRow_138 : decode cX4_setRow 138 = .ok (.goto (-55), 3) := by decide +kernel
theorem dX4_setRow_141 : decode cX4_setRow 141 = .ok (.aload_n 0, 1) := by decide +kernel
theorem dX4_setRow_142 : decode cX4_setRow 142 = .ok (.iconst (-1), 1) := by decide +kernel
theorem dX4_setRow_143 : decode cX4_setRow 143 = .ok (.putfield 48, 3) := by decide +kernel
theorem dX4_setRow_146 : decode cX4_setRow 146 = .ok (.iload 8, 2) := by decide +kernel
theorem dX4_setRow_148 : decode cX4_setRow 148 = .ok (.ireturn, 1) := by decide +kernel
theorem dX4_fill_0 : decode cX4_fill 0 = .ok (.aload_n 0, 1) := by decide +kernel
theorem dX4_fill_1 : decode cX4_fill 1 = .ok (.iload_n 1, 1) := by decide +kernel
theorem dX4_fill_2 : decode cX4_fill 2 = .ok (.i2l, 1) := by decide +kernel
theorem dX4_fill_3 : decode cX4_fill 3 = .ok (.lconst 0, 1) := by decide +kernel
theorem dX4_fill_4 : decode cX4_fill 4 = .ok (.ldc2_w 132, 3) := by decide +kernel
theorem dX4_fill_7 : decode cX4_fill 7 = .ok (.invokestatic 63, 3) := by decide +kernel
theorem dX4_fill_10 : decode cX4_fill 10 = .ok (.ifCond .eq 15, 3) := by decide +kernel
theorem dX4_fill_13 : decode cX4_fill 13 = .ok (.iload_n 2, 1) := by decide +kernel
theorem dX4_fill_14 : decode cX4_fill 14 = .ok (.i2l, 1) := by decide +kernel
theorem dX4_fill_15 : decode cX4_fill 15 = .ok (.lconst 0, 1) := by decide +kernel
theorem dX4_fill_16 : decode cX4_fill 16 = .ok (.ldc2_w 128, 3) := by decide +kernel
theorem dX4_fill_19 : decode cX4_fill 19 = .ok (.invokestatic 63, 3) := by decide +kernel
theorem dX4_fill_22 : decode cX4_fill 22 = .ok (.ifCond .ne 7, 3) := by decide +kernel
theorem dX4_fill_25 : decode cX4_fill 25 = .ok (.iconst 1, 1) := by decide +kernel
theorem dX4_fill_26 : decode cX4_fill 26 = .ok (.goto 4, 3) := by decide +kernel
theorem dX4_fill_29 : decode cX4_fill 29 = .ok (.iconst 0, 1) := by decide +kernel
theorem dX4_fill_30 : decode cX4_fill 30 = .ok (.invokevirtual 118, 3) := by decide +kernel
theorem dX4_fill_33 : decode cX4_fill 33 = .ok (.ifCond .eq 5, 3) := by decide +kernel
theorem dX4_fill_36 : decode cX4_fill 36 = .ok (.iconst 0, 1) := by decide +kernel
theorem dX4_fill_37 : decode cX4_fill 37 = .ok (.ireturn, 1) := by decide +kernel
theorem dX4_fill_38 : decode cX4_fill 38 = .ok (.iload_n 1, 1) := by decide +kernel
theorem dX4_fill_39 : decode cX4_fill 39 = .ok (.istore_n 3, 1) := by decide +kernel
theorem dX4_fill_40 : decode cX4_fill 40 = .ok (.iconst 0, 1) := by decide +kernel
theorem dX4_fill_41 : decode cX4_fill 41 = .ok (.istore 4, 2) := by decide +kernel
theorem dX4_fill_43 : decode cX4_fill 43 = .ok (.iconst 0, 1) := by decide +kernel
theorem dX4_fill_44 : decode cX4_fill 44 = .ok (.istore 5, 2) := by decide +kernel
theorem dX4_fill_46 : decode cX4_fill 46 = .ok (.iload 5, 2) := by decide +kernel
theorem dX4_fill_48 : decode cX4_fill 48 = .ok (.aload_n 0, 1) := by decide +kernel
theorem dX4_fill_49 : decode cX4_fill 49 = .ok (.getfield 7, 3) := by decide +kernel
theorem dX4_fill_52 : decode cX4_fill 52 = .ok (.if_icmp .ge 89, 3) := by decide +kernel
theorem dX4_fill_55 : decode cX4_fill 55 = .ok (.iconst 0, 1) := by decide +kernel
theorem dX4_fill_56 : decode cX4_fill 56 = .ok (.istore 6, 2) := by decide +kernel
theorem dX4_fill_58 : decode cX4_fill 58 = .ok (.iload 6, 2) := by decide +kernel
theorem dX4_fill_60 : decode cX4_fill 60 = .ok (.aload_n 0, 1) := by decide +kernel
theorem dX4_fill_61 : decode cX4_fill 61 = .ok (.getfield 13, 3) := by decide +kernel
theorem dX4_fill_64 : decode cX4_fill 64 = .ok (.if_icmp .ge 71, 3) := by decide +kernel
theorem dX4_fill_67 : decode cX4_fill 67 = .ok (.bipush 37, 2) := by decide +kernel
theorem dX4_fill_69 : decode cX4_fill 69 = .ok (.iload_n 3, 1) := by decide +kernel
theorem dX4_fill_70 : decode cX4_fill 70 = .ok (.imul, 1) := by decide +kernel
theorem dX4_fill_71 : decode cX4_fill 71 = .ok (.bipush 11, 2) := by decide +kernel
theorem dX4_fill_73 : decode cX4_fill 73 = .ok (.iadd, 1) := by decide +kernel
theorem dX4_fill_74 : decode cX4_fill 74 = .ok (.sipush 10007, 3) := by decide +kernel
theorem dX4_fill_77 : decode cX4_fill 77 = .ok (.irem, 1) := by decide +kernel
theorem dX4_fill_78 : decode cX4_fill 78 = .ok (.istore_n 3, 1) := by decide +kernel
theorem dX4_fill_79 : decode cX4_fill 79 = .ok (.aload_n 0, 1) := by decide +kernel
theorem dX4_fill_80 : decode cX4_fill 80 = .ok (.getfield 22, 3) := by decide +kernel
theorem dX4_fill_83 : decode cX4_fill 83 = .ok (.bipush 7, 2) := by decide +kernel
theorem dX4_fill_85 : decode cX4_fill 85 = .ok (.iload 5, 2) := by decide +kernel
theorem dX4_fill_87 : decode cX4_fill 87 = .ok (.imul, 1) := by decide +kernel
theorem dX4_fill_88 : decode cX4_fill 88 = .ok (.iload 6, 2) := by decide +kernel
theorem dX4_fill_90 : decode cX4_fill 90 = .ok (.iadd, 1) := by decide +kernel
theorem dX4_fill_91 : decode cX4_fill 91 = .ok (.iload_n 3, 1) := by decide +kernel
theorem dX4_fill_92 : decode cX4_fill 92 = .ok (.iload_n 2, 1) := by decide +kernel
theorem dX4_fill_93 : decode cX4_fill 93 = .ok (.iconst 1, 1) := by decide +kernel
theorem dX4_fill_94 : decode cX4_fill 94 = .ok (.iadd, 1) := by decide +kernel
theorem dX4_fill_95 : decode cX4_fill 95 = .ok (.irem, 1) := by decide +kernel
theorem dX4_fill_96 : decode cX4_fill 96 = .ok (.iastore, 1) := by decide +kernel
theorem dX4_fill_97 : decode cX4_fill 97 = .ok (.aload_n 0, 1) := by decide +kernel
theorem dX4_fill_98 : decode cX4_fill 98 = .ok (.getfield 29, 3) := by decide +kernel
theorem dX4_fill_101 : decode cX4_fill 101 = .ok (.bipush 7, 2) := by decide +kernel
theorem dX4_fill_103 : decode cX4_fill 103 = .ok (.iload 5, 2) := by decide +kernel
theorem dX4_fill_105 : decode cX4_fill 105 = .ok (.imul, 1) := by decide +kernel
theorem dX4_fill_106 : decode cX4_fill 106 = .ok (.iload 6, 2) := by decide +kernel
theorem dX4_fill_108 : decode cX4_fill 108 = .ok (.iadd, 1) := by decide +kernel
theorem dX4_fill_109 : decode cX4_fill 109 = .ok (.iconst 0, 1) := by decide +kernel
theorem dX4_fill_110 : decode cX4_fill 110 = .ok (.bastore, 1) := by decide +kernel
theorem dX4_fill_111 : decode cX4_fill 111 = .ok (.iload 4, 2) := by decide +kernel
theorem dX4_fill_113 : decode cX4_fill 113 = .ok (.aload_n 0, 1) := by decide +kernel
theorem dX4_fill_114 : decode cX4_fill 114 = .ok (.getfield 22, 3) := by decide +kernel
theorem dX4_fill_117 : decode cX4_fill 117 = .ok (.bipush 7, 2) := by decide +kernel
theorem dX4_fill_119 : decode cX4_fill 119 = .ok (.iload 5, 2) := by decide +kernel
theorem dX4_fill_121 : decode cX4_fill 121 = .ok (.imul, 1) := by decide +kernel
theorem dX4_fill_122 : decode cX4_fill 122 = .ok (.iload 6, 2) := by decide +kernel
theorem dX4_fill_124 : decode cX4_fill 124 = .ok (.iadd, 1) := by decide +kernel
theorem dX4_fill_125 : decode cX4_fill 125 = .ok (.iaload, 1) := by decide +kernel
theorem dX4_fill_126 : decode cX4_fill 126 = .ok (.iadd, 1) := by decide +kernel
theorem dX4_fill_127 : decode cX4_fill 127 = .ok (.istore 4, 2) := by decide +kernel
theorem dX4_fill_129 : decode cX4_fill 129 = .ok (.iinc 6 1, 3) := by decide +kernel
theorem dX4_fill_132 : decode cX4_fill 132 = .ok (.goto (-74), 3) := by decide +kernel
theorem dX4_fill_135 : decode cX4_fill 135 = .ok (.iinc 5 1, 3) := by decide +kernel
theorem dX4_fill_138 : decode cX4_fill 138 = .ok (.goto (-92), 3) := by decide +kernel
theorem dX4_fill_141 : decode cX4_fill 141 = .ok (.aload_n 0, 1) := by decide +kernel
theorem dX4_fill_142 : decode cX4_fill 142 = .ok (.iconst (-1), 1) := by decide +kernel
theorem dX4_fill_143 : decode cX4_fill 143 = .ok (.putfield 48, 3) := by decide +kernel
theorem dX4_fill_146 : decode cX4_fill 146 = .ok (.iload 4, 2) := by decide +kernel
theorem dX4_fill_148 : decode cX4_fill 148 = .ok (.ireturn, 1) := by decide +kernel
theorem dX4_forbiddenMany_0 : decode cX4_forbiddenMany 0 = .ok (.iconst 0, 1) := by decide +kernel
theorem dX4_forbiddenMany_1 : decode cX4_forbiddenMany 1 = .ok (.istore_n 1, 1) := by decide +kernel
theorem dX4_forbiddenMany_2 : decode cX4_forbiddenMany 2 = .ok (.iconst 0, 1) := by decide +kernel
theorem dX4_forbiddenMany_3 : decode cX4_forbiddenMany 3 = .ok (.istore_n 2, 1) := by decide +kernel
theorem dX4_forbiddenMany_4 : decode cX4_forbiddenMany 4 = .ok (.iload_n 2, 1) := by decide +kernel
theorem dX4_forbiddenMany_5 : decode cX4_forbiddenMany 5 = .ok (.aload_n 0, 1) := by decide +kernel
theorem dX4_forbiddenMany_6 : decode cX4_forbiddenMany 6 = .ok (.getfield 7, 3) := by decide +kernel
theorem dX4_forbiddenMany_9 : decode cX4_forbiddenMany 9 = .ok (.if_icmp .ge 47, 3) := by decide +kernel
theorem dX4_forbiddenMany_12 : decode cX4_forbiddenMany 12 = .ok (.iconst 0, 1) := by decide +kernel
theorem dX4_forbiddenMany_13 : decode cX4_forbiddenMany 13 = .ok (.istore_n 3, 1) := by decide +kernel
theorem dX4_forbiddenMany_14 : decode cX4_forbiddenMany 14 = .ok (.iload_n 3, 1) := by decide +kernel
theorem dX4_forbiddenMany_15 : decode cX4_forbiddenMany 15 = .ok (.aload_n 0, 1) := by decide +kernel
theorem dX4_forbiddenMany_16 : decode cX4_forbiddenMany 16 = .ok (.getfield 13, 3) := by decide +kernel
theorem dX4_forbiddenMany_19 : decode cX4_forbiddenMany 19 = .ok (.if_icmp .ge 31, 3) := by decide +kernel
theorem dX4_forbiddenMany_22 : decode cX4_forbiddenMany 22 = .ok (.iload_n 1, 1) := by decide +kernel
theorem dX4_forbiddenMany_23 : decode cX4_forbiddenMany 23 = .ok (.aload_n 0, 1) := by decide +kernel
theorem dX4_forbiddenMany_24 : decode cX4_forbiddenMany 24 = .ok (.getfield 29, 3) := by decide +kernel
theorem dX4_forbiddenMany_27 : decode cX4_forbiddenMany 27 = .ok (.bipush 7, 2) := by decide +kernel
theorem dX4_forbiddenMany_29 : decode cX4_forbiddenMany 29 = .ok (.iload_n 2, 1) := by decide +kernel
theorem dX4_forbiddenMany_30 : decode cX4_forbiddenMany 30 = .ok (.imul, 1) := by decide +kernel
theorem dX4_forbiddenMany_31 : decode cX4_forbiddenMany 31 = .ok (.iload_n 3, 1) := by decide +kernel
theorem dX4_forbiddenMany_32 : decode cX4_forbiddenMany 32 = .ok (.iadd, 1) := by decide +kernel
theorem dX4_forbiddenMany_33 : decode cX4_forbiddenMany 33 = .ok (.baload, 1) := by decide +kernel
theorem dX4_forbiddenMany_34 : decode cX4_forbiddenMany 34 = .ok (.ifCond .eq 7, 3) := by decide +kernel
theorem dX4_forbiddenMany_37 : decode cX4_forbiddenMany 37 = .ok (.iconst 1, 1) := by decide +kernel
theorem dX4_forbiddenMany_38 : decode cX4_forbiddenMany 38 = .ok (.goto 4, 3) := by decide +kernel
theorem dX4_forbiddenMany_41 : decode cX4_forbiddenMany 41 = .ok (.iconst 0, 1) := by decide +kernel
theorem dX4_forbiddenMany_42 : decode cX4_forbiddenMany 42 = .ok (.iadd, 1) := by decide +kernel
theorem dX4_forbiddenMany_43 : decode cX4_forbiddenMany 43 = .ok (.istore_n 1, 1) := by decide +kernel
theorem dX4_forbiddenMany_44 : decode cX4_forbiddenMany 44 = .ok (.iinc 3 1, 3) := by decide +kernel
theorem dX4_forbiddenMany_47 : decode cX4_forbiddenMany 47 = .ok (.goto (-33), 3) := by decide +kernel
theorem dX4_forbiddenMany_50 : decode cX4_forbiddenMany 50 = .ok (.iinc 2 1, 3) := by decide +kernel
theorem dX4_forbiddenMany_53 : decode cX4_forbiddenMany 53 = .ok (.goto (-49), 3) := by decide +kernel
theorem dX4_forbiddenMany_56 : decode cX4_forbiddenMany 56 = .ok (.iload_n 1, 1) := by decide +kernel
theorem dX4_forbiddenMany_57 : decode cX4_forbiddenMany 57 = .ok (.ireturn, 1) := by decide +kernel
theorem dX4_setForbidden_0 : decode cX4_setForbidden 0 = .ok (.aload_n 0, 1) := by decide +kernel
theorem dX4_setForbidden_1 : decode cX4_setForbidden 1 = .ok (.aload_n 0, 1) := by decide +kernel
theorem dX4_setForbidden_2 : decode cX4_setForbidden 2 = .ok (.iload_n 1, 1) := by decide +kernel
theorem dX4_setForbidden_3 : decode cX4_setForbidden 3 = .ok (.invokevirtual 122, 3) := by decide +kernel
theorem dX4_setForbidden_6 : decode cX4_setForbidden 6 = .ok (.ifCond .eq 11, 3) := by decide +kernel
theorem dX4_setForbidden_9 : decode cX4_setForbidden 9 = .ok (.aload_n 0, 1) := by decide +kernel
theorem dX4_setForbidden_10 : decode cX4_setForbidden 10 = .ok (.iload_n 2, 1) := by decide +kernel
theorem dX4_setForbidden_11 : decode cX4_setForbidden 11 = .ok (.invokevirtual 125, 3) := by decide +kernel
theorem dX4_setForbidden_14 : decode cX4_setForbidden 14 = .ok (.ifCond .ne 7, 3) := by decide +kernel
theorem dX4_setForbidden_17 : decode cX4_setForbidden 17 = .ok (.iconst 1, 1) := by decide +kernel
theorem dX4_setForbidden_18 : decode cX4_setForbidden 18 = .ok (.goto 4, 3) := by decide +kernel
theorem dX4_setForbidden_21 : decode cX4_setForbidden 21 = .ok (.iconst 0, 1) := by decide +kernel
theorem dX4_setForbidden_22 : decode cX4_setForbidden 22 = .ok (.invokevirtual 118, 3) := by decide +kernel
theorem dX4_setForbidden_25 : decode cX4_setForbidden 25 = .ok (.ifCond .eq 5, 3) := by decide +kernel
theorem dX4_setForbidden_28 : decode cX4_setForbidden 28 = .ok (.iconst 0, 1) := by decide +kernel
theorem dX4_setForbidden_29 : decode cX4_setForbidden 29 = .ok (.ireturn, 1) := by decide +kernel
theorem dX4_setForbidden_30 : decode cX4_setForbidden 30 = .ok (.aload_n 0, 1) := by decide +kernel
theorem dX4_setForbidden_31 : decode cX4_setForbidden 31 = .ok (.getfield 29, 3) := by decide +kernel
theorem dX4_setForbidden_34 : decode cX4_setForbidden 34 = .ok (.bipush 7, 2) := by decide +kernel
theorem dX4_setForbidden_36 : decode cX4_setForbidden 36 = .ok (.iload_n 1, 1) := by decide +kernel
theorem dX4_setForbidden_37 : decode cX4_setForbidden 37 = .ok (.imul, 1) := by decide +kernel
theorem dX4_setForbidden_38 : decode cX4_setForbidden 38 = .ok (.iload_n 2, 1) := by decide +kernel
theorem dX4_setForbidden_39 : decode cX4_setForbidden 39 = .ok (.iadd, 1) := by decide +kernel
theorem dX4_setForbidden_40 : decode cX4_setForbidden 40 = .ok (.iload_n 3, 1) := by decide +kernel
theorem dX4_setForbidden_41 : decode cX4_setForbidden 41 = .ok (.bastore, 1) := by decide +kernel
theorem dX4_setForbidden_42 : decode cX4_setForbidden 42 = .ok (.aload_n 0, 1) := by decide +kernel
theorem dX4_setForbidden_43 : decode cX4_setForbidden 43 = .ok (.iconst (-1), 1) := by decide +kernel
theorem dX4_setForbidden_44 : decode cX4_setForbidden 44 = .ok (.putfield 48, 3) := by decide +kernel
theorem dX4_setForbidden_47 : decode cX4_setForbidden 47 = .ok (.aload_n 0, 1) := by decide +kernel
theorem dX4_setForbidden_48 : decode cX4_setForbidden 48 = .ok (.invokevirtual 134, 3) := by decide +kernel
theorem dX4_setForbidden_51 : decode cX4_setForbidden 51 = .ok (.ireturn, 1) := by decide +kernel
theorem dX4_costAt_0 : decode cX4_costAt 0 = .ok (.aload_n 0, 1) := by decide +kernel
theorem dX4_costAt_1 : decode cX4_costAt 1 = .ok (.aload_n 0, 1) := by decide +kernel
theorem dX4_costAt_2 : decode cX4_costAt 2 = .ok (.iload_n 1, 1) := by decide +kernel
theorem dX4_costAt_3 : decode cX4_costAt 3 = .ok (.invokevirtual 122, 3) := by decide +kernel
theorem dX4_costAt_6 : decode cX4_costAt 6 = .ok (.ifCond .eq 11, 3) := by decide +kernel
theorem dX4_costAt_9 : decode cX4_costAt 9 = .ok (.aload_n 0, 1) := by decide +kernel
theorem dX4_costAt_10 : decode cX4_costAt 10 = .ok (.iload_n 2, 1) := by decide +kernel
theorem dX4_costAt_11 : decode cX4_costAt 11 = .ok (.invokevirtual 122, 3) := by decide +kernel
theorem dX4_costAt_14 : decode cX4_costAt 14 = .ok (.ifCond .ne 7, 3) := by decide +kernel
theorem dX4_costAt_17 : decode cX4_costAt 17 = .ok (.iconst 1, 1) := by decide +kernel
theorem dX4_costAt_18 : decode cX4_costAt 18 = .ok (.goto 4, 3) := by decide +kernel
theorem dX4_costAt_21 : decode cX4_costAt 21 = .ok (.iconst 0, 1) := by decide +kernel
theorem dX4_costAt_22 : decode cX4_costAt 22 = .ok (.invokevirtual 118, 3) := by decide +kernel
theorem dX4_costAt_25 : decode cX4_costAt 25 = .ok (.ifCond .eq 7, 3) := by decide +kernel
theorem dX4_costAt_28 : decode cX4_costAt 28 = .ok (.iconst 0, 1) := by decide +kernel
theorem dX4_costAt_29 : decode cX4_costAt 29 = .ok (.goto 9, 3) := by decide +kernel
theorem dX4_costAt_32 : decode cX4_costAt 32 = .ok (.aload_n 0, 1) := by decide +kernel
theorem dX4_costAt_33 : decode cX4_costAt 33 = .ok (.iload_n 1, 1) := by decide +kernel
theorem dX4_costAt_34 : decode cX4_costAt 34 = .ok (.iload_n 2, 1) := by decide +kernel
theorem dX4_costAt_35 : decode cX4_costAt 35 = .ok (.invokevirtual 75, 3) := by decide +kernel
theorem dX4_costAt_38 : decode cX4_costAt 38 = .ok (.ireturn, 1) := by decide +kernel
theorem dX4_rowSum_0 : decode cX4_rowSum 0 = .ok (.iconst 0, 1) := by decide +kernel
theorem dX4_rowSum_1 : decode cX4_rowSum 1 = .ok (.istore_n 2, 1) := by decide +kernel
theorem dX4_rowSum_2 : decode cX4_rowSum 2 = .ok (.iconst 0, 1) := by decide +kernel
theorem dX4_rowSum_3 : decode cX4_rowSum 3 = .ok (.istore_n 3, 1) := by decide +kernel
theorem dX4_rowSum_4 : decode cX4_rowSum 4 = .ok (.iload_n 3, 1) := by decide +kernel
theorem dX4_rowSum_5 : decode cX4_rowSum 5 = .ok (.aload_n 0, 1) := by decide +kernel
theorem dX4_rowSum_6 : decode cX4_rowSum 6 = .ok (.getfield 7, 3) := by decide +kernel
theorem dX4_rowSum_9 : decode cX4_rowSum 9 = .ok (.if_icmp .ge 18, 3) := by decide +kernel
theorem dX4_rowSum_12 : decode cX4_rowSum 12 = .ok (.iload_n 2, 1) := by decide +kernel
theorem dX4_rowSum_13 : decode cX4_rowSum 13 = .ok (.aload_n 0, 1) := by decide +kernel
theorem dX4_rowSum_14 : decode cX4_rowSum 14 = .ok (.iload_n 1, 1) := by decide +kernel
theorem dX4_rowSum_15 : decode cX4_rowSum 15 = .ok (.iload_n 3, 1) := by decide +kernel
theorem dX4_rowSum_16 : decode cX4_rowSum 16 = .ok (.invokevirtual 75, 3) := by decide +kernel
theorem dX4_rowSum_19 : decode cX4_rowSum 19 = .ok (.iadd, 1) := by decide +kernel
theorem dX4_rowSum_20 : decode cX4_rowSum 20 = .ok (.istore_n 2, 1) := by decide +kernel
theorem dX4_rowSum_21 : decode cX4_rowSum 21 = .ok (.iinc 3 1, 3) := by decide +kernel
theorem dX4_rowSum_24 : decode cX4_rowSum 24 = .ok (.goto (-20), 3) := by decide +kernel
theorem dX4_rowSum_27 : decode cX4_rowSum 27 = .ok (.iload_n 2, 1) := by decide +kernel
theorem dX4_rowSum_28 : decode cX4_rowSum 28 = .ok (.ireturn, 1) := by decide +kernel
theorem dX4_columnSum_0 : decode cX4_columnSum 0 = .ok (.iconst 0, 1) := by decide +kernel
theorem dX4_columnSum_1 : decode cX4_columnSum 1 = .ok (.istore_n 2, 1) := by decide +kernel
theorem dX4_columnSum_2 : decode cX4_columnSum 2 = .ok (.iconst 0, 1) := by decide +kernel
theorem dX4_columnSum_3 : decode cX4_columnSum 3 = .ok (.istore_n 3, 1) := by decide +kernel
theorem dX4_columnSum_4 : decode cX4_columnSum 4 = .ok (.iload_n 3, 1) := by decide +kernel
theorem dX4_columnSum_5 : decode cX4_columnSum 5 = .ok (.aload_n 0, 1) := by decide +kernel
theorem dX4_columnSum_6 : decode cX4_columnSum 6 = .ok (.getfield 7, 3) := by decide +kernel
theorem dX4_columnSum_9 : decode cX4_columnSum 9 = .ok (.if_icmp .ge 18, 3) := by decide +kernel
theorem dX4_columnSum_12 : decode cX4_columnSum 12 = .ok (.iload_n 2, 1) := by decide +kernel
theorem dX4_columnSum_13 : decode cX4_columnSum 13 = .ok (.aload_n 0, 1) := by decide +kernel
theorem dX4_columnSum_14 : decode cX4_columnSum 14 = .ok (.iload_n 3, 1) := by decide +kernel
theorem dX4_columnSum_15 : decode cX4_columnSum 15 = .ok (.iload_n 1, 1) := by decide +kernel
theorem dX4_columnSum_16 : decode cX4_columnSum 16 = .ok (.invokevirtual 75, 3) := by decide +kernel
theorem dX4_columnSum_19 : decode cX4_columnSum 19 = .ok (.iadd, 1) := by decide +kernel
theorem dX4_columnSum_20 : decode cX4_columnSum 20 = .ok (.istore_n 2, 1) := by decide +kernel
theorem dX4_columnSum_21 : decode cX4_columnSum 21 = .ok (.iinc 3 1, 3) := by decide +kernel
theorem dX4_columnSum_24 : decode cX4_columnSum 24 = .ok (.goto (-20), 3) := by decide +kernel
theorem dX4_columnSum_27 : decode cX4_columnSum 27 = .ok (.iload_n 2, 1) := by decide +kernel
theorem dX4_columnSum_28 : decode cX4_columnSum 28 = .ok (.ireturn, 1) := by decide +kernel
theorem dX4_takes_0 : decode cX4_takes 0 = .ok (.aload_n 0, 1) := by decide +kernel
theorem dX4_takes_1 : decode cX4_takes 1 = .ok (.getfield 29, 3) := by decide +kernel
theorem dX4_takes_4 : decode cX4_takes 4 = .ok (.bipush 7, 2) := by decide +kernel
theorem dX4_takes_6 : decode cX4_takes 6 = .ok (.iload_n 1, 1) := by decide +kernel
theorem dX4_takes_7 : decode cX4_takes 7 = .ok (.imul, 1) := by decide +kernel
theorem dX4_takes_8 : decode cX4_takes 8 = .ok (.iload_n 2, 1) := by decide +kernel
theorem dX4_takes_9 : decode cX4_takes 9 = .ok (.iadd, 1) := by decide +kernel
theorem dX4_takes_10 : decode cX4_takes 10 = .ok (.baload, 1) := by decide +kernel
theorem dX4_takes_11 : decode cX4_takes 11 = .ok (.ifCond .ne 31, 3) := by decide +kernel
theorem dX4_takes_14 : decode cX4_takes 14 = .ok (.aload_n 0, 1) := by decide +kernel
theorem dX4_takes_15 : decode cX4_takes 15 = .ok (.getfield 22, 3) := by decide +kernel
theorem dX4_takes_18 : decode cX4_takes 18 = .ok (.bipush 7, 2) := by decide +kernel
theorem dX4_takes_20 : decode cX4_takes 20 = .ok (.iload_n 1, 1) := by decide +kernel
theorem dX4_takes_21 : decode cX4_takes 21 = .ok (.imul, 1) := by decide +kernel
theorem dX4_takes_22 : decode cX4_takes 22 = .ok (.iload_n 2, 1) := by decide +kernel
theorem dX4_takes_23 : decode cX4_takes 23 = .ok (.iadd, 1) := by decide +kernel
theorem dX4_takes_24 : decode cX4_takes 24 = .ok (.iaload, 1) := by decide +kernel
theorem dX4_takes_25 : decode cX4_takes 25 = .ok (.iload_n 3, 1) := by decide +kernel
theorem dX4_takes_26 : decode cX4_takes 26 = .ok (.iadd, 1) := by decide +kernel
theorem dX4_takes_27 : decode cX4_takes 27 = .ok (.i2l, 1) := by decide +kernel
theorem dX4_takes_28 : decode cX4_takes 28 = .ok (.lconst 0, 1) := by decide +kernel
theorem dX4_takes_29 : decode cX4_takes 29 = .ok (.ldc2_w 128, 3) := by decide +kernel
theorem dX4_takes_32 : decode cX4_takes 32 = .ok (.invokestatic 63, 3) := by decide +kernel
theorem dX4_takes_35 : decode cX4_takes 35 = .ok (.ifCond .eq 7, 3) := by decide +kernel
theorem dX4_takes_38 : decode cX4_takes 38 = .ok (.iconst 1, 1) := by decide +kernel
theorem dX4_takes_39 : decode cX4_takes 39 = .ok (.goto 4, 3) := by decide +kernel
theorem dX4_takes_42 : decode cX4_takes 42 = .ok (.iconst 0, 1) := by decide +kernel
theorem dX4_takes_43 : decode cX4_takes 43 = .ok (.ireturn, 1) := by decide +kernel
theorem dX4_addToRow_0 : decode cX4_addToRow 0 = .ok (.aload_n 0, 1) := by decide +kernel
theorem dX4_addToRow_1 : decode cX4_addToRow 1 = .ok (.getfield 13, 3) := by decide +kernel
theorem dX4_addToRow_4 : decode cX4_addToRow 4 = .ok (.aload_n 0, 1) := by decide +kernel
theorem dX4_addToRow_5 : decode cX4_addToRow 5 = .ok (.getfield 7, 3) := by decide +kernel
theorem dX4_addToRow_8 : decode cX4_addToRow 8 = .ok (.if_icmp .ne 7, 3) := by decide +kernel
theorem dX4_addToRow_11 : decode cX4_addToRow 11 = .ok (.iconst 1, 1) := by decide +kernel
theorem dX4_addToRow_12 : decode cX4_addToRow 12 = .ok (.goto 4, 3) := by decide +kernel
theorem dX4_addToRow_15 : decode cX4_addToRow 15 = .ok (.iconst 0, 1) := by decide +kernel
theorem dX4_addToRow_16 : decode cX4_addToRow 16 = .ok (.istore_n 3, 1) := by decide +kernel
theorem dX4_addToRow_17 : decode cX4_addToRow 17 = .ok (.iconst 0, 1) := by decide +kernel
theorem dX4_addToRow_18 : decode cX4_addToRow 18 = .ok (.istore 4, 2) := by decide +kernel
theorem dX4_addToRow_20 : decode cX4_addToRow 20 = .ok (.aload_n 0, 1) := by decide +kernel
theorem dX4_addToRow_21 : decode cX4_addToRow 21 = .ok (.iload_n 1, 1) := by decide +kernel
theorem dX4_addToRow_22 : decode cX4_addToRow 22 = .ok (.invokevirtual 122, 3) := by decide +kernel
theorem dX4_addToRow_25 : decode cX4_addToRow 25 = .ok (.ifCond .eq 43, 3) := by decide +kernel
theorem dX4_addToRow_28 : decode cX4_addToRow 28 = .ok (.iload_n 2, 1) := by decide +kernel
theorem dX4_addToRow_29 : decode cX4_addToRow 29 = .ok (.i2l, 1) := by decide +kernel
theorem dX4_addToRow_30 : decode cX4_addToRow 30 = .ok (.ldc2_w 138, 3) := by decide +kernel
theorem dX4_addToRow_33 : decode cX4_addToRow 33 = .ok (.ldc2_w 128, 3) := by decide +kernel
theorem dX4_addToRow_36 : decode cX4_addToRow 36 = .ok (.invokestatic 63, 3) := by decide +kernel
theorem dX4_addToRow_39 : decode cX4_addToRow 39 = .ok (.ifCond .eq 29, 3) := by decide +kernel
theorem dX4_addToRow_42 : decode cX4_addToRow 42 = .ok (.iload 4, 2) := by decide +kernel
theorem dX4_addToRow_44 : decode cX4_addToRow 44 = .ok (.aload_n 0, 1) := by decide +kernel
theorem dX4_addToRow_45 : decode cX4_addToRow 45 = .ok (.getfield 13, 3) := by decide +kernel
theorem dX4_addToRow_48 : decode cX4_addToRow 48 = .ok (.if_icmp .ge 20, 3) := by decide +kernel
theorem dX4_addToRow_51 : decode cX4_addToRow 51 = .ok (.iload_n 3, 1) := by decide +kernel
theorem dX4_addToRow_52 : decode cX4_addToRow 52 = .ok (.aload_n 0, 1) := by decide +kernel
theorem dX4_addToRow_53 : decode cX4_addToRow 53 = .ok (.iload_n 1, 1) := by decide +kernel
theorem dX4_addToRow_54 : decode cX4_addToRow 54 = .ok (.iload 4, 2) := by decide +kernel
theorem dX4_addToRow_56 : decode cX4_addToRow 56 = .ok (.iload_n 2, 1) := by decide +kernel
theorem dX4_addToRow_57 : decode cX4_addToRow 57 = .ok (.invokevirtual 140, 3) := by decide +kernel
theorem dX4_addToRow_60 : decode cX4_addToRow 60 = .ok (.iand, 1) := by decide +kernel
theorem dX4_addToRow_61 : decode cX4_addToRow 61 = .ok (.istore_n 3, 1) := by decide +kernel
theorem dX4_addToRow_62 : decode cX4_addToRow 62 = .ok (.iinc 4 1, 3) := by decide +kernel
theorem dX4_addToRow_65 : decode cX4_addToRow 65 = .ok (.goto (-45), 3) := by decide +kernel
theorem dX4_addToRow_68 : decode cX4_addToRow 68 = .ok (.aload_n 0, 1) := by decide +kernel
theorem dX4_addToRow_69 : decode cX4_addToRow 69 = .ok (.aload_n 0, 1) := by decide +kernel
theorem dX4_addToRow_70 : decode cX4_addToRow 70 = .ok (.iload_n 1, 1) := by decide +kernel
theorem dX4_addToRow_71 : decode cX4_addToRow 71 = .ok (.invokevirtual 122, 3) := by decide +kernel
theorem dX4_addToRow_74 : decode cX4_addToRow 74 = .ok (.ifCond .ne 7, 3) := by decide +kernel
theorem dX4_addToRow_77 : decode cX4_addToRow 77 = .ok (.iconst 1, 1) := by decide +kernel
theorem dX4_addToRow_78 : decode cX4_addToRow 78 = .ok (.goto 30, 3) := by decide +kernel
theorem dX4_addToRow_81 : decode cX4_addToRow 81 = .ok (.iload_n 2, 1) := by decide +kernel
theorem dX4_addToRow_82 : decode cX4_addToRow 82 = .ok (.i2l, 1) := by decide +kernel
theorem dX4_addToRow_83 : decode cX4_addToRow 83 = .ok (.ldc2_w 138, 3) := by decide +kernel
theorem dX4_addToRow_86 : decode cX4_addToRow 86 = .ok (.ldc2_w 128, 3) := by decide +kernel
theorem dX4_addToRow_89 : decode cX4_addToRow 89 = .ok (.invokestatic 63, 3) := by decide +kernel
theorem dX4_addToRow_92 : decode cX4_addToRow 92 = .ok (.ifCond .ne 7, 3) := by decide +kernel
theorem dX4_addToRow_95 : decode cX4_addToRow 95 = .ok (.iconst 2, 1) := by decide +kernel
theorem dX4_addToRow_96 : decode cX4_addToRow 96 = .ok (.goto 12, 3) := by decide +kernel
theorem dX4_addToRow_99 : decode cX4_addToRow 99 = .ok (.iload_n 3, 1) := by decide +kernel
theorem dX4_addToRow_100 : decode cX4_addToRow 100 = .ok (.ifCond .ne 7, 3) := by decide +kernel
theorem dX4_addToRow_103 : decode cX4_addToRow 103 = .ok (.iconst 3, 1) := by decide +kernel
theorem dX4_addToRow_104 : decode cX4_addToRow 104 = .ok (.goto 4, 3) := by decide +kernel
theorem dX4_addToRow_107 : decode cX4_addToRow 107 = .ok (.iconst 0, 1) := by decide +kernel
theorem dX4_addToRow_108 : decode cX4_addToRow 108 = .ok (.invokevirtual 118, 3) := by decide +kernel
theorem dX4_addToRow_111 : decode cX4_addToRow 111 = .ok (.ifCond .eq 5, 3) := by decide +kernel
theorem dX4_addToRow_114 : decode cX4_addToRow 114 = .ok (.iconst 0, 1) := by decide +kernel
theorem dX4_addToRow_115 : decode cX4_addToRow 115 = .ok (.ireturn, 1) := by decide +kernel
theorem dX4_addToRow_116 : decode cX4_addToRow 116 = .ok (.iconst 0, 1) := by decide +kernel
theorem dX4_addToRow_117 : decode cX4_addToRow 117 = .ok (.istore 4, 2) := by decide +kernel
theorem dX4_addToRow_119 : decode cX4_addToRow 119 = .ok (.iload 4, 2) := by decide +kernel
theorem dX4_addToRow_121 : decode cX4_addToRow 121 = .ok (.aload_n 0, 1) := by decide +kernel
theorem dX4_addToRow_122 : decode cX4_addToRow 122 = .ok (.getfield 13, 3) := by decide +kernel
theorem dX4_addToRow_125 : decode cX4_addToRow 125 = .ok (.if_icmp .ge 25, 3) := by decide +kernel
theorem dX4_addToRow_128 : decode cX4_addToRow 128 = .ok (.aload_n 0, 1) := by decide +kernel
theorem dX4_addToRow_129 : decode cX4_addToRow 129 = .ok (.getfield 22, 3) := by decide +kernel
theorem dX4_addToRow_132 : decode cX4_addToRow 132 = .ok (.bipush 7, 2) := by decide +kernel
theorem dX4_addToRow_134 : decode cX4_addToRow 134 = .ok (.iload_n 1, 1) := by decide +kernel
theorem dX4_addToRow_135 : decode cX4_addToRow 135 = .ok (.imul, 1) := by decide +kernel
theorem dX4_addToRow_136 : decode cX4_addToRow 136 = .ok (.iload 4, 2) := by decide +kernel
theorem dX4_addToRow_138 : decode cX4_addToRow 138 = .ok (.iadd, 1) := by decide +kernel
theorem dX4_addToRow_139 : decode cX4_addToRow 139 = .ok (.dup2, 1) := by decide +kernel
theorem dX4_addToRow_140 : decode cX4_addToRow 140 = .ok (.iaload, 1) := by decide +kernel
theorem dX4_addToRow_141 : decode cX4_addToRow 141 = .ok (.iload_n 2, 1) := by decide +kernel
theorem dX4_addToRow_142 : decode cX4_addToRow 142 = .ok (.iadd, 1) := by decide +kernel
theorem dX4_addToRow_143 : decode cX4_addToRow 143 = .ok (.iastore, 1) := by decide +kernel
theorem dX4_addToRow_144 : decode cX4_addToRow 144 = .ok (.iinc 4 1, 3) := by decide +kernel
theorem dX4_addToRow_147 : decode cX4_addToRow 147 = .ok (.goto (-28), 3) := by decide +kernel
theorem dX4_addToRow_150 : decode cX4_addToRow 150 = .ok (.aload_n 0, 1) := by decide +kernel
theorem dX4_addToRow_151 : decode cX4_addToRow 151 = .ok (.iconst (-1), 1) := by decide +kernel
theorem dX4_addToRow_152 : decode cX4_addToRow 152 = .ok (.putfield 48, 3) := by decide +kernel
theorem dX4_addToRow_155 : decode cX4_addToRow 155 = .ok (.aload_n 0, 1) := by decide +kernel
theorem dX4_addToRow_156 : decode cX4_addToRow 156 = .ok (.iload_n 1, 1) := by decide +kernel
theorem dX4_addToRow_157 : decode cX4_addToRow 157 = .ok (.invokevirtual 144, 3) := by decide +kernel
theorem dX4_addToRow_160 : decode cX4_addToRow 160 = .ok (.ireturn, 1) := by decide +kernel
theorem dX4_addToColumn_0 : decode cX4_addToColumn 0 = .ok (.iconst 1, 1) := by decide +kernel
theorem dX4_addToColumn_1 : decode cX4_addToColumn 1 = .ok (.istore_n 3, 1) := by decide +kernel
theorem dX4_addToColumn_2 : decode cX4_addToColumn 2 = .ok (.iconst 0, 1) := by decide +kernel
theorem dX4_addToColumn_3 : decode cX4_addToColumn 3 = .ok (.istore 4, 2) := by decide +kernel
theorem dX4_addToColumn_5 : decode cX4_addToColumn 5 = .ok (.aload_n 0, 1) := by decide +kernel
theorem dX4_addToColumn_6 : decode cX4_addToColumn 6 = .ok (.iload_n 1, 1) := by decide +kernel
theorem dX4_addToColumn_7 : decode cX4_addToColumn 7 = .ok (.invokevirtual 125, 3) := by decide +kernel
theorem dX4_addToColumn_10 : decode cX4_addToColumn 10 = .ok (.ifCond .eq 43, 3) := by decide +kernel
theorem dX4_addToColumn_13 : decode cX4_addToColumn 13 = .ok (.iload_n 2, 1) := by decide +kernel
theorem dX4_addToColumn_14 : decode cX4_addToColumn 14 = .ok (.i2l, 1) := by decide +kernel
theorem dX4_addToColumn_15 : decode cX4_addToColumn 15 = .ok (.ldc2_w 138, 3) := by decide +kernel
theorem dX4_addToColumn_18 : decode cX4_addToColumn 18 = .ok (.ldc2_w 128, 3) := by decide +kernel
theorem dX4_addToColumn_21 : decode cX4_addToColumn 21 = .ok (.invokestatic 63, 3) := by decide +kernel
theorem dX4_addToColumn_24 : decode cX4_addToColumn 24 = .ok (.ifCond .eq 29, 3) := by decide +kernel
theorem dX4_addToColumn_27 : decode cX4_addToColumn 27 = .ok (.iload 4, 2) := by decide +kernel
theorem dX4_addToColumn_29 : decode cX4_addToColumn 29 = .ok (.aload_n 0, 1) := by decide +kernel
theorem dX4_addToColumn_30 : decode cX4_addToColumn 30 = .ok (.getfield 7, 3) := by decide +kernel
theorem dX4_addToColumn_33 : decode cX4_addToColumn 33 = .ok (.if_icmp .ge 20, 3) := by decide +kernel
theorem dX4_addToColumn_36 : decode cX4_addToColumn 36 = .ok (.iload_n 3, 1) := by decide +kernel
theorem dX4_addToColumn_37 : decode cX4_addToColumn 37 = .ok (.aload_n 0, 1) := by decide +kernel
theorem dX4_addToColumn_38 : decode cX4_addToColumn 38 = .ok (.iload 4, 2) := by decide +kernel
theorem dX4_addToColumn_40 : decode cX4_addToColumn 40 = .ok (.iload_n 1, 1) := by decide +kernel
theorem dX4_addToColumn_41 : decode cX4_addToColumn 41 = .ok (.iload_n 2, 1) := by decide +kernel
theorem dX4_addToColumn_42 : decode cX4_addToColumn 42 = .ok (.invokevirtual 140, 3) := by decide +kernel
theorem dX4_addToColumn_45 : decode cX4_addToColumn 45 = .ok (.iand, 1) := by decide +kernel
theorem dX4_addToColumn_46 : decode cX4_addToColumn 46 = .ok (.istore_n 3, 1) := by decide +kernel
theorem dX4_addToColumn_47 : decode cX4_addToColumn 47 = .ok (.iinc 4 1, 3) := by decide +kernel
theorem dX4_addToColumn_50 : decode cX4_addToColumn 50 = .ok (.goto (-45), 3) := by decide +kernel
theorem dX4_addToColumn_53 : decode cX4_addToColumn 53 = .ok (.aload_n 0, 1) := by decide +kernel
theorem dX4_addToColumn_54 : decode cX4_addToColumn 54 = .ok (.aload_n 0, 1) := by decide +kernel
theorem dX4_addToColumn_55 : decode cX4_addToColumn 55 = .ok (.iload_n 1, 1) := by decide +kernel
theorem dX4_addToColumn_56 : decode cX4_addToColumn 56 = .ok (.invokevirtual 125, 3) := by decide +kernel
theorem dX4_addToColumn_59 : decode cX4_addToColumn 59 = .ok (.ifCond .ne 7, 3) := by decide +kernel
theorem dX4_addToColumn_62 : decode cX4_addToColumn 62 = .ok (.iconst 1, 1) := by decide +kernel
theorem dX4_addToColumn_63 : decode cX4_addToColumn 63 = .ok (.goto 30, 3) := by decide +kernel
theorem dX4_addToColumn_66 : decode cX4_addToColumn 66 = .ok (.iload_n 2, 1) := by decide +kernel
theorem dX4_addToColumn_67 : decode cX4_addToColumn 67 = .ok (.i2l, 1) := by decide +kernel
theorem dX4_addToColumn_68 : decode cX4_addToColumn 68 = .ok (.ldc2_w 138, 3) := by decide +kernel
theorem dX4_addToColumn_71 : decode cX4_addToColumn 71 = .ok (.ldc2_w 128, 3) := by decide +kernel
theorem dX4_addToColumn_74 : decode cX4_addToColumn 74 = .ok (.invokestatic 63, 3) := by decide +kernel
theorem dX4_addToColumn_77 : decode cX4_addToColumn 77 = .ok (.ifCond .ne 7, 3) := by decide +kernel
theorem dX4_addToColumn_80 : decode cX4_addToColumn 80 = .ok (.iconst 2, 1) := by decide +kernel
theorem dX4_addToColumn_81 : decode cX4_addToColumn 81 = .ok (.goto 12, 3) := by decide +kernel
theorem dX4_addToColumn_84 : decode cX4_addToColumn 84 = .ok (.iload_n 3, 1) := by decide +kernel
theorem dX4_addToColumn_85 : decode cX4_addToColumn 85 = .ok (.ifCond .ne 7, 3) := by decide +kernel
theorem dX4_addToColumn_88 : decode cX4_addToColumn 88 = .ok (.iconst 3, 1) := by decide +kernel
theorem dX4_addToColumn_89 : decode cX4_addToColumn 89 = .ok (.goto 4, 3) := by decide +kernel
theorem dX4_addToColumn_92 : decode cX4_addToColumn 92 = .ok (.iconst 0, 1) := by decide +kernel
theorem dX4_addToColumn_93 : decode cX4_addToColumn 93 = .ok (.invokevirtual 118, 3) := by decide +kernel
theorem dX4_addToColumn_96 : decode cX4_addToColumn 96 = .ok (.ifCond .eq 5, 3) := by decide +kernel
theorem dX4_addToColumn_99 : decode cX4_addToColumn 99 = .ok (.iconst 0, 1) := by decide +kernel
theorem dX4_addToColumn_100 : decode cX4_addToColumn 100 = .ok (.ireturn, 1) := by decide +kernel
theorem dX4_addToColumn_101 : decode cX4_addToColumn 101 = .ok (.iconst 0, 1) := by decide +kernel
theorem dX4_addToColumn_102 : decode cX4_addToColumn 102 = .ok (.istore 4, 2) := by decide +kernel
theorem dX4_addToColumn_104 : decode cX4_addToColumn 104 = .ok (.iload 4, 2) := by decide +kernel
theorem dX4_addToColumn_106 : decode cX4_addToColumn 106 = .ok (.aload_n 0, 1) := by decide +kernel
theorem dX4_addToColumn_107 : decode cX4_addToColumn 107 = .ok (.getfield 7, 3) := by decide +kernel
theorem dX4_addToColumn_110 : decode cX4_addToColumn 110 = .ok (.if_icmp .ge 25, 3) := by decide +kernel
theorem dX4_addToColumn_113 : decode cX4_addToColumn 113 = .ok (.aload_n 0, 1) := by decide +kernel
theorem dX4_addToColumn_114 : decode cX4_addToColumn 114 = .ok (.getfield 22, 3) := by decide +kernel
theorem dX4_addToColumn_117 : decode cX4_addToColumn 117 = .ok (.bipush 7, 2) := by decide +kernel
theorem dX4_addToColumn_119 : decode cX4_addToColumn 119 = .ok (.iload 4, 2) := by decide +kernel
theorem dX4_addToColumn_121 : decode cX4_addToColumn 121 = .ok (.imul, 1) := by decide +kernel
theorem dX4_addToColumn_122 : decode cX4_addToColumn 122 = .ok (.iload_n 1, 1) := by decide +kernel
theorem dX4_addToColumn_123 : decode cX4_addToColumn 123 = .ok (.iadd, 1) := by decide +kernel
theorem dX4_addToColumn_124 : decode cX4_addToColumn 124 = .ok (.dup2, 1) := by decide +kernel
theorem dX4_addToColumn_125 : decode cX4_addToColumn 125 = .ok (.iaload, 1) := by decide +kernel
theorem dX4_addToColumn_126 : decode cX4_addToColumn 126 = .ok (.iload_n 2, 1) := by decide +kernel
theorem dX4_addToColumn_127 : decode cX4_addToColumn 127 = .ok (.iadd, 1) := by decide +kernel
theorem dX4_addToColumn_128 : decode cX4_addToColumn 128 = .ok (.iastore, 1) := by decide +kernel
theorem dX4_addToColumn_129 : decode cX4_addToColumn 129 = .ok (.iinc 4 1, 3) := by decide +kernel
theorem dX4_addToColumn_132 : decode cX4_addToColumn 132 = .ok (.goto (-28), 3) := by decide +kernel
theorem dX4_addToColumn_135 : decode cX4_addToColumn 135 = .ok (.aload_n 0, 1) := by decide +kernel
theorem dX4_addToColumn_136 : decode cX4_addToColumn 136 = .ok (.iconst (-1), 1) := by decide +kernel
theorem dX4_addToColumn_137 : decode cX4_addToColumn 137 = .ok (.putfield 48, 3) := by decide +kernel
theorem dX4_addToColumn_140 : decode cX4_addToColumn 140 = .ok (.aload_n 0, 1) := by decide +kernel
theorem dX4_addToColumn_141 : decode cX4_addToColumn 141 = .ok (.iload_n 1, 1) := by decide +kernel
theorem dX4_addToColumn_142 : decode cX4_addToColumn 142 = .ok (.invokevirtual 147, 3) := by decide +kernel
theorem dX4_addToColumn_145 : decode cX4_addToColumn 145 = .ok (.ireturn, 1) := by decide +kernel
theorem dX4_exchangeCells_0 : decode cX4_exchangeCells 0 = .ok (.aload_n 0, 1) := by decide +kernel
theorem dX4_exchangeCells_1 : decode cX4_exchangeCells 1 = .ok (.getfield 22, 3) := by decide +kernel
theorem dX4_exchangeCells_4 : decode cX4_exchangeCells 4 = .ok (.iload_n 1, 1) := by decide +kernel
theorem dX4_exchangeCells_5 : decode cX4_exchangeCells 5 = .ok (.iaload, 1) := by decide +kernel
theorem dX4_exchangeCells_6 : decode cX4_exchangeCells 6 = .ok (.istore_n 3, 1) := by decide +kernel
theorem dX4_exchangeCells_7 : decode cX4_exchangeCells 7 = .ok (.aload_n 0, 1) := by decide +kernel
theorem dX4_exchangeCells_8 : decode cX4_exchangeCells 8 = .ok (.getfield 29, 3) := by decide +kernel
theorem dX4_exchangeCells_11 : decode cX4_exchangeCells 11 = .ok (.iload_n 1, 1) := by decide +kernel
theorem dX4_exchangeCells_12 : decode cX4_exchangeCells 12 = .ok (.baload, 1) := by decide +kernel
theorem dX4_exchangeCells_13 : decode cX4_exchangeCells 13 = .ok (.istore 4, 2) := by decide +kernel
theorem dX4_exchangeCells_15 : decode cX4_exchangeCells 15 = .ok (.aload_n 0, 1) := by decide +kernel
theorem dX4_exchangeCells_16 : decode cX4_exchangeCells 16 = .ok (.getfield 22, 3) := by decide +kernel
theorem dX4_exchangeCells_19 : decode cX4_exchangeCells 19 = .ok (.iload_n 1, 1) := by decide +kernel
theorem dX4_exchangeCells_20 : decode cX4_exchangeCells 20 = .ok (.aload_n 0, 1) := by decide +kernel
theorem dX4_exchangeCells_21 : decode cX4_exchangeCells 21 = .ok (.getfield 22, 3) := by decide +kernel
theorem dX4_exchangeCells_24 : decode cX4_exchangeCells 24 = .ok (.iload_n 2, 1) := by decide +kernel
theorem dX4_exchangeCells_25 : decode cX4_exchangeCells 25 = .ok (.iaload, 1) := by decide +kernel
theorem dX4_exchangeCells_26 : decode cX4_exchangeCells 26 = .ok (.iastore, 1) := by decide +kernel
theorem dX4_exchangeCells_27 : decode cX4_exchangeCells 27 = .ok (.aload_n 0, 1) := by decide +kernel
theorem dX4_exchangeCells_28 : decode cX4_exchangeCells 28 = .ok (.getfield 29, 3) := by decide +kernel
theorem dX4_exchangeCells_31 : decode cX4_exchangeCells 31 = .ok (.iload_n 1, 1) := by decide +kernel
theorem dX4_exchangeCells_32 : decode cX4_exchangeCells 32 = .ok (.aload_n 0, 1) := by decide +kernel
theorem dX4_exchangeCells_33 : decode cX4_exchangeCells 33 = .ok (.getfield 29, 3) := by decide +kernel
theorem dX4_exchangeCells_36 : decode cX4_exchangeCells 36 = .ok (.iload_n 2, 1) := by decide +kernel
theorem dX4_exchangeCells_37 : decode cX4_exchangeCells 37 = .ok (.baload, 1) := by decide +kernel
theorem dX4_exchangeCells_38 : decode cX4_exchangeCells 38 = .ok (.bastore, 1) := by decide +kernel
theorem dX4_exchangeCells_39 : decode cX4_exchangeCells 39 = .ok (.aload_n 0, 1) := by decide +kernel
theorem dX4_exchangeCells_40 : decode cX4_exchangeCells 40 = .ok (.getfield 22, 3) := by decide +kernel
theorem dX4_exchangeCells_43 : decode cX4_exchangeCells 43 = .ok (.iload_n 2, 1) := by decide +kernel
theorem dX4_exchangeCells_44 : decode cX4_exchangeCells 44 = .ok (.iload_n 3, 1) := by decide +kernel
theorem dX4_exchangeCells_45 : decode cX4_exchangeCells 45 = .ok (.iastore, 1) := by decide +kernel
theorem dX4_exchangeCells_46 : decode cX4_exchangeCells 46 = .ok (.aload_n 0, 1) := by decide +kernel
theorem dX4_exchangeCells_47 : decode cX4_exchangeCells 47 = .ok (.getfield 29, 3) := by decide +kernel
theorem dX4_exchangeCells_50 : decode cX4_exchangeCells 50 = .ok (.iload_n 2, 1) := by decide +kernel
theorem dX4_exchangeCells_51 : decode cX4_exchangeCells 51 = .ok (.iload 4, 2) := by decide +kernel
theorem dX4_exchangeCells_53 : decode cX4_exchangeCells 53 = .ok (.bastore, 1) := by decide +kernel
theorem dX4_exchangeCells_54 : decode cX4_exchangeCells 54 = .ok (.return_, 1) := by decide +kernel
theorem dX4_swapRows_0 : decode cX4_swapRows 0 = .ok (.aload_n 0, 1) := by decide +kernel
theorem dX4_swapRows_1 : decode cX4_swapRows 1 = .ok (.aload_n 0, 1) := by decide +kernel
theorem dX4_swapRows_2 : decode cX4_swapRows 2 = .ok (.iload_n 1, 1) := by decide +kernel
theorem dX4_swapRows_3 : decode cX4_swapRows 3 = .ok (.invokevirtual 122, 3) := by decide +kernel
theorem dX4_swapRows_6 : decode cX4_swapRows 6 = .ok (.ifCond .eq 11, 3) := by decide +kernel
theorem dX4_swapRows_9 : decode cX4_swapRows 9 = .ok (.aload_n 0, 1) := by decide +kernel
theorem dX4_swapRows_10 : decode cX4_swapRows 10 = .ok (.iload_n 2, 1) := by decide +kernel
theorem dX4_swapRows_11 : decode cX4_swapRows 11 = .ok (.invokevirtual 122, 3) := by decide +kernel
theorem dX4_swapRows_14 : decode cX4_swapRows 14 = .ok (.ifCond .ne 7, 3) := by decide +kernel
theorem dX4_swapRows_17 : decode cX4_swapRows 17 = .ok (.iconst 1, 1) := by decide +kernel
theorem dX4_swapRows_18 : decode cX4_swapRows 18 = .ok (.goto 4, 3) := by decide +kernel
theorem dX4_swapRows_21 : decode cX4_swapRows 21 = .ok (.iconst 0, 1) := by decide +kernel
theorem dX4_swapRows_22 : decode cX4_swapRows 22 = .ok (.invokevirtual 118, 3) := by decide +kernel
theorem dX4_swapRows_25 : decode cX4_swapRows 25 = .ok (.ifCond .eq 5, 3) := by decide +kernel
theorem dX4_swapRows_28 : decode cX4_swapRows 28 = .ok (.iconst 0, 1) := by decide +kernel
theorem dX4_swapRows_29 : decode cX4_swapRows 29 = .ok (.ireturn, 1) := by decide +kernel
theorem dX4_swapRows_30 : decode cX4_swapRows 30 = .ok (.iconst 0, 1) := by decide +kernel
theorem dX4_swapRows_31 : decode cX4_swapRows 31 = .ok (.istore_n 3, 1) := by decide +kernel
theorem dX4_swapRows_32 : decode cX4_swapRows 32 = .ok (.iload_n 3, 1) := by decide +kernel
theorem dX4_swapRows_33 : decode cX4_swapRows 33 = .ok (.aload_n 0, 1) := by decide +kernel
theorem dX4_swapRows_34 : decode cX4_swapRows 34 = .ok (.getfield 13, 3) := by decide +kernel
theorem dX4_swapRows_37 : decode cX4_swapRows 37 = .ok (.if_icmp .ge 25, 3) := by decide +kernel
theorem dX4_swapRows_40 : decode cX4_swapRows 40 = .ok (.aload_n 0, 1) := by decide +kernel
theorem dX4_swapRows_41 : decode cX4_swapRows 41 = .ok (.bipush 7, 2) := by decide +kernel
theorem dX4_swapRows_43 : decode cX4_swapRows 43 = .ok (.iload_n 1, 1) := by decide +kernel
theorem dX4_swapRows_44 : decode cX4_swapRows 44 = .ok (.imul, 1) := by decide +kernel
theorem dX4_swapRows_45 : decode cX4_swapRows 45 = .ok (.iload_n 3, 1) := by decide +kernel
theorem dX4_swapRows_46 : decode cX4_swapRows 46 = .ok (.iadd, 1) := by decide +kernel
theorem dX4_swapRows_47 : decode cX4_swapRows 47 = .ok (.bipush 7, 2) := by decide +kernel
theorem dX4_swapRows_49 : decode cX4_swapRows 49 = .ok (.iload_n 2, 1) := by decide +kernel
theorem dX4_swapRows_50 : decode cX4_swapRows 50 = .ok (.imul, 1) := by decide +kernel
theorem dX4_swapRows_51 : decode cX4_swapRows 51 = .ok (.iload_n 3, 1) := by decide +kernel
theorem dX4_swapRows_52 : decode cX4_swapRows 52 = .ok (.iadd, 1) := by decide +kernel
theorem dX4_swapRows_53 : decode cX4_swapRows 53 = .ok (.invokevirtual 150, 3) := by decide +kernel
theorem dX4_swapRows_56 : decode cX4_swapRows 56 = .ok (.iinc 3 1, 3) := by decide +kernel
theorem dX4_swapRows_59 : decode cX4_swapRows 59 = .ok (.goto (-27), 3) := by decide +kernel
theorem dX4_swapRows_62 : decode cX4_swapRows 62 = .ok (.aload_n 0, 1) := by decide +kernel
theorem dX4_swapRows_63 : decode cX4_swapRows 63 = .ok (.iconst (-1), 1) := by decide +kernel
theorem dX4_swapRows_64 : decode cX4_swapRows 64 = .ok (.putfield 48, 3) := by decide +kernel
theorem dX4_swapRows_67 : decode cX4_swapRows 67 = .ok (.aload_n 0, 1) := by decide +kernel
theorem dX4_swapRows_68 : decode cX4_swapRows 68 = .ok (.iload_n 1, 1) := by decide +kernel
theorem dX4_swapRows_69 : decode cX4_swapRows 69 = .ok (.invokevirtual 144, 3) := by decide +kernel
theorem dX4_swapRows_72 : decode cX4_swapRows 72 = .ok (.ireturn, 1) := by decide +kernel
theorem dX4_swapColumns_0 : decode cX4_swapColumns 0 = .ok (.aload_n 0, 1) := by decide +kernel
theorem dX4_swapColumns_1 : decode cX4_swapColumns 1 = .ok (.aload_n 0, 1) := by decide +kernel
theorem dX4_swapColumns_2 : decode cX4_swapColumns 2 = .ok (.iload_n 1, 1) := by decide +kernel
theorem dX4_swapColumns_3 : decode cX4_swapColumns 3 = .ok (.invokevirtual 125, 3) := by decide +kernel
theorem dX4_swapColumns_6 : decode cX4_swapColumns 6 = .ok (.ifCond .eq 11, 3) := by decide +kernel
theorem dX4_swapColumns_9 : decode cX4_swapColumns 9 = .ok (.aload_n 0, 1) := by decide +kernel
theorem dX4_swapColumns_10 : decode cX4_swapColumns 10 = .ok (.iload_n 2, 1) := by decide +kernel
theorem dX4_swapColumns_11 : decode cX4_swapColumns 11 = .ok (.invokevirtual 125, 3) := by decide +kernel
theorem dX4_swapColumns_14 : decode cX4_swapColumns 14 = .ok (.ifCond .ne 7, 3) := by decide +kernel
theorem dX4_swapColumns_17 : decode cX4_swapColumns 17 = .ok (.iconst 1, 1) := by decide +kernel
theorem dX4_swapColumns_18 : decode cX4_swapColumns 18 = .ok (.goto 4, 3) := by decide +kernel
theorem dX4_swapColumns_21 : decode cX4_swapColumns 21 = .ok (.iconst 0, 1) := by decide +kernel
theorem dX4_swapColumns_22 : decode cX4_swapColumns 22 = .ok (.invokevirtual 118, 3) := by decide +kernel
theorem dX4_swapColumns_25 : decode cX4_swapColumns 25 = .ok (.ifCond .eq 5, 3) := by decide +kernel
theorem dX4_swapColumns_28 : decode cX4_swapColumns 28 = .ok (.iconst 0, 1) := by decide +kernel
theorem dX4_swapColumns_29 : decode cX4_swapColumns 29 = .ok (.ireturn, 1) := by decide +kernel
theorem dX4_swapColumns_30 : decode cX4_swapColumns 30 = .ok (.iconst 0, 1) := by decide +kernel
theorem dX4_swapColumns_31 : decode cX4_swapColumns 31 = .ok (.istore_n 3, 1) := by decide +kernel
theorem dX4_swapColumns_32 : decode cX4_swapColumns 32 = .ok (.iload_n 3, 1) := by decide +kernel
theorem dX4_swapColumns_33 : decode cX4_swapColumns 33 = .ok (.aload_n 0, 1) := by decide +kernel
theorem dX4_swapColumns_34 : decode cX4_swapColumns 34 = .ok (.getfield 7, 3) := by decide +kernel
theorem dX4_swapColumns_37 : decode cX4_swapColumns 37 = .ok (.if_icmp .ge 25, 3) := by decide +kernel
theorem dX4_swapColumns_40 : decode cX4_swapColumns 40 = .ok (.aload_n 0, 1) := by decide +kernel
theorem dX4_swapColumns_41 : decode cX4_swapColumns 41 = .ok (.bipush 7, 2) := by decide +kernel
theorem dX4_swapColumns_43 : decode cX4_swapColumns 43 = .ok (.iload_n 3, 1) := by decide +kernel
theorem dX4_swapColumns_44 : decode cX4_swapColumns 44 = .ok (.imul, 1) := by decide +kernel
theorem dX4_swapColumns_45 : decode cX4_swapColumns 45 = .ok (.iload_n 1, 1) := by decide +kernel
theorem dX4_swapColumns_46 : decode cX4_swapColumns 46 = .ok (.iadd, 1) := by decide +kernel
theorem dX4_swapColumns_47 : decode cX4_swapColumns 47 = .ok (.bipush 7, 2) := by decide +kernel
theorem dX4_swapColumns_49 : decode cX4_swapColumns 49 = .ok (.iload_n 3, 1) := by decide +kernel
theorem dX4_swapColumns_50 : decode cX4_swapColumns 50 = .ok (.imul, 1) := by decide +kernel
theorem dX4_swapColumns_51 : decode cX4_swapColumns 51 = .ok (.iload_n 2, 1) := by decide +kernel
theorem dX4_swapColumns_52 : decode cX4_swapColumns 52 = .ok (.iadd, 1) := by decide +kernel
theorem dX4_swapColumns_53 : decode cX4_swapColumns 53 = .ok (.invokevirtual 150, 3) := by decide +kernel
theorem dX4_swapColumns_56 : decode cX4_swapColumns 56 = .ok (.iinc 3 1, 3) := by decide +kernel
theorem dX4_swapColumns_59 : decode cX4_swapColumns 59 = .ok (.goto (-27), 3) := by decide +kernel
theorem dX4_swapColumns_62 : decode cX4_swapColumns 62 = .ok (.aload_n 0, 1) := by decide +kernel
theorem dX4_swapColumns_63 : decode cX4_swapColumns 63 = .ok (.iconst (-1), 1) := by decide +kernel
theorem dX4_swapColumns_64 : decode cX4_swapColumns 64 = .ok (.putfield 48, 3) := by decide +kernel
theorem dX4_swapColumns_67 : decode cX4_swapColumns 67 = .ok (.aload_n 0, 1) := by decide +kernel
theorem dX4_swapColumns_68 : decode cX4_swapColumns 68 = .ok (.iload_n 1, 1) := by decide +kernel
theorem dX4_swapColumns_69 : decode cX4_swapColumns 69 = .ok (.invokevirtual 147, 3) := by decide +kernel
theorem dX4_swapColumns_72 : decode cX4_swapColumns 72 = .ok (.ireturn, 1) := by decide +kernel
theorem dX4_transpose_0 : decode cX4_transpose 0 = .ok (.aload_n 0, 1) := by decide +kernel
theorem dX4_transpose_1 : decode cX4_transpose 1 = .ok (.aload_n 0, 1) := by decide +kernel
theorem dX4_transpose_2 : decode cX4_transpose 2 = .ok (.getfield 13, 3) := by decide +kernel
theorem dX4_transpose_5 : decode cX4_transpose 5 = .ok (.aload_n 0, 1) := by decide +kernel
theorem dX4_transpose_6 : decode cX4_transpose 6 = .ok (.getfield 7, 3) := by decide +kernel
theorem dX4_transpose_9 : decode cX4_transpose 9 = .ok (.if_icmp .ge 7, 3) := by decide +kernel
theorem dX4_transpose_12 : decode cX4_transpose 12 = .ok (.iconst 1, 1) := by decide +kernel
theorem dX4_transpose_13 : decode cX4_transpose 13 = .ok (.goto 4, 3) := by decide +kernel
theorem dX4_transpose_16 : decode cX4_transpose 16 = .ok (.iconst 0, 1) := by decide +kernel
theorem dX4_transpose_17 : decode cX4_transpose 17 = .ok (.invokevirtual 118, 3) := by decide +kernel
theorem dX4_transpose_20 : decode cX4_transpose 20 = .ok (.ifCond .eq 5, 3) := by decide +kernel
theorem dX4_transpose_23 : decode cX4_transpose 23 = .ok (.iconst 0, 1) := by decide +kernel
theorem dX4_transpose_24 : decode cX4_transpose 24 = .ok (.ireturn, 1) := by decide +kernel
theorem dX4_transpose_25 : decode cX4_transpose 25 = .ok (.iconst 0, 1) := by decide +kernel
theorem dX4_transpose_26 : decode cX4_transpose 26 = .ok (.istore_n 1, 1) := by decide +kernel
theorem dX4_transpose_27 : decode cX4_transpose 27 = .ok (.iload_n 1, 1) := by decide +kernel
theorem dX4_transpose_28 : decode cX4_transpose 28 = .ok (.aload_n 0, 1) := by decide +kernel
theorem dX4_transpose_29 : decode cX4_transpose 29 = .ok (.getfield 7, 3) := by decide +kernel
theorem dX4_transpose_32 : decode cX4_transpose 32 = .ok (.if_icmp .ge 38, 3) := by decide +kernel
theorem dX4_transpose_35 : decode cX4_transpose 35 = .ok (.iconst 0, 1) := by decide +kernel
theorem dX4_transpose_36 : decode cX4_transpose 36 = .ok (.istore_n 2, 1) := by decide +kernel
theorem dX4_transpose_37 : decode cX4_transpose 37 = .ok (.iload_n 2, 1) := by decide +kernel
theorem dX4_transpose_38 : decode cX4_transpose 38 = .ok (.iload_n 1, 1) := by decide +kernel
theorem dX4_transpose_39 : decode cX4_transpose 39 = .ok (.if_icmp .ge 25, 3) := by decide +kernel
theorem dX4_transpose_42 : decode cX4_transpose 42 = .ok (.aload_n 0, 1) := by decide +kernel
theorem dX4_transpose_43 : decode cX4_transpose 43 = .ok (.bipush 7, 2) := by decide +kernel
theorem dX4_transpose_45 : decode cX4_transpose 45 = .ok (.iload_n 1, 1) := by decide +kernel
theorem dX4_transpose_46 : decode cX4_transpose 46 = .ok (.imul, 1) := by decide +kernel
theorem dX4_transpose_47 : decode cX4_transpose 47 = .ok (.iload_n 2, 1) := by decide +kernel
theorem dX4_transpose_48 : decode cX4_transpose 48 = .ok (.iadd, 1) := by decide +kernel
theorem dX4_transpose_49 : decode cX4_transpose 49 = .ok (.bipush 7, 2) := by decide +kernel
theorem dX4_transpose_51 : decode cX4_transpose 51 = .ok (.iload_n 2, 1) := by decide +kernel
theorem dX4_transpose_52 : decode cX4_transpose 52 = .ok (.imul, 1) := by decide +kernel
theorem dX4_transpose_53 : decode cX4_transpose 53 = .ok (.iload_n 1, 1) := by decide +kernel
theorem dX4_transpose_54 : decode cX4_transpose 54 = .ok (.iadd, 1) := by decide +kernel
theorem dX4_transpose_55 : decode cX4_transpose 55 = .ok (.invokevirtual 150, 3) := by decide +kernel
theorem dX4_transpose_58 : decode cX4_transpose 58 = .ok (.iinc 2 1, 3) := by decide +kernel
theorem dX4_transpose_61 : decode cX4_transpose 61 = .ok (.goto (-24), 3) := by decide +kernel
theorem dX4_transpose_64 : decode cX4_transpose 64 = .ok (.iinc 1 1, 3) := by decide +kernel
theorem dX4_transpose_67 : decode cX4_transpose 67 = .ok (.goto (-40), 3) := by decide +kernel
theorem dX4_transpose_70 : decode cX4_transpose 70 = .ok (.aload_n 0, 1) := by decide +kernel
theorem dX4_transpose_71 : decode cX4_transpose 71 = .ok (.iconst (-1), 1) := by decide +kernel
theorem dX4_transpose_72 : decode cX4_transpose 72 = .ok (.putfield 48, 3) := by decide +kernel
theorem dX4_transpose_75 : decode cX4_transpose 75 = .ok (.aload_n 0, 1) := by decide +kernel
theorem dX4_transpose_76 : decode cX4_transpose 76 = .ok (.getfield 7, 3) := by decide +kernel
theorem dX4_transpose_79 : decode cX4_transpose 79 = .ok (.ireturn, 1) := by decide +kernel
theorem dX4_total_0 : decode cX4_total 0 = .ok (.iconst 0, 1) := by decide +kernel
theorem dX4_total_1 : decode cX4_total 1 = .ok (.istore_n 1, 1) := by decide +kernel
theorem dX4_total_2 : decode cX4_total 2 = .ok (.iconst 0, 1) := by decide +kernel
theorem dX4_total_3 : decode cX4_total 3 = .ok (.istore_n 2, 1) := by decide +kernel
theorem dX4_total_4 : decode cX4_total 4 = .ok (.iload_n 2, 1) := by decide +kernel
theorem dX4_total_5 : decode cX4_total 5 = .ok (.aload_n 0, 1) := by decide +kernel
theorem dX4_total_6 : decode cX4_total 6 = .ok (.getfield 7, 3) := by decide +kernel
theorem dX4_total_9 : decode cX4_total 9 = .ok (.if_icmp .ge 17, 3) := by decide +kernel
theorem dX4_total_12 : decode cX4_total 12 = .ok (.iload_n 1, 1) := by decide +kernel
theorem dX4_total_13 : decode cX4_total 13 = .ok (.aload_n 0, 1) := by decide +kernel
theorem dX4_total_14 : decode cX4_total 14 = .ok (.iload_n 2, 1) := by decide +kernel
theorem dX4_total_15 : decode cX4_total 15 = .ok (.invokevirtual 144, 3) := by decide +kernel
theorem dX4_total_18 : decode cX4_total 18 = .ok (.iadd, 1) := by decide +kernel
theorem dX4_total_19 : decode cX4_total 19 = .ok (.istore_n 1, 1) := by decide +kernel
theorem dX4_total_20 : decode cX4_total 20 = .ok (.iinc 2 1, 3) := by decide +kernel
theorem dX4_total_23 : decode cX4_total 23 = .ok (.goto (-19), 3) := by decide +kernel
theorem dX4_total_26 : decode cX4_total 26 = .ok (.iload_n 1, 1) := by decide +kernel
theorem dX4_total_27 : decode cX4_total 27 = .ok (.ireturn, 1) := by decide +kernel
theorem dX4_save_0 : decode cX4_save 0 = .ok (.aload_n 0, 1) := by decide +kernel
theorem dX4_save_1 : decode cX4_save 1 = .ok (.aload_n 0, 1) := by decide +kernel
theorem dX4_save_2 : decode cX4_save 2 = .ok (.getfield 7, 3) := by decide +kernel
theorem dX4_save_5 : decode cX4_save 5 = .ok (.putfield 16, 3) := by decide +kernel
theorem dX4_save_8 : decode cX4_save 8 = .ok (.aload_n 0, 1) := by decide +kernel
theorem dX4_save_9 : decode cX4_save 9 = .ok (.aload_n 0, 1) := by decide +kernel
theorem dX4_save_10 : decode cX4_save 10 = .ok (.getfield 13, 3) := by decide +kernel
theorem dX4_save_13 : decode cX4_save 13 = .ok (.putfield 19, 3) := by decide +kernel
theorem dX4_save_16 : decode cX4_save 16 = .ok (.iconst 0, 1) := by decide +kernel
theorem dX4_save_17 : decode cX4_save 17 = .ok (.istore_n 1, 1) := by decide +kernel
theorem dX4_save_18 : decode cX4_save 18 = .ok (.iload_n 1, 1) := by decide +kernel
theorem dX4_save_19 : decode cX4_save 19 = .ok (.bipush 49, 2) := by decide +kernel
theorem dX4_save_21 : decode cX4_save 21 = .ok (.if_icmp .ge 33, 3) := by decide +kernel
theorem dX4_save_24 : decode cX4_save 24 = .ok (.aload_n 0, 1) := by decide +kernel
theorem dX4_save_25 : decode cX4_save 25 = .ok (.getfield 26, 3) := by decide +kernel
theorem dX4_save_28 : decode cX4_save 28 = .ok (.iload_n 1, 1) := by decide +kernel
theorem dX4_save_29 : decode cX4_save 29 = .ok (.aload_n 0, 1) := by decide +kernel
theorem dX4_save_30 : decode cX4_save 30 = .ok (.getfield 22, 3) := by decide +kernel
theorem dX4_save_33 : decode cX4_save 33 = .ok (.iload_n 1, 1) := by decide +kernel
theorem dX4_save_34 : decode cX4_save 34 = .ok (.iaload, 1) := by decide +kernel
theorem dX4_save_35 : decode cX4_save 35 = .ok (.iastore, 1) := by decide +kernel
theorem dX4_save_36 : decode cX4_save 36 = .ok (.aload_n 0, 1) := by decide +kernel
theorem dX4_save_37 : decode cX4_save 37 = .ok (.getfield 33, 3) := by decide +kernel
theorem dX4_save_40 : decode cX4_save 40 = .ok (.iload_n 1, 1) := by decide +kernel
theorem dX4_save_41 : decode cX4_save 41 = .ok (.aload_n 0, 1) := by decide +kernel
theorem dX4_save_42 : decode cX4_save 42 = .ok (.getfield 29, 3) := by decide +kernel
theorem dX4_save_45 : decode cX4_save 45 = .ok (.iload_n 1, 1) := by decide +kernel
theorem dX4_save_46 : decode cX4_save 46 = .ok (.baload, 1) := by decide +kernel
theorem dX4_save_47 : decode cX4_save 47 = .ok (.bastore, 1) := by decide +kernel
theorem dX4_save_48 : decode cX4_save 48 = .ok (.iinc 1 1, 3) := by decide +kernel
theorem dX4_save_51 : decode cX4_save 51 = .ok (.goto (-33), 3) := by decide +kernel
theorem dX4_save_54 : decode cX4_save 54 = .ok (.aload_n 0, 1) := by decide +kernel
theorem dX4_save_55 : decode cX4_save 55 = .ok (.invokevirtual 153, 3) := by decide +kernel
theorem dX4_save_58 : decode cX4_save 58 = .ok (.ireturn, 1) := by decide +kernel
theorem dX4_restore_0 : decode cX4_restore 0 = .ok (.aload_n 0, 1) := by decide +kernel
theorem dX4_restore_1 : decode cX4_restore 1 = .ok (.aload_n 0, 1) := by decide +kernel
theorem dX4_restore_2 : decode cX4_restore 2 = .ok (.getfield 16, 3) := by decide +kernel
theorem dX4_restore_5 : decode cX4_restore 5 = .ok (.putfield 7, 3) := by decide +kernel
theorem dX4_restore_8 : decode cX4_restore 8 = .ok (.aload_n 0, 1) := by decide +kernel
theorem dX4_restore_9 : decode cX4_restore 9 = .ok (.aload_n 0, 1) := by decide +kernel
theorem dX4_restore_10 : decode cX4_restore 10 = .ok (.getfield 19, 3) := by decide +kernel
theorem dX4_restore_13 : decode cX4_restore 13 = .ok (.putfield 13, 3) := by decide +kernel
theorem dX4_restore_16 : decode cX4_restore 16 = .ok (.iconst 0, 1) := by decide +kernel
theorem dX4_restore_17 : decode cX4_restore 17 = .ok (.istore_n 1, 1) := by decide +kernel
theorem dX4_restore_18 : decode cX4_restore 18 = .ok (.iload_n 1, 1) := by decide +kernel
theorem dX4_restore_19 : decode cX4_restore 19 = .ok (.bipush 49, 2) := by decide +kernel
theorem dX4_restore_21 : decode cX4_restore 21 = .ok (.if_icmp .ge 33, 3) := by decide +kernel
theorem dX4_restore_24 : decode cX4_restore 24 = .ok (.aload_n 0, 1) := by decide +kernel
theorem dX4_restore_25 : decode cX4_restore 25 = .ok (.getfield 22, 3) := by decide +kernel
theorem dX4_restore_28 : decode cX4_restore 28 = .ok (.iload_n 1, 1) := by decide +kernel
theorem dX4_restore_29 : decode cX4_restore 29 = .ok (.aload_n 0, 1) := by decide +kernel
theorem dX4_restore_30 : decode cX4_restore 30 = .ok (.getfield 26, 3) := by decide +kernel
theorem dX4_restore_33 : decode cX4_restore 33 = .ok (.iload_n 1, 1) := by decide +kernel
theorem dX4_restore_34 : decode cX4_restore 34 = .ok (.iaload, 1) := by decide +kernel
theorem dX4_restore_35 : decode cX4_restore 35 = .ok (.iastore, 1) := by decide +kernel
theorem dX4_restore_36 : decode cX4_restore 36 = .ok (.aload_n 0, 1) := by decide +kernel
theorem dX4_restore_37 : decode cX4_restore 37 = .ok (.getfield 29, 3) := by decide +kernel
theorem dX4_restore_40 : decode cX4_restore 40 = .ok (.iload_n 1, 1) := by decide +kernel
theorem dX4_restore_41 : decode cX4_restore 41 = .ok (.aload_n 0, 1) := by decide +kernel
theorem dX4_restore_42 : decode cX4_restore 42 = .ok (.getfield 33, 3) := by decide +kernel
theorem dX4_restore_45 : decode cX4_restore 45 = .ok (.iload_n 1, 1) := by decide +kernel
theorem dX4_restore_46 : decode cX4_restore 46 = .ok (.baload, 1) := by decide +kernel
theorem dX4_restore_47 : decode cX4_restore 47 = .ok (.bastore, 1) := by decide +kernel
theorem dX4_restore_48 : decode cX4_restore 48 = .ok (.iinc 1 1, 3) := by decide +kernel
theorem dX4_restore_51 : decode cX4_restore 51 = .ok (.goto (-33), 3) := by decide +kernel
theorem dX4_restore_54 : decode cX4_restore 54 = .ok (.aload_n 0, 1) := by decide +kernel
theorem dX4_restore_55 : decode cX4_restore 55 = .ok (.iconst (-1), 1) := by decide +kernel
theorem dX4_restore_56 : decode cX4_restore 56 = .ok (.putfield 48, 3) := by decide +kernel
theorem dX4_restore_59 : decode cX4_restore 59 = .ok (.aload_n 0, 1) := by decide +kernel
theorem dX4_restore_60 : decode cX4_restore 60 = .ok (.getfield 7, 3) := by decide +kernel
theorem dX4_restore_63 : decode cX4_restore 63 = .ok (.ireturn, 1) := by decide +kernel
theorem dX4_distance_0 : decode cX4_distance 0 = .ok (.aload_n 0, 1) := by decide +kernel
theorem dX4_distance_1 : decode cX4_distance 1 = .ok (.getfield 7, 3) := by decide +kernel
theorem dX4_distance_4 : decode cX4_distance 4 = .ok (.aload_n 0, 1) := by decide +kernel
theorem dX4_distance_5 : decode cX4_distance 5 = .ok (.getfield 16, 3) := by decide +kernel
theorem dX4_distance_8 : decode cX4_distance 8 = .ok (.if_icmp .ne 14, 3) := by decide +kernel
theorem dX4_distance_11 : decode cX4_distance 11 = .ok (.aload_n 0, 1) := by decide +kernel
theorem dX4_distance_12 : decode cX4_distance 12 = .ok (.getfield 13, 3) := by decide +kernel
theorem dX4_distance_15 : decode cX4_distance 15 = .ok (.aload_n 0, 1) := by decide +kernel
theorem dX4_distance_16 : decode cX4_distance 16 = .ok (.getfield 19, 3) := by decide +kernel
theorem dX4_distance_19 : decode cX4_distance 19 = .ok (.if_icmp .eq 5, 3) := by decide +kernel
theorem dX4_distance_22 : decode cX4_distance 22 = .ok (.iconst (-1), 1) := by decide +kernel
theorem dX4_distance_23 : decode cX4_distance 23 = .ok (.ireturn, 1) := by decide +kernel
theorem dX4_distance_24 : decode cX4_distance 24 = .ok (.iconst 0, 1) := by decide +kernel
theorem dX4_distance_25 : decode cX4_distance 25 = .ok (.istore_n 1, 1) := by decide +kernel
theorem dX4_distance_26 : decode cX4_distance 26 = .ok (.iconst 0, 1) := by decide +kernel
theorem dX4_distance_27 : decode cX4_distance 27 = .ok (.istore_n 2, 1) := by decide +kernel
theorem dX4_distance_28 : decode cX4_distance 28 = .ok (.iload_n 2, 1) := by decide +kernel
theorem dX4_distance_29 : decode cX4_distance 29 = .ok (.aload_n 0, 1) := by decide +kernel
theorem dX4_distance_30 : decode cX4_distance 30 = .ok (.getfield 7, 3) := by decide +kernel
theorem dX4_distance_33 : decode cX4_distance 33 = .ok (.if_icmp .ge 56, 3) := by decide +kernel
theorem dX4_distance_36 : decode cX4_distance 36 = .ok (.iconst 0, 1) := by decide +kernel
theorem dX4_distance_37 : decode cX4_distance 37 = .ok (.istore_n 3, 1) := by decide +kernel
theorem dX4_distance_38 : decode cX4_distance 38 = .ok (.iload_n 3, 1) := by decide +kernel
theorem dX4_distance_39 : decode cX4_distance 39 = .ok (.aload_n 0, 1) := by decide +kernel
theorem dX4_distance_40 : decode cX4_distance 40 = .ok (.getfield 7, 3) := by decide +kernel
theorem dX4_distance_43 : decode cX4_distance 43 = .ok (.if_icmp .ge 40, 3) := by decide +kernel
theorem dX4_distance_46 : decode cX4_distance 46 = .ok (.aload_n 0, 1) := by decide +kernel
theorem dX4_distance_47 : decode cX4_distance 47 = .ok (.iload_n 2, 1) := by decide +kernel
theorem dX4_distance_48 : decode cX4_distance 48 = .ok (.iload_n 3, 1) := by decide +kernel
theorem dX4_distance_49 : decode cX4_distance 49 = .ok (.invokevirtual 75, 3) := by decide +kernel
theorem dX4_distance_52 : decode cX4_distance 52 = .ok (.aload_n 0, 1) := by decide +kernel
theorem dX4_distance_53 : decode cX4_distance 53 = .ok (.iload_n 2, 1) := by decide +kernel
theorem dX4_distance_54 : decode cX4_distance 54 = .ok (.iload_n 3, 1) := by decide +kernel
theorem dX4_distance_55 : decode cX4_distance 55 = .ok (.invokevirtual 156, 3) := by decide +kernel
theorem dX4_distance_58 : decode cX4_distance 58 = .ok (.isub, 1) := by decide +kernel
theorem dX4_distance_59 : decode cX4_distance 59 = .ok (.istore 4, 2) := by decide +kernel
theorem dX4_distance_61 : decode cX4_distance 61 = .ok (.iload_n 1, 1) := by decide +kernel
theorem dX4_distance_62 : decode cX4_distance 62 = .ok (.iload 4, 2) := by decide +kernel
theorem dX4_distance_64 : decode cX4_distance 64 = .ok (.ifCond .ge 9, 3) := by decide +kernel
theorem dX4_distance_67 : decode cX4_distance 67 = .ok (.iload 4, 2) := by decide +kernel
theorem dX4_distance_69 : decode cX4_distance 69 = .ok (.ineg, 1) := by decide +kernel
theorem dX4_distance_70 : decode cX4_distance 70 = .ok (.goto 5, 3) := by decide +kernel
theorem dX4_distance_73 : decode cX4_distance 73 = .ok (.iload 4, 2) := by decide +kernel
theorem dX4_distance_75 : decode cX4_distance 75 = .ok (.iadd, 1) := by decide +kernel
theorem dX4_distance_76 : decode cX4_distance 76 = .ok (.istore_n 1, 1) := by decide +kernel
theorem dX4_distance_77 : decode cX4_distance 77 = .ok (.iinc 3 1, 3) := by decide +kernel
theorem dX4_distance_80 : decode cX4_distance 80 = .ok (.goto (-42), 3) := by decide +kernel
theorem dX4_distance_83 : decode cX4_distance 83 = .ok (.iinc 2 1, 3) := by decide +kernel
theorem dX4_distance_86 : decode cX4_distance 86 = .ok (.goto (-58), 3) := by decide +kernel
theorem dX4_distance_89 : decode cX4_distance 89 = .ok (.iload_n 1, 1) := by decide +kernel
theorem dX4_distance_90 : decode cX4_distance 90 = .ok (.ireturn, 1) := by decide +kernel
theorem dX4_rows_0 : decode cX4_rows 0 = .ok (.aload_n 0, 1) := by decide +kernel
theorem dX4_rows_1 : decode cX4_rows 1 = .ok (.getfield 7, 3) := by decide +kernel
theorem dX4_rows_4 : decode cX4_rows 4 = .ok (.ireturn, 1) := by decide +kernel
theorem dX4_columns_0 : decode cX4_columns 0 = .ok (.aload_n 0, 1) := by decide +kernel
theorem dX4_columns_1 : decode cX4_columns 1 = .ok (.getfield 13, 3) := by decide +kernel
theorem dX4_columns_4 : decode cX4_columns 4 = .ok (.ireturn, 1) := by decide +kernel
theorem dX4_forbiddenCount_0 : decode cX4_forbiddenCount 0 = .ok (.aload_n 0, 1) := by decide +kernel
theorem dX4_forbiddenCount_1 : decode cX4_forbiddenCount 1 = .ok (.invokevirtual 134, 3) := by decide +kernel
theorem dX4_forbiddenCount_4 : decode cX4_forbiddenCount 4 = .ok (.ireturn, 1) := by decide +kernel
theorem dX4_totalCost_0 : decode cX4_totalCost 0 = .ok (.aload_n 0, 1) := by decide +kernel
theorem dX4_totalCost_1 : decode cX4_totalCost 1 = .ok (.invokevirtual 153, 3) := by decide +kernel
theorem dX4_totalCost_4 : decode cX4_totalCost 4 = .ok (.ireturn, 1) := by decide +kernel
theorem dX4_minimum_0 : decode cX4_minimum 0 = .ok (.aload_n 0, 1) := by decide +kernel
theorem dX4_minimum_1 : decode cX4_minimum 1 = .ok (.invokevirtual 114, 3) := by decide +kernel
theorem dX4_minimum_4 : decode cX4_minimum 4 = .ok (.aload_n 0, 1) := by decide +kernel
theorem dX4_minimum_5 : decode cX4_minimum 5 = .ok (.getfield 80, 3) := by decide +kernel
theorem dX4_minimum_8 : decode cX4_minimum 8 = .ok (.ireturn, 1) := by decide +kernel
theorem dX4_savedMinimum_0 : decode cX4_savedMinimum 0 = .ok (.iconst 0, 1) := by decide +kernel
theorem dX4_savedMinimum_1 : decode cX4_savedMinimum 1 = .ok (.istore_n 1, 1) := by decide +kernel
theorem dX4_savedMinimum_2 : decode cX4_savedMinimum 2 = .ok (.iload_n 1, 1) := by decide +kernel
theorem dX4_savedMinimum_3 : decode cX4_savedMinimum 3 = .ok (.aload_n 0, 1) := by decide +kernel
theorem dX4_savedMinimum_4 : decode cX4_savedMinimum 4 = .ok (.getfield 16, 3) := by decide +kernel
theorem dX4_savedMinimum_7 : decode cX4_savedMinimum 7 = .ok (.if_icmp .ge 42, 3) := by decide +kernel
theorem dX4_savedMinimum_10 : decode cX4_savedMinimum 10 = .ok (.iconst 0, 1) := by decide +kernel
theorem dX4_savedMinimum_11 : decode cX4_savedMinimum 11 = .ok (.istore_n 2, 1) := by decide +kernel
theorem dX4_savedMinimum_12 : decode cX4_savedMinimum 12 = .ok (.iload_n 2, 1) := by decide +kernel
theorem dX4_savedMinimum_13 : decode cX4_savedMinimum 13 = .ok (.aload_n 0, 1) := by decide +kernel
theorem dX4_savedMinimum_14 : decode cX4_savedMinimum 14 = .ok (.getfield 16, 3) := by decide +kernel
theorem dX4_savedMinimum_17 : decode cX4_savedMinimum 17 = .ok (.if_icmp .ge 26, 3) := by decide +kernel
theorem dX4_savedMinimum_20 : decode cX4_savedMinimum 20 = .ok (.aload_n 0, 1) := by decide +kernel
theorem dX4_savedMinimum_21 : decode cX4_savedMinimum 21 = .ok (.getfield 36, 3) := by decide +kernel
theorem dX4_savedMinimum_24 : decode cX4_savedMinimum 24 = .ok (.bipush 7, 2) := by decide +kernel
theorem dX4_savedMinimum_26 : decode cX4_savedMinimum 26 = .ok (.iload_n 1, 1) := by decide +kernel
theorem dX4_savedMinimum_27 : decode cX4_savedMinimum 27 = .ok (.imul, 1) := by decide +kernel
theorem dX4_savedMinimum_28 : decode cX4_savedMinimum 28 = .ok (.iload_n 2, 1) := by decide +kernel
theorem dX4_savedMinimum_29 : decode cX4_savedMinimum 29 = .ok (.iadd, 1) := by decide +kernel
theorem dX4_savedMinimum_30 : decode cX4_savedMinimum 30 = .ok (.aload_n 0, 1) := by decide +kernel
theorem dX4_savedMinimum_31 : decode cX4_savedMinimum 31 = .ok (.iload_n 1, 1) := by decide +kernel
theorem dX4_savedMinimum_32 : decode cX4_savedMinimum 32 = .ok (.iload_n 2, 1) := by decide +kernel
theorem dX4_savedMinimum_33 : decode cX4_savedMinimum 33 = .ok (.invokevirtual 156, 3) := by decide +kernel
theorem dX4_savedMinimum_36 : decode cX4_savedMinimum 36 = .ok (.iastore, 1) := by decide +kernel
theorem dX4_savedMinimum_37 : decode cX4_savedMinimum 37 = .ok (.iinc 2 1, 3) := by decide +kernel
theorem dX4_savedMinimum_40 : decode cX4_savedMinimum 40 = .ok (.goto (-28), 3) := by decide +kernel
theorem dX4_savedMinimum_43 : decode cX4_savedMinimum 43 = .ok (.iinc 1 1, 3) := by decide +kernel
theorem dX4_savedMinimum_46 : decode cX4_savedMinimum 46 = .ok (.goto (-44), 3) := by decide +kernel
theorem dX4_savedMinimum_49 : decode cX4_savedMinimum 49 = .ok (.aload_n 0, 1) := by decide +kernel
theorem dX4_savedMinimum_50 : decode cX4_savedMinimum 50 = .ok (.aload_n 0, 1) := by decide +kernel
theorem dX4_savedMinimum_51 : decode cX4_savedMinimum 51 = .ok (.getfield 16, 3) := by decide +kernel
theorem dX4_savedMinimum_54 : decode cX4_savedMinimum 54 = .ok (.invokevirtual 111, 3) := by decide +kernel
theorem dX4_savedMinimum_57 : decode cX4_savedMinimum 57 = .ok (.aload_n 0, 1) := by decide +kernel
theorem dX4_savedMinimum_58 : decode cX4_savedMinimum 58 = .ok (.getfield 80, 3) := by decide +kernel
theorem dX4_savedMinimum_61 : decode cX4_savedMinimum 61 = .ok (.ireturn, 1) := by decide +kernel
theorem dX4_assigned_0 : decode cX4_assigned 0 = .ok (.aload_n 0, 1) := by decide +kernel
theorem dX4_assigned_1 : decode cX4_assigned 1 = .ok (.aload_n 0, 1) := by decide +kernel
theorem dX4_assigned_2 : decode cX4_assigned 2 = .ok (.iload_n 1, 1) := by decide +kernel
theorem dX4_assigned_3 : decode cX4_assigned 3 = .ok (.invokevirtual 122, 3) := by decide +kernel
theorem dX4_assigned_6 : decode cX4_assigned 6 = .ok (.ifCond .eq 7, 3) := by decide +kernel
theorem dX4_assigned_9 : decode cX4_assigned 9 = .ok (.iconst 0, 1) := by decide +kernel
theorem dX4_assigned_10 : decode cX4_assigned 10 = .ok (.goto 4, 3) := by decide +kernel
theorem dX4_assigned_13 : decode cX4_assigned 13 = .ok (.iconst 1, 1) := by decide +kernel
theorem dX4_assigned_14 : decode cX4_assigned 14 = .ok (.invokevirtual 118, 3) := by decide +kernel
theorem dX4_assigned_17 : decode cX4_assigned 17 = .ok (.ifCond .eq 5, 3) := by decide +kernel
theorem dX4_assigned_20 : decode cX4_assigned 20 = .ok (.iconst 0, 1) := by decide +kernel
theorem dX4_assigned_21 : decode cX4_assigned 21 = .ok (.ireturn, 1) := by decide +kernel
theorem dX4_assigned_22 : decode cX4_assigned 22 = .ok (.aload_n 0, 1) := by decide +kernel
theorem dX4_assigned_23 : decode cX4_assigned 23 = .ok (.invokevirtual 114, 3) := by decide +kernel
theorem dX4_assigned_26 : decode cX4_assigned 26 = .ok (.aload_n 0, 1) := by decide +kernel
theorem dX4_assigned_27 : decode cX4_assigned 27 = .ok (.getfield 45, 3) := by decide +kernel
theorem dX4_assigned_30 : decode cX4_assigned 30 = .ok (.iload_n 1, 1) := by decide +kernel
theorem dX4_assigned_31 : decode cX4_assigned 31 = .ok (.iaload, 1) := by decide +kernel
theorem dX4_assigned_32 : decode cX4_assigned 32 = .ok (.ireturn, 1) := by decide +kernel
theorem dX4_optimalCount_0 : decode cX4_optimalCount 0 = .ok (.aload_n 0, 1) := by decide +kernel
theorem dX4_optimalCount_1 : decode cX4_optimalCount 1 = .ok (.invokevirtual 114, 3) := by decide +kernel
theorem dX4_optimalCount_4 : decode cX4_optimalCount 4 = .ok (.aload_n 0, 1) := by decide +kernel
theorem dX4_optimalCount_5 : decode cX4_optimalCount 5 = .ok (.getfield 83, 3) := by decide +kernel
theorem dX4_optimalCount_8 : decode cX4_optimalCount 8 = .ok (.ireturn, 1) := by decide +kernel
theorem dX4_rowPotential_0 : decode cX4_rowPotential 0 = .ok (.aload_n 0, 1) := by decide +kernel
theorem dX4_rowPotential_1 : decode cX4_rowPotential 1 = .ok (.aload_n 0, 1) := by decide +kernel
theorem dX4_rowPotential_2 : decode cX4_rowPotential 2 = .ok (.iload_n 1, 1) := by decide +kernel
theorem dX4_rowPotential_3 : decode cX4_rowPotential 3 = .ok (.invokevirtual 122, 3) := by decide +kernel
theorem dX4_rowPotential_6 : decode cX4_rowPotential 6 = .ok (.ifCond .eq 7, 3) := by decide +kernel
theorem dX4_rowPotential_9 : decode cX4_rowPotential 9 = .ok (.iconst 0, 1) := by decide +kernel
theorem dX4_rowPotential_10 : decode cX4_rowPotential 10 = .ok (.goto 4, 3) := by decide +kernel
theorem dX4_rowPotential_13 : decode cX4_rowPotential 13 = .ok (.iconst 1, 1) := by decide +kernel
theorem dX4_rowPotential_14 : decode cX4_rowPotential 14 = .ok (.invokevirtual 118, 3) := by decide +kernel
theorem dX4_rowPotential_17 : decode cX4_rowPotential 17 = .ok (.ifCond .eq 5, 3) := by decide +kernel
theorem dX4_rowPotential_20 : decode cX4_rowPotential 20 = .ok (.iconst 0, 1) := by decide +kernel
theorem dX4_rowPotential_21 : decode cX4_rowPotential 21 = .ok (.ireturn, 1) := by decide +kernel
theorem dX4_rowPotential_22 : decode cX4_rowPotential 22 = .ok (.aload_n 0, 1) := by decide +kernel
theorem dX4_rowPotential_23 : decode cX4_rowPotential 23 = .ok (.invokevirtual 159, 3) := by decide +kernel
theorem dX4_rowPotential_26 : decode cX4_rowPotential 26 = .ok (.aload_n 0, 1) := by decide +kernel
theorem dX4_rowPotential_27 : decode cX4_rowPotential 27 = .ok (.getfield 54, 3) := by decide +kernel
theorem dX4_rowPotential_30 : decode cX4_rowPotential 30 = .ok (.iload_n 1, 1) := by decide +kernel
theorem dX4_rowPotential_31 : decode cX4_rowPotential 31 = .ok (.iaload, 1) := by decide +kernel
theorem dX4_rowPotential_32 : decode cX4_rowPotential 32 = .ok (.ireturn, 1) := by decide +kernel
theorem dX4_columnPotential_0 : decode cX4_columnPotential 0 = .ok (.aload_n 0, 1) := by decide +kernel
theorem dX4_columnPotential_1 : decode cX4_columnPotential 1 = .ok (.aload_n 0, 1) := by decide +kernel
theorem dX4_columnPotential_2 : decode cX4_columnPotential 2 = .ok (.iload_n 1, 1) := by decide +kernel
theorem dX4_columnPotential_3 : decode cX4_columnPotential 3 = .ok (.invokevirtual 122, 3) := by decide +kernel
theorem dX4_columnPotential_6 : decode cX4_columnPotential 6 = .ok (.ifCond .eq 7, 3) := by decide +kernel
theorem dX4_columnPotential_9 : decode cX4_columnPotential 9 = .ok (.iconst 0, 1) := by decide +kernel
theorem dX4_columnPotential_10 : decode cX4_columnPotential 10 = .ok (.goto 4, 3) := by decide +kernel
theorem dX4_columnPotential_13 : decode cX4_columnPotential 13 = .ok (.iconst 1, 1) := by decide +kernel
theorem dX4_columnPotential_14 : decode cX4_columnPotential 14 = .ok (.invokevirtual 118, 3) := by decide +kernel
theorem dX4_columnPotential_17 : decode cX4_columnPotential 17 = .ok (.ifCond .eq 5, 3) := by decide +kernel
theorem dX4_columnPotential_20 : decode cX4_columnPotential 20 = .ok (.iconst 0, 1) := by decide +kernel
theorem dX4_columnPotential_21 : decode cX4_columnPotential 21 = .ok (.ireturn, 1) := by decide +kernel
theorem dX4_columnPotential_22 : decode cX4_columnPotential 22 = .ok (.aload_n 0, 1) := by decide +kernel
theorem dX4_columnPotential_23 : decode cX4_columnPotential 23 = .ok (.invokevirtual 159, 3) := by decide +kernel
theorem dX4_columnPotential_26 : decode cX4_columnPotential 26 = .ok (.aload_n 0, 1) := by decide +kernel
theorem dX4_columnPotential_27 : decode cX4_columnPotential 27 = .ok (.getfield 57, 3) := by decide +kernel
theorem dX4_columnPotential_30 : decode cX4_columnPotential 30 = .ok (.iload_n 1, 1) := by decide +kernel
theorem dX4_columnPotential_31 : decode cX4_columnPotential 31 = .ok (.iaload, 1) := by decide +kernel
theorem dX4_columnPotential_32 : decode cX4_columnPotential 32 = .ok (.ireturn, 1) := by decide +kernel
theorem dX4_reducedCost_0 : decode cX4_reducedCost 0 = .ok (.aload_n 0, 1) := by decide +kernel
theorem dX4_reducedCost_1 : decode cX4_reducedCost 1 = .ok (.aload_n 0, 1) := by decide +kernel
theorem dX4_reducedCost_2 : decode cX4_reducedCost 2 = .ok (.iload_n 1, 1) := by decide +kernel
theorem dX4_reducedCost_3 : decode cX4_reducedCost 3 = .ok (.invokevirtual 122, 3) := by decide +kernel
theorem dX4_reducedCost_6 : decode cX4_reducedCost 6 = .ok (.ifCond .eq 11, 3) := by decide +kernel
theorem dX4_reducedCost_9 : decode cX4_reducedCost 9 = .ok (.aload_n 0, 1) := by decide +kernel
theorem dX4_reducedCost_10 : decode cX4_reducedCost 10 = .ok (.iload_n 2, 1) := by decide +kernel
theorem dX4_reducedCost_11 : decode cX4_reducedCost 11 = .ok (.invokevirtual 122, 3) := by decide +kernel
theorem dX4_reducedCost_14 : decode cX4_reducedCost 14 = .ok (.ifCond .ne 7, 3) := by decide +kernel
theorem dX4_reducedCost_17 : decode cX4_reducedCost 17 = .ok (.iconst 1, 1) := by decide +kernel
theorem dX4_reducedCost_18 : decode cX4_reducedCost 18 = .ok (.goto 4, 3) := by decide +kernel
theorem dX4_reducedCost_21 : decode cX4_reducedCost 21 = .ok (.iconst 0, 1) := by decide +kernel
theorem dX4_reducedCost_22 : decode cX4_reducedCost 22 = .ok (.invokevirtual 118, 3) := by decide +kernel
theorem dX4_reducedCost_25 : decode cX4_reducedCost 25 = .ok (.ifCond .eq 5, 3) := by decide +kernel
theorem dX4_reducedCost_28 : decode cX4_reducedCost 28 = .ok (.iconst 0, 1) := by decide +kernel
theorem dX4_reducedCost_29 : decode cX4_reducedCost 29 = .ok (.ireturn, 1) := by decide +kernel
theorem dX4_reducedCost_30 : decode cX4_reducedCost 30 = .ok (.aload_n 0, 1) := by decide +kernel
theorem dX4_reducedCost_31 : decode cX4_reducedCost 31 = .ok (.invokevirtual 159, 3) := by decide +kernel
theorem dX4_reducedCost_34 : decode cX4_reducedCost 34 = .ok (.aload_n 0, 1) := by decide +kernel
theorem dX4_reducedCost_35 : decode cX4_reducedCost 35 = .ok (.iload_n 1, 1) := by decide +kernel
theorem dX4_reducedCost_36 : decode cX4_reducedCost 36 = .ok (.iload_n 2, 1) := by decide +kernel
theorem dX4_reducedCost_37 : decode cX4_reducedCost 37 = .ok (.invokevirtual 162, 3) := by decide +kernel
theorem dX4_reducedCost_40 : decode cX4_reducedCost 40 = .ok (.ireturn, 1) := by decide +kernel
theorem dX4_minimumWith_0 : decode cX4_minimumWith 0 = .ok (.aload_n 0, 1) := by decide +kernel
theorem dX4_minimumWith_1 : decode cX4_minimumWith 1 = .ok (.aload_n 0, 1) := by decide +kernel
theorem dX4_minimumWith_2 : decode cX4_minimumWith 2 = .ok (.iload_n 1, 1) := by decide +kernel
theorem dX4_minimumWith_3 : decode cX4_minimumWith 3 = .ok (.invokevirtual 122, 3) := by decide +kernel
theorem dX4_minimumWith_6 : decode cX4_minimumWith 6 = .ok (.ifCond .eq 11, 3) := by decide +kernel
theorem dX4_minimumWith_9 : decode cX4_minimumWith 9 = .ok (.aload_n 0, 1) := by decide +kernel
theorem dX4_minimumWith_10 : decode cX4_minimumWith 10 = .ok (.iload_n 2, 1) := by decide +kernel
theorem dX4_minimumWith_11 : decode cX4_minimumWith 11 = .ok (.invokevirtual 122, 3) := by decide +kernel
theorem dX4_minimumWith_14 : decode cX4_minimumWith 14 = .ok (.ifCond .ne 7, 3) := by decide +kernel
theorem dX4_minimumWith_17 : decode cX4_minimumWith 17 = .ok (.iconst 1, 1) := by decide +kernel
theorem dX4_minimumWith_18 : decode cX4_minimumWith 18 = .ok (.goto 4, 3) := by decide +kernel
theorem dX4_minimumWith_21 : decode cX4_minimumWith 21 = .ok (.iconst 0, 1) := by decide +kernel
theorem dX4_minimumWith_22 : decode cX4_minimumWith 22 = .ok (.invokevirtual 118, 3) := by decide +kernel
theorem dX4_minimumWith_25 : decode cX4_minimumWith 25 = .ok (.ifCond .eq 5, 3) := by decide +kernel
theorem dX4_minimumWith_28 : decode cX4_minimumWith 28 = .ok (.iconst 0, 1) := by decide +kernel
theorem dX4_minimumWith_29 : decode cX4_minimumWith 29 = .ok (.ireturn, 1) := by decide +kernel
theorem dX4_minimumWith_30 : decode cX4_minimumWith 30 = .ok (.aload_n 0, 1) := by decide +kernel
theorem dX4_minimumWith_31 : decode cX4_minimumWith 31 = .ok (.invokevirtual 114, 3) := by decide +kernel
theorem dX4_minimumWith_34 : decode cX4_minimumWith 34 = .ok (.aload_n 0, 1) := by decide +kernel
theorem dX4_minimumWith_35 : decode cX4_minimumWith 35 = .ok (.getfield 39, 3) := by decide +kernel
theorem dX4_minimumWith_38 : decode cX4_minimumWith 38 = .ok (.bipush 7, 2) := by decide +kernel
theorem dX4_minimumWith_40 : decode cX4_minimumWith 40 = .ok (.iload_n 1, 1) := by decide +kernel
theorem dX4_minimumWith_41 : decode cX4_minimumWith 41 = .ok (.imul, 1) := by decide +kernel
theorem dX4_minimumWith_42 : decode cX4_minimumWith 42 = .ok (.iload_n 2, 1) := by decide +kernel
theorem dX4_minimumWith_43 : decode cX4_minimumWith 43 = .ok (.iadd, 1) := by decide +kernel
theorem dX4_minimumWith_44 : decode cX4_minimumWith 44 = .ok (.iaload, 1) := by decide +kernel
theorem dX4_minimumWith_45 : decode cX4_minimumWith 45 = .ok (.ireturn, 1) := by decide +kernel
theorem dX4_minimumWithout_0 : decode cX4_minimumWithout 0 = .ok (.aload_n 0, 1) := by decide +kernel
theorem dX4_minimumWithout_1 : decode cX4_minimumWithout 1 = .ok (.aload_n 0, 1) := by decide +kernel
theorem dX4_minimumWithout_2 : decode cX4_minimumWithout 2 = .ok (.iload_n 1, 1) := by decide +kernel
theorem dX4_minimumWithout_3 : decode cX4_minimumWithout 3 = .ok (.invokevirtual 122, 3) := by decide +kernel
theorem dX4_minimumWithout_6 : decode cX4_minimumWithout 6 = .ok (.ifCond .eq 11, 3) := by decide +kernel
theorem dX4_minimumWithout_9 : decode cX4_minimumWithout 9 = .ok (.aload_n 0, 1) := by decide +kernel
theorem dX4_minimumWithout_10 : decode cX4_minimumWithout 10 = .ok (.iload_n 2, 1) := by decide +kernel
theorem dX4_minimumWithout_11 : decode cX4_minimumWithout 11 = .ok (.invokevirtual 122, 3) := by decide +kernel
theorem dX4_minimumWithout_14 : decode cX4_minimumWithout 14 = .ok (.ifCond .ne 7, 3) := by decide +kernel
theorem dX4_minimumWithout_17 : decode cX4_minimumWithout 17 = .ok (.iconst 1, 1) := by decide +kernel
theorem dX4_minimumWithout_18 : decode cX4_minimumWithout 18 = .ok (.goto 4, 3) := by decide +kernel
theorem dX4_minimumWithout_21 : decode cX4_minimumWithout 21 = .ok (.iconst 0, 1) := by decide +kernel
theorem dX4_minimumWithout_22 : decode cX4_minimumWithout 22 = .ok (.invokevirtual 118, 3) := by decide +kernel
theorem dX4_minimumWithout_25 : decode cX4_minimumWithout 25 = .ok (.ifCond .eq 5, 3) := by decide +kernel
theorem dX4_minimumWithout_28 : decode cX4_minimumWithout 28 = .ok (.iconst 0, 1) := by decide +kernel
theorem dX4_minimumWithout_29 : decode cX4_minimumWithout 29 = .ok (.ireturn, 1) := by decide +kernel
theorem dX4_minimumWithout_30 : decode cX4_minimumWithout 30 = .ok (.aload_n 0, 1) := by decide +kernel
theorem dX4_minimumWithout_31 : decode cX4_minimumWithout 31 = .ok (.invokevirtual 114, 3) := by decide +kernel
theorem dX4_minimumWithout_34 : decode cX4_minimumWithout 34 = .ok (.aload_n 0, 1) := by decide +kernel
theorem dX4_minimumWithout_35 : decode cX4_minimumWithout 35 = .ok (.getfield 7, 3) := by decide +kernel
theorem dX4_minimumWithout_38 : decode cX4_minimumWithout 38 = .ok (.iconst 1, 1) := by decide +kernel
theorem dX4_minimumWithout_39 : decode cX4_minimumWithout 39 = .ok (.if_icmp .ne 7, 3) := by decide +kernel
theorem dX4_minimumWithout_42 : decode cX4_minimumWithout 42 = .ok (.iconst (-1), 1) := by decide +kernel
theorem dX4_minimumWithout_43 : decode cX4_minimumWithout 43 = .ok (.goto 9, 3) := by decide +kernel
theorem dX4_minimumWithout_46 : decode cX4_minimumWithout 46 = .ok (.aload_n 0, 1) := by decide +kernel
theorem dX4_minimumWithout_47 : decode cX4_minimumWithout 47 = .ok (.iload_n 1, 1) := by decide +kernel
theorem dX4_minimumWithout_48 : decode cX4_minimumWithout 48 = .ok (.iload_n 2, 1) := by decide +kernel
theorem dX4_minimumWithout_49 : decode cX4_minimumWithout 49 = .ok (.invokevirtual 165, 3) := by decide +kernel
theorem dX4_minimumWithout_52 : decode cX4_minimumWithout 52 = .ok (.ireturn, 1) := by decide +kernel
theorem dX4_minimumIfCost_0 : decode cX4_minimumIfCost 0 = .ok (.aload_n 0, 1) := by decide +kernel
theorem dX4_minimumIfCost_1 : decode cX4_minimumIfCost 1 = .ok (.aload_n 0, 1) := by decide +kernel
theorem dX4_minimumIfCost_2 : decode cX4_minimumIfCost 2 = .ok (.iload_n 1, 1) := by decide +kernel
theorem dX4_minimumIfCost_3 : decode cX4_minimumIfCost 3 = .ok (.invokevirtual 122, 3) := by decide +kernel
theorem dX4_minimumIfCost_6 : decode cX4_minimumIfCost 6 = .ok (.ifCond .eq 11, 3) := by decide +kernel
theorem dX4_minimumIfCost_9 : decode cX4_minimumIfCost 9 = .ok (.aload_n 0, 1) := by decide +kernel
theorem dX4_minimumIfCost_10 : decode cX4_minimumIfCost 10 = .ok (.iload_n 2, 1) := by decide +kernel
theorem dX4_minimumIfCost_11 : decode cX4_minimumIfCost 11 = .ok (.invokevirtual 125, 3) := by decide +kernel
theorem dX4_minimumIfCost_14 : decode cX4_minimumIfCost 14 = .ok (.ifCond .ne 7, 3) := by decide +kernel
theorem dX4_minimumIfCost_17 : decode cX4_minimumIfCost 17 = .ok (.iconst 1, 1) := by decide +kernel
theorem dX4_minimumIfCost_18 : decode cX4_minimumIfCost 18 = .ok (.goto 27, 3) := by decide +kernel
theorem dX4_minimumIfCost_21 : decode cX4_minimumIfCost 21 = .ok (.iload_n 3, 1) := by decide +kernel
theorem dX4_minimumIfCost_22 : decode cX4_minimumIfCost 22 = .ok (.i2l, 1) := by decide +kernel
theorem dX4_minimumIfCost_23 : decode cX4_minimumIfCost 23 = .ok (.lconst 0, 1) := by decide +kernel
theorem dX4_minimumIfCost_24 : decode cX4_minimumIfCost 24 = .ok (.ldc2_w 128, 3) := by decide +kernel
theorem dX4_minimumIfCost_27 : decode cX4_minimumIfCost 27 = .ok (.invokestatic 63, 3) := by decide +kernel
theorem dX4_minimumIfCost_30 : decode cX4_minimumIfCost 30 = .ok (.ifCond .ne 14, 3) := by decide +kernel
theorem dX4_minimumIfCost_33 : decode cX4_minimumIfCost 33 = .ok (.iload_n 3, 1) := by decide +kernel
theorem dX4_minimumIfCost_34 : decode cX4_minimumIfCost 34 = .ok (.sipush 1000, 3) := by decide +kernel
theorem dX4_minimumIfCost_37 : decode cX4_minimumIfCost 37 = .ok (.if_icmp .eq 7, 3) := by decide +kernel
theorem dX4_minimumIfCost_40 : decode cX4_minimumIfCost 40 = .ok (.iconst 2, 1) := by decide +kernel
theorem dX4_minimumIfCost_41 : decode cX4_minimumIfCost 41 = .ok (.goto 4, 3) := by decide +kernel
theorem dX4_minimumIfCost_44 : decode cX4_minimumIfCost 44 = .ok (.iconst 0, 1) := by decide +kernel
theorem dX4_minimumIfCost_45 : decode cX4_minimumIfCost 45 = .ok (.invokevirtual 118, 3) := by decide +kernel
theorem dX4_minimumIfCost_48 : decode cX4_minimumIfCost 48 = .ok (.ifCond .eq 5, 3) := by decide +kernel
theorem dX4_minimumIfCost_51 : decode cX4_minimumIfCost 51 = .ok (.iconst 0, 1) := by decide +kernel
theorem dX4_minimumIfCost_52 : decode cX4_minimumIfCost 52 = .ok (.ireturn, 1) := by decide +kernel
theorem dX4_minimumIfCost_53 : decode cX4_minimumIfCost 53 = .ok (.aload_n 0, 1) := by decide +kernel
theorem dX4_minimumIfCost_54 : decode cX4_minimumIfCost 54 = .ok (.invokevirtual 108, 3) := by decide +kernel
theorem dX4_minimumIfCost_57 : decode cX4_minimumIfCost 57 = .ok (.aload_n 0, 1) := by decide +kernel
theorem dX4_minimumIfCost_58 : decode cX4_minimumIfCost 58 = .ok (.getfield 36, 3) := by decide +kernel
theorem dX4_minimumIfCost_61 : decode cX4_minimumIfCost 61 = .ok (.bipush 7, 2) := by decide +kernel
theorem dX4_minimumIfCost_63 : decode cX4_minimumIfCost 63 = .ok (.iload_n 1, 1) := by decide +kernel
theorem dX4_minimumIfCost_64 : decode cX4_minimumIfCost 64 = .ok (.imul, 1) := by decide +kernel
theorem dX4_minimumIfCost_65 : decode cX4_minimumIfCost 65 = .ok (.iload_n 2, 1) := by decide +kernel
theorem dX4_minimumIfCost_66 : decode cX4_minimumIfCost 66 = .ok (.iadd, 1) := by decide +kernel
theorem dX4_minimumIfCost_67 : decode cX4_minimumIfCost 67 = .ok (.iload_n 3, 1) := by decide +kernel
theorem dX4_minimumIfCost_68 : decode cX4_minimumIfCost 68 = .ok (.iastore, 1) := by decide +kernel
theorem dX4_minimumIfCost_69 : decode cX4_minimumIfCost 69 = .ok (.aload_n 0, 1) := by decide +kernel
theorem dX4_minimumIfCost_70 : decode cX4_minimumIfCost 70 = .ok (.aload_n 0, 1) := by decide +kernel
theorem dX4_minimumIfCost_71 : decode cX4_minimumIfCost 71 = .ok (.getfield 7, 3) := by decide +kernel
theorem dX4_minimumIfCost_74 : decode cX4_minimumIfCost 74 = .ok (.invokevirtual 111, 3) := by decide +kernel
theorem dX4_minimumIfCost_77 : decode cX4_minimumIfCost 77 = .ok (.aload_n 0, 1) := by decide +kernel
theorem dX4_minimumIfCost_78 : decode cX4_minimumIfCost 78 = .ok (.getfield 80, 3) := by decide +kernel
theorem dX4_minimumIfCost_81 : decode cX4_minimumIfCost 81 = .ok (.ireturn, 1) := by decide +kernel
theorem dX4_secondBest_0 : decode cX4_secondBest 0 = .ok (.aload_n 0, 1) := by decide +kernel
theorem dX4_secondBest_1 : decode cX4_secondBest 1 = .ok (.invokevirtual 114, 3) := by decide +kernel
theorem dX4_secondBest_4 : decode cX4_secondBest 4 = .ok (.aload_n 0, 1) := by decide +kernel
theorem dX4_secondBest_5 : decode cX4_secondBest 5 = .ok (.getfield 7, 3) := by decide +kernel
theorem dX4_secondBest_8 : decode cX4_secondBest 8 = .ok (.iconst 1, 1) := by decide +kernel
theorem dX4_secondBest_9 : decode cX4_secondBest 9 = .ok (.if_icmp .ne 7, 3) := by decide +kernel
theorem dX4_secondBest_12 : decode cX4_secondBest 12 = .ok (.iconst (-1), 1) := by decide +kernel
theorem dX4_secondBest_13 : decode cX4_secondBest 13 = .ok (.goto 7, 3) := by decide +kernel
theorem dX4_secondBest_16 : decode cX4_secondBest 16 = .ok (.aload_n 0, 1) := by decide +kernel
theorem dX4_secondBest_17 : decode cX4_secondBest 17 = .ok (.getfield 86, 3) := by decide +kernel
theorem dX4_secondBest_20 : decode cX4_secondBest 20 = .ok (.ireturn, 1) := by decide +kernel
theorem dX4_maximum_0 : decode cX4_maximum 0 = .ok (.aload_n 0, 1) := by decide +kernel
theorem dX4_maximum_1 : decode cX4_maximum 1 = .ok (.invokevirtual 114, 3) := by decide +kernel
theorem dX4_maximum_4 : decode cX4_maximum 4 = .ok (.aload_n 0, 1) := by decide +kernel
theorem dX4_maximum_5 : decode cX4_maximum 5 = .ok (.getfield 89, 3) := by decide +kernel
theorem dX4_maximum_8 : decode cX4_maximum 8 = .ok (.ireturn, 1) := by decide +kernel
theorem dX4_bottleneck_0 : decode cX4_bottleneck 0 = .ok (.aload_n 0, 1) := by decide +kernel
theorem dX4_bottleneck_1 : decode cX4_bottleneck 1 = .ok (.invokevirtual 114, 3) := by decide +kernel
theorem dX4_bottleneck_4 : decode cX4_bottleneck 4 = .ok (.aload_n 0, 1) := by decide +kernel
theorem dX4_bottleneck_5 : decode cX4_bottleneck 5 = .ok (.getfield 92, 3) := by decide +kernel
theorem dX4_bottleneck_8 : decode cX4_bottleneck 8 = .ok (.ireturn, 1) := by decide +kernel
theorem dX4_fits_0 : decode cX4_fits 0 = .ok (.aload_n 0, 1) := by decide +kernel
theorem dX4_fits_1 : decode cX4_fits 1 = .ok (.iload_n 1, 1) := by decide +kernel
theorem dX4_fits_2 : decode cX4_fits 2 = .ok (.i2l, 1) := by decide +kernel
theorem dX4_fits_3 : decode cX4_fits 3 = .ok (.lconst 0, 1) := by decide +kernel
theorem dX4_fits_4 : decode cX4_fits 4 = .ok (.ldc2_w 168, 3) := by decide +kernel
theorem dX4_fits_7 : decode cX4_fits 7 = .ok (.invokestatic 63, 3) := by decide +kernel
theorem dX4_fits_10 : decode cX4_fits 10 = .ok (.ifCond .eq 7, 3) := by decide +kernel
theorem dX4_fits_13 : decode cX4_fits 13 = .ok (.iconst 0, 1) := by decide +kernel
theorem dX4_fits_14 : decode cX4_fits 14 = .ok (.goto 4, 3) := by decide +kernel
theorem dX4_fits_17 : decode cX4_fits 17 = .ok (.iconst 1, 1) := by decide +kernel
theorem dX4_fits_18 : decode cX4_fits 18 = .ok (.invokevirtual 118, 3) := by decide +kernel
theorem dX4_fits_21 : decode cX4_fits 21 = .ok (.ifCond .eq 5, 3) := by decide +kernel
theorem dX4_fits_24 : decode cX4_fits 24 = .ok (.iconst 0, 1) := by decide +kernel
theorem dX4_fits_25 : decode cX4_fits 25 = .ok (.ireturn, 1) := by decide +kernel
theorem dX4_fits_26 : decode cX4_fits 26 = .ok (.aload_n 0, 1) := by decide +kernel
theorem dX4_fits_27 : decode cX4_fits 27 = .ok (.invokevirtual 114, 3) := by decide +kernel
theorem dX4_fits_30 : decode cX4_fits 30 = .ok (.aload_n 0, 1) := by decide +kernel
theorem dX4_fits_31 : decode cX4_fits 31 = .ok (.getfield 92, 3) := by decide +kernel
theorem dX4_fits_34 : decode cX4_fits 34 = .ok (.iload_n 1, 1) := by decide +kernel
theorem dX4_fits_35 : decode cX4_fits 35 = .ok (.if_icmp .gt 7, 3) := by decide +kernel
theorem dX4_fits_38 : decode cX4_fits 38 = .ok (.iconst 1, 1) := by decide +kernel
theorem dX4_fits_39 : decode cX4_fits 39 = .ok (.goto 4, 3) := by decide +kernel
theorem dX4_fits_42 : decode cX4_fits 42 = .ok (.iconst 0, 1) := by decide +kernel
theorem dX4_fits_43 : decode cX4_fits 43 = .ok (.ireturn, 1) := by decide +kernel
theorem dX4_countWithin_0 : decode cX4_countWithin 0 = .ok (.aload_n 0, 1) := by decide +kernel
theorem dX4_countWithin_1 : decode cX4_countWithin 1 = .ok (.iload_n 1, 1) := by decide +kernel
theorem dX4_countWithin_2 : decode cX4_countWithin 2 = .ok (.i2l, 1) := by decide +kernel
theorem dX4_countWithin_3 : decode cX4_countWithin 3 = .ok (.lconst 0, 1) := by decide +kernel
theorem dX4_countWithin_4 : decode cX4_countWithin 4 = .ok (.ldc2_w 170, 3) := by decide +kernel
theorem dX4_countWithin_7 : decode cX4_countWithin 7 = .ok (.invokestatic 63, 3) := by decide +kernel
theorem dX4_countWithin_10 : decode cX4_countWithin 10 = .ok (.ifCond .eq 7, 3) := by decide +kernel
theorem dX4_countWithin_13 : decode cX4_countWithin 13 = .ok (.iconst 0, 1) := by decide +kernel
theorem dX4_countWithin_14 : decode cX4_countWithin 14 = .ok (.goto 4, 3) := by decide +kernel
theorem dX4_countWithin_17 : decode cX4_countWithin 17 = .ok (.iconst 1, 1) := by decide +kernel
theorem dX4_countWithin_18 : decode cX4_countWithin 18 = .ok (.invokevirtual 118, 3) := by decide +kernel
theorem dX4_countWithin_21 : decode cX4_countWithin 21 = .ok (.ifCond .eq 5, 3) := by decide +kernel
theorem dX4_countWithin_24 : decode cX4_countWithin 24 = .ok (.iconst 0, 1) := by decide +kernel
theorem dX4_countWithin_25 : decode cX4_countWithin 25 = .ok (.ireturn, 1) := by decide +kernel
theorem dX4_countWithin_26 : decode cX4_countWithin 26 = .ok (.aload_n 0, 1) := by decide +kernel
theorem dX4_countWithin_27 : decode cX4_countWithin 27 = .ok (.invokevirtual 108, 3) := by decide +kernel
theorem dX4_countWithin_30 : decode cX4_countWithin 30 = .ok (.aload_n 0, 1) := by decide +kernel
theorem dX4_countWithin_31 : decode cX4_countWithin 31 = .ok (.invokevirtual 95, 3) := by decide +kernel
theorem dX4_countWithin_34 : decode cX4_countWithin 34 = .ok (.iconst 0, 1) := by decide +kernel
theorem dX4_countWithin_35 : decode cX4_countWithin 35 = .ok (.istore_n 2, 1) := by decide +kernel
theorem dX4_countWithin_36 : decode cX4_countWithin 36 = .ok (.aload_n 0, 1) := by decide +kernel
theorem dX4_countWithin_37 : decode cX4_countWithin 37 = .ok (.getfield 7, 3) := by decide +kernel
theorem dX4_countWithin_40 : decode cX4_countWithin 40 = .ok (.invokestatic 67, 3) := by decide +kernel
theorem dX4_countWithin_43 : decode cX4_countWithin 43 = .ok (.istore_n 3, 1) := by decide +kernel
theorem dX4_countWithin_44 : decode cX4_countWithin 44 = .ok (.iload_n 3, 1) := by decide +kernel
theorem dX4_countWithin_45 : decode cX4_countWithin 45 = .ok (.ifCond .le 37, 3) := by decide +kernel
theorem dX4_countWithin_48 : decode cX4_countWithin 48 = .ok (.iload_n 2, 1) := by decide +kernel
theorem dX4_countWithin_49 : decode cX4_countWithin 49 = .ok (.aload_n 0, 1) := by decide +kernel
theorem dX4_countWithin_50 : decode cX4_countWithin 50 = .ok (.aload_n 0, 1) := by decide +kernel
theorem dX4_countWithin_51 : decode cX4_countWithin 51 = .ok (.getfield 7, 3) := by decide +kernel
theorem dX4_countWithin_54 : decode cX4_countWithin 54 = .ok (.invokevirtual 98, 3) := by decide +kernel
theorem dX4_countWithin_57 : decode cX4_countWithin 57 = .ok (.iload_n 1, 1) := by decide +kernel
theorem dX4_countWithin_58 : decode cX4_countWithin 58 = .ok (.if_icmp .gt 7, 3) := by decide +kernel
theorem dX4_countWithin_61 : decode cX4_countWithin 61 = .ok (.iconst 1, 1) := by decide +kernel
theorem dX4_countWithin_62 : decode cX4_countWithin 62 = .ok (.goto 4, 3) := by decide +kernel
theorem dX4_countWithin_65 : decode cX4_countWithin 65 = .ok (.iconst 0, 1) := by decide +kernel
theorem dX4_countWithin_66 : decode cX4_countWithin 66 = .ok (.iadd, 1) := by decide +kernel
theorem dX4_countWithin_67 : decode cX4_countWithin 67 = .ok (.istore_n 2, 1) := by decide +kernel
theorem dX4_countWithin_68 : decode cX4_countWithin 68 = .ok (.aload_n 0, 1) := by decide +kernel
theorem dX4_countWithin_69 : decode cX4_countWithin 69 = .ok (.aload_n 0, 1) := by decide +kernel
theorem dX4_countWithin_70 : decode cX4_countWithin 70 = .ok (.getfield 7, 3) := by decide +kernel
theorem dX4_countWithin_73 : decode cX4_countWithin 73 = .ok (.invokevirtual 104, 3) := by decide +kernel
theorem dX4_countWithin_76 : decode cX4_countWithin 76 = .ok (.iinc 3 (-1), 3) := by decide +kernel
theorem dX4_countWithin_79 : decode cX4_countWithin 79 = .ok (.goto (-35), 3) := by decide +kernel
theorem dX4_countWithin_82 : decode cX4_countWithin 82 = .ok (.iload_n 2, 1) := by decide +kernel
theorem dX4_countWithin_83 : decode cX4_countWithin 83 = .ok (.ireturn, 1) := by decide +kernel
theorem dX4_sumOf_0 : decode cX4_sumOf 0 = .ok (.iload_n 1, 1) := by decide +kernel
theorem dX4_sumOf_1 : decode cX4_sumOf 1 = .ok (.istore_n 2, 1) := by decide +kernel
theorem dX4_sumOf_2 : decode cX4_sumOf 2 = .ok (.iconst 0, 1) := by decide +kernel
theorem dX4_sumOf_3 : decode cX4_sumOf 3 = .ok (.istore_n 3, 1) := by decide +kernel
theorem dX4_sumOf_4 : decode cX4_sumOf 4 = .ok (.iconst 0, 1) := by decide +kernel
theorem dX4_sumOf_5 : decode cX4_sumOf 5 = .ok (.istore 4, 2) := by decide +kernel
theorem dX4_sumOf_7 : decode cX4_sumOf 7 = .ok (.aload_n 0, 1) := by decide +kernel
theorem dX4_sumOf_8 : decode cX4_sumOf 8 = .ok (.getfield 7, 3) := by decide +kernel
theorem dX4_sumOf_11 : decode cX4_sumOf 11 = .ok (.iconst 1, 1) := by decide +kernel
theorem dX4_sumOf_12 : decode cX4_sumOf 12 = .ok (.isub, 1) := by decide +kernel
theorem dX4_sumOf_13 : decode cX4_sumOf 13 = .ok (.istore 5, 2) := by decide +kernel
theorem dX4_sumOf_15 : decode cX4_sumOf 15 = .ok (.iload 5, 2) := by decide +kernel
theorem dX4_sumOf_17 : decode cX4_sumOf 17 = .ok (.ifCond .lt 70, 3) := by decide +kernel
theorem dX4_sumOf_20 : decode cX4_sumOf 20 = .ok (.iload_n 2, 1) := by decide +kernel
theorem dX4_sumOf_21 : decode cX4_sumOf 21 = .ok (.bipush 10, 2) := by decide +kernel
theorem dX4_sumOf_23 : decode cX4_sumOf 23 = .ok (.irem, 1) := by decide +kernel
theorem dX4_sumOf_24 : decode cX4_sumOf 24 = .ok (.iconst 1, 1) := by decide +kernel
theorem dX4_sumOf_25 : decode cX4_sumOf 25 = .ok (.isub, 1) := by decide +kernel
theorem dX4_sumOf_26 : decode cX4_sumOf 26 = .ok (.istore 6, 2) := by decide +kernel
theorem dX4_sumOf_28 : decode cX4_sumOf 28 = .ok (.iload_n 2, 1) := by decide +kernel
theorem dX4_sumOf_29 : decode cX4_sumOf 29 = .ok (.bipush 10, 2) := by decide +kernel
theorem dX4_sumOf_31 : decode cX4_sumOf 31 = .ok (.idiv, 1) := by decide +kernel
theorem dX4_sumOf_32 : decode cX4_sumOf 32 = .ok (.istore_n 2, 1) := by decide +kernel
theorem dX4_sumOf_33 : decode cX4_sumOf 33 = .ok (.aload_n 0, 1) := by decide +kernel
theorem dX4_sumOf_34 : decode cX4_sumOf 34 = .ok (.iload 6, 2) := by decide +kernel
theorem dX4_sumOf_36 : decode cX4_sumOf 36 = .ok (.invokevirtual 122, 3) := by decide +kernel
theorem dX4_sumOf_39 : decode cX4_sumOf 39 = .ok (.ifCond .eq 13, 3) := by decide +kernel
theorem dX4_sumOf_42 : decode cX4_sumOf 42 = .ok (.iload_n 3, 1) := by decide +kernel
theorem dX4_sumOf_43 : decode cX4_sumOf 43 = .ok (.iload 6, 2) := by decide +kernel
theorem dX4_sumOf_45 : decode cX4_sumOf 45 = .ok (.ishr, 1) := by decide +kernel
theorem dX4_sumOf_46 : decode cX4_sumOf 46 = .ok (.iconst 1, 1) := by decide +kernel
theorem dX4_sumOf_47 : decode cX4_sumOf 47 = .ok (.iand, 1) := by decide +kernel
theorem dX4_sumOf_48 : decode cX4_sumOf 48 = .ok (.iconst 1, 1) := by decide +kernel
theorem dX4_sumOf_49 : decode cX4_sumOf 49 = .ok (.if_icmp .ne 5, 3) := by decide +kernel
theorem dX4_sumOf_52 : decode cX4_sumOf 52 = .ok (.iconst (-1), 1) := by decide +kernel
theorem dX4_sumOf_53 : decode cX4_sumOf 53 = .ok (.istore_n 2, 1) := by decide +kernel
theorem dX4_sumOf_54 : decode cX4_sumOf 54 = .ok (.iload_n 2, 1) := by decide +kernel
theorem dX4_sumOf_55 : decode cX4_sumOf 55 = .ok (.ifCond .ge 6, 3) := by decide +kernel
theorem dX4_sumOf_58 : decode cX4_sumOf 58 = .ok (.goto 29, 3) := by decide +kernel
theorem dX4_sumOf_61 : decode cX4_sumOf 61 = .ok (.iload_n 3, 1) := by decide +kernel
theorem dX4_sumOf_62 : decode cX4_sumOf 62 = .ok (.iconst 1, 1) := by decide +kernel
theorem dX4_sumOf_63 : decode cX4_sumOf 63 = .ok (.iload 6, 2) := by decide +kernel
theorem dX4_sumOf_65 : decode cX4_sumOf 65 = .ok (.ishl, 1) := by decide +kernel
theorem dX4_sumOf_66 : decode cX4_sumOf 66 = .ok (.ior, 1) := by decide +kernel
end
section
theorem dX4_sumOf_67 : decode cX4_sumOf 67 = .ok (.istore_n 3, 1) := by decide +kernel
theorem dX4_sumOf_68 : decode cX4_sumOf 68 = .ok (.iload 4, 2) := by decide +kernel
theorem dX4_sumOf_70 : decode cX4_sumOf 70 = .ok (.aload_n 0, 1) := by decide +kernel
theorem dX4_sumOf_71 : decode cX4_sumOf 71 = .ok (.iload 5, 2) := by decide +kernel
theorem dX4_sumOf_73 : decode cX4_sumOf 73 = .ok (.iload 6, 2) := by decide +kernel
theorem dX4_sumOf_75 : decode cX4_sumOf 75 = .ok (.invokevirtual 75, 3) := by decide +kernel
theorem dX4_sumOf_78 : decode cX4_sumOf 78 = .ok (.iadd, 1) := by decide +kernel
theorem dX4_sumOf_79 : decode cX4_sumOf 79 = .ok (.istore 4, 2) := by decide +kernel
theorem dX4_sumOf_81 : decode cX4_sumOf 81 = .ok (.iinc 5 (-1), 3) := by decide +kernel
theorem dX4_sumOf_84 : decode cX4_sumOf 84 = .ok (.goto (-69), 3) := by decide +kernel
theorem dX4_sumOf_87 : decode cX4_sumOf 87 = .ok (.aload_n 0, 1) := by decide +kernel
theorem dX4_sumOf_88 : decode cX4_sumOf 88 = .ok (.iload_n 2, 1) := by decide +kernel
theorem dX4_sumOf_89 : decode cX4_sumOf 89 = .ok (.ifCond .eq 7, 3) := by decide +kernel
theorem dX4_sumOf_92 : decode cX4_sumOf 92 = .ok (.iconst 1, 1) := by decide +kernel
theorem dX4_sumOf_93 : decode cX4_sumOf 93 = .ok (.goto 4, 3) := by decide +kernel
theorem dX4_sumOf_96 : decode cX4_sumOf 96 = .ok (.iconst 0, 1) := by decide +kernel
theorem dX4_sumOf_97 : decode cX4_sumOf 97 = .ok (.invokevirtual 118, 3) := by decide +kernel
theorem dX4_sumOf_100 : decode cX4_sumOf 100 = .ok (.ifCond .eq 7, 3) := by decide +kernel
theorem dX4_sumOf_103 : decode cX4_sumOf 103 = .ok (.iconst 0, 1) := by decide +kernel
theorem dX4_sumOf_104 : decode cX4_sumOf 104 = .ok (.goto 5, 3) := by decide +kernel
theorem dX4_sumOf_107 : decode cX4_sumOf 107 = .ok (.iload 4, 2) := by decide +kernel
theorem dX4_sumOf_109 : decode cX4_sumOf 109 = .ok (.ireturn, 1) := by decide +kernel
theorem dX4_startEnumeration_0 : decode cX4_startEnumeration 0 = .ok (.aload_n 0, 1) := by decide +kernel
theorem dX4_startEnumeration_1 : decode cX4_startEnumeration 1 = .ok (.aload_n 0, 1) := by decide +kernel
theorem dX4_startEnumeration_2 : decode cX4_startEnumeration 2 = .ok (.getfield 7, 3) := by decide +kernel
theorem dX4_startEnumeration_5 : decode cX4_startEnumeration 5 = .ok (.bipush 6, 2) := by decide +kernel
theorem dX4_startEnumeration_7 : decode cX4_startEnumeration 7 = .ok (.if_icmp .le 7, 3) := by decide +kernel
theorem dX4_startEnumeration_10 : decode cX4_startEnumeration 10 = .ok (.iconst 1, 1) := by decide +kernel
theorem dX4_startEnumeration_11 : decode cX4_startEnumeration 11 = .ok (.goto 4, 3) := by decide +kernel
theorem dX4_startEnumeration_14 : decode cX4_startEnumeration 14 = .ok (.iconst 0, 1) := by decide +kernel
theorem dX4_startEnumeration_15 : decode cX4_startEnumeration 15 = .ok (.invokevirtual 118, 3) := by decide +kernel
theorem dX4_startEnumeration_18 : decode cX4_startEnumeration 18 = .ok (.ifCond .eq 5, 3) := by decide +kernel
theorem dX4_startEnumeration_21 : decode cX4_startEnumeration 21 = .ok (.iconst 0, 1) := by decide +kernel
theorem dX4_startEnumeration_22 : decode cX4_startEnumeration 22 = .ok (.ireturn, 1) := by decide +kernel
theorem dX4_startEnumeration_23 : decode cX4_startEnumeration 23 = .ok (.aload_n 0, 1) := by decide +kernel
theorem dX4_startEnumeration_24 : decode cX4_startEnumeration 24 = .ok (.iconst 0, 1) := by decide +kernel
theorem dX4_startEnumeration_25 : decode cX4_startEnumeration 25 = .ok (.putfield 48, 3) := by decide +kernel
theorem dX4_startEnumeration_28 : decode cX4_startEnumeration 28 = .ok (.aload_n 0, 1) := by decide +kernel
theorem dX4_startEnumeration_29 : decode cX4_startEnumeration 29 = .ok (.iconst (-1), 1) := by decide +kernel
theorem dX4_startEnumeration_30 : decode cX4_startEnumeration 30 = .ok (.putfield 172, 3) := by decide +kernel
theorem dX4_startEnumeration_33 : decode cX4_startEnumeration 33 = .ok (.aload_n 0, 1) := by decide +kernel
theorem dX4_startEnumeration_34 : decode cX4_startEnumeration 34 = .ok (.iconst 0, 1) := by decide +kernel
theorem dX4_startEnumeration_35 : decode cX4_startEnumeration 35 = .ok (.putfield 175, 3) := by decide +kernel
theorem dX4_startEnumeration_38 : decode cX4_startEnumeration 38 = .ok (.aload_n 0, 1) := by decide +kernel
theorem dX4_startEnumeration_39 : decode cX4_startEnumeration 39 = .ok (.getfield 7, 3) := by decide +kernel
theorem dX4_startEnumeration_42 : decode cX4_startEnumeration 42 = .ok (.invokestatic 67, 3) := by decide +kernel
theorem dX4_startEnumeration_45 : decode cX4_startEnumeration 45 = .ok (.ireturn, 1) := by decide +kernel
theorem dX4_nextSum_0 : decode cX4_nextSum 0 = .ok (.aload_n 0, 1) := by decide +kernel
theorem dX4_nextSum_1 : decode cX4_nextSum 1 = .ok (.aload_n 0, 1) := by decide +kernel
theorem dX4_nextSum_2 : decode cX4_nextSum 2 = .ok (.getfield 48, 3) := by decide +kernel
theorem dX4_nextSum_5 : decode cX4_nextSum 5 = .ok (.ifCond .ge 7, 3) := by decide +kernel
theorem dX4_nextSum_8 : decode cX4_nextSum 8 = .ok (.iconst 1, 1) := by decide +kernel
theorem dX4_nextSum_9 : decode cX4_nextSum 9 = .ok (.goto 22, 3) := by decide +kernel
theorem dX4_nextSum_12 : decode cX4_nextSum 12 = .ok (.aload_n 0, 1) := by decide +kernel
theorem dX4_nextSum_13 : decode cX4_nextSum 13 = .ok (.getfield 48, 3) := by decide +kernel
theorem dX4_nextSum_16 : decode cX4_nextSum 16 = .ok (.aload_n 0, 1) := by decide +kernel
theorem dX4_nextSum_17 : decode cX4_nextSum 17 = .ok (.getfield 7, 3) := by decide +kernel
theorem dX4_nextSum_20 : decode cX4_nextSum 20 = .ok (.invokestatic 67, 3) := by decide +kernel
theorem dX4_nextSum_23 : decode cX4_nextSum 23 = .ok (.if_icmp .ne 7, 3) := by decide +kernel
theorem dX4_nextSum_26 : decode cX4_nextSum 26 = .ok (.iconst 2, 1) := by decide +kernel
theorem dX4_nextSum_27 : decode cX4_nextSum 27 = .ok (.goto 4, 3) := by decide +kernel
theorem dX4_nextSum_30 : decode cX4_nextSum 30 = .ok (.iconst 0, 1) := by decide +kernel
theorem dX4_nextSum_31 : decode cX4_nextSum 31 = .ok (.invokevirtual 118, 3) := by decide +kernel
theorem dX4_nextSum_34 : decode cX4_nextSum 34 = .ok (.ifCond .eq 5, 3) := by decide +kernel
theorem dX4_nextSum_37 : decode cX4_nextSum 37 = .ok (.iconst 0, 1) := by decide +kernel
theorem dX4_nextSum_38 : decode cX4_nextSum 38 = .ok (.ireturn, 1) := by decide +kernel
theorem dX4_nextSum_39 : decode cX4_nextSum 39 = .ok (.ldc 79, 2) := by decide +kernel
theorem dX4_nextSum_41 : decode cX4_nextSum 41 = .ok (.istore_n 1, 1) := by decide +kernel
theorem dX4_nextSum_42 : decode cX4_nextSum 42 = .ok (.iconst 0, 1) := by decide +kernel
theorem dX4_nextSum_43 : decode cX4_nextSum 43 = .ok (.istore_n 2, 1) := by decide +kernel
theorem dX4_nextSum_44 : decode cX4_nextSum 44 = .ok (.aload_n 0, 1) := by decide +kernel
theorem dX4_nextSum_45 : decode cX4_nextSum 45 = .ok (.invokevirtual 108, 3) := by decide +kernel
theorem dX4_nextSum_48 : decode cX4_nextSum 48 = .ok (.aload_n 0, 1) := by decide +kernel
theorem dX4_nextSum_49 : decode cX4_nextSum 49 = .ok (.invokevirtual 95, 3) := by decide +kernel
theorem dX4_nextSum_52 : decode cX4_nextSum 52 = .ok (.iconst 0, 1) := by decide +kernel
theorem dX4_nextSum_53 : decode cX4_nextSum 53 = .ok (.istore_n 3, 1) := by decide +kernel
theorem dX4_nextSum_54 : decode cX4_nextSum 54 = .ok (.iload_n 3, 1) := by decide +kernel
theorem dX4_nextSum_55 : decode cX4_nextSum 55 = .ok (.aload_n 0, 1) := by decide +kernel
theorem dX4_nextSum_56 : decode cX4_nextSum 56 = .ok (.getfield 7, 3) := by decide +kernel
theorem dX4_nextSum_59 : decode cX4_nextSum 59 = .ok (.invokestatic 67, 3) := by decide +kernel
theorem dX4_nextSum_62 : decode cX4_nextSum 62 = .ok (.if_icmp .ge 108, 3) := by decide +kernel
theorem dX4_nextSum_65 : decode cX4_nextSum 65 = .ok (.aload_n 0, 1) := by decide +kernel
theorem dX4_nextSum_66 : decode cX4_nextSum 66 = .ok (.aload_n 0, 1) := by decide +kernel
theorem dX4_nextSum_67 : decode cX4_nextSum 67 = .ok (.getfield 7, 3) := by decide +kernel
theorem dX4_nextSum_70 : decode cX4_nextSum 70 = .ok (.invokevirtual 98, 3) := by decide +kernel
theorem dX4_nextSum_73 : decode cX4_nextSum 73 = .ok (.istore 4, 2) := by decide +kernel
theorem dX4_nextSum_75 : decode cX4_nextSum 75 = .ok (.iload 4, 2) := by decide +kernel
theorem dX4_nextSum_77 : decode cX4_nextSum 77 = .ok (.aload_n 0, 1) := by decide +kernel
theorem dX4_nextSum_78 : decode cX4_nextSum 78 = .ok (.getfield 172, 3) := by decide +kernel
theorem dX4_nextSum_81 : decode cX4_nextSum 81 = .ok (.if_icmp .gt 20, 3) := by decide +kernel
theorem dX4_nextSum_84 : decode cX4_nextSum 84 = .ok (.iload 4, 2) := by decide +kernel
theorem dX4_nextSum_86 : decode cX4_nextSum 86 = .ok (.aload_n 0, 1) := by decide +kernel
theorem dX4_nextSum_87 : decode cX4_nextSum 87 = .ok (.getfield 172, 3) := by decide +kernel
theorem dX4_nextSum_90 : decode cX4_nextSum 90 = .ok (.if_icmp .ne 15, 3) := by decide +kernel
theorem dX4_nextSum_93 : decode cX4_nextSum 93 = .ok (.iload_n 3, 1) := by decide +kernel
theorem dX4_nextSum_94 : decode cX4_nextSum 94 = .ok (.aload_n 0, 1) := by decide +kernel
theorem dX4_nextSum_95 : decode cX4_nextSum 95 = .ok (.getfield 175, 3) := by decide +kernel
theorem dX4_nextSum_98 : decode cX4_nextSum 98 = .ok (.if_icmp .le 7, 3) := by decide +kernel
theorem dX4_nextSum_101 : decode cX4_nextSum 101 = .ok (.iconst 1, 1) := by decide +kernel
theorem dX4_nextSum_102 : decode cX4_nextSum 102 = .ok (.goto 4, 3) := by decide +kernel
theorem dX4_nextSum_105 : decode cX4_nextSum 105 = .ok (.iconst 0, 1) := by decide +kernel
theorem dX4_nextSum_106 : decode cX4_nextSum 106 = .ok (.istore 5, 2) := by decide +kernel
theorem dX4_nextSum_108 : decode cX4_nextSum 108 = .ok (.iload 5, 2) := by decide +kernel
theorem dX4_nextSum_110 : decode cX4_nextSum 110 = .ok (.ifCond .eq 46, 3) := by decide +kernel
theorem dX4_nextSum_113 : decode cX4_nextSum 113 = .ok (.iload 4, 2) := by decide +kernel
theorem dX4_nextSum_115 : decode cX4_nextSum 115 = .ok (.iload_n 1, 1) := by decide +kernel
theorem dX4_nextSum_116 : decode cX4_nextSum 116 = .ok (.if_icmp .ge 40, 3) := by decide +kernel
theorem dX4_nextSum_119 : decode cX4_nextSum 119 = .ok (.iload 4, 2) := by decide +kernel
theorem dX4_nextSum_121 : decode cX4_nextSum 121 = .ok (.istore_n 1, 1) := by decide +kernel
theorem dX4_nextSum_122 : decode cX4_nextSum 122 = .ok (.iload_n 3, 1) := by decide +kernel
theorem dX4_nextSum_123 : decode cX4_nextSum 123 = .ok (.istore_n 2, 1) := by decide +kernel
theorem dX4_nextSum_124 : decode cX4_nextSum 124 = .ok (.iconst 0, 1) := by decide +kernel
theorem dX4_nextSum_125 : decode cX4_nextSum 125 = .ok (.istore 6, 2) := by decide +kernel
theorem dX4_nextSum_127 : decode cX4_nextSum 127 = .ok (.iload 6, 2) := by decide +kernel
theorem dX4_nextSum_129 : decode cX4_nextSum 129 = .ok (.aload_n 0, 1) := by decide +kernel
theorem dX4_nextSum_130 : decode cX4_nextSum 130 = .ok (.getfield 7, 3) := by decide +kernel
theorem dX4_nextSum_133 : decode cX4_nextSum 133 = .ok (.if_icmp .ge 23, 3) := by decide +kernel
theorem dX4_nextSum_136 : decode cX4_nextSum 136 = .ok (.aload_n 0, 1) := by decide +kernel
theorem dX4_nextSum_137 : decode cX4_nextSum 137 = .ok (.getfield 51, 3) := by decide +kernel
theorem dX4_nextSum_140 : decode cX4_nextSum 140 = .ok (.iload 6, 2) := by decide +kernel
theorem dX4_nextSum_142 : decode cX4_nextSum 142 = .ok (.aload_n 0, 1) := by decide +kernel
theorem dX4_nextSum_143 : decode cX4_nextSum 143 = .ok (.getfield 42, 3) := by decide +kernel
theorem dX4_nextSum_146 : decode cX4_nextSum 146 = .ok (.iload 6, 2) := by decide +kernel
theorem dX4_nextSum_148 : decode cX4_nextSum 148 = .ok (.iaload, 1) := by decide +kernel
theorem dX4_nextSum_149 : decode cX4_nextSum 149 = .ok (.iastore, 1) := by decide +kernel
theorem dX4_nextSum_150 : decode cX4_nextSum 150 = .ok (.iinc 6 1, 3) := by decide +kernel
theorem dX4_nextSum_153 : decode cX4_nextSum 153 = .ok (.goto (-26), 3) := by decide +kernel
theorem dX4_nextSum_156 : decode cX4_nextSum 156 = .ok (.aload_n 0, 1) := by decide +kernel
theorem dX4_nextSum_157 : decode cX4_nextSum 157 = .ok (.aload_n 0, 1) := by decide +kernel
theorem dX4_nextSum_158 : decode cX4_nextSum 158 = .ok (.getfield 7, 3) := by decide +kernel
theorem dX4_nextSum_161 : decode cX4_nextSum 161 = .ok (.invokevirtual 104, 3) := by decide +kernel
theorem dX4_nextSum_164 : decode cX4_nextSum 164 = .ok (.iinc 3 1, 3) := by decide +kernel
theorem dX4_nextSum_167 : decode cX4_nextSum 167 = .ok (.goto (-113), 3) := by decide +kernel
theorem dX4_nextSum_170 : decode cX4_nextSum 170 = .ok (.aload_n 0, 1) := by decide +kernel
theorem dX4_nextSum_171 : decode cX4_nextSum 171 = .ok (.iload_n 1, 1) := by decide +kernel
theorem dX4_nextSum_172 : decode cX4_nextSum 172 = .ok (.putfield 172, 3) := by decide +kernel
theorem dX4_nextSum_175 : decode cX4_nextSum 175 = .ok (.aload_n 0, 1) := by decide +kernel
theorem dX4_nextSum_176 : decode cX4_nextSum 176 = .ok (.iload_n 2, 1) := by decide +kernel
theorem dX4_nextSum_177 : decode cX4_nextSum 177 = .ok (.putfield 175, 3) := by decide +kernel
theorem dX4_nextSum_180 : decode cX4_nextSum 180 = .ok (.aload_n 0, 1) := by decide +kernel
theorem dX4_nextSum_181 : decode cX4_nextSum 181 = .ok (.dup, 1) := by decide +kernel
theorem dX4_nextSum_182 : decode cX4_nextSum 182 = .ok (.getfield 48, 3) := by decide +kernel
theorem dX4_nextSum_185 : decode cX4_nextSum 185 = .ok (.iconst 1, 1) := by decide +kernel
theorem dX4_nextSum_186 : decode cX4_nextSum 186 = .ok (.iadd, 1) := by decide +kernel
theorem dX4_nextSum_187 : decode cX4_nextSum 187 = .ok (.putfield 48, 3) := by decide +kernel
theorem dX4_nextSum_190 : decode cX4_nextSum 190 = .ok (.iload_n 1, 1) := by decide +kernel
theorem dX4_nextSum_191 : decode cX4_nextSum 191 = .ok (.ireturn, 1) := by decide +kernel
theorem dX4_currentColumn_0 : decode cX4_currentColumn 0 = .ok (.aload_n 0, 1) := by decide +kernel
theorem dX4_currentColumn_1 : decode cX4_currentColumn 1 = .ok (.aload_n 0, 1) := by decide +kernel
theorem dX4_currentColumn_2 : decode cX4_currentColumn 2 = .ok (.iload_n 1, 1) := by decide +kernel
theorem dX4_currentColumn_3 : decode cX4_currentColumn 3 = .ok (.invokevirtual 122, 3) := by decide +kernel
theorem dX4_currentColumn_6 : decode cX4_currentColumn 6 = .ok (.ifCond .ne 7, 3) := by decide +kernel
theorem dX4_currentColumn_9 : decode cX4_currentColumn 9 = .ok (.iconst 1, 1) := by decide +kernel
theorem dX4_currentColumn_10 : decode cX4_currentColumn 10 = .ok (.goto 16, 3) := by decide +kernel
theorem dX4_currentColumn_13 : decode cX4_currentColumn 13 = .ok (.aload_n 0, 1) := by decide +kernel
theorem dX4_currentColumn_14 : decode cX4_currentColumn 14 = .ok (.getfield 48, 3) := by decide +kernel
theorem dX4_currentColumn_17 : decode cX4_currentColumn 17 = .ok (.iconst 1, 1) := by decide +kernel
theorem dX4_currentColumn_18 : decode cX4_currentColumn 18 = .ok (.if_icmp .ge 7, 3) := by decide +kernel
theorem dX4_currentColumn_21 : decode cX4_currentColumn 21 = .ok (.iconst 2, 1) := by decide +kernel
theorem dX4_currentColumn_22 : decode cX4_currentColumn 22 = .ok (.goto 4, 3) := by decide +kernel
theorem dX4_currentColumn_25 : decode cX4_currentColumn 25 = .ok (.iconst 0, 1) := by decide +kernel
theorem dX4_currentColumn_26 : decode cX4_currentColumn 26 = .ok (.invokevirtual 118, 3) := by decide +kernel
theorem dX4_currentColumn_29 : decode cX4_currentColumn 29 = .ok (.ifCond .eq 7, 3) := by decide +kernel
theorem dX4_currentColumn_32 : decode cX4_currentColumn 32 = .ok (.iconst 0, 1) := by decide +kernel
theorem dX4_currentColumn_33 : decode cX4_currentColumn 33 = .ok (.goto 9, 3) := by decide +kernel
theorem dX4_currentColumn_36 : decode cX4_currentColumn 36 = .ok (.aload_n 0, 1) := by decide +kernel
theorem dX4_currentColumn_37 : decode cX4_currentColumn 37 = .ok (.getfield 51, 3) := by decide +kernel
theorem dX4_currentColumn_40 : decode cX4_currentColumn 40 = .ok (.iload_n 1, 1) := by decide +kernel
theorem dX4_currentColumn_41 : decode cX4_currentColumn 41 = .ok (.iaload, 1) := by decide +kernel
theorem dX4_currentColumn_42 : decode cX4_currentColumn 42 = .ok (.ireturn, 1) := by decide +kernel
theorem dX4_stepsMade_0 : decode cX4_stepsMade 0 = .ok (.aload_n 0, 1) := by decide +kernel
theorem dX4_stepsMade_1 : decode cX4_stepsMade 1 = .ok (.getfield 48, 3) := by decide +kernel
theorem dX4_stepsMade_4 : decode cX4_stepsMade 4 = .ok (.ireturn, 1) := by decide +kernel
theorem dX4_meanCost_0 : decode cX4_meanCost 0 = .ok (.aload_n 0, 1) := by decide +kernel
theorem dX4_meanCost_1 : decode cX4_meanCost 1 = .ok (.invokevirtual 153, 3) := by decide +kernel
theorem dX4_meanCost_4 : decode cX4_meanCost 4 = .ok (.i2d, 1) := by decide +kernel
theorem dX4_meanCost_5 : decode cX4_meanCost 5 = .ok (.aload_n 0, 1) := by decide +kernel
theorem dX4_meanCost_6 : decode cX4_meanCost 6 = .ok (.getfield 7, 3) := by decide +kernel
theorem dX4_meanCost_9 : decode cX4_meanCost 9 = .ok (.aload_n 0, 1) := by decide +kernel
theorem dX4_meanCost_10 : decode cX4_meanCost 10 = .ok (.getfield 7, 3) := by decide +kernel
theorem dX4_meanCost_13 : decode cX4_meanCost 13 = .ok (.imul, 1) := by decide +kernel
theorem dX4_meanCost_14 : decode cX4_meanCost 14 = .ok (.i2d, 1) := by decide +kernel
theorem dX4_meanCost_15 : decode cX4_meanCost 15 = .ok (.ddiv, 1) := by decide +kernel
theorem dX4_meanCost_16 : decode cX4_meanCost 16 = .ok (.dreturn, 1) := by decide +kernel
theorem dX4_shareOf_0 : decode cX4_shareOf 0 = .ok (.aload_n 0, 1) := by decide +kernel
theorem dX4_shareOf_1 : decode cX4_shareOf 1 = .ok (.aload_n 0, 1) := by decide +kernel
theorem dX4_shareOf_2 : decode cX4_shareOf 2 = .ok (.iload_n 1, 1) := by decide +kernel
theorem dX4_shareOf_3 : decode cX4_shareOf 3 = .ok (.invokevirtual 122, 3) := by decide +kernel
theorem dX4_shareOf_6 : decode cX4_shareOf 6 = .ok (.ifCond .eq 7, 3) := by decide +kernel
theorem dX4_shareOf_9 : decode cX4_shareOf 9 = .ok (.iconst 0, 1) := by decide +kernel
theorem dX4_shareOf_10 : decode cX4_shareOf 10 = .ok (.goto 4, 3) := by decide +kernel
theorem dX4_shareOf_13 : decode cX4_shareOf 13 = .ok (.iconst 1, 1) := by decide +kernel
theorem dX4_shareOf_14 : decode cX4_shareOf 14 = .ok (.invokevirtual 118, 3) := by decide +kernel
theorem dX4_shareOf_17 : decode cX4_shareOf 17 = .ok (.ifCond .eq 5, 3) := by decide +kernel
theorem dX4_shareOf_20 : decode cX4_shareOf 20 = .ok (.fconst 0, 1) := by decide +kernel
theorem dX4_shareOf_21 : decode cX4_shareOf 21 = .ok (.freturn, 1) := by decide +kernel
theorem dX4_shareOf_22 : decode cX4_shareOf 22 = .ok (.aload_n 0, 1) := by decide +kernel
theorem dX4_shareOf_23 : decode cX4_shareOf 23 = .ok (.invokevirtual 114, 3) := by decide +kernel
theorem dX4_shareOf_26 : decode cX4_shareOf 26 = .ok (.aload_n 0, 1) := by decide +kernel
theorem dX4_shareOf_27 : decode cX4_shareOf 27 = .ok (.getfield 80, 3) := by decide +kernel
theorem dX4_shareOf_30 : decode cX4_shareOf 30 = .ok (.ifCond .ne 7, 3) := by decide +kernel
theorem dX4_shareOf_33 : decode cX4_shareOf 33 = .ok (.fconst 0, 1) := by decide +kernel
theorem dX4_shareOf_34 : decode cX4_shareOf 34 = .ok (.goto 26, 3) := by decide +kernel
theorem dX4_shareOf_37 : decode cX4_shareOf 37 = .ok (.aload_n 0, 1) := by decide +kernel
theorem dX4_shareOf_38 : decode cX4_shareOf 38 = .ok (.getfield 36, 3) := by decide +kernel
theorem dX4_shareOf_41 : decode cX4_shareOf 41 = .ok (.bipush 7, 2) := by decide +kernel
theorem dX4_shareOf_43 : decode cX4_shareOf 43 = .ok (.iload_n 1, 1) := by decide +kernel
theorem dX4_shareOf_44 : decode cX4_shareOf 44 = .ok (.imul, 1) := by decide +kernel
theorem dX4_shareOf_45 : decode cX4_shareOf 45 = .ok (.aload_n 0, 1) := by decide +kernel
theorem dX4_shareOf_46 : decode cX4_shareOf 46 = .ok (.getfield 45, 3) := by decide +kernel
theorem dX4_shareOf_49 : decode cX4_shareOf 49 = .ok (.iload_n 1, 1) := by decide +kernel
theorem dX4_shareOf_50 : decode cX4_shareOf 50 = .ok (.iaload, 1) := by decide +kernel
theorem dX4_shareOf_51 : decode cX4_shareOf 51 = .ok (.iadd, 1) := by decide +kernel
theorem dX4_shareOf_52 : decode cX4_shareOf 52 = .ok (.iaload, 1) := by decide +kernel
theorem dX4_shareOf_53 : decode cX4_shareOf 53 = .ok (.i2f, 1) := by decide +kernel
theorem dX4_shareOf_54 : decode cX4_shareOf 54 = .ok (.aload_n 0, 1) := by decide +kernel
theorem dX4_shareOf_55 : decode cX4_shareOf 55 = .ok (.getfield 80, 3) := by decide +kernel
theorem dX4_shareOf_58 : decode cX4_shareOf 58 = .ok (.i2f, 1) := by decide +kernel
theorem dX4_shareOf_59 : decode cX4_shareOf 59 = .ok (.fdiv, 1) := by decide +kernel
theorem dX4_shareOf_60 : decode cX4_shareOf 60 = .ok (.freturn, 1) := by decide +kernel
theorem dX4_checksum_0 : decode cX4_checksum 0 = .ok (.aload_n 0, 1) := by decide +kernel
theorem dX4_checksum_1 : decode cX4_checksum 1 = .ok (.invokevirtual 114, 3) := by decide +kernel
theorem dX4_checksum_4 : decode cX4_checksum 4 = .ok (.ldc2_w 178, 3) := by decide +kernel
theorem dX4_checksum_7 : decode cX4_checksum 7 = .ok (.aload_n 0, 1) := by decide +kernel
theorem dX4_checksum_8 : decode cX4_checksum 8 = .ok (.getfield 7, 3) := by decide +kernel
theorem dX4_checksum_11 : decode cX4_checksum 11 = .ok (.i2l, 1) := by decide +kernel
theorem dX4_checksum_12 : decode cX4_checksum 12 = .ok (.ladd, 1) := by decide +kernel
theorem dX4_checksum_13 : decode cX4_checksum 13 = .ok (.lstore_n 1, 1) := by decide +kernel
theorem dX4_checksum_14 : decode cX4_checksum 14 = .ok (.ldc2_w 180, 3) := by decide +kernel
theorem dX4_checksum_17 : decode cX4_checksum 17 = .ok (.ldc2_w 180, 3) := by decide +kernel
theorem dX4_checksum_20 : decode cX4_checksum 20 = .ok (.lload_n 1, 1) := by decide +kernel
theorem dX4_checksum_21 : decode cX4_checksum 21 = .ok (.lmul, 1) := by decide +kernel
theorem dX4_checksum_22 : decode cX4_checksum 22 = .ok (.aload_n 0, 1) := by decide +kernel
theorem dX4_checksum_23 : decode cX4_checksum 23 = .ok (.getfield 13, 3) := by decide +kernel
theorem dX4_checksum_26 : decode cX4_checksum 26 = .ok (.i2l, 1) := by decide +kernel
theorem dX4_checksum_27 : decode cX4_checksum 27 = .ok (.ladd, 1) := by decide +kernel
theorem dX4_checksum_28 : decode cX4_checksum 28 = .ok (.lmul, 1) := by decide +kernel
theorem dX4_checksum_29 : decode cX4_checksum 29 = .ok (.aload_n 0, 1) := by decide +kernel
theorem dX4_checksum_30 : decode cX4_checksum 30 = .ok (.invokevirtual 134, 3) := by decide +kernel
theorem dX4_checksum_33 : decode cX4_checksum 33 = .ok (.i2l, 1) := by decide +kernel
theorem dX4_checksum_34 : decode cX4_checksum 34 = .ok (.ladd, 1) := by decide +kernel
theorem dX4_checksum_35 : decode cX4_checksum 35 = .ok (.lstore_n 1, 1) := by decide +kernel
theorem dX4_checksum_36 : decode cX4_checksum 36 = .ok (.ldc2_w 180, 3) := by decide +kernel
theorem dX4_checksum_39 : decode cX4_checksum 39 = .ok (.ldc2_w 180, 3) := by decide +kernel
theorem dX4_checksum_42 : decode cX4_checksum 42 = .ok (.lload_n 1, 1) := by decide +kernel
theorem dX4_checksum_43 : decode cX4_checksum 43 = .ok (.lmul, 1) := by decide +kernel
theorem dX4_checksum_44 : decode cX4_checksum 44 = .ok (.aload_n 0, 1) := by decide +kernel
theorem dX4_checksum_45 : decode cX4_checksum 45 = .ok (.invokevirtual 153, 3) := by decide +kernel
theorem dX4_checksum_48 : decode cX4_checksum 48 = .ok (.i2l, 1) := by decide +kernel
theorem dX4_checksum_49 : decode cX4_checksum 49 = .ok (.ladd, 1) := by decide +kernel
theorem dX4_checksum_50 : decode cX4_checksum 50 = .ok (.lmul, 1) := by decide +kernel
theorem dX4_checksum_51 : decode cX4_checksum 51 = .ok (.aload_n 0, 1) := by decide +kernel
theorem dX4_checksum_52 : decode cX4_checksum 52 = .ok (.getfield 48, 3) := by decide +kernel
theorem dX4_checksum_55 : decode cX4_checksum 55 = .ok (.i2l, 1) := by decide +kernel
theorem dX4_checksum_56 : decode cX4_checksum 56 = .ok (.ladd, 1) := by decide +kernel
theorem dX4_checksum_57 : decode cX4_checksum 57 = .ok (.lstore_n 1, 1) := by decide +kernel
theorem dX4_checksum_58 : decode cX4_checksum 58 = .ok (.iconst 0, 1) := by decide +kernel
theorem dX4_checksum_59 : decode cX4_checksum 59 = .ok (.istore_n 3, 1) := by decide +kernel
theorem dX4_checksum_60 : decode cX4_checksum 60 = .ok (.iload_n 3, 1) := by decide +kernel
theorem dX4_checksum_61 : decode cX4_checksum 61 = .ok (.aload_n 0, 1) := by decide +kernel
theorem dX4_checksum_62 : decode cX4_checksum 62 = .ok (.getfield 7, 3) := by decide +kernel
theorem dX4_checksum_65 : decode cX4_checksum 65 = .ok (.if_icmp .ge 42, 3) := by decide +kernel
theorem dX4_checksum_68 : decode cX4_checksum 68 = .ok (.iconst 0, 1) := by decide +kernel
theorem dX4_checksum_69 : decode cX4_checksum 69 = .ok (.istore 4, 2) := by decide +kernel
theorem dX4_checksum_71 : decode cX4_checksum 71 = .ok (.iload 4, 2) := by decide +kernel
theorem dX4_checksum_73 : decode cX4_checksum 73 = .ok (.aload_n 0, 1) := by decide +kernel
theorem dX4_checksum_74 : decode cX4_checksum 74 = .ok (.getfield 7, 3) := by decide +kernel
theorem dX4_checksum_77 : decode cX4_checksum 77 = .ok (.if_icmp .ge 24, 3) := by decide +kernel
theorem dX4_checksum_80 : decode cX4_checksum 80 = .ok (.ldc2_w 180, 3) := by decide +kernel
theorem dX4_checksum_83 : decode cX4_checksum 83 = .ok (.lload_n 1, 1) := by decide +kernel
theorem dX4_checksum_84 : decode cX4_checksum 84 = .ok (.lmul, 1) := by decide +kernel
theorem dX4_checksum_85 : decode cX4_checksum 85 = .ok (.aload_n 0, 1) := by decide +kernel
theorem dX4_checksum_86 : decode cX4_checksum 86 = .ok (.iload_n 3, 1) := by decide +kernel
theorem dX4_checksum_87 : decode cX4_checksum 87 = .ok (.iload 4, 2) := by decide +kernel
theorem dX4_checksum_89 : decode cX4_checksum 89 = .ok (.invokevirtual 75, 3) := by decide +kernel
theorem dX4_checksum_92 : decode cX4_checksum 92 = .ok (.i2l, 1) := by decide +kernel
theorem dX4_checksum_93 : decode cX4_checksum 93 = .ok (.ladd, 1) := by decide +kernel
theorem dX4_checksum_94 : decode cX4_checksum 94 = .ok (.lstore_n 1, 1) := by decide +kernel
theorem dX4_checksum_95 : decode cX4_checksum 95 = .ok (.iinc 4 1, 3) := by decide +kernel
theorem dX4_checksum_98 : decode cX4_checksum 98 = .ok (.goto (-27), 3) := by decide +kernel
theorem dX4_checksum_101 : decode cX4_checksum 101 = .ok (.iinc 3 1, 3) := by decide +kernel
theorem dX4_checksum_104 : decode cX4_checksum 104 = .ok (.goto (-44), 3) := by decide +kernel
theorem dX4_checksum_107 : decode cX4_checksum 107 = .ok (.ldc2_w 180, 3) := by decide +kernel
theorem dX4_checksum_110 : decode cX4_checksum 110 = .ok (.lload_n 1, 1) := by decide +kernel
theorem dX4_checksum_111 : decode cX4_checksum 111 = .ok (.lmul, 1) := by decide +kernel
theorem dX4_checksum_112 : decode cX4_checksum 112 = .ok (.aload_n 0, 1) := by decide +kernel
theorem dX4_checksum_113 : decode cX4_checksum 113 = .ok (.getfield 80, 3) := by decide +kernel
theorem dX4_checksum_116 : decode cX4_checksum 116 = .ok (.i2l, 1) := by decide +kernel
theorem dX4_checksum_117 : decode cX4_checksum 117 = .ok (.ladd, 1) := by decide +kernel
theorem dX4_checksum_118 : decode cX4_checksum 118 = .ok (.lstore_n 1, 1) := by decide +kernel
theorem dX4_checksum_119 : decode cX4_checksum 119 = .ok (.iconst 0, 1) := by decide +kernel
theorem dX4_checksum_120 : decode cX4_checksum 120 = .ok (.istore_n 3, 1) := by decide +kernel
theorem dX4_checksum_121 : decode cX4_checksum 121 = .ok (.iload_n 3, 1) := by decide +kernel
theorem dX4_checksum_122 : decode cX4_checksum 122 = .ok (.aload_n 0, 1) := by decide +kernel
theorem dX4_checksum_123 : decode cX4_checksum 123 = .ok (.getfield 7, 3) := by decide +kernel
theorem dX4_checksum_126 : decode cX4_checksum 126 = .ok (.if_icmp .ge 23, 3) := by decide +kernel
theorem dX4_checksum_129 : decode cX4_checksum 129 = .ok (.ldc2_w 180, 3) := by decide +kernel
theorem dX4_checksum_132 : decode cX4_checksum 132 = .ok (.lload_n 1, 1) := by decide +kernel
theorem dX4_checksum_133 : decode cX4_checksum 133 = .ok (.lmul, 1) := by decide +kernel
theorem dX4_checksum_134 : decode cX4_checksum 134 = .ok (.aload_n 0, 1) := by decide +kernel
theorem dX4_checksum_135 : decode cX4_checksum 135 = .ok (.getfield 45, 3) := by decide +kernel
theorem dX4_checksum_138 : decode cX4_checksum 138 = .ok (.iload_n 3, 1) := by decide +kernel
theorem dX4_checksum_139 : decode cX4_checksum 139 = .ok (.iaload, 1) := by decide +kernel
theorem dX4_checksum_140 : decode cX4_checksum 140 = .ok (.i2l, 1) := by decide +kernel
theorem dX4_checksum_141 : decode cX4_checksum 141 = .ok (.ladd, 1) := by decide +kernel
theorem dX4_checksum_142 : decode cX4_checksum 142 = .ok (.lstore_n 1, 1) := by decide +kernel
theorem dX4_checksum_143 : decode cX4_checksum 143 = .ok (.iinc 3 1, 3) := by decide +kernel
theorem dX4_checksum_146 : decode cX4_checksum 146 = .ok (.goto (-25), 3) := by decide +kernel
theorem dX4_checksum_149 : decode cX4_checksum 149 = .ok (.ldc2_w 180, 3) := by decide +kernel
theorem dX4_checksum_152 : decode cX4_checksum 152 = .ok (.ldc2_w 180, 3) := by decide +kernel
theorem dX4_checksum_155 : decode cX4_checksum 155 = .ok (.lload_n 1, 1) := by decide +kernel
theorem dX4_checksum_156 : decode cX4_checksum 156 = .ok (.lmul, 1) := by decide +kernel
theorem dX4_checksum_157 : decode cX4_checksum 157 = .ok (.aload_n 0, 1) := by decide +kernel
theorem dX4_checksum_158 : decode cX4_checksum 158 = .ok (.getfield 16, 3) := by decide +kernel
theorem dX4_checksum_161 : decode cX4_checksum 161 = .ok (.i2l, 1) := by decide +kernel
theorem dX4_checksum_162 : decode cX4_checksum 162 = .ok (.ladd, 1) := by decide +kernel
theorem dX4_checksum_163 : decode cX4_checksum 163 = .ok (.lmul, 1) := by decide +kernel
theorem dX4_checksum_164 : decode cX4_checksum 164 = .ok (.aload_n 0, 1) := by decide +kernel
theorem dX4_checksum_165 : decode cX4_checksum 165 = .ok (.getfield 19, 3) := by decide +kernel
theorem dX4_checksum_168 : decode cX4_checksum 168 = .ok (.i2l, 1) := by decide +kernel
theorem dX4_checksum_169 : decode cX4_checksum 169 = .ok (.ladd, 1) := by decide +kernel
theorem dX4_checksum_170 : decode cX4_checksum 170 = .ok (.lstore_n 1, 1) := by decide +kernel
theorem dX4_checksum_171 : decode cX4_checksum 171 = .ok (.iconst 0, 1) := by decide +kernel
theorem dX4_checksum_172 : decode cX4_checksum 172 = .ok (.istore_n 3, 1) := by decide +kernel
theorem dX4_checksum_173 : decode cX4_checksum 173 = .ok (.iload_n 3, 1) := by decide +kernel
theorem dX4_checksum_174 : decode cX4_checksum 174 = .ok (.aload_n 0, 1) := by decide +kernel
theorem dX4_checksum_175 : decode cX4_checksum 175 = .ok (.getfield 16, 3) := by decide +kernel
theorem dX4_checksum_178 : decode cX4_checksum 178 = .ok (.if_icmp .ge 42, 3) := by decide +kernel
theorem dX4_checksum_181 : decode cX4_checksum 181 = .ok (.iconst 0, 1) := by decide +kernel
theorem dX4_checksum_182 : decode cX4_checksum 182 = .ok (.istore 4, 2) := by decide +kernel
theorem dX4_checksum_184 : decode cX4_checksum 184 = .ok (.iload 4, 2) := by decide +kernel
theorem dX4_checksum_186 : decode cX4_checksum 186 = .ok (.aload_n 0, 1) := by decide +kernel
theorem dX4_checksum_187 : decode cX4_checksum 187 = .ok (.getfield 16, 3) := by decide +kernel
theorem dX4_checksum_190 : decode cX4_checksum 190 = .ok (.if_icmp .ge 24, 3) := by decide +kernel
theorem dX4_checksum_193 : decode cX4_checksum 193 = .ok (.ldc2_w 180, 3) := by decide +kernel
theorem dX4_checksum_196 : decode cX4_checksum 196 = .ok (.lload_n 1, 1) := by decide +kernel
theorem dX4_checksum_197 : decode cX4_checksum 197 = .ok (.lmul, 1) := by decide +kernel
theorem dX4_checksum_198 : decode cX4_checksum 198 = .ok (.aload_n 0, 1) := by decide +kernel
theorem dX4_checksum_199 : decode cX4_checksum 199 = .ok (.iload_n 3, 1) := by decide +kernel
theorem dX4_checksum_200 : decode cX4_checksum 200 = .ok (.iload 4, 2) := by decide +kernel
theorem dX4_checksum_202 : decode cX4_checksum 202 = .ok (.invokevirtual 156, 3) := by decide +kernel
theorem dX4_checksum_205 : decode cX4_checksum 205 = .ok (.i2l, 1) := by decide +kernel
theorem dX4_checksum_206 : decode cX4_checksum 206 = .ok (.ladd, 1) := by decide +kernel
theorem dX4_checksum_207 : decode cX4_checksum 207 = .ok (.lstore_n 1, 1) := by decide +kernel
theorem dX4_checksum_208 : decode cX4_checksum 208 = .ok (.iinc 4 1, 3) := by decide +kernel
theorem dX4_checksum_211 : decode cX4_checksum 211 = .ok (.goto (-27), 3) := by decide +kernel
theorem dX4_checksum_214 : decode cX4_checksum 214 = .ok (.iinc 3 1, 3) := by decide +kernel
theorem dX4_checksum_217 : decode cX4_checksum 217 = .ok (.goto (-44), 3) := by decide +kernel
theorem dX4_checksum_220 : decode cX4_checksum 220 = .ok (.lload_n 1, 1) := by decide +kernel
theorem dX4_checksum_221 : decode cX4_checksum 221 = .ok (.lreturn, 1) := by decide +kernel
theorem dX4_isSound_0 : decode cX4_isSound 0 = .ok (.aload_n 0, 1) := by decide +kernel
theorem dX4_isSound_1 : decode cX4_isSound 1 = .ok (.invokevirtual 159, 3) := by decide +kernel
theorem dX4_isSound_4 : decode cX4_isSound 4 = .ok (.iconst 0, 1) := by decide +kernel
theorem dX4_isSound_5 : decode cX4_isSound 5 = .ok (.istore_n 1, 1) := by decide +kernel
theorem dX4_isSound_6 : decode cX4_isSound 6 = .ok (.iconst 1, 1) := by decide +kernel
theorem dX4_isSound_7 : decode cX4_isSound 7 = .ok (.istore_n 2, 1) := by decide +kernel
theorem dX4_isSound_8 : decode cX4_isSound 8 = .ok (.iconst 0, 1) := by decide +kernel
theorem dX4_isSound_9 : decode cX4_isSound 9 = .ok (.istore_n 3, 1) := by decide +kernel
theorem dX4_isSound_10 : decode cX4_isSound 10 = .ok (.iload_n 3, 1) := by decide +kernel
theorem dX4_isSound_11 : decode cX4_isSound 11 = .ok (.aload_n 0, 1) := by decide +kernel
theorem dX4_isSound_12 : decode cX4_isSound 12 = .ok (.getfield 7, 3) := by decide +kernel
theorem dX4_isSound_15 : decode cX4_isSound 15 = .ok (.if_icmp .ge 83, 3) := by decide +kernel
theorem dX4_isSound_18 : decode cX4_isSound 18 = .ok (.iload_n 1, 1) := by decide +kernel
theorem dX4_isSound_19 : decode cX4_isSound 19 = .ok (.aload_n 0, 1) := by decide +kernel
theorem dX4_isSound_20 : decode cX4_isSound 20 = .ok (.getfield 54, 3) := by decide +kernel
theorem dX4_isSound_23 : decode cX4_isSound 23 = .ok (.iload_n 3, 1) := by decide +kernel
theorem dX4_isSound_24 : decode cX4_isSound 24 = .ok (.iaload, 1) := by decide +kernel
theorem dX4_isSound_25 : decode cX4_isSound 25 = .ok (.aload_n 0, 1) := by decide +kernel
theorem dX4_isSound_26 : decode cX4_isSound 26 = .ok (.getfield 57, 3) := by decide +kernel
theorem dX4_isSound_29 : decode cX4_isSound 29 = .ok (.iload_n 3, 1) := by decide +kernel
theorem dX4_isSound_30 : decode cX4_isSound 30 = .ok (.iaload, 1) := by decide +kernel
theorem dX4_isSound_31 : decode cX4_isSound 31 = .ok (.iadd, 1) := by decide +kernel
theorem dX4_isSound_32 : decode cX4_isSound 32 = .ok (.iadd, 1) := by decide +kernel
theorem dX4_isSound_33 : decode cX4_isSound 33 = .ok (.istore_n 1, 1) := by decide +kernel
theorem dX4_isSound_34 : decode cX4_isSound 34 = .ok (.iload_n 2, 1) := by decide +kernel
theorem dX4_isSound_35 : decode cX4_isSound 35 = .ok (.aload_n 0, 1) := by decide +kernel
theorem dX4_isSound_36 : decode cX4_isSound 36 = .ok (.iload_n 3, 1) := by decide +kernel
theorem dX4_isSound_37 : decode cX4_isSound 37 = .ok (.aload_n 0, 1) := by decide +kernel
theorem dX4_isSound_38 : decode cX4_isSound 38 = .ok (.getfield 45, 3) := by decide +kernel
theorem dX4_isSound_41 : decode cX4_isSound 41 = .ok (.iload_n 3, 1) := by decide +kernel
theorem dX4_isSound_42 : decode cX4_isSound 42 = .ok (.iaload, 1) := by decide +kernel
theorem dX4_isSound_43 : decode cX4_isSound 43 = .ok (.invokevirtual 162, 3) := by decide +kernel
theorem dX4_isSound_46 : decode cX4_isSound 46 = .ok (.ifCond .ne 7, 3) := by decide +kernel
theorem dX4_isSound_49 : decode cX4_isSound 49 = .ok (.iconst 1, 1) := by decide +kernel
theorem dX4_isSound_50 : decode cX4_isSound 50 = .ok (.goto 4, 3) := by decide +kernel
theorem dX4_isSound_53 : decode cX4_isSound 53 = .ok (.iconst 0, 1) := by decide +kernel
theorem dX4_isSound_54 : decode cX4_isSound 54 = .ok (.iand, 1) := by decide +kernel
theorem dX4_isSound_55 : decode cX4_isSound 55 = .ok (.istore_n 2, 1) := by decide +kernel
theorem dX4_isSound_56 : decode cX4_isSound 56 = .ok (.iconst 0, 1) := by decide +kernel
theorem dX4_isSound_57 : decode cX4_isSound 57 = .ok (.istore 4, 2) := by decide +kernel
theorem dX4_isSound_59 : decode cX4_isSound 59 = .ok (.iload 4, 2) := by decide +kernel
theorem dX4_isSound_61 : decode cX4_isSound 61 = .ok (.aload_n 0, 1) := by decide +kernel
theorem dX4_isSound_62 : decode cX4_isSound 62 = .ok (.getfield 7, 3) := by decide +kernel
theorem dX4_isSound_65 : decode cX4_isSound 65 = .ok (.if_icmp .ge 27, 3) := by decide +kernel
theorem dX4_isSound_68 : decode cX4_isSound 68 = .ok (.iload_n 2, 1) := by decide +kernel
theorem dX4_isSound_69 : decode cX4_isSound 69 = .ok (.aload_n 0, 1) := by decide +kernel
theorem dX4_isSound_70 : decode cX4_isSound 70 = .ok (.iload_n 3, 1) := by decide +kernel
theorem dX4_isSound_71 : decode cX4_isSound 71 = .ok (.iload 4, 2) := by decide +kernel
theorem dX4_isSound_73 : decode cX4_isSound 73 = .ok (.invokevirtual 162, 3) := by decide +kernel
theorem dX4_isSound_76 : decode cX4_isSound 76 = .ok (.ifCond .lt 7, 3) := by decide +kernel
theorem dX4_isSound_79 : decode cX4_isSound 79 = .ok (.iconst 1, 1) := by decide +kernel
theorem dX4_isSound_80 : decode cX4_isSound 80 = .ok (.goto 4, 3) := by decide +kernel
theorem dX4_isSound_83 : decode cX4_isSound 83 = .ok (.iconst 0, 1) := by decide +kernel
theorem dX4_isSound_84 : decode cX4_isSound 84 = .ok (.iand, 1) := by decide +kernel
theorem dX4_isSound_85 : decode cX4_isSound 85 = .ok (.istore_n 2, 1) := by decide +kernel
theorem dX4_isSound_86 : decode cX4_isSound 86 = .ok (.iinc 4 1, 3) := by decide +kernel
theorem dX4_isSound_89 : decode cX4_isSound 89 = .ok (.goto (-30), 3) := by decide +kernel
theorem dX4_isSound_92 : decode cX4_isSound 92 = .ok (.iinc 3 1, 3) := by decide +kernel
theorem dX4_isSound_95 : decode cX4_isSound 95 = .ok (.goto (-85), 3) := by decide +kernel
theorem dX4_isSound_98 : decode cX4_isSound 98 = .ok (.aload_n 0, 1) := by decide +kernel
theorem dX4_isSound_99 : decode cX4_isSound 99 = .ok (.getfield 39, 3) := by decide +kernel
theorem dX4_isSound_102 : decode cX4_isSound 102 = .ok (.iconst 0, 1) := by decide +kernel
theorem dX4_isSound_103 : decode cX4_isSound 103 = .ok (.iaload, 1) := by decide +kernel
theorem dX4_isSound_104 : decode cX4_isSound 104 = .ok (.aload_n 0, 1) := by decide +kernel
theorem dX4_isSound_105 : decode cX4_isSound 105 = .ok (.iconst 0, 1) := by decide +kernel
theorem dX4_isSound_106 : decode cX4_isSound 106 = .ok (.iconst 0, 1) := by decide +kernel
theorem dX4_isSound_107 : decode cX4_isSound 107 = .ok (.invokevirtual 165, 3) := by decide +kernel
theorem dX4_isSound_110 : decode cX4_isSound 110 = .ok (.if_icmp .ge 12, 3) := by decide +kernel
theorem dX4_isSound_113 : decode cX4_isSound 113 = .ok (.aload_n 0, 1) := by decide +kernel
theorem dX4_isSound_114 : decode cX4_isSound 114 = .ok (.getfield 39, 3) := by decide +kernel
theorem dX4_isSound_117 : decode cX4_isSound 117 = .ok (.iconst 0, 1) := by decide +kernel
theorem dX4_isSound_118 : decode cX4_isSound 118 = .ok (.iaload, 1) := by decide +kernel
theorem dX4_isSound_119 : decode cX4_isSound 119 = .ok (.goto 9, 3) := by decide +kernel
theorem dX4_isSound_122 : decode cX4_isSound 122 = .ok (.aload_n 0, 1) := by decide +kernel
theorem dX4_isSound_123 : decode cX4_isSound 123 = .ok (.iconst 0, 1) := by decide +kernel
theorem dX4_isSound_124 : decode cX4_isSound 124 = .ok (.iconst 0, 1) := by decide +kernel
theorem dX4_isSound_125 : decode cX4_isSound 125 = .ok (.invokevirtual 165, 3) := by decide +kernel
theorem dX4_isSound_128 : decode cX4_isSound 128 = .ok (.istore_n 3, 1) := by decide +kernel
theorem dX4_isSound_129 : decode cX4_isSound 129 = .ok (.iload_n 2, 1) := by decide +kernel
theorem dX4_isSound_130 : decode cX4_isSound 130 = .ok (.ifCond .eq 54, 3) := by decide +kernel
theorem dX4_isSound_133 : decode cX4_isSound 133 = .ok (.iload_n 1, 1) := by decide +kernel
theorem dX4_isSound_134 : decode cX4_isSound 134 = .ok (.aload_n 0, 1) := by decide +kernel
theorem dX4_isSound_135 : decode cX4_isSound 135 = .ok (.getfield 80, 3) := by decide +kernel
theorem dX4_isSound_138 : decode cX4_isSound 138 = .ok (.if_icmp .ne 46, 3) := by decide +kernel
theorem dX4_isSound_141 : decode cX4_isSound 141 = .ok (.iload_n 3, 1) := by decide +kernel
theorem dX4_isSound_142 : decode cX4_isSound 142 = .ok (.aload_n 0, 1) := by decide +kernel
theorem dX4_isSound_143 : decode cX4_isSound 143 = .ok (.getfield 80, 3) := by decide +kernel
theorem dX4_isSound_146 : decode cX4_isSound 146 = .ok (.if_icmp .ne 38, 3) := by decide +kernel
theorem dX4_isSound_149 : decode cX4_isSound 149 = .ok (.aload_n 0, 1) := by decide +kernel
theorem dX4_isSound_150 : decode cX4_isSound 150 = .ok (.aload_n 0, 1) := by decide +kernel
theorem dX4_isSound_151 : decode cX4_isSound 151 = .ok (.getfield 92, 3) := by decide +kernel
theorem dX4_isSound_154 : decode cX4_isSound 154 = .ok (.invokevirtual 182, 3) := by decide +kernel
theorem dX4_isSound_157 : decode cX4_isSound 157 = .ok (.ifCond .eq 27, 3) := by decide +kernel
theorem dX4_isSound_160 : decode cX4_isSound 160 = .ok (.aload_n 0, 1) := by decide +kernel
theorem dX4_isSound_161 : decode cX4_isSound 161 = .ok (.getfield 92, 3) := by decide +kernel
theorem dX4_isSound_164 : decode cX4_isSound 164 = .ok (.ifCond .eq 16, 3) := by decide +kernel
theorem dX4_isSound_167 : decode cX4_isSound 167 = .ok (.aload_n 0, 1) := by decide +kernel
theorem dX4_isSound_168 : decode cX4_isSound 168 = .ok (.aload_n 0, 1) := by decide +kernel
theorem dX4_isSound_169 : decode cX4_isSound 169 = .ok (.getfield 92, 3) := by decide +kernel
theorem dX4_isSound_172 : decode cX4_isSound 172 = .ok (.iconst 1, 1) := by decide +kernel
theorem dX4_isSound_173 : decode cX4_isSound 173 = .ok (.isub, 1) := by decide +kernel
theorem dX4_isSound_174 : decode cX4_isSound 174 = .ok (.invokevirtual 182, 3) := by decide +kernel
theorem dX4_isSound_177 : decode cX4_isSound 177 = .ok (.ifCond .ne 7, 3) := by decide +kernel
theorem dX4_isSound_180 : decode cX4_isSound 180 = .ok (.iconst 1, 1) := by decide +kernel
theorem dX4_isSound_181 : decode cX4_isSound 181 = .ok (.goto 4, 3) := by decide +kernel
theorem dX4_isSound_184 : decode cX4_isSound 184 = .ok (.iconst 0, 1) := by decide +kernel
theorem dX4_isSound_185 : decode cX4_isSound 185 = .ok (.ireturn, 1) := by decide +kernel
theorem dJ6_bitCount_0f7a4_0 : decode cJ6_bitCount_0f7a4 0 = .ok (.iload_n 0, 1) := by decide +kernel
theorem dJ6_bitCount_0f7a4_1 : decode cJ6_bitCount_0f7a4 1 = .ok (.iload_n 0, 1) := by decide +kernel
theorem dJ6_bitCount_0f7a4_2 : decode cJ6_bitCount_0f7a4 2 = .ok (.iconst 1, 1) := by decide +kernel
theorem dJ6_bitCount_0f7a4_3 : decode cJ6_bitCount_0f7a4 3 = .ok (.iushr, 1) := by decide +kernel
theorem dJ6_bitCount_0f7a4_4 : decode cJ6_bitCount_0f7a4 4 = .ok (.ldc_w 265, 3) := by decide +kernel
theorem dJ6_bitCount_0f7a4_7 : decode cJ6_bitCount_0f7a4 7 = .ok (.iand, 1) := by decide +kernel
theorem dJ6_bitCount_0f7a4_8 : decode cJ6_bitCount_0f7a4 8 = .ok (.isub, 1) := by decide +kernel
theorem dJ6_bitCount_0f7a4_9 : decode cJ6_bitCount_0f7a4 9 = .ok (.istore_n 0, 1) := by decide +kernel
theorem dJ6_bitCount_0f7a4_10 : decode cJ6_bitCount_0f7a4 10 = .ok (.iload_n 0, 1) := by decide +kernel
theorem dJ6_bitCount_0f7a4_11 : decode cJ6_bitCount_0f7a4 11 = .ok (.ldc_w 266, 3) := by decide +kernel
theorem dJ6_bitCount_0f7a4_14 : decode cJ6_bitCount_0f7a4 14 = .ok (.iand, 1) := by decide +kernel
theorem dJ6_bitCount_0f7a4_15 : decode cJ6_bitCount_0f7a4 15 = .ok (.iload_n 0, 1) := by decide +kernel
theorem dJ6_bitCount_0f7a4_16 : decode cJ6_bitCount_0f7a4 16 = .ok (.iconst 2, 1) := by decide +kernel
theorem dJ6_bitCount_0f7a4_17 : decode cJ6_bitCount_0f7a4 17 = .ok (.iushr, 1) := by decide +kernel
theorem dJ6_bitCount_0f7a4_18 : decode cJ6_bitCount_0f7a4 18 = .ok (.ldc_w 266, 3) := by decide +kernel
theorem dJ6_bitCount_0f7a4_21 : decode cJ6_bitCount_0f7a4 21 = .ok (.iand, 1) := by decide +kernel
theorem dJ6_bitCount_0f7a4_22 : decode cJ6_bitCount_0f7a4 22 = .ok (.iadd, 1) := by decide +kernel
theorem dJ6_bitCount_0f7a4_23 : decode cJ6_bitCount_0f7a4 23 = .ok (.istore_n 0, 1) := by decide +kernel
theorem dJ6_bitCount_0f7a4_24 : decode cJ6_bitCount_0f7a4 24 = .ok (.iload_n 0, 1) := by decide +kernel
theorem dJ6_bitCount_0f7a4_25 : decode cJ6_bitCount_0f7a4 25 = .ok (.iload_n 0, 1) := by decide +kernel
theorem dJ6_bitCount_0f7a4_26 : decode cJ6_bitCount_0f7a4 26 = .ok (.iconst 4, 1) := by decide +kernel
theorem dJ6_bitCount_0f7a4_27 : decode cJ6_bitCount_0f7a4 27 = .ok (.iushr, 1) := by decide +kernel
theorem dJ6_bitCount_0f7a4_28 : decode cJ6_bitCount_0f7a4 28 = .ok (.iadd, 1) := by decide +kernel
theorem dJ6_bitCount_0f7a4_29 : decode cJ6_bitCount_0f7a4 29 = .ok (.ldc_w 267, 3) := by decide +kernel
theorem dJ6_bitCount_0f7a4_32 : decode cJ6_bitCount_0f7a4 32 = .ok (.iand, 1) := by decide +kernel
theorem dJ6_bitCount_0f7a4_33 : decode cJ6_bitCount_0f7a4 33 = .ok (.istore_n 0, 1) := by decide +kernel
theorem dJ6_bitCount_0f7a4_34 : decode cJ6_bitCount_0f7a4 34 = .ok (.iload_n 0, 1) := by decide +kernel
theorem dJ6_bitCount_0f7a4_35 : decode cJ6_bitCount_0f7a4 35 = .ok (.iload_n 0, 1) := by decide +kernel
theorem dJ6_bitCount_0f7a4_36 : decode cJ6_bitCount_0f7a4 36 = .ok (.bipush 8, 2) := by decide +kernel
theorem dJ6_bitCount_0f7a4_38 : decode cJ6_bitCount_0f7a4 38 = .ok (.iushr, 1) := by decide +kernel
theorem dJ6_bitCount_0f7a4_39 : decode cJ6_bitCount_0f7a4 39 = .ok (.iadd, 1) := by decide +kernel
theorem dJ6_bitCount_0f7a4_40 : decode cJ6_bitCount_0f7a4 40 = .ok (.istore_n 0, 1) := by decide +kernel
theorem dJ6_bitCount_0f7a4_41 : decode cJ6_bitCount_0f7a4 41 = .ok (.iload_n 0, 1) := by decide +kernel
theorem dJ6_bitCount_0f7a4_42 : decode cJ6_bitCount_0f7a4 42 = .ok (.iload_n 0, 1) := by decide +kernel
theorem dJ6_bitCount_0f7a4_43 : decode cJ6_bitCount_0f7a4 43 = .ok (.bipush 16, 2) := by decide +kernel
theorem dJ6_bitCount_0f7a4_45 : decode cJ6_bitCount_0f7a4 45 = .ok (.iushr, 1) := by decide +kernel
theorem dJ6_bitCount_0f7a4_46 : decode cJ6_bitCount_0f7a4 46 = .ok (.iadd, 1) := by decide +kernel
theorem dJ6_bitCount_0f7a4_47 : decode cJ6_bitCount_0f7a4 47 = .ok (.istore_n 0, 1) := by decide +kernel
theorem dJ6_bitCount_0f7a4_48 : decode cJ6_bitCount_0f7a4 48 = .ok (.iload_n 0, 1) := by decide +kernel
theorem dJ6_bitCount_0f7a4_49 : decode cJ6_bitCount_0f7a4 49 = .ok (.bipush 63, 2) := by decide +kernel
theorem dJ6_bitCount_0f7a4_51 : decode cJ6_bitCount_0f7a4 51 = .ok (.iand, 1) := by decide +kernel
theorem dJ6_bitCount_0f7a4_52 : decode cJ6_bitCount_0f7a4 52 = .ok (.ireturn, 1) := by decide +kernel
theorem dJ9_abs_0f7a4_0 : decode cJ9_abs_0f7a4 0 = .ok (.iload_n 0, 1) := by decide +kernel
theorem dJ9_abs_0f7a4_1 : decode cJ9_abs_0f7a4 1 = .ok (.ifCond .ge 8, 3) := by decide +kernel
theorem dJ9_abs_0f7a4_4 : decode cJ9_abs_0f7a4 4 = .ok (.iload_n 0, 1) := by decide +kernel
theorem dJ9_abs_0f7a4_5 : decode cJ9_abs_0f7a4 5 = .ok (.ineg, 1) := by decide +kernel
theorem dJ9_abs_0f7a4_6 : decode cJ9_abs_0f7a4 6 = .ok (.goto 4, 3) := by decide +kernel
theorem dJ9_abs_0f7a4_9 : decode cJ9_abs_0f7a4 9 = .ok (.iload_n 0, 1) := by decide +kernel
theorem dJ9_abs_0f7a4_10 : decode cJ9_abs_0f7a4 10 = .ok (.ireturn, 1) := by decide +kernel
theorem dJ9_max_7cf53_0 : decode cJ9_max_7cf53 0 = .ok (.iload_n 0, 1) := by decide +kernel
theorem dJ9_max_7cf53_1 : decode cJ9_max_7cf53 1 = .ok (.iload_n 1, 1) := by decide +kernel
theorem dJ9_max_7cf53_2 : decode cJ9_max_7cf53 2 = .ok (.if_icmp .lt 7, 3) := by decide +kernel
theorem dJ9_max_7cf53_5 : decode cJ9_max_7cf53 5 = .ok (.iload_n 0, 1) := by decide +kernel
theorem dJ9_max_7cf53_6 : decode cJ9_max_7cf53 6 = .ok (.goto 4, 3) := by decide +kernel
theorem dJ9_max_7cf53_9 : decode cJ9_max_7cf53 9 = .ok (.iload_n 1, 1) := by decide +kernel
theorem dJ9_max_7cf53_10 : decode cJ9_max_7cf53 10 = .ok (.ireturn, 1) := by decide +kernel
theorem dJ9_min_7cf53_0 : decode cJ9_min_7cf53 0 = .ok (.iload_n 0, 1) := by decide +kernel
theorem dJ9_min_7cf53_1 : decode cJ9_min_7cf53 1 = .ok (.iload_n 1, 1) := by decide +kernel
theorem dJ9_min_7cf53_2 : decode cJ9_min_7cf53 2 = .ok (.if_icmp .gt 7, 3) := by decide +kernel
theorem dJ9_min_7cf53_5 : decode cJ9_min_7cf53 5 = .ok (.iload_n 0, 1) := by decide +kernel
theorem dJ9_min_7cf53_6 : decode cJ9_min_7cf53 6 = .ok (.goto 4, 3) := by decide +kernel
theorem dJ9_min_7cf53_9 : decode cJ9_min_7cf53 9 = .ok (.iload_n 1, 1) := by decide +kernel
theorem dJ9_min_7cf53_10 : decode cJ9_min_7cf53 10 = .ok (.ireturn, 1) := by decide +kernel
theorem dL_resize_0 : decode cL_resize 0 = .ok (.aload_n 3, 1) := by decide +kernel
theorem dL_resize_1 : decode cL_resize 1 = .ok (.iconst 0, 1) := by decide +kernel
theorem dL_resize_2 : decode cL_resize 2 = .ok (.aload_n 0, 1) := by decide +kernel
theorem dL_resize_3 : decode cL_resize 3 = .ok (.iload_n 1, 1) := by decide +kernel
theorem dL_resize_4 : decode cL_resize 4 = .ok (.iload_n 2, 1) := by decide +kernel
theorem dL_resize_5 : decode cL_resize 5 = .ok (.invokevirtual 7, 3) := by decide +kernel
theorem dL_resize_8 : decode cL_resize 8 = .ok (.i2l, 1) := by decide +kernel
theorem dL_resize_9 : decode cL_resize 9 = .ok (.lastore, 1) := by decide +kernel
theorem dL_resize_10 : decode cL_resize 10 = .ok (.goto 7, 3) := by decide +kernel
theorem dL_resize_13 : decode cL_resize 13 = .ok (.astore 4, 2) := by decide +kernel
theorem dL_resize_15 : decode cL_resize 15 = .ok (.iconst 1, 1) := by decide +kernel
theorem dL_resize_16 : decode cL_resize 16 = .ok (.ireturn, 1) := by decide +kernel
theorem dL_resize_17 : decode cL_resize 17 = .ok (.iconst 0, 1) := by decide +kernel
theorem dL_resize_18 : decode cL_resize 18 = .ok (.ireturn, 1) := by decide +kernel
theorem dL_setCost_0 : decode cL_setCost 0 = .ok (.aload 4, 2) := by decide +kernel
theorem dL_setCost_2 : decode cL_setCost 2 = .ok (.iconst 0, 1) := by decide +kernel
theorem dL_setCost_3 : decode cL_setCost 3 = .ok (.aload_n 0, 1) := by decide +kernel
theorem dL_setCost_4 : decode cL_setCost 4 = .ok (.iload_n 1, 1) := by decide +kernel
theorem dL_setCost_5 : decode cL_setCost 5 = .ok (.iload_n 2, 1) := by decide +kernel
theorem dL_setCost_6 : decode cL_setCost 6 = .ok (.iload_n 3, 1) := by decide +kernel
theorem dL_setCost_7 : decode cL_setCost 7 = .ok (.invokevirtual 15, 3) := by decide +kernel
theorem dL_setCost_10 : decode cL_setCost 10 = .ok (.i2l, 1) := by decide +kernel
theorem dL_setCost_11 : decode cL_setCost 11 = .ok (.lastore, 1) := by decide +kernel
theorem dL_setCost_12 : decode cL_setCost 12 = .ok (.goto 11, 3) := by decide +kernel
theorem dL_setCost_15 : decode cL_setCost 15 = .ok (.astore 5, 2) := by decide +kernel
theorem dL_setCost_17 : decode cL_setCost 17 = .ok (.iconst 1, 1) := by decide +kernel
theorem dL_setCost_18 : decode cL_setCost 18 = .ok (.ireturn, 1) := by decide +kernel
theorem dL_setCost_19 : decode cL_setCost 19 = .ok (.astore 5, 2) := by decide +kernel
theorem dL_setCost_21 : decode cL_setCost 21 = .ok (.iconst 2, 1) := by decide +kernel
theorem dL_setCost_22 : decode cL_setCost 22 = .ok (.ireturn, 1) := by decide +kernel
theorem dL_setCost_23 : decode cL_setCost 23 = .ok (.iconst 0, 1) := by decide +kernel
theorem dL_setCost_24 : decode cL_setCost 24 = .ok (.ireturn, 1) := by decide +kernel
theorem dL_setRow_0 : decode cL_setRow 0 = .ok (.aload 4, 2) := by decide +kernel
theorem dL_setRow_2 : decode cL_setRow 2 = .ok (.iconst 0, 1) := by decide +kernel
theorem dL_setRow_3 : decode cL_setRow 3 = .ok (.aload_n 0, 1) := by decide +kernel
theorem dL_setRow_4 : decode cL_setRow 4 = .ok (.iload_n 1, 1) := by decide +kernel
theorem dL_setRow_5 : decode cL_setRow 5 = .ok (.lload_n 2, 1) := by decide +kernel
theorem dL_setRow_6 : decode cL_setRow 6 = .ok (.invokevirtual 21, 3) := by decide +kernel
theorem dL_setRow_9 : decode cL_setRow 9 = .ok (.i2l, 1) := by decide +kernel
theorem dL_setRow_10 : decode cL_setRow 10 = .ok (.lastore, 1) := by decide +kernel
theorem dL_setRow_11 : decode cL_setRow 11 = .ok (.goto 11, 3) := by decide +kernel
theorem dL_setRow_14 : decode cL_setRow 14 = .ok (.astore 5, 2) := by decide +kernel
theorem dL_setRow_16 : decode cL_setRow 16 = .ok (.iconst 1, 1) := by decide +kernel
theorem dL_setRow_17 : decode cL_setRow 17 = .ok (.ireturn, 1) := by decide +kernel
theorem dL_setRow_18 : decode cL_setRow 18 = .ok (.astore 5, 2) := by decide +kernel
theorem dL_setRow_20 : decode cL_setRow 20 = .ok (.iconst 2, 1) := by decide +kernel
theorem dL_setRow_21 : decode cL_setRow 21 = .ok (.ireturn, 1) := by decide +kernel
theorem dL_setRow_22 : decode cL_setRow 22 = .ok (.iconst 0, 1) := by decide +kernel
theorem dL_setRow_23 : decode cL_setRow 23 = .ok (.ireturn, 1) := by decide +kernel
theorem dL_fill_0 : decode cL_fill 0 = .ok (.aload_n 3, 1) := by decide +kernel
theorem dL_fill_1 : decode cL_fill 1 = .ok (.iconst 0, 1) := by decide +kernel
theorem dL_fill_2 : decode cL_fill 2 = .ok (.aload_n 0, 1) := by decide +kernel
theorem dL_fill_3 : decode cL_fill 3 = .ok (.iload_n 1, 1) := by decide +kernel
theorem dL_fill_4 : decode cL_fill 4 = .ok (.iload_n 2, 1) := by decide +kernel
theorem dL_fill_5 : decode cL_fill 5 = .ok (.invokevirtual 25, 3) := by decide +kernel
theorem dL_fill_8 : decode cL_fill 8 = .ok (.i2l, 1) := by decide +kernel
theorem dL_fill_9 : decode cL_fill 9 = .ok (.lastore, 1) := by decide +kernel
theorem dL_fill_10 : decode cL_fill 10 = .ok (.goto 7, 3) := by decide +kernel
theorem dL_fill_13 : decode cL_fill 13 = .ok (.astore 4, 2) := by decide +kernel
theorem dL_fill_15 : decode cL_fill 15 = .ok (.iconst 1, 1) := by decide +kernel
theorem dL_fill_16 : decode cL_fill 16 = .ok (.ireturn, 1) := by decide +kernel
theorem dL_fill_17 : decode cL_fill 17 = .ok (.iconst 0, 1) := by decide +kernel
theorem dL_fill_18 : decode cL_fill 18 = .ok (.ireturn, 1) := by decide +kernel
theorem dL_setForbidden_0 : decode cL_setForbidden 0 = .ok (.aload 4, 2) := by decide +kernel
theorem dL_setForbidden_2 : decode cL_setForbidden 2 = .ok (.iconst 0, 1) := by decide +kernel
theorem dL_setForbidden_3 : decode cL_setForbidden 3 = .ok (.aload_n 0, 1) := by decide +kernel
theorem dL_setForbidden_4 : decode cL_setForbidden 4 = .ok (.iload_n 1, 1) := by decide +kernel
theorem dL_setForbidden_5 : decode cL_setForbidden 5 = .ok (.iload_n 2, 1) := by decide +kernel
theorem dL_setForbidden_6 : decode cL_setForbidden 6 = .ok (.iload_n 3, 1) := by decide +kernel
theorem dL_setForbidden_7 : decode cL_setForbidden 7 = .ok (.invokevirtual 28, 3) := by decide +kernel
theorem dL_setForbidden_10 : decode cL_setForbidden 10 = .ok (.i2l, 1) := by decide +kernel
theorem dL_setForbidden_11 : decode cL_setForbidden 11 = .ok (.lastore, 1) := by decide +kernel
theorem dL_setForbidden_12 : decode cL_setForbidden 12 = .ok (.goto 7, 3) := by decide +kernel
theorem dL_setForbidden_15 : decode cL_setForbidden 15 = .ok (.astore 5, 2) := by decide +kernel
theorem dL_setForbidden_17 : decode cL_setForbidden 17 = .ok (.iconst 1, 1) := by decide +kernel
theorem dL_setForbidden_18 : decode cL_setForbidden 18 = .ok (.ireturn, 1) := by decide +kernel
theorem dL_setForbidden_19 : decode cL_setForbidden 19 = .ok (.iconst 0, 1) := by decide +kernel
theorem dL_setForbidden_20 : decode cL_setForbidden 20 = .ok (.ireturn, 1) := by decide +kernel
theorem dL_costAt_0 : decode cL_costAt 0 = .ok (.aload_n 3, 1) := by decide +kernel
theorem dL_costAt_1 : decode cL_costAt 1 = .ok (.iconst 0, 1) := by decide +kernel
theorem dL_costAt_2 : decode cL_costAt 2 = .ok (.aload_n 0, 1) := by decide +kernel
theorem dL_costAt_3 : decode cL_costAt 3 = .ok (.iload_n 1, 1) := by decide +kernel
theorem dL_costAt_4 : decode cL_costAt 4 = .ok (.iload_n 2, 1) := by decide +kernel
theorem dL_costAt_5 : decode cL_costAt 5 = .ok (.invokevirtual 32, 3) := by decide +kernel
theorem dL_costAt_8 : decode cL_costAt 8 = .ok (.i2l, 1) := by decide +kernel
theorem dL_costAt_9 : decode cL_costAt 9 = .ok (.lastore, 1) := by decide +kernel
theorem dL_costAt_10 : decode cL_costAt 10 = .ok (.goto 7, 3) := by decide +kernel
theorem dL_costAt_13 : decode cL_costAt 13 = .ok (.astore 4, 2) := by decide +kernel
theorem dL_costAt_15 : decode cL_costAt 15 = .ok (.iconst 1, 1) := by decide +kernel
theorem dL_costAt_16 : decode cL_costAt 16 = .ok (.ireturn, 1) := by decide +kernel
theorem dL_costAt_17 : decode cL_costAt 17 = .ok (.iconst 0, 1) := by decide +kernel
theorem dL_costAt_18 : decode cL_costAt 18 = .ok (.ireturn, 1) := by decide +kernel
theorem dL_addToRow_0 : decode cL_addToRow 0 = .ok (.aload_n 3, 1) := by decide +kernel
theorem dL_addToRow_1 : decode cL_addToRow 1 = .ok (.iconst 0, 1) := by decide +kernel
theorem dL_addToRow_2 : decode cL_addToRow 2 = .ok (.aload_n 0, 1) := by decide +kernel
theorem dL_addToRow_3 : decode cL_addToRow 3 = .ok (.iload_n 1, 1) := by decide +kernel
theorem dL_addToRow_4 : decode cL_addToRow 4 = .ok (.iload_n 2, 1) := by decide +kernel
theorem dL_addToRow_5 : decode cL_addToRow 5 = .ok (.invokevirtual 35, 3) := by decide +kernel
theorem dL_addToRow_8 : decode cL_addToRow 8 = .ok (.i2l, 1) := by decide +kernel
theorem dL_addToRow_9 : decode cL_addToRow 9 = .ok (.lastore, 1) := by decide +kernel
theorem dL_addToRow_10 : decode cL_addToRow 10 = .ok (.goto 15, 3) := by decide +kernel
theorem dL_addToRow_13 : decode cL_addToRow 13 = .ok (.astore 4, 2) := by decide +kernel
theorem dL_addToRow_15 : decode cL_addToRow 15 = .ok (.iconst 1, 1) := by decide +kernel
theorem dL_addToRow_16 : decode cL_addToRow 16 = .ok (.ireturn, 1) := by decide +kernel
theorem dL_addToRow_17 : decode cL_addToRow 17 = .ok (.astore 4, 2) := by decide +kernel
theorem dL_addToRow_19 : decode cL_addToRow 19 = .ok (.iconst 2, 1) := by decide +kernel
theorem dL_addToRow_20 : decode cL_addToRow 20 = .ok (.ireturn, 1) := by decide +kernel
theorem dL_addToRow_21 : decode cL_addToRow 21 = .ok (.astore 4, 2) := by decide +kernel
theorem dL_addToRow_23 : decode cL_addToRow 23 = .ok (.iconst 3, 1) := by decide +kernel
theorem dL_addToRow_24 : decode cL_addToRow 24 = .ok (.ireturn, 1) := by decide +kernel
theorem dL_addToRow_25 : decode cL_addToRow 25 = .ok (.iconst 0, 1) := by decide +kernel
theorem dL_addToRow_26 : decode cL_addToRow 26 = .ok (.ireturn, 1) := by decide +kernel
theorem dL_addToColumn_0 : decode cL_addToColumn 0 = .ok (.aload_n 3, 1) := by decide +kernel
theorem dL_addToColumn_1 : decode cL_addToColumn 1 = .ok (.iconst 0, 1) := by decide +kernel
theorem dL_addToColumn_2 : decode cL_addToColumn 2 = .ok (.aload_n 0, 1) := by decide +kernel
theorem dL_addToColumn_3 : decode cL_addToColumn 3 = .ok (.iload_n 1, 1) := by decide +kernel
theorem dL_addToColumn_4 : decode cL_addToColumn 4 = .ok (.iload_n 2, 1) := by decide +kernel
theorem dL_addToColumn_5 : decode cL_addToColumn 5 = .ok (.invokevirtual 40, 3) := by decide +kernel
theorem dL_addToColumn_8 : decode cL_addToColumn 8 = .ok (.i2l, 1) := by decide +kernel
theorem dL_addToColumn_9 : decode cL_addToColumn 9 = .ok (.lastore, 1) := by decide +kernel
theorem dL_addToColumn_10 : decode cL_addToColumn 10 = .ok (.goto 15, 3) := by decide +kernel
theorem dL_addToColumn_13 : decode cL_addToColumn 13 = .ok (.astore 4, 2) := by decide +kernel
theorem dL_addToColumn_15 : decode cL_addToColumn 15 = .ok (.iconst 1, 1) := by decide +kernel
theorem dL_addToColumn_16 : decode cL_addToColumn 16 = .ok (.ireturn, 1) := by decide +kernel
theorem dL_addToColumn_17 : decode cL_addToColumn 17 = .ok (.astore 4, 2) := by decide +kernel
theorem dL_addToColumn_19 : decode cL_addToColumn 19 = .ok (.iconst 2, 1) := by decide +kernel
theorem dL_addToColumn_20 : decode cL_addToColumn 20 = .ok (.ireturn, 1) := by decide +kernel
theorem dL_addToColumn_21 : decode cL_addToColumn 21 = .ok (.astore 4, 2) := by decide +kernel
theorem dL_addToColumn_23 : decode cL_addToColumn 23 = .ok (.iconst 3, 1) := by decide +kernel
theorem dL_addToColumn_24 : decode cL_addToColumn 24 = .ok (.ireturn, 1) := by decide +kernel
theorem dL_addToColumn_25 : decode cL_addToColumn 25 = .ok (.iconst 0, 1) := by decide +kernel
theorem dL_addToColumn_26 : decode cL_addToColumn 26 = .ok (.ireturn, 1) := by decide +kernel
theorem dL_swapRows_0 : decode cL_swapRows 0 = .ok (.aload_n 3, 1) := by decide +kernel
theorem dL_swapRows_1 : decode cL_swapRows 1 = .ok (.iconst 0, 1) := by decide +kernel
theorem dL_swapRows_2 : decode cL_swapRows 2 = .ok (.aload_n 0, 1) := by decide +kernel
theorem dL_swapRows_3 : decode cL_swapRows 3 = .ok (.iload_n 1, 1) := by decide +kernel
theorem dL_swapRows_4 : decode cL_swapRows 4 = .ok (.iload_n 2, 1) := by decide +kernel
theorem dL_swapRows_5 : decode cL_swapRows 5 = .ok (.invokevirtual 43, 3) := by decide +kernel
theorem dL_swapRows_8 : decode cL_swapRows 8 = .ok (.i2l, 1) := by decide +kernel
theorem dL_swapRows_9 : decode cL_swapRows 9 = .ok (.lastore, 1) := by decide +kernel
theorem dL_swapRows_10 : decode cL_swapRows 10 = .ok (.goto 7, 3) := by decide +kernel
theorem dL_swapRows_13 : decode cL_swapRows 13 = .ok (.astore 4, 2) := by decide +kernel
theorem dL_swapRows_15 : decode cL_swapRows 15 = .ok (.iconst 1, 1) := by decide +kernel
theorem dL_swapRows_16 : decode cL_swapRows 16 = .ok (.ireturn, 1) := by decide +kernel
theorem dL_swapRows_17 : decode cL_swapRows 17 = .ok (.iconst 0, 1) := by decide +kernel
theorem dL_swapRows_18 : decode cL_swapRows 18 = .ok (.ireturn, 1) := by decide +kernel
theorem dL_swapColumns_0 : decode cL_swapColumns 0 = .ok (.aload_n 3, 1) := by decide +kernel
theorem dL_swapColumns_1 : decode cL_swapColumns 1 = .ok (.iconst 0, 1) := by decide +kernel
theorem dL_swapColumns_2 : decode cL_swapColumns 2 = .ok (.aload_n 0, 1) := by decide +kernel
theorem dL_swapColumns_3 : decode cL_swapColumns 3 = .ok (.iload_n 1, 1) := by decide +kernel
theorem dL_swapColumns_4 : decode cL_swapColumns 4 = .ok (.iload_n 2, 1) := by decide +kernel
theorem dL_swapColumns_5 : decode cL_swapColumns 5 = .ok (.invokevirtual 46, 3) := by decide +kernel
theorem dL_swapColumns_8 : decode cL_swapColumns 8 = .ok (.i2l, 1) := by decide +kernel
theorem dL_swapColumns_9 : decode cL_swapColumns 9 = .ok (.lastore, 1) := by decide +kernel
theorem dL_swapColumns_10 : decode cL_swapColumns 10 = .ok (.goto 7, 3) := by decide +kernel
theorem dL_swapColumns_13 : decode cL_swapColumns 13 = .ok (.astore 4, 2) := by decide +kernel
theorem dL_swapColumns_15 : decode cL_swapColumns 15 = .ok (.iconst 1, 1) := by decide +kernel
theorem dL_swapColumns_16 : decode cL_swapColumns 16 = .ok (.ireturn, 1) := by decide +kernel
theorem dL_swapColumns_17 : decode cL_swapColumns 17 = .ok (.iconst 0, 1) := by decide +kernel
theorem dL_swapColumns_18 : decode cL_swapColumns 18 = .ok (.ireturn, 1) := by decide +kernel
theorem dL_transpose_0 : decode cL_transpose 0 = .ok (.aload_n 1, 1) := by decide +kernel
theorem dL_transpose_1 : decode cL_transpose 1 = .ok (.iconst 0, 1) := by decide +kernel
theorem dL_transpose_2 : decode cL_transpose 2 = .ok (.aload_n 0, 1) := by decide +kernel
theorem dL_transpose_3 : decode cL_transpose 3 = .ok (.invokevirtual 49, 3) := by decide +kernel
theorem dL_transpose_6 : decode cL_transpose 6 = .ok (.i2l, 1) := by decide +kernel
theorem dL_transpose_7 : decode cL_transpose 7 = .ok (.lastore, 1) := by decide +kernel
theorem dL_transpose_8 : decode cL_transpose 8 = .ok (.goto 6, 3) := by decide +kernel
theorem dL_transpose_11 : decode cL_transpose 11 = .ok (.astore_n 2, 1) := by decide +kernel
theorem dL_transpose_12 : decode cL_transpose 12 = .ok (.iconst 1, 1) := by decide +kernel
theorem dL_transpose_13 : decode cL_transpose 13 = .ok (.ireturn, 1) := by decide +kernel
theorem dL_transpose_14 : decode cL_transpose 14 = .ok (.iconst 0, 1) := by decide +kernel
theorem dL_transpose_15 : decode cL_transpose 15 = .ok (.ireturn, 1) := by decide +kernel
theorem dL_assigned_0 : decode cL_assigned 0 = .ok (.aload_n 2, 1) := by decide +kernel
theorem dL_assigned_1 : decode cL_assigned 1 = .ok (.iconst 0, 1) := by decide +kernel
theorem dL_assigned_2 : decode cL_assigned 2 = .ok (.aload_n 0, 1) := by decide +kernel
theorem dL_assigned_3 : decode cL_assigned 3 = .ok (.iload_n 1, 1) := by decide +kernel
theorem dL_assigned_4 : decode cL_assigned 4 = .ok (.invokevirtual 53, 3) := by decide +kernel
theorem dL_assigned_7 : decode cL_assigned 7 = .ok (.i2l, 1) := by decide +kernel
theorem dL_assigned_8 : decode cL_assigned 8 = .ok (.lastore, 1) := by decide +kernel
theorem dL_assigned_9 : decode cL_assigned 9 = .ok (.goto 6, 3) := by decide +kernel
theorem dL_assigned_12 : decode cL_assigned 12 = .ok (.astore_n 3, 1) := by decide +kernel
theorem dL_assigned_13 : decode cL_assigned 13 = .ok (.iconst 1, 1) := by decide +kernel
theorem dL_assigned_14 : decode cL_assigned 14 = .ok (.ireturn, 1) := by decide +kernel
theorem dL_assigned_15 : decode cL_assigned 15 = .ok (.iconst 0, 1) := by decide +kernel
theorem dL_assigned_16 : decode cL_assigned 16 = .ok (.ireturn, 1) := by decide +kernel
theorem dL_rowPotential_0 : decode cL_rowPotential 0 = .ok (.aload_n 2, 1) := by decide +kernel
theorem dL_rowPotential_1 : decode cL_rowPotential 1 = .ok (.iconst 0, 1) := by decide +kernel
theorem dL_rowPotential_2 : decode cL_rowPotential 2 = .ok (.aload_n 0, 1) := by decide +kernel
theorem dL_rowPotential_3 : decode cL_rowPotential 3 = .ok (.iload_n 1, 1) := by decide +kernel
theorem dL_rowPotential_4 : decode cL_rowPotential 4 = .ok (.invokevirtual 57, 3) := by decide +kernel
theorem dL_rowPotential_7 : decode cL_rowPotential 7 = .ok (.i2l, 1) := by decide +kernel
theorem dL_rowPotential_8 : decode cL_rowPotential 8 = .ok (.lastore, 1) := by decide +kernel
theorem dL_rowPotential_9 : decode cL_rowPotential 9 = .ok (.goto 6, 3) := by decide +kernel
theorem dL_rowPotential_12 : decode cL_rowPotential 12 = .ok (.astore_n 3, 1) := by decide +kernel
theorem dL_rowPotential_13 : decode cL_rowPotential 13 = .ok (.iconst 1, 1) := by decide +kernel
theorem dL_rowPotential_14 : decode cL_rowPotential 14 = .ok (.ireturn, 1) := by decide +kernel
theorem dL_rowPotential_15 : decode cL_rowPotential 15 = .ok (.iconst 0, 1) := by decide +kernel
theorem dL_rowPotential_16 : decode cL_rowPotential 16 = .ok (.ireturn, 1) := by decide +kernel
theorem dL_columnPotential_0 : decode cL_columnPotential 0 = .ok (.aload_n 2, 1) := by decide +kernel
theorem dL_columnPotential_1 : decode cL_columnPotential 1 = .ok (.iconst 0, 1) := by decide +kernel
theorem dL_columnPotential_2 : decode cL_columnPotential 2 = .ok (.aload_n 0, 1) := by decide +kernel
theorem dL_columnPotential_3 : decode cL_columnPotential 3 = .ok (.iload_n 1, 1) := by decide +kernel
theorem dL_columnPotential_4 : decode cL_columnPotential 4 = .ok (.invokevirtual 60, 3) := by decide +kernel
theorem dL_columnPotential_7 : decode cL_columnPotential 7 = .ok (.i2l, 1) := by decide +kernel
theorem dL_columnPotential_8 : decode cL_columnPotential 8 = .ok (.lastore, 1) := by decide +kernel
theorem dL_columnPotential_9 : decode cL_columnPotential 9 = .ok (.goto 6, 3) := by decide +kernel
theorem dL_columnPotential_12 : decode cL_columnPotential 12 = .ok (.astore_n 3, 1) := by decide +kernel
theorem dL_columnPotential_13 : decode cL_columnPotential 13 = .ok (.iconst 1, 1) := by decide +kernel
theorem dL_columnPotential_14 : decode cL_columnPotential 14 = .ok (.ireturn, 1) := by decide +kernel
theorem dL_columnPotential_15 : decode cL_columnPotential 15 = .ok (.iconst 0, 1) := by decide +kernel
theorem dL_columnPotential_16 : decode cL_columnPotential 16 = .ok (.ireturn, 1) := by decide +kernel
theorem dL_reducedCost_0 : decode cL_reducedCost 0 = .ok (.aload_n 3, 1) := by decide +kernel
theorem dL_reducedCost_1 : decode cL_reducedCost 1 = .ok (.iconst 0, 1) := by decide +kernel
theorem dL_reducedCost_2 : decode cL_reducedCost 2 = .ok (.aload_n 0, 1) := by decide +kernel
theorem dL_reducedCost_3 : decode cL_reducedCost 3 = .ok (.iload_n 1, 1) := by decide +kernel
theorem dL_reducedCost_4 : decode cL_reducedCost 4 = .ok (.iload_n 2, 1) := by decide +kernel
theorem dL_reducedCost_5 : decode cL_reducedCost 5 = .ok (.invokevirtual 63, 3) := by decide +kernel
theorem dL_reducedCost_8 : decode cL_reducedCost 8 = .ok (.i2l, 1) := by decide +kernel
theorem dL_reducedCost_9 : decode cL_reducedCost 9 = .ok (.lastore, 1) := by decide +kernel
theorem dL_reducedCost_10 : decode cL_reducedCost 10 = .ok (.goto 7, 3) := by decide +kernel
theorem dL_reducedCost_13 : decode cL_reducedCost 13 = .ok (.astore 4, 2) := by decide +kernel
theorem dL_reducedCost_15 : decode cL_reducedCost 15 = .ok (.iconst 1, 1) := by decide +kernel
theorem dL_reducedCost_16 : decode cL_reducedCost 16 = .ok (.ireturn, 1) := by decide +kernel
theorem dL_reducedCost_17 : decode cL_reducedCost 17 = .ok (.iconst 0, 1) := by decide +kernel
theorem dL_reducedCost_18 : decode cL_reducedCost 18 = .ok (.ireturn, 1) := by decide +kernel
theorem dL_minimumWith_0 : decode cL_minimumWith 0 = .ok (.aload_n 3, 1) := by decide +kernel
theorem dL_minimumWith_1 : decode cL_minimumWith 1 = .ok (.iconst 0, 1) := by decide +kernel
theorem dL_minimumWith_2 : decode cL_minimumWith 2 = .ok (.aload_n 0, 1) := by decide +kernel
theorem dL_minimumWith_3 : decode cL_minimumWith 3 = .ok (.iload_n 1, 1) := by decide +kernel
theorem dL_minimumWith_4 : decode cL_minimumWith 4 = .ok (.iload_n 2, 1) := by decide +kernel
theorem dL_minimumWith_5 : decode cL_minimumWith 5 = .ok (.invokevirtual 66, 3) := by decide +kernel
theorem dL_minimumWith_8 : decode cL_minimumWith 8 = .ok (.i2l, 1) := by decide +kernel
theorem dL_minimumWith_9 : decode cL_minimumWith 9 = .ok (.lastore, 1) := by decide +kernel
theorem dL_minimumWith_10 : decode cL_minimumWith 10 = .ok (.goto 7, 3) := by decide +kernel
theorem dL_minimumWith_13 : decode cL_minimumWith 13 = .ok (.astore 4, 2) := by decide +kernel
theorem dL_minimumWith_15 : decode cL_minimumWith 15 = .ok (.iconst 1, 1) := by decide +kernel
theorem dL_minimumWith_16 : decode cL_minimumWith 16 = .ok (.ireturn, 1) := by decide +kernel
theorem dL_minimumWith_17 : decode cL_minimumWith 17 = .ok (.iconst 0, 1) := by decide +kernel
theorem dL_minimumWith_18 : decode cL_minimumWith 18 = .ok (.ireturn, 1) := by decide +kernel
theorem dL_minimumWithout_0 : decode cL_minimumWithout 0 = .ok (.aload_n 3, 1) := by decide +kernel
theorem dL_minimumWithout_1 : decode cL_minimumWithout 1 = .ok (.iconst 0, 1) := by decide +kernel
theorem dL_minimumWithout_2 : decode cL_minimumWithout 2 = .ok (.aload_n 0, 1) := by decide +kernel
theorem dL_minimumWithout_3 : decode cL_minimumWithout 3 = .ok (.iload_n 1, 1) := by decide +kernel
theorem dL_minimumWithout_4 : decode cL_minimumWithout 4 = .ok (.iload_n 2, 1) := by decide +kernel
theorem dL_minimumWithout_5 : decode cL_minimumWithout 5 = .ok (.invokevirtual 69, 3) := by decide +kernel
theorem dL_minimumWithout_8 : decode cL_minimumWithout 8 = .ok (.i2l, 1) := by decide +kernel
theorem dL_minimumWithout_9 : decode cL_minimumWithout 9 = .ok (.lastore, 1) := by decide +kernel
theorem dL_minimumWithout_10 : decode cL_minimumWithout 10 = .ok (.goto 7, 3) := by decide +kernel
theorem dL_minimumWithout_13 : decode cL_minimumWithout 13 = .ok (.astore 4, 2) := by decide +kernel
theorem dL_minimumWithout_15 : decode cL_minimumWithout 15 = .ok (.iconst 1, 1) := by decide +kernel
theorem dL_minimumWithout_16 : decode cL_minimumWithout 16 = .ok (.ireturn, 1) := by decide +kernel
theorem dL_minimumWithout_17 : decode cL_minimumWithout 17 = .ok (.iconst 0, 1) := by decide +kernel
theorem dL_minimumWithout_18 : decode cL_minimumWithout 18 = .ok (.ireturn, 1) := by decide +kernel
theorem dL_minimumIfCost_0 : decode cL_minimumIfCost 0 = .ok (.aload 4, 2) := by decide +kernel
theorem dL_minimumIfCost_2 : decode cL_minimumIfCost 2 = .ok (.iconst 0, 1) := by decide +kernel
theorem dL_minimumIfCost_3 : decode cL_minimumIfCost 3 = .ok (.aload_n 0, 1) := by decide +kernel
theorem dL_minimumIfCost_4 : decode cL_minimumIfCost 4 = .ok (.iload_n 1, 1) := by decide +kernel
theorem dL_minimumIfCost_5 : decode cL_minimumIfCost 5 = .ok (.iload_n 2, 1) := by decide +kernel
theorem dL_minimumIfCost_6 : decode cL_minimumIfCost 6 = .ok (.iload_n 3, 1) := by decide +kernel
theorem dL_minimumIfCost_7 : decode cL_minimumIfCost 7 = .ok (.invokevirtual 72, 3) := by decide +kernel
theorem dL_minimumIfCost_10 : decode cL_minimumIfCost 10 = .ok (.i2l, 1) := by decide +kernel
theorem dL_minimumIfCost_11 : decode cL_minimumIfCost 11 = .ok (.lastore, 1) := by decide +kernel
theorem dL_minimumIfCost_12 : decode cL_minimumIfCost 12 = .ok (.goto 11, 3) := by decide +kernel
theorem dL_minimumIfCost_15 : decode cL_minimumIfCost 15 = .ok (.astore 5, 2) := by decide +kernel
theorem dL_minimumIfCost_17 : decode cL_minimumIfCost 17 = .ok (.iconst 1, 1) := by decide +kernel
theorem dL_minimumIfCost_18 : decode cL_minimumIfCost 18 = .ok (.ireturn, 1) := by decide +kernel
theorem dL_minimumIfCost_19 : decode cL_minimumIfCost 19 = .ok (.astore 5, 2) := by decide +kernel
theorem dL_minimumIfCost_21 : decode cL_minimumIfCost 21 = .ok (.iconst 2, 1) := by decide +kernel
theorem dL_minimumIfCost_22 : decode cL_minimumIfCost 22 = .ok (.ireturn, 1) := by decide +kernel
theorem dL_minimumIfCost_23 : decode cL_minimumIfCost 23 = .ok (.iconst 0, 1) := by decide +kernel
theorem dL_minimumIfCost_24 : decode cL_minimumIfCost 24 = .ok (.ireturn, 1) := by decide +kernel
theorem dL_fits_0 : decode cL_fits 0 = .ok (.aload_n 2, 1) := by decide +kernel
theorem dL_fits_1 : decode cL_fits 1 = .ok (.iconst 0, 1) := by decide +kernel
theorem dL_fits_2 : decode cL_fits 2 = .ok (.aload_n 0, 1) := by decide +kernel
theorem dL_fits_3 : decode cL_fits 3 = .ok (.iload_n 1, 1) := by decide +kernel
theorem dL_fits_4 : decode cL_fits 4 = .ok (.invokevirtual 75, 3) := by decide +kernel
theorem dL_fits_7 : decode cL_fits 7 = .ok (.ifCond .eq 7, 3) := by decide +kernel
theorem dL_fits_10 : decode cL_fits 10 = .ok (.lconst 1, 1) := by decide +kernel
theorem dL_fits_11 : decode cL_fits 11 = .ok (.goto 4, 3) := by decide +kernel
theorem dL_fits_14 : decode cL_fits 14 = .ok (.lconst 0, 1) := by decide +kernel
theorem dL_fits_15 : decode cL_fits 15 = .ok (.lastore, 1) := by decide +kernel
theorem dL_fits_16 : decode cL_fits 16 = .ok (.goto 6, 3) := by decide +kernel
theorem dL_fits_19 : decode cL_fits 19 = .ok (.astore_n 3, 1) := by decide +kernel
theorem dL_fits_20 : decode cL_fits 20 = .ok (.iconst 1, 1) := by decide +kernel
theorem dL_fits_21 : decode cL_fits 21 = .ok (.ireturn, 1) := by decide +kernel
theorem dL_fits_22 : decode cL_fits 22 = .ok (.iconst 0, 1) := by decide +kernel
theorem dL_fits_23 : decode cL_fits 23 = .ok (.ireturn, 1) := by decide +kernel
theorem dL_countWithin_0 : decode cL_countWithin 0 = .ok (.aload_n 2, 1) := by decide +kernel
theorem dL_countWithin_1 : decode cL_countWithin 1 = .ok (.iconst 0, 1) := by decide +kernel
theorem dL_countWithin_2 : decode cL_countWithin 2 = .ok (.aload_n 0, 1) := by decide +kernel
theorem dL_countWithin_3 : decode cL_countWithin 3 = .ok (.iload_n 1, 1) := by decide +kernel
theorem dL_countWithin_4 : decode cL_countWithin 4 = .ok (.invokevirtual 79, 3) := by decide +kernel
theorem dL_countWithin_7 : decode cL_countWithin 7 = .ok (.i2l, 1) := by decide +kernel
theorem dL_countWithin_8 : decode cL_countWithin 8 = .ok (.lastore, 1) := by decide +kernel
theorem dL_countWithin_9 : decode cL_countWithin 9 = .ok (.goto 6, 3) := by decide +kernel
theorem dL_countWithin_12 : decode cL_countWithin 12 = .ok (.astore_n 3, 1) := by decide +kernel
theorem dL_countWithin_13 : decode cL_countWithin 13 = .ok (.iconst 1, 1) := by decide +kernel
theorem dL_countWithin_14 : decode cL_countWithin 14 = .ok (.ireturn, 1) := by decide +kernel
theorem dL_countWithin_15 : decode cL_countWithin 15 = .ok (.iconst 0, 1) := by decide +kernel
theorem dL_countWithin_16 : decode cL_countWithin 16 = .ok (.ireturn, 1) := by decide +kernel
theorem dL_sumOf_0 : decode cL_sumOf 0 = .ok (.aload_n 2, 1) := by decide +kernel
theorem dL_sumOf_1 : decode cL_sumOf 1 = .ok (.iconst 0, 1) := by decide +kernel
theorem dL_sumOf_2 : decode cL_sumOf 2 = .ok (.aload_n 0, 1) := by decide +kernel
theorem dL_sumOf_3 : decode cL_sumOf 3 = .ok (.iload_n 1, 1) := by decide +kernel
theorem dL_sumOf_4 : decode cL_sumOf 4 = .ok (.invokevirtual 82, 3) := by decide +kernel
theorem dL_sumOf_7 : decode cL_sumOf 7 = .ok (.i2l, 1) := by decide +kernel
theorem dL_sumOf_8 : decode cL_sumOf 8 = .ok (.lastore, 1) := by decide +kernel
theorem dL_sumOf_9 : decode cL_sumOf 9 = .ok (.goto 6, 3) := by decide +kernel
theorem dL_sumOf_12 : decode cL_sumOf 12 = .ok (.astore_n 3, 1) := by decide +kernel
theorem dL_sumOf_13 : decode cL_sumOf 13 = .ok (.iconst 1, 1) := by decide +kernel
theorem dL_sumOf_14 : decode cL_sumOf 14 = .ok (.ireturn, 1) := by decide +kernel
theorem dL_sumOf_15 : decode cL_sumOf 15 = .ok (.iconst 0, 1) := by decide +kernel
theorem dL_sumOf_16 : decode cL_sumOf 16 = .ok (.ireturn, 1) := by decide +kernel
theorem dL_startEnumeration_0 : decode cL_startEnumeration 0 = .ok (.aload_n 1, 1) := by decide +kernel
theorem dL_startEnumeration_1 : decode cL_startEnumeration 1 = .ok (.iconst 0, 1) := by decide +kernel
theorem dL_startEnumeration_2 : decode cL_startEnumeration 2 = .ok (.aload_n 0, 1) := by decide +kernel
theorem dL_startEnumeration_3 : decode cL_startEnumeration 3 = .ok (.invokevirtual 85, 3) := by decide +kernel
theorem dL_startEnumeration_6 : decode cL_startEnumeration 6 = .ok (.i2l, 1) := by decide +kernel
theorem dL_startEnumeration_7 : decode cL_startEnumeration 7 = .ok (.lastore, 1) := by decide +kernel
theorem dL_startEnumeration_8 : decode cL_startEnumeration 8 = .ok (.goto 6, 3) := by decide +kernel
theorem dL_startEnumeration_11 : decode cL_startEnumeration 11 = .ok (.astore_n 2, 1) := by decide +kernel
theorem dL_startEnumeration_12 : decode cL_startEnumeration 12 = .ok (.iconst 1, 1) := by decide +kernel
theorem dL_startEnumeration_13 : decode cL_startEnumeration 13 = .ok (.ireturn, 1) := by decide +kernel
theorem dL_startEnumeration_14 : decode cL_startEnumeration 14 = .ok (.iconst 0, 1) := by decide +kernel
theorem dL_startEnumeration_15 : decode cL_startEnumeration 15 = .ok (.ireturn, 1) := by decide +kernel
theorem dL_nextSum_0 : decode cL_nextSum 0 = .ok (.aload_n 1, 1) := by decide +kernel
theorem dL_nextSum_1 : decode cL_nextSum 1 = .ok (.iconst 0, 1) := by decide +kernel
theorem dL_nextSum_2 : decode cL_nextSum 2 = .ok (.aload_n 0, 1) := by decide +kernel
theorem dL_nextSum_3 : decode cL_nextSum 3 = .ok (.invokevirtual 88, 3) := by decide +kernel
theorem dL_nextSum_6 : decode cL_nextSum 6 = .ok (.i2l, 1) := by decide +kernel
theorem dL_nextSum_7 : decode cL_nextSum 7 = .ok (.lastore, 1) := by decide +kernel
theorem dL_nextSum_8 : decode cL_nextSum 8 = .ok (.goto 9, 3) := by decide +kernel
theorem dL_nextSum_11 : decode cL_nextSum 11 = .ok (.astore_n 2, 1) := by decide +kernel
theorem dL_nextSum_12 : decode cL_nextSum 12 = .ok (.iconst 1, 1) := by decide +kernel
theorem dL_nextSum_13 : decode cL_nextSum 13 = .ok (.ireturn, 1) := by decide +kernel
theorem dL_nextSum_14 : decode cL_nextSum 14 = .ok (.astore_n 2, 1) := by decide +kernel
theorem dL_nextSum_15 : decode cL_nextSum 15 = .ok (.iconst 2, 1) := by decide +kernel
theorem dL_nextSum_16 : decode cL_nextSum 16 = .ok (.ireturn, 1) := by decide +kernel
theorem dL_nextSum_17 : decode cL_nextSum 17 = .ok (.iconst 0, 1) := by decide +kernel
theorem dL_nextSum_18 : decode cL_nextSum 18 = .ok (.ireturn, 1) := by decide +kernel
theorem dL_currentColumn_0 : decode cL_currentColumn 0 = .ok (.aload_n 2, 1) := by decide +kernel
theorem dL_currentColumn_1 : decode cL_currentColumn 1 = .ok (.iconst 0, 1) := by decide +kernel
theorem dL_currentColumn_2 : decode cL_currentColumn 2 = .ok (.aload_n 0, 1) := by decide +kernel
theorem dL_currentColumn_3 : decode cL_currentColumn 3 = .ok (.iload_n 1, 1) := by decide +kernel
theorem dL_currentColumn_4 : decode cL_currentColumn 4 = .ok (.invokevirtual 93, 3) := by decide +kernel
theorem dL_currentColumn_7 : decode cL_currentColumn 7 = .ok (.i2l, 1) := by decide +kernel
theorem dL_currentColumn_8 : decode cL_currentColumn 8 = .ok (.lastore, 1) := by decide +kernel
theorem dL_currentColumn_9 : decode cL_currentColumn 9 = .ok (.goto 9, 3) := by decide +kernel
theorem dL_currentColumn_12 : decode cL_currentColumn 12 = .ok (.astore_n 3, 1) := by decide +kernel
theorem dL_currentColumn_13 : decode cL_currentColumn 13 = .ok (.iconst 1, 1) := by decide +kernel
theorem dL_currentColumn_14 : decode cL_currentColumn 14 = .ok (.ireturn, 1) := by decide +kernel
theorem dL_currentColumn_15 : decode cL_currentColumn 15 = .ok (.astore_n 3, 1) := by decide +kernel
theorem dL_currentColumn_16 : decode cL_currentColumn 16 = .ok (.iconst 2, 1) := by decide +kernel
theorem dL_currentColumn_17 : decode cL_currentColumn 17 = .ok (.ireturn, 1) := by decide +kernel
theorem dL_currentColumn_18 : decode cL_currentColumn 18 = .ok (.iconst 0, 1) := by decide +kernel
theorem dL_currentColumn_19 : decode cL_currentColumn 19 = .ok (.ireturn, 1) := by decide +kernel
theorem dL_shareOf_0 : decode cL_shareOf 0 = .ok (.aload_n 2, 1) := by decide +kernel
theorem dL_shareOf_1 : decode cL_shareOf 1 = .ok (.iconst 0, 1) := by decide +kernel
theorem dL_shareOf_2 : decode cL_shareOf 2 = .ok (.aload_n 0, 1) := by decide +kernel
theorem dL_shareOf_3 : decode cL_shareOf 3 = .ok (.iload_n 1, 1) := by decide +kernel
theorem dL_shareOf_4 : decode cL_shareOf 4 = .ok (.invokevirtual 96, 3) := by decide +kernel
theorem dL_shareOf_7 : decode cL_shareOf 7 = .ok (.f2d, 1) := by decide +kernel
theorem dL_shareOf_8 : decode cL_shareOf 8 = .ok (.dastore, 1) := by decide +kernel
theorem dL_shareOf_9 : decode cL_shareOf 9 = .ok (.goto 6, 3) := by decide +kernel
theorem dL_shareOf_12 : decode cL_shareOf 12 = .ok (.astore_n 3, 1) := by decide +kernel
theorem dL_shareOf_13 : decode cL_shareOf 13 = .ok (.iconst 1, 1) := by decide +kernel
theorem dL_shareOf_14 : decode cL_shareOf 14 = .ok (.ireturn, 1) := by decide +kernel
theorem dL_shareOf_15 : decode cL_shareOf 15 = .ok (.iconst 0, 1) := by decide +kernel
theorem dL_shareOf_16 : decode cL_shareOf 16 = .ok (.ireturn, 1) := by decide +kernel
theorem dL_law_0 : decode cL_law 0 = .ok (.new 8, 3) := by decide +kernel
theorem dL_law_3 : decode cL_law 3 = .ok (.dup, 1) := by decide +kernel
theorem dL_law_4 : decode cL_law 4 = .ok (.invokespecial 100, 3) := by decide +kernel
theorem dL_law_7 : decode cL_law 7 = .ok (.astore_n 1, 1) := by decide +kernel
theorem dL_law_8 : decode cL_law 8 = .ok (.new 101, 3) := by decide +kernel
theorem dL_law_11 : decode cL_law 11 = .ok (.dup, 1) := by decide +kernel
theorem dL_law_12 : decode cL_law 12 = .ok (.invokespecial 103, 3) := by decide +kernel
theorem dL_law_15 : decode cL_law 15 = .ok (.astore_n 2, 1) := by decide +kernel
theorem dL_law_16 : decode cL_law 16 = .ok (.iconst 1, 1) := by decide +kernel
theorem dL_law_17 : decode cL_law 17 = .ok (.newarray .long, 2) := by decide +kernel
theorem dL_law_19 : decode cL_law 19 = .ok (.astore_n 3, 1) := by decide +kernel
theorem dL_law_20 : decode cL_law 20 = .ok (.iconst 1, 1) := by decide +kernel
theorem dL_law_21 : decode cL_law 21 = .ok (.newarray .double, 2) := by decide +kernel
theorem dL_law_23 : decode cL_law 23 = .ok (.astore 4, 2) := by decide +kernel
theorem dL_law_25 : decode cL_law 25 = .ok (.iconst 0, 1) := by decide +kernel
theorem dL_law_26 : decode cL_law 26 = .ok (.istore 5, 2) := by decide +kernel
theorem dL_law_28 : decode cL_law 28 = .ok (.iload 5, 2) := by decide +kernel
theorem dL_law_30 : decode cL_law 30 = .ok (.aload_n 0, 1) := by decide +kernel
theorem dL_law_31 : decode cL_law 31 = .ok (.arraylength, 1) := by decide +kernel
theorem dL_law_32 : decode cL_law 32 = .ok (.iconst 4, 1) := by decide +kernel
theorem dL_law_33 : decode cL_law 33 = .ok (.isub, 1) := by decide +kernel
theorem dL_law_34 : decode cL_law 34 = .ok (.if_icmp .gt 2095, 3) := by decide +kernel
theorem dL_law_37 : decode cL_law 37 = .ok (.aload_n 0, 1) := by decide +kernel
theorem dL_law_38 : decode cL_law 38 = .ok (.iload 5, 2) := by decide +kernel
theorem dL_law_40 : decode cL_law 40 = .ok (.iaload, 1) := by decide +kernel
theorem dL_law_41 : decode cL_law 41 = .ok (.bipush 63, 2) := by decide +kernel
theorem dL_law_43 : decode cL_law 43 = .ok (.iand, 1) := by decide +kernel
theorem dL_law_44 : decode cL_law 44 = .ok (.tableswitch 2079 0 41 #[184, 252, 332, 432, 500, 596, 664, 732, 800, 868, 936, 980, 993, 1006, 1019, 1032, 1045, 1058, 1071, 1084, 1097, 1153, 1166, 1222, 1278, 1346, 1414, 1482, 1562, 1575, 1588, 1601, 1664, 1720, 1776, 1820, 1864, 1920, 1933, 1974, 2052, 2066], 184) := by decide +kernel
theorem dL_law_228 : decode cL_law 228 = .ok (.aload_n 1, 1) := by decide +kernel
theorem dL_law_229 : decode cL_law 229 = .ok (.aload_n 0, 1) := by decide +kernel
theorem dL_law_230 : decode cL_law 230 = .ok (.iload 5, 2) := by decide +kernel
theorem dL_law_232 : decode cL_law 232 = .ok (.iconst 1, 1) := by decide +kernel
theorem dL_law_233 : decode cL_law 233 = .ok (.iadd, 1) := by decide +kernel
theorem dL_law_234 : decode cL_law 234 = .ok (.iaload, 1) := by decide +kernel
theorem dL_law_235 : decode cL_law 235 = .ok (.aload_n 0, 1) := by decide +kernel
theorem dL_law_236 : decode cL_law 236 = .ok (.iload 5, 2) := by decide +kernel
theorem dL_law_238 : decode cL_law 238 = .ok (.iconst 2, 1) := by decide +kernel
theorem dL_law_239 : decode cL_law 239 = .ok (.iadd, 1) := by decide +kernel
theorem dL_law_240 : decode cL_law 240 = .ok (.iaload, 1) := by decide +kernel
theorem dL_law_241 : decode cL_law 241 = .ok (.aload_n 3, 1) := by decide +kernel
theorem dL_law_242 : decode cL_law 242 = .ok (.invokestatic 104, 3) := by decide +kernel
theorem dL_law_245 : decode cL_law 245 = .ok (.istore 6, 2) := by decide +kernel
theorem dL_law_247 : decode cL_law 247 = .ok (.aload_n 2, 1) := by decide +kernel
theorem dL_law_248 : decode cL_law 248 = .ok (.aload_n 0, 1) := by decide +kernel
theorem dL_law_249 : decode cL_law 249 = .ok (.iload 5, 2) := by decide +kernel
theorem dL_law_251 : decode cL_law 251 = .ok (.iconst 1, 1) := by decide +kernel
theorem dL_law_252 : decode cL_law 252 = .ok (.iadd, 1) := by decide +kernel
theorem dL_law_253 : decode cL_law 253 = .ok (.iaload, 1) := by decide +kernel
theorem dL_law_254 : decode cL_law 254 = .ok (.aload_n 0, 1) := by decide +kernel
theorem dL_law_255 : decode cL_law 255 = .ok (.iload 5, 2) := by decide +kernel
theorem dL_law_257 : decode cL_law 257 = .ok (.iconst 2, 1) := by decide +kernel
theorem dL_law_258 : decode cL_law 258 = .ok (.iadd, 1) := by decide +kernel
theorem dL_law_259 : decode cL_law 259 = .ok (.iaload, 1) := by decide +kernel
theorem dL_law_260 : decode cL_law 260 = .ok (.invokevirtual 109, 3) := by decide +kernel
theorem dL_law_263 : decode cL_law 263 = .ok (.istore 7, 2) := by decide +kernel
theorem dL_law_265 : decode cL_law 265 = .ok (.aload_n 2, 1) := by decide +kernel
theorem dL_law_266 : decode cL_law 266 = .ok (.invokevirtual 110, 3) := by decide +kernel
theorem dL_law_269 : decode cL_law 269 = .ok (.iload 6, 2) := by decide +kernel
theorem dL_law_271 : decode cL_law 271 = .ok (.if_icmp .eq 5, 3) := by decide +kernel
theorem dL_law_274 : decode cL_law 274 = .ok (.iconst 0, 1) := by decide +kernel
theorem dL_law_275 : decode cL_law 275 = .ok (.ireturn, 1) := by decide +kernel
theorem dL_law_276 : decode cL_law 276 = .ok (.iload 6, 2) := by decide +kernel
theorem dL_law_278 : decode cL_law 278 = .ok (.ifCond .ne 15, 3) := by decide +kernel
theorem dL_law_281 : decode cL_law 281 = .ok (.aload_n 3, 1) := by decide +kernel
theorem dL_law_282 : decode cL_law 282 = .ok (.iconst 0, 1) := by decide +kernel
theorem dL_law_283 : decode cL_law 283 = .ok (.laload, 1) := by decide +kernel
theorem dL_law_284 : decode cL_law 284 = .ok (.iload 7, 2) := by decide +kernel
theorem dL_law_286 : decode cL_law 286 = .ok (.i2l, 1) := by decide +kernel
theorem dL_law_287 : decode cL_law 287 = .ok (.lcmp, 1) := by decide +kernel
theorem dL_law_288 : decode cL_law 288 = .ok (.ifCond .eq 5, 3) := by decide +kernel
theorem dL_law_291 : decode cL_law 291 = .ok (.iconst 0, 1) := by decide +kernel
theorem dL_law_292 : decode cL_law 292 = .ok (.ireturn, 1) := by decide +kernel
theorem dL_law_293 : decode cL_law 293 = .ok (.goto 1830, 3) := by decide +kernel
theorem dL_law_296 : decode cL_law 296 = .ok (.aload_n 1, 1) := by decide +kernel
theorem dL_law_297 : decode cL_law 297 = .ok (.aload_n 0, 1) := by decide +kernel
theorem dL_law_298 : decode cL_law 298 = .ok (.iload 5, 2) := by decide +kernel
theorem dL_law_300 : decode cL_law 300 = .ok (.iconst 1, 1) := by decide +kernel
theorem dL_law_301 : decode cL_law 301 = .ok (.iadd, 1) := by decide +kernel
theorem dL_law_302 : decode cL_law 302 = .ok (.iaload, 1) := by decide +kernel
theorem dL_law_303 : decode cL_law 303 = .ok (.aload_n 0, 1) := by decide +kernel
theorem dL_law_304 : decode cL_law 304 = .ok (.iload 5, 2) := by decide +kernel
theorem dL_law_306 : decode cL_law 306 = .ok (.iconst 2, 1) := by decide +kernel
theorem dL_law_307 : decode cL_law 307 = .ok (.iadd, 1) := by decide +kernel
theorem dL_law_308 : decode cL_law 308 = .ok (.iaload, 1) := by decide +kernel
theorem dL_law_309 : decode cL_law 309 = .ok (.aload_n 0, 1) := by decide +kernel
theorem dL_law_310 : decode cL_law 310 = .ok (.iload 5, 2) := by decide +kernel
theorem dL_law_312 : decode cL_law 312 = .ok (.iconst 3, 1) := by decide +kernel
theorem dL_law_313 : decode cL_law 313 = .ok (.iadd, 1) := by decide +kernel
theorem dL_law_314 : decode cL_law 314 = .ok (.iaload, 1) := by decide +kernel
theorem dL_law_315 : decode cL_law 315 = .ok (.aload_n 3, 1) := by decide +kernel
theorem dL_law_316 : decode cL_law 316 = .ok (.invokestatic 113, 3) := by decide +kernel
theorem dL_law_319 : decode cL_law 319 = .ok (.istore 6, 2) := by decide +kernel
theorem dL_law_321 : decode cL_law 321 = .ok (.aload_n 2, 1) := by decide +kernel
theorem dL_law_322 : decode cL_law 322 = .ok (.aload_n 0, 1) := by decide +kernel
theorem dL_law_323 : decode cL_law 323 = .ok (.iload 5, 2) := by decide +kernel
theorem dL_law_325 : decode cL_law 325 = .ok (.iconst 1, 1) := by decide +kernel
theorem dL_law_326 : decode cL_law 326 = .ok (.iadd, 1) := by decide +kernel
theorem dL_law_327 : decode cL_law 327 = .ok (.iaload, 1) := by decide +kernel
theorem dL_law_328 : decode cL_law 328 = .ok (.aload_n 0, 1) := by decide +kernel
theorem dL_law_329 : decode cL_law 329 = .ok (.iload 5, 2) := by decide +kernel
theorem dL_law_331 : decode cL_law 331 = .ok (.iconst 2, 1) := by decide +kernel
theorem dL_law_332 : decode cL_law 332 = .ok (.iadd, 1) := by decide +kernel
theorem dL_law_333 : decode cL_law 333 = .ok (.iaload, 1) := by decide +kernel
theorem dL_law_334 : decode cL_law 334 = .ok (.aload_n 0, 1) := by decide +kernel
theorem dL_law_335 : decode cL_law 335 = .ok (.iload 5, 2) := by decide +kernel
theorem dL_law_337 : decode cL_law 337 = .ok (.iconst 3, 1) := by decide +kernel
theorem dL_law_338 : decode cL_law 338 = .ok (.iadd, 1) := by decide +kernel
theorem dL_law_339 : decode cL_law 339 = .ok (.iaload, 1) := by decide +kernel
theorem dL_law_340 : decode cL_law 340 = .ok (.invokevirtual 116, 3) := by decide +kernel
theorem dL_law_343 : decode cL_law 343 = .ok (.istore 7, 2) := by decide +kernel
theorem dL_law_345 : decode cL_law 345 = .ok (.aload_n 2, 1) := by decide +kernel
theorem dL_law_346 : decode cL_law 346 = .ok (.invokevirtual 110, 3) := by decide +kernel
theorem dL_law_349 : decode cL_law 349 = .ok (.iload 6, 2) := by decide +kernel
theorem dL_law_351 : decode cL_law 351 = .ok (.if_icmp .eq 5, 3) := by decide +kernel
theorem dL_law_354 : decode cL_law 354 = .ok (.iconst 0, 1) := by decide +kernel
theorem dL_law_355 : decode cL_law 355 = .ok (.ireturn, 1) := by decide +kernel
theorem dL_law_356 : decode cL_law 356 = .ok (.iload 6, 2) := by decide +kernel
theorem dL_law_358 : decode cL_law 358 = .ok (.ifCond .ne 15, 3) := by decide +kernel
theorem dL_law_361 : decode cL_law 361 = .ok (.aload_n 3, 1) := by decide +kernel
theorem dL_law_362 : decode cL_law 362 = .ok (.iconst 0, 1) := by decide +kernel
theorem dL_law_363 : decode cL_law 363 = .ok (.laload, 1) := by decide +kernel
theorem dL_law_364 : decode cL_law 364 = .ok (.iload 7, 2) := by decide +kernel
theorem dL_law_366 : decode cL_law 366 = .ok (.i2l, 1) := by decide +kernel
theorem dL_law_367 : decode cL_law 367 = .ok (.lcmp, 1) := by decide +kernel
theorem dL_law_368 : decode cL_law 368 = .ok (.ifCond .eq 5, 3) := by decide +kernel
theorem dL_law_371 : decode cL_law 371 = .ok (.iconst 0, 1) := by decide +kernel
theorem dL_law_372 : decode cL_law 372 = .ok (.ireturn, 1) := by decide +kernel
theorem dL_law_373 : decode cL_law 373 = .ok (.goto 1750, 3) := by decide +kernel
theorem dL_law_376 : decode cL_law 376 = .ok (.aload_n 1, 1) := by decide +kernel
theorem dL_law_377 : decode cL_law 377 = .ok (.aload_n 0, 1) := by decide +kernel
theorem dL_law_378 : decode cL_law 378 = .ok (.iload 5, 2) := by decide +kernel
theorem dL_law_380 : decode cL_law 380 = .ok (.iconst 1, 1) := by decide +kernel
theorem dL_law_381 : decode cL_law 381 = .ok (.iadd, 1) := by decide +kernel
theorem dL_law_382 : decode cL_law 382 = .ok (.iaload, 1) := by decide +kernel
theorem dL_law_383 : decode cL_law 383 = .ok (.aload_n 0, 1) := by decide +kernel
theorem dL_law_384 : decode cL_law 384 = .ok (.iload 5, 2) := by decide +kernel
theorem dL_law_386 : decode cL_law 386 = .ok (.iconst 2, 1) := by decide +kernel
theorem dL_law_387 : decode cL_law 387 = .ok (.iadd, 1) := by decide +kernel
theorem dL_law_388 : decode cL_law 388 = .ok (.iaload, 1) := by decide +kernel
theorem dL_law_389 : decode cL_law 389 = .ok (.i2l, 1) := by decide +kernel
theorem dL_law_390 : decode cL_law 390 = .ok (.bipush 32, 2) := by decide +kernel
theorem dL_law_392 : decode cL_law 392 = .ok (.lshl, 1) := by decide +kernel
theorem dL_law_393 : decode cL_law 393 = .ok (.aload_n 0, 1) := by decide +kernel
theorem dL_law_394 : decode cL_law 394 = .ok (.iload 5, 2) := by decide +kernel
theorem dL_law_396 : decode cL_law 396 = .ok (.iconst 3, 1) := by decide +kernel
theorem dL_law_397 : decode cL_law 397 = .ok (.iadd, 1) := by decide +kernel
theorem dL_law_398 : decode cL_law 398 = .ok (.iaload, 1) := by decide +kernel
theorem dL_law_399 : decode cL_law 399 = .ok (.i2l, 1) := by decide +kernel
theorem dL_law_400 : decode cL_law 400 = .ok (.ldc2_w 117, 3) := by decide +kernel
theorem dL_law_403 : decode cL_law 403 = .ok (.land, 1) := by decide +kernel
theorem dL_law_404 : decode cL_law 404 = .ok (.lor, 1) := by decide +kernel
theorem dL_law_405 : decode cL_law 405 = .ok (.aload_n 3, 1) := by decide +kernel
theorem dL_law_406 : decode cL_law 406 = .ok (.invokestatic 119, 3) := by decide +kernel
theorem dL_law_409 : decode cL_law 409 = .ok (.istore 6, 2) := by decide +kernel
theorem dL_law_411 : decode cL_law 411 = .ok (.aload_n 2, 1) := by decide +kernel
theorem dL_law_412 : decode cL_law 412 = .ok (.aload_n 0, 1) := by decide +kernel
theorem dL_law_413 : decode cL_law 413 = .ok (.iload 5, 2) := by decide +kernel
theorem dL_law_415 : decode cL_law 415 = .ok (.iconst 1, 1) := by decide +kernel
theorem dL_law_416 : decode cL_law 416 = .ok (.iadd, 1) := by decide +kernel
theorem dL_law_417 : decode cL_law 417 = .ok (.iaload, 1) := by decide +kernel
theorem dL_law_418 : decode cL_law 418 = .ok (.aload_n 0, 1) := by decide +kernel
theorem dL_law_419 : decode cL_law 419 = .ok (.iload 5, 2) := by decide +kernel
theorem dL_law_421 : decode cL_law 421 = .ok (.iconst 2, 1) := by decide +kernel
theorem dL_law_422 : decode cL_law 422 = .ok (.iadd, 1) := by decide +kernel
theorem dL_law_423 : decode cL_law 423 = .ok (.iaload, 1) := by decide +kernel
theorem dL_law_424 : decode cL_law 424 = .ok (.i2l, 1) := by decide +kernel
theorem dL_law_425 : decode cL_law 425 = .ok (.bipush 32, 2) := by decide +kernel
theorem dL_law_427 : decode cL_law 427 = .ok (.lshl, 1) := by decide +kernel
theorem dL_law_428 : decode cL_law 428 = .ok (.aload_n 0, 1) := by decide +kernel
theorem dL_law_429 : decode cL_law 429 = .ok (.iload 5, 2) := by decide +kernel
theorem dL_law_431 : decode cL_law 431 = .ok (.iconst 3, 1) := by decide +kernel
theorem dL_law_432 : decode cL_law 432 = .ok (.iadd, 1) := by decide +kernel
theorem dL_law_433 : decode cL_law 433 = .ok (.iaload, 1) := by decide +kernel
theorem dL_law_434 : decode cL_law 434 = .ok (.i2l, 1) := by decide +kernel
theorem dL_law_435 : decode cL_law 435 = .ok (.ldc2_w 117, 3) := by decide +kernel
theorem dL_law_438 : decode cL_law 438 = .ok (.land, 1) := by decide +kernel
theorem dL_law_439 : decode cL_law 439 = .ok (.lor, 1) := by decide +kernel
theorem dL_law_440 : decode cL_law 440 = .ok (.invokevirtual 122, 3) := by decide +kernel
theorem dL_law_443 : decode cL_law 443 = .ok (.istore 7, 2) := by decide +kernel
theorem dL_law_445 : decode cL_law 445 = .ok (.aload_n 2, 1) := by decide +kernel
theorem dL_law_446 : decode cL_law 446 = .ok (.invokevirtual 110, 3) := by decide +kernel
theorem dL_law_449 : decode cL_law 449 = .ok (.iload 6, 2) := by decide +kernel
theorem dL_law_451 : decode cL_law 451 = .ok (.if_icmp .eq 5, 3) := by decide +kernel
theorem dL_law_454 : decode cL_law 454 = .ok (.iconst 0, 1) := by decide +kernel
theorem dL_law_455 : decode cL_law 455 = .ok (.ireturn, 1) := by decide +kernel
theorem dL_law_456 : decode cL_law 456 = .ok (.iload 6, 2) := by decide +kernel
theorem dL_law_458 : decode cL_law 458 = .ok (.ifCond .ne 15, 3) := by decide +kernel
theorem dL_law_461 : decode cL_law 461 = .ok (.aload_n 3, 1) := by decide +kernel
theorem dL_law_462 : decode cL_law 462 = .ok (.iconst 0, 1) := by decide +kernel
theorem dL_law_463 : decode cL_law 463 = .ok (.laload, 1) := by decide +kernel
theorem dL_law_464 : decode cL_law 464 = .ok (.iload 7, 2) := by decide +kernel
theorem dL_law_466 : decode cL_law 466 = .ok (.i2l, 1) := by decide +kernel
theorem dL_law_467 : decode cL_law 467 = .ok (.lcmp, 1) := by decide +kernel
theorem dL_law_468 : decode cL_law 468 = .ok (.ifCond .eq 5, 3) := by decide +kernel
theorem dL_law_471 : decode cL_law 471 = .ok (.iconst 0, 1) := by decide +kernel
theorem dL_law_472 : decode cL_law 472 = .ok (.ireturn, 1) := by decide +kernel
theorem dL_law_473 : decode cL_law 473 = .ok (.goto 1650, 3) := by decide +kernel
theorem dL_law_476 : decode cL_law 476 = .ok (.aload_n 1, 1) := by decide +kernel
theorem dL_law_477 : decode cL_law 477 = .ok (.aload_n 0, 1) := by decide +kernel
theorem dL_law_478 : decode cL_law 478 = .ok (.iload 5, 2) := by decide +kernel
theorem dL_law_480 : decode cL_law 480 = .ok (.iconst 1, 1) := by decide +kernel
theorem dL_law_481 : decode cL_law 481 = .ok (.iadd, 1) := by decide +kernel
theorem dL_law_482 : decode cL_law 482 = .ok (.iaload, 1) := by decide +kernel
theorem dL_law_483 : decode cL_law 483 = .ok (.aload_n 0, 1) := by decide +kernel
theorem dL_law_484 : decode cL_law 484 = .ok (.iload 5, 2) := by decide +kernel
theorem dL_law_486 : decode cL_law 486 = .ok (.iconst 2, 1) := by decide +kernel
theorem dL_law_487 : decode cL_law 487 = .ok (.iadd, 1) := by decide +kernel
theorem dL_law_488 : decode cL_law 488 = .ok (.iaload, 1) := by decide +kernel
theorem dL_law_489 : decode cL_law 489 = .ok (.aload_n 3, 1) := by decide +kernel
theorem dL_law_490 : decode cL_law 490 = .ok (.invokestatic 123, 3) := by decide +kernel
theorem dL_law_493 : decode cL_law 493 = .ok (.istore 6, 2) := by decide +kernel
theorem dL_law_495 : decode cL_law 495 = .ok (.aload_n 2, 1) := by decide +kernel
theorem dL_law_496 : decode cL_law 496 = .ok (.aload_n 0, 1) := by decide +kernel
theorem dL_law_497 : decode cL_law 497 = .ok (.iload 5, 2) := by decide +kernel
theorem dL_law_499 : decode cL_law 499 = .ok (.iconst 1, 1) := by decide +kernel
theorem dL_law_500 : decode cL_law 500 = .ok (.iadd, 1) := by decide +kernel
theorem dL_law_501 : decode cL_law 501 = .ok (.iaload, 1) := by decide +kernel
theorem dL_law_502 : decode cL_law 502 = .ok (.aload_n 0, 1) := by decide +kernel
theorem dL_law_503 : decode cL_law 503 = .ok (.iload 5, 2) := by decide +kernel
theorem dL_law_505 : decode cL_law 505 = .ok (.iconst 2, 1) := by decide +kernel
theorem dL_law_506 : decode cL_law 506 = .ok (.iadd, 1) := by decide +kernel
theorem dL_law_507 : decode cL_law 507 = .ok (.iaload, 1) := by decide +kernel
theorem dL_law_508 : decode cL_law 508 = .ok (.invokevirtual 125, 3) := by decide +kernel
theorem dL_law_511 : decode cL_law 511 = .ok (.istore 7, 2) := by decide +kernel
theorem dL_law_513 : decode cL_law 513 = .ok (.aload_n 2, 1) := by decide +kernel
theorem dL_law_514 : decode cL_law 514 = .ok (.invokevirtual 110, 3) := by decide +kernel
theorem dL_law_517 : decode cL_law 517 = .ok (.iload 6, 2) := by decide +kernel
theorem dL_law_519 : decode cL_law 519 = .ok (.if_icmp .eq 5, 3) := by decide +kernel
theorem dL_law_522 : decode cL_law 522 = .ok (.iconst 0, 1) := by decide +kernel
theorem dL_law_523 : decode cL_law 523 = .ok (.ireturn, 1) := by decide +kernel
theorem dL_law_524 : decode cL_law 524 = .ok (.iload 6, 2) := by decide +kernel
theorem dL_law_526 : decode cL_law 526 = .ok (.ifCond .ne 15, 3) := by decide +kernel
theorem dL_law_529 : decode cL_law 529 = .ok (.aload_n 3, 1) := by decide +kernel
theorem dL_law_530 : decode cL_law 530 = .ok (.iconst 0, 1) := by decide +kernel
theorem dL_law_531 : decode cL_law 531 = .ok (.laload, 1) := by decide +kernel
theorem dL_law_532 : decode cL_law 532 = .ok (.iload 7, 2) := by decide +kernel
theorem dL_law_534 : decode cL_law 534 = .ok (.i2l, 1) := by decide +kernel
theorem dL_law_535 : decode cL_law 535 = .ok (.lcmp, 1) := by decide +kernel
theorem dL_law_536 : decode cL_law 536 = .ok (.ifCond .eq 5, 3) := by decide +kernel
theorem dL_law_539 : decode cL_law 539 = .ok (.iconst 0, 1) := by decide +kernel
theorem dL_law_540 : decode cL_law 540 = .ok (.ireturn, 1) := by decide +kernel
theorem dL_law_541 : decode cL_law 541 = .ok (.goto 1582, 3) := by decide +kernel
theorem dL_law_544 : decode cL_law 544 = .ok (.aload_n 1, 1) := by decide +kernel
theorem dL_law_545 : decode cL_law 545 = .ok (.aload_n 0, 1) := by decide +kernel
theorem dL_law_546 : decode cL_law 546 = .ok (.iload 5, 2) := by decide +kernel
theorem dL_law_548 : decode cL_law 548 = .ok (.iconst 1, 1) := by decide +kernel
theorem dL_law_549 : decode cL_law 549 = .ok (.iadd, 1) := by decide +kernel
theorem dL_law_550 : decode cL_law 550 = .ok (.iaload, 1) := by decide +kernel
theorem dL_law_551 : decode cL_law 551 = .ok (.aload_n 0, 1) := by decide +kernel
theorem dL_law_552 : decode cL_law 552 = .ok (.iload 5, 2) := by decide +kernel
theorem dL_law_554 : decode cL_law 554 = .ok (.iconst 2, 1) := by decide +kernel
theorem dL_law_555 : decode cL_law 555 = .ok (.iadd, 1) := by decide +kernel
theorem dL_law_556 : decode cL_law 556 = .ok (.iaload, 1) := by decide +kernel
theorem dL_law_557 : decode cL_law 557 = .ok (.aload_n 0, 1) := by decide +kernel
theorem dL_law_558 : decode cL_law 558 = .ok (.iload 5, 2) := by decide +kernel
theorem dL_law_560 : decode cL_law 560 = .ok (.iconst 3, 1) := by decide +kernel
theorem dL_law_561 : decode cL_law 561 = .ok (.iadd, 1) := by decide +kernel
theorem dL_law_562 : decode cL_law 562 = .ok (.iaload, 1) := by decide +kernel
theorem dL_law_563 : decode cL_law 563 = .ok (.ifCond .eq 7, 3) := by decide +kernel
theorem dL_law_566 : decode cL_law 566 = .ok (.iconst 1, 1) := by decide +kernel
theorem dL_law_567 : decode cL_law 567 = .ok (.goto 4, 3) := by decide +kernel
theorem dL_law_570 : decode cL_law 570 = .ok (.iconst 0, 1) := by decide +kernel
theorem dL_law_571 : decode cL_law 571 = .ok (.aload_n 3, 1) := by decide +kernel
theorem dL_law_572 : decode cL_law 572 = .ok (.invokestatic 126, 3) := by decide +kernel
theorem dL_law_575 : decode cL_law 575 = .ok (.istore 6, 2) := by decide +kernel
theorem dL_law_577 : decode cL_law 577 = .ok (.aload_n 2, 1) := by decide +kernel
theorem dL_law_578 : decode cL_law 578 = .ok (.aload_n 0, 1) := by decide +kernel
theorem dL_law_579 : decode cL_law 579 = .ok (.iload 5, 2) := by decide +kernel
theorem dL_law_581 : decode cL_law 581 = .ok (.iconst 1, 1) := by decide +kernel
theorem dL_law_582 : decode cL_law 582 = .ok (.iadd, 1) := by decide +kernel
theorem dL_law_583 : decode cL_law 583 = .ok (.iaload, 1) := by decide +kernel
theorem dL_law_584 : decode cL_law 584 = .ok (.aload_n 0, 1) := by decide +kernel
theorem dL_law_585 : decode cL_law 585 = .ok (.iload 5, 2) := by decide +kernel
theorem dL_law_587 : decode cL_law 587 = .ok (.iconst 2, 1) := by decide +kernel
theorem dL_law_588 : decode cL_law 588 = .ok (.iadd, 1) := by decide +kernel
theorem dL_law_589 : decode cL_law 589 = .ok (.iaload, 1) := by decide +kernel
theorem dL_law_590 : decode cL_law 590 = .ok (.aload_n 0, 1) := by decide +kernel
theorem dL_law_591 : decode cL_law 591 = .ok (.iload 5, 2) := by decide +kernel
theorem dL_law_593 : decode cL_law 593 = .ok (.iconst 3, 1) := by decide +kernel
theorem dL_law_594 : decode cL_law 594 = .ok (.iadd, 1) := by decide +kernel
theorem dL_law_595 : decode cL_law 595 = .ok (.iaload, 1) := by decide +kernel
theorem dL_law_596 : decode cL_law 596 = .ok (.ifCond .eq 7, 3) := by decide +kernel
theorem dL_law_599 : decode cL_law 599 = .ok (.iconst 1, 1) := by decide +kernel
theorem dL_law_600 : decode cL_law 600 = .ok (.goto 4, 3) := by decide +kernel
theorem dL_law_603 : decode cL_law 603 = .ok (.iconst 0, 1) := by decide +kernel
theorem dL_law_604 : decode cL_law 604 = .ok (.invokevirtual 129, 3) := by decide +kernel
theorem dL_law_607 : decode cL_law 607 = .ok (.istore 7, 2) := by decide +kernel
theorem dL_law_609 : decode cL_law 609 = .ok (.aload_n 2, 1) := by decide +kernel
theorem dL_law_610 : decode cL_law 610 = .ok (.invokevirtual 110, 3) := by decide +kernel
theorem dL_law_613 : decode cL_law 613 = .ok (.iload 6, 2) := by decide +kernel
theorem dL_law_615 : decode cL_law 615 = .ok (.if_icmp .eq 5, 3) := by decide +kernel
theorem dL_law_618 : decode cL_law 618 = .ok (.iconst 0, 1) := by decide +kernel
theorem dL_law_619 : decode cL_law 619 = .ok (.ireturn, 1) := by decide +kernel
theorem dL_law_620 : decode cL_law 620 = .ok (.iload 6, 2) := by decide +kernel
theorem dL_law_622 : decode cL_law 622 = .ok (.ifCond .ne 15, 3) := by decide +kernel
theorem dL_law_625 : decode cL_law 625 = .ok (.aload_n 3, 1) := by decide +kernel
theorem dL_law_626 : decode cL_law 626 = .ok (.iconst 0, 1) := by decide +kernel
theorem dL_law_627 : decode cL_law 627 = .ok (.laload, 1) := by decide +kernel
theorem dL_law_628 : decode cL_law 628 = .ok (.iload 7, 2) := by decide +kernel
theorem dL_law_630 : decode cL_law 630 = .ok (.i2l, 1) := by decide +kernel
theorem dL_law_631 : decode cL_law 631 = .ok (.lcmp, 1) := by decide +kernel
theorem dL_law_632 : decode cL_law 632 = .ok (.ifCond .eq 5, 3) := by decide +kernel
theorem dL_law_635 : decode cL_law 635 = .ok (.iconst 0, 1) := by decide +kernel
theorem dL_law_636 : decode cL_law 636 = .ok (.ireturn, 1) := by decide +kernel
theorem dL_law_637 : decode cL_law 637 = .ok (.goto 1486, 3) := by decide +kernel
theorem dL_law_640 : decode cL_law 640 = .ok (.aload_n 1, 1) := by decide +kernel
theorem dL_law_641 : decode cL_law 641 = .ok (.aload_n 0, 1) := by decide +kernel
theorem dL_law_642 : decode cL_law 642 = .ok (.iload 5, 2) := by decide +kernel
theorem dL_law_644 : decode cL_law 644 = .ok (.iconst 1, 1) := by decide +kernel
theorem dL_law_645 : decode cL_law 645 = .ok (.iadd, 1) := by decide +kernel
theorem dL_law_646 : decode cL_law 646 = .ok (.iaload, 1) := by decide +kernel
theorem dL_law_647 : decode cL_law 647 = .ok (.aload_n 0, 1) := by decide +kernel
theorem dL_law_648 : decode cL_law 648 = .ok (.iload 5, 2) := by decide +kernel
theorem dL_law_650 : decode cL_law 650 = .ok (.iconst 2, 1) := by decide +kernel
theorem dL_law_651 : decode cL_law 651 = .ok (.iadd, 1) := by decide +kernel
theorem dL_law_652 : decode cL_law 652 = .ok (.iaload, 1) := by decide +kernel
theorem dL_law_653 : decode cL_law 653 = .ok (.aload_n 3, 1) := by decide +kernel
theorem dL_law_654 : decode cL_law 654 = .ok (.invokestatic 130, 3) := by decide +kernel
theorem dL_law_657 : decode cL_law 657 = .ok (.istore 6, 2) := by decide +kernel
theorem dL_law_659 : decode cL_law 659 = .ok (.aload_n 2, 1) := by decide +kernel
theorem dL_law_660 : decode cL_law 660 = .ok (.aload_n 0, 1) := by decide +kernel
theorem dL_law_661 : decode cL_law 661 = .ok (.iload 5, 2) := by decide +kernel
theorem dL_law_663 : decode cL_law 663 = .ok (.iconst 1, 1) := by decide +kernel
theorem dL_law_664 : decode cL_law 664 = .ok (.iadd, 1) := by decide +kernel
theorem dL_law_665 : decode cL_law 665 = .ok (.iaload, 1) := by decide +kernel
theorem dL_law_666 : decode cL_law 666 = .ok (.aload_n 0, 1) := by decide +kernel
theorem dL_law_667 : decode cL_law 667 = .ok (.iload 5, 2) := by decide +kernel
theorem dL_law_669 : decode cL_law 669 = .ok (.iconst 2, 1) := by decide +kernel
theorem dL_law_670 : decode cL_law 670 = .ok (.iadd, 1) := by decide +kernel
theorem dL_law_671 : decode cL_law 671 = .ok (.iaload, 1) := by decide +kernel
theorem dL_law_672 : decode cL_law 672 = .ok (.invokevirtual 132, 3) := by decide +kernel
theorem dL_law_675 : decode cL_law 675 = .ok (.istore 7, 2) := by decide +kernel
theorem dL_law_677 : decode cL_law 677 = .ok (.aload_n 2, 1) := by decide +kernel
theorem dL_law_678 : decode cL_law 678 = .ok (.invokevirtual 110, 3) := by decide +kernel
theorem dL_law_681 : decode cL_law 681 = .ok (.iload 6, 2) := by decide +kernel
theorem dL_law_683 : decode cL_law 683 = .ok (.if_icmp .eq 5, 3) := by decide +kernel
theorem dL_law_686 : decode cL_law 686 = .ok (.iconst 0, 1) := by decide +kernel
theorem dL_law_687 : decode cL_law 687 = .ok (.ireturn, 1) := by decide +kernel
theorem dL_law_688 : decode cL_law 688 = .ok (.iload 6, 2) := by decide +kernel
theorem dL_law_690 : decode cL_law 690 = .ok (.ifCond .ne 15, 3) := by decide +kernel
theorem dL_law_693 : decode cL_law 693 = .ok (.aload_n 3, 1) := by decide +kernel
theorem dL_law_694 : decode cL_law 694 = .ok (.iconst 0, 1) := by decide +kernel
theorem dL_law_695 : decode cL_law 695 = .ok (.laload, 1) := by decide +kernel
theorem dL_law_696 : decode cL_law 696 = .ok (.iload 7, 2) := by decide +kernel
theorem dL_law_698 : decode cL_law 698 = .ok (.i2l, 1) := by decide +kernel
theorem dL_law_699 : decode cL_law 699 = .ok (.lcmp, 1) := by decide +kernel
theorem dL_law_700 : decode cL_law 700 = .ok (.ifCond .eq 5, 3) := by decide +kernel
theorem dL_law_703 : decode cL_law 703 = .ok (.iconst 0, 1) := by decide +kernel
theorem dL_law_704 : decode cL_law 704 = .ok (.ireturn, 1) := by decide +kernel
theorem dL_law_705 : decode cL_law 705 = .ok (.goto 1418, 3) := by decide +kernel
theorem dL_law_708 : decode cL_law 708 = .ok (.aload_n 1, 1) := by decide +kernel
theorem dL_law_709 : decode cL_law 709 = .ok (.aload_n 0, 1) := by decide +kernel
theorem dL_law_710 : decode cL_law 710 = .ok (.iload 5, 2) := by decide +kernel
theorem dL_law_712 : decode cL_law 712 = .ok (.iconst 1, 1) := by decide +kernel
theorem dL_law_713 : decode cL_law 713 = .ok (.iadd, 1) := by decide +kernel
theorem dL_law_714 : decode cL_law 714 = .ok (.iaload, 1) := by decide +kernel
theorem dL_law_715 : decode cL_law 715 = .ok (.aload_n 0, 1) := by decide +kernel
theorem dL_law_716 : decode cL_law 716 = .ok (.iload 5, 2) := by decide +kernel
theorem dL_law_718 : decode cL_law 718 = .ok (.iconst 2, 1) := by decide +kernel
theorem dL_law_719 : decode cL_law 719 = .ok (.iadd, 1) := by decide +kernel
theorem dL_law_720 : decode cL_law 720 = .ok (.iaload, 1) := by decide +kernel
theorem dL_law_721 : decode cL_law 721 = .ok (.aload_n 3, 1) := by decide +kernel
theorem dL_law_722 : decode cL_law 722 = .ok (.invokestatic 133, 3) := by decide +kernel
theorem dL_law_725 : decode cL_law 725 = .ok (.istore 6, 2) := by decide +kernel
theorem dL_law_727 : decode cL_law 727 = .ok (.aload_n 2, 1) := by decide +kernel
theorem dL_law_728 : decode cL_law 728 = .ok (.aload_n 0, 1) := by decide +kernel
theorem dL_law_729 : decode cL_law 729 = .ok (.iload 5, 2) := by decide +kernel
theorem dL_law_731 : decode cL_law 731 = .ok (.iconst 1, 1) := by decide +kernel
theorem dL_law_732 : decode cL_law 732 = .ok (.iadd, 1) := by decide +kernel
theorem dL_law_733 : decode cL_law 733 = .ok (.iaload, 1) := by decide +kernel
theorem dL_law_734 : decode cL_law 734 = .ok (.aload_n 0, 1) := by decide +kernel
theorem dL_law_735 : decode cL_law 735 = .ok (.iload 5, 2) := by decide +kernel
theorem dL_law_737 : decode cL_law 737 = .ok (.iconst 2, 1) := by decide +kernel
theorem dL_law_738 : decode cL_law 738 = .ok (.iadd, 1) := by decide +kernel
theorem dL_law_739 : decode cL_law 739 = .ok (.iaload, 1) := by decide +kernel
theorem dL_law_740 : decode cL_law 740 = .ok (.invokevirtual 135, 3) := by decide +kernel
theorem dL_law_743 : decode cL_law 743 = .ok (.istore 7, 2) := by decide +kernel
theorem dL_law_745 : decode cL_law 745 = .ok (.aload_n 2, 1) := by decide +kernel
theorem dL_law_746 : decode cL_law 746 = .ok (.invokevirtual 110, 3) := by decide +kernel
theorem dL_law_749 : decode cL_law 749 = .ok (.iload 6, 2) := by decide +kernel
theorem dL_law_751 : decode cL_law 751 = .ok (.if_icmp .eq 5, 3) := by decide +kernel
theorem dL_law_754 : decode cL_law 754 = .ok (.iconst 0, 1) := by decide +kernel
theorem dL_law_755 : decode cL_law 755 = .ok (.ireturn, 1) := by decide +kernel
theorem dL_law_756 : decode cL_law 756 = .ok (.iload 6, 2) := by decide +kernel
theorem dL_law_758 : decode cL_law 758 = .ok (.ifCond .ne 15, 3) := by decide +kernel
theorem dL_law_761 : decode cL_law 761 = .ok (.aload_n 3, 1) := by decide +kernel
theorem dL_law_762 : decode cL_law 762 = .ok (.iconst 0, 1) := by decide +kernel
theorem dL_law_763 : decode cL_law 763 = .ok (.laload, 1) := by decide +kernel
theorem dL_law_764 : decode cL_law 764 = .ok (.iload 7, 2) := by decide +kernel
theorem dL_law_766 : decode cL_law 766 = .ok (.i2l, 1) := by decide +kernel
theorem dL_law_767 : decode cL_law 767 = .ok (.lcmp, 1) := by decide +kernel
theorem dL_law_768 : decode cL_law 768 = .ok (.ifCond .eq 5, 3) := by decide +kernel
theorem dL_law_771 : decode cL_law 771 = .ok (.iconst 0, 1) := by decide +kernel
theorem dL_law_772 : decode cL_law 772 = .ok (.ireturn, 1) := by decide +kernel
theorem dL_law_773 : decode cL_law 773 = .ok (.goto 1350, 3) := by decide +kernel
theorem dL_law_776 : decode cL_law 776 = .ok (.aload_n 1, 1) := by decide +kernel
theorem dL_law_777 : decode cL_law 777 = .ok (.aload_n 0, 1) := by decide +kernel
theorem dL_law_778 : decode cL_law 778 = .ok (.iload 5, 2) := by decide +kernel
theorem dL_law_780 : decode cL_law 780 = .ok (.iconst 1, 1) := by decide +kernel
theorem dL_law_781 : decode cL_law 781 = .ok (.iadd, 1) := by decide +kernel
theorem dL_law_782 : decode cL_law 782 = .ok (.iaload, 1) := by decide +kernel
theorem dL_law_783 : decode cL_law 783 = .ok (.aload_n 0, 1) := by decide +kernel
theorem dL_law_784 : decode cL_law 784 = .ok (.iload 5, 2) := by decide +kernel
theorem dL_law_786 : decode cL_law 786 = .ok (.iconst 2, 1) := by decide +kernel
theorem dL_law_787 : decode cL_law 787 = .ok (.iadd, 1) := by decide +kernel
theorem dL_law_788 : decode cL_law 788 = .ok (.iaload, 1) := by decide +kernel
theorem dL_law_789 : decode cL_law 789 = .ok (.aload_n 3, 1) := by decide +kernel
theorem dL_law_790 : decode cL_law 790 = .ok (.invokestatic 136, 3) := by decide +kernel
theorem dL_law_793 : decode cL_law 793 = .ok (.istore 6, 2) := by decide +kernel
theorem dL_law_795 : decode cL_law 795 = .ok (.aload_n 2, 1) := by decide +kernel
theorem dL_law_796 : decode cL_law 796 = .ok (.aload_n 0, 1) := by decide +kernel
theorem dL_law_797 : decode cL_law 797 = .ok (.iload 5, 2) := by decide +kernel
theorem dL_law_799 : decode cL_law 799 = .ok (.iconst 1, 1) := by decide +kernel
theorem dL_law_800 : decode cL_law 800 = .ok (.iadd, 1) := by decide +kernel
theorem dL_law_801 : decode cL_law 801 = .ok (.iaload, 1) := by decide +kernel
theorem dL_law_802 : decode cL_law 802 = .ok (.aload_n 0, 1) := by decide +kernel
theorem dL_law_803 : decode cL_law 803 = .ok (.iload 5, 2) := by decide +kernel
theorem dL_law_805 : decode cL_law 805 = .ok (.iconst 2, 1) := by decide +kernel
theorem dL_law_806 : decode cL_law 806 = .ok (.iadd, 1) := by decide +kernel
theorem dL_law_807 : decode cL_law 807 = .ok (.iaload, 1) := by decide +kernel
theorem dL_law_808 : decode cL_law 808 = .ok (.invokevirtual 138, 3) := by decide +kernel
theorem dL_law_811 : decode cL_law 811 = .ok (.istore 7, 2) := by decide +kernel
theorem dL_law_813 : decode cL_law 813 = .ok (.aload_n 2, 1) := by decide +kernel
theorem dL_law_814 : decode cL_law 814 = .ok (.invokevirtual 110, 3) := by decide +kernel
theorem dL_law_817 : decode cL_law 817 = .ok (.iload 6, 2) := by decide +kernel
theorem dL_law_819 : decode cL_law 819 = .ok (.if_icmp .eq 5, 3) := by decide +kernel
theorem dL_law_822 : decode cL_law 822 = .ok (.iconst 0, 1) := by decide +kernel
theorem dL_law_823 : decode cL_law 823 = .ok (.ireturn, 1) := by decide +kernel
theorem dL_law_824 : decode cL_law 824 = .ok (.iload 6, 2) := by decide +kernel
theorem dL_law_826 : decode cL_law 826 = .ok (.ifCond .ne 15, 3) := by decide +kernel
theorem dL_law_829 : decode cL_law 829 = .ok (.aload_n 3, 1) := by decide +kernel
theorem dL_law_830 : decode cL_law 830 = .ok (.iconst 0, 1) := by decide +kernel
theorem dL_law_831 : decode cL_law 831 = .ok (.laload, 1) := by decide +kernel
theorem dL_law_832 : decode cL_law 832 = .ok (.iload 7, 2) := by decide +kernel
theorem dL_law_834 : decode cL_law 834 = .ok (.i2l, 1) := by decide +kernel
theorem dL_law_835 : decode cL_law 835 = .ok (.lcmp, 1) := by decide +kernel
theorem dL_law_836 : decode cL_law 836 = .ok (.ifCond .eq 5, 3) := by decide +kernel
theorem dL_law_839 : decode cL_law 839 = .ok (.iconst 0, 1) := by decide +kernel
theorem dL_law_840 : decode cL_law 840 = .ok (.ireturn, 1) := by decide +kernel
theorem dL_law_841 : decode cL_law 841 = .ok (.goto 1282, 3) := by decide +kernel
theorem dL_law_844 : decode cL_law 844 = .ok (.aload_n 1, 1) := by decide +kernel
theorem dL_law_845 : decode cL_law 845 = .ok (.aload_n 0, 1) := by decide +kernel
theorem dL_law_846 : decode cL_law 846 = .ok (.iload 5, 2) := by decide +kernel
theorem dL_law_848 : decode cL_law 848 = .ok (.iconst 1, 1) := by decide +kernel
theorem dL_law_849 : decode cL_law 849 = .ok (.iadd, 1) := by decide +kernel
theorem dL_law_850 : decode cL_law 850 = .ok (.iaload, 1) := by decide +kernel
theorem dL_law_851 : decode cL_law 851 = .ok (.aload_n 0, 1) := by decide +kernel
theorem dL_law_852 : decode cL_law 852 = .ok (.iload 5, 2) := by decide +kernel
theorem dL_law_854 : decode cL_law 854 = .ok (.iconst 2, 1) := by decide +kernel
theorem dL_law_855 : decode cL_law 855 = .ok (.iadd, 1) := by decide +kernel
theorem dL_law_856 : decode cL_law 856 = .ok (.iaload, 1) := by decide +kernel
theorem dL_law_857 : decode cL_law 857 = .ok (.aload_n 3, 1) := by decide +kernel
theorem dL_law_858 : decode cL_law 858 = .ok (.invokestatic 139, 3) := by decide +kernel
theorem dL_law_861 : decode cL_law 861 = .ok (.istore 6, 2) := by decide +kernel
theorem dL_law_863 : decode cL_law 863 = .ok (.aload_n 2, 1) := by decide +kernel
theorem dL_law_864 : decode cL_law 864 = .ok (.aload_n 0, 1) := by decide +kernel
theorem dL_law_865 : decode cL_law 865 = .ok (.iload 5, 2) := by decide +kernel
theorem dL_law_867 : decode cL_law 867 = .ok (.iconst 1, 1) := by decide +kernel
theorem dL_law_868 : decode cL_law 868 = .ok (.iadd, 1) := by decide +kernel
theorem dL_law_869 : decode cL_law 869 = .ok (.iaload, 1) := by decide +kernel
theorem dL_law_870 : decode cL_law 870 = .ok (.aload_n 0, 1) := by decide +kernel
theorem dL_law_871 : decode cL_law 871 = .ok (.iload 5, 2) := by decide +kernel
theorem dL_law_873 : decode cL_law 873 = .ok (.iconst 2, 1) := by decide +kernel
theorem dL_law_874 : decode cL_law 874 = .ok (.iadd, 1) := by decide +kernel
theorem dL_law_875 : decode cL_law 875 = .ok (.iaload, 1) := by decide +kernel
theorem dL_law_876 : decode cL_law 876 = .ok (.invokevirtual 141, 3) := by decide +kernel
theorem dL_law_879 : decode cL_law 879 = .ok (.istore 7, 2) := by decide +kernel
theorem dL_law_881 : decode cL_law 881 = .ok (.aload_n 2, 1) := by decide +kernel
theorem dL_law_882 : decode cL_law 882 = .ok (.invokevirtual 110, 3) := by decide +kernel
theorem dL_law_885 : decode cL_law 885 = .ok (.iload 6, 2) := by decide +kernel
theorem dL_law_887 : decode cL_law 887 = .ok (.if_icmp .eq 5, 3) := by decide +kernel
theorem dL_law_890 : decode cL_law 890 = .ok (.iconst 0, 1) := by decide +kernel
theorem dL_law_891 : decode cL_law 891 = .ok (.ireturn, 1) := by decide +kernel
theorem dL_law_892 : decode cL_law 892 = .ok (.iload 6, 2) := by decide +kernel
theorem dL_law_894 : decode cL_law 894 = .ok (.ifCond .ne 15, 3) := by decide +kernel
theorem dL_law_897 : decode cL_law 897 = .ok (.aload_n 3, 1) := by decide +kernel
theorem dL_law_898 : decode cL_law 898 = .ok (.iconst 0, 1) := by decide +kernel
theorem dL_law_899 : decode cL_law 899 = .ok (.laload, 1) := by decide +kernel
theorem dL_law_900 : decode cL_law 900 = .ok (.iload 7, 2) := by decide +kernel
theorem dL_law_902 : decode cL_law 902 = .ok (.i2l, 1) := by decide +kernel
theorem dL_law_903 : decode cL_law 903 = .ok (.lcmp, 1) := by decide +kernel
theorem dL_law_904 : decode cL_law 904 = .ok (.ifCond .eq 5, 3) := by decide +kernel
theorem dL_law_907 : decode cL_law 907 = .ok (.iconst 0, 1) := by decide +kernel
theorem dL_law_908 : decode cL_law 908 = .ok (.ireturn, 1) := by decide +kernel
theorem dL_law_909 : decode cL_law 909 = .ok (.goto 1214, 3) := by decide +kernel
theorem dL_law_912 : decode cL_law 912 = .ok (.aload_n 1, 1) := by decide +kernel
theorem dL_law_913 : decode cL_law 913 = .ok (.aload_n 0, 1) := by decide +kernel
theorem dL_law_914 : decode cL_law 914 = .ok (.iload 5, 2) := by decide +kernel
theorem dL_law_916 : decode cL_law 916 = .ok (.iconst 1, 1) := by decide +kernel
theorem dL_law_917 : decode cL_law 917 = .ok (.iadd, 1) := by decide +kernel
theorem dL_law_918 : decode cL_law 918 = .ok (.iaload, 1) := by decide +kernel
theorem dL_law_919 : decode cL_law 919 = .ok (.aload_n 0, 1) := by decide +kernel
theorem dL_law_920 : decode cL_law 920 = .ok (.iload 5, 2) := by decide +kernel
theorem dL_law_922 : decode cL_law 922 = .ok (.iconst 2, 1) := by decide +kernel
theorem dL_law_923 : decode cL_law 923 = .ok (.iadd, 1) := by decide +kernel
theorem dL_law_924 : decode cL_law 924 = .ok (.iaload, 1) := by decide +kernel
theorem dL_law_925 : decode cL_law 925 = .ok (.aload_n 3, 1) := by decide +kernel
theorem dL_law_926 : decode cL_law 926 = .ok (.invokestatic 142, 3) := by decide +kernel
theorem dL_law_929 : decode cL_law 929 = .ok (.istore 6, 2) := by decide +kernel
theorem dL_law_931 : decode cL_law 931 = .ok (.aload_n 2, 1) := by decide +kernel
theorem dL_law_932 : decode cL_law 932 = .ok (.aload_n 0, 1) := by decide +kernel
theorem dL_law_933 : decode cL_law 933 = .ok (.iload 5, 2) := by decide +kernel
theorem dL_law_935 : decode cL_law 935 = .ok (.iconst 1, 1) := by decide +kernel
theorem dL_law_936 : decode cL_law 936 = .ok (.iadd, 1) := by decide +kernel
theorem dL_law_937 : decode cL_law 937 = .ok (.iaload, 1) := by decide +kernel
theorem dL_law_938 : decode cL_law 938 = .ok (.aload_n 0, 1) := by decide +kernel
theorem dL_law_939 : decode cL_law 939 = .ok (.iload 5, 2) := by decide +kernel
theorem dL_law_941 : decode cL_law 941 = .ok (.iconst 2, 1) := by decide +kernel
theorem dL_law_942 : decode cL_law 942 = .ok (.iadd, 1) := by decide +kernel
theorem dL_law_943 : decode cL_law 943 = .ok (.iaload, 1) := by decide +kernel
theorem dL_law_944 : decode cL_law 944 = .ok (.invokevirtual 144, 3) := by decide +kernel
theorem dL_law_947 : decode cL_law 947 = .ok (.istore 7, 2) := by decide +kernel
theorem dL_law_949 : decode cL_law 949 = .ok (.aload_n 2, 1) := by decide +kernel
theorem dL_law_950 : decode cL_law 950 = .ok (.invokevirtual 110, 3) := by decide +kernel
theorem dL_law_953 : decode cL_law 953 = .ok (.iload 6, 2) := by decide +kernel
theorem dL_law_955 : decode cL_law 955 = .ok (.if_icmp .eq 5, 3) := by decide +kernel
theorem dL_law_958 : decode cL_law 958 = .ok (.iconst 0, 1) := by decide +kernel
theorem dL_law_959 : decode cL_law 959 = .ok (.ireturn, 1) := by decide +kernel
theorem dL_law_960 : decode cL_law 960 = .ok (.iload 6, 2) := by decide +kernel
theorem dL_law_962 : decode cL_law 962 = .ok (.ifCond .ne 15, 3) := by decide +kernel
theorem dL_law_965 : decode cL_law 965 = .ok (.aload_n 3, 1) := by decide +kernel
theorem dL_law_966 : decode cL_law 966 = .ok (.iconst 0, 1) := by decide +kernel
theorem dL_law_967 : decode cL_law 967 = .ok (.laload, 1) := by decide +kernel
theorem dL_law_968 : decode cL_law 968 = .ok (.iload 7, 2) := by decide +kernel
theorem dL_law_970 : decode cL_law 970 = .ok (.i2l, 1) := by decide +kernel
theorem dL_law_971 : decode cL_law 971 = .ok (.lcmp, 1) := by decide +kernel
theorem dL_law_972 : decode cL_law 972 = .ok (.ifCond .eq 5, 3) := by decide +kernel
theorem dL_law_975 : decode cL_law 975 = .ok (.iconst 0, 1) := by decide +kernel
theorem dL_law_976 : decode cL_law 976 = .ok (.ireturn, 1) := by decide +kernel
theorem dL_law_977 : decode cL_law 977 = .ok (.goto 1146, 3) := by decide +kernel
theorem dL_law_980 : decode cL_law 980 = .ok (.aload_n 1, 1) := by decide +kernel
theorem dL_law_981 : decode cL_law 981 = .ok (.aload_n 3, 1) := by decide +kernel
theorem dL_law_982 : decode cL_law 982 = .ok (.invokestatic 145, 3) := by decide +kernel
theorem dL_law_985 : decode cL_law 985 = .ok (.istore 6, 2) := by decide +kernel
theorem dL_law_987 : decode cL_law 987 = .ok (.aload_n 2, 1) := by decide +kernel
theorem dL_law_988 : decode cL_law 988 = .ok (.invokevirtual 148, 3) := by decide +kernel
theorem dL_law_991 : decode cL_law 991 = .ok (.istore 7, 2) := by decide +kernel
theorem dL_law_993 : decode cL_law 993 = .ok (.aload_n 2, 1) := by decide +kernel
theorem dL_law_994 : decode cL_law 994 = .ok (.invokevirtual 110, 3) := by decide +kernel
theorem dL_law_997 : decode cL_law 997 = .ok (.iload 6, 2) := by decide +kernel
theorem dL_law_999 : decode cL_law 999 = .ok (.if_icmp .eq 5, 3) := by decide +kernel
theorem dL_law_1002 : decode cL_law 1002 = .ok (.iconst 0, 1) := by decide +kernel
theorem dL_law_1003 : decode cL_law 1003 = .ok (.ireturn, 1) := by decide +kernel
theorem dL_law_1004 : decode cL_law 1004 = .ok (.iload 6, 2) := by decide +kernel
theorem dL_law_1006 : decode cL_law 1006 = .ok (.ifCond .ne 15, 3) := by decide +kernel
theorem dL_law_1009 : decode cL_law 1009 = .ok (.aload_n 3, 1) := by decide +kernel
theorem dL_law_1010 : decode cL_law 1010 = .ok (.iconst 0, 1) := by decide +kernel
theorem dL_law_1011 : decode cL_law 1011 = .ok (.laload, 1) := by decide +kernel
theorem dL_law_1012 : decode cL_law 1012 = .ok (.iload 7, 2) := by decide +kernel
theorem dL_law_1014 : decode cL_law 1014 = .ok (.i2l, 1) := by decide +kernel
theorem dL_law_1015 : decode cL_law 1015 = .ok (.lcmp, 1) := by decide +kernel
theorem dL_law_1016 : decode cL_law 1016 = .ok (.ifCond .eq 5, 3) := by decide +kernel
theorem dL_law_1019 : decode cL_law 1019 = .ok (.iconst 0, 1) := by decide +kernel
theorem dL_law_1020 : decode cL_law 1020 = .ok (.ireturn, 1) := by decide +kernel
theorem dL_law_1021 : decode cL_law 1021 = .ok (.goto 1102, 3) := by decide +kernel
theorem dL_law_1024 : decode cL_law 1024 = .ok (.aload_n 1, 1) := by decide +kernel
theorem dL_law_1025 : decode cL_law 1025 = .ok (.invokevirtual 149, 3) := by decide +kernel
theorem dL_law_1028 : decode cL_law 1028 = .ok (.aload_n 2, 1) := by decide +kernel
theorem dL_law_1029 : decode cL_law 1029 = .ok (.invokevirtual 152, 3) := by decide +kernel
theorem dL_law_1032 : decode cL_law 1032 = .ok (.if_icmp .eq 1091, 3) := by decide +kernel
theorem dL_law_1035 : decode cL_law 1035 = .ok (.iconst 0, 1) := by decide +kernel
theorem dL_law_1036 : decode cL_law 1036 = .ok (.ireturn, 1) := by decide +kernel
theorem dL_law_1037 : decode cL_law 1037 = .ok (.aload_n 1, 1) := by decide +kernel
theorem dL_law_1038 : decode cL_law 1038 = .ok (.invokevirtual 153, 3) := by decide +kernel
theorem dL_law_1041 : decode cL_law 1041 = .ok (.aload_n 2, 1) := by decide +kernel
theorem dL_law_1042 : decode cL_law 1042 = .ok (.invokevirtual 156, 3) := by decide +kernel
theorem dL_law_1045 : decode cL_law 1045 = .ok (.if_icmp .eq 1078, 3) := by decide +kernel
theorem dL_law_1048 : decode cL_law 1048 = .ok (.iconst 0, 1) := by decide +kernel
theorem dL_law_1049 : decode cL_law 1049 = .ok (.ireturn, 1) := by decide +kernel
theorem dL_law_1050 : decode cL_law 1050 = .ok (.aload_n 1, 1) := by decide +kernel
theorem dL_law_1051 : decode cL_law 1051 = .ok (.invokevirtual 157, 3) := by decide +kernel
theorem dL_law_1054 : decode cL_law 1054 = .ok (.aload_n 2, 1) := by decide +kernel
theorem dL_law_1055 : decode cL_law 1055 = .ok (.invokevirtual 160, 3) := by decide +kernel
theorem dL_law_1058 : decode cL_law 1058 = .ok (.if_icmp .eq 1065, 3) := by decide +kernel
theorem dL_law_1061 : decode cL_law 1061 = .ok (.iconst 0, 1) := by decide +kernel
theorem dL_law_1062 : decode cL_law 1062 = .ok (.ireturn, 1) := by decide +kernel
theorem dL_law_1063 : decode cL_law 1063 = .ok (.aload_n 1, 1) := by decide +kernel
theorem dL_law_1064 : decode cL_law 1064 = .ok (.invokevirtual 161, 3) := by decide +kernel
theorem dL_law_1067 : decode cL_law 1067 = .ok (.aload_n 2, 1) := by decide +kernel
theorem dL_law_1068 : decode cL_law 1068 = .ok (.invokevirtual 164, 3) := by decide +kernel
theorem dL_law_1071 : decode cL_law 1071 = .ok (.if_icmp .eq 1052, 3) := by decide +kernel
theorem dL_law_1074 : decode cL_law 1074 = .ok (.iconst 0, 1) := by decide +kernel
theorem dL_law_1075 : decode cL_law 1075 = .ok (.ireturn, 1) := by decide +kernel
theorem dL_law_1076 : decode cL_law 1076 = .ok (.aload_n 1, 1) := by decide +kernel
theorem dL_law_1077 : decode cL_law 1077 = .ok (.invokevirtual 165, 3) := by decide +kernel
theorem dL_law_1080 : decode cL_law 1080 = .ok (.aload_n 2, 1) := by decide +kernel
theorem dL_law_1081 : decode cL_law 1081 = .ok (.invokevirtual 168, 3) := by decide +kernel
theorem dL_law_1084 : decode cL_law 1084 = .ok (.if_icmp .eq 1039, 3) := by decide +kernel
theorem dL_law_1087 : decode cL_law 1087 = .ok (.iconst 0, 1) := by decide +kernel
theorem dL_law_1088 : decode cL_law 1088 = .ok (.ireturn, 1) := by decide +kernel
theorem dL_law_1089 : decode cL_law 1089 = .ok (.aload_n 1, 1) := by decide +kernel
theorem dL_law_1090 : decode cL_law 1090 = .ok (.invokevirtual 169, 3) := by decide +kernel
theorem dL_law_1093 : decode cL_law 1093 = .ok (.aload_n 2, 1) := by decide +kernel
theorem dL_law_1094 : decode cL_law 1094 = .ok (.invokevirtual 172, 3) := by decide +kernel
theorem dL_law_1097 : decode cL_law 1097 = .ok (.if_icmp .eq 1026, 3) := by decide +kernel
theorem dL_law_1100 : decode cL_law 1100 = .ok (.iconst 0, 1) := by decide +kernel
theorem dL_law_1101 : decode cL_law 1101 = .ok (.ireturn, 1) := by decide +kernel
theorem dL_law_1102 : decode cL_law 1102 = .ok (.aload_n 1, 1) := by decide +kernel
theorem dL_law_1103 : decode cL_law 1103 = .ok (.invokevirtual 173, 3) := by decide +kernel
theorem dL_law_1106 : decode cL_law 1106 = .ok (.aload_n 2, 1) := by decide +kernel
theorem dL_law_1107 : decode cL_law 1107 = .ok (.invokevirtual 176, 3) := by decide +kernel
theorem dL_law_1110 : decode cL_law 1110 = .ok (.if_icmp .eq 1013, 3) := by decide +kernel
theorem dL_law_1113 : decode cL_law 1113 = .ok (.iconst 0, 1) := by decide +kernel
theorem dL_law_1114 : decode cL_law 1114 = .ok (.ireturn, 1) := by decide +kernel
theorem dL_law_1115 : decode cL_law 1115 = .ok (.aload_n 1, 1) := by decide +kernel
theorem dL_law_1116 : decode cL_law 1116 = .ok (.invokevirtual 177, 3) := by decide +kernel
theorem dL_law_1119 : decode cL_law 1119 = .ok (.aload_n 2, 1) := by decide +kernel
theorem dL_law_1120 : decode cL_law 1120 = .ok (.invokevirtual 180, 3) := by decide +kernel
theorem dL_law_1123 : decode cL_law 1123 = .ok (.if_icmp .eq 1000, 3) := by decide +kernel
theorem dL_law_1126 : decode cL_law 1126 = .ok (.iconst 0, 1) := by decide +kernel
theorem dL_law_1127 : decode cL_law 1127 = .ok (.ireturn, 1) := by decide +kernel
theorem dL_law_1128 : decode cL_law 1128 = .ok (.aload_n 1, 1) := by decide +kernel
theorem dL_law_1129 : decode cL_law 1129 = .ok (.invokevirtual 181, 3) := by decide +kernel
theorem dL_law_1132 : decode cL_law 1132 = .ok (.aload_n 2, 1) := by decide +kernel
theorem dL_law_1133 : decode cL_law 1133 = .ok (.invokevirtual 184, 3) := by decide +kernel
theorem dL_law_1136 : decode cL_law 1136 = .ok (.if_icmp .eq 987, 3) := by decide +kernel
theorem dL_law_1139 : decode cL_law 1139 = .ok (.iconst 0, 1) := by decide +kernel
theorem dL_law_1140 : decode cL_law 1140 = .ok (.ireturn, 1) := by decide +kernel
theorem dL_law_1141 : decode cL_law 1141 = .ok (.aload_n 1, 1) := by decide +kernel
theorem dL_law_1142 : decode cL_law 1142 = .ok (.aload_n 0, 1) := by decide +kernel
theorem dL_law_1143 : decode cL_law 1143 = .ok (.iload 5, 2) := by decide +kernel
theorem dL_law_1145 : decode cL_law 1145 = .ok (.iconst 1, 1) := by decide +kernel
theorem dL_law_1146 : decode cL_law 1146 = .ok (.iadd, 1) := by decide +kernel
theorem dL_law_1147 : decode cL_law 1147 = .ok (.iaload, 1) := by decide +kernel
theorem dL_law_1148 : decode cL_law 1148 = .ok (.aload_n 3, 1) := by decide +kernel
theorem dL_law_1149 : decode cL_law 1149 = .ok (.invokestatic 185, 3) := by decide +kernel
theorem dL_law_1152 : decode cL_law 1152 = .ok (.istore 6, 2) := by decide +kernel
theorem dL_law_1154 : decode cL_law 1154 = .ok (.aload_n 2, 1) := by decide +kernel
theorem dL_law_1155 : decode cL_law 1155 = .ok (.aload_n 0, 1) := by decide +kernel
theorem dL_law_1156 : decode cL_law 1156 = .ok (.iload 5, 2) := by decide +kernel
theorem dL_law_1158 : decode cL_law 1158 = .ok (.iconst 1, 1) := by decide +kernel
theorem dL_law_1159 : decode cL_law 1159 = .ok (.iadd, 1) := by decide +kernel
theorem dL_law_1160 : decode cL_law 1160 = .ok (.iaload, 1) := by decide +kernel
theorem dL_law_1161 : decode cL_law 1161 = .ok (.invokevirtual 188, 3) := by decide +kernel
theorem dL_law_1164 : decode cL_law 1164 = .ok (.istore 7, 2) := by decide +kernel
theorem dL_law_1166 : decode cL_law 1166 = .ok (.aload_n 2, 1) := by decide +kernel
theorem dL_law_1167 : decode cL_law 1167 = .ok (.invokevirtual 110, 3) := by decide +kernel
theorem dL_law_1170 : decode cL_law 1170 = .ok (.iload 6, 2) := by decide +kernel
theorem dL_law_1172 : decode cL_law 1172 = .ok (.if_icmp .eq 5, 3) := by decide +kernel
theorem dL_law_1175 : decode cL_law 1175 = .ok (.iconst 0, 1) := by decide +kernel
theorem dL_law_1176 : decode cL_law 1176 = .ok (.ireturn, 1) := by decide +kernel
theorem dL_law_1177 : decode cL_law 1177 = .ok (.iload 6, 2) := by decide +kernel
theorem dL_law_1179 : decode cL_law 1179 = .ok (.ifCond .ne 15, 3) := by decide +kernel
theorem dL_law_1182 : decode cL_law 1182 = .ok (.aload_n 3, 1) := by decide +kernel
theorem dL_law_1183 : decode cL_law 1183 = .ok (.iconst 0, 1) := by decide +kernel
theorem dL_law_1184 : decode cL_law 1184 = .ok (.laload, 1) := by decide +kernel
theorem dL_law_1185 : decode cL_law 1185 = .ok (.iload 7, 2) := by decide +kernel
theorem dL_law_1187 : decode cL_law 1187 = .ok (.i2l, 1) := by decide +kernel
theorem dL_law_1188 : decode cL_law 1188 = .ok (.lcmp, 1) := by decide +kernel
theorem dL_law_1189 : decode cL_law 1189 = .ok (.ifCond .eq 5, 3) := by decide +kernel
theorem dL_law_1192 : decode cL_law 1192 = .ok (.iconst 0, 1) := by decide +kernel
theorem dL_law_1193 : decode cL_law 1193 = .ok (.ireturn, 1) := by decide +kernel
theorem dL_law_1194 : decode cL_law 1194 = .ok (.goto 929, 3) := by decide +kernel
theorem dL_law_1197 : decode cL_law 1197 = .ok (.aload_n 1, 1) := by decide +kernel
theorem dL_law_1198 : decode cL_law 1198 = .ok (.invokevirtual 189, 3) := by decide +kernel
theorem dL_law_1201 : decode cL_law 1201 = .ok (.aload_n 2, 1) := by decide +kernel
theorem dL_law_1202 : decode cL_law 1202 = .ok (.invokevirtual 192, 3) := by decide +kernel
theorem dL_law_1205 : decode cL_law 1205 = .ok (.if_icmp .eq 918, 3) := by decide +kernel
theorem dL_law_1208 : decode cL_law 1208 = .ok (.iconst 0, 1) := by decide +kernel
theorem dL_law_1209 : decode cL_law 1209 = .ok (.ireturn, 1) := by decide +kernel
theorem dL_law_1210 : decode cL_law 1210 = .ok (.aload_n 1, 1) := by decide +kernel
theorem dL_law_1211 : decode cL_law 1211 = .ok (.aload_n 0, 1) := by decide +kernel
theorem dL_law_1212 : decode cL_law 1212 = .ok (.iload 5, 2) := by decide +kernel
theorem dL_law_1214 : decode cL_law 1214 = .ok (.iconst 1, 1) := by decide +kernel
theorem dL_law_1215 : decode cL_law 1215 = .ok (.iadd, 1) := by decide +kernel
theorem dL_law_1216 : decode cL_law 1216 = .ok (.iaload, 1) := by decide +kernel
theorem dL_law_1217 : decode cL_law 1217 = .ok (.aload_n 3, 1) := by decide +kernel
theorem dL_law_1218 : decode cL_law 1218 = .ok (.invokestatic 193, 3) := by decide +kernel
theorem dL_law_1221 : decode cL_law 1221 = .ok (.istore 6, 2) := by decide +kernel
theorem dL_law_1223 : decode cL_law 1223 = .ok (.aload_n 2, 1) := by decide +kernel
theorem dL_law_1224 : decode cL_law 1224 = .ok (.aload_n 0, 1) := by decide +kernel
theorem dL_law_1225 : decode cL_law 1225 = .ok (.iload 5, 2) := by decide +kernel
theorem dL_law_1227 : decode cL_law 1227 = .ok (.iconst 1, 1) := by decide +kernel
theorem dL_law_1228 : decode cL_law 1228 = .ok (.iadd, 1) := by decide +kernel
theorem dL_law_1229 : decode cL_law 1229 = .ok (.iaload, 1) := by decide +kernel
theorem dL_law_1230 : decode cL_law 1230 = .ok (.invokevirtual 195, 3) := by decide +kernel
theorem dL_law_1233 : decode cL_law 1233 = .ok (.istore 7, 2) := by decide +kernel
theorem dL_law_1235 : decode cL_law 1235 = .ok (.aload_n 2, 1) := by decide +kernel
theorem dL_law_1236 : decode cL_law 1236 = .ok (.invokevirtual 110, 3) := by decide +kernel
theorem dL_law_1239 : decode cL_law 1239 = .ok (.iload 6, 2) := by decide +kernel
theorem dL_law_1241 : decode cL_law 1241 = .ok (.if_icmp .eq 5, 3) := by decide +kernel
theorem dL_law_1244 : decode cL_law 1244 = .ok (.iconst 0, 1) := by decide +kernel
theorem dL_law_1245 : decode cL_law 1245 = .ok (.ireturn, 1) := by decide +kernel
theorem dL_law_1246 : decode cL_law 1246 = .ok (.iload 6, 2) := by decide +kernel
theorem dL_law_1248 : decode cL_law 1248 = .ok (.ifCond .ne 15, 3) := by decide +kernel
theorem dL_law_1251 : decode cL_law 1251 = .ok (.aload_n 3, 1) := by decide +kernel
theorem dL_law_1252 : decode cL_law 1252 = .ok (.iconst 0, 1) := by decide +kernel
theorem dL_law_1253 : decode cL_law 1253 = .ok (.laload, 1) := by decide +kernel
theorem dL_law_1254 : decode cL_law 1254 = .ok (.iload 7, 2) := by decide +kernel
theorem dL_law_1256 : decode cL_law 1256 = .ok (.i2l, 1) := by decide +kernel
theorem dL_law_1257 : decode cL_law 1257 = .ok (.lcmp, 1) := by decide +kernel
theorem dL_law_1258 : decode cL_law 1258 = .ok (.ifCond .eq 5, 3) := by decide +kernel
theorem dL_law_1261 : decode cL_law 1261 = .ok (.iconst 0, 1) := by decide +kernel
theorem dL_law_1262 : decode cL_law 1262 = .ok (.ireturn, 1) := by decide +kernel
theorem dL_law_1263 : decode cL_law 1263 = .ok (.goto 860, 3) := by decide +kernel
theorem dL_law_1266 : decode cL_law 1266 = .ok (.aload_n 1, 1) := by decide +kernel
theorem dL_law_1267 : decode cL_law 1267 = .ok (.aload_n 0, 1) := by decide +kernel
theorem dL_law_1268 : decode cL_law 1268 = .ok (.iload 5, 2) := by decide +kernel
theorem dL_law_1270 : decode cL_law 1270 = .ok (.iconst 1, 1) := by decide +kernel
theorem dL_law_1271 : decode cL_law 1271 = .ok (.iadd, 1) := by decide +kernel
theorem dL_law_1272 : decode cL_law 1272 = .ok (.iaload, 1) := by decide +kernel
theorem dL_law_1273 : decode cL_law 1273 = .ok (.aload_n 3, 1) := by decide +kernel
theorem dL_law_1274 : decode cL_law 1274 = .ok (.invokestatic 196, 3) := by decide +kernel
theorem dL_law_1277 : decode cL_law 1277 = .ok (.istore 6, 2) := by decide +kernel
theorem dL_law_1279 : decode cL_law 1279 = .ok (.aload_n 2, 1) := by decide +kernel
theorem dL_law_1280 : decode cL_law 1280 = .ok (.aload_n 0, 1) := by decide +kernel
theorem dL_law_1281 : decode cL_law 1281 = .ok (.iload 5, 2) := by decide +kernel
theorem dL_law_1283 : decode cL_law 1283 = .ok (.iconst 1, 1) := by decide +kernel
theorem dL_law_1284 : decode cL_law 1284 = .ok (.iadd, 1) := by decide +kernel
theorem dL_law_1285 : decode cL_law 1285 = .ok (.iaload, 1) := by decide +kernel
theorem dL_law_1286 : decode cL_law 1286 = .ok (.invokevirtual 198, 3) := by decide +kernel
theorem dL_law_1289 : decode cL_law 1289 = .ok (.istore 7, 2) := by decide +kernel
theorem dL_law_1291 : decode cL_law 1291 = .ok (.aload_n 2, 1) := by decide +kernel
theorem dL_law_1292 : decode cL_law 1292 = .ok (.invokevirtual 110, 3) := by decide +kernel
theorem dL_law_1295 : decode cL_law 1295 = .ok (.iload 6, 2) := by decide +kernel
theorem dL_law_1297 : decode cL_law 1297 = .ok (.if_icmp .eq 5, 3) := by decide +kernel
theorem dL_law_1300 : decode cL_law 1300 = .ok (.iconst 0, 1) := by decide +kernel
theorem dL_law_1301 : decode cL_law 1301 = .ok (.ireturn, 1) := by decide +kernel
theorem dL_law_1302 : decode cL_law 1302 = .ok (.iload 6, 2) := by decide +kernel
theorem dL_law_1304 : decode cL_law 1304 = .ok (.ifCond .ne 15, 3) := by decide +kernel
theorem dL_law_1307 : decode cL_law 1307 = .ok (.aload_n 3, 1) := by decide +kernel
theorem dL_law_1308 : decode cL_law 1308 = .ok (.iconst 0, 1) := by decide +kernel
theorem dL_law_1309 : decode cL_law 1309 = .ok (.laload, 1) := by decide +kernel
theorem dL_law_1310 : decode cL_law 1310 = .ok (.iload 7, 2) := by decide +kernel
theorem dL_law_1312 : decode cL_law 1312 = .ok (.i2l, 1) := by decide +kernel
theorem dL_law_1313 : decode cL_law 1313 = .ok (.lcmp, 1) := by decide +kernel
theorem dL_law_1314 : decode cL_law 1314 = .ok (.ifCond .eq 5, 3) := by decide +kernel
theorem dL_law_1317 : decode cL_law 1317 = .ok (.iconst 0, 1) := by decide +kernel
theorem dL_law_1318 : decode cL_law 1318 = .ok (.ireturn, 1) := by decide +kernel
theorem dL_law_1319 : decode cL_law 1319 = .ok (.goto 804, 3) := by decide +kernel
theorem dL_law_1322 : decode cL_law 1322 = .ok (.aload_n 1, 1) := by decide +kernel
theorem dL_law_1323 : decode cL_law 1323 = .ok (.aload_n 0, 1) := by decide +kernel
theorem dL_law_1324 : decode cL_law 1324 = .ok (.iload 5, 2) := by decide +kernel
theorem dL_law_1326 : decode cL_law 1326 = .ok (.iconst 1, 1) := by decide +kernel
theorem dL_law_1327 : decode cL_law 1327 = .ok (.iadd, 1) := by decide +kernel
theorem dL_law_1328 : decode cL_law 1328 = .ok (.iaload, 1) := by decide +kernel
theorem dL_law_1329 : decode cL_law 1329 = .ok (.aload_n 0, 1) := by decide +kernel
theorem dL_law_1330 : decode cL_law 1330 = .ok (.iload 5, 2) := by decide +kernel
theorem dL_law_1332 : decode cL_law 1332 = .ok (.iconst 2, 1) := by decide +kernel
theorem dL_law_1333 : decode cL_law 1333 = .ok (.iadd, 1) := by decide +kernel
theorem dL_law_1334 : decode cL_law 1334 = .ok (.iaload, 1) := by decide +kernel
theorem dL_law_1335 : decode cL_law 1335 = .ok (.aload_n 3, 1) := by decide +kernel
theorem dL_law_1336 : decode cL_law 1336 = .ok (.invokestatic 199, 3) := by decide +kernel
theorem dL_law_1339 : decode cL_law 1339 = .ok (.istore 6, 2) := by decide +kernel
theorem dL_law_1341 : decode cL_law 1341 = .ok (.aload_n 2, 1) := by decide +kernel
theorem dL_law_1342 : decode cL_law 1342 = .ok (.aload_n 0, 1) := by decide +kernel
theorem dL_law_1343 : decode cL_law 1343 = .ok (.iload 5, 2) := by decide +kernel
theorem dL_law_1345 : decode cL_law 1345 = .ok (.iconst 1, 1) := by decide +kernel
theorem dL_law_1346 : decode cL_law 1346 = .ok (.iadd, 1) := by decide +kernel
theorem dL_law_1347 : decode cL_law 1347 = .ok (.iaload, 1) := by decide +kernel
theorem dL_law_1348 : decode cL_law 1348 = .ok (.aload_n 0, 1) := by decide +kernel
theorem dL_law_1349 : decode cL_law 1349 = .ok (.iload 5, 2) := by decide +kernel
theorem dL_law_1351 : decode cL_law 1351 = .ok (.iconst 2, 1) := by decide +kernel
theorem dL_law_1352 : decode cL_law 1352 = .ok (.iadd, 1) := by decide +kernel
theorem dL_law_1353 : decode cL_law 1353 = .ok (.iaload, 1) := by decide +kernel
theorem dL_law_1354 : decode cL_law 1354 = .ok (.invokevirtual 201, 3) := by decide +kernel
theorem dL_law_1357 : decode cL_law 1357 = .ok (.istore 7, 2) := by decide +kernel
theorem dL_law_1359 : decode cL_law 1359 = .ok (.aload_n 2, 1) := by decide +kernel
theorem dL_law_1360 : decode cL_law 1360 = .ok (.invokevirtual 110, 3) := by decide +kernel
theorem dL_law_1363 : decode cL_law 1363 = .ok (.iload 6, 2) := by decide +kernel
theorem dL_law_1365 : decode cL_law 1365 = .ok (.if_icmp .eq 5, 3) := by decide +kernel
theorem dL_law_1368 : decode cL_law 1368 = .ok (.iconst 0, 1) := by decide +kernel
theorem dL_law_1369 : decode cL_law 1369 = .ok (.ireturn, 1) := by decide +kernel
theorem dL_law_1370 : decode cL_law 1370 = .ok (.iload 6, 2) := by decide +kernel
theorem dL_law_1372 : decode cL_law 1372 = .ok (.ifCond .ne 15, 3) := by decide +kernel
theorem dL_law_1375 : decode cL_law 1375 = .ok (.aload_n 3, 1) := by decide +kernel
theorem dL_law_1376 : decode cL_law 1376 = .ok (.iconst 0, 1) := by decide +kernel
theorem dL_law_1377 : decode cL_law 1377 = .ok (.laload, 1) := by decide +kernel
theorem dL_law_1378 : decode cL_law 1378 = .ok (.iload 7, 2) := by decide +kernel
theorem dL_law_1380 : decode cL_law 1380 = .ok (.i2l, 1) := by decide +kernel
theorem dL_law_1381 : decode cL_law 1381 = .ok (.lcmp, 1) := by decide +kernel
theorem dL_law_1382 : decode cL_law 1382 = .ok (.ifCond .eq 5, 3) := by decide +kernel
theorem dL_law_1385 : decode cL_law 1385 = .ok (.iconst 0, 1) := by decide +kernel
theorem dL_law_1386 : decode cL_law 1386 = .ok (.ireturn, 1) := by decide +kernel
theorem dL_law_1387 : decode cL_law 1387 = .ok (.goto 736, 3) := by decide +kernel
theorem dL_law_1390 : decode cL_law 1390 = .ok (.aload_n 1, 1) := by decide +kernel
theorem dL_law_1391 : decode cL_law 1391 = .ok (.aload_n 0, 1) := by decide +kernel
theorem dL_law_1392 : decode cL_law 1392 = .ok (.iload 5, 2) := by decide +kernel
theorem dL_law_1394 : decode cL_law 1394 = .ok (.iconst 1, 1) := by decide +kernel
theorem dL_law_1395 : decode cL_law 1395 = .ok (.iadd, 1) := by decide +kernel
theorem dL_law_1396 : decode cL_law 1396 = .ok (.iaload, 1) := by decide +kernel
theorem dL_law_1397 : decode cL_law 1397 = .ok (.aload_n 0, 1) := by decide +kernel
theorem dL_law_1398 : decode cL_law 1398 = .ok (.iload 5, 2) := by decide +kernel
theorem dL_law_1400 : decode cL_law 1400 = .ok (.iconst 2, 1) := by decide +kernel
theorem dL_law_1401 : decode cL_law 1401 = .ok (.iadd, 1) := by decide +kernel
theorem dL_law_1402 : decode cL_law 1402 = .ok (.iaload, 1) := by decide +kernel
theorem dL_law_1403 : decode cL_law 1403 = .ok (.aload_n 3, 1) := by decide +kernel
theorem dL_law_1404 : decode cL_law 1404 = .ok (.invokestatic 202, 3) := by decide +kernel
theorem dL_law_1407 : decode cL_law 1407 = .ok (.istore 6, 2) := by decide +kernel
theorem dL_law_1409 : decode cL_law 1409 = .ok (.aload_n 2, 1) := by decide +kernel
theorem dL_law_1410 : decode cL_law 1410 = .ok (.aload_n 0, 1) := by decide +kernel
theorem dL_law_1411 : decode cL_law 1411 = .ok (.iload 5, 2) := by decide +kernel
theorem dL_law_1413 : decode cL_law 1413 = .ok (.iconst 1, 1) := by decide +kernel
theorem dL_law_1414 : decode cL_law 1414 = .ok (.iadd, 1) := by decide +kernel
theorem dL_law_1415 : decode cL_law 1415 = .ok (.iaload, 1) := by decide +kernel
theorem dL_law_1416 : decode cL_law 1416 = .ok (.aload_n 0, 1) := by decide +kernel
theorem dL_law_1417 : decode cL_law 1417 = .ok (.iload 5, 2) := by decide +kernel
theorem dL_law_1419 : decode cL_law 1419 = .ok (.iconst 2, 1) := by decide +kernel
theorem dL_law_1420 : decode cL_law 1420 = .ok (.iadd, 1) := by decide +kernel
theorem dL_law_1421 : decode cL_law 1421 = .ok (.iaload, 1) := by decide +kernel
theorem dL_law_1422 : decode cL_law 1422 = .ok (.invokevirtual 204, 3) := by decide +kernel
theorem dL_law_1425 : decode cL_law 1425 = .ok (.istore 7, 2) := by decide +kernel
theorem dL_law_1427 : decode cL_law 1427 = .ok (.aload_n 2, 1) := by decide +kernel
theorem dL_law_1428 : decode cL_law 1428 = .ok (.invokevirtual 110, 3) := by decide +kernel
theorem dL_law_1431 : decode cL_law 1431 = .ok (.iload 6, 2) := by decide +kernel
theorem dL_law_1433 : decode cL_law 1433 = .ok (.if_icmp .eq 5, 3) := by decide +kernel
theorem dL_law_1436 : decode cL_law 1436 = .ok (.iconst 0, 1) := by decide +kernel
theorem dL_law_1437 : decode cL_law 1437 = .ok (.ireturn, 1) := by decide +kernel
theorem dL_law_1438 : decode cL_law 1438 = .ok (.iload 6, 2) := by decide +kernel
theorem dL_law_1440 : decode cL_law 1440 = .ok (.ifCond .ne 15, 3) := by decide +kernel
theorem dL_law_1443 : decode cL_law 1443 = .ok (.aload_n 3, 1) := by decide +kernel
theorem dL_law_1444 : decode cL_law 1444 = .ok (.iconst 0, 1) := by decide +kernel
theorem dL_law_1445 : decode cL_law 1445 = .ok (.laload, 1) := by decide +kernel
theorem dL_law_1446 : decode cL_law 1446 = .ok (.iload 7, 2) := by decide +kernel
theorem dL_law_1448 : decode cL_law 1448 = .ok (.i2l, 1) := by decide +kernel
theorem dL_law_1449 : decode cL_law 1449 = .ok (.lcmp, 1) := by decide +kernel
theorem dL_law_1450 : decode cL_law 1450 = .ok (.ifCond .eq 5, 3) := by decide +kernel
theorem dL_law_1453 : decode cL_law 1453 = .ok (.iconst 0, 1) := by decide +kernel
theorem dL_law_1454 : decode cL_law 1454 = .ok (.ireturn, 1) := by decide +kernel
theorem dL_law_1455 : decode cL_law 1455 = .ok (.goto 668, 3) := by decide +kernel
theorem dL_law_1458 : decode cL_law 1458 = .ok (.aload_n 1, 1) := by decide +kernel
theorem dL_law_1459 : decode cL_law 1459 = .ok (.aload_n 0, 1) := by decide +kernel
theorem dL_law_1460 : decode cL_law 1460 = .ok (.iload 5, 2) := by decide +kernel
theorem dL_law_1462 : decode cL_law 1462 = .ok (.iconst 1, 1) := by decide +kernel
theorem dL_law_1463 : decode cL_law 1463 = .ok (.iadd, 1) := by decide +kernel
theorem dL_law_1464 : decode cL_law 1464 = .ok (.iaload, 1) := by decide +kernel
theorem dL_law_1465 : decode cL_law 1465 = .ok (.aload_n 0, 1) := by decide +kernel
theorem dL_law_1466 : decode cL_law 1466 = .ok (.iload 5, 2) := by decide +kernel
theorem dL_law_1468 : decode cL_law 1468 = .ok (.iconst 2, 1) := by decide +kernel
theorem dL_law_1469 : decode cL_law 1469 = .ok (.iadd, 1) := by decide +kernel
theorem dL_law_1470 : decode cL_law 1470 = .ok (.iaload, 1) := by decide +kernel
theorem dL_law_1471 : decode cL_law 1471 = .ok (.aload_n 3, 1) := by decide +kernel
theorem dL_law_1472 : decode cL_law 1472 = .ok (.invokestatic 205, 3) := by decide +kernel
theorem dL_law_1475 : decode cL_law 1475 = .ok (.istore 6, 2) := by decide +kernel
theorem dL_law_1477 : decode cL_law 1477 = .ok (.aload_n 2, 1) := by decide +kernel
theorem dL_law_1478 : decode cL_law 1478 = .ok (.aload_n 0, 1) := by decide +kernel
theorem dL_law_1479 : decode cL_law 1479 = .ok (.iload 5, 2) := by decide +kernel
theorem dL_law_1481 : decode cL_law 1481 = .ok (.iconst 1, 1) := by decide +kernel
theorem dL_law_1482 : decode cL_law 1482 = .ok (.iadd, 1) := by decide +kernel
theorem dL_law_1483 : decode cL_law 1483 = .ok (.iaload, 1) := by decide +kernel
theorem dL_law_1484 : decode cL_law 1484 = .ok (.aload_n 0, 1) := by decide +kernel
theorem dL_law_1485 : decode cL_law 1485 = .ok (.iload 5, 2) := by decide +kernel
theorem dL_law_1487 : decode cL_law 1487 = .ok (.iconst 2, 1) := by decide +kernel
theorem dL_law_1488 : decode cL_law 1488 = .ok (.iadd, 1) := by decide +kernel
theorem dL_law_1489 : decode cL_law 1489 = .ok (.iaload, 1) := by decide +kernel
theorem dL_law_1490 : decode cL_law 1490 = .ok (.invokevirtual 207, 3) := by decide +kernel
theorem dL_law_1493 : decode cL_law 1493 = .ok (.istore 7, 2) := by decide +kernel
theorem dL_law_1495 : decode cL_law 1495 = .ok (.aload_n 2, 1) := by decide +kernel
theorem dL_law_1496 : decode cL_law 1496 = .ok (.invokevirtual 110, 3) := by decide +kernel
theorem dL_law_1499 : decode cL_law 1499 = .ok (.iload 6, 2) := by decide +kernel
theorem dL_law_1501 : decode cL_law 1501 = .ok (.if_icmp .eq 5, 3) := by decide +kernel
theorem dL_law_1504 : decode cL_law 1504 = .ok (.iconst 0, 1) := by decide +kernel
theorem dL_law_1505 : decode cL_law 1505 = .ok (.ireturn, 1) := by decide +kernel
theorem dL_law_1506 : decode cL_law 1506 = .ok (.iload 6, 2) := by decide +kernel
theorem dL_law_1508 : decode cL_law 1508 = .ok (.ifCond .ne 15, 3) := by decide +kernel
theorem dL_law_1511 : decode cL_law 1511 = .ok (.aload_n 3, 1) := by decide +kernel
theorem dL_law_1512 : decode cL_law 1512 = .ok (.iconst 0, 1) := by decide +kernel
theorem dL_law_1513 : decode cL_law 1513 = .ok (.laload, 1) := by decide +kernel
theorem dL_law_1514 : decode cL_law 1514 = .ok (.iload 7, 2) := by decide +kernel
theorem dL_law_1516 : decode cL_law 1516 = .ok (.i2l, 1) := by decide +kernel
theorem dL_law_1517 : decode cL_law 1517 = .ok (.lcmp, 1) := by decide +kernel
theorem dL_law_1518 : decode cL_law 1518 = .ok (.ifCond .eq 5, 3) := by decide +kernel
theorem dL_law_1521 : decode cL_law 1521 = .ok (.iconst 0, 1) := by decide +kernel
theorem dL_law_1522 : decode cL_law 1522 = .ok (.ireturn, 1) := by decide +kernel
theorem dL_law_1523 : decode cL_law 1523 = .ok (.goto 600, 3) := by decide +kernel
theorem dL_law_1526 : decode cL_law 1526 = .ok (.aload_n 1, 1) := by decide +kernel
theorem dL_law_1527 : decode cL_law 1527 = .ok (.aload_n 0, 1) := by decide +kernel
theorem dL_law_1528 : decode cL_law 1528 = .ok (.iload 5, 2) := by decide +kernel
theorem dL_law_1530 : decode cL_law 1530 = .ok (.iconst 1, 1) := by decide +kernel
theorem dL_law_1531 : decode cL_law 1531 = .ok (.iadd, 1) := by decide +kernel
theorem dL_law_1532 : decode cL_law 1532 = .ok (.iaload, 1) := by decide +kernel
theorem dL_law_1533 : decode cL_law 1533 = .ok (.aload_n 0, 1) := by decide +kernel
theorem dL_law_1534 : decode cL_law 1534 = .ok (.iload 5, 2) := by decide +kernel
theorem dL_law_1536 : decode cL_law 1536 = .ok (.iconst 2, 1) := by decide +kernel
theorem dL_law_1537 : decode cL_law 1537 = .ok (.iadd, 1) := by decide +kernel
theorem dL_law_1538 : decode cL_law 1538 = .ok (.iaload, 1) := by decide +kernel
theorem dL_law_1539 : decode cL_law 1539 = .ok (.aload_n 0, 1) := by decide +kernel
theorem dL_law_1540 : decode cL_law 1540 = .ok (.iload 5, 2) := by decide +kernel
theorem dL_law_1542 : decode cL_law 1542 = .ok (.iconst 3, 1) := by decide +kernel
theorem dL_law_1543 : decode cL_law 1543 = .ok (.iadd, 1) := by decide +kernel
theorem dL_law_1544 : decode cL_law 1544 = .ok (.iaload, 1) := by decide +kernel
theorem dL_law_1545 : decode cL_law 1545 = .ok (.aload_n 3, 1) := by decide +kernel
theorem dL_law_1546 : decode cL_law 1546 = .ok (.invokestatic 208, 3) := by decide +kernel
theorem dL_law_1549 : decode cL_law 1549 = .ok (.istore 6, 2) := by decide +kernel
theorem dL_law_1551 : decode cL_law 1551 = .ok (.aload_n 2, 1) := by decide +kernel
theorem dL_law_1552 : decode cL_law 1552 = .ok (.aload_n 0, 1) := by decide +kernel
theorem dL_law_1553 : decode cL_law 1553 = .ok (.iload 5, 2) := by decide +kernel
theorem dL_law_1555 : decode cL_law 1555 = .ok (.iconst 1, 1) := by decide +kernel
theorem dL_law_1556 : decode cL_law 1556 = .ok (.iadd, 1) := by decide +kernel
theorem dL_law_1557 : decode cL_law 1557 = .ok (.iaload, 1) := by decide +kernel
theorem dL_law_1558 : decode cL_law 1558 = .ok (.aload_n 0, 1) := by decide +kernel
theorem dL_law_1559 : decode cL_law 1559 = .ok (.iload 5, 2) := by decide +kernel
theorem dL_law_1561 : decode cL_law 1561 = .ok (.iconst 2, 1) := by decide +kernel
theorem dL_law_1562 : decode cL_law 1562 = .ok (.iadd, 1) := by decide +kernel
theorem dL_law_1563 : decode cL_law 1563 = .ok (.iaload, 1) := by decide +kernel
theorem dL_law_1564 : decode cL_law 1564 = .ok (.aload_n 0, 1) := by decide +kernel
theorem dL_law_1565 : decode cL_law 1565 = .ok (.iload 5, 2) := by decide +kernel
theorem dL_law_1567 : decode cL_law 1567 = .ok (.iconst 3, 1) := by decide +kernel
theorem dL_law_1568 : decode cL_law 1568 = .ok (.iadd, 1) := by decide +kernel
theorem dL_law_1569 : decode cL_law 1569 = .ok (.iaload, 1) := by decide +kernel
theorem dL_law_1570 : decode cL_law 1570 = .ok (.invokevirtual 210, 3) := by decide +kernel
theorem dL_law_1573 : decode cL_law 1573 = .ok (.istore 7, 2) := by decide +kernel
theorem dL_law_1575 : decode cL_law 1575 = .ok (.aload_n 2, 1) := by decide +kernel
theorem dL_law_1576 : decode cL_law 1576 = .ok (.invokevirtual 110, 3) := by decide +kernel
theorem dL_law_1579 : decode cL_law 1579 = .ok (.iload 6, 2) := by decide +kernel
theorem dL_law_1581 : decode cL_law 1581 = .ok (.if_icmp .eq 5, 3) := by decide +kernel
theorem dL_law_1584 : decode cL_law 1584 = .ok (.iconst 0, 1) := by decide +kernel
theorem dL_law_1585 : decode cL_law 1585 = .ok (.ireturn, 1) := by decide +kernel
theorem dL_law_1586 : decode cL_law 1586 = .ok (.iload 6, 2) := by decide +kernel
theorem dL_law_1588 : decode cL_law 1588 = .ok (.ifCond .ne 15, 3) := by decide +kernel
theorem dL_law_1591 : decode cL_law 1591 = .ok (.aload_n 3, 1) := by decide +kernel
theorem dL_law_1592 : decode cL_law 1592 = .ok (.iconst 0, 1) := by decide +kernel
theorem dL_law_1593 : decode cL_law 1593 = .ok (.laload, 1) := by decide +kernel
theorem dL_law_1594 : decode cL_law 1594 = .ok (.iload 7, 2) := by decide +kernel
theorem dL_law_1596 : decode cL_law 1596 = .ok (.i2l, 1) := by decide +kernel
theorem dL_law_1597 : decode cL_law 1597 = .ok (.lcmp, 1) := by decide +kernel
theorem dL_law_1598 : decode cL_law 1598 = .ok (.ifCond .eq 5, 3) := by decide +kernel
theorem dL_law_1601 : decode cL_law 1601 = .ok (.iconst 0, 1) := by decide +kernel
theorem dL_law_1602 : decode cL_law 1602 = .ok (.ireturn, 1) := by decide +kernel
theorem dL_law_1603 : decode cL_law 1603 = .ok (.goto 520, 3) := by decide +kernel
theorem dL_law_1606 : decode cL_law 1606 = .ok (.aload_n 1, 1) := by decide +kernel
theorem dL_law_1607 : decode cL_law 1607 = .ok (.invokevirtual 211, 3) := by decide +kernel
theorem dL_law_1610 : decode cL_law 1610 = .ok (.aload_n 2, 1) := by decide +kernel
theorem dL_law_1611 : decode cL_law 1611 = .ok (.invokevirtual 214, 3) := by decide +kernel
theorem dL_law_1614 : decode cL_law 1614 = .ok (.if_icmp .eq 509, 3) := by decide +kernel
theorem dL_law_1617 : decode cL_law 1617 = .ok (.iconst 0, 1) := by decide +kernel
theorem dL_law_1618 : decode cL_law 1618 = .ok (.ireturn, 1) := by decide +kernel
theorem dL_law_1619 : decode cL_law 1619 = .ok (.aload_n 1, 1) := by decide +kernel
theorem dL_law_1620 : decode cL_law 1620 = .ok (.invokevirtual 215, 3) := by decide +kernel
theorem dL_law_1623 : decode cL_law 1623 = .ok (.aload_n 2, 1) := by decide +kernel
theorem dL_law_1624 : decode cL_law 1624 = .ok (.invokevirtual 218, 3) := by decide +kernel
theorem dL_law_1627 : decode cL_law 1627 = .ok (.if_icmp .eq 496, 3) := by decide +kernel
theorem dL_law_1630 : decode cL_law 1630 = .ok (.iconst 0, 1) := by decide +kernel
theorem dL_law_1631 : decode cL_law 1631 = .ok (.ireturn, 1) := by decide +kernel
theorem dL_law_1632 : decode cL_law 1632 = .ok (.aload_n 1, 1) := by decide +kernel
theorem dL_law_1633 : decode cL_law 1633 = .ok (.invokevirtual 219, 3) := by decide +kernel
theorem dL_law_1636 : decode cL_law 1636 = .ok (.aload_n 2, 1) := by decide +kernel
theorem dL_law_1637 : decode cL_law 1637 = .ok (.invokevirtual 222, 3) := by decide +kernel
theorem dL_law_1640 : decode cL_law 1640 = .ok (.if_icmp .eq 483, 3) := by decide +kernel
theorem dL_law_1643 : decode cL_law 1643 = .ok (.iconst 0, 1) := by decide +kernel
theorem dL_law_1644 : decode cL_law 1644 = .ok (.ireturn, 1) := by decide +kernel
theorem dL_law_1645 : decode cL_law 1645 = .ok (.aload_n 1, 1) := by decide +kernel
theorem dL_law_1646 : decode cL_law 1646 = .ok (.aload_n 0, 1) := by decide +kernel
theorem dL_law_1647 : decode cL_law 1647 = .ok (.iload 5, 2) := by decide +kernel
theorem dL_law_1649 : decode cL_law 1649 = .ok (.iconst 1, 1) := by decide +kernel
theorem dL_law_1650 : decode cL_law 1650 = .ok (.iadd, 1) := by decide +kernel
theorem dL_law_1651 : decode cL_law 1651 = .ok (.iaload, 1) := by decide +kernel
theorem dL_law_1652 : decode cL_law 1652 = .ok (.aload_n 3, 1) := by decide +kernel
theorem dL_law_1653 : decode cL_law 1653 = .ok (.invokestatic 223, 3) := by decide +kernel
theorem dL_law_1656 : decode cL_law 1656 = .ok (.istore 6, 2) := by decide +kernel
theorem dL_law_1658 : decode cL_law 1658 = .ok (.aload_n 2, 1) := by decide +kernel
theorem dL_law_1659 : decode cL_law 1659 = .ok (.aload_n 0, 1) := by decide +kernel
theorem dL_law_1660 : decode cL_law 1660 = .ok (.iload 5, 2) := by decide +kernel
theorem dL_law_1662 : decode cL_law 1662 = .ok (.iconst 1, 1) := by decide +kernel
theorem dL_law_1663 : decode cL_law 1663 = .ok (.iadd, 1) := by decide +kernel
theorem dL_law_1664 : decode cL_law 1664 = .ok (.iaload, 1) := by decide +kernel
theorem dL_law_1665 : decode cL_law 1665 = .ok (.invokevirtual 225, 3) := by decide +kernel
theorem dL_law_1668 : decode cL_law 1668 = .ok (.istore 7, 2) := by decide +kernel
theorem dL_law_1670 : decode cL_law 1670 = .ok (.aload_n 2, 1) := by decide +kernel
theorem dL_law_1671 : decode cL_law 1671 = .ok (.invokevirtual 110, 3) := by decide +kernel
theorem dL_law_1674 : decode cL_law 1674 = .ok (.iload 6, 2) := by decide +kernel
theorem dL_law_1676 : decode cL_law 1676 = .ok (.if_icmp .eq 5, 3) := by decide +kernel
theorem dL_law_1679 : decode cL_law 1679 = .ok (.iconst 0, 1) := by decide +kernel
theorem dL_law_1680 : decode cL_law 1680 = .ok (.ireturn, 1) := by decide +kernel
theorem dL_law_1681 : decode cL_law 1681 = .ok (.iload 6, 2) := by decide +kernel
theorem dL_law_1683 : decode cL_law 1683 = .ok (.ifCond .ne 22, 3) := by decide +kernel
theorem dL_law_1686 : decode cL_law 1686 = .ok (.aload_n 3, 1) := by decide +kernel
theorem dL_law_1687 : decode cL_law 1687 = .ok (.iconst 0, 1) := by decide +kernel
theorem dL_law_1688 : decode cL_law 1688 = .ok (.laload, 1) := by decide +kernel
theorem dL_law_1689 : decode cL_law 1689 = .ok (.iload 7, 2) := by decide +kernel
theorem dL_law_1691 : decode cL_law 1691 = .ok (.ifCond .eq 7, 3) := by decide +kernel
theorem dL_law_1694 : decode cL_law 1694 = .ok (.lconst 1, 1) := by decide +kernel
theorem dL_law_1695 : decode cL_law 1695 = .ok (.goto 4, 3) := by decide +kernel
theorem dL_law_1698 : decode cL_law 1698 = .ok (.lconst 0, 1) := by decide +kernel
theorem dL_law_1699 : decode cL_law 1699 = .ok (.lcmp, 1) := by decide +kernel
theorem dL_law_1700 : decode cL_law 1700 = .ok (.ifCond .eq 5, 3) := by decide +kernel
theorem dL_law_1703 : decode cL_law 1703 = .ok (.iconst 0, 1) := by decide +kernel
theorem dL_law_1704 : decode cL_law 1704 = .ok (.ireturn, 1) := by decide +kernel
theorem dL_law_1705 : decode cL_law 1705 = .ok (.goto 418, 3) := by decide +kernel
theorem dL_law_1708 : decode cL_law 1708 = .ok (.aload_n 1, 1) := by decide +kernel
theorem dL_law_1709 : decode cL_law 1709 = .ok (.aload_n 0, 1) := by decide +kernel
theorem dL_law_1710 : decode cL_law 1710 = .ok (.iload 5, 2) := by decide +kernel
theorem dL_law_1712 : decode cL_law 1712 = .ok (.iconst 1, 1) := by decide +kernel
theorem dL_law_1713 : decode cL_law 1713 = .ok (.iadd, 1) := by decide +kernel
theorem dL_law_1714 : decode cL_law 1714 = .ok (.iaload, 1) := by decide +kernel
theorem dL_law_1715 : decode cL_law 1715 = .ok (.aload_n 3, 1) := by decide +kernel
theorem dL_law_1716 : decode cL_law 1716 = .ok (.invokestatic 226, 3) := by decide +kernel
theorem dL_law_1719 : decode cL_law 1719 = .ok (.istore 6, 2) := by decide +kernel
theorem dL_law_1721 : decode cL_law 1721 = .ok (.aload_n 2, 1) := by decide +kernel
theorem dL_law_1722 : decode cL_law 1722 = .ok (.aload_n 0, 1) := by decide +kernel
theorem dL_law_1723 : decode cL_law 1723 = .ok (.iload 5, 2) := by decide +kernel
theorem dL_law_1725 : decode cL_law 1725 = .ok (.iconst 1, 1) := by decide +kernel
theorem dL_law_1726 : decode cL_law 1726 = .ok (.iadd, 1) := by decide +kernel
theorem dL_law_1727 : decode cL_law 1727 = .ok (.iaload, 1) := by decide +kernel
theorem dL_law_1728 : decode cL_law 1728 = .ok (.invokevirtual 228, 3) := by decide +kernel
theorem dL_law_1731 : decode cL_law 1731 = .ok (.istore 7, 2) := by decide +kernel
theorem dL_law_1733 : decode cL_law 1733 = .ok (.aload_n 2, 1) := by decide +kernel
theorem dL_law_1734 : decode cL_law 1734 = .ok (.invokevirtual 110, 3) := by decide +kernel
theorem dL_law_1737 : decode cL_law 1737 = .ok (.iload 6, 2) := by decide +kernel
theorem dL_law_1739 : decode cL_law 1739 = .ok (.if_icmp .eq 5, 3) := by decide +kernel
theorem dL_law_1742 : decode cL_law 1742 = .ok (.iconst 0, 1) := by decide +kernel
theorem dL_law_1743 : decode cL_law 1743 = .ok (.ireturn, 1) := by decide +kernel
theorem dL_law_1744 : decode cL_law 1744 = .ok (.iload 6, 2) := by decide +kernel
theorem dL_law_1746 : decode cL_law 1746 = .ok (.ifCond .ne 15, 3) := by decide +kernel
theorem dL_law_1749 : decode cL_law 1749 = .ok (.aload_n 3, 1) := by decide +kernel
theorem dL_law_1750 : decode cL_law 1750 = .ok (.iconst 0, 1) := by decide +kernel
theorem dL_law_1751 : decode cL_law 1751 = .ok (.laload, 1) := by decide +kernel
theorem dL_law_1752 : decode cL_law 1752 = .ok (.iload 7, 2) := by decide +kernel
theorem dL_law_1754 : decode cL_law 1754 = .ok (.i2l, 1) := by decide +kernel
theorem dL_law_1755 : decode cL_law 1755 = .ok (.lcmp, 1) := by decide +kernel
theorem dL_law_1756 : decode cL_law 1756 = .ok (.ifCond .eq 5, 3) := by decide +kernel
theorem dL_law_1759 : decode cL_law 1759 = .ok (.iconst 0, 1) := by decide +kernel
theorem dL_law_1760 : decode cL_law 1760 = .ok (.ireturn, 1) := by decide +kernel
theorem dL_law_1761 : decode cL_law 1761 = .ok (.goto 362, 3) := by decide +kernel
theorem dL_law_1764 : decode cL_law 1764 = .ok (.aload_n 1, 1) := by decide +kernel
theorem dL_law_1765 : decode cL_law 1765 = .ok (.aload_n 0, 1) := by decide +kernel
theorem dL_law_1766 : decode cL_law 1766 = .ok (.iload 5, 2) := by decide +kernel
theorem dL_law_1768 : decode cL_law 1768 = .ok (.iconst 1, 1) := by decide +kernel
theorem dL_law_1769 : decode cL_law 1769 = .ok (.iadd, 1) := by decide +kernel
theorem dL_law_1770 : decode cL_law 1770 = .ok (.iaload, 1) := by decide +kernel
theorem dL_law_1771 : decode cL_law 1771 = .ok (.aload_n 3, 1) := by decide +kernel
theorem dL_law_1772 : decode cL_law 1772 = .ok (.invokestatic 229, 3) := by decide +kernel
theorem dL_law_1775 : decode cL_law 1775 = .ok (.istore 6, 2) := by decide +kernel
theorem dL_law_1777 : decode cL_law 1777 = .ok (.aload_n 2, 1) := by decide +kernel
theorem dL_law_1778 : decode cL_law 1778 = .ok (.aload_n 0, 1) := by decide +kernel
theorem dL_law_1779 : decode cL_law 1779 = .ok (.iload 5, 2) := by decide +kernel
theorem dL_law_1781 : decode cL_law 1781 = .ok (.iconst 1, 1) := by decide +kernel
theorem dL_law_1782 : decode cL_law 1782 = .ok (.iadd, 1) := by decide +kernel
theorem dL_law_1783 : decode cL_law 1783 = .ok (.iaload, 1) := by decide +kernel
theorem dL_law_1784 : decode cL_law 1784 = .ok (.invokevirtual 231, 3) := by decide +kernel
theorem dL_law_1787 : decode cL_law 1787 = .ok (.istore 7, 2) := by decide +kernel
theorem dL_law_1789 : decode cL_law 1789 = .ok (.aload_n 2, 1) := by decide +kernel
theorem dL_law_1790 : decode cL_law 1790 = .ok (.invokevirtual 110, 3) := by decide +kernel
theorem dL_law_1793 : decode cL_law 1793 = .ok (.iload 6, 2) := by decide +kernel
theorem dL_law_1795 : decode cL_law 1795 = .ok (.if_icmp .eq 5, 3) := by decide +kernel
theorem dL_law_1798 : decode cL_law 1798 = .ok (.iconst 0, 1) := by decide +kernel
theorem dL_law_1799 : decode cL_law 1799 = .ok (.ireturn, 1) := by decide +kernel
theorem dL_law_1800 : decode cL_law 1800 = .ok (.iload 6, 2) := by decide +kernel
theorem dL_law_1802 : decode cL_law 1802 = .ok (.ifCond .ne 15, 3) := by decide +kernel
theorem dL_law_1805 : decode cL_law 1805 = .ok (.aload_n 3, 1) := by decide +kernel
theorem dL_law_1806 : decode cL_law 1806 = .ok (.iconst 0, 1) := by decide +kernel
theorem dL_law_1807 : decode cL_law 1807 = .ok (.laload, 1) := by decide +kernel
theorem dL_law_1808 : decode cL_law 1808 = .ok (.iload 7, 2) := by decide +kernel
theorem dL_law_1810 : decode cL_law 1810 = .ok (.i2l, 1) := by decide +kernel
theorem dL_law_1811 : decode cL_law 1811 = .ok (.lcmp, 1) := by decide +kernel
theorem dL_law_1812 : decode cL_law 1812 = .ok (.ifCond .eq 5, 3) := by decide +kernel
theorem dL_law_1815 : decode cL_law 1815 = .ok (.iconst 0, 1) := by decide +kernel
theorem dL_law_1816 : decode cL_law 1816 = .ok (.ireturn, 1) := by decide +kernel
theorem dL_law_1817 : decode cL_law 1817 = .ok (.goto 306, 3) := by decide +kernel
theorem dL_law_1820 : decode cL_law 1820 = .ok (.aload_n 1, 1) := by decide +kernel
theorem dL_law_1821 : decode cL_law 1821 = .ok (.aload_n 3, 1) := by decide +kernel
theorem dL_law_1822 : decode cL_law 1822 = .ok (.invokestatic 232, 3) := by decide +kernel
theorem dL_law_1825 : decode cL_law 1825 = .ok (.istore 6, 2) := by decide +kernel
theorem dL_law_1827 : decode cL_law 1827 = .ok (.aload_n 2, 1) := by decide +kernel
theorem dL_law_1828 : decode cL_law 1828 = .ok (.invokevirtual 234, 3) := by decide +kernel
theorem dL_law_1831 : decode cL_law 1831 = .ok (.istore 7, 2) := by decide +kernel
theorem dL_law_1833 : decode cL_law 1833 = .ok (.aload_n 2, 1) := by decide +kernel
theorem dL_law_1834 : decode cL_law 1834 = .ok (.invokevirtual 110, 3) := by decide +kernel
theorem dL_law_1837 : decode cL_law 1837 = .ok (.iload 6, 2) := by decide +kernel
theorem dL_law_1839 : decode cL_law 1839 = .ok (.if_icmp .eq 5, 3) := by decide +kernel
theorem dL_law_1842 : decode cL_law 1842 = .ok (.iconst 0, 1) := by decide +kernel
theorem dL_law_1843 : decode cL_law 1843 = .ok (.ireturn, 1) := by decide +kernel
theorem dL_law_1844 : decode cL_law 1844 = .ok (.iload 6, 2) := by decide +kernel
theorem dL_law_1846 : decode cL_law 1846 = .ok (.ifCond .ne 15, 3) := by decide +kernel
theorem dL_law_1849 : decode cL_law 1849 = .ok (.aload_n 3, 1) := by decide +kernel
theorem dL_law_1850 : decode cL_law 1850 = .ok (.iconst 0, 1) := by decide +kernel
theorem dL_law_1851 : decode cL_law 1851 = .ok (.laload, 1) := by decide +kernel
theorem dL_law_1852 : decode cL_law 1852 = .ok (.iload 7, 2) := by decide +kernel
theorem dL_law_1854 : decode cL_law 1854 = .ok (.i2l, 1) := by decide +kernel
theorem dL_law_1855 : decode cL_law 1855 = .ok (.lcmp, 1) := by decide +kernel
theorem dL_law_1856 : decode cL_law 1856 = .ok (.ifCond .eq 5, 3) := by decide +kernel
theorem dL_law_1859 : decode cL_law 1859 = .ok (.iconst 0, 1) := by decide +kernel
theorem dL_law_1860 : decode cL_law 1860 = .ok (.ireturn, 1) := by decide +kernel
theorem dL_law_1861 : decode cL_law 1861 = .ok (.goto 262, 3) := by decide +kernel
theorem dL_law_1864 : decode cL_law 1864 = .ok (.aload_n 1, 1) := by decide +kernel
theorem dL_law_1865 : decode cL_law 1865 = .ok (.aload_n 3, 1) := by decide +kernel
theorem dL_law_1866 : decode cL_law 1866 = .ok (.invokestatic 235, 3) := by decide +kernel
theorem dL_law_1869 : decode cL_law 1869 = .ok (.istore 6, 2) := by decide +kernel
theorem dL_law_1871 : decode cL_law 1871 = .ok (.aload_n 2, 1) := by decide +kernel
theorem dL_law_1872 : decode cL_law 1872 = .ok (.invokevirtual 237, 3) := by decide +kernel
theorem dL_law_1875 : decode cL_law 1875 = .ok (.istore 7, 2) := by decide +kernel
theorem dL_law_1877 : decode cL_law 1877 = .ok (.aload_n 2, 1) := by decide +kernel
theorem dL_law_1878 : decode cL_law 1878 = .ok (.invokevirtual 110, 3) := by decide +kernel
theorem dL_law_1881 : decode cL_law 1881 = .ok (.iload 6, 2) := by decide +kernel
theorem dL_law_1883 : decode cL_law 1883 = .ok (.if_icmp .eq 5, 3) := by decide +kernel
theorem dL_law_1886 : decode cL_law 1886 = .ok (.iconst 0, 1) := by decide +kernel
theorem dL_law_1887 : decode cL_law 1887 = .ok (.ireturn, 1) := by decide +kernel
theorem dL_law_1888 : decode cL_law 1888 = .ok (.iload 6, 2) := by decide +kernel
theorem dL_law_1890 : decode cL_law 1890 = .ok (.ifCond .ne 15, 3) := by decide +kernel
theorem dL_law_1893 : decode cL_law 1893 = .ok (.aload_n 3, 1) := by decide +kernel
theorem dL_law_1894 : decode cL_law 1894 = .ok (.iconst 0, 1) := by decide +kernel
theorem dL_law_1895 : decode cL_law 1895 = .ok (.laload, 1) := by decide +kernel
theorem dL_law_1896 : decode cL_law 1896 = .ok (.iload 7, 2) := by decide +kernel
theorem dL_law_1898 : decode cL_law 1898 = .ok (.i2l, 1) := by decide +kernel
theorem dL_law_1899 : decode cL_law 1899 = .ok (.lcmp, 1) := by decide +kernel
theorem dL_law_1900 : decode cL_law 1900 = .ok (.ifCond .eq 5, 3) := by decide +kernel
theorem dL_law_1903 : decode cL_law 1903 = .ok (.iconst 0, 1) := by decide +kernel
theorem dL_law_1904 : decode cL_law 1904 = .ok (.ireturn, 1) := by decide +kernel
theorem dL_law_1905 : decode cL_law 1905 = .ok (.goto 218, 3) := by decide +kernel
theorem dL_law_1908 : decode cL_law 1908 = .ok (.aload_n 1, 1) := by decide +kernel
theorem dL_law_1909 : decode cL_law 1909 = .ok (.aload_n 0, 1) := by decide +kernel
theorem dL_law_1910 : decode cL_law 1910 = .ok (.iload 5, 2) := by decide +kernel
theorem dL_law_1912 : decode cL_law 1912 = .ok (.iconst 1, 1) := by decide +kernel
theorem dL_law_1913 : decode cL_law 1913 = .ok (.iadd, 1) := by decide +kernel
theorem dL_law_1914 : decode cL_law 1914 = .ok (.iaload, 1) := by decide +kernel
theorem dL_law_1915 : decode cL_law 1915 = .ok (.aload_n 3, 1) := by decide +kernel
theorem dL_law_1916 : decode cL_law 1916 = .ok (.invokestatic 238, 3) := by decide +kernel
theorem dL_law_1919 : decode cL_law 1919 = .ok (.istore 6, 2) := by decide +kernel
theorem dL_law_1921 : decode cL_law 1921 = .ok (.aload_n 2, 1) := by decide +kernel
theorem dL_law_1922 : decode cL_law 1922 = .ok (.aload_n 0, 1) := by decide +kernel
theorem dL_law_1923 : decode cL_law 1923 = .ok (.iload 5, 2) := by decide +kernel
theorem dL_law_1925 : decode cL_law 1925 = .ok (.iconst 1, 1) := by decide +kernel
theorem dL_law_1926 : decode cL_law 1926 = .ok (.iadd, 1) := by decide +kernel
theorem dL_law_1927 : decode cL_law 1927 = .ok (.iaload, 1) := by decide +kernel
theorem dL_law_1928 : decode cL_law 1928 = .ok (.invokevirtual 240, 3) := by decide +kernel
theorem dL_law_1931 : decode cL_law 1931 = .ok (.istore 7, 2) := by decide +kernel
theorem dL_law_1933 : decode cL_law 1933 = .ok (.aload_n 2, 1) := by decide +kernel
theorem dL_law_1934 : decode cL_law 1934 = .ok (.invokevirtual 110, 3) := by decide +kernel
theorem dL_law_1937 : decode cL_law 1937 = .ok (.iload 6, 2) := by decide +kernel
theorem dL_law_1939 : decode cL_law 1939 = .ok (.if_icmp .eq 5, 3) := by decide +kernel
theorem dL_law_1942 : decode cL_law 1942 = .ok (.iconst 0, 1) := by decide +kernel
theorem dL_law_1943 : decode cL_law 1943 = .ok (.ireturn, 1) := by decide +kernel
theorem dL_law_1944 : decode cL_law 1944 = .ok (.iload 6, 2) := by decide +kernel
theorem dL_law_1946 : decode cL_law 1946 = .ok (.ifCond .ne 15, 3) := by decide +kernel
theorem dL_law_1949 : decode cL_law 1949 = .ok (.aload_n 3, 1) := by decide +kernel
theorem dL_law_1950 : decode cL_law 1950 = .ok (.iconst 0, 1) := by decide +kernel
theorem dL_law_1951 : decode cL_law 1951 = .ok (.laload, 1) := by decide +kernel
theorem dL_law_1952 : decode cL_law 1952 = .ok (.iload 7, 2) := by decide +kernel
theorem dL_law_1954 : decode cL_law 1954 = .ok (.i2l, 1) := by decide +kernel
theorem dL_law_1955 : decode cL_law 1955 = .ok (.lcmp, 1) := by decide +kernel
theorem dL_law_1956 : decode cL_law 1956 = .ok (.ifCond .eq 5, 3) := by decide +kernel
theorem dL_law_1959 : decode cL_law 1959 = .ok (.iconst 0, 1) := by decide +kernel
theorem dL_law_1960 : decode cL_law 1960 = .ok (.ireturn, 1) := by decide +kernel
theorem dL_law_1961 : decode cL_law 1961 = .ok (.goto 162, 3) := by decide +kernel
theorem dL_law_1964 : decode cL_law 1964 = .ok (.aload_n 1, 1) := by decide +kernel
theorem dL_law_1965 : decode cL_law 1965 = .ok (.invokevirtual 241, 3) := by decide +kernel
theorem dL_law_1968 : decode cL_law 1968 = .ok (.aload_n 2, 1) := by decide +kernel
theorem dL_law_1969 : decode cL_law 1969 = .ok (.invokevirtual 244, 3) := by decide +kernel
theorem dL_law_1972 : decode cL_law 1972 = .ok (.if_icmp .eq 151, 3) := by decide +kernel
theorem dL_law_1975 : decode cL_law 1975 = .ok (.iconst 0, 1) := by decide +kernel
theorem dL_law_1976 : decode cL_law 1976 = .ok (.ireturn, 1) := by decide +kernel
theorem dL_law_1977 : decode cL_law 1977 = .ok (.aload_n 1, 1) := by decide +kernel
theorem dL_law_1978 : decode cL_law 1978 = .ok (.invokevirtual 245, 3) := by decide +kernel
theorem dL_law_1981 : decode cL_law 1981 = .ok (.dstore 6, 2) := by decide +kernel
theorem dL_law_1983 : decode cL_law 1983 = .ok (.aload_n 2, 1) := by decide +kernel
theorem dL_law_1984 : decode cL_law 1984 = .ok (.invokevirtual 249, 3) := by decide +kernel
theorem dL_law_1987 : decode cL_law 1987 = .ok (.dstore 8, 2) := by decide +kernel
theorem dL_law_1989 : decode cL_law 1989 = .ok (.dload 6, 2) := by decide +kernel
theorem dL_law_1991 : decode cL_law 1991 = .ok (.dload 8, 2) := by decide +kernel
theorem dL_law_1993 : decode cL_law 1993 = .ok (.dcmp .l, 1) := by decide +kernel
theorem dL_law_1994 : decode cL_law 1994 = .ok (.ifCond .eq 21, 3) := by decide +kernel
theorem dL_law_1997 : decode cL_law 1997 = .ok (.dload 6, 2) := by decide +kernel
theorem dL_law_1999 : decode cL_law 1999 = .ok (.dload 6, 2) := by decide +kernel
theorem dL_law_2001 : decode cL_law 2001 = .ok (.dcmp .l, 1) := by decide +kernel
theorem dL_law_2002 : decode cL_law 2002 = .ok (.ifCond .eq 11, 3) := by decide +kernel
theorem dL_law_2005 : decode cL_law 2005 = .ok (.dload 8, 2) := by decide +kernel
theorem dL_law_2007 : decode cL_law 2007 = .ok (.dload 8, 2) := by decide +kernel
theorem dL_law_2009 : decode cL_law 2009 = .ok (.dcmp .l, 1) := by decide +kernel
theorem dL_law_2010 : decode cL_law 2010 = .ok (.ifCond .ne 5, 3) := by decide +kernel
theorem dL_law_2013 : decode cL_law 2013 = .ok (.iconst 0, 1) := by decide +kernel
theorem dL_law_2014 : decode cL_law 2014 = .ok (.ireturn, 1) := by decide +kernel
theorem dL_law_2015 : decode cL_law 2015 = .ok (.goto 108, 3) := by decide +kernel
theorem dL_law_2018 : decode cL_law 2018 = .ok (.aload_n 1, 1) := by decide +kernel
theorem dL_law_2019 : decode cL_law 2019 = .ok (.aload_n 0, 1) := by decide +kernel
theorem dL_law_2020 : decode cL_law 2020 = .ok (.iload 5, 2) := by decide +kernel
theorem dL_law_2022 : decode cL_law 2022 = .ok (.iconst 1, 1) := by decide +kernel
theorem dL_law_2023 : decode cL_law 2023 = .ok (.iadd, 1) := by decide +kernel
theorem dL_law_2024 : decode cL_law 2024 = .ok (.iaload, 1) := by decide +kernel
theorem dL_law_2025 : decode cL_law 2025 = .ok (.aload 4, 2) := by decide +kernel
theorem dL_law_2027 : decode cL_law 2027 = .ok (.invokestatic 250, 3) := by decide +kernel
theorem dL_law_2030 : decode cL_law 2030 = .ok (.istore 6, 2) := by decide +kernel
theorem dL_law_2032 : decode cL_law 2032 = .ok (.aload_n 2, 1) := by decide +kernel
theorem dL_law_2033 : decode cL_law 2033 = .ok (.aload_n 0, 1) := by decide +kernel
theorem dL_law_2034 : decode cL_law 2034 = .ok (.iload 5, 2) := by decide +kernel
theorem dL_law_2036 : decode cL_law 2036 = .ok (.iconst 1, 1) := by decide +kernel
theorem dL_law_2037 : decode cL_law 2037 = .ok (.iadd, 1) := by decide +kernel
theorem dL_law_2038 : decode cL_law 2038 = .ok (.iaload, 1) := by decide +kernel
theorem dL_law_2039 : decode cL_law 2039 = .ok (.invokevirtual 253, 3) := by decide +kernel
theorem dL_law_2042 : decode cL_law 2042 = .ok (.fstore 7, 2) := by decide +kernel
theorem dL_law_2044 : decode cL_law 2044 = .ok (.aload_n 2, 1) := by decide +kernel
theorem dL_law_2045 : decode cL_law 2045 = .ok (.invokevirtual 110, 3) := by decide +kernel
theorem dL_law_2048 : decode cL_law 2048 = .ok (.iload 6, 2) := by decide +kernel
theorem dL_law_2050 : decode cL_law 2050 = .ok (.if_icmp .eq 5, 3) := by decide +kernel
theorem dL_law_2053 : decode cL_law 2053 = .ok (.iconst 0, 1) := by decide +kernel
theorem dL_law_2054 : decode cL_law 2054 = .ok (.ireturn, 1) := by decide +kernel
theorem dL_law_2055 : decode cL_law 2055 = .ok (.iload 6, 2) := by decide +kernel
theorem dL_law_2057 : decode cL_law 2057 = .ok (.ifCond .ne 36, 3) := by decide +kernel
theorem dL_law_2060 : decode cL_law 2060 = .ok (.aload 4, 2) := by decide +kernel
theorem dL_law_2062 : decode cL_law 2062 = .ok (.iconst 0, 1) := by decide +kernel
theorem dL_law_2063 : decode cL_law 2063 = .ok (.daload, 1) := by decide +kernel
theorem dL_law_2064 : decode cL_law 2064 = .ok (.fload 7, 2) := by decide +kernel
theorem dL_law_2066 : decode cL_law 2066 = .ok (.f2d, 1) := by decide +kernel
theorem dL_law_2067 : decode cL_law 2067 = .ok (.dcmp .l, 1) := by decide +kernel
theorem dL_law_2068 : decode cL_law 2068 = .ok (.ifCond .eq 25, 3) := by decide +kernel
theorem dL_law_2071 : decode cL_law 2071 = .ok (.aload 4, 2) := by decide +kernel
theorem dL_law_2073 : decode cL_law 2073 = .ok (.iconst 0, 1) := by decide +kernel
theorem dL_law_2074 : decode cL_law 2074 = .ok (.daload, 1) := by decide +kernel
theorem dL_law_2075 : decode cL_law 2075 = .ok (.aload 4, 2) := by decide +kernel
theorem dL_law_2077 : decode cL_law 2077 = .ok (.iconst 0, 1) := by decide +kernel
theorem dL_law_2078 : decode cL_law 2078 = .ok (.daload, 1) := by decide +kernel
theorem dL_law_2079 : decode cL_law 2079 = .ok (.dcmp .l, 1) := by decide +kernel
theorem dL_law_2080 : decode cL_law 2080 = .ok (.ifCond .eq 11, 3) := by decide +kernel
theorem dL_law_2083 : decode cL_law 2083 = .ok (.fload 7, 2) := by decide +kernel
theorem dL_law_2085 : decode cL_law 2085 = .ok (.fload 7, 2) := by decide +kernel
theorem dL_law_2087 : decode cL_law 2087 = .ok (.fcmp .l, 1) := by decide +kernel
theorem dL_law_2088 : decode cL_law 2088 = .ok (.ifCond .ne 5, 3) := by decide +kernel
theorem dL_law_2091 : decode cL_law 2091 = .ok (.iconst 0, 1) := by decide +kernel
theorem dL_law_2092 : decode cL_law 2092 = .ok (.ireturn, 1) := by decide +kernel
theorem dL_law_2093 : decode cL_law 2093 = .ok (.goto 30, 3) := by decide +kernel
theorem dL_law_2096 : decode cL_law 2096 = .ok (.aload_n 1, 1) := by decide +kernel
theorem dL_law_2097 : decode cL_law 2097 = .ok (.invokevirtual 254, 3) := by decide +kernel
theorem dL_law_2100 : decode cL_law 2100 = .ok (.aload_n 2, 1) := by decide +kernel
theorem dL_law_2101 : decode cL_law 2101 = .ok (.invokevirtual 258, 3) := by decide +kernel
theorem dL_law_2104 : decode cL_law 2104 = .ok (.lcmp, 1) := by decide +kernel
theorem dL_law_2105 : decode cL_law 2105 = .ok (.ifCond .eq 18, 3) := by decide +kernel
theorem dL_law_2108 : decode cL_law 2108 = .ok (.iconst 0, 1) := by decide +kernel
theorem dL_law_2109 : decode cL_law 2109 = .ok (.ireturn, 1) := by decide +kernel
theorem dL_law_2110 : decode cL_law 2110 = .ok (.aload_n 1, 1) := by decide +kernel
theorem dL_law_2111 : decode cL_law 2111 = .ok (.invokevirtual 259, 3) := by decide +kernel
theorem dL_law_2114 : decode cL_law 2114 = .ok (.aload_n 2, 1) := by decide +kernel
theorem dL_law_2115 : decode cL_law 2115 = .ok (.invokevirtual 263, 3) := by decide +kernel
theorem dL_law_2118 : decode cL_law 2118 = .ok (.if_icmp .eq 5, 3) := by decide +kernel
theorem dL_law_2121 : decode cL_law 2121 = .ok (.iconst 0, 1) := by decide +kernel
theorem dL_law_2122 : decode cL_law 2122 = .ok (.ireturn, 1) := by decide +kernel
theorem dL_law_2123 : decode cL_law 2123 = .ok (.iinc 5 4, 3) := by decide +kernel
theorem dL_law_2126 : decode cL_law 2126 = .ok (.goto (-2098), 3) := by decide +kernel
theorem dL_law_2129 : decode cL_law 2129 = .ok (.iconst 1, 1) := by decide +kernel
theorem dL_law_2130 : decode cL_law 2130 = .ok (.ireturn, 1) := by decide +kernel
end
section
/-! ===== the walk's own layer: words ===== -/
def zgood : Cond → Bool
  | .fieldLinkNest .. => true
  | .methodLinkNest .. => true
  | .castable .. => true
  | .declares _ => true
  | w => goodWord w
theorem zpay1 {s U : State} {args a' : Array Value} {w : Cond} (hg : zgood w = true) (hW : s.WarmedH U.vm) (h : w.before args s = true) : w.before a' U = true := by
  cases w <;> first
    | exact va_Nw.use rfl (va_Nw.warmF hW (va_Nw.of rfl h))
    | exact va_Nw.use rfl (va_Nw.warmM hW (va_Nw.of rfl h))
    | exact va_Nw.use rfl (va_Nw.warmC hW (va_Nw.of rfl h))
    | exact va_Nw.use rfl (va_Nw.warmD hW (va_Nw.of rfl h))
    | exact word_at hW (good_of_word hg) h
theorem zot1 {w : Cond} (hg : zgood w = true) : vx_ot w = true := by
  cases w <;> first
    | rfl
    | (simp only [vx_ot, Bool.or_eq_true]; exact Or.inr hg)
def zB : List Cond := lw_tbl.filter zgood
theorem zB_tbl {w : Cond} (h : w ∈ zB) : w ∈ lw_tbl := (List.mem_filter.mp h).1
theorem zB_good {w : Cond} (h : w ∈ zB) : zgood w = true := (List.mem_filter.mp h).2
theorem zB_of {w : Cond} (h : w ∈ lw_tbl) (hg : zgood w = true) : w ∈ zB := List.mem_filter.mpr ⟨h, hg⟩
theorem zin_tab {w : Cond} (h : w ∈ tables_1) (hg : zgood w = true) : w ∈ zB := zB_of (List.mem_append_right _ h) hg
theorem zin1 {w : Cond} (i : Nat) (h : tables_1_1[i]? = some w) (hg : zgood w = true) : w ∈ zB := zin_tab (List.mem_append_left _ (List.mem_of_getElem? h)) hg
theorem zin2 {w : Cond} (i : Nat) (h : tables_1_2[i]? = some w) (hg : zgood w = true) : w ∈ zB := zin_tab (List.mem_append_right _ (List.mem_append_left _ (List.mem_of_getElem? h))) hg
theorem zin3 {w : Cond} (i : Nat) (h : tables_1_3[i]? = some w) (hg : zgood w = true) : w ∈ zB := zin_tab (List.mem_append_right _ (List.mem_append_right _ (List.mem_append_left _ (List.mem_of_getElem? h)))) hg
theorem zin4 {w : Cond} (i : Nat) (h : tables_1_4[i]? = some w) (hg : zgood w = true) : w ∈ zB := zin_tab (List.mem_append_right _ (List.mem_append_right _ (List.mem_append_right _ (List.mem_append_left _ (List.mem_of_getElem? h))))) hg
theorem zin5 {w : Cond} (i : Nat) (h : tables_1_5[i]? = some w) (hg : zgood w = true) : w ∈ zB := zin_tab (List.mem_append_right _ (List.mem_append_right _ (List.mem_append_right _ (List.mem_append_right _ (List.mem_of_getElem? h))))) hg
theorem zin0 {w : Cond} (i : Nat) (h : (k2_sels lw_privs)[i]? = some w) (hg : zgood w = true) : w ∈ zB := zB_of (List.mem_append_left _ (List.mem_of_getElem? h)) hg
def zws (y : MethodName) (b : ByteArray) (k : Nat) (r : Option FieldType) : List Cond := Cond.code y b k r :: zB
def zwh (y : MethodName) (b : ByteArray) (k : Nat) (r : Option FieldType) (hh : List (Nat × Nat × Nat × Nat)) : List Cond := Cond.codeWith y b k r hh :: zB
/-- a call's site: what the tables say of it -/
def zHnd (y : MethodName) (n : Nat) : Prop := (y.cls ≠ "java/lang/invoke/MethodHandle" ∧ y.cls ≠ "java/lang/invoke/VarHandle") ∧ (parseMethodDescriptor y.desc).map (fun d => d.parameters.length) = some n
def zSV (own : String) (idx : Nat) (y : MethodName) (b : ByteArray) (k : Nat) (r : Option FieldType) (n : Nat) : Prop :=
  Cond.methodLink own idx y ∈ zB ∧ Cond.instanceMethod y ∈ zB ∧ Cond.selects y.cls y y ∈ zB ∧ Cond.initialized y.cls ∈ zB ∧ Cond.code y b k r ∈ zB ∧ zHnd y n
def zSS (own : String) (idx : Nat) (y : MethodName) (b : ByteArray) (k : Nat) (r : Option FieldType) (n : Nat) : Prop :=
  Cond.methodLink own idx y ∈ zB ∧ Cond.static y ∈ zB ∧ Cond.initialized y.cls ∈ zB ∧ Cond.code y b k r ∈ zB ∧ zHnd y n
def zSN (own : String) (idx : Nat) (y : MethodName) (host : String) (b : ByteArray) (k : Nat) (r : Option FieldType) (n : Nat) : Prop :=
  Cond.methodLinkNest own idx y host ∈ zB ∧ Cond.static y ∈ zB ∧ Cond.initialized y.cls ∈ zB ∧ Cond.code y b k r ∈ zB ∧ zHnd y n
def zSW (own : String) (idx : Nat) (y : MethodName) (b : ByteArray) (k : Nat) (r : Option FieldType) (hh : List (Nat × Nat × Nat × Nat)) (n : Nat) : Prop :=
  Cond.methodLink own idx y ∈ zB ∧ Cond.static y ∈ zB ∧ Cond.initialized y.cls ∈ zB ∧ Cond.codeWith y b k r hh ∈ zB ∧ zHnd y n
def zSI (own : String) (idx : Nat) (y : MethodName) (b : ByteArray) (k : Nat) (n : Nat) : Prop :=
  Cond.methodLink own idx y ∈ zB ∧ Cond.instanceMethod y ∈ zB ∧ Cond.initialized y.cls ∈ zB ∧ Cond.code y b k none ∈ zB ∧ y.name = "<init>" ∧ zHnd y n
def zSIN (own : String) (idx : Nat) (y : MethodName) (host : String) (b : ByteArray) (k : Nat) (n : Nat) : Prop :=
  Cond.methodLinkNest own idx y host ∈ zB ∧ Cond.instanceMethod y ∈ zB ∧ Cond.initialized y.cls ∈ zB ∧ Cond.code y b k none ∈ zB ∧ y.name = "<init>" ∧ zHnd y n
/-- 'throw new X()' at a class' places -/
def zThr (own : String) (ik ic : Nat) (cls : String) : Prop :=
  Cond.classLink own ik cls ∈ zB ∧ Cond.initialized cls ∈ zB ∧ (∀ w ∈ vx_at0 own ic cls ["java/lang/RuntimeException", "java/lang/Exception"], w ∈ zB) ∧ Bundle.fit cls = true
/-! ===== worlds and contracts ===== -/
def zncs : List (String × String) := [("java/lang/IllegalArgumentException", "java/lang/IndexOutOfBoundsException"), ("java/lang/IllegalStateException", "java/lang/IndexOutOfBoundsException"), ("java/lang/IllegalStateException", "java/lang/IllegalArgumentException"), ("java/util/NoSuchElementException", "java/lang/IllegalStateException")]
def zX (A : Nat → Prop) (U : State) (H : Heap) : Prop := vx_Zq Bundle.tN "UNASSIGNED_STACK" Bundle.steD A U H ∧ vx_Zq Bundle.tN "SUPPRESSED_SENTINEL" Bundle.listD A U H ∧ ∀ q ∈ zncs, va_Nc q.1 q.2 U
theorem zX.moved {A : Nat → Prop} {u U : State} {H : Heap} (hvm : u.vm.Alike U.vm) (h : zX A u H) : zX A U H := ⟨vx_Zq.moved hvm h.1, vx_Zq.moved hvm h.2.1, fun q hq => (h.2.2 q hq).moved hvm⟩
theorem zX.kept {A : Nat → Prop} {U : State} {H H1 : Heap} (h : zX A U H) (hq : ∀ a : Nat, a < H.size → ¬ A a → H1[a]? = H[a]?) : zX A U H1 := ⟨vx_Zq.kept h.1 hq, vx_Zq.kept h.2.1 hq, h.2.2⟩
theorem zX.narrow {A B : Nat → Prop} {U : State} {H : Heap} (h : zX A U H) (hAB : ∀ q, B q → A q) : zX B U H := ⟨h.1.narrow hAB, h.2.1.narrow hAB, h.2.2⟩
abbrev zty (cyI cyZ : ClassId) : List (ClassId × FieldType) := [(cyI, .int), (cyZ, .boolean)]
def zPre (D : va_G) (cyI cyZ : ClassId) (sz : Nat) (W0 : va_W) (U : State) : Prop :=
  U.heap.size = sz ∧ va_P D vwCl W0 U.heap ∧ va_K D vwCl (zty cyI cyZ) U ∧ va_D (fun _ => True) W0 ∧ zX (va_A W0 sz) U U.heap
def zEnd (D : va_G) (cyI cyZ : ClassId) (A : Nat → Prop) (W1 : va_W) (t : State) : Prop :=
  va_P D vwCl W1 t.heap ∧ va_K D vwCl (zty cyI cyZ) t ∧ va_D A W1
theorem zPre_blind {D : va_G} {cyI cyZ : ClassId} {sz : Nat} {W0 : va_W} {av : List Value} : FrameBlind (va_Pc av (zPre D cyI cyZ sz W0)) := fun a U g mk q => by
  obtain ⟨q0, q1, qP, qK, qD, qX⟩ := q
  exact ⟨q0, q1, qP, va_K.moved (u := U) (U := U.calling g mk a) (Vm.Alike.refl U.vm) qK, qD, zX.moved (u := U) (U := U.calling g mk a) (Vm.Alike.refl U.vm) qX⟩
def zQi (D : va_G) (cyI cyZ : ClassId) (sz : Nat) (W0 : va_W) (r : Int32) (W1 : va_W) : Array Value → State → Outcome → State → Prop := va_Qi (fun r2 (_ : Unit) => r2 = r) (fun _ t => zEnd D cyI cyZ (va_A W0 sz) W1 t) (va_A W0 sz)
def zQl (D : va_G) (cyI cyZ : ClassId) (sz : Nat) (W0 : va_W) (r : Int64) (W1 : va_W) : Array Value → State → Outcome → State → Prop := va_Ql (fun r2 (_ : Unit) => r2 = r) (fun _ t => zEnd D cyI cyZ (va_A W0 sz) W1 t) (va_A W0 sz)
def zQv (D : va_G) (cyI cyZ : ClassId) (sz : Nat) (W0 : va_W) (W1 : va_W) : Array Value → State → Outcome → State → Prop := va_Qv (fun (_ : Unit) => True) (fun _ t => zEnd D cyI cyZ (va_A W0 sz) W1 t) (va_A W0 sz)
def zMi (l : Launch) (y : MethodName) (b : ByteArray) (k : Nat) (rt : FieldType) (fr lo : Nat) (D : va_G) (cyI cyZ : ClassId) (sz : Nat) (av : List Value) (W0 : va_W) (r : Int32) (W1 : va_W) : Prop :=
  Met l y (zws y b k (some rt)) { frames := fr, cells := 0, slots := 0, locals := lo } (va_Pc av (zPre D cyI cyZ sz W0)) (zQi D cyI cyZ sz W0 r W1) 0 0 (va_A W0 sz)
def zMl (l : Launch) (y : MethodName) (b : ByteArray) (k : Nat) (rt : FieldType) (fr lo : Nat) (D : va_G) (cyI cyZ : ClassId) (sz : Nat) (av : List Value) (W0 : va_W) (r : Int64) (W1 : va_W) : Prop :=
  Met l y (zws y b k (some rt)) { frames := fr, cells := 0, slots := 0, locals := lo } (va_Pc av (zPre D cyI cyZ sz W0)) (zQl D cyI cyZ sz W0 r W1) 0 0 (va_A W0 sz)
def zMv (l : Launch) (y : MethodName) (b : ByteArray) (k : Nat) (fr lo : Nat) (D : va_G) (cyI cyZ : ClassId) (sz : Nat) (av : List Value) (W0 : va_W) (W1 : va_W) : Prop :=
  Met l y (zws y b k none) { frames := fr, cells := 0, slots := 0, locals := lo } (va_Pc av (zPre D cyI cyZ sz W0)) (zQv D cyI cyZ sz W0 W1) 0 0 (va_A W0 sz)
/-- a method that answers or throws, by what the pure reading says -/
abbrev zmc {α : Type} (z : Sum String α) : Nat := match z with | .inl _ => 1 | .inr _ => 0
abbrev zms {α : Type} (z : Sum String α) : Nat := match z with | .inl _ => 6 | .inr _ => 0
def zXC {α : Type} (D : va_G) (cyI cyZ : ClassId) (sz : Nat) (W0 : va_W) (z : Sum String α) (W1 : va_W) : String → State → State → Prop := vx_X (fun (_ : Unit) => True) (fun E _ t => z = .inl E ∧ zEnd D cyI cyZ (va_A W0 sz) W1 t) (va_A W0 sz)
def zQXi (D : va_G) (cyI cyZ : ClassId) (sz : Nat) (W0 : va_W) (z : Sum String Int32) (W1 : va_W) : Array Value → State → Outcome → State → Prop := va_Qi (fun r2 (_ : Unit) => z = .inr r2) (fun _ t => zEnd D cyI cyZ (va_A W0 sz) W1 t) (va_A W0 sz)
def zQXv (D : va_G) (cyI cyZ : ClassId) (sz : Nat) (W0 : va_W) (z : Sum String Unit) (W1 : va_W) : Array Value → State → Outcome → State → Prop := va_Qv (fun (_ : Unit) => z = .inr ()) (fun _ t => zEnd D cyI cyZ (va_A W0 sz) W1 t) (va_A W0 sz)
def zXi (l : Launch) (y : MethodName) (b : ByteArray) (k : Nat) (rt : FieldType) (fr lo : Nat) (D : va_G) (cyI cyZ : ClassId) (sz : Nat) (av : List Value) (W0 : va_W) (z : Sum String Int32) (W1 : va_W) : Prop :=
  vx_Met l y (zws y b k (some rt)) { frames := fr, cells := zmc z, slots := zms z, locals := lo } (va_Pc av (zPre D cyI cyZ sz W0)) (zQXi D cyI cyZ sz W0 z W1) (zXC D cyI cyZ sz W0 z W1) (zmc z) (zms z) (va_A W0 sz)
def zXv (l : Launch) (y : MethodName) (b : ByteArray) (k : Nat) (fr lo : Nat) (D : va_G) (cyI cyZ : ClassId) (sz : Nat) (av : List Value) (W0 : va_W) (z : Sum String Unit) (W1 : va_W) : Prop :=
  vx_Met l y (zws y b k none) { frames := fr, cells := zmc z, slots := zms z, locals := lo } (va_Pc av (zPre D cyI cyZ sz W0)) (zQXv D cyI cyZ sz W0 z W1) (zXC D cyI cyZ sz W0 z W1) (zmc z) (zms z) (va_A W0 sz)
theorem zXi_ret {l : Launch} {y : MethodName} {b : ByteArray} {k : Nat} {rt : FieldType} {fr lo : Nat} {D : va_G} {cyI cyZ : ClassId} {sz : Nat} {av : List Value} {W0 W1 : va_W} {r : Int32} (h : zXi l y b k rt fr lo D cyI cyZ sz av W0 (.inr r) W1) : zMi l y b k rt fr lo D cyI cyZ sz av W0 r W1 := by
  unfold zMi Met
  unfold zXi vx_Met at h
  refine MetFree.mono h (fun a s h => h) (fun _ _ _ _ _ h => h) (fun a s o t _ hq => ?_)
  rcases hq with ⟨⟨⟨r2, u, h1, h2, h3⟩, h4⟩, h5⟩ | ⟨q, -, E, ce, L, ⟨u, -, ⟨hE, -⟩, -⟩, -⟩
  · exact ⟨⟨⟨r2, u, h1, (Sum.inr.inj h2).symm, h3⟩, h4⟩, h5⟩
  · exact nomatch hE
theorem zXv_ret {l : Launch} {y : MethodName} {b : ByteArray} {k : Nat} {fr lo : Nat} {D : va_G} {cyI cyZ : ClassId} {sz : Nat} {av : List Value} {W0 W1 : va_W} (h : zXv l y b k fr lo D cyI cyZ sz av W0 (.inr ()) W1) : zMv l y b k fr lo D cyI cyZ sz av W0 W1 := by
  unfold zMv Met
  unfold zXv vx_Met at h
  refine MetFree.mono h (fun a s h => h) (fun _ _ _ _ _ h => h) (fun a s o t _ hq => ?_)
  rcases hq with ⟨⟨⟨u, h1, h2, h3⟩, h4⟩, h5⟩ | ⟨q, -, E, ce, L, ⟨u, -, ⟨hE, -⟩, -⟩, -⟩
  · exact ⟨⟨⟨u, h1, trivial, h3⟩, h4⟩, h5⟩
  · exact nomatch hE
/-! ===== the judgement ===== -/
def zG (p : Program) (s : State) (m : MethodId) (args : Array Value) (c : Code) (cc : ByteArray) (nL : Nat) (own : String) (D : va_G) (cyI cyZ : ClassId) (A : Nat → Prop) : Prop :=
  p.tables.exec = Jvm.exec ∧ c.code = cc ∧ c.maxLocals = nL ∧ s.vm.findClass own = some m.cls ∧ (∀ w ∈ zB, w.before args s = true) ∧ va_K D vwCl (zty cyI cyZ) s ∧ (∀ q : Nat, s.heap.size ≤ q → A q) ∧ zX A s s.heap
def zW (p : Program) (l : Launch) (e : Env) (R : Room) (s : State) (m : MethodId) (args : Array Value) (below : List Frame) (meth : Method) (c : Code) (D : va_G) (A : Nat → Prop) (nL : Nat) (cells slots : Nat) (Q : State → Prop) (pc : Nat) (lv : List (Nat × Value)) (st : List Value) (ws : va_W) : Prop :=
  ∀ (H : Heap) (locs : List Loc) (ls : Array Slot), va_P D vwCl ws H → va_D A ws → va_S A s.heap H locs → lv_has ls nL lv → W p l e R s m args below meth c H locs cells slots Q (F0 m pc ls st)
section ZQ
variable {p : Program} {l : Launch} {e : Env} {R : Room} {s : State} {m : MethodId} {args : Array Value} {below : List Frame} {meth : Method} {c : Code} {cells slots : Nat} {Q : State → Prop}
variable {cc : ByteArray} {nL : Nat} {own : String} {D : va_G} {cyI cyZ : ClassId} {A : Nat → Prop} {pc q : Nat} {lv : List (Nat × Value)} {st rest : List Value} {ws : va_W}

theorem zq_iconst (G : zG p s m args c cc nL own D cyI cyZ A) {n : Int} {v : Int32} (hdg : decode cc pc = .ok (.iconst n, 1)) (hv : Int32.ofInt n = v) (hq : pc + 1 = q) (k : zW p l e R s m args below meth c D A nL cells slots Q q lv (.int v :: st) ws) : zW p l e R s m args below meth c D A nL cells slots Q pc lv (st) ws := by
  subst hq
  exact fun H locs ls hP hD hS hl => lv_iconst G.1 G.2.1 hdg hv (k H locs ls hP hD hS hl)
theorem zq_bipush (G : zG p s m args c cc nL own D cyI cyZ A) {n : Int} {v : Int32} (hdg : decode cc pc = .ok (.bipush n, 2)) (hv : (Int8.ofInt n).toInt32 = v) (hq : pc + 2 = q) (k : zW p l e R s m args below meth c D A nL cells slots Q q lv (.int v :: st) ws) : zW p l e R s m args below meth c D A nL cells slots Q pc lv (st) ws := by
  subst hq
  exact fun H locs ls hP hD hS hl => lv_bipush G.1 G.2.1 hdg hv (k H locs ls hP hD hS hl)
theorem zq_sipush (G : zG p s m args c cc nL own D cyI cyZ A) {n : Int} {v : Int32} (hdg : decode cc pc = .ok (.sipush n, 3)) (hv : (Int16.ofInt n).toInt32 = v) (hq : pc + 3 = q) (k : zW p l e R s m args below meth c D A nL cells slots Q q lv (.int v :: st) ws) : zW p l e R s m args below meth c D A nL cells slots Q pc lv (st) ws := by
  subst hq
  exact fun H locs ls hP hD hS hl => lv_sipush G.1 G.2.1 hdg hv (k H locs ls hP hD hS hl)
theorem zq_lconst (G : zG p s m args c cc nL own D cyI cyZ A) {n : Fin 2} {v : Int64} (hdg : decode cc pc = .ok (.lconst n, 1)) (hv : Int64.ofNat (n : Nat) = v) (hq : pc + 1 = q) (k : zW p l e R s m args below meth c D A nL cells slots Q q lv (.long v :: st) ws) : zW p l e R s m args below meth c D A nL cells slots Q pc lv (st) ws := by
  subst hq
  exact fun H locs ls hP hD hS hl => lv_lconst G.1 G.2.1 hdg hv (k H locs ls hP hD hS hl)
theorem zq_ldc (G : zG p s m args c cc nL own D cyI cyZ A) {index : Nat} {v : Int32} (hc : Cond.constant own index v ∈ zB) (hdg : decode cc pc = .ok (.ldc index, 2)) (hq : pc + 2 = q) (k : zW p l e R s m args below meth c D A nL cells slots Q q lv (.int v :: st) ws) : zW p l e R s m args below meth c D A nL cells slots Q pc lv (st) ws := by
  subst hq
  exact fun H locs ls hP hD hS hl => lv_ldc G.1 G.2.1 G.2.2.2.1 (G.2.2.2.2.1 _ hc) hdg (k H locs ls hP hD hS hl)
theorem zq_ldc2 (G : zG p s m args c cc nL own D cyI cyZ A) {index : Nat} {v : Int64} (hc : Cond.constantLong own index v ∈ zB) (hdg : decode cc pc = .ok (.ldc2_w index, 3)) (hq : pc + 3 = q) (k : zW p l e R s m args below meth c D A nL cells slots Q q lv (.long v :: st) ws) : zW p l e R s m args below meth c D A nL cells slots Q pc lv (st) ws := by
  subst hq
  exact fun H locs ls hP hD hS hl => lv_ldc2 G.1 G.2.1 G.2.2.2.1 (G.2.2.2.2.1 _ hc) hdg (k H locs ls hP hD hS hl)
theorem zq_iload_n (G : zG p s m args c cc nL own D cyI cyZ A) {k0 : Fin 4} {i : Nat} {x : Int32} (hdg : decode cc pc = .ok (.iload_n k0, 1)) (j : Nat) (hi : (k0 : Nat) = i) (hj : lv[j]? = some (i, .int x)) (hq : pc + 1 = q) (k : zW p l e R s m args below meth c D A nL cells slots Q q lv (.int x :: st) ws) : zW p l e R s m args below meth c D A nL cells slots Q pc lv st ws := by
  subst hq
  exact fun H locs ls hP hD hS hl => lv_iload_n G.1 G.2.1 hdg hi (lv_at hl j hj) (k H locs ls hP hD hS hl)
theorem zq_iload (G : zG p s m args c cc nL own D cyI cyZ A) {i : Nat} {x : Int32} (hdg : decode cc pc = .ok (.iload i, 2)) (j : Nat) (hj : lv[j]? = some (i, .int x)) (hq : pc + 2 = q) (k : zW p l e R s m args below meth c D A nL cells slots Q q lv (.int x :: st) ws) : zW p l e R s m args below meth c D A nL cells slots Q pc lv st ws := by
  subst hq
  exact fun H locs ls hP hD hS hl => lv_iload G.1 G.2.1 hdg (lv_at hl j hj) (k H locs ls hP hD hS hl)
theorem zq_lload_n (G : zG p s m args c cc nL own D cyI cyZ A) {k0 : Fin 4} {i : Nat} {x : Int64} (hdg : decode cc pc = .ok (.lload_n k0, 1)) (j : Nat) (hi : (k0 : Nat) = i) (hj : lv[j]? = some (i, .long x)) (hq : pc + 1 = q) (k : zW p l e R s m args below meth c D A nL cells slots Q q lv (.long x :: st) ws) : zW p l e R s m args below meth c D A nL cells slots Q pc lv st ws := by
  subst hq
  exact fun H locs ls hP hD hS hl => lv_lload_n G.1 G.2.1 hdg hi (lv_at hl j hj) (k H locs ls hP hD hS hl)
theorem zq_lload (G : zG p s m args c cc nL own D cyI cyZ A) {i : Nat} {x : Int64} (hdg : decode cc pc = .ok (.lload i, 2)) (j : Nat) (hj : lv[j]? = some (i, .long x)) (hq : pc + 2 = q) (k : zW p l e R s m args below meth c D A nL cells slots Q q lv (.long x :: st) ws) : zW p l e R s m args below meth c D A nL cells slots Q pc lv st ws := by
  subst hq
  exact fun H locs ls hP hD hS hl => lv_lload G.1 G.2.1 hdg (lv_at hl j hj) (k H locs ls hP hD hS hl)
theorem zq_aload_n (G : zG p s m args c cc nL own D cyI cyZ A) {k0 : Fin 4} {i : Nat} {x : Nat} (hdg : decode cc pc = .ok (.aload_n k0, 1)) (j : Nat) (hi : (k0 : Nat) = i) (hj : lv[j]? = some (i, .ref x)) (hq : pc + 1 = q) (k : zW p l e R s m args below meth c D A nL cells slots Q q lv (.ref x :: st) ws) : zW p l e R s m args below meth c D A nL cells slots Q pc lv st ws := by
  subst hq
  exact fun H locs ls hP hD hS hl => lv_aload_n G.1 G.2.1 hdg hi (lv_at hl j hj) (k H locs ls hP hD hS hl)
theorem zq_aload (G : zG p s m args c cc nL own D cyI cyZ A) {i : Nat} {x : Nat} (hdg : decode cc pc = .ok (.aload i, 2)) (j : Nat) (hj : lv[j]? = some (i, .ref x)) (hq : pc + 2 = q) (k : zW p l e R s m args below meth c D A nL cells slots Q q lv (.ref x :: st) ws) : zW p l e R s m args below meth c D A nL cells slots Q pc lv st ws := by
  subst hq
  exact fun H locs ls hP hD hS hl => lv_aload G.1 G.2.1 hdg (lv_at hl j hj) (k H locs ls hP hD hS hl)
theorem zq_istore_n (G : zG p s m args c cc nL own D cyI cyZ A) {k0 : Fin 4} {i : Nat} {x : Int32} {lv2 : List (Nat × Value)} (hdg : decode cc pc = .ok (.istore_n k0, 1)) (hi : (k0 : Nat) = i) (hn : i < nL) (hl2 : (i, Value.int x) :: lv.filter (fun q => !(q.1 == i) && !(q.1 + 1 == i && q.2.category == 2)) = lv2) (hq : pc + 1 = q) (k : zW p l e R s m args below meth c D A nL cells slots Q q lv2 st ws) : zW p l e R s m args below meth c D A nL cells slots Q pc lv (Value.int x :: st) ws := by
  subst hq
  exact fun H locs ls hP hD hS hl => lv_istore_n G.1 G.2.1 hdg hi hl hn hl2 (fun ls2 hl3 => k H locs ls2 hP hD hS hl3)
theorem zq_istore (G : zG p s m args c cc nL own D cyI cyZ A) {i : Nat} {x : Int32} {lv2 : List (Nat × Value)} (hdg : decode cc pc = .ok (.istore i, 2)) (hn : i < nL) (hl2 : (i, Value.int x) :: lv.filter (fun q => !(q.1 == i) && !(q.1 + 1 == i && q.2.category == 2)) = lv2) (hq : pc + 2 = q) (k : zW p l e R s m args below meth c D A nL cells slots Q q lv2 st ws) : zW p l e R s m args below meth c D A nL cells slots Q pc lv (Value.int x :: st) ws := by
  subst hq
  exact fun H locs ls hP hD hS hl => lv_istore G.1 G.2.1 hdg hl hn hl2 (fun ls2 hl3 => k H locs ls2 hP hD hS hl3)
theorem zq_astore_n (G : zG p s m args c cc nL own D cyI cyZ A) {k0 : Fin 4} {i : Nat} {x : Nat} {lv2 : List (Nat × Value)} (hdg : decode cc pc = .ok (.astore_n k0, 1)) (hi : (k0 : Nat) = i) (hn : i < nL) (hl2 : (i, Value.ref x) :: lv.filter (fun q => !(q.1 == i) && !(q.1 + 1 == i && q.2.category == 2)) = lv2) (hq : pc + 1 = q) (k : zW p l e R s m args below meth c D A nL cells slots Q q lv2 st ws) : zW p l e R s m args below meth c D A nL cells slots Q pc lv (Value.ref x :: st) ws := by
  subst hq
  exact fun H locs ls hP hD hS hl => lv_astore_n G.1 G.2.1 hdg hi hl hn hl2 (fun ls2 hl3 => k H locs ls2 hP hD hS hl3)
theorem zq_astore (G : zG p s m args c cc nL own D cyI cyZ A) {i : Nat} {x : Nat} {lv2 : List (Nat × Value)} (hdg : decode cc pc = .ok (.astore i, 2)) (hn : i < nL) (hl2 : (i, Value.ref x) :: lv.filter (fun q => !(q.1 == i) && !(q.1 + 1 == i && q.2.category == 2)) = lv2) (hq : pc + 2 = q) (k : zW p l e R s m args below meth c D A nL cells slots Q q lv2 st ws) : zW p l e R s m args below meth c D A nL cells slots Q pc lv (Value.ref x :: st) ws := by
  subst hq
  exact fun H locs ls hP hD hS hl => lv_astore G.1 G.2.1 hdg hl hn hl2 (fun ls2 hl3 => k H locs ls2 hP hD hS hl3)
theorem zq_lstore_n (G : zG p s m args c cc nL own D cyI cyZ A) {k0 : Fin 4} {i : Nat} {x : Int64} {lv2 : List (Nat × Value)} (hdg : decode cc pc = .ok (.lstore_n k0, 1)) (hi : (k0 : Nat) = i) (hn : i + 1 < nL) (hl2 : (i, Value.long x) :: lv.filter (fun q => !(q.1 == i) && (!(q.1 == i + 1) && !(q.1 + 1 == i && q.2.category == 2))) = lv2) (hq : pc + 1 = q) (k : zW p l e R s m args below meth c D A nL cells slots Q q lv2 st ws) : zW p l e R s m args below meth c D A nL cells slots Q pc lv (Value.long x :: st) ws := by
  subst hq
  exact fun H locs ls hP hD hS hl => lv_lstore_n G.1 G.2.1 hdg hi hl hn hl2 (fun ls2 hl3 => k H locs ls2 hP hD hS hl3)
theorem zq_lstore (G : zG p s m args c cc nL own D cyI cyZ A) {i : Nat} {x : Int64} {lv2 : List (Nat × Value)} (hdg : decode cc pc = .ok (.lstore i, 2)) (hn : i + 1 < nL) (hl2 : (i, Value.long x) :: lv.filter (fun q => !(q.1 == i) && (!(q.1 == i + 1) && !(q.1 + 1 == i && q.2.category == 2))) = lv2) (hq : pc + 2 = q) (k : zW p l e R s m args below meth c D A nL cells slots Q q lv2 st ws) : zW p l e R s m args below meth c D A nL cells slots Q pc lv (Value.long x :: st) ws := by
  subst hq
  exact fun H locs ls hP hD hS hl => lv_lstore G.1 G.2.1 hdg hl hn hl2 (fun ls2 hl3 => k H locs ls2 hP hD hS hl3)
theorem zq_iinc (G : zG p s m args c cc nL own D cyI cyZ A) {i : Nat} {n : Int} {x v : Int32} {lv2 : List (Nat × Value)} (hdg : decode cc pc = .ok (.iinc i n, 3)) (j : Nat) (hj : lv[j]? = some (i, .int x)) (hv : x + Int32.ofInt n = v) (hn : i < nL) (hl2 : (i, Value.int v) :: lv.filter (fun q => !(q.1 == i) && !(q.1 + 1 == i && q.2.category == 2)) = lv2) (hq : pc + 3 = q) (k : zW p l e R s m args below meth c D A nL cells slots Q q lv2 st ws) : zW p l e R s m args below meth c D A nL cells slots Q pc lv st ws := by
  subst hq
  exact fun H locs ls hP hD hS hl => lv_iinc G.1 G.2.1 hdg hl hj hv hn hl2 (fun ls2 hl3 => k H locs ls2 hP hD hS hl3)
theorem zq_iadd (G : zG p s m args c cc nL own D cyI cyZ A) {x y : Int32} (hdg : decode cc pc = .ok (.iadd, 1)) (hq : pc + 1 = q) (k : zW p l e R s m args below meth c D A nL cells slots Q q lv (.int (x + y) :: st) ws) : zW p l e R s m args below meth c D A nL cells slots Q pc lv (.int y :: .int x :: st) ws := by
  subst hq
  exact fun H locs ls hP hD hS hl => lv_iadd G.1 G.2.1 hdg (k H locs ls hP hD hS hl)
theorem zq_isub (G : zG p s m args c cc nL own D cyI cyZ A) {x y : Int32} (hdg : decode cc pc = .ok (.isub, 1)) (hq : pc + 1 = q) (k : zW p l e R s m args below meth c D A nL cells slots Q q lv (.int (x - y) :: st) ws) : zW p l e R s m args below meth c D A nL cells slots Q pc lv (.int y :: .int x :: st) ws := by
  subst hq
  exact fun H locs ls hP hD hS hl => lv_isub G.1 G.2.1 hdg (k H locs ls hP hD hS hl)
theorem zq_imul (G : zG p s m args c cc nL own D cyI cyZ A) {x y : Int32} (hdg : decode cc pc = .ok (.imul, 1)) (hq : pc + 1 = q) (k : zW p l e R s m args below meth c D A nL cells slots Q q lv (.int (x * y) :: st) ws) : zW p l e R s m args below meth c D A nL cells slots Q pc lv (.int y :: .int x :: st) ws := by
  subst hq
  exact fun H locs ls hP hD hS hl => lv_imul G.1 G.2.1 hdg (k H locs ls hP hD hS hl)
theorem zq_iand (G : zG p s m args c cc nL own D cyI cyZ A) {x y : Int32} (hdg : decode cc pc = .ok (.iand, 1)) (hq : pc + 1 = q) (k : zW p l e R s m args below meth c D A nL cells slots Q q lv (.int (x &&& y) :: st) ws) : zW p l e R s m args below meth c D A nL cells slots Q pc lv (.int y :: .int x :: st) ws := by
  subst hq
  exact fun H locs ls hP hD hS hl => lv_iand G.1 G.2.1 hdg (k H locs ls hP hD hS hl)
theorem zq_ior (G : zG p s m args c cc nL own D cyI cyZ A) {x y : Int32} (hdg : decode cc pc = .ok (.ior, 1)) (hq : pc + 1 = q) (k : zW p l e R s m args below meth c D A nL cells slots Q q lv (.int (x ||| y) :: st) ws) : zW p l e R s m args below meth c D A nL cells slots Q pc lv (.int y :: .int x :: st) ws := by
  subst hq
  exact fun H locs ls hP hD hS hl => lv_ior G.1 G.2.1 hdg (k H locs ls hP hD hS hl)
theorem zq_ishl (G : zG p s m args c cc nL own D cyI cyZ A) {x y : Int32} (hdg : decode cc pc = .ok (.ishl, 1)) (hq : pc + 1 = q) (k : zW p l e R s m args below meth c D A nL cells slots Q q lv (.int (x <<< (y &&& 31)) :: st) ws) : zW p l e R s m args below meth c D A nL cells slots Q pc lv (.int y :: .int x :: st) ws := by
  subst hq
  exact fun H locs ls hP hD hS hl => lv_ishl G.1 G.2.1 hdg (k H locs ls hP hD hS hl)
theorem zq_ishr (G : zG p s m args c cc nL own D cyI cyZ A) {x y : Int32} (hdg : decode cc pc = .ok (.ishr, 1)) (hq : pc + 1 = q) (k : zW p l e R s m args below meth c D A nL cells slots Q q lv (.int (x >>> (y &&& 31)) :: st) ws) : zW p l e R s m args below meth c D A nL cells slots Q pc lv (.int y :: .int x :: st) ws := by
  subst hq
  exact fun H locs ls hP hD hS hl => lv_ishr G.1 G.2.1 hdg (k H locs ls hP hD hS hl)
theorem zq_idiv (G : zG p s m args c cc nL own D cyI cyZ A) {x y : Int32} (hdg : decode cc pc = .ok (.idiv, 1)) (hne : ¬ y = 0) (hq : pc + 1 = q) (k : zW p l e R s m args below meth c D A nL cells slots Q q lv (.int (x / y) :: st) ws) : zW p l e R s m args below meth c D A nL cells slots Q pc lv (.int y :: .int x :: st) ws := by
  subst hq
  exact fun H locs ls hP hD hS hl => lv_idiv G.1 G.2.1 hdg hne (k H locs ls hP hD hS hl)
theorem zq_irem (G : zG p s m args c cc nL own D cyI cyZ A) {x y : Int32} (hdg : decode cc pc = .ok (.irem, 1)) (hne : ¬ y = 0) (hq : pc + 1 = q) (k : zW p l e R s m args below meth c D A nL cells slots Q q lv (.int (x - x / y * y) :: st) ws) : zW p l e R s m args below meth c D A nL cells slots Q pc lv (.int y :: .int x :: st) ws := by
  subst hq
  exact fun H locs ls hP hD hS hl => lv_irem G.1 G.2.1 hdg hne (k H locs ls hP hD hS hl)
theorem zq_ineg (G : zG p s m args c cc nL own D cyI cyZ A) {x : Int32} (hdg : decode cc pc = .ok (.ineg, 1)) (hq : pc + 1 = q) (k : zW p l e R s m args below meth c D A nL cells slots Q q lv (.int (-x) :: st) ws) : zW p l e R s m args below meth c D A nL cells slots Q pc lv (.int x :: st) ws := by
  subst hq
  exact fun H locs ls hP hD hS hl => lv_ineg G.1 G.2.1 hdg (k H locs ls hP hD hS hl)
theorem zq_ladd (G : zG p s m args c cc nL own D cyI cyZ A) {x y : Int64} (hdg : decode cc pc = .ok (.ladd, 1)) (hq : pc + 1 = q) (k : zW p l e R s m args below meth c D A nL cells slots Q q lv (.long (x + y) :: st) ws) : zW p l e R s m args below meth c D A nL cells slots Q pc lv (.long y :: .long x :: st) ws := by
  subst hq
  exact fun H locs ls hP hD hS hl => lv_ladd G.1 G.2.1 hdg (k H locs ls hP hD hS hl)
theorem zq_lmul (G : zG p s m args c cc nL own D cyI cyZ A) {x y : Int64} (hdg : decode cc pc = .ok (.lmul, 1)) (hq : pc + 1 = q) (k : zW p l e R s m args below meth c D A nL cells slots Q q lv (.long (x * y) :: st) ws) : zW p l e R s m args below meth c D A nL cells slots Q pc lv (.long y :: .long x :: st) ws := by
  subst hq
  exact fun H locs ls hP hD hS hl => lv_lmul G.1 G.2.1 hdg (k H locs ls hP hD hS hl)
theorem zq_ldiv (G : zG p s m args c cc nL own D cyI cyZ A) {x y : Int64} (hdg : decode cc pc = .ok (.ldiv, 1)) (hne : ¬ y = 0) (hq : pc + 1 = q) (k : zW p l e R s m args below meth c D A nL cells slots Q q lv (.long (x / y) :: st) ws) : zW p l e R s m args below meth c D A nL cells slots Q pc lv (.long y :: .long x :: st) ws := by
  subst hq
  exact fun H locs ls hP hD hS hl => lv_ldiv G.1 G.2.1 hdg hne (k H locs ls hP hD hS hl)
theorem zq_lrem (G : zG p s m args c cc nL own D cyI cyZ A) {x y : Int64} (hdg : decode cc pc = .ok (.lrem, 1)) (hne : ¬ y = 0) (hq : pc + 1 = q) (k : zW p l e R s m args below meth c D A nL cells slots Q q lv (.long (x - x / y * y) :: st) ws) : zW p l e R s m args below meth c D A nL cells slots Q pc lv (.long y :: .long x :: st) ws := by
  subst hq
  exact fun H locs ls hP hD hS hl => lv_lrem G.1 G.2.1 hdg hne (k H locs ls hP hD hS hl)
theorem zq_lcmp (G : zG p s m args c cc nL own D cyI cyZ A) {x y : Int64} (hdg : decode cc pc = .ok (.lcmp, 1)) (hq : pc + 1 = q) (k : zW p l e R s m args below meth c D A nL cells slots Q q lv (.int (lg_cmp x y) :: st) ws) : zW p l e R s m args below meth c D A nL cells slots Q pc lv (.long y :: .long x :: st) ws := by
  subst hq
  exact fun H locs ls hP hD hS hl => W.lcmp G.1 G.2.1 hdg (k H locs ls hP hD hS hl)
theorem zq_i2l (G : zG p s m args c cc nL own D cyI cyZ A) {x : Int32} (hdg : decode cc pc = .ok (.i2l, 1)) (hq : pc + 1 = q) (k : zW p l e R s m args below meth c D A nL cells slots Q q lv (.long x.toInt64 :: st) ws) : zW p l e R s m args below meth c D A nL cells slots Q pc lv (.int x :: st) ws := by
  subst hq
  exact fun H locs ls hP hD hS hl => lv_i2l G.1 G.2.1 hdg rfl (k H locs ls hP hD hS hl)
theorem zq_l2i (G : zG p s m args c cc nL own D cyI cyZ A) {x : Int64} (hdg : decode cc pc = .ok (.l2i, 1)) (hq : pc + 1 = q) (k : zW p l e R s m args below meth c D A nL cells slots Q q lv (.int x.toInt32 :: st) ws) : zW p l e R s m args below meth c D A nL cells slots Q pc lv (.long x :: st) ws := by
  subst hq
  exact fun H locs ls hP hD hS hl => lv_l2i G.1 G.2.1 hdg rfl (k H locs ls hP hD hS hl)
theorem zq_dup (G : zG p s m args c cc nL own D cyI cyZ A) {va : Value} (hdg : decode cc pc = .ok (.dup, 1)) (hva : va.category = 1) (hq : pc + 1 = q) (k : zW p l e R s m args below meth c D A nL cells slots Q q lv (va :: va :: st) ws) : zW p l e R s m args below meth c D A nL cells slots Q pc lv (va :: st) ws := by
  subst hq
  exact fun H locs ls hP hD hS hl => lv_dup G.1 G.2.1 hdg hva (k H locs ls hP hD hS hl)
theorem zq_dup2 (G : zG p s m args c cc nL own D cyI cyZ A) {va vb : Value} (hdg : decode cc pc = .ok (.dup2, 1)) (hva : va.category = 1) (hvb : vb.category = 1) (hq : pc + 1 = q) (k : zW p l e R s m args below meth c D A nL cells slots Q q lv (va :: vb :: va :: vb :: st) ws) : zW p l e R s m args below meth c D A nL cells slots Q pc lv (va :: vb :: st) ws := by
  subst hq
  exact fun H locs ls hP hD hS hl => lv_dup2_11 G.1 G.2.1 hdg hva hvb (k H locs ls hP hD hS hl)
theorem zq_pop (G : zG p s m args c cc nL own D cyI cyZ A) {va : Value} (hdg : decode cc pc = .ok (.pop, 1)) (hva : va.category = 1) (hq : pc + 1 = q) (k : zW p l e R s m args below meth c D A nL cells slots Q q lv (st) ws) : zW p l e R s m args below meth c D A nL cells slots Q pc lv (va :: st) ws := by
  subst hq
  exact fun H locs ls hP hD hS hl => lv_pop G.1 G.2.1 hdg hva (k H locs ls hP hD hS hl)
theorem zq_goto (G : zG p s m args c cc nL own D cyI cyZ A) {off : Int} (hdg : decode cc pc = .ok (.goto off, 3)) (ht : (pc : Int) + off = (q : Int)) (k : zW p l e R s m args below meth c D A nL cells slots Q q lv st ws) : zW p l e R s m args below meth c D A nL cells slots Q pc lv st ws := fun H locs ls hP hD hS hl => lv_goto G.1 G.2.1 hdg ht (k H locs ls hP hD hS hl)
theorem zq_icmp_eq (G : zG p s m args c cc nL own D cyI cyZ A) {x y : Int32} {off : Int} {tgt : Nat} (hdg : decode cc pc = .ok (.if_icmp .eq off, 3)) (ht : (pc : Int) + off = (tgt : Int)) (hq : pc + 3 = q) (kt : x = y → zW p l e R s m args below meth c D A nL cells slots Q tgt lv st ws) (kf : ¬ x = y → zW p l e R s m args below meth c D A nL cells slots Q q lv st ws) : zW p l e R s m args below meth c D A nL cells slots Q pc lv (.int y :: .int x :: st) ws := by
  subst hq
  exact fun H locs ls hP hD hS hl => lv_icmp_eq G.1 G.2.1 hdg ht (fun c9 => kt c9 H locs ls hP hD hS hl) (fun c9 => kf c9 H locs ls hP hD hS hl)
theorem zq_icmp_ne (G : zG p s m args c cc nL own D cyI cyZ A) {x y : Int32} {off : Int} {tgt : Nat} (hdg : decode cc pc = .ok (.if_icmp .ne off, 3)) (ht : (pc : Int) + off = (tgt : Int)) (hq : pc + 3 = q) (kt : ¬ x = y → zW p l e R s m args below meth c D A nL cells slots Q tgt lv st ws) (kf : x = y → zW p l e R s m args below meth c D A nL cells slots Q q lv st ws) : zW p l e R s m args below meth c D A nL cells slots Q pc lv (.int y :: .int x :: st) ws := by
  subst hq
  exact fun H locs ls hP hD hS hl => lv_icmp_ne G.1 G.2.1 hdg ht (fun c9 => kt c9 H locs ls hP hD hS hl) (fun c9 => kf c9 H locs ls hP hD hS hl)
theorem zq_icmp_lt (G : zG p s m args c cc nL own D cyI cyZ A) {x y : Int32} {off : Int} {tgt : Nat} (hdg : decode cc pc = .ok (.if_icmp .lt off, 3)) (ht : (pc : Int) + off = (tgt : Int)) (hq : pc + 3 = q) (kt : x < y → zW p l e R s m args below meth c D A nL cells slots Q tgt lv st ws) (kf : ¬ x < y → zW p l e R s m args below meth c D A nL cells slots Q q lv st ws) : zW p l e R s m args below meth c D A nL cells slots Q pc lv (.int y :: .int x :: st) ws := by
  subst hq
  exact fun H locs ls hP hD hS hl => lv_icmp_lt G.1 G.2.1 hdg ht (fun c9 => kt c9 H locs ls hP hD hS hl) (fun c9 => kf c9 H locs ls hP hD hS hl)
theorem zq_icmp_ge (G : zG p s m args c cc nL own D cyI cyZ A) {x y : Int32} {off : Int} {tgt : Nat} (hdg : decode cc pc = .ok (.if_icmp .ge off, 3)) (ht : (pc : Int) + off = (tgt : Int)) (hq : pc + 3 = q) (kt : y ≤ x → zW p l e R s m args below meth c D A nL cells slots Q tgt lv st ws) (kf : ¬ y ≤ x → zW p l e R s m args below meth c D A nL cells slots Q q lv st ws) : zW p l e R s m args below meth c D A nL cells slots Q pc lv (.int y :: .int x :: st) ws := by
  subst hq
  exact fun H locs ls hP hD hS hl => lv_icmp_ge G.1 G.2.1 hdg ht (fun c9 => kt c9 H locs ls hP hD hS hl) (fun c9 => kf c9 H locs ls hP hD hS hl)
theorem zq_icmp_gt (G : zG p s m args c cc nL own D cyI cyZ A) {x y : Int32} {off : Int} {tgt : Nat} (hdg : decode cc pc = .ok (.if_icmp .gt off, 3)) (ht : (pc : Int) + off = (tgt : Int)) (hq : pc + 3 = q) (kt : y < x → zW p l e R s m args below meth c D A nL cells slots Q tgt lv st ws) (kf : ¬ y < x → zW p l e R s m args below meth c D A nL cells slots Q q lv st ws) : zW p l e R s m args below meth c D A nL cells slots Q pc lv (.int y :: .int x :: st) ws := by
  subst hq
  exact fun H locs ls hP hD hS hl => lv_icmp_gt G.1 G.2.1 hdg ht (fun c9 => kt c9 H locs ls hP hD hS hl) (fun c9 => kf c9 H locs ls hP hD hS hl)
theorem zq_icmp_le (G : zG p s m args c cc nL own D cyI cyZ A) {x y : Int32} {off : Int} {tgt : Nat} (hdg : decode cc pc = .ok (.if_icmp .le off, 3)) (ht : (pc : Int) + off = (tgt : Int)) (hq : pc + 3 = q) (kt : x ≤ y → zW p l e R s m args below meth c D A nL cells slots Q tgt lv st ws) (kf : ¬ x ≤ y → zW p l e R s m args below meth c D A nL cells slots Q q lv st ws) : zW p l e R s m args below meth c D A nL cells slots Q pc lv (.int y :: .int x :: st) ws := by
  subst hq
  exact fun H locs ls hP hD hS hl => lv_icmp_le G.1 G.2.1 hdg ht (fun c9 => kt c9 H locs ls hP hD hS hl) (fun c9 => kf c9 H locs ls hP hD hS hl)
theorem zq_if_eq (G : zG p s m args c cc nL own D cyI cyZ A) {x : Int32} {off : Int} {tgt : Nat} (hdg : decode cc pc = .ok (.ifCond .eq off, 3)) (ht : (pc : Int) + off = (tgt : Int)) (hq : pc + 3 = q) (kt : x = 0 → zW p l e R s m args below meth c D A nL cells slots Q tgt lv st ws) (kf : ¬ x = 0 → zW p l e R s m args below meth c D A nL cells slots Q q lv st ws) : zW p l e R s m args below meth c D A nL cells slots Q pc lv (.int x :: st) ws := by
  subst hq
  exact fun H locs ls hP hD hS hl => lv_if_eq G.1 G.2.1 hdg ht (fun c9 => kt c9 H locs ls hP hD hS hl) (fun c9 => kf c9 H locs ls hP hD hS hl)
theorem zq_if_ne (G : zG p s m args c cc nL own D cyI cyZ A) {x : Int32} {off : Int} {tgt : Nat} (hdg : decode cc pc = .ok (.ifCond .ne off, 3)) (ht : (pc : Int) + off = (tgt : Int)) (hq : pc + 3 = q) (kt : ¬ x = 0 → zW p l e R s m args below meth c D A nL cells slots Q tgt lv st ws) (kf : x = 0 → zW p l e R s m args below meth c D A nL cells slots Q q lv st ws) : zW p l e R s m args below meth c D A nL cells slots Q pc lv (.int x :: st) ws := by
  subst hq
  exact fun H locs ls hP hD hS hl => lv_if_ne G.1 G.2.1 hdg ht (fun c9 => kt c9 H locs ls hP hD hS hl) (fun c9 => kf c9 H locs ls hP hD hS hl)
theorem zq_if_lt (G : zG p s m args c cc nL own D cyI cyZ A) {x : Int32} {off : Int} {tgt : Nat} (hdg : decode cc pc = .ok (.ifCond .lt off, 3)) (ht : (pc : Int) + off = (tgt : Int)) (hq : pc + 3 = q) (kt : x < 0 → zW p l e R s m args below meth c D A nL cells slots Q tgt lv st ws) (kf : ¬ x < 0 → zW p l e R s m args below meth c D A nL cells slots Q q lv st ws) : zW p l e R s m args below meth c D A nL cells slots Q pc lv (.int x :: st) ws := by
  subst hq
  exact fun H locs ls hP hD hS hl => lv_if_lt G.1 G.2.1 hdg ht (fun c9 => kt c9 H locs ls hP hD hS hl) (fun c9 => kf c9 H locs ls hP hD hS hl)
theorem zq_if_ge (G : zG p s m args c cc nL own D cyI cyZ A) {x : Int32} {off : Int} {tgt : Nat} (hdg : decode cc pc = .ok (.ifCond .ge off, 3)) (ht : (pc : Int) + off = (tgt : Int)) (hq : pc + 3 = q) (kt : 0 ≤ x → zW p l e R s m args below meth c D A nL cells slots Q tgt lv st ws) (kf : ¬ 0 ≤ x → zW p l e R s m args below meth c D A nL cells slots Q q lv st ws) : zW p l e R s m args below meth c D A nL cells slots Q pc lv (.int x :: st) ws := by
  subst hq
  exact fun H locs ls hP hD hS hl => lv_if_ge G.1 G.2.1 hdg ht (fun c9 => kt c9 H locs ls hP hD hS hl) (fun c9 => kf c9 H locs ls hP hD hS hl)
theorem zq_if_gt (G : zG p s m args c cc nL own D cyI cyZ A) {x : Int32} {off : Int} {tgt : Nat} (hdg : decode cc pc = .ok (.ifCond .gt off, 3)) (ht : (pc : Int) + off = (tgt : Int)) (hq : pc + 3 = q) (kt : 0 < x → zW p l e R s m args below meth c D A nL cells slots Q tgt lv st ws) (kf : ¬ 0 < x → zW p l e R s m args below meth c D A nL cells slots Q q lv st ws) : zW p l e R s m args below meth c D A nL cells slots Q pc lv (.int x :: st) ws := by
  subst hq
  exact fun H locs ls hP hD hS hl => lv_if_gt G.1 G.2.1 hdg ht (fun c9 => kt c9 H locs ls hP hD hS hl) (fun c9 => kf c9 H locs ls hP hD hS hl)
theorem zq_if_le (G : zG p s m args c cc nL own D cyI cyZ A) {x : Int32} {off : Int} {tgt : Nat} (hdg : decode cc pc = .ok (.ifCond .le off, 3)) (ht : (pc : Int) + off = (tgt : Int)) (hq : pc + 3 = q) (kt : x ≤ 0 → zW p l e R s m args below meth c D A nL cells slots Q tgt lv st ws) (kf : ¬ x ≤ 0 → zW p l e R s m args below meth c D A nL cells slots Q q lv st ws) : zW p l e R s m args below meth c D A nL cells slots Q pc lv (.int x :: st) ws := by
  subst hq
  exact fun H locs ls hP hD hS hl => lv_if_le G.1 G.2.1 hdg ht (fun c9 => kt c9 H locs ls hP hD hS hl) (fun c9 => kf c9 H locs ls hP hD hS hl)
theorem zq_sub (lv2 : List (Nat × Value)) (ks : List Nat) (hl2 : lv_pick lv ks = lv2) (k : zW p l e R s m args below meth c D A nL cells slots Q pc lv2 st ws) : zW p l e R s m args below meth c D A nL cells slots Q pc lv st ws := fun H locs ls hP hD hS hl => k H locs ls hP hD hS (lv_sub hl ks hl2)
theorem zq_show (q : Nat) (hq : pc = q) (k : zW p l e R s m args below meth c D A nL cells slots Q q lv st ws) : zW p l e R s m args below meth c D A nL cells slots Q pc lv st ws := by subst hq; exact k
theorem zq_get (G : zG p s m args c cc nL own D cyI cyZ A) {C ref nm ds : String} {T : u_T} {N ci idx a : Nat} {fs : List Value} {v : Value} (hin : ∀ w ∈ u_ws C T N, w ∈ zB) (hc : vwCl[ci]? = some (C, T, N)) (hlink : Cond.fieldLink own idx ref nm ds ∈ zB) (hdg : decode cc pc = .ok (.getfield idx, 3)) (q0 k : Nat) (he : ws[q0]? = some (a, .inr (ci, fs))) (hk : k < N) (hT : ((T k).1 = ref ∧ (T k).2.1 = nm) ∧ (T k).2.2.1 = ds) (hv : fs[k]? = some v) (hq : pc + 3 = q) (kk : zW p l e R s m args below meth c D A nL cells slots Q q lv (v :: st) ws) : zW p l e R s m args below meth c D A nL cells slots Q pc lv (.ref a :: st) ws := by
  obtain ⟨⟨h1, h2⟩, h3⟩ := hT
  subst h1 h2 h3 hq
  exact fun H locs ls hP hD hS hl => va_get G.1 G.2.1 G.2.2.2.2.1 hin G.2.2.2.1 G.2.2.2.2.2.1 hP q0 he hc k hk (G.2.2.2.2.1 _ hlink) (fun _ h9 => h9) hv hdg (kk H locs ls hP hD hS hl)
theorem zq_getN (G : zG p s m args c cc nL own D cyI cyZ A) {C ref nm ds host : String} {T : u_T} {N ci idx a : Nat} {fs : List Value} {v : Value} (hin : ∀ w ∈ u_ws C T N, w ∈ zB) (hc : vwCl[ci]? = some (C, T, N)) (hlink : Cond.fieldLinkNest own idx ref nm ds host ∈ zB) (hdg : decode cc pc = .ok (.getfield idx, 3)) (q0 k : Nat) (he : ws[q0]? = some (a, .inr (ci, fs))) (hk : k < N) (hT : ((T k).1 = ref ∧ (T k).2.1 = nm) ∧ (T k).2.2.1 = ds) (hv : fs[k]? = some v) (hq : pc + 3 = q) (kk : zW p l e R s m args below meth c D A nL cells slots Q q lv (v :: st) ws) : zW p l e R s m args below meth c D A nL cells slots Q pc lv (.ref a :: st) ws := by
  obtain ⟨⟨h1, h2⟩, h3⟩ := hT
  subst h1 h2 h3 hq
  exact fun H locs ls hP hD hS hl => va_getN G.1 G.2.1 G.2.2.2.2.1 hin G.2.2.2.1 G.2.2.2.2.2.1 hP q0 he hc k hk (G.2.2.2.2.1 _ hlink) (fun _ h9 => h9) hv hdg (kk H locs ls hP hD hS hl)
theorem zq_put (G : zG p s m args c cc nL own D cyI cyZ A) {C ref nm ds : String} {T : u_T} {N ci idx a : Nat} {fs : List Value} {v : Value} {ws2 : va_W} {ty0 : Nat → FieldType} (hin : ∀ w ∈ u_ws C T N, w ∈ zB) (hc : vwCl[ci]? = some (C, T, N)) (hty : ∀ k, k < N → parseFieldDescriptor (T k).2.2.1 = some (ty0 k)) (hnm : ∀ a, a < N → ∀ b, b < N → a ≠ b → (T a).2.1 ≠ (T b).2.1) (hlink : Cond.fieldLink own idx ref nm ds ∈ zB) (hdg : decode cc pc = .ok (.putfield idx, 3)) (q0 k : Nat) (he : ws[q0]? = some (a, .inr (ci, fs))) (hk : k < N) (hT : ((T k).1 = ref ∧ (T k).2.1 = nm) ∧ (T k).2.2.1 = ds) (hfin : (T k).2.2.2 = false) (hn : narrow (ty0 k) v = v) (hfit : fits (ty0 k) v = true) (hl9 : k < fs.length) (hw : ws.set q0 (a, .inr (ci, fs.set k v)) = ws2) (hq : pc + 3 = q) (kk : zW p l e R s m args below meth c D A nL cells slots Q q lv st ws2) : zW p l e R s m args below meth c D A nL cells slots Q pc lv (v :: .ref a :: st) ws := by
  obtain ⟨⟨h1, h2⟩, h3⟩ := hT
  subst h1 h2 h3 hq hw
  exact fun H locs ls hP hD hS hl => va_put G.1 G.2.1 G.2.2.2.2.1 hin ty0 hty hnm G.2.2.2.1 G.2.2.2.2.2.1 hP hD hS q0 he hc k hk (G.2.2.2.2.1 _ hlink) (fun _ h9 => h9) hfin (hty k hk) hn hfit hl9 hdg (fun H1 locs1 hP1 hD1 hS1 => kk H1 locs1 ls hP1 hD1 hS1 hl)
theorem zq_putN (G : zG p s m args c cc nL own D cyI cyZ A) {C ref nm ds host : String} {T : u_T} {N ci idx a : Nat} {fs : List Value} {v : Value} {ws2 : va_W} {ty0 : Nat → FieldType} (hin : ∀ w ∈ u_ws C T N, w ∈ zB) (hc : vwCl[ci]? = some (C, T, N)) (hty : ∀ k, k < N → parseFieldDescriptor (T k).2.2.1 = some (ty0 k)) (hnm : ∀ a, a < N → ∀ b, b < N → a ≠ b → (T a).2.1 ≠ (T b).2.1) (hlink : Cond.fieldLinkNest own idx ref nm ds host ∈ zB) (hdg : decode cc pc = .ok (.putfield idx, 3)) (q0 k : Nat) (he : ws[q0]? = some (a, .inr (ci, fs))) (hk : k < N) (hT : ((T k).1 = ref ∧ (T k).2.1 = nm) ∧ (T k).2.2.1 = ds) (hfin : (T k).2.2.2 = false) (hn : narrow (ty0 k) v = v) (hfit : fits (ty0 k) v = true) (hl9 : k < fs.length) (hw : ws.set q0 (a, .inr (ci, fs.set k v)) = ws2) (hq : pc + 3 = q) (kk : zW p l e R s m args below meth c D A nL cells slots Q q lv st ws2) : zW p l e R s m args below meth c D A nL cells slots Q pc lv (v :: .ref a :: st) ws := by
  obtain ⟨⟨h1, h2⟩, h3⟩ := hT
  subst h1 h2 h3 hq hw
  exact fun H locs ls hP hD hS hl => va_putN G.1 G.2.1 G.2.2.2.2.1 hin ty0 hty hnm G.2.2.2.1 G.2.2.2.2.2.1 hP hD hS q0 he hc k hk (G.2.2.2.2.1 _ hlink) (fun _ h9 => h9) hfin (hty k hk) hn hfit hl9 hdg (fun H1 locs1 hP1 hD1 hS1 => kk H1 locs1 ls hP1 hD1 hS1 hl)
theorem zq_putF (G : zG p s m args c cc nL own D cyI cyZ A) {C ref nm ds : String} {T : u_T} {N ci idx a : Nat} {fs : List Value} {v : Value} {ws2 : va_W} {ty0 : Nat → FieldType} (hin : ∀ w ∈ u_ws C T N, w ∈ zB) (hc : vwCl[ci]? = some (C, T, N)) (hty : ∀ k, k < N → parseFieldDescriptor (T k).2.2.1 = some (ty0 k)) (hnm : ∀ a, a < N → ∀ b, b < N → a ≠ b → (T a).2.1 ≠ (T b).2.1) (hlink : Cond.fieldLink own idx ref nm ds ∈ zB) (hdg : decode cc pc = .ok (.putfield idx, 3)) (q0 k : Nat) (he : ws[q0]? = some (a, .inr (ci, fs))) (hk : k < N) (hT : ((T k).1 = ref ∧ (T k).2.1 = nm) ∧ (T k).2.2.1 = ds) (hfin : (T k).2.2.2 = true) (hin2 : meth.name = "<init>") (hdecl : (T k).1 = own) (hn : narrow (ty0 k) v = v) (hfit : fits (ty0 k) v = true) (hl9 : k < fs.length) (hw : ws.set q0 (a, .inr (ci, fs.set k v)) = ws2) (hq : pc + 3 = q) (kk : zW p l e R s m args below meth c D A nL cells slots Q q lv st ws2) : zW p l e R s m args below meth c D A nL cells slots Q pc lv (v :: .ref a :: st) ws := by
  obtain ⟨⟨h1, h2⟩, h3⟩ := hT
  subst h1 h2 h3 hq hw
  exact fun H locs ls hP hD hS hl => va_putF G.1 G.2.1 G.2.2.2.2.1 hin ty0 hty hnm G.2.2.2.1 G.2.2.2.2.2.1 hP hD hS q0 he hc k hk (G.2.2.2.2.1 _ hlink) (fun _ h9 => h9) hfin hin2 hdecl (hty k hk) hn hfit hl9 hdg (fun H1 locs1 hP1 hD1 hS1 => kk H1 locs1 ls hP1 hD1 hS1 hl)
/-- an index within -/
def ib (i : Int32) (n : Nat) : Bool := decide (0 ≤ i.toInt ∧ i.toInt < n)
theorem ib_in {i : Int32} {n : Nat} (h : ib i n = true) : vp_in i n := vp_in_iff.mpr (of_decide_eq_true h)
theorem zq_iald (G : zG p s m args c cc nL own D cyI cyZ A) {a n : Nat} {f : Nat → Int32} {i : Int32} (hdg : decode cc pc = .ok (.iaload, 1)) (q0 : Nat) (ha : ws[q0]? = some (a, .inl (cyI, n, .inl f))) (hi : ib i n = true) (hq : pc + 1 = q) (kk : zW p l e R s m args below meth c D A nL cells slots Q q lv (.int (f i.toNatClampNeg) :: st) ws) : zW p l e R s m args below meth c D A nL cells slots Q pc lv (.int i :: .ref a :: st) ws := by
  subst hq
  exact fun H locs ls hP hD hS hl => va_iald G.1 G.2.1 G.2.2.2.2.2.1 hP q0 0 ha rfl (ib_in hi) hdg (kk H locs ls hP hD hS hl)
theorem zq_zald (G : zG p s m args c cc nL own D cyI cyZ A) {a n : Nat} {f : Nat → Int32} {i : Int32} (hdg : decode cc pc = .ok (.baload, 1)) (q0 : Nat) (ha : ws[q0]? = some (a, .inl (cyZ, n, .inl f))) (hi : ib i n = true) (hq : pc + 1 = q) (kk : zW p l e R s m args below meth c D A nL cells slots Q q lv (.int (f i.toNatClampNeg) :: st) ws) : zW p l e R s m args below meth c D A nL cells slots Q pc lv (.int i :: .ref a :: st) ws := by
  subst hq
  exact fun H locs ls hP hD hS hl => va_zald G.1 G.2.1 G.2.2.2.2.2.1 hP q0 1 ha rfl (ib_in hi) hdg (kk H locs ls hP hD hS hl)
theorem zq_iast (G : zG p s m args c cc nL own D cyI cyZ A) {a n : Nat} {f : Nat → Int32} {i x : Int32} {ws2 : va_W} (hdg : decode cc pc = .ok (.iastore, 1)) (q0 : Nat) (ha : ws[q0]? = some (a, .inl (cyI, n, .inl f))) (hi : ib i n = true) (hw : ws.set q0 (a, .inl (cyI, n, .inl (upd f i.toNatClampNeg x))) = ws2) (hq : pc + 1 = q) (kk : zW p l e R s m args below meth c D A nL cells slots Q q lv st ws2) : zW p l e R s m args below meth c D A nL cells slots Q pc lv (.int x :: .int i :: .ref a :: st) ws := by
  subst hq hw
  exact fun H locs ls hP hD hS hl => va_iast G.1 G.2.1 G.2.2.2.2.2.1 hP hD hS q0 0 ha rfl (ib_in hi) hdg (fun H1 locs1 hP1 hD1 hS1 => kk H1 locs1 ls hP1 hD1 hS1 hl)
theorem zq_zast (G : zG p s m args c cc nL own D cyI cyZ A) {a n : Nat} {f : Nat → Int32} {i x : Int32} {ws2 : va_W} (hdg : decode cc pc = .ok (.bastore, 1)) (q0 : Nat) (ha : ws[q0]? = some (a, .inl (cyZ, n, .inl f))) (hi : ib i n = true) (hw : ws.set q0 (a, .inl (cyZ, n, .inl (upd f i.toNatClampNeg (x &&& 1)))) = ws2) (hq : pc + 1 = q) (kk : zW p l e R s m args below meth c D A nL cells slots Q q lv st ws2) : zW p l e R s m args below meth c D A nL cells slots Q pc lv (.int x :: .int i :: .ref a :: st) ws := by
  subst hq hw
  exact fun H locs ls hP hD hS hl => va_zast G.1 G.2.1 G.2.2.2.2.2.1 hP hD hS q0 1 ha rfl (ib_in hi) hdg (fun H1 locs1 hP1 hD1 hS1 => kk H1 locs1 ls hP1 hD1 hS1 hl)
theorem zq_mmax (G : zG p s m args c cc nL own D cyI cyZ A) {idx : Nat} {x y : Int32} (h1 : Cond.methodLink own idx Lib.Math.max.name ∈ zB) (h2 : Cond.static Lib.Math.max.name ∈ zB) (h3 : Cond.initialized "java/lang/Math" ∈ zB) (h4 : Cond.code Lib.Math.max.name Lib.Math.max.code 2 (some .int) ∈ zB) (hdg : decode cc pc = .ok (.invokestatic idx, 3)) (hR : 1 ≤ R.frames ∧ (st.map fun v => v.category).sum + 13 ≤ R.locals ∧ cells ≤ R.cells ∧ slots ≤ R.slots) (hq : pc + 3 = q) (kk : zW p l e R s m args below meth c D A nL cells slots Q q lv (.int (if x < y then y else x) :: st) ws) : zW p l e R s m args below meth c D A nL cells slots Q pc lv (.int y :: .int x :: st) ws := by
  subst hq
  exact fun H locs ls hP hD hS hl => va_mmax G.1 G.2.1 (by rw [G.2.2.1]; exact hl.1.symm) G.2.2.2.1 (G.2.2.2.2.1 _ h1) (G.2.2.2.2.1 _ h2) (G.2.2.2.2.1 _ h3) (G.2.2.2.2.1 _ h4) hR.1 hR.2.1 hR.2.2.1 hR.2.2.2 hdg (kk H locs ls hP hD hS hl)
theorem zq_mmin (G : zG p s m args c cc nL own D cyI cyZ A) {idx : Nat} {x y : Int32} (h1 : Cond.methodLink own idx Lib.Math.min.name ∈ zB) (h2 : Cond.static Lib.Math.min.name ∈ zB) (h3 : Cond.initialized "java/lang/Math" ∈ zB) (h4 : Cond.code Lib.Math.min.name Lib.Math.min.code 2 (some .int) ∈ zB) (hdg : decode cc pc = .ok (.invokestatic idx, 3)) (hR : 1 ≤ R.frames ∧ (st.map fun v => v.category).sum + 13 ≤ R.locals ∧ cells ≤ R.cells ∧ slots ≤ R.slots) (hq : pc + 3 = q) (kk : zW p l e R s m args below meth c D A nL cells slots Q q lv (.int (if y < x then y else x) :: st) ws) : zW p l e R s m args below meth c D A nL cells slots Q pc lv (.int y :: .int x :: st) ws := by
  subst hq
  exact fun H locs ls hP hD hS hl => va_mmin G.1 G.2.1 (by rw [G.2.2.1]; exact hl.1.symm) G.2.2.2.1 (G.2.2.2.2.1 _ h1) (G.2.2.2.2.1 _ h2) (G.2.2.2.2.1 _ h3) (G.2.2.2.2.1 _ h4) hR.1 hR.2.1 hR.2.2.1 hR.2.2.2 hdg (kk H locs ls hP hD hS hl)
theorem zq_mabs (G : zG p s m args c cc nL own D cyI cyZ A) {idx : Nat} {x : Int32} (h1 : Cond.methodLink own idx Lib.Math.abs.name ∈ zB) (h2 : Cond.static Lib.Math.abs.name ∈ zB) (h3 : Cond.initialized "java/lang/Math" ∈ zB) (h4 : Cond.code Lib.Math.abs.name Lib.Math.abs.code 1 (some .int) ∈ zB) (hdg : decode cc pc = .ok (.invokestatic idx, 3)) (hR : 1 ≤ R.frames ∧ (st.map fun v => v.category).sum + 13 ≤ R.locals ∧ cells ≤ R.cells ∧ slots ≤ R.slots) (hq : pc + 3 = q) (kk : zW p l e R s m args below meth c D A nL cells slots Q q lv (.int (if 0 ≤ x then x else 0 - x) :: st) ws) : zW p l e R s m args below meth c D A nL cells slots Q pc lv (.int x :: st) ws := by
  subst hq
  exact fun H locs ls hP hD hS hl => va_mabs G.1 G.2.1 (by rw [G.2.2.1]; exact hl.1.symm) G.2.2.2.1 (G.2.2.2.2.1 _ h1) (G.2.2.2.2.1 _ h2) (G.2.2.2.2.1 _ h3) (G.2.2.2.2.1 _ h4) hR.1 hR.2.1 hR.2.2.1 hR.2.2.2 hdg (kk H locs ls hP hD hS hl)
theorem zend_of {H : Heap} {locs : List Loc} {W1 : va_W} (G : zG p s m args c cc nL own D cyI cyZ A) (hP : va_P D vwCl W1 H) (hD : va_D A W1) {t : State} (ht : t.heap = H) (hW : s.WarmedH t.vm) : zEnd D cyI cyZ A W1 t := ⟨by rw [ht]; exact hP, va_K.moved hW.alike G.2.2.2.2.2.1, hD⟩
theorem zq_iret {sz : Nat} {W0 : va_W} {r v : Int32} {W1 : va_W} (G : zG p s m args c cc nL own D cyI cyZ (va_A W0 sz)) (hlocks : meth.locks = false) {ty : FieldType} (hr : meth.sig.returnType = some ty) (hn : narrow ty (.int v) = .int v) (hdg : decode cc pc = .ok (.ireturn, 1)) (e9 : v = r) : zW p l e R s m args below meth c D (va_A W0 sz) nL 0 0 (MQ below (zQi D cyI cyZ sz W0 r W1) args s 0 0 (va_A W0 sz)) pc lv [.int v] W1 := fun H locs ls hP hD hS hl => W.zret G.1 G.2.1 hr hn (fun t ht hW => ⟨⟨v, (), rfl, e9, zend_of (locs := locs) G hP hD ht hW⟩, hS.F ht⟩) hS.2.2 hdg hlocks
theorem zq_lret {sz : Nat} {W0 : va_W} {r v : Int64} {W1 : va_W} (G : zG p s m args c cc nL own D cyI cyZ (va_A W0 sz)) (hlocks : meth.locks = false) (hr : meth.sig.returnType = some .long) (hdg : decode cc pc = .ok (.lreturn, 1)) (e9 : v = r) : zW p l e R s m args below meth c D (va_A W0 sz) nL 0 0 (MQ below (zQl D cyI cyZ sz W0 r W1) args s 0 0 (va_A W0 sz)) pc lv [.long v] W1 := fun H locs ls hP hD hS hl => W.lret G.1 G.2.1 hr (fun t ht hW => ⟨⟨v, (), rfl, e9, zend_of (locs := locs) G hP hD ht hW⟩, hS.F ht⟩) hS.2.2 hdg hlocks
theorem zq_vret {sz : Nat} {W0 : va_W} {W1 : va_W} (G : zG p s m args c cc nL own D cyI cyZ (va_A W0 sz)) (hlocks : meth.locks = false) (hr : meth.sig.returnType = none) (hdg : decode cc pc = .ok (.return_, 1)) : zW p l e R s m args below meth c D (va_A W0 sz) nL 0 0 (MQ below (zQv D cyI cyZ sz W0 W1) args s 0 0 (va_A W0 sz)) pc lv [] W1 := fun H locs ls hP hD hS hl => W.vret G.1 G.2.1 hr (fun t ht hW => ⟨⟨(), rfl, trivial, zend_of (locs := locs) G hP hD ht hW⟩, hS.F ht⟩) hS.2.2 hdg hlocks
theorem zq_iretX {sz : Nat} {W0 : va_W} {v : Int32} {W1 : va_W} {z : Sum String Int32} (G : zG p s m args c cc nL own D cyI cyZ (va_A W0 sz)) (hlocks : meth.locks = false) {ty : FieldType} (hr : meth.sig.returnType = some ty) (hn : narrow ty (.int v) = .int v) (hdg : decode cc pc = .ok (.ireturn, 1)) (e9 : z = .inr v) : zW p l e R s m args below meth c D (va_A W0 sz) nL 0 0 (vx_MQ below (zQXi D cyI cyZ sz W0 z W1) (zXC D cyI cyZ sz W0 z W1) args s (zmc z) (zms z) (va_A W0 sz)) pc lv [.int v] W1 := by
  subst e9
  exact fun H locs ls hP hD hS hl => vx_ret (W.zret G.1 G.2.1 hr hn (fun t ht hW => ⟨⟨v, (), rfl, rfl, zend_of (locs := locs) G hP hD ht hW⟩, hS.F ht⟩) hS.2.2 hdg hlocks)
theorem zq_vretX {sz : Nat} {W0 : va_W} {W1 : va_W} {z : Sum String Unit} (G : zG p s m args c cc nL own D cyI cyZ (va_A W0 sz)) (hlocks : meth.locks = false) (hr : meth.sig.returnType = none) (hdg : decode cc pc = .ok (.return_, 1)) (e9 : z = .inr ()) : zW p l e R s m args below meth c D (va_A W0 sz) nL 0 0 (vx_MQ below (zQXv D cyI cyZ sz W0 z W1) (zXC D cyI cyZ sz W0 z W1) args s (zmc z) (zms z) (va_A W0 sz)) pc lv [] W1 := by
  subst e9
  exact fun H locs ls hP hD hS hl => vx_ret (W.vret G.1 G.2.1 hr (fun t ht hW => ⟨⟨(), rfl, rfl, zend_of (locs := locs) G hP hD ht hW⟩, hS.F ht⟩) hS.2.2 hdg hlocks)
theorem zfits : ∀ n ∈ ["java/lang/RuntimeException", "java/lang/Exception"], Bundle.fit n = true := by decide +kernel
theorem zq_throw {α : Type} {sz : Nat} {W0 : va_W} {W1 : va_W} {z : Sum String α} {Qc : Array Value → State → Outcome → State → Prop} (G : zG p s m args c cc nL own D cyI cyZ (va_A W0 sz)) (hlocks : meth.locks = false) (hst : l.stackTraces = false) (ht : ∀ x ∈ c.exceptionTable.toList, False) {ik ic : Nat} {cls : String} (hz : zThr own ik ic cls) (d0 : decode cc pc = .ok (.new ik, 3)) (d3 : decode cc (pc + 3) = .ok (.dup, 1)) (d4 : decode cc (pc + 4) = .ok (.invokespecial ic, 3)) (d7 : decode cc (pc + 7) = .ok (.athrow, 1)) (hR : 5 < R.frames ∧ (st.map fun v => v.category).sum + 81 ≤ R.locals) (hRc : R.cells = zmc z) (hRs : R.slots = zms z) (e9 : z = .inl cls) : zW p l e R s m args below meth c D (va_A W0 sz) nL 0 0 (vx_MQ below Qc (zXC D cyI cyZ sz W0 z W1) args s (zmc z) (zms z) (va_A W0 sz)) pc lv st W1 := by
  subst e9
  intro H locs ls hP hD hS hl
  obtain ⟨h1, h2, h3, h4⟩ := hz
  have hB := G.2.2.2.2.1
  refine vx_throw0 G.1 G.2.1 hst (names := ["java/lang/RuntimeException", "java/lang/Exception"]) (ik := ik) (ic := ic) (A := va_A W0 sz) G.2.2.2.1 h4 zfits (hB _ h1) (hB _ h2) (fun w hw => hB _ (h3 w hw)) ?_ G.2.2.2.2.2.2.2.1 G.2.2.2.2.2.2.2.2.1 hS (hl.1.trans G.2.2.1.symm) d0 d3 d4 d7 (fun x hx => (ht x hx).elim) hR.1 (by show _ + (13 * 3 + 42) ≤ _; exact hR.2) (by rw [hRc]; exact Nat.le_refl 1) (by rw [hRs]; exact Nat.le_refl 6) hlocks ?_ hS.2.2 (Nat.le_refl 1) (Nat.le_refl 6)
  · intro w hw
    rcases List.mem_cons.mp hw with rfl | hw
    · exact zot1 (zB_good h1)
    · rcases List.mem_cons.mp hw with rfl | hw
      · exact zot1 (zB_good h2)
      · exact zot1 (zB_good (h3 w hw))
  · intro t hvm hz1 hk1
    refine ⟨(), trivial, ⟨rfl, ?_, va_K.moved hvm G.2.2.2.2.2.1, hD⟩, Nat.le_trans hS.1 hz1, fun q h5 h6 => ?_⟩
    · exact hP.kept (fun k q hq => hk1 q.1 ((hP k q hq).lt))
    · rw [hk1 q (Nat.lt_of_lt_of_le h5 hS.1)]
      exact hS.2.1 q h5 h6

end ZQ
theorem zG_of {p : Program} {l : Launch} {y : MethodName} {ws : List Cond} {rm : Room} {cc : ByteArray} {nL : Nat} {rt : Option FieldType} {e : Env} {s s₁ : State} {m : MethodId} {args : Array Value} {below : List Frame} {meth : Method} {c : Code} {D : va_G} {cyI cyZ : ClassId} {sz : Nat} {W0 : va_W}
    (B : BodyLoose p l y (headSpec ws rm) cc nL rt e s m args below meth c s₁) (hml : c.maxLocals = nL) (hsub : ∀ w ∈ zB, w ∈ ws) (h : zPre D cyI cyZ sz W0 s) : zG p s m args c cc nL y.cls D cyI cyZ (va_A W0 sz) ∧ va_D (va_A W0 sz) W0 ∧ s.heap.size = sz := by
  obtain ⟨hsz, hP, hK, hD, hX⟩ := h
  exact ⟨⟨B.exec, B.bytes, hml, findClass_of_methodNamed B.named, fun w hw => atoms_spec (ws := ws) B.pre w (hsub w hw), hK, fun q h => Or.inr (by rw [← hsz]; exact h), hX⟩, hD.self, hsz⟩
theorem zws_sub {y : MethodName} {b : ByteArray} {k : Nat} {r : Option FieldType} : ∀ w ∈ zB, w ∈ zws y b k r := fun _ h => List.mem_cons_of_mem _ h
theorem zwh_sub {y : MethodName} {b : ByteArray} {k : Nat} {r : Option FieldType} {hh : List (Nat × Nat × Nat × Nat)} : ∀ w ∈ zB, w ∈ zwh y b k r hh := fun _ h => List.mem_cons_of_mem _ h

theorem zstartI {l : Launch} {y : MethodName} {b : ByteArray} {k : Nat} {rt : FieldType} {fr lo : Nat} {D : va_G} {cyI cyZ : ClassId} {sz : Nat} {av : List Value} {W0 : va_W} {r : Int32} {W1 : va_W} {lv0 : List (Nat × Value)} (hy : plainName y.cls = true) (hk : (lg_sl av).length ≤ k) (hlv : lv_args 0 av = lv0)
    (body : ∀ (p : Program) (e : Env) (s : State) (m : MethodId) (args : Array Value) (below : List Frame) (meth : Method) (c : Code), zG p s m args c b k y.cls D cyI cyZ (va_A W0 sz) → meth.sig.returnType = (some rt) → meth.locks = false →
      zW p l e { frames := fr, cells := 0, slots := 0, locals := lo } s m args below meth c D (va_A W0 sz) k 0 0 (MQ below (zQi D cyI cyZ sz W0 r W1) args s 0 0 (va_A W0 sz)) 0 lv0 [] W0) : zMi l y b k rt fr lo D cyI cyZ sz av W0 r W1 := by
  subst hlv
  refine Met.ofW (cc := b) (maxL := k) (ret := (some rt)) hy rfl ?_
  intro p e s m args below meth c s₁ B hml hv
  obtain ⟨rfl, hv⟩ := hv
  obtain ⟨G, hD, hsz⟩ := zG_of B hml zws_sub hv
  rw [lg_entry_eq]
  subst hsz
  exact body p e s m _ below meth c G B.returns B.notSynchronized s.heap [] _ hv.2.1 hD va_S.rf (lv_entry av hk)
theorem zstartL {l : Launch} {y : MethodName} {b : ByteArray} {k : Nat} {rt : FieldType} {fr lo : Nat} {D : va_G} {cyI cyZ : ClassId} {sz : Nat} {av : List Value} {W0 : va_W} {r : Int64} {W1 : va_W} {lv0 : List (Nat × Value)} (hy : plainName y.cls = true) (hk : (lg_sl av).length ≤ k) (hlv : lv_args 0 av = lv0)
    (body : ∀ (p : Program) (e : Env) (s : State) (m : MethodId) (args : Array Value) (below : List Frame) (meth : Method) (c : Code), zG p s m args c b k y.cls D cyI cyZ (va_A W0 sz) → meth.sig.returnType = (some rt) → meth.locks = false →
      zW p l e { frames := fr, cells := 0, slots := 0, locals := lo } s m args below meth c D (va_A W0 sz) k 0 0 (MQ below (zQl D cyI cyZ sz W0 r W1) args s 0 0 (va_A W0 sz)) 0 lv0 [] W0) : zMl l y b k rt fr lo D cyI cyZ sz av W0 r W1 := by
  subst hlv
  refine Met.ofW (cc := b) (maxL := k) (ret := (some rt)) hy rfl ?_
  intro p e s m args below meth c s₁ B hml hv
  obtain ⟨rfl, hv⟩ := hv
  obtain ⟨G, hD, hsz⟩ := zG_of B hml zws_sub hv
  rw [lg_entry_eq]
  subst hsz
  exact body p e s m _ below meth c G B.returns B.notSynchronized s.heap [] _ hv.2.1 hD va_S.rf (lv_entry av hk)
theorem zstartV {l : Launch} {y : MethodName} {b : ByteArray} {k : Nat} {fr lo : Nat} {D : va_G} {cyI cyZ : ClassId} {sz : Nat} {av : List Value} {W0 : va_W} {W1 : va_W} {lv0 : List (Nat × Value)} (hy : plainName y.cls = true) (hk : (lg_sl av).length ≤ k) (hlv : lv_args 0 av = lv0)
    (body : ∀ (p : Program) (e : Env) (s : State) (m : MethodId) (args : Array Value) (below : List Frame) (meth : Method) (c : Code), zG p s m args c b k y.cls D cyI cyZ (va_A W0 sz) → meth.sig.returnType = none → meth.locks = false →
      zW p l e { frames := fr, cells := 0, slots := 0, locals := lo } s m args below meth c D (va_A W0 sz) k 0 0 (MQ below (zQv D cyI cyZ sz W0 W1) args s 0 0 (va_A W0 sz)) 0 lv0 [] W0) : zMv l y b k fr lo D cyI cyZ sz av W0 W1 := by
  subst hlv
  refine Met.ofW (cc := b) (maxL := k) (ret := none) hy rfl ?_
  intro p e s m args below meth c s₁ B hml hv
  obtain ⟨rfl, hv⟩ := hv
  obtain ⟨G, hD, hsz⟩ := zG_of B hml zws_sub hv
  rw [lg_entry_eq]
  subst hsz
  exact body p e s m _ below meth c G B.returns B.notSynchronized s.heap [] _ hv.2.1 hD va_S.rf (lv_entry av hk)
theorem zstartXI {l : Launch} {y : MethodName} {b : ByteArray} {k : Nat} {rt : FieldType} {fr lo : Nat} {D : va_G} {cyI cyZ : ClassId} {sz : Nat} {av : List Value} {W0 : va_W} {z : Sum String Int32} {W1 : va_W} {lv0 : List (Nat × Value)} (hy : plainName y.cls = true) (hk : (lg_sl av).length ≤ k) (hlv : lv_args 0 av = lv0)
    (body : ∀ (p : Program) (e : Env) (s : State) (m : MethodId) (args : Array Value) (below : List Frame) (meth : Method) (c : Code), zG p s m args c b k y.cls D cyI cyZ (va_A W0 sz) → meth.sig.returnType = (some rt) → meth.locks = false → (∀ x ∈ c.exceptionTable.toList, False) →
      zW p l e { frames := fr, cells := zmc z, slots := zms z, locals := lo } s m args below meth c D (va_A W0 sz) k 0 0 (vx_MQ below (zQXi D cyI cyZ sz W0 z W1) (zXC D cyI cyZ sz W0 z W1) args s (zmc z) (zms z) (va_A W0 sz)) 0 lv0 [] W0) : zXi l y b k rt fr lo D cyI cyZ sz av W0 z W1 := by
  subst hlv
  refine vx_ofW (cc := b) (maxL := k) (ret := (some rt)) hy rfl ?_
  intro p e s m args below meth c s₁ B hml ht hv
  obtain ⟨rfl, hv⟩ := hv
  obtain ⟨G, hD, hsz⟩ := zG_of B hml zws_sub hv
  rw [lg_entry_eq]
  subst hsz
  exact body p e s m _ below meth c G B.returns B.notSynchronized ht s.heap [] _ hv.2.1 hD va_S.rf (lv_entry av hk)
theorem zstartXV {l : Launch} {y : MethodName} {b : ByteArray} {k : Nat} {fr lo : Nat} {D : va_G} {cyI cyZ : ClassId} {sz : Nat} {av : List Value} {W0 : va_W} {z : Sum String Unit} {W1 : va_W} {lv0 : List (Nat × Value)} (hy : plainName y.cls = true) (hk : (lg_sl av).length ≤ k) (hlv : lv_args 0 av = lv0)
    (body : ∀ (p : Program) (e : Env) (s : State) (m : MethodId) (args : Array Value) (below : List Frame) (meth : Method) (c : Code), zG p s m args c b k y.cls D cyI cyZ (va_A W0 sz) → meth.sig.returnType = none → meth.locks = false → (∀ x ∈ c.exceptionTable.toList, False) →
      zW p l e { frames := fr, cells := zmc z, slots := zms z, locals := lo } s m args below meth c D (va_A W0 sz) k 0 0 (vx_MQ below (zQXv D cyI cyZ sz W0 z W1) (zXC D cyI cyZ sz W0 z W1) args s (zmc z) (zms z) (va_A W0 sz)) 0 lv0 [] W0) : zXv l y b k fr lo D cyI cyZ sz av W0 z W1 := by
  subst hlv
  refine vx_ofW (cc := b) (maxL := k) (ret := none) hy rfl ?_
  intro p e s m args below meth c s₁ B hml ht hv
  obtain ⟨rfl, hv⟩ := hv
  obtain ⟨G, hD, hsz⟩ := zG_of B hml zws_sub hv
  rw [lg_entry_eq]
  subst hsz
  exact body p e s m _ below meth c G B.returns B.notSynchronized ht s.heap [] _ hv.2.1 hD va_S.rf (lv_entry av hk)
/-! ===== calls ===== -/
section ZC
variable {p : Program} {l : Launch} {e : Env} {R : Room} {s : State} {m : MethodId} {args : Array Value} {below : List Frame} {meth : Method} {c : Code} {cells slots : Nat} {Q : State → Prop}
variable {cc : ByteArray} {nL : Nat} {own : String} {D : va_G} {cyI cyZ : ClassId} {A : Nat → Prop} {pc q : Nat} {lv : List (Nat × Value)} {st rest : List Value} {ws : va_W}
theorem zfix (G : zG p s m args c cc nL own D cyI cyZ A) : CallFix p m c cc nL s args zB own := ⟨G.1, G.2.1, G.2.2.1, G.2.2.2.1, G.2.2.2.2.1⟩
theorem zlen {y : MethodName} {n : Nat} (h : (parseMethodDescriptor y.desc).map (fun d => d.parameters.length) = some n) : ∀ sig, parseMethodDescriptor y.desc = some sig → n = sig.parameters.length := fun sig h9 => by
  rw [h9] at h
  exact (Option.some.inj h).symm
theorem zpays (G : zG p s m args c cc nL own D cyI cyZ A) {y : MethodName} {b : ByteArray} {k : Nat} {r : Option FieldType} (hc : Cond.code y b k r ∈ zB) : ∀ w ∈ zws y b k r, ∀ (a' : Array Value) (U : State), s.WarmedH U.vm → w.before a' U = true := fun w hw a' U hW => by
  rcases List.mem_cons.mp hw with rfl | hw
  · exact zpay1 (zB_good hc) hW (G.2.2.2.2.1 _ hc)
  · exact zpay1 (zB_good hw) hW (G.2.2.2.2.1 _ hw)
theorem zpaysW (G : zG p s m args c cc nL own D cyI cyZ A) {y : MethodName} {b : ByteArray} {k : Nat} {r : Option FieldType} {hh : List (Nat × Nat × Nat × Nat)} (hc : Cond.codeWith y b k r hh ∈ zB) : ∀ w ∈ zwh y b k r hh, ∀ (a' : Array Value) (U : State), s.WarmedH U.vm → w.before a' U = true := fun w hw a' U hW => by
  rcases List.mem_cons.mp hw with rfl | hw
  · exact zpay1 (zB_good hc) hW (G.2.2.2.2.1 _ hc)
  · exact zpay1 (zB_good hw) hW (G.2.2.2.2.1 _ hw)
/-- the room that a call wants -/
abbrev zFit (R rm : Room) (k cells slots : Nat) : Prop := rm.frames + 1 ≤ R.frames ∧ 8 + (k + 11) + rm.locals ≤ R.locals ∧ cells + rm.cells ≤ R.cells ∧ slots + rm.slots ≤ R.slots
theorem zCW (G : zG p s m args c cc nL own D cyI cyZ A) {idx : Nat} {y : MethodName} {b : ByteArray} {k : Nat} {r : Option FieldType} {n : Nat} {rm : Room} (hs : zSV own idx y b k r n) (hR : zFit R rm k cells slots) : CallW R s args own y.cls idx y b k r (zws y b k r) rm rm.cells rm.slots n := by
  obtain ⟨h1, h2, h3, h4, h5, h6, h7⟩ := hs
  have hB := G.2.2.2.2.1
  exact ⟨⟨rfl, rfl, hR.1, hR.2.1, zpays G h5, List.mem_cons_self, hB _ h5, hB _ h4, h6, zlen h7, hB _ h1⟩, hB _ h2, hB _ h3⟩
theorem zCS (G : zG p s m args c cc nL own D cyI cyZ A) {idx : Nat} {y : MethodName} {b : ByteArray} {k : Nat} {r : Option FieldType} {n : Nat} {rm : Room} (hs : zSS own idx y b k r n) (hR : zFit R rm k cells slots) : CallB R s args own idx y b k r (zws y b k r) rm rm.cells rm.slots n ∧ (Cond.static y).before args s = true := by
  obtain ⟨h1, h2, h4, h5, h6, h7⟩ := hs
  have hB := G.2.2.2.2.1
  exact ⟨⟨rfl, rfl, hR.1, hR.2.1, zpays G h5, List.mem_cons_self, hB _ h5, hB _ h4, h6, zlen h7, hB _ h1⟩, hB _ h2⟩
theorem zCN (G : zG p s m args c cc nL own D cyI cyZ A) {idx : Nat} {y : MethodName} {host : String} {b : ByteArray} {k : Nat} {r : Option FieldType} {n : Nat} {rm : Room} (hs : zSN own idx y host b k r n) (hR : zFit R rm k cells slots) : va_CN R s args own idx y host b k r (zws y b k r) rm rm.cells rm.slots n ∧ (Cond.static y).before args s = true ∧ True := by
  obtain ⟨h1, h2, h4, h5, h6, h7⟩ := hs
  have hB := G.2.2.2.2.1
  exact ⟨⟨⟨rfl, rfl, hR.1, hR.2.1, zpays G h5, List.mem_cons_self⟩, hB _ h5, hB _ h4, h6, zlen h7, hB _ h1⟩, hB _ h2, trivial⟩
theorem zCSW (G : zG p s m args c cc nL own D cyI cyZ A) {idx : Nat} {y : MethodName} {b : ByteArray} {k : Nat} {r : Option FieldType} {hh : List (Nat × Nat × Nat × Nat)} {n : Nat} {rm : Room} (hs : zSW own idx y b k r hh n) (hR : zFit R rm k cells slots) : vx_CSW R s args own idx y b k r hh (zwh y b k r hh) rm rm.cells rm.slots n := by
  obtain ⟨h1, h2, h4, h5, h6, h7⟩ := hs
  have hB := G.2.2.2.2.1
  exact ⟨⟨rfl, rfl, hR.1, hR.2.1, zpaysW G h5, List.mem_cons_self⟩, hB _ h5, hB _ h4, h6, zlen h7, hB _ h1, hB _ h2⟩
/-- the callee's world is cut out at the places isC; what comes back stands beside the rest (places isR), in the order perm -/
abbrev zCut (ws W0 W1 ws2 : va_W) (isC isR perm : List Nat) : Prop := isC.map (fun i => ws[i]?) = W0.map some ∧ isR.map (fun i => ws[i]?) = (isR.filterMap (fun i => ws[i]?)).map some ∧ (va_nd isR && isR.all (fun i => !isC.contains i) && va_nd perm) = true ∧ perm.map (fun i => (isR.filterMap (fun i => ws[i]?) ++ W1)[i]?) = ws2.map some
theorem zfm {β : Type} {is : List Nat} {f : Nat → Option β} {l : List β} (h : is.map f = l.map some) : is.filterMap f = l := by
  have h2 : is.filterMap f = (is.map f).filterMap id := by rw [List.filterMap_map]; rfl
  rw [h2, h, List.filterMap_map]
  simp
theorem zjoin {ws W0 W1 ws2 : va_W} {isC isR perm : List Nat} {H H1 : Heap} (hcut : zCut ws W0 W1 ws2 isC isR perm) (hP : va_P D vwCl ws H) (hD : va_D A ws) (hk : ∀ q : Nat, q < H.size → ¬ va_A W0 H.size q → H1[q]? = H[q]?) (hF : ∀ q, va_A W0 H.size q → A q) (hP1 : va_P D vwCl W1 H1) (hD1 : va_D (va_A W0 H.size) W1) : va_P D vwCl ws2 H1 ∧ va_D A ws2 := by
  obtain ⟨h1, h2, h3, h4⟩ := hcut
  simp only [Bool.and_eq_true] at h3
  obtain ⟨⟨h5, h6⟩, h7⟩ := h3
  obtain ⟨hP2, hD2⟩ := va_join hP hD isC isR h1 h2 h5 (fun i hi => by
    have := List.all_eq_true.mp h6 i hi
    simpa using this) hk hF hP1 hD1
  exact ⟨hP2.sub perm (zfm h4), hD2.sub perm h7 h4⟩
theorem zcutP {ws W0 W1 ws2 : va_W} {isC isR perm : List Nat} {H : Heap} {locs : List Loc} (G : zG p s m args c cc nL own D cyI cyZ A) (hcut : zCut ws W0 W1 ws2 isC isR perm) (hC : va_nd isC = true) (hP : va_P D vwCl ws H) (hD : va_D A ws) (hS : va_S A s.heap H locs) : (∀ q, va_A W0 H.size q → A q) ∧ ∀ U : State, U.heap = H → s.WarmedH U.vm → zPre D cyI cyZ H.size W0 U := by
  have hF := va_free hD hS G.2.2.2.2.2.2.1 isC hcut.1
  refine ⟨hF, fun U hU hW => ⟨by rw [hU], by rw [hU]; exact hP.sub isC (zfm hcut.1), va_K.moved hW.alike G.2.2.2.2.2.1, (hD.sub isC hC hcut.1).weaken (fun _ _ _ _ => trivial), ?_⟩⟩
  rw [hU]
  exact zX.moved hW.alike ((G.2.2.2.2.2.2.2.kept hS.2.1).narrow hF)

theorem zq_callVi (G : zG p s m args c cc nL own D cyI cyZ A) {idx : Nat} {y : MethodName} {b : ByteArray} {k fr lo : Nat} {rt : FieldType} {a : Nat} {As : List Value} {W0 W1 ws2 : va_W} {r : Int32} {isC isR perm : List Nat} (hs : zSV own idx y b k (some rt) As.length) (hdg : decode cc pc = .ok (.invokevirtual idx, 3)) (hM : ∀ sz : Nat, zMi l y b k rt fr lo D cyI cyZ sz (.ref a :: As) W0 r W1) {ci : Nat} {fs : List Value} {cT : u_T} {cN : Nat} (q0 : Nat) (he : ws[q0]? = some (a, .inr (ci, fs))) (hc : vwCl[ci]? = some (y.cls, cT, cN)) (hst : st = As.reverse ++ .ref a :: rest) (hcut : zCut ws W0 W1 ws2 isC isR perm) (hC : va_nd isC = true) (hcat : (rest.map fun v => v.category).sum ≤ 8) (hR : zFit R { frames := fr, cells := 0, slots := 0, locals := lo } k cells slots) (hq : pc + 3 = q) (kk : zW p l e R s m args below meth c D A nL cells slots Q q lv (.int r :: rest) ws2) : zW p l e R s m args below meth c D A nL cells slots Q pc lv st ws := by
  subst hq hst
  intro H locs ls hP hD hS hl
  obtain ⟨hF, hpre⟩ := zcutP G hcut hC hP hD hS
  have hB1 : FrameBlind (va_Pc (.ref a :: As) (zPre D cyI cyZ H.size W0)) := zPre_blind
  refine va_calli (va_runV (As := As) (rest := rest) (zfix G) (hM H.size) (zCW G hs hR) ⟨hB1, va_recv G.2.2.2.2.2.1 hP hc he, fun U hU hW => ⟨rfl, hpre U hU hW⟩⟩ rfl rfl hl.1 rfl (lv_room hcat) hdg ⟨hR.2.2.1, hR.2.2.2⟩) hS (fun q _ h => hF q h) hF (fun r2 u t H1 locs1 ht hvm hw hB hz1 hk1 hS1 => ?_)
  obtain ⟨hP1, hK1, hD1⟩ := hB
  rw [ht] at hP1
  subst hw
  obtain ⟨hP2, hD2⟩ := zjoin hcut hP hD hk1 hF hP1 hD1
  exact kk H1 locs1 ls hP2 hD2 hS1 hl
theorem zq_callVl (G : zG p s m args c cc nL own D cyI cyZ A) {idx : Nat} {y : MethodName} {b : ByteArray} {k fr lo : Nat} {rt : FieldType} {a : Nat} {As : List Value} {W0 W1 ws2 : va_W} {r : Int64} {isC isR perm : List Nat} (hs : zSV own idx y b k (some rt) As.length) (hdg : decode cc pc = .ok (.invokevirtual idx, 3)) (hM : ∀ sz : Nat, zMl l y b k rt fr lo D cyI cyZ sz (.ref a :: As) W0 r W1) {ci : Nat} {fs : List Value} {cT : u_T} {cN : Nat} (q0 : Nat) (he : ws[q0]? = some (a, .inr (ci, fs))) (hc : vwCl[ci]? = some (y.cls, cT, cN)) (hst : st = As.reverse ++ .ref a :: rest) (hcut : zCut ws W0 W1 ws2 isC isR perm) (hC : va_nd isC = true) (hcat : (rest.map fun v => v.category).sum ≤ 8) (hR : zFit R { frames := fr, cells := 0, slots := 0, locals := lo } k cells slots) (hq : pc + 3 = q) (kk : zW p l e R s m args below meth c D A nL cells slots Q q lv (.long r :: rest) ws2) : zW p l e R s m args below meth c D A nL cells slots Q pc lv st ws := by
  subst hq hst
  intro H locs ls hP hD hS hl
  obtain ⟨hF, hpre⟩ := zcutP G hcut hC hP hD hS
  have hB1 : FrameBlind (va_Pc (.ref a :: As) (zPre D cyI cyZ H.size W0)) := zPre_blind
  refine va_calll (va_runV (As := As) (rest := rest) (zfix G) (hM H.size) (zCW G hs hR) ⟨hB1, va_recv G.2.2.2.2.2.1 hP hc he, fun U hU hW => ⟨rfl, hpre U hU hW⟩⟩ rfl rfl hl.1 rfl (lv_room hcat) hdg ⟨hR.2.2.1, hR.2.2.2⟩) hS (fun q _ h => hF q h) hF (fun r2 u t H1 locs1 ht hvm hw hB hz1 hk1 hS1 => ?_)
  obtain ⟨hP1, hK1, hD1⟩ := hB
  rw [ht] at hP1
  subst hw
  obtain ⟨hP2, hD2⟩ := zjoin hcut hP hD hk1 hF hP1 hD1
  exact kk H1 locs1 ls hP2 hD2 hS1 hl
theorem zq_callVv (G : zG p s m args c cc nL own D cyI cyZ A) {idx : Nat} {y : MethodName} {b : ByteArray} {k fr lo : Nat} {a : Nat} {As : List Value} {W0 W1 ws2 : va_W} {isC isR perm : List Nat} (hs : zSV own idx y b k none As.length) (hdg : decode cc pc = .ok (.invokevirtual idx, 3)) (hM : ∀ sz : Nat, zMv l y b k fr lo D cyI cyZ sz (.ref a :: As) W0 W1) {ci : Nat} {fs : List Value} {cT : u_T} {cN : Nat} (q0 : Nat) (he : ws[q0]? = some (a, .inr (ci, fs))) (hc : vwCl[ci]? = some (y.cls, cT, cN)) (hst : st = As.reverse ++ .ref a :: rest) (hcut : zCut ws W0 W1 ws2 isC isR perm) (hC : va_nd isC = true) (hcat : (rest.map fun v => v.category).sum ≤ 8) (hR : zFit R { frames := fr, cells := 0, slots := 0, locals := lo } k cells slots) (hq : pc + 3 = q) (kk : zW p l e R s m args below meth c D A nL cells slots Q q lv (rest) ws2) : zW p l e R s m args below meth c D A nL cells slots Q pc lv st ws := by
  subst hq hst
  intro H locs ls hP hD hS hl
  obtain ⟨hF, hpre⟩ := zcutP G hcut hC hP hD hS
  have hB1 : FrameBlind (va_Pc (.ref a :: As) (zPre D cyI cyZ H.size W0)) := zPre_blind
  refine va_callv (va_runV (As := As) (rest := rest) (zfix G) (hM H.size) (zCW G hs hR) ⟨hB1, va_recv G.2.2.2.2.2.1 hP hc he, fun U hU hW => ⟨rfl, hpre U hU hW⟩⟩ rfl rfl hl.1 rfl (lv_room hcat) hdg ⟨hR.2.2.1, hR.2.2.2⟩) hS (fun q _ h => hF q h) hF (fun u t H1 locs1 ht hvm hw hB hz1 hk1 hS1 => ?_)
  obtain ⟨hP1, hK1, hD1⟩ := hB
  rw [ht] at hP1
  obtain ⟨hP2, hD2⟩ := zjoin hcut hP hD hk1 hF hP1 hD1
  exact kk H1 locs1 ls hP2 hD2 hS1 hl
theorem zq_callSi (G : zG p s m args c cc nL own D cyI cyZ A) {idx : Nat} {y : MethodName} {b : ByteArray} {k fr lo : Nat} {rt : FieldType} {As : List Value} {W0 W1 ws2 : va_W} {r : Int32} {isC isR perm : List Nat} (hs : zSS own idx y b k (some rt) As.length) (hdg : decode cc pc = .ok (.invokestatic idx, 3)) (hM : ∀ sz : Nat, zMi l y b k rt fr lo D cyI cyZ sz (As) W0 r W1) (hst : st = As.reverse ++ rest) (hcut : zCut ws W0 W1 ws2 isC isR perm) (hC : va_nd isC = true) (hcat : (rest.map fun v => v.category).sum ≤ 8) (hR : zFit R { frames := fr, cells := 0, slots := 0, locals := lo } k cells slots) (hq : pc + 3 = q) (kk : zW p l e R s m args below meth c D A nL cells slots Q q lv (.int r :: rest) ws2) : zW p l e R s m args below meth c D A nL cells slots Q pc lv st ws := by
  subst hq hst
  intro H locs ls hP hD hS hl
  obtain ⟨hF, hpre⟩ := zcutP G hcut hC hP hD hS
  have hB1 : FrameBlind (va_Pc (As) (zPre D cyI cyZ H.size W0)) := zPre_blind
  refine va_calli (va_runS (As := As) (rest := rest) (zfix G) (hM H.size) (zCS G hs hR) ⟨hB1, fun U hU hW => ⟨rfl, hpre U hU hW⟩⟩ rfl rfl hl.1 rfl (lv_room hcat) hdg ⟨hR.2.2.1, hR.2.2.2⟩) hS (fun q _ h => hF q h) hF (fun r2 u t H1 locs1 ht hvm hw hB hz1 hk1 hS1 => ?_)
  obtain ⟨hP1, hK1, hD1⟩ := hB
  rw [ht] at hP1
  subst hw
  obtain ⟨hP2, hD2⟩ := zjoin hcut hP hD hk1 hF hP1 hD1
  exact kk H1 locs1 ls hP2 hD2 hS1 hl
theorem zq_callSl (G : zG p s m args c cc nL own D cyI cyZ A) {idx : Nat} {y : MethodName} {b : ByteArray} {k fr lo : Nat} {rt : FieldType} {As : List Value} {W0 W1 ws2 : va_W} {r : Int64} {isC isR perm : List Nat} (hs : zSS own idx y b k (some rt) As.length) (hdg : decode cc pc = .ok (.invokestatic idx, 3)) (hM : ∀ sz : Nat, zMl l y b k rt fr lo D cyI cyZ sz (As) W0 r W1) (hst : st = As.reverse ++ rest) (hcut : zCut ws W0 W1 ws2 isC isR perm) (hC : va_nd isC = true) (hcat : (rest.map fun v => v.category).sum ≤ 8) (hR : zFit R { frames := fr, cells := 0, slots := 0, locals := lo } k cells slots) (hq : pc + 3 = q) (kk : zW p l e R s m args below meth c D A nL cells slots Q q lv (.long r :: rest) ws2) : zW p l e R s m args below meth c D A nL cells slots Q pc lv st ws := by
  subst hq hst
  intro H locs ls hP hD hS hl
  obtain ⟨hF, hpre⟩ := zcutP G hcut hC hP hD hS
  have hB1 : FrameBlind (va_Pc (As) (zPre D cyI cyZ H.size W0)) := zPre_blind
  refine va_calll (va_runS (As := As) (rest := rest) (zfix G) (hM H.size) (zCS G hs hR) ⟨hB1, fun U hU hW => ⟨rfl, hpre U hU hW⟩⟩ rfl rfl hl.1 rfl (lv_room hcat) hdg ⟨hR.2.2.1, hR.2.2.2⟩) hS (fun q _ h => hF q h) hF (fun r2 u t H1 locs1 ht hvm hw hB hz1 hk1 hS1 => ?_)
  obtain ⟨hP1, hK1, hD1⟩ := hB
  rw [ht] at hP1
  subst hw
  obtain ⟨hP2, hD2⟩ := zjoin hcut hP hD hk1 hF hP1 hD1
  exact kk H1 locs1 ls hP2 hD2 hS1 hl
theorem zq_callSv (G : zG p s m args c cc nL own D cyI cyZ A) {idx : Nat} {y : MethodName} {b : ByteArray} {k fr lo : Nat} {As : List Value} {W0 W1 ws2 : va_W} {isC isR perm : List Nat} (hs : zSS own idx y b k none As.length) (hdg : decode cc pc = .ok (.invokestatic idx, 3)) (hM : ∀ sz : Nat, zMv l y b k fr lo D cyI cyZ sz (As) W0 W1) (hst : st = As.reverse ++ rest) (hcut : zCut ws W0 W1 ws2 isC isR perm) (hC : va_nd isC = true) (hcat : (rest.map fun v => v.category).sum ≤ 8) (hR : zFit R { frames := fr, cells := 0, slots := 0, locals := lo } k cells slots) (hq : pc + 3 = q) (kk : zW p l e R s m args below meth c D A nL cells slots Q q lv (rest) ws2) : zW p l e R s m args below meth c D A nL cells slots Q pc lv st ws := by
  subst hq hst
  intro H locs ls hP hD hS hl
  obtain ⟨hF, hpre⟩ := zcutP G hcut hC hP hD hS
  have hB1 : FrameBlind (va_Pc (As) (zPre D cyI cyZ H.size W0)) := zPre_blind
  refine va_callv (va_runS (As := As) (rest := rest) (zfix G) (hM H.size) (zCS G hs hR) ⟨hB1, fun U hU hW => ⟨rfl, hpre U hU hW⟩⟩ rfl rfl hl.1 rfl (lv_room hcat) hdg ⟨hR.2.2.1, hR.2.2.2⟩) hS (fun q _ h => hF q h) hF (fun u t H1 locs1 ht hvm hw hB hz1 hk1 hS1 => ?_)
  obtain ⟨hP1, hK1, hD1⟩ := hB
  rw [ht] at hP1
  obtain ⟨hP2, hD2⟩ := zjoin hcut hP hD hk1 hF hP1 hD1
  exact kk H1 locs1 ls hP2 hD2 hS1 hl
theorem zq_callNi (G : zG p s m args c cc nL own D cyI cyZ A) {idx : Nat} {y : MethodName} {host : String} {b : ByteArray} {k fr lo : Nat} {rt : FieldType} {As : List Value} {W0 W1 ws2 : va_W} {r : Int32} {isC isR perm : List Nat} (hs : zSN own idx y host b k (some rt) As.length) (hdg : decode cc pc = .ok (.invokestatic idx, 3)) (hM : ∀ sz : Nat, zMi l y b k rt fr lo D cyI cyZ sz (As) W0 r W1) (hst : st = As.reverse ++ rest) (hcut : zCut ws W0 W1 ws2 isC isR perm) (hC : va_nd isC = true) (hcat : (rest.map fun v => v.category).sum ≤ 8) (hR : zFit R { frames := fr, cells := 0, slots := 0, locals := lo } k cells slots) (hq : pc + 3 = q) (kk : zW p l e R s m args below meth c D A nL cells slots Q q lv (.int r :: rest) ws2) : zW p l e R s m args below meth c D A nL cells slots Q pc lv st ws := by
  subst hq hst
  intro H locs ls hP hD hS hl
  obtain ⟨hF, hpre⟩ := zcutP G hcut hC hP hD hS
  have hB1 : FrameBlind (va_Pc (As) (zPre D cyI cyZ H.size W0)) := zPre_blind
  refine va_calli (va_runSN (As := As) (rest := rest) (zfix G) (hM H.size) (zCN G hs hR) ⟨hB1, fun U hU hW => ⟨rfl, hpre U hU hW⟩⟩ rfl rfl hl.1 rfl (lv_room hcat) hdg ⟨hR.2.2.1, hR.2.2.2⟩) hS (fun q _ h => hF q h) hF (fun r2 u t H1 locs1 ht hvm hw hB hz1 hk1 hS1 => ?_)
  obtain ⟨hP1, hK1, hD1⟩ := hB
  rw [ht] at hP1
  subst hw
  obtain ⟨hP2, hD2⟩ := zjoin hcut hP hD hk1 hF hP1 hD1
  exact kk H1 locs1 ls hP2 hD2 hS1 hl
theorem zq_callNl (G : zG p s m args c cc nL own D cyI cyZ A) {idx : Nat} {y : MethodName} {host : String} {b : ByteArray} {k fr lo : Nat} {rt : FieldType} {As : List Value} {W0 W1 ws2 : va_W} {r : Int64} {isC isR perm : List Nat} (hs : zSN own idx y host b k (some rt) As.length) (hdg : decode cc pc = .ok (.invokestatic idx, 3)) (hM : ∀ sz : Nat, zMl l y b k rt fr lo D cyI cyZ sz (As) W0 r W1) (hst : st = As.reverse ++ rest) (hcut : zCut ws W0 W1 ws2 isC isR perm) (hC : va_nd isC = true) (hcat : (rest.map fun v => v.category).sum ≤ 8) (hR : zFit R { frames := fr, cells := 0, slots := 0, locals := lo } k cells slots) (hq : pc + 3 = q) (kk : zW p l e R s m args below meth c D A nL cells slots Q q lv (.long r :: rest) ws2) : zW p l e R s m args below meth c D A nL cells slots Q pc lv st ws := by
  subst hq hst
  intro H locs ls hP hD hS hl
  obtain ⟨hF, hpre⟩ := zcutP G hcut hC hP hD hS
  have hB1 : FrameBlind (va_Pc (As) (zPre D cyI cyZ H.size W0)) := zPre_blind
  refine va_calll (va_runSN (As := As) (rest := rest) (zfix G) (hM H.size) (zCN G hs hR) ⟨hB1, fun U hU hW => ⟨rfl, hpre U hU hW⟩⟩ rfl rfl hl.1 rfl (lv_room hcat) hdg ⟨hR.2.2.1, hR.2.2.2⟩) hS (fun q _ h => hF q h) hF (fun r2 u t H1 locs1 ht hvm hw hB hz1 hk1 hS1 => ?_)
  obtain ⟨hP1, hK1, hD1⟩ := hB
  rw [ht] at hP1
  subst hw
  obtain ⟨hP2, hD2⟩ := zjoin hcut hP hD hk1 hF hP1 hD1
  exact kk H1 locs1 ls hP2 hD2 hS1 hl
theorem zq_callNv (G : zG p s m args c cc nL own D cyI cyZ A) {idx : Nat} {y : MethodName} {host : String} {b : ByteArray} {k fr lo : Nat} {As : List Value} {W0 W1 ws2 : va_W} {isC isR perm : List Nat} (hs : zSN own idx y host b k none As.length) (hdg : decode cc pc = .ok (.invokestatic idx, 3)) (hM : ∀ sz : Nat, zMv l y b k fr lo D cyI cyZ sz (As) W0 W1) (hst : st = As.reverse ++ rest) (hcut : zCut ws W0 W1 ws2 isC isR perm) (hC : va_nd isC = true) (hcat : (rest.map fun v => v.category).sum ≤ 8) (hR : zFit R { frames := fr, cells := 0, slots := 0, locals := lo } k cells slots) (hq : pc + 3 = q) (kk : zW p l e R s m args below meth c D A nL cells slots Q q lv (rest) ws2) : zW p l e R s m args below meth c D A nL cells slots Q pc lv st ws := by
  subst hq hst
  intro H locs ls hP hD hS hl
  obtain ⟨hF, hpre⟩ := zcutP G hcut hC hP hD hS
  have hB1 : FrameBlind (va_Pc (As) (zPre D cyI cyZ H.size W0)) := zPre_blind
  refine va_callv (va_runSN (As := As) (rest := rest) (zfix G) (hM H.size) (zCN G hs hR) ⟨hB1, fun U hU hW => ⟨rfl, hpre U hU hW⟩⟩ rfl rfl hl.1 rfl (lv_room hcat) hdg ⟨hR.2.2.1, hR.2.2.2⟩) hS (fun q _ h => hF q h) hF (fun u t H1 locs1 ht hvm hw hB hz1 hk1 hS1 => ?_)
  obtain ⟨hP1, hK1, hD1⟩ := hB
  rw [ht] at hP1
  obtain ⟨hP2, hD2⟩ := zjoin hcut hP hD hk1 hF hP1 hD1
  exact kk H1 locs1 ls hP2 hD2 hS1 hl
theorem zq_outVi {α : Type} {sz : Nat} {V0 : va_W} {z : Sum String α} {Qc : Array Value → State → Outcome → State → Prop} (G : zG p s m args c cc nL own D cyI cyZ (va_A V0 sz)) (hlocks : meth.locks = false) (htab : ∀ x ∈ c.exceptionTable.toList, False) {idx : Nat} {y : MethodName} {b : ByteArray} {k fr lo : Nat} {rt : FieldType} {a : Nat} {As : List Value} {W0 W1 ws2 wsF : va_W} {E0 : String} {isC isR perm : List Nat} (hs : zSV own idx y b k (some rt) As.length) (hdg : decode cc pc = .ok (.invokevirtual idx, 3)) (hM : ∀ sz : Nat, zXi l y b k rt fr lo D cyI cyZ sz (.ref a :: As) W0 (.inl E0) W1) {ci : Nat} {fs : List Value} {cT : u_T} {cN : Nat} (q0 : Nat) (he : ws[q0]? = some (a, .inr (ci, fs))) (hc : vwCl[ci]? = some (y.cls, cT, cN)) (hst : st = As.reverse ++ .ref a :: rest) (hcut : zCut ws W0 W1 ws2 isC isR perm) (hC : va_nd isC = true) (hcat : (rest.map fun v => v.category).sum ≤ 8) (hR : fr + 1 ≤ R.frames ∧ 8 + (k + 11) + lo ≤ R.locals) (hRc : R.cells = zmc z) (hRs : R.slots = zms z) (e9 : z = .inl E0) (e8 : ws2 = wsF) : zW p l e R s m args below meth c D (va_A V0 sz) nL 0 0 (vx_MQ below Qc (zXC D cyI cyZ sz V0 z wsF) args s (zmc z) (zms z) (va_A V0 sz)) pc lv st ws := by
  subst hst e9 e8
  have hR : zFit R { frames := fr, cells := 1, slots := 6, locals := lo } k 0 0 := ⟨hR.1, hR.2, by rw [hRc]; exact Nat.le_refl 1, by rw [hRs]; exact Nat.le_refl 6⟩
  intro H locs ls hP hD hS hl
  obtain ⟨hF, hpre⟩ := zcutP G hcut hC hP hD hS
  have hB1 : FrameBlind (va_Pc (.ref a :: As) (zPre D cyI cyZ H.size W0)) := zPre_blind
  refine vx_calli (vx_runV (As := As) (rest := rest) (zfix G) (hM H.size) (zCW (rm := { frames := fr, cells := 1, slots := 6, locals := lo }) G hs hR) ⟨hB1, va_recv G.2.2.2.2.2.1 hP hc he, fun U hU hW => ⟨rfl, hpre U hU hW⟩⟩ rfl rfl hl.1 rfl (lv_room hcat) hdg ⟨hR.2.2.1, hR.2.2.2⟩) hS (fun q _ h => hF q h) hF (fun q _ h => hF q h) (fun E ce q9 u t H1 locs1 ht hvm hp hB hz1 hk1 hS1 hce hcv hcl => ?_) (fun r2 u t H1 locs1 ht hvm hw => nomatch hw)
  obtain ⟨hE, hP1, hK1, hD1⟩ := hB
  rw [ht] at hP1
  cases hE
  obtain ⟨hP2, hD2⟩ := zjoin hcut hP hD hk1 hF hP1 hD1
  exact vx_out (fun x hx => (htab x hx).elim) hlocks hce hcv hcl (fun t2 ht2 hvm2 => ⟨(), trivial, ⟨rfl, by rw [ht2]; exact hP2, va_K.moved hvm2 G.2.2.2.2.2.1, hD2⟩, hS1.F ht2⟩) hS1.2.2 (Nat.le_refl _) (Nat.le_refl _)
theorem zq_outVv {α : Type} {sz : Nat} {V0 : va_W} {z : Sum String α} {Qc : Array Value → State → Outcome → State → Prop} (G : zG p s m args c cc nL own D cyI cyZ (va_A V0 sz)) (hlocks : meth.locks = false) (htab : ∀ x ∈ c.exceptionTable.toList, False) {idx : Nat} {y : MethodName} {b : ByteArray} {k fr lo : Nat} {a : Nat} {As : List Value} {W0 W1 ws2 wsF : va_W} {E0 : String} {isC isR perm : List Nat} (hs : zSV own idx y b k none As.length) (hdg : decode cc pc = .ok (.invokevirtual idx, 3)) (hM : ∀ sz : Nat, zXv l y b k fr lo D cyI cyZ sz (.ref a :: As) W0 (.inl E0) W1) {ci : Nat} {fs : List Value} {cT : u_T} {cN : Nat} (q0 : Nat) (he : ws[q0]? = some (a, .inr (ci, fs))) (hc : vwCl[ci]? = some (y.cls, cT, cN)) (hst : st = As.reverse ++ .ref a :: rest) (hcut : zCut ws W0 W1 ws2 isC isR perm) (hC : va_nd isC = true) (hcat : (rest.map fun v => v.category).sum ≤ 8) (hR : fr + 1 ≤ R.frames ∧ 8 + (k + 11) + lo ≤ R.locals) (hRc : R.cells = zmc z) (hRs : R.slots = zms z) (e9 : z = .inl E0) (e8 : ws2 = wsF) : zW p l e R s m args below meth c D (va_A V0 sz) nL 0 0 (vx_MQ below Qc (zXC D cyI cyZ sz V0 z wsF) args s (zmc z) (zms z) (va_A V0 sz)) pc lv st ws := by
  subst hst e9 e8
  have hR : zFit R { frames := fr, cells := 1, slots := 6, locals := lo } k 0 0 := ⟨hR.1, hR.2, by rw [hRc]; exact Nat.le_refl 1, by rw [hRs]; exact Nat.le_refl 6⟩
  intro H locs ls hP hD hS hl
  obtain ⟨hF, hpre⟩ := zcutP G hcut hC hP hD hS
  have hB1 : FrameBlind (va_Pc (.ref a :: As) (zPre D cyI cyZ H.size W0)) := zPre_blind
  refine vx_callv (vx_runV (As := As) (rest := rest) (zfix G) (hM H.size) (zCW (rm := { frames := fr, cells := 1, slots := 6, locals := lo }) G hs hR) ⟨hB1, va_recv G.2.2.2.2.2.1 hP hc he, fun U hU hW => ⟨rfl, hpre U hU hW⟩⟩ rfl rfl hl.1 rfl (lv_room hcat) hdg ⟨hR.2.2.1, hR.2.2.2⟩) hS (fun q _ h => hF q h) hF (fun q _ h => hF q h) (fun E ce q9 u t H1 locs1 ht hvm hp hB hz1 hk1 hS1 hce hcv hcl => ?_) (fun u t H1 locs1 ht hvm hw => nomatch hw)
  obtain ⟨hE, hP1, hK1, hD1⟩ := hB
  rw [ht] at hP1
  cases hE
  obtain ⟨hP2, hD2⟩ := zjoin hcut hP hD hk1 hF hP1 hD1
  exact vx_out (fun x hx => (htab x hx).elim) hlocks hce hcv hcl (fun t2 ht2 hvm2 => ⟨(), trivial, ⟨rfl, by rw [ht2]; exact hP2, va_K.moved hvm2 G.2.2.2.2.2.1, hD2⟩, hS1.F ht2⟩) hS1.2.2 (Nat.le_refl _) (Nat.le_refl _)
end ZC
/-! ===== reading the pure side ===== -/
theorem zif {α : Type} {c : Prop} [Decidable c] {x : Option α} {r : α} (h : (if c then x else none) = some r) : c ∧ x = some r := by
  by_cases hc : c
  · rw [if_pos hc] at h; exact ⟨hc, h⟩
  · rw [if_neg hc] at h; exact nomatch h
theorem zit {α : Type} {c : Prop} [Decidable c] {x y : Option α} {r : α} (h : (if c then x else y) = some r) (hc : c) : x = some r := by rwa [if_pos hc] at h
theorem zie {α : Type} {c : Prop} [Decidable c] {x y : Option α} {r : α} (h : (if c then x else y) = some r) (hc : ¬ c) : y = some r := by rwa [if_neg hc] at h
theorem zbd {α β : Type} {o : Option α} {f : α → Option β} {r : β} (h : o.bind f = some r) : ∃ z, o = some z ∧ f z = some r := Option.bind_eq_some_iff.mp h
theorem zsome {α : Type} {a b : α} (h : some a = some b) : a = b := Option.some.inj h
def zsel {α β : Type} (z : Sum String α) (f : String → β) (g : α → β) : β := match z with
  | .inl E => f E
  | .inr r => g r
theorem zselL2 {α β : Type} {z : Sum String α} {E : String} {f : String → Option β} {g : α → Option β} {r : β} (h : zsel z f g = some r) (e : z = .inl E) : f E = some r := by subst e; exact h
theorem zselR2 {α β : Type} {z : Sum String α} {v : α} {f : String → Option β} {g : α → Option β} {r : β} (h : zsel z f g = some r) (e : z = .inr v) : g v = some r := by subst e; exact h
theorem zsum {α : Type} (z : Sum String α) : (∃ E, z = .inl E) ∨ (∃ r, z = .inr r) := by
  rcases z with E | r
  · exact Or.inl ⟨E, rfl⟩
  · exact Or.inr ⟨r, rfl⟩
theorem zpair {α β : Type} {o : Option (α × β)} {z : α × β} {a : α} (h : o = some z) (e : z.1 = a) : o = some (a, z.2) := by rw [h, ← e]
theorem zselL {α β : Type} {E : String} {f : String → Option β} {g : α → Option β} {r : β} (h : zsel (.inl E) f g = some r) : f E = some r := h
theorem zselR {α β : Type} {v : α} {f : String → Option β} {g : α → Option β} {r : β} (h : zsel (.inr v) f g = some r) : g v = some r := h
theorem znar {v : Int32} (h : v &&& 1 = v) : narrow .boolean (.int v) = .int v := by
  show Value.int (v &&& 1) = .int v
  rw [h]
theorem zuws {C : String} {T : u_T} {N : Nat} (f : ∀ k, k < N → u_lay C T k ∈ zB) : ∀ w ∈ u_ws C T N, w ∈ zB := fun w h => by
  obtain ⟨k, hk, rfl⟩ := List.mem_map.mp h
  exact f k (List.mem_range.mp hk)
theorem zq_ws {p : Program} {l : Launch} {e : Env} {R : Room} {s : State} {m : MethodId} {args : Array Value} {below : List Frame} {meth : Method} {c : Code} {cells slots : Nat} {Q : State → Prop} {nL : Nat} {D : va_G} {A : Nat → Prop} {pc : Nat} {lv : List (Nat × Value)} {st : List Value} {ws ws2 : va_W} (h : ws = ws2) (k : zW p l e R s m args below meth c D A nL cells slots Q pc lv st ws2) : zW p l e R s m args below meth c D A nL cells slots Q pc lv st ws := by subst h; exact k
/-- fuel of the pure loops -/
def FU : Nat := 100000
/-! ===== the pictures of the objects ===== -/
abbrev zF : Type := Nat → Int32
abbrev zT : Type := Int32 × Int32 × zF × zF
abbrev zS : Type := Int32 × zF × zF × zF × zF
abbrev zK : Type := Int32 × Int32 × Int32 × Int32 × zF
abbrev zC : Type := zT × zT × zS × zF × zF × zF × zK
abbrev zM : Type := Int32 × Int32 × Int32 × Int32 × Int32 × zF × zF × zF × zF × zF × zF × zF × zF × Int32 × Int32 × Int32 × Int32 × Int32 × Int32 × Int32 × Int32 × zF × zF × zF
abbrev w_F (cyI : ClassId) (n h0 : Nat) (f : zF) : va_W := [(h0, .inl (cyI, n, .inl f))]
abbrev w_T (cyI cyZ : ClassId) (h0 h1 h2 : Nat) (t : zT) : va_W := [(h0, .inr (1, [.int t.1, .int t.2.1, .ref h1, .ref h2])), (h1, .inl (cyI, 49, .inl t.2.2.1)), (h2, .inl (cyZ, 49, .inl t.2.2.2))]
abbrev w_S (cyI : ClassId) (h0 h1 h2 h3 h4 : Nat) (t : zS) : va_W := [(h0, .inr (0, [.int t.1, .ref h1, .ref h2, .ref h3, .ref h4])), (h1, .inl (cyI, 49, .inl t.2.1)), (h2, .inl (cyI, 128, .inl t.2.2.1)), (h3, .inl (cyI, 128, .inl t.2.2.2.1)), (h4, .inl (cyI, 128, .inl t.2.2.2.2))]
abbrev w_K (cyI : ClassId) (h0 h1 : Nat) (t : zK) : va_W := [(h0, .inr (2, [.int t.1, .int t.2.1, .int t.2.2.1, .int t.2.2.2.1, .ref h1])), (h1, .inl (cyI, 720, .inl t.2.2.2.2))]
abbrev w_C (cyI cyZ : ClassId) (x0 t0 t1 t2 v0 v1 v2 s0 s1 s2 s3 s4 rp cp fo k0 k1 : Nat) (t : zC) : va_W := [(x0, .inr (3, [.ref t0, .ref v0, .ref s0, .ref rp, .ref cp, .ref fo, .ref k0])),
  (t0, .inr (1, [.int t.1.1, .int t.1.2.1, .ref t1, .ref t2])), (t1, .inl (cyI, 49, .inl t.1.2.2.1)), (t2, .inl (cyZ, 49, .inl t.1.2.2.2)),
  (v0, .inr (1, [.int t.2.1.1, .int t.2.1.2.1, .ref v1, .ref v2])), (v1, .inl (cyI, 49, .inl t.2.1.2.2.1)), (v2, .inl (cyZ, 49, .inl t.2.1.2.2.2)),
  (s0, .inr (0, [.int t.2.2.1.1, .ref s1, .ref s2, .ref s3, .ref s4])), (s1, .inl (cyI, 49, .inl t.2.2.1.2.1)), (s2, .inl (cyI, 128, .inl t.2.2.1.2.2.1)), (s3, .inl (cyI, 128, .inl t.2.2.1.2.2.2.1)), (s4, .inl (cyI, 128, .inl t.2.2.1.2.2.2.2)),
  (rp, .inl (cyI, 7, .inl t.2.2.2.1)), (cp, .inl (cyI, 7, .inl t.2.2.2.2.1)), (fo, .inl (cyI, 7, .inl t.2.2.2.2.2.1)),
  (k0, .inr (2, [.int t.2.2.2.2.2.2.1, .int t.2.2.2.2.2.2.2.1, .int t.2.2.2.2.2.2.2.2.1, .int t.2.2.2.2.2.2.2.2.2.1, .ref k1])), (k1, .inl (cyI, 720, .inl t.2.2.2.2.2.2.2.2.2.2))]
abbrev w_M (cyI cyZ : ClassId) (m0 m1 m2 m3 m4 m5 m6 m7 m8 m9 m10 m11 : Nat) (t : zM) : va_W := [(m0, .inr (4, [.int t.1, .int t.2.1, .int t.2.2.1, .int t.2.2.2.1, .int t.2.2.2.2.1, .ref m1, .ref m2, .ref m3, .ref m4, .ref m5, .ref m6, .ref m7, .ref m8, .int t.2.2.2.2.2.2.2.2.2.2.2.2.2.1, .int t.2.2.2.2.2.2.2.2.2.2.2.2.2.2.1, .int t.2.2.2.2.2.2.2.2.2.2.2.2.2.2.2.1, .int t.2.2.2.2.2.2.2.2.2.2.2.2.2.2.2.2.1, .int t.2.2.2.2.2.2.2.2.2.2.2.2.2.2.2.2.2.1, .int t.2.2.2.2.2.2.2.2.2.2.2.2.2.2.2.2.2.2.1, .int t.2.2.2.2.2.2.2.2.2.2.2.2.2.2.2.2.2.2.2.1, .int t.2.2.2.2.2.2.2.2.2.2.2.2.2.2.2.2.2.2.2.2.1, .ref m9, .ref m10, .ref m11])),
  (m1, .inl (cyI, 49, .inl t.2.2.2.2.2.1)), (m2, .inl (cyI, 49, .inl t.2.2.2.2.2.2.1)), (m3, .inl (cyZ, 49, .inl t.2.2.2.2.2.2.2.1)), (m4, .inl (cyZ, 49, .inl t.2.2.2.2.2.2.2.2.1)), (m5, .inl (cyI, 49, .inl t.2.2.2.2.2.2.2.2.2.1)), (m6, .inl (cyI, 49, .inl t.2.2.2.2.2.2.2.2.2.2.1)), (m7, .inl (cyI, 7, .inl t.2.2.2.2.2.2.2.2.2.2.2.1)), (m8, .inl (cyI, 7, .inl t.2.2.2.2.2.2.2.2.2.2.2.2.1)), (m9, .inl (cyI, 7, .inl t.2.2.2.2.2.2.2.2.2.2.2.2.2.2.2.2.2.2.2.2.2.1)), (m10, .inl (cyI, 7, .inl t.2.2.2.2.2.2.2.2.2.2.2.2.2.2.2.2.2.2.2.2.2.2.1)), (m11, .inl (cyI, 7, .inl t.2.2.2.2.2.2.2.2.2.2.2.2.2.2.2.2.2.2.2.2.2.2.2))]
end
section
theorem zw_L_k8 : Cond.classLink RL 8 "ChoreAssignment" ∈ zB := zin1 15 rfl rfl
theorem zw_X3_new : Cond.instantiable RX3 7 ∈ zB := zin1 16 rfl rfl
theorem zw_X3_k9 : Cond.classLink RX3 9 "ChoreAssignment$Table" ∈ zB := zin1 23 rfl rfl
theorem zw_X1_new : Cond.instantiable RX1 4 ∈ zB := zin1 24 rfl rfl
theorem zw_X1_f9 : Cond.fieldLink RX1 9 "ChoreAssignment$Table" "rowCount" "I" ∈ zB := zin1 29 rfl rfl
theorem zw_X0_f28 : Cond.fieldLinkNest RX0 28 "ChoreAssignment$Table" "rowCount" "I" "ChoreAssignment" ∈ zB := zin1 30 rfl rfl
theorem zw_X2_f31 : Cond.fieldLinkNest RX2 31 "ChoreAssignment$Table" "rowCount" "I" "ChoreAssignment" ∈ zB := zin1 31 rfl rfl
theorem zw_X3_f83 : Cond.fieldLinkNest RX3 83 "ChoreAssignment$Table" "rowCount" "I" "ChoreAssignment" ∈ zB := zin1 32 rfl rfl
theorem zw_X1_f15 : Cond.fieldLink RX1 15 "ChoreAssignment$Table" "columnCount" "I" ∈ zB := zin1 33 rfl rfl
theorem zw_X3_f72 : Cond.fieldLinkNest RX3 72 "ChoreAssignment$Table" "columnCount" "I" "ChoreAssignment" ∈ zB := zin1 34 rfl rfl
theorem zw_X1_f18 : Cond.fieldLink RX1 18 "ChoreAssignment$Table" "numbers" "[I" ∈ zB := zin1 35 rfl rfl
theorem zw_X1_f22 : Cond.fieldLink RX1 22 "ChoreAssignment$Table" "forbidden" "[Z" ∈ zB := zin1 36 rfl rfl
theorem zw_arr_int : Cond.arrayClass .int ∈ zB := zin1 46 rfl rfl
theorem zw_arr_boolean : Cond.arrayClass .boolean ∈ zB := zin1 47 rfl rfl
theorem zw_X3_k19 : Cond.classLink RX3 19 "ChoreAssignment$Solver" ∈ zB := zin1 48 rfl rfl
theorem zw_X0_new : Cond.instantiable RX0 5 ∈ zB := zin1 49 rfl rfl
theorem zw_X0_f9 : Cond.fieldLink RX0 9 "ChoreAssignment$Solver" "size" "I" ∈ zB := zin1 54 rfl rfl
theorem zw_X0_f15 : Cond.fieldLink RX0 15 "ChoreAssignment$Solver" "costs" "[I" ∈ zB := zin1 55 rfl rfl
theorem zw_X0_f19 : Cond.fieldLink RX0 19 "ChoreAssignment$Solver" "least" "[I" ∈ zB := zin1 56 rfl rfl
theorem zw_X0_f22 : Cond.fieldLink RX0 22 "ChoreAssignment$Solver" "ways" "[I" ∈ zB := zin1 57 rfl rfl
theorem zw_X0_f25 : Cond.fieldLink RX0 25 "ChoreAssignment$Solver" "greatest" "[I" ∈ zB := zin1 58 rfl rfl
theorem zw_X3_k36 : Cond.classLink RX3 36 "ChoreAssignment$Walk" ∈ zB := zin1 70 rfl rfl
theorem zw_X2_new : Cond.instantiable RX2 5 ∈ zB := zin1 71 rfl rfl
theorem zw_X2_f9 : Cond.fieldLink RX2 9 "ChoreAssignment$Walk" "active" "Z" ∈ zB := zin1 76 rfl rfl
theorem zw_X3_f190 : Cond.fieldLinkNest RX3 190 "ChoreAssignment$Walk" "active" "Z" "ChoreAssignment" ∈ zB := zin1 77 rfl rfl
theorem zw_X2_f13 : Cond.fieldLink RX2 13 "ChoreAssignment$Walk" "steps" "I" ∈ zB := zin1 78 rfl rfl
theorem zw_X3_f194 : Cond.fieldLinkNest RX3 194 "ChoreAssignment$Walk" "steps" "I" "ChoreAssignment" ∈ zB := zin1 79 rfl rfl
theorem zw_X2_f17 : Cond.fieldLink RX2 17 "ChoreAssignment$Walk" "visitedKey" "I" ∈ zB := zin1 80 rfl rfl
theorem zw_X2_f20 : Cond.fieldLink RX2 20 "ChoreAssignment$Walk" "keyCount" "I" ∈ zB := zin1 81 rfl rfl
theorem zw_X3_f187 : Cond.fieldLinkNest RX3 187 "ChoreAssignment$Walk" "keyCount" "I" "ChoreAssignment" ∈ zB := zin1 82 rfl rfl
theorem zw_X2_f23 : Cond.fieldLink RX2 23 "ChoreAssignment$Walk" "keys" "[I" ∈ zB := zin1 83 rfl rfl
theorem zw_X3_f12 : Cond.fieldLink RX3 12 "ChoreAssignment" "table" "LChoreAssignment$Table;" ∈ zB := zin1 95 rfl rfl
theorem zw_X3_f16 : Cond.fieldLink RX3 16 "ChoreAssignment" "saved" "LChoreAssignment$Table;" ∈ zB := zin1 96 rfl rfl
theorem zw_X3_f22 : Cond.fieldLink RX3 22 "ChoreAssignment" "solver" "LChoreAssignment$Solver;" ∈ zB := zin1 97 rfl rfl
theorem zw_X3_f26 : Cond.fieldLink RX3 26 "ChoreAssignment" "rowPotentials" "[I" ∈ zB := zin1 98 rfl rfl
theorem zw_X3_f30 : Cond.fieldLink RX3 30 "ChoreAssignment" "columnPotentials" "[I" ∈ zB := zin1 99 rfl rfl
theorem zw_X3_f33 : Cond.fieldLink RX3 33 "ChoreAssignment" "firstOptimal" "[I" ∈ zB := zin1 100 rfl rfl
theorem zw_X3_f39 : Cond.fieldLink RX3 39 "ChoreAssignment" "walk" "LChoreAssignment$Walk;" ∈ zB := zin1 101 rfl rfl
theorem zw_J6_c265 : Cond.constant RJ6 265 1431655765 ∈ zB := zin1 207 rfl rfl
theorem zw_J6_c266 : Cond.constant RJ6 266 858993459 ∈ zB := zin1 208 rfl rfl
theorem zw_J6_c267 : Cond.constant RJ6 267 252645135 ∈ zB := zin1 209 rfl rfl
theorem zw_X0_c58 : Cond.constant RX0 58 2147483647 ∈ zB := zin1 210 rfl rfl
theorem zw_X3_c158 : Cond.constant RX3 158 100000 ∈ zB := zin2 2 rfl rfl
theorem zw_X3_c166 : Cond.constant RX3 166 (-100000) ∈ zB := zin2 15 rfl rfl
theorem zw_X0_c67 : Cond.constant RX0 67 (-2147483648) ∈ zB := zin2 20 rfl rfl
theorem zw_X3_c215 : Cond.constantLong RX3 215 17 ∈ zB := zin2 45 rfl rfl
theorem zw_X3_c269 : Cond.constantLong RX3 269 31 ∈ zB := zin2 50 rfl rfl
theorem zw_X3_k247 : Cond.classLink RX3 247 "java/lang/IndexOutOfBoundsException" ∈ zB := zin2 78 rfl rfl
theorem zw_X3_k43 : Cond.classLink RX3 43 "java/lang/IllegalArgumentException" ∈ zB := zin2 183 rfl rfl
theorem zw_L_k13 : Cond.classLink RL 13 "java/lang/IllegalArgumentException" ∈ zB := zin2 201 rfl rfl
theorem zw_L_k19 : Cond.classLink RL 19 "java/lang/IndexOutOfBoundsException" ∈ zB := zin2 213 rfl rfl
theorem zw_X3_c76 : Cond.constantLong RX3 76 100 ∈ zB := zin3 2 rfl rfl
theorem zw_L_k38 : Cond.classLink RL 38 "java/lang/IllegalStateException" ∈ zB := zin3 31 rfl rfl
theorem zw_X3_k181 : Cond.classLink RX3 181 "java/lang/IllegalStateException" ∈ zB := zin3 44 rfl rfl
theorem zw_L_k91 : Cond.classLink RL 91 "java/util/NoSuchElementException" ∈ zB := zin3 190 rfl rfl
theorem zw_X3_k197 : Cond.classLink RX3 197 "java/util/NoSuchElementException" ∈ zB := zin3 195 rfl rfl
theorem zw_X2_c46 : Cond.constant RX2 46 2147483647 ∈ zB := zin3 214 rfl rfl
theorem zw_L_k101 : Cond.classLink RL 101 "ChoreAssignmentModel" ∈ zB := zin3 238 rfl rfl
theorem zw_X4_new : Cond.instantiable RX4 24 ∈ zB := zin3 239 rfl rfl
theorem zw_X4_f7 : Cond.fieldLink RX4 7 "ChoreAssignmentModel" "n" "I" ∈ zB := zin4 4 rfl rfl
theorem zw_X4_f13 : Cond.fieldLink RX4 13 "ChoreAssignmentModel" "m" "I" ∈ zB := zin4 5 rfl rfl
theorem zw_X4_f16 : Cond.fieldLink RX4 16 "ChoreAssignmentModel" "savedN" "I" ∈ zB := zin4 6 rfl rfl
theorem zw_X4_f19 : Cond.fieldLink RX4 19 "ChoreAssignmentModel" "savedM" "I" ∈ zB := zin4 7 rfl rfl
theorem zw_X4_f60 : Cond.fieldLink RX4 60 "ChoreAssignmentModel" "thrown" "I" ∈ zB := zin4 8 rfl rfl
theorem zw_X4_f22 : Cond.fieldLink RX4 22 "ChoreAssignmentModel" "number" "[I" ∈ zB := zin4 9 rfl rfl
theorem zw_X4_f26 : Cond.fieldLink RX4 26 "ChoreAssignmentModel" "savedNumber" "[I" ∈ zB := zin4 10 rfl rfl
theorem zw_X4_f29 : Cond.fieldLink RX4 29 "ChoreAssignmentModel" "isForbidden" "[Z" ∈ zB := zin4 11 rfl rfl
theorem zw_X4_f33 : Cond.fieldLink RX4 33 "ChoreAssignmentModel" "savedForbidden" "[Z" ∈ zB := zin4 12 rfl rfl
theorem zw_X4_f36 : Cond.fieldLink RX4 36 "ChoreAssignmentModel" "costs" "[I" ∈ zB := zin4 13 rfl rfl
theorem zw_X4_f39 : Cond.fieldLink RX4 39 "ChoreAssignmentModel" "with" "[I" ∈ zB := zin4 14 rfl rfl
theorem zw_X4_f42 : Cond.fieldLink RX4 42 "ChoreAssignmentModel" "p" "[I" ∈ zB := zin4 15 rfl rfl
theorem zw_X4_f45 : Cond.fieldLink RX4 45 "ChoreAssignmentModel" "first" "[I" ∈ zB := zin4 16 rfl rfl
theorem zw_X4_f80 : Cond.fieldLink RX4 80 "ChoreAssignmentModel" "least" "I" ∈ zB := zin4 17 rfl rfl
theorem zw_X4_f83 : Cond.fieldLink RX4 83 "ChoreAssignmentModel" "leastMany" "I" ∈ zB := zin4 18 rfl rfl
theorem zw_X4_f86 : Cond.fieldLink RX4 86 "ChoreAssignmentModel" "second" "I" ∈ zB := zin4 19 rfl rfl
theorem zw_X4_f89 : Cond.fieldLink RX4 89 "ChoreAssignmentModel" "greatest" "I" ∈ zB := zin4 20 rfl rfl
theorem zw_X4_f92 : Cond.fieldLink RX4 92 "ChoreAssignmentModel" "narrowest" "I" ∈ zB := zin4 21 rfl rfl
theorem zw_X4_f48 : Cond.fieldLink RX4 48 "ChoreAssignmentModel" "steps" "I" ∈ zB := zin4 22 rfl rfl
theorem zw_X4_f172 : Cond.fieldLink RX4 172 "ChoreAssignmentModel" "lastSum" "I" ∈ zB := zin4 23 rfl rfl
theorem zw_X4_f175 : Cond.fieldLink RX4 175 "ChoreAssignmentModel" "lastPlace" "I" ∈ zB := zin4 24 rfl rfl
theorem zw_X4_f51 : Cond.fieldLink RX4 51 "ChoreAssignmentModel" "current" "[I" ∈ zB := zin4 25 rfl rfl
theorem zw_X4_f54 : Cond.fieldLink RX4 54 "ChoreAssignmentModel" "rowPotentials" "[I" ∈ zB := zin4 26 rfl rfl
theorem zw_X4_f57 : Cond.fieldLink RX4 57 "ChoreAssignmentModel" "columnPotentials" "[I" ∈ zB := zin4 27 rfl rfl
theorem zw_X4_c116 : Cond.constantLong RX4 116 7 ∈ zB := zin4 85 rfl rfl
theorem zw_X4_c128 : Cond.constantLong RX4 128 99 ∈ zB := zin4 105 rfl rfl
theorem zw_X4_c130 : Cond.constantLong RX4 130 100 ∈ zB := zin4 110 rfl rfl
theorem zw_X4_c132 : Cond.constantLong RX4 132 9999 ∈ zB := zin4 115 rfl rfl
theorem zw_X4_c138 : Cond.constantLong RX4 138 (-99) ∈ zB := zin4 136 rfl rfl
theorem zw_X4_c79 : Cond.constant RX4 79 1000000 ∈ zB := zin4 221 rfl rfl
theorem zw_X4_c168 : Cond.constantLong RX4 168 1000 ∈ zB := zin5 69 rfl rfl
theorem zw_X4_c170 : Cond.constantLong RX4 170 7000 ∈ zB := zin5 74 rfl rfl
theorem zw_X4_c178 : Cond.constantLong RX4 178 527 ∈ zB := zin5 107 rfl rfl
theorem zw_X4_c180 : Cond.constantLong RX4 180 31 ∈ zB := zin5 108 rfl rfl
theorem zw_L_c117 : Cond.constantLong RL 117 4294967295 ∈ zB := zin5 114 rfl rfl
theorem zw_arr_long : Cond.arrayClass .long ∈ zB := zin5 115 rfl rfl
theorem zw_arr_double : Cond.arrayClass .double ∈ zB := zin5 116 rfl rfl
theorem zini_L : Cond.initialized RL ∈ zB := zin1 0 rfl rfl
theorem zini_X3 : Cond.initialized RX3 ∈ zB := zin1 1 rfl rfl
theorem zini_X1 : Cond.initialized RX1 ∈ zB := zin1 2 rfl rfl
theorem zini_X0 : Cond.initialized RX0 ∈ zB := zin1 3 rfl rfl
theorem zini_X2 : Cond.initialized RX2 ∈ zB := zin1 4 rfl rfl
theorem zini_X4 : Cond.initialized RX4 ∈ zB := zin1 5 rfl rfl
theorem zini_J9 : Cond.initialized RJ9 ∈ zB := zin1 11 rfl rfl
theorem zini_J6 : Cond.initialized RJ6 ∈ zB := zin1 13 rfl rfl
theorem zu_X0 : ∀ w ∈ u_ws RX0 TX0 5, w ∈ zB := zuws (fun k h => match k, h with
  | 0, _ => zin1 59 rfl rfl
  | 1, _ => zin1 61 rfl rfl
  | 2, _ => zin1 63 rfl rfl
  | 3, _ => zin1 65 rfl rfl
  | 4, _ => zin1 67 rfl rfl
  | k + 5, h => absurd h (by omega))
theorem zu_X1 : ∀ w ∈ u_ws RX1 TX1 4, w ∈ zB := zuws (fun k h => match k, h with
  | 0, _ => zin1 37 rfl rfl
  | 1, _ => zin1 39 rfl rfl
  | 2, _ => zin1 41 rfl rfl
  | 3, _ => zin1 43 rfl rfl
  | k + 4, h => absurd h (by omega))
theorem zu_X2 : ∀ w ∈ u_ws RX2 TX2 5, w ∈ zB := zuws (fun k h => match k, h with
  | 0, _ => zin1 84 rfl rfl
  | 1, _ => zin1 86 rfl rfl
  | 2, _ => zin1 88 rfl rfl
  | 3, _ => zin1 90 rfl rfl
  | 4, _ => zin1 92 rfl rfl
  | k + 5, h => absurd h (by omega))
theorem zu_X3 : ∀ w ∈ u_ws RX3 TX3 7, w ∈ zB := zuws (fun k h => match k, h with
  | 0, _ => zin1 102 rfl rfl
  | 1, _ => zin1 104 rfl rfl
  | 2, _ => zin1 106 rfl rfl
  | 3, _ => zin1 108 rfl rfl
  | 4, _ => zin1 110 rfl rfl
  | 5, _ => zin1 112 rfl rfl
  | 6, _ => zin1 114 rfl rfl
  | k + 7, h => absurd h (by omega))
theorem zu_X4 : ∀ w ∈ u_ws RX4 TX4 24, w ∈ zB := zuws (fun k h => match k, h with
  | 0, _ => zin4 28 rfl rfl
  | 1, _ => zin4 30 rfl rfl
  | 2, _ => zin4 32 rfl rfl
  | 3, _ => zin4 34 rfl rfl
  | 4, _ => zin4 36 rfl rfl
  | 5, _ => zin4 38 rfl rfl
  | 6, _ => zin4 40 rfl rfl
  | 7, _ => zin4 42 rfl rfl
  | 8, _ => zin4 44 rfl rfl
  | 9, _ => zin4 46 rfl rfl
  | 10, _ => zin4 48 rfl rfl
  | 11, _ => zin4 50 rfl rfl
  | 12, _ => zin4 52 rfl rfl
  | 13, _ => zin4 54 rfl rfl
  | 14, _ => zin4 56 rfl rfl
  | 15, _ => zin4 58 rfl rfl
  | 16, _ => zin4 60 rfl rfl
  | 17, _ => zin4 62 rfl rfl
  | 18, _ => zin4 64 rfl rfl
  | 19, _ => zin4 66 rfl rfl
  | 20, _ => zin4 68 rfl rfl
  | 21, _ => zin4 70 rfl rfl
  | 22, _ => zin4 72 rfl rfl
  | 23, _ => zin4 74 rfl rfl
  | k + 24, h => absurd h (by omega))
theorem zcode_X0_init : Cond.code yX0_init cX0_init 1 none ∈ zB := zin1 52 rfl rfl
theorem zhnd_X0_init : zHnd yX0_init 0 := by unfold zHnd; decide +kernel
theorem zinst_X0_init : Cond.instanceMethod yX0_init ∈ zB := zin1 51 rfl rfl
theorem zcode_X0_load : Cond.code yX0_load cX0_load 4 none ∈ zB := zin1 185 rfl rfl
theorem zhnd_X0_load : zHnd yX0_load 1 := by unfold zHnd; decide +kernel
theorem zinst_X0_load : Cond.instanceMethod yX0_load ∈ zB := zin1 183 rfl rfl
theorem zsel_X0_load : Cond.selects yX0_load.cls yX0_load yX0_load ∈ zB := zin1 184 rfl rfl
theorem zcode_X0_putCost : Cond.code yX0_putCost cX0_putCost 4 none ∈ zB := zin1 190 rfl rfl
theorem zhnd_X0_putCost : zHnd yX0_putCost 3 := by unfold zHnd; decide +kernel
theorem zinst_X0_putCost : Cond.instanceMethod yX0_putCost ∈ zB := zin1 188 rfl rfl
theorem zsel_X0_putCost : Cond.selects yX0_putCost.cls yX0_putCost yX0_putCost ∈ zB := zin1 189 rfl rfl
theorem zcode_X0_allColumns : Cond.code yX0_allColumns cX0_allColumns 1 (some .int) ∈ zB := zin1 199 rfl rfl
theorem zhnd_X0_allColumns : zHnd yX0_allColumns 0 := by unfold zHnd; decide +kernel
theorem zinst_X0_allColumns : Cond.instanceMethod yX0_allColumns ∈ zB := zin1 198 rfl rfl
theorem zsel_X0_allColumns : Cond.selects yX0_allColumns.cls yX0_allColumns yX0_allColumns ∈ zB := zin0 0 rfl rfl
theorem zcode_X0_isFree : Cond.code yX0_isFree cX0_isFree 2 (some .boolean) ∈ zB := zin1 213 rfl rfl
theorem zhnd_X0_isFree : zHnd yX0_isFree 2 := by unfold zHnd; decide +kernel
theorem zstat_X0_isFree : Cond.static yX0_isFree ∈ zB := zin1 212 rfl rfl
theorem zcode_X0_leastSum : Cond.code yX0_leastSum cX0_leastSum 3 (some .int) ∈ zB := zin1 195 rfl rfl
theorem zhnd_X0_leastSum : zHnd yX0_leastSum 0 := by unfold zHnd; decide +kernel
theorem zinst_X0_leastSum : Cond.instanceMethod yX0_leastSum ∈ zB := zin1 193 rfl rfl
theorem zsel_X0_leastSum : Cond.selects yX0_leastSum.cls yX0_leastSum yX0_leastSum ∈ zB := zin1 194 rfl rfl
theorem zcode_X0_findLeast : Cond.code yX0_findLeast cX0_findLeast 8 none ∈ zB := zin1 203 rfl rfl
theorem zhnd_X0_findLeast : zHnd yX0_findLeast 1 := by unfold zHnd; decide +kernel
theorem zinst_X0_findLeast : Cond.instanceMethod yX0_findLeast ∈ zB := zin1 202 rfl rfl
theorem zsel_X0_findLeast : Cond.selects yX0_findLeast.cls yX0_findLeast yX0_findLeast ∈ zB := zin0 1 rfl rfl
theorem zcode_X0_leastWays : Cond.code yX0_leastWays cX0_leastWays 1 (some .int) ∈ zB := zin1 225 rfl rfl
theorem zhnd_X0_leastWays : zHnd yX0_leastWays 0 := by unfold zHnd; decide +kernel
theorem zinst_X0_leastWays : Cond.instanceMethod yX0_leastWays ∈ zB := zin1 223 rfl rfl
theorem zsel_X0_leastWays : Cond.selects yX0_leastWays.cls yX0_leastWays yX0_leastWays ∈ zB := zin1 224 rfl rfl
theorem zcode_X0_traceLeast : Cond.code yX0_traceLeast cX0_traceLeast 5 none ∈ zB := zin1 237 rfl rfl
theorem zhnd_X0_traceLeast : zHnd yX0_traceLeast 1 := by unfold zHnd; decide +kernel
theorem zinst_X0_traceLeast : Cond.instanceMethod yX0_traceLeast ∈ zB := zin1 235 rfl rfl
theorem zsel_X0_traceLeast : Cond.selects yX0_traceLeast.cls yX0_traceLeast yX0_traceLeast ∈ zB := zin1 236 rfl rfl
theorem zcode_X0_isOnLeast : Cond.code yX0_isOnLeast cX0_isOnLeast 4 (some .boolean) ∈ zB := zin2 1 rfl rfl
theorem zhnd_X0_isOnLeast : zHnd yX0_isOnLeast 3 := by unfold zHnd; decide +kernel
theorem zinst_X0_isOnLeast : Cond.instanceMethod yX0_isOnLeast ∈ zB := zin2 0 rfl rfl
theorem zsel_X0_isOnLeast : Cond.selects yX0_isOnLeast.cls yX0_isOnLeast yX0_isOnLeast ∈ zB := zin0 3 rfl rfl
theorem zcode_X0_greatestSum : Cond.code yX0_greatestSum cX0_greatestSum 7 (some .int) ∈ zB := zin2 19 rfl rfl
theorem zhnd_X0_greatestSum : zHnd yX0_greatestSum 0 := by unfold zHnd; decide +kernel
theorem zinst_X0_greatestSum : Cond.instanceMethod yX0_greatestSum ∈ zB := zin2 17 rfl rfl
theorem zsel_X0_greatestSum : Cond.selects yX0_greatestSum.cls yX0_greatestSum yX0_greatestSum ∈ zB := zin2 18 rfl rfl
theorem zcode_X0_leastPeak : Cond.code yX0_leastPeak cX0_leastPeak 7 (some .int) ∈ zB := zin2 31 rfl rfl
theorem zhnd_X0_leastPeak : zHnd yX0_leastPeak 0 := by unfold zHnd; decide +kernel
theorem zinst_X0_leastPeak : Cond.instanceMethod yX0_leastPeak ∈ zB := zin2 29 rfl rfl
theorem zsel_X0_leastPeak : Cond.selects yX0_leastPeak.cls yX0_leastPeak yX0_leastPeak ∈ zB := zin2 30 rfl rfl
theorem zcode_X0_countFrom : Cond.code yX0_countFrom cX0_countFrom 7 (some .int) ∈ zB := zin3 157 rfl rfl
theorem zhnd_X0_countFrom : zHnd yX0_countFrom 4 := by unfold zHnd; decide +kernel
theorem zstat_X0_countFrom : Cond.static yX0_countFrom ∈ zB := zin3 156 rfl rfl
theorem zcode_X1_init : Cond.code yX1_init cX1_init 1 none ∈ zB := zin1 27 rfl rfl
theorem zhnd_X1_init : zHnd yX1_init 0 := by unfold zHnd; decide +kernel
theorem zinst_X1_init : Cond.instanceMethod yX1_init ∈ zB := zin1 26 rfl rfl
theorem zcode_X1_clearTo : Cond.code yX1_clearTo cX1_clearTo 4 none ∈ zB := zin2 209 rfl rfl
theorem zhnd_X1_clearTo : zHnd yX1_clearTo 2 := by unfold zHnd; decide +kernel
theorem zinst_X1_clearTo : Cond.instanceMethod yX1_clearTo ∈ zB := zin2 207 rfl rfl
theorem zsel_X1_clearTo : Cond.selects yX1_clearTo.cls yX1_clearTo yX1_clearTo ∈ zB := zin2 208 rfl rfl
theorem zcode_X1_copyFrom : Cond.code yX1_copyFrom cX1_copyFrom 3 none ∈ zB := zin1 124 rfl rfl
theorem zhnd_X1_copyFrom : zHnd yX1_copyFrom 1 := by unfold zHnd; decide +kernel
theorem zinst_X1_copyFrom : Cond.instanceMethod yX1_copyFrom ∈ zB := zin1 122 rfl rfl
theorem zsel_X1_copyFrom : Cond.selects yX1_copyFrom.cls yX1_copyFrom yX1_copyFrom ∈ zB := zin1 123 rfl rfl
theorem zcode_X1_numberAt : Cond.code yX1_numberAt cX1_numberAt 3 (some .int) ∈ zB := zin1 147 rfl rfl
theorem zhnd_X1_numberAt : zHnd yX1_numberAt 2 := by unfold zHnd; decide +kernel
theorem zinst_X1_numberAt : Cond.instanceMethod yX1_numberAt ∈ zB := zin1 145 rfl rfl
theorem zsel_X1_numberAt : Cond.selects yX1_numberAt.cls yX1_numberAt yX1_numberAt ∈ zB := zin1 146 rfl rfl
theorem zcode_X1_putNumber : Cond.code yX1_putNumber cX1_putNumber 4 none ∈ zB := zin2 230 rfl rfl
theorem zhnd_X1_putNumber : zHnd yX1_putNumber 3 := by unfold zHnd; decide +kernel
theorem zinst_X1_putNumber : Cond.instanceMethod yX1_putNumber ∈ zB := zin2 228 rfl rfl
theorem zsel_X1_putNumber : Cond.selects yX1_putNumber.cls yX1_putNumber yX1_putNumber ∈ zB := zin2 229 rfl rfl
theorem zcode_X1_isForbidden : Cond.code yX1_isForbidden cX1_isForbidden 3 (some .boolean) ∈ zB := zin1 140 rfl rfl
theorem zhnd_X1_isForbidden : zHnd yX1_isForbidden 2 := by unfold zHnd; decide +kernel
theorem zinst_X1_isForbidden : Cond.instanceMethod yX1_isForbidden ∈ zB := zin1 138 rfl rfl
theorem zsel_X1_isForbidden : Cond.selects yX1_isForbidden.cls yX1_isForbidden yX1_isForbidden ∈ zB := zin1 139 rfl rfl
theorem zcode_X1_putForbidden : Cond.code yX1_putForbidden cX1_putForbidden 4 none ∈ zB := zin3 13 rfl rfl
theorem zhnd_X1_putForbidden : zHnd yX1_putForbidden 3 := by unfold zHnd; decide +kernel
theorem zinst_X1_putForbidden : Cond.instanceMethod yX1_putForbidden ∈ zB := zin3 11 rfl rfl
theorem zsel_X1_putForbidden : Cond.selects yX1_putForbidden.cls yX1_putForbidden yX1_putForbidden ∈ zB := zin3 12 rfl rfl
theorem zcode_X1_costOf : Cond.code yX1_costOf cX1_costOf 3 (some .int) ∈ zB := zin1 136 rfl rfl
theorem zhnd_X1_costOf : zHnd yX1_costOf 2 := by unfold zHnd; decide +kernel
theorem zinst_X1_costOf : Cond.instanceMethod yX1_costOf ∈ zB := zin1 134 rfl rfl
theorem zsel_X1_costOf : Cond.selects yX1_costOf.cls yX1_costOf yX1_costOf ∈ zB := zin1 135 rfl rfl
theorem zcode_X1_sumOfRow : Cond.code yX1_sumOfRow cX1_sumOfRow 4 (some .int) ∈ zB := zin1 132 rfl rfl
theorem zhnd_X1_sumOfRow : zHnd yX1_sumOfRow 1 := by unfold zHnd; decide +kernel
theorem zinst_X1_sumOfRow : Cond.instanceMethod yX1_sumOfRow ∈ zB := zin1 130 rfl rfl
theorem zsel_X1_sumOfRow : Cond.selects yX1_sumOfRow.cls yX1_sumOfRow yX1_sumOfRow ∈ zB := zin1 131 rfl rfl
theorem zcode_X1_sumOfColumn : Cond.code yX1_sumOfColumn cX1_sumOfColumn 4 (some .int) ∈ zB := zin3 73 rfl rfl
theorem zhnd_X1_sumOfColumn : zHnd yX1_sumOfColumn 1 := by unfold zHnd; decide +kernel
theorem zinst_X1_sumOfColumn : Cond.instanceMethod yX1_sumOfColumn ∈ zB := zin3 71 rfl rfl
theorem zsel_X1_sumOfColumn : Cond.selects yX1_sumOfColumn.cls yX1_sumOfColumn yX1_sumOfColumn ∈ zB := zin3 72 rfl rfl
theorem zcode_X1_swapCells : Cond.code yX1_swapCells cX1_swapCells 7 none ∈ zB := zin3 84 rfl rfl
theorem zhnd_X1_swapCells : zHnd yX1_swapCells 4 := by unfold zHnd; decide +kernel
theorem zinst_X1_swapCells : Cond.instanceMethod yX1_swapCells ∈ zB := zin3 82 rfl rfl
theorem zsel_X1_swapCells : Cond.selects yX1_swapCells.cls yX1_swapCells yX1_swapCells ∈ zB := zin3 83 rfl rfl
theorem zcode_X2_init : Cond.code yX2_init cX2_init 1 none ∈ zB := zin1 74 rfl rfl
theorem zhnd_X2_init : zHnd yX2_init 0 := by unfold zHnd; decide +kernel
theorem zinst_X2_init : Cond.instanceMethod yX2_init ∈ zB := zin1 73 rfl rfl
theorem zcode_X2_cancel : Cond.code yX2_cancel cX2_cancel 1 none ∈ zB := zin1 155 rfl rfl
theorem zhnd_X2_cancel : zHnd yX2_cancel 0 := by unfold zHnd; decide +kernel
theorem zinst_X2_cancel : Cond.instanceMethod yX2_cancel ∈ zB := zin1 153 rfl rfl
theorem zsel_X2_cancel : Cond.selects yX2_cancel.cls yX2_cancel yX2_cancel ∈ zB := zin1 154 rfl rfl
theorem zcode_X2_begin : Cond.code yX2_begin cX2_begin 2 none ∈ zB := zin3 179 rfl rfl
theorem zhnd_X2_begin : zHnd yX2_begin 1 := by unfold zHnd; decide +kernel
theorem zinst_X2_begin : Cond.instanceMethod yX2_begin ∈ zB := zin3 177 rfl rfl
theorem zsel_X2_begin : Cond.selects yX2_begin.cls yX2_begin yX2_begin ∈ zB := zin3 178 rfl rfl
theorem zcode_X2_addKeys : Cond.code yX2_addKeys cX2_addKeys 7 none ∈ zB := zin3 182 rfl rfl
theorem zhnd_X2_addKeys : zHnd yX2_addKeys 5 := by unfold zHnd; decide +kernel
theorem zstat_X2_addKeys : Cond.static yX2_addKeys ∈ zB := zin3 181 rfl rfl
theorem zcode_X2_shiftOf : Cond.code yX2_shiftOf cX2_shiftOf 1 (some .int) ∈ zB := zin3 186 rfl rfl
theorem zhnd_X2_shiftOf : zHnd yX2_shiftOf 1 := by unfold zHnd; decide +kernel
theorem zstat_X2_shiftOf : Cond.static yX2_shiftOf ∈ zB := zin3 185 rfl rfl
theorem zcode_X2_advance : Cond.code yX2_advance cX2_advance 4 none ∈ zB := zin3 213 rfl rfl
theorem zhnd_X2_advance : zHnd yX2_advance 0 := by unfold zHnd; decide +kernel
theorem zinst_X2_advance : Cond.instanceMethod yX2_advance ∈ zB := zin3 211 rfl rfl
theorem zsel_X2_advance : Cond.selects yX2_advance.cls yX2_advance yX2_advance ∈ zB := zin3 212 rfl rfl
theorem zcode_X2_visitedSum : Cond.code yX2_visitedSum cX2_visitedSum 1 (some .int) ∈ zB := zin3 218 rfl rfl
theorem zhnd_X2_visitedSum : zHnd yX2_visitedSum 0 := by unfold zHnd; decide +kernel
theorem zinst_X2_visitedSum : Cond.instanceMethod yX2_visitedSum ∈ zB := zin3 216 rfl rfl
theorem zsel_X2_visitedSum : Cond.selects yX2_visitedSum.cls yX2_visitedSum yX2_visitedSum ∈ zB := zin3 217 rfl rfl
theorem zcode_X2_visitedColumn : Cond.code yX2_visitedColumn cX2_visitedColumn 2 (some .int) ∈ zB := zin3 229 rfl rfl
theorem zhnd_X2_visitedColumn : zHnd yX2_visitedColumn 1 := by unfold zHnd; decide +kernel
theorem zinst_X2_visitedColumn : Cond.instanceMethod yX2_visitedColumn ∈ zB := zin3 227 rfl rfl
theorem zsel_X2_visitedColumn : Cond.selects yX2_visitedColumn.cls yX2_visitedColumn yX2_visitedColumn ∈ zB := zin3 228 rfl rfl
theorem zcode_X3_init : Cond.code yX3_init cX3_init 1 none ∈ zB := zin1 19 rfl rfl
theorem zhnd_X3_init : zHnd yX3_init 0 := by unfold zHnd; decide +kernel
theorem zinst_X3_init : Cond.instanceMethod yX3_init ∈ zB := zin1 18 rfl rfl
theorem zcode_X3_resize : Cond.code yX3_resize cX3_resize 3 (some .int) ∈ zB := zin2 205 rfl rfl
theorem zhnd_X3_resize : zHnd yX3_resize 2 := by unfold zHnd; decide +kernel
theorem zinst_X3_resize : Cond.instanceMethod yX3_resize ∈ zB := zin2 203 rfl rfl
theorem zsel_X3_resize : Cond.selects yX3_resize.cls yX3_resize yX3_resize ∈ zB := zin2 204 rfl rfl
theorem zcode_X3_setCost : Cond.code yX3_setCost cX3_setCost 5 (some .int) ∈ zB := zin2 217 rfl rfl
theorem zhnd_X3_setCost : zHnd yX3_setCost 3 := by unfold zHnd; decide +kernel
theorem zinst_X3_setCost : Cond.instanceMethod yX3_setCost ∈ zB := zin2 215 rfl rfl
theorem zsel_X3_setCost : Cond.selects yX3_setCost.cls yX3_setCost yX3_setCost ∈ zB := zin2 216 rfl rfl
theorem zcode_X3_setRow : Cond.code yX3_setRow cX3_setRow 9 (some .int) ∈ zB := zin2 237 rfl rfl
theorem zhnd_X3_setRow : zHnd yX3_setRow 2 := by unfold zHnd; decide +kernel
theorem zinst_X3_setRow : Cond.instanceMethod yX3_setRow ∈ zB := zin2 235 rfl rfl
theorem zsel_X3_setRow : Cond.selects yX3_setRow.cls yX3_setRow yX3_setRow ∈ zB := zin2 236 rfl rfl
theorem zcode_X3_fill : Cond.code yX3_fill cX3_fill 8 (some .int) ∈ zB := zin3 9 rfl rfl
theorem zhnd_X3_fill : zHnd yX3_fill 2 := by unfold zHnd; decide +kernel
theorem zinst_X3_fill : Cond.instanceMethod yX3_fill ∈ zB := zin3 7 rfl rfl
theorem zsel_X3_fill : Cond.selects yX3_fill.cls yX3_fill yX3_fill ∈ zB := zin3 8 rfl rfl
theorem zcode_X3_setForbidden : Cond.code yX3_setForbidden cX3_setForbidden 4 (some .int) ∈ zB := zin3 20 rfl rfl
theorem zhnd_X3_setForbidden : zHnd yX3_setForbidden 3 := by unfold zHnd; decide +kernel
theorem zinst_X3_setForbidden : Cond.instanceMethod yX3_setForbidden ∈ zB := zin3 18 rfl rfl
theorem zsel_X3_setForbidden : Cond.selects yX3_setForbidden.cls yX3_setForbidden yX3_setForbidden ∈ zB := zin3 19 rfl rfl
theorem zcode_X3_costAt : Cond.code yX3_costAt cX3_costAt 3 (some .int) ∈ zB := zin3 27 rfl rfl
theorem zhnd_X3_costAt : zHnd yX3_costAt 2 := by unfold zHnd; decide +kernel
theorem zinst_X3_costAt : Cond.instanceMethod yX3_costAt ∈ zB := zin3 25 rfl rfl
theorem zsel_X3_costAt : Cond.selects yX3_costAt.cls yX3_costAt yX3_costAt ∈ zB := zin3 26 rfl rfl
theorem zcode_X3_addToRow : Cond.code yX3_addToRow cX3_addToRow 4 (some .int) ∈ zB := zin3 35 rfl rfl
theorem zhnd_X3_addToRow : zHnd yX3_addToRow 2 := by unfold zHnd; decide +kernel
theorem zinst_X3_addToRow : Cond.instanceMethod yX3_addToRow ∈ zB := zin3 33 rfl rfl
theorem zsel_X3_addToRow : Cond.selects yX3_addToRow.cls yX3_addToRow yX3_addToRow ∈ zB := zin3 34 rfl rfl
theorem zcode_X3_addToColumn : Cond.code yX3_addToColumn cX3_addToColumn 4 (some .int) ∈ zB := zin3 69 rfl rfl
theorem zhnd_X3_addToColumn : zHnd yX3_addToColumn 2 := by unfold zHnd; decide +kernel
theorem zinst_X3_addToColumn : Cond.instanceMethod yX3_addToColumn ∈ zB := zin3 67 rfl rfl
theorem zsel_X3_addToColumn : Cond.selects yX3_addToColumn.cls yX3_addToColumn yX3_addToColumn ∈ zB := zin3 68 rfl rfl
theorem zcode_X3_swapRows : Cond.code yX3_swapRows cX3_swapRows 4 (some .int) ∈ zB := zin3 80 rfl rfl
theorem zhnd_X3_swapRows : zHnd yX3_swapRows 2 := by unfold zHnd; decide +kernel
theorem zinst_X3_swapRows : Cond.instanceMethod yX3_swapRows ∈ zB := zin3 78 rfl rfl
theorem zsel_X3_swapRows : Cond.selects yX3_swapRows.cls yX3_swapRows yX3_swapRows ∈ zB := zin3 79 rfl rfl
theorem zcode_X3_swapColumns : Cond.code yX3_swapColumns cX3_swapColumns 4 (some .int) ∈ zB := zin3 93 rfl rfl
theorem zhnd_X3_swapColumns : zHnd yX3_swapColumns 2 := by unfold zHnd; decide +kernel
theorem zinst_X3_swapColumns : Cond.instanceMethod yX3_swapColumns ∈ zB := zin3 91 rfl rfl
theorem zsel_X3_swapColumns : Cond.selects yX3_swapColumns.cls yX3_swapColumns yX3_swapColumns ∈ zB := zin3 92 rfl rfl
theorem zcode_X3_transpose : Cond.code yX3_transpose cX3_transpose 3 (some .int) ∈ zB := zin3 100 rfl rfl
theorem zhnd_X3_transpose : zHnd yX3_transpose 0 := by unfold zHnd; decide +kernel
theorem zinst_X3_transpose : Cond.instanceMethod yX3_transpose ∈ zB := zin3 98 rfl rfl
theorem zsel_X3_transpose : Cond.selects yX3_transpose.cls yX3_transpose yX3_transpose ∈ zB := zin3 99 rfl rfl
theorem zcode_X3_save : Cond.code yX3_save cX3_save 1 (some .int) ∈ zB := zin1 120 rfl rfl
theorem zhnd_X3_save : zHnd yX3_save 0 := by unfold zHnd; decide +kernel
theorem zinst_X3_save : Cond.instanceMethod yX3_save ∈ zB := zin1 118 rfl rfl
theorem zsel_X3_save : Cond.selects yX3_save.cls yX3_save yX3_save ∈ zB := zin1 119 rfl rfl
theorem zcode_X3_restore : Cond.code yX3_restore cX3_restore 1 (some .int) ∈ zB := zin1 151 rfl rfl
theorem zhnd_X3_restore : zHnd yX3_restore 0 := by unfold zHnd; decide +kernel
theorem zinst_X3_restore : Cond.instanceMethod yX3_restore ∈ zB := zin1 149 rfl rfl
theorem zsel_X3_restore : Cond.selects yX3_restore.cls yX3_restore yX3_restore ∈ zB := zin1 150 rfl rfl
theorem zcode_X3_distance : Cond.code yX3_distance cX3_distance 4 (some .int) ∈ zB := zin1 159 rfl rfl
theorem zhnd_X3_distance : zHnd yX3_distance 0 := by unfold zHnd; decide +kernel
theorem zinst_X3_distance : Cond.instanceMethod yX3_distance ∈ zB := zin1 157 rfl rfl
theorem zsel_X3_distance : Cond.selects yX3_distance.cls yX3_distance yX3_distance ∈ zB := zin1 158 rfl rfl
theorem zcode_X3_rows : Cond.code yX3_rows cX3_rows 1 (some .int) ∈ zB := zin1 167 rfl rfl
theorem zhnd_X3_rows : zHnd yX3_rows 0 := by unfold zHnd; decide +kernel
theorem zinst_X3_rows : Cond.instanceMethod yX3_rows ∈ zB := zin1 165 rfl rfl
theorem zsel_X3_rows : Cond.selects yX3_rows.cls yX3_rows yX3_rows ∈ zB := zin1 166 rfl rfl
theorem zcode_X3_columns : Cond.code yX3_columns cX3_columns 1 (some .int) ∈ zB := zin1 171 rfl rfl
theorem zhnd_X3_columns : zHnd yX3_columns 0 := by unfold zHnd; decide +kernel
theorem zinst_X3_columns : Cond.instanceMethod yX3_columns ∈ zB := zin1 169 rfl rfl
theorem zsel_X3_columns : Cond.selects yX3_columns.cls yX3_columns yX3_columns ∈ zB := zin1 170 rfl rfl
theorem zcode_X3_forbiddenCount : Cond.code yX3_forbiddenCount cX3_forbiddenCount 4 (some .int) ∈ zB := zin1 175 rfl rfl
theorem zhnd_X3_forbiddenCount : zHnd yX3_forbiddenCount 0 := by unfold zHnd; decide +kernel
theorem zinst_X3_forbiddenCount : Cond.instanceMethod yX3_forbiddenCount ∈ zB := zin1 173 rfl rfl
theorem zsel_X3_forbiddenCount : Cond.selects yX3_forbiddenCount.cls yX3_forbiddenCount yX3_forbiddenCount ∈ zB := zin1 174 rfl rfl
theorem zcode_X3_totalCost : Cond.code yX3_totalCost cX3_totalCost 3 (some .int) ∈ zB := zin1 128 rfl rfl
theorem zhnd_X3_totalCost : zHnd yX3_totalCost 0 := by unfold zHnd; decide +kernel
theorem zinst_X3_totalCost : Cond.instanceMethod yX3_totalCost ∈ zB := zin1 126 rfl rfl
theorem zsel_X3_totalCost : Cond.selects yX3_totalCost.cls yX3_totalCost yX3_totalCost ∈ zB := zin1 127 rfl rfl
theorem zcode_X3_minimum : Cond.code yX3_minimum cX3_minimum 1 (some .int) ∈ zB := zin1 181 rfl rfl
theorem zhnd_X3_minimum : zHnd yX3_minimum 0 := by unfold zHnd; decide +kernel
theorem zinst_X3_minimum : Cond.instanceMethod yX3_minimum ∈ zB := zin1 179 rfl rfl
theorem zsel_X3_minimum : Cond.selects yX3_minimum.cls yX3_minimum yX3_minimum ∈ zB := zin1 180 rfl rfl
theorem zcode_X3_savedMinimum : Cond.code yX3_savedMinimum cX3_savedMinimum 1 (some .int) ∈ zB := zin1 217 rfl rfl
theorem zhnd_X3_savedMinimum : zHnd yX3_savedMinimum 0 := by unfold zHnd; decide +kernel
theorem zinst_X3_savedMinimum : Cond.instanceMethod yX3_savedMinimum ∈ zB := zin1 215 rfl rfl
theorem zsel_X3_savedMinimum : Cond.selects yX3_savedMinimum.cls yX3_savedMinimum yX3_savedMinimum ∈ zB := zin1 216 rfl rfl
theorem zcode_X3_assigned : Cond.code yX3_assigned cX3_assigned 2 (some .int) ∈ zB := zin3 107 rfl rfl
theorem zhnd_X3_assigned : zHnd yX3_assigned 1 := by unfold zHnd; decide +kernel
theorem zinst_X3_assigned : Cond.instanceMethod yX3_assigned ∈ zB := zin3 105 rfl rfl
theorem zsel_X3_assigned : Cond.selects yX3_assigned.cls yX3_assigned yX3_assigned ∈ zB := zin3 106 rfl rfl
theorem zcode_X3_optimalCount : Cond.code yX3_optimalCount cX3_optimalCount 1 (some .int) ∈ zB := zin1 221 rfl rfl
theorem zhnd_X3_optimalCount : zHnd yX3_optimalCount 0 := by unfold zHnd; decide +kernel
theorem zinst_X3_optimalCount : Cond.instanceMethod yX3_optimalCount ∈ zB := zin1 219 rfl rfl
theorem zsel_X3_optimalCount : Cond.selects yX3_optimalCount.cls yX3_optimalCount yX3_optimalCount ∈ zB := zin1 220 rfl rfl
theorem zcode_X3_rowPotential : Cond.code yX3_rowPotential cX3_rowPotential 2 (some .int) ∈ zB := zin3 114 rfl rfl
theorem zhnd_X3_rowPotential : zHnd yX3_rowPotential 1 := by unfold zHnd; decide +kernel
theorem zinst_X3_rowPotential : Cond.instanceMethod yX3_rowPotential ∈ zB := zin3 112 rfl rfl
theorem zsel_X3_rowPotential : Cond.selects yX3_rowPotential.cls yX3_rowPotential yX3_rowPotential ∈ zB := zin3 113 rfl rfl
theorem zcode_X3_columnPotential : Cond.code yX3_columnPotential cX3_columnPotential 2 (some .int) ∈ zB := zin3 121 rfl rfl
theorem zhnd_X3_columnPotential : zHnd yX3_columnPotential 1 := by unfold zHnd; decide +kernel
theorem zinst_X3_columnPotential : Cond.instanceMethod yX3_columnPotential ∈ zB := zin3 119 rfl rfl
theorem zsel_X3_columnPotential : Cond.selects yX3_columnPotential.cls yX3_columnPotential yX3_columnPotential ∈ zB := zin3 120 rfl rfl
theorem zcode_X3_reducedCost : Cond.code yX3_reducedCost cX3_reducedCost 3 (some .int) ∈ zB := zin3 128 rfl rfl
theorem zhnd_X3_reducedCost : zHnd yX3_reducedCost 2 := by unfold zHnd; decide +kernel
theorem zinst_X3_reducedCost : Cond.instanceMethod yX3_reducedCost ∈ zB := zin3 126 rfl rfl
theorem zsel_X3_reducedCost : Cond.selects yX3_reducedCost.cls yX3_reducedCost yX3_reducedCost ∈ zB := zin3 127 rfl rfl
theorem zcode_X3_minimumWith : Cond.code yX3_minimumWith cX3_minimumWith 4 (some .int) ∈ zB := zin2 69 rfl rfl
theorem zhnd_X3_minimumWith : zHnd yX3_minimumWith 2 := by unfold zHnd; decide +kernel
theorem zinst_X3_minimumWith : Cond.instanceMethod yX3_minimumWith ∈ zB := zin2 67 rfl rfl
theorem zsel_X3_minimumWith : Cond.selects yX3_minimumWith.cls yX3_minimumWith yX3_minimumWith ∈ zB := zin2 68 rfl rfl
theorem zcode_X3_minimumWithout : Cond.code yX3_minimumWithout cX3_minimumWithout 3 (some .int) ∈ zB := zin2 173 rfl rfl
theorem zhnd_X3_minimumWithout : zHnd yX3_minimumWithout 2 := by unfold zHnd; decide +kernel
theorem zinst_X3_minimumWithout : Cond.instanceMethod yX3_minimumWithout ∈ zB := zin2 171 rfl rfl
theorem zsel_X3_minimumWithout : Cond.selects yX3_minimumWithout.cls yX3_minimumWithout yX3_minimumWithout ∈ zB := zin2 172 rfl rfl
theorem zcode_X3_minimumIfCost : Cond.code yX3_minimumIfCost cX3_minimumIfCost 4 (some .int) ∈ zB := zin3 143 rfl rfl
theorem zhnd_X3_minimumIfCost : zHnd yX3_minimumIfCost 3 := by unfold zHnd; decide +kernel
theorem zinst_X3_minimumIfCost : Cond.instanceMethod yX3_minimumIfCost ∈ zB := zin3 141 rfl rfl
theorem zsel_X3_minimumIfCost : Cond.selects yX3_minimumIfCost.cls yX3_minimumIfCost yX3_minimumIfCost ∈ zB := zin3 142 rfl rfl
theorem zcode_X3_secondBest : Cond.code yX3_secondBest cX3_secondBest 3 (some .int) ∈ zB := zin1 229 rfl rfl
theorem zhnd_X3_secondBest : zHnd yX3_secondBest 0 := by unfold zHnd; decide +kernel
theorem zinst_X3_secondBest : Cond.instanceMethod yX3_secondBest ∈ zB := zin1 227 rfl rfl
theorem zsel_X3_secondBest : Cond.selects yX3_secondBest.cls yX3_secondBest yX3_secondBest ∈ zB := zin1 228 rfl rfl
theorem zcode_X3_maximum : Cond.code yX3_maximum cX3_maximum 3 (some .int) ∈ zB := zin2 14 rfl rfl
theorem zhnd_X3_maximum : zHnd yX3_maximum 0 := by unfold zHnd; decide +kernel
theorem zinst_X3_maximum : Cond.instanceMethod yX3_maximum ∈ zB := zin2 12 rfl rfl
theorem zsel_X3_maximum : Cond.selects yX3_maximum.cls yX3_maximum yX3_maximum ∈ zB := zin2 13 rfl rfl
theorem zcode_X3_bottleneck : Cond.code yX3_bottleneck cX3_bottleneck 1 (some .int) ∈ zB := zin2 27 rfl rfl
theorem zhnd_X3_bottleneck : zHnd yX3_bottleneck 0 := by unfold zHnd; decide +kernel
theorem zinst_X3_bottleneck : Cond.instanceMethod yX3_bottleneck ∈ zB := zin2 25 rfl rfl
theorem zsel_X3_bottleneck : Cond.selects yX3_bottleneck.cls yX3_bottleneck yX3_bottleneck ∈ zB := zin2 26 rfl rfl
theorem zcode_X3_fits : Cond.code yX3_fits cX3_fits 4 (some .boolean) ∈ zB := zin2 182 rfl rfl
theorem zhnd_X3_fits : zHnd yX3_fits 1 := by unfold zHnd; decide +kernel
theorem zinst_X3_fits : Cond.instanceMethod yX3_fits ∈ zB := zin2 180 rfl rfl
theorem zsel_X3_fits : Cond.selects yX3_fits.cls yX3_fits yX3_fits ∈ zB := zin2 181 rfl rfl
theorem zcode_X3_countWithin : Cond.code yX3_countWithin cX3_countWithin 2 (some .int) ∈ zB := zin3 154 rfl rfl
theorem zhnd_X3_countWithin : zHnd yX3_countWithin 1 := by unfold zHnd; decide +kernel
theorem zinst_X3_countWithin : Cond.instanceMethod yX3_countWithin ∈ zB := zin3 152 rfl rfl
theorem zsel_X3_countWithin : Cond.selects yX3_countWithin.cls yX3_countWithin yX3_countWithin ∈ zB := zin3 153 rfl rfl
theorem zcode_X3_sumOf : Cond.code yX3_sumOf cX3_sumOf 7 (some .int) ∈ zB := zin3 168 rfl rfl
theorem zhnd_X3_sumOf : zHnd yX3_sumOf 1 := by unfold zHnd; decide +kernel
theorem zinst_X3_sumOf : Cond.instanceMethod yX3_sumOf ∈ zB := zin3 166 rfl rfl
theorem zsel_X3_sumOf : Cond.selects yX3_sumOf.cls yX3_sumOf yX3_sumOf ∈ zB := zin3 167 rfl rfl
theorem zcode_X3_startEnumeration : Cond.code yX3_startEnumeration cX3_startEnumeration 1 (some .int) ∈ zB := zin3 175 rfl rfl
theorem zhnd_X3_startEnumeration : zHnd yX3_startEnumeration 0 := by unfold zHnd; decide +kernel
theorem zinst_X3_startEnumeration : Cond.instanceMethod yX3_startEnumeration ∈ zB := zin3 173 rfl rfl
theorem zsel_X3_startEnumeration : Cond.selects yX3_startEnumeration.cls yX3_startEnumeration yX3_startEnumeration ∈ zB := zin3 174 rfl rfl
theorem zcode_X3_nextSum : Cond.code yX3_nextSum cX3_nextSum 1 (some .int) ∈ zB := zin3 194 rfl rfl
theorem zhnd_X3_nextSum : zHnd yX3_nextSum 0 := by unfold zHnd; decide +kernel
theorem zinst_X3_nextSum : Cond.instanceMethod yX3_nextSum ∈ zB := zin3 192 rfl rfl
theorem zsel_X3_nextSum : Cond.selects yX3_nextSum.cls yX3_nextSum yX3_nextSum ∈ zB := zin3 193 rfl rfl
theorem zcode_X3_currentColumn : Cond.code yX3_currentColumn cX3_currentColumn 2 (some .int) ∈ zB := zin3 225 rfl rfl
theorem zhnd_X3_currentColumn : zHnd yX3_currentColumn 1 := by unfold zHnd; decide +kernel
theorem zinst_X3_currentColumn : Cond.instanceMethod yX3_currentColumn ∈ zB := zin3 223 rfl rfl
theorem zsel_X3_currentColumn : Cond.selects yX3_currentColumn.cls yX3_currentColumn yX3_currentColumn ∈ zB := zin3 224 rfl rfl
theorem zcode_X3_stepsMade : Cond.code yX3_stepsMade cX3_stepsMade 1 (some .int) ∈ zB := zin2 36 rfl rfl
theorem zhnd_X3_stepsMade : zHnd yX3_stepsMade 0 := by unfold zHnd; decide +kernel
theorem zinst_X3_stepsMade : Cond.instanceMethod yX3_stepsMade ∈ zB := zin2 34 rfl rfl
theorem zsel_X3_stepsMade : Cond.selects yX3_stepsMade.cls yX3_stepsMade yX3_stepsMade ∈ zB := zin2 35 rfl rfl
theorem zcode_X3_meanCost : Cond.code yX3_meanCost cX3_meanCost 1 (some .double) ∈ zB := zin2 40 rfl rfl
theorem zhnd_X3_meanCost : zHnd yX3_meanCost 0 := by unfold zHnd; decide +kernel
theorem zinst_X3_meanCost : Cond.instanceMethod yX3_meanCost ∈ zB := zin2 38 rfl rfl
theorem zsel_X3_meanCost : Cond.selects yX3_meanCost.cls yX3_meanCost yX3_meanCost ∈ zB := zin2 39 rfl rfl
theorem zcode_X3_shareOf : Cond.code yX3_shareOf cX3_shareOf 3 (some .float) ∈ zB := zin3 236 rfl rfl
theorem zhnd_X3_shareOf : zHnd yX3_shareOf 1 := by unfold zHnd; decide +kernel
theorem zinst_X3_shareOf : Cond.instanceMethod yX3_shareOf ∈ zB := zin3 234 rfl rfl
theorem zsel_X3_shareOf : Cond.selects yX3_shareOf.cls yX3_shareOf yX3_shareOf ∈ zB := zin3 235 rfl rfl
theorem zcode_X3_checksum : Cond.code yX3_checksum cX3_checksum 4 (some .long) ∈ zB := zin2 44 rfl rfl
theorem zhnd_X3_checksum : zHnd yX3_checksum 0 := by unfold zHnd; decide +kernel
theorem zinst_X3_checksum : Cond.instanceMethod yX3_checksum ∈ zB := zin2 42 rfl rfl
theorem zsel_X3_checksum : Cond.selects yX3_checksum.cls yX3_checksum yX3_checksum ∈ zB := zin2 43 rfl rfl
theorem zcode_X3_isSound : Cond.code yX3_isSound cX3_isSound 1 (some .boolean) ∈ zB := zin2 61 rfl rfl
theorem zhnd_X3_isSound : zHnd yX3_isSound 0 := by unfold zHnd; decide +kernel
theorem zinst_X3_isSound : Cond.instanceMethod yX3_isSound ∈ zB := zin2 59 rfl rfl
theorem zsel_X3_isSound : Cond.selects yX3_isSound.cls yX3_isSound yX3_isSound ∈ zB := zin2 60 rfl rfl
theorem zcode_X3_isColumn : Cond.code yX3_isColumn cX3_isColumn 2 (some .boolean) ∈ zB := zin2 149 rfl rfl
theorem zhnd_X3_isColumn : zHnd yX3_isColumn 1 := by unfold zHnd; decide +kernel
theorem zinst_X3_isColumn : Cond.instanceMethod yX3_isColumn ∈ zB := zin2 148 rfl rfl
theorem zsel_X3_isColumn : Cond.selects yX3_isColumn.cls yX3_isColumn yX3_isColumn ∈ zB := zin0 10 rfl rfl
theorem zcode_X3_requireRow : Cond.code yX3_requireRow cX3_requireRow 2 none ∈ zB := zin2 77 rfl rfl
theorem zhnd_X3_requireRow : zHnd yX3_requireRow 1 := by unfold zHnd; decide +kernel
theorem zinst_X3_requireRow : Cond.instanceMethod yX3_requireRow ∈ zB := zin2 76 rfl rfl
theorem zsel_X3_requireRow : Cond.selects yX3_requireRow.cls yX3_requireRow yX3_requireRow ∈ zB := zin0 7 rfl rfl
theorem zcode_X3_requireColumn : Cond.code yX3_requireColumn cX3_requireColumn 2 none ∈ zB := zin2 145 rfl rfl
theorem zhnd_X3_requireColumn : zHnd yX3_requireColumn 1 := by unfold zHnd; decide +kernel
theorem zinst_X3_requireColumn : Cond.instanceMethod yX3_requireColumn ∈ zB := zin2 144 rfl rfl
theorem zsel_X3_requireColumn : Cond.selects yX3_requireColumn.cls yX3_requireColumn yX3_requireColumn ∈ zB := zin0 9 rfl rfl
theorem zcode_X3_requireRealColumn : Cond.code yX3_requireRealColumn cX3_requireRealColumn 2 none ∈ zB := zin2 225 rfl rfl
theorem zhnd_X3_requireRealColumn : zHnd yX3_requireRealColumn 1 := by unfold zHnd; decide +kernel
theorem zinst_X3_requireRealColumn : Cond.instanceMethod yX3_requireRealColumn ∈ zB := zin2 224 rfl rfl
theorem zsel_X3_requireRealColumn : Cond.selects yX3_requireRealColumn.cls yX3_requireRealColumn yX3_requireRealColumn ∈ zB := zin0 18 rfl rfl
theorem zcode_X3_requireCell : Cond.code yX3_requireCell cX3_requireCell 3 none ∈ zB := zin2 73 rfl rfl
theorem zhnd_X3_requireCell : zHnd yX3_requireCell 2 := by unfold zHnd; decide +kernel
theorem zinst_X3_requireCell : Cond.instanceMethod yX3_requireCell ∈ zB := zin2 72 rfl rfl
theorem zsel_X3_requireCell : Cond.selects yX3_requireCell.cls yX3_requireCell yX3_requireCell ∈ zB := zin0 6 rfl rfl
theorem zcode_X3_requireRealCell : Cond.code yX3_requireRealCell cX3_requireRealCell 3 none ∈ zB := zin2 221 rfl rfl
theorem zhnd_X3_requireRealCell : zHnd yX3_requireRealCell 2 := by unfold zHnd; decide +kernel
theorem zinst_X3_requireRealCell : Cond.instanceMethod yX3_requireRealCell ∈ zB := zin2 220 rfl rfl
theorem zsel_X3_requireRealCell : Cond.selects yX3_requireRealCell.cls yX3_requireRealCell yX3_requireRealCell ∈ zB := zin0 17 rfl rfl
theorem zcode_X3_requireAddend : Cond.code yX3_requireAddend cX3_requireAddend 2 none ∈ zB := zin3 39 rfl rfl
theorem zhnd_X3_requireAddend : zHnd yX3_requireAddend 1 := by unfold zHnd; decide +kernel
theorem zinst_X3_requireAddend : Cond.instanceMethod yX3_requireAddend ∈ zB := zin3 38 rfl rfl
theorem zsel_X3_requireAddend : Cond.selects yX3_requireAddend.cls yX3_requireAddend yX3_requireAddend ∈ zB := zin0 20 rfl rfl
theorem zcode_X3_requireNoDummyColumn : Cond.code yX3_requireNoDummyColumn cX3_requireNoDummyColumn 1 none ∈ zB := zin3 43 rfl rfl
theorem zhnd_X3_requireNoDummyColumn : zHnd yX3_requireNoDummyColumn 0 := by unfold zHnd; decide +kernel
theorem zinst_X3_requireNoDummyColumn : Cond.instanceMethod yX3_requireNoDummyColumn ∈ zB := zin3 42 rfl rfl
theorem zsel_X3_requireNoDummyColumn : Cond.selects yX3_requireNoDummyColumn.cls yX3_requireNoDummyColumn yX3_requireNoDummyColumn ∈ zB := zin0 21 rfl rfl
theorem zcode_X3_requireAddable : Cond.code yX3_requireAddable cX3_requireAddable 5 none ∈ zB := zin3 62 rfl rfl
theorem zhnd_X3_requireAddable : zHnd yX3_requireAddable 3 := by unfold zHnd; decide +kernel
theorem zinst_X3_requireAddable : Cond.instanceMethod yX3_requireAddable ∈ zB := zin3 61 rfl rfl
theorem zsel_X3_requireAddable : Cond.selects yX3_requireAddable.cls yX3_requireAddable yX3_requireAddable ∈ zB := zin0 22 rfl rfl
theorem zcode_X3_packedBound : Cond.code yX3_packedBound cX3_packedBound 4 (some .long) ∈ zB := zin3 1 rfl rfl
theorem zhnd_X3_packedBound : zHnd yX3_packedBound 0 := by unfold zHnd; decide +kernel
theorem zinst_X3_packedBound : Cond.instanceMethod yX3_packedBound ∈ zB := zin3 0 rfl rfl
theorem zsel_X3_packedBound : Cond.selects yX3_packedBound.cls yX3_packedBound yX3_packedBound ∈ zB := zin0 19 rfl rfl
theorem zcode_X3_findFirstOptimal : Cond.code yX3_findFirstOptimal cX3_findFirstOptimal 1 none ∈ zB := zin1 233 rfl rfl
theorem zhnd_X3_findFirstOptimal : zHnd yX3_findFirstOptimal 0 := by unfold zHnd; decide +kernel
theorem zinst_X3_findFirstOptimal : Cond.instanceMethod yX3_findFirstOptimal ∈ zB := zin1 232 rfl rfl
theorem zsel_X3_findFirstOptimal : Cond.selects yX3_findFirstOptimal.cls yX3_findFirstOptimal yX3_findFirstOptimal ∈ zB := zin0 2 rfl rfl
theorem zcode_X3_leastWithCost : Cond.code yX3_leastWithCost cX3_leastWithCost 4 (some .int) ∈ zB := zin2 6 rfl rfl
theorem zhnd_X3_leastWithCost : zHnd yX3_leastWithCost 3 := by unfold zHnd; decide +kernel
theorem zinst_X3_leastWithCost : Cond.instanceMethod yX3_leastWithCost ∈ zB := zin2 5 rfl rfl
theorem zsel_X3_leastWithCost : Cond.selects yX3_leastWithCost.cls yX3_leastWithCost yX3_leastWithCost ∈ zB := zin0 4 rfl rfl
theorem zcode_X3_findPotentials : Cond.code yX3_findPotentials cX3_findPotentials 4 none ∈ zB := zin2 65 rfl rfl
theorem zhnd_X3_findPotentials : zHnd yX3_findPotentials 0 := by unfold zHnd; decide +kernel
theorem zinst_X3_findPotentials : Cond.instanceMethod yX3_findPotentials ∈ zB := zin2 64 rfl rfl
theorem zsel_X3_findPotentials : Cond.selects yX3_findPotentials.cls yX3_findPotentials yX3_findPotentials ∈ zB := zin0 5 rfl rfl
theorem zcode_X3_smallestRest : Cond.code yX3_smallestRest cX3_smallestRest 4 (some .int) ∈ zB := zin2 153 rfl rfl
theorem zhnd_X3_smallestRest : zHnd yX3_smallestRest 1 := by unfold zHnd; decide +kernel
theorem zinst_X3_smallestRest : Cond.instanceMethod yX3_smallestRest ∈ zB := zin2 152 rfl rfl
theorem zsel_X3_smallestRest : Cond.selects yX3_smallestRest.cls yX3_smallestRest yX3_smallestRest ∈ zB := zin0 11 rfl rfl
theorem zcode_X3_reducedBy : Cond.code yX3_reducedBy cX3_reducedBy 3 (some .int) ∈ zB := zin2 165 rfl rfl
theorem zhnd_X3_reducedBy : zHnd yX3_reducedBy 2 := by unfold zHnd; decide +kernel
theorem zinst_X3_reducedBy : Cond.instanceMethod yX3_reducedBy ∈ zB := zin2 164 rfl rfl
theorem zsel_X3_reducedBy : Cond.selects yX3_reducedBy.cls yX3_reducedBy yX3_reducedBy ∈ zB := zin0 14 rfl rfl
theorem zcode_X3_potentialsAddUp : Cond.code yX3_potentialsAddUp cX3_potentialsAddUp 3 (some .boolean) ∈ zB := zin2 157 rfl rfl
theorem zhnd_X3_potentialsAddUp : zHnd yX3_potentialsAddUp 0 := by unfold zHnd; decide +kernel
theorem zinst_X3_potentialsAddUp : Cond.instanceMethod yX3_potentialsAddUp ∈ zB := zin2 156 rfl rfl
theorem zsel_X3_potentialsAddUp : Cond.selects yX3_potentialsAddUp.cls yX3_potentialsAddUp yX3_potentialsAddUp ∈ zB := zin0 12 rfl rfl
theorem zcode_X3_reducedCostsHold : Cond.code yX3_reducedCostsHold cX3_reducedCostsHold 4 (some .boolean) ∈ zB := zin2 161 rfl rfl
theorem zhnd_X3_reducedCostsHold : zHnd yX3_reducedCostsHold 0 := by unfold zHnd; decide +kernel
theorem zinst_X3_reducedCostsHold : Cond.instanceMethod yX3_reducedCostsHold ∈ zB := zin2 160 rfl rfl
theorem zsel_X3_reducedCostsHold : Cond.selects yX3_reducedCostsHold.cls yX3_reducedCostsHold yX3_reducedCostsHold ∈ zB := zin0 13 rfl rfl
theorem zcode_X3_cellSplitHolds : Cond.code yX3_cellSplitHolds cX3_cellSplitHolds 2 (some .boolean) ∈ zB := zin2 169 rfl rfl
theorem zhnd_X3_cellSplitHolds : zHnd yX3_cellSplitHolds 0 := by unfold zHnd; decide +kernel
theorem zinst_X3_cellSplitHolds : Cond.instanceMethod yX3_cellSplitHolds ∈ zB := zin2 168 rfl rfl
theorem zsel_X3_cellSplitHolds : Cond.selects yX3_cellSplitHolds.cls yX3_cellSplitHolds yX3_cellSplitHolds ∈ zB := zin0 15 rfl rfl
theorem zcode_X3_bottleneckHolds : Cond.code yX3_bottleneckHolds cX3_bottleneckHolds 2 (some .boolean) ∈ zB := zin2 177 rfl rfl
theorem zhnd_X3_bottleneckHolds : zHnd yX3_bottleneckHolds 0 := by unfold zHnd; decide +kernel
theorem zinst_X3_bottleneckHolds : Cond.instanceMethod yX3_bottleneckHolds ∈ zB := zin2 176 rfl rfl
theorem zsel_X3_bottleneckHolds : Cond.selects yX3_bottleneckHolds.cls yX3_bottleneckHolds yX3_bottleneckHolds ∈ zB := zin0 16 rfl rfl
theorem zcode_X3_mixed : Cond.code yX3_mixed cX3_mixed 3 (some .long) ∈ zB := zin2 49 rfl rfl
theorem zhnd_X3_mixed : zHnd yX3_mixed 2 := by unfold zHnd; decide +kernel
theorem zstat_X3_mixed : Cond.static yX3_mixed ∈ zB := zin2 48 rfl rfl
theorem zcode_X3_mixedCosts : Cond.code yX3_mixedCosts cX3_mixedCosts 7 (some .long) ∈ zB := zin2 56 rfl rfl
theorem zhnd_X3_mixedCosts : zHnd yX3_mixedCosts 2 := by unfold zHnd; decide +kernel
theorem zstat_X3_mixedCosts : Cond.static yX3_mixedCosts ∈ zB := zin2 55 rfl rfl
theorem zcode_X3_factorial : Cond.code yX3_factorial cX3_factorial 3 (some .int) ∈ zB := zin3 160 rfl rfl
theorem zhnd_X3_factorial : zHnd yX3_factorial 1 := by unfold zHnd; decide +kernel
theorem zstat_X3_factorial : Cond.static yX3_factorial ∈ zB := zin3 159 rfl rfl
theorem zcode_X3_cellIndex : Cond.code yX3_cellIndex cX3_cellIndex 2 (some .int) ∈ zB := zin1 143 rfl rfl
theorem zhnd_X3_cellIndex : zHnd yX3_cellIndex 2 := by unfold zHnd; decide +kernel
theorem zstat_X3_cellIndex : Cond.static yX3_cellIndex ∈ zB := zin1 142 rfl rfl
theorem zcode_X4_init : Cond.code yX4_init cX4_init 1 none ∈ zB := zin4 2 rfl rfl
theorem zhnd_X4_init : zHnd yX4_init 0 := by unfold zHnd; decide +kernel
theorem zinst_X4_init : Cond.instanceMethod yX4_init ∈ zB := zin4 1 rfl rfl
theorem zcode_X4_thrown : Cond.code yX4_thrown cX4_thrown 1 (some .int) ∈ zB := zin4 80 rfl rfl
theorem zhnd_X4_thrown : zHnd yX4_thrown 0 := by unfold zHnd; decide +kernel
theorem zinst_X4_thrown : Cond.instanceMethod yX4_thrown ∈ zB := zin4 78 rfl rfl
theorem zsel_X4_thrown : Cond.selects yX4_thrown.cls yX4_thrown yX4_thrown ∈ zB := zin4 79 rfl rfl
theorem zcode_X4_isWrong : Cond.code yX4_isWrong cX4_isWrong 2 (some .boolean) ∈ zB := zin4 92 rfl rfl
theorem zhnd_X4_isWrong : zHnd yX4_isWrong 1 := by unfold zHnd; decide +kernel
theorem zinst_X4_isWrong : Cond.instanceMethod yX4_isWrong ∈ zB := zin4 91 rfl rfl
theorem zsel_X4_isWrong : Cond.selects yX4_isWrong.cls yX4_isWrong yX4_isWrong ∈ zB := zin0 23 rfl rfl
theorem zcode_X4_isIn : Cond.code yX4_isIn cX4_isIn 6 (some .boolean) ∈ zB := zin4 88 rfl rfl
theorem zhnd_X4_isIn : zHnd yX4_isIn 3 := by unfold zHnd; decide +kernel
theorem zstat_X4_isIn : Cond.static yX4_isIn ∈ zB := zin4 87 rfl rfl
theorem zcode_X4_isRow : Cond.code yX4_isRow cX4_isRow 2 (some .boolean) ∈ zB := zin4 100 rfl rfl
theorem zhnd_X4_isRow : zHnd yX4_isRow 1 := by unfold zHnd; decide +kernel
theorem zinst_X4_isRow : Cond.instanceMethod yX4_isRow ∈ zB := zin4 99 rfl rfl
theorem zsel_X4_isRow : Cond.selects yX4_isRow.cls yX4_isRow yX4_isRow ∈ zB := zin0 24 rfl rfl
theorem zcode_X4_isReal : Cond.code yX4_isReal cX4_isReal 2 (some .boolean) ∈ zB := zin4 104 rfl rfl
theorem zhnd_X4_isReal : zHnd yX4_isReal 1 := by unfold zHnd; decide +kernel
theorem zinst_X4_isReal : Cond.instanceMethod yX4_isReal ∈ zB := zin4 103 rfl rfl
theorem zsel_X4_isReal : Cond.selects yX4_isReal.cls yX4_isReal yX4_isReal ∈ zB := zin0 25 rfl rfl
theorem zcode_X4_cost : Cond.code yX4_cost cX4_cost 3 (some .int) ∈ zB := zin4 131 rfl rfl
theorem zhnd_X4_cost : zHnd yX4_cost 2 := by unfold zHnd; decide +kernel
theorem zinst_X4_cost : Cond.instanceMethod yX4_cost ∈ zB := zin4 130 rfl rfl
theorem zsel_X4_cost : Cond.selects yX4_cost.cls yX4_cost yX4_cost ∈ zB := zin0 27 rfl rfl
theorem zcode_X4_savedCost : Cond.code yX4_savedCost cX4_savedCost 3 (some .int) ∈ zB := zin4 188 rfl rfl
theorem zhnd_X4_savedCost : zHnd yX4_savedCost 2 := by unfold zHnd; decide +kernel
theorem zinst_X4_savedCost : Cond.instanceMethod yX4_savedCost ∈ zB := zin4 187 rfl rfl
theorem zsel_X4_savedCost : Cond.selects yX4_savedCost.cls yX4_savedCost yX4_savedCost ∈ zB := zin0 33 rfl rfl
theorem zcode_X4_factorial : Cond.code yX4_factorial cX4_factorial 1 (some .int) ∈ zB := zin4 228 rfl rfl
theorem zhnd_X4_factorial : zHnd yX4_factorial 1 := by unfold zHnd; decide +kernel
theorem zstat_X4_factorial : Cond.static yX4_factorial ∈ zB := zin4 227 rfl rfl
theorem zcode_X4_begin : Cond.code yX4_begin cX4_begin 2 none ∈ zB := zin4 225 rfl rfl
theorem zhnd_X4_begin : zHnd yX4_begin 0 := by unfold zHnd; decide +kernel
theorem zinst_X4_begin : Cond.instanceMethod yX4_begin ∈ zB := zin4 224 rfl rfl
theorem zsel_X4_begin : Cond.selects yX4_begin.cls yX4_begin yX4_begin ∈ zB := zin0 37 rfl rfl
theorem zcode_X4_goOn : Cond.code yX4_goOn cX4_goOn 6 none ∈ zB := zin5 0 rfl rfl
theorem zhnd_X4_goOn : zHnd yX4_goOn 1 := by unfold zHnd; decide +kernel
theorem zinst_X4_goOn : Cond.instanceMethod yX4_goOn ∈ zB := zin4 239 rfl rfl
theorem zsel_X4_goOn : Cond.selects yX4_goOn.cls yX4_goOn yX4_goOn ∈ zB := zin0 40 rfl rfl
theorem zcode_X4_exchange : Cond.code yX4_exchange cX4_exchange 4 none ∈ zB := zin5 4 rfl rfl
theorem zhnd_X4_exchange : zHnd yX4_exchange 2 := by unfold zHnd; decide +kernel
theorem zinst_X4_exchange : Cond.instanceMethod yX4_exchange ∈ zB := zin5 3 rfl rfl
theorem zsel_X4_exchange : Cond.selects yX4_exchange.cls yX4_exchange yX4_exchange ∈ zB := zin0 41 rfl rfl
theorem zcode_X4_sum : Cond.code yX4_sum cX4_sum 4 (some .int) ∈ zB := zin4 232 rfl rfl
theorem zhnd_X4_sum : zHnd yX4_sum 1 := by unfold zHnd; decide +kernel
theorem zinst_X4_sum : Cond.instanceMethod yX4_sum ∈ zB := zin4 231 rfl rfl
theorem zsel_X4_sum : Cond.selects yX4_sum.cls yX4_sum yX4_sum ∈ zB := zin0 38 rfl rfl
theorem zcode_X4_take : Cond.code yX4_take cX4_take 3 none ∈ zB := zin4 216 rfl rfl
theorem zhnd_X4_take : zHnd yX4_take 0 := by unfold zHnd; decide +kernel
theorem zinst_X4_take : Cond.instanceMethod yX4_take ∈ zB := zin4 215 rfl rfl
theorem zsel_X4_take : Cond.selects yX4_take.cls yX4_take yX4_take ∈ zB := zin0 35 rfl rfl
theorem zcode_X4_look : Cond.code yX4_look cX4_look 3 none ∈ zB := zin4 220 rfl rfl
theorem zhnd_X4_look : zHnd yX4_look 1 := by unfold zHnd; decide +kernel
theorem zinst_X4_look : Cond.instanceMethod yX4_look ∈ zB := zin4 219 rfl rfl
theorem zsel_X4_look : Cond.selects yX4_look.cls yX4_look yX4_look ∈ zB := zin0 36 rfl rfl
theorem zcode_X4_see : Cond.code yX4_see cX4_see 6 none ∈ zB := zin4 236 rfl rfl
theorem zhnd_X4_see : zHnd yX4_see 2 := by unfold zHnd; decide +kernel
theorem zinst_X4_see : Cond.instanceMethod yX4_see ∈ zB := zin4 235 rfl rfl
theorem zsel_X4_see : Cond.selects yX4_see.cls yX4_see yX4_see ∈ zB := zin0 39 rfl rfl
theorem zcode_X4_look_ : Cond.code yX4_look_ cX4_look_ 1 none ∈ zB := zin4 212 rfl rfl
theorem zhnd_X4_look_ : zHnd yX4_look_ 0 := by unfold zHnd; decide +kernel
theorem zinst_X4_look_ : Cond.instanceMethod yX4_look_ ∈ zB := zin4 211 rfl rfl
theorem zsel_X4_look_ : Cond.selects yX4_look_.cls yX4_look_ yX4_look_ ∈ zB := zin0 34 rfl rfl
theorem zcode_X4_without : Cond.code yX4_without cX4_without 5 (some .int) ∈ zB := zin5 48 rfl rfl
theorem zhnd_X4_without : zHnd yX4_without 2 := by unfold zHnd; decide +kernel
theorem zinst_X4_without : Cond.instanceMethod yX4_without ∈ zB := zin5 47 rfl rfl
theorem zsel_X4_without : Cond.selects yX4_without.cls yX4_without yX4_without ∈ zB := zin0 44 rfl rfl
theorem zcode_X4_findPotentials : Cond.code yX4_findPotentials cX4_findPotentials 4 none ∈ zB := zin5 24 rfl rfl
theorem zhnd_X4_findPotentials : zHnd yX4_findPotentials 0 := by unfold zHnd; decide +kernel
theorem zinst_X4_findPotentials : Cond.instanceMethod yX4_findPotentials ∈ zB := zin5 23 rfl rfl
theorem zsel_X4_findPotentials : Cond.selects yX4_findPotentials.cls yX4_findPotentials yX4_findPotentials ∈ zB := zin0 42 rfl rfl
theorem zcode_X4_reduced : Cond.code yX4_reduced cX4_reduced 3 (some .int) ∈ zB := zin5 36 rfl rfl
theorem zhnd_X4_reduced : zHnd yX4_reduced 2 := by unfold zHnd; decide +kernel
theorem zinst_X4_reduced : Cond.instanceMethod yX4_reduced ∈ zB := zin5 35 rfl rfl
theorem zsel_X4_reduced : Cond.selects yX4_reduced.cls yX4_reduced yX4_reduced ∈ zB := zin0 43 rfl rfl
theorem zcode_X4_resize : Cond.code yX4_resize cX4_resize 4 (some .int) ∈ zB := zin4 84 rfl rfl
theorem zhnd_X4_resize : zHnd yX4_resize 2 := by unfold zHnd; decide +kernel
theorem zinst_X4_resize : Cond.instanceMethod yX4_resize ∈ zB := zin4 82 rfl rfl
theorem zsel_X4_resize : Cond.selects yX4_resize.cls yX4_resize yX4_resize ∈ zB := zin4 83 rfl rfl
theorem zcode_X4_setCost : Cond.code yX4_setCost cX4_setCost 5 (some .int) ∈ zB := zin4 96 rfl rfl
theorem zhnd_X4_setCost : zHnd yX4_setCost 3 := by unfold zHnd; decide +kernel
theorem zinst_X4_setCost : Cond.instanceMethod yX4_setCost ∈ zB := zin4 94 rfl rfl
theorem zsel_X4_setCost : Cond.selects yX4_setCost.cls yX4_setCost yX4_setCost ∈ zB := zin4 95 rfl rfl
theorem zcode_X4_setRow : Cond.code yX4_setRow cX4_setRow 11 (some .int) ∈ zB := zin4 109 rfl rfl
theorem zhnd_X4_setRow : zHnd yX4_setRow 2 := by unfold zHnd; decide +kernel
theorem zinst_X4_setRow : Cond.instanceMethod yX4_setRow ∈ zB := zin4 107 rfl rfl
theorem zsel_X4_setRow : Cond.selects yX4_setRow.cls yX4_setRow yX4_setRow ∈ zB := zin4 108 rfl rfl
theorem zcode_X4_fill : Cond.code yX4_fill cX4_fill 7 (some .int) ∈ zB := zin4 114 rfl rfl
theorem zhnd_X4_fill : zHnd yX4_fill 2 := by unfold zHnd; decide +kernel
theorem zinst_X4_fill : Cond.instanceMethod yX4_fill ∈ zB := zin4 112 rfl rfl
theorem zsel_X4_fill : Cond.selects yX4_fill.cls yX4_fill yX4_fill ∈ zB := zin4 113 rfl rfl
theorem zcode_X4_forbiddenMany : Cond.code yX4_forbiddenMany cX4_forbiddenMany 4 (some .int) ∈ zB := zin4 123 rfl rfl
theorem zhnd_X4_forbiddenMany : zHnd yX4_forbiddenMany 0 := by unfold zHnd; decide +kernel
theorem zinst_X4_forbiddenMany : Cond.instanceMethod yX4_forbiddenMany ∈ zB := zin4 122 rfl rfl
theorem zsel_X4_forbiddenMany : Cond.selects yX4_forbiddenMany.cls yX4_forbiddenMany yX4_forbiddenMany ∈ zB := zin0 26 rfl rfl
theorem zcode_X4_setForbidden : Cond.code yX4_setForbidden cX4_setForbidden 4 (some .int) ∈ zB := zin4 119 rfl rfl
theorem zhnd_X4_setForbidden : zHnd yX4_setForbidden 3 := by unfold zHnd; decide +kernel
theorem zinst_X4_setForbidden : Cond.instanceMethod yX4_setForbidden ∈ zB := zin4 117 rfl rfl
theorem zsel_X4_setForbidden : Cond.selects yX4_setForbidden.cls yX4_setForbidden yX4_setForbidden ∈ zB := zin4 118 rfl rfl
theorem zcode_X4_costAt : Cond.code yX4_costAt cX4_costAt 3 (some .int) ∈ zB := zin4 127 rfl rfl
theorem zhnd_X4_costAt : zHnd yX4_costAt 2 := by unfold zHnd; decide +kernel
theorem zinst_X4_costAt : Cond.instanceMethod yX4_costAt ∈ zB := zin4 125 rfl rfl
theorem zsel_X4_costAt : Cond.selects yX4_costAt.cls yX4_costAt yX4_costAt ∈ zB := zin4 126 rfl rfl
theorem zcode_X4_rowSum : Cond.code yX4_rowSum cX4_rowSum 4 (some .int) ∈ zB := zin4 144 rfl rfl
theorem zhnd_X4_rowSum : zHnd yX4_rowSum 1 := by unfold zHnd; decide +kernel
theorem zinst_X4_rowSum : Cond.instanceMethod yX4_rowSum ∈ zB := zin4 143 rfl rfl
theorem zsel_X4_rowSum : Cond.selects yX4_rowSum.cls yX4_rowSum yX4_rowSum ∈ zB := zin0 29 rfl rfl
theorem zcode_X4_columnSum : Cond.code yX4_columnSum cX4_columnSum 4 (some .int) ∈ zB := zin4 152 rfl rfl
theorem zhnd_X4_columnSum : zHnd yX4_columnSum 1 := by unfold zHnd; decide +kernel
theorem zinst_X4_columnSum : Cond.instanceMethod yX4_columnSum ∈ zB := zin4 151 rfl rfl
theorem zsel_X4_columnSum : Cond.selects yX4_columnSum.cls yX4_columnSum yX4_columnSum ∈ zB := zin0 30 rfl rfl
theorem zcode_X4_takes : Cond.code yX4_takes cX4_takes 4 (some .boolean) ∈ zB := zin4 140 rfl rfl
theorem zhnd_X4_takes : zHnd yX4_takes 3 := by unfold zHnd; decide +kernel
theorem zinst_X4_takes : Cond.instanceMethod yX4_takes ∈ zB := zin4 139 rfl rfl
theorem zsel_X4_takes : Cond.selects yX4_takes.cls yX4_takes yX4_takes ∈ zB := zin0 28 rfl rfl
theorem zcode_X4_addToRow : Cond.code yX4_addToRow cX4_addToRow 5 (some .int) ∈ zB := zin4 135 rfl rfl
theorem zhnd_X4_addToRow : zHnd yX4_addToRow 2 := by unfold zHnd; decide +kernel
theorem zinst_X4_addToRow : Cond.instanceMethod yX4_addToRow ∈ zB := zin4 133 rfl rfl
theorem zsel_X4_addToRow : Cond.selects yX4_addToRow.cls yX4_addToRow yX4_addToRow ∈ zB := zin4 134 rfl rfl
theorem zcode_X4_addToColumn : Cond.code yX4_addToColumn cX4_addToColumn 5 (some .int) ∈ zB := zin4 148 rfl rfl
theorem zhnd_X4_addToColumn : zHnd yX4_addToColumn 2 := by unfold zHnd; decide +kernel
theorem zinst_X4_addToColumn : Cond.instanceMethod yX4_addToColumn ∈ zB := zin4 146 rfl rfl
theorem zsel_X4_addToColumn : Cond.selects yX4_addToColumn.cls yX4_addToColumn yX4_addToColumn ∈ zB := zin4 147 rfl rfl
theorem zcode_X4_exchangeCells : Cond.code yX4_exchangeCells cX4_exchangeCells 5 none ∈ zB := zin4 160 rfl rfl
theorem zhnd_X4_exchangeCells : zHnd yX4_exchangeCells 2 := by unfold zHnd; decide +kernel
theorem zinst_X4_exchangeCells : Cond.instanceMethod yX4_exchangeCells ∈ zB := zin4 159 rfl rfl
theorem zsel_X4_exchangeCells : Cond.selects yX4_exchangeCells.cls yX4_exchangeCells yX4_exchangeCells ∈ zB := zin0 31 rfl rfl
theorem zcode_X4_swapRows : Cond.code yX4_swapRows cX4_swapRows 4 (some .int) ∈ zB := zin4 156 rfl rfl
theorem zhnd_X4_swapRows : zHnd yX4_swapRows 2 := by unfold zHnd; decide +kernel
theorem zinst_X4_swapRows : Cond.instanceMethod yX4_swapRows ∈ zB := zin4 154 rfl rfl
theorem zsel_X4_swapRows : Cond.selects yX4_swapRows.cls yX4_swapRows yX4_swapRows ∈ zB := zin4 155 rfl rfl
theorem zcode_X4_swapColumns : Cond.code yX4_swapColumns cX4_swapColumns 4 (some .int) ∈ zB := zin4 164 rfl rfl
theorem zhnd_X4_swapColumns : zHnd yX4_swapColumns 2 := by unfold zHnd; decide +kernel
theorem zinst_X4_swapColumns : Cond.instanceMethod yX4_swapColumns ∈ zB := zin4 162 rfl rfl
theorem zsel_X4_swapColumns : Cond.selects yX4_swapColumns.cls yX4_swapColumns yX4_swapColumns ∈ zB := zin4 163 rfl rfl
theorem zcode_X4_transpose : Cond.code yX4_transpose cX4_transpose 3 (some .int) ∈ zB := zin4 168 rfl rfl
theorem zhnd_X4_transpose : zHnd yX4_transpose 0 := by unfold zHnd; decide +kernel
theorem zinst_X4_transpose : Cond.instanceMethod yX4_transpose ∈ zB := zin4 166 rfl rfl
theorem zsel_X4_transpose : Cond.selects yX4_transpose.cls yX4_transpose yX4_transpose ∈ zB := zin4 167 rfl rfl
theorem zcode_X4_total : Cond.code yX4_total cX4_total 3 (some .int) ∈ zB := zin4 176 rfl rfl
theorem zhnd_X4_total : zHnd yX4_total 0 := by unfold zHnd; decide +kernel
theorem zinst_X4_total : Cond.instanceMethod yX4_total ∈ zB := zin4 175 rfl rfl
theorem zsel_X4_total : Cond.selects yX4_total.cls yX4_total yX4_total ∈ zB := zin0 32 rfl rfl
theorem zcode_X4_save : Cond.code yX4_save cX4_save 2 (some .int) ∈ zB := zin4 172 rfl rfl
theorem zhnd_X4_save : zHnd yX4_save 0 := by unfold zHnd; decide +kernel
theorem zinst_X4_save : Cond.instanceMethod yX4_save ∈ zB := zin4 170 rfl rfl
theorem zsel_X4_save : Cond.selects yX4_save.cls yX4_save yX4_save ∈ zB := zin4 171 rfl rfl
theorem zcode_X4_restore : Cond.code yX4_restore cX4_restore 2 (some .int) ∈ zB := zin4 180 rfl rfl
theorem zhnd_X4_restore : zHnd yX4_restore 0 := by unfold zHnd; decide +kernel
theorem zinst_X4_restore : Cond.instanceMethod yX4_restore ∈ zB := zin4 178 rfl rfl
theorem zsel_X4_restore : Cond.selects yX4_restore.cls yX4_restore yX4_restore ∈ zB := zin4 179 rfl rfl
theorem zcode_X4_distance : Cond.code yX4_distance cX4_distance 5 (some .int) ∈ zB := zin4 184 rfl rfl
theorem zhnd_X4_distance : zHnd yX4_distance 0 := by unfold zHnd; decide +kernel
theorem zinst_X4_distance : Cond.instanceMethod yX4_distance ∈ zB := zin4 182 rfl rfl
theorem zsel_X4_distance : Cond.selects yX4_distance.cls yX4_distance yX4_distance ∈ zB := zin4 183 rfl rfl
theorem zcode_X4_rows : Cond.code yX4_rows cX4_rows 1 (some .int) ∈ zB := zin4 192 rfl rfl
theorem zhnd_X4_rows : zHnd yX4_rows 0 := by unfold zHnd; decide +kernel
theorem zinst_X4_rows : Cond.instanceMethod yX4_rows ∈ zB := zin4 190 rfl rfl
theorem zsel_X4_rows : Cond.selects yX4_rows.cls yX4_rows yX4_rows ∈ zB := zin4 191 rfl rfl
theorem zcode_X4_columns : Cond.code yX4_columns cX4_columns 1 (some .int) ∈ zB := zin4 196 rfl rfl
theorem zhnd_X4_columns : zHnd yX4_columns 0 := by unfold zHnd; decide +kernel
theorem zinst_X4_columns : Cond.instanceMethod yX4_columns ∈ zB := zin4 194 rfl rfl
theorem zsel_X4_columns : Cond.selects yX4_columns.cls yX4_columns yX4_columns ∈ zB := zin4 195 rfl rfl
theorem zcode_X4_forbiddenCount : Cond.code yX4_forbiddenCount cX4_forbiddenCount 1 (some .int) ∈ zB := zin4 200 rfl rfl
theorem zhnd_X4_forbiddenCount : zHnd yX4_forbiddenCount 0 := by unfold zHnd; decide +kernel
theorem zinst_X4_forbiddenCount : Cond.instanceMethod yX4_forbiddenCount ∈ zB := zin4 198 rfl rfl
theorem zsel_X4_forbiddenCount : Cond.selects yX4_forbiddenCount.cls yX4_forbiddenCount yX4_forbiddenCount ∈ zB := zin4 199 rfl rfl
theorem zcode_X4_totalCost : Cond.code yX4_totalCost cX4_totalCost 1 (some .int) ∈ zB := zin4 204 rfl rfl
theorem zhnd_X4_totalCost : zHnd yX4_totalCost 0 := by unfold zHnd; decide +kernel
theorem zinst_X4_totalCost : Cond.instanceMethod yX4_totalCost ∈ zB := zin4 202 rfl rfl
theorem zsel_X4_totalCost : Cond.selects yX4_totalCost.cls yX4_totalCost yX4_totalCost ∈ zB := zin4 203 rfl rfl
theorem zcode_X4_minimum : Cond.code yX4_minimum cX4_minimum 1 (some .int) ∈ zB := zin4 208 rfl rfl
theorem zhnd_X4_minimum : zHnd yX4_minimum 0 := by unfold zHnd; decide +kernel
theorem zinst_X4_minimum : Cond.instanceMethod yX4_minimum ∈ zB := zin4 206 rfl rfl
theorem zsel_X4_minimum : Cond.selects yX4_minimum.cls yX4_minimum yX4_minimum ∈ zB := zin4 207 rfl rfl
theorem zcode_X4_savedMinimum : Cond.code yX4_savedMinimum cX4_savedMinimum 3 (some .int) ∈ zB := zin5 8 rfl rfl
theorem zhnd_X4_savedMinimum : zHnd yX4_savedMinimum 0 := by unfold zHnd; decide +kernel
theorem zinst_X4_savedMinimum : Cond.instanceMethod yX4_savedMinimum ∈ zB := zin5 6 rfl rfl
theorem zsel_X4_savedMinimum : Cond.selects yX4_savedMinimum.cls yX4_savedMinimum yX4_savedMinimum ∈ zB := zin5 7 rfl rfl
theorem zcode_X4_assigned : Cond.code yX4_assigned cX4_assigned 2 (some .int) ∈ zB := zin5 12 rfl rfl
theorem zhnd_X4_assigned : zHnd yX4_assigned 1 := by unfold zHnd; decide +kernel
theorem zinst_X4_assigned : Cond.instanceMethod yX4_assigned ∈ zB := zin5 10 rfl rfl
theorem zsel_X4_assigned : Cond.selects yX4_assigned.cls yX4_assigned yX4_assigned ∈ zB := zin5 11 rfl rfl
theorem zcode_X4_optimalCount : Cond.code yX4_optimalCount cX4_optimalCount 1 (some .int) ∈ zB := zin5 16 rfl rfl
theorem zhnd_X4_optimalCount : zHnd yX4_optimalCount 0 := by unfold zHnd; decide +kernel
theorem zinst_X4_optimalCount : Cond.instanceMethod yX4_optimalCount ∈ zB := zin5 14 rfl rfl
theorem zsel_X4_optimalCount : Cond.selects yX4_optimalCount.cls yX4_optimalCount yX4_optimalCount ∈ zB := zin5 15 rfl rfl
theorem zcode_X4_rowPotential : Cond.code yX4_rowPotential cX4_rowPotential 2 (some .int) ∈ zB := zin5 20 rfl rfl
theorem zhnd_X4_rowPotential : zHnd yX4_rowPotential 1 := by unfold zHnd; decide +kernel
theorem zinst_X4_rowPotential : Cond.instanceMethod yX4_rowPotential ∈ zB := zin5 18 rfl rfl
theorem zsel_X4_rowPotential : Cond.selects yX4_rowPotential.cls yX4_rowPotential yX4_rowPotential ∈ zB := zin5 19 rfl rfl
theorem zcode_X4_columnPotential : Cond.code yX4_columnPotential cX4_columnPotential 2 (some .int) ∈ zB := zin5 28 rfl rfl
theorem zhnd_X4_columnPotential : zHnd yX4_columnPotential 1 := by unfold zHnd; decide +kernel
theorem zinst_X4_columnPotential : Cond.instanceMethod yX4_columnPotential ∈ zB := zin5 26 rfl rfl
theorem zsel_X4_columnPotential : Cond.selects yX4_columnPotential.cls yX4_columnPotential yX4_columnPotential ∈ zB := zin5 27 rfl rfl
theorem zcode_X4_reducedCost : Cond.code yX4_reducedCost cX4_reducedCost 3 (some .int) ∈ zB := zin5 32 rfl rfl
theorem zhnd_X4_reducedCost : zHnd yX4_reducedCost 2 := by unfold zHnd; decide +kernel
theorem zinst_X4_reducedCost : Cond.instanceMethod yX4_reducedCost ∈ zB := zin5 30 rfl rfl
theorem zsel_X4_reducedCost : Cond.selects yX4_reducedCost.cls yX4_reducedCost yX4_reducedCost ∈ zB := zin5 31 rfl rfl
theorem zcode_X4_minimumWith : Cond.code yX4_minimumWith cX4_minimumWith 3 (some .int) ∈ zB := zin5 40 rfl rfl
theorem zhnd_X4_minimumWith : zHnd yX4_minimumWith 2 := by unfold zHnd; decide +kernel
theorem zinst_X4_minimumWith : Cond.instanceMethod yX4_minimumWith ∈ zB := zin5 38 rfl rfl
theorem zsel_X4_minimumWith : Cond.selects yX4_minimumWith.cls yX4_minimumWith yX4_minimumWith ∈ zB := zin5 39 rfl rfl
theorem zcode_X4_minimumWithout : Cond.code yX4_minimumWithout cX4_minimumWithout 3 (some .int) ∈ zB := zin5 44 rfl rfl
theorem zhnd_X4_minimumWithout : zHnd yX4_minimumWithout 2 := by unfold zHnd; decide +kernel
theorem zinst_X4_minimumWithout : Cond.instanceMethod yX4_minimumWithout ∈ zB := zin5 42 rfl rfl
theorem zsel_X4_minimumWithout : Cond.selects yX4_minimumWithout.cls yX4_minimumWithout yX4_minimumWithout ∈ zB := zin5 43 rfl rfl
theorem zcode_X4_minimumIfCost : Cond.code yX4_minimumIfCost cX4_minimumIfCost 4 (some .int) ∈ zB := zin5 52 rfl rfl
theorem zhnd_X4_minimumIfCost : zHnd yX4_minimumIfCost 3 := by unfold zHnd; decide +kernel
theorem zinst_X4_minimumIfCost : Cond.instanceMethod yX4_minimumIfCost ∈ zB := zin5 50 rfl rfl
theorem zsel_X4_minimumIfCost : Cond.selects yX4_minimumIfCost.cls yX4_minimumIfCost yX4_minimumIfCost ∈ zB := zin5 51 rfl rfl
theorem zcode_X4_secondBest : Cond.code yX4_secondBest cX4_secondBest 1 (some .int) ∈ zB := zin5 56 rfl rfl
theorem zhnd_X4_secondBest : zHnd yX4_secondBest 0 := by unfold zHnd; decide +kernel
theorem zinst_X4_secondBest : Cond.instanceMethod yX4_secondBest ∈ zB := zin5 54 rfl rfl
theorem zsel_X4_secondBest : Cond.selects yX4_secondBest.cls yX4_secondBest yX4_secondBest ∈ zB := zin5 55 rfl rfl
theorem zcode_X4_maximum : Cond.code yX4_maximum cX4_maximum 1 (some .int) ∈ zB := zin5 60 rfl rfl
theorem zhnd_X4_maximum : zHnd yX4_maximum 0 := by unfold zHnd; decide +kernel
theorem zinst_X4_maximum : Cond.instanceMethod yX4_maximum ∈ zB := zin5 58 rfl rfl
theorem zsel_X4_maximum : Cond.selects yX4_maximum.cls yX4_maximum yX4_maximum ∈ zB := zin5 59 rfl rfl
theorem zcode_X4_bottleneck : Cond.code yX4_bottleneck cX4_bottleneck 1 (some .int) ∈ zB := zin5 64 rfl rfl
theorem zhnd_X4_bottleneck : zHnd yX4_bottleneck 0 := by unfold zHnd; decide +kernel
theorem zinst_X4_bottleneck : Cond.instanceMethod yX4_bottleneck ∈ zB := zin5 62 rfl rfl
theorem zsel_X4_bottleneck : Cond.selects yX4_bottleneck.cls yX4_bottleneck yX4_bottleneck ∈ zB := zin5 63 rfl rfl
theorem zcode_X4_fits : Cond.code yX4_fits cX4_fits 2 (some .boolean) ∈ zB := zin5 68 rfl rfl
theorem zhnd_X4_fits : zHnd yX4_fits 1 := by unfold zHnd; decide +kernel
theorem zinst_X4_fits : Cond.instanceMethod yX4_fits ∈ zB := zin5 66 rfl rfl
theorem zsel_X4_fits : Cond.selects yX4_fits.cls yX4_fits yX4_fits ∈ zB := zin5 67 rfl rfl
theorem zcode_X4_countWithin : Cond.code yX4_countWithin cX4_countWithin 4 (some .int) ∈ zB := zin5 73 rfl rfl
theorem zhnd_X4_countWithin : zHnd yX4_countWithin 1 := by unfold zHnd; decide +kernel
theorem zinst_X4_countWithin : Cond.instanceMethod yX4_countWithin ∈ zB := zin5 71 rfl rfl
theorem zsel_X4_countWithin : Cond.selects yX4_countWithin.cls yX4_countWithin yX4_countWithin ∈ zB := zin5 72 rfl rfl
theorem zcode_X4_sumOf : Cond.code yX4_sumOf cX4_sumOf 7 (some .int) ∈ zB := zin5 78 rfl rfl
theorem zhnd_X4_sumOf : zHnd yX4_sumOf 1 := by unfold zHnd; decide +kernel
theorem zinst_X4_sumOf : Cond.instanceMethod yX4_sumOf ∈ zB := zin5 76 rfl rfl
theorem zsel_X4_sumOf : Cond.selects yX4_sumOf.cls yX4_sumOf yX4_sumOf ∈ zB := zin5 77 rfl rfl
theorem zcode_X4_startEnumeration : Cond.code yX4_startEnumeration cX4_startEnumeration 1 (some .int) ∈ zB := zin5 82 rfl rfl
theorem zhnd_X4_startEnumeration : zHnd yX4_startEnumeration 0 := by unfold zHnd; decide +kernel
theorem zinst_X4_startEnumeration : Cond.instanceMethod yX4_startEnumeration ∈ zB := zin5 80 rfl rfl
theorem zsel_X4_startEnumeration : Cond.selects yX4_startEnumeration.cls yX4_startEnumeration yX4_startEnumeration ∈ zB := zin5 81 rfl rfl
theorem zcode_X4_nextSum : Cond.code yX4_nextSum cX4_nextSum 7 (some .int) ∈ zB := zin5 86 rfl rfl
theorem zhnd_X4_nextSum : zHnd yX4_nextSum 0 := by unfold zHnd; decide +kernel
theorem zinst_X4_nextSum : Cond.instanceMethod yX4_nextSum ∈ zB := zin5 84 rfl rfl
theorem zsel_X4_nextSum : Cond.selects yX4_nextSum.cls yX4_nextSum yX4_nextSum ∈ zB := zin5 85 rfl rfl
theorem zcode_X4_currentColumn : Cond.code yX4_currentColumn cX4_currentColumn 2 (some .int) ∈ zB := zin5 90 rfl rfl
theorem zhnd_X4_currentColumn : zHnd yX4_currentColumn 1 := by unfold zHnd; decide +kernel
theorem zinst_X4_currentColumn : Cond.instanceMethod yX4_currentColumn ∈ zB := zin5 88 rfl rfl
theorem zsel_X4_currentColumn : Cond.selects yX4_currentColumn.cls yX4_currentColumn yX4_currentColumn ∈ zB := zin5 89 rfl rfl
theorem zcode_X4_stepsMade : Cond.code yX4_stepsMade cX4_stepsMade 1 (some .int) ∈ zB := zin5 94 rfl rfl
theorem zhnd_X4_stepsMade : zHnd yX4_stepsMade 0 := by unfold zHnd; decide +kernel
theorem zinst_X4_stepsMade : Cond.instanceMethod yX4_stepsMade ∈ zB := zin5 92 rfl rfl
theorem zsel_X4_stepsMade : Cond.selects yX4_stepsMade.cls yX4_stepsMade yX4_stepsMade ∈ zB := zin5 93 rfl rfl
theorem zcode_X4_meanCost : Cond.code yX4_meanCost cX4_meanCost 1 (some .double) ∈ zB := zin5 98 rfl rfl
theorem zhnd_X4_meanCost : zHnd yX4_meanCost 0 := by unfold zHnd; decide +kernel
theorem zinst_X4_meanCost : Cond.instanceMethod yX4_meanCost ∈ zB := zin5 96 rfl rfl
theorem zsel_X4_meanCost : Cond.selects yX4_meanCost.cls yX4_meanCost yX4_meanCost ∈ zB := zin5 97 rfl rfl
theorem zcode_X4_shareOf : Cond.code yX4_shareOf cX4_shareOf 2 (some .float) ∈ zB := zin5 102 rfl rfl
theorem zhnd_X4_shareOf : zHnd yX4_shareOf 1 := by unfold zHnd; decide +kernel
theorem zinst_X4_shareOf : Cond.instanceMethod yX4_shareOf ∈ zB := zin5 100 rfl rfl
theorem zsel_X4_shareOf : Cond.selects yX4_shareOf.cls yX4_shareOf yX4_shareOf ∈ zB := zin5 101 rfl rfl
theorem zcode_X4_checksum : Cond.code yX4_checksum cX4_checksum 5 (some .long) ∈ zB := zin5 106 rfl rfl
theorem zhnd_X4_checksum : zHnd yX4_checksum 0 := by unfold zHnd; decide +kernel
theorem zinst_X4_checksum : Cond.instanceMethod yX4_checksum ∈ zB := zin5 104 rfl rfl
theorem zsel_X4_checksum : Cond.selects yX4_checksum.cls yX4_checksum yX4_checksum ∈ zB := zin5 105 rfl rfl
theorem zcode_X4_isSound : Cond.code yX4_isSound cX4_isSound 5 (some .boolean) ∈ zB := zin5 112 rfl rfl
theorem zhnd_X4_isSound : zHnd yX4_isSound 0 := by unfold zHnd; decide +kernel
theorem zinst_X4_isSound : Cond.instanceMethod yX4_isSound ∈ zB := zin5 110 rfl rfl
theorem zsel_X4_isSound : Cond.selects yX4_isSound.cls yX4_isSound yX4_isSound ∈ zB := zin5 111 rfl rfl
theorem zcode_J6_bitCount_0f7a4 : Cond.code yJ6_bitCount_0f7a4 cJ6_bitCount_0f7a4 1 (some .int) ∈ zB := zin1 206 rfl rfl
theorem zhnd_J6_bitCount_0f7a4 : zHnd yJ6_bitCount_0f7a4 1 := by unfold zHnd; decide +kernel
theorem zstat_J6_bitCount_0f7a4 : Cond.static yJ6_bitCount_0f7a4 ∈ zB := zin1 205 rfl rfl
theorem zcode_J9_abs_0f7a4 : Cond.code yJ9_abs_0f7a4 cJ9_abs_0f7a4 1 (some .int) ∈ zB := zin1 163 rfl rfl
theorem zhnd_J9_abs_0f7a4 : zHnd yJ9_abs_0f7a4 1 := by unfold zHnd; decide +kernel
theorem zstat_J9_abs_0f7a4 : Cond.static yJ9_abs_0f7a4 ∈ zB := zin1 162 rfl rfl
theorem zcode_J9_max_7cf53 : Cond.code yJ9_max_7cf53 cJ9_max_7cf53 2 (some .int) ∈ zB := zin2 23 rfl rfl
theorem zhnd_J9_max_7cf53 : zHnd yJ9_max_7cf53 2 := by unfold zHnd; decide +kernel
theorem zstat_J9_max_7cf53 : Cond.static yJ9_max_7cf53 ∈ zB := zin2 22 rfl rfl
theorem zcode_J9_min_7cf53 : Cond.code yJ9_min_7cf53 cJ9_min_7cf53 2 (some .int) ∈ zB := zin2 10 rfl rfl
theorem zhnd_J9_min_7cf53 : zHnd yJ9_min_7cf53 2 := by unfold zHnd; decide +kernel
theorem zstat_J9_min_7cf53 : Cond.static yJ9_min_7cf53 ∈ zB := zin2 9 rfl rfl
theorem zcode_L_resize : Cond.codeWith yL_resize cL_resize 5 (some .int) [(0, 10, 13, 13)] ∈ zB := zin2 200 rfl rfl
theorem zhnd_L_resize : zHnd yL_resize 4 := by unfold zHnd; decide +kernel
theorem zstat_L_resize : Cond.static yL_resize ∈ zB := zin2 199 rfl rfl
theorem zcode_L_setCost : Cond.codeWith yL_setCost cL_setCost 6 (some .int) [(0, 12, 15, 19), (0, 12, 19, 13)] ∈ zB := zin2 212 rfl rfl
theorem zhnd_L_setCost : zHnd yL_setCost 5 := by unfold zHnd; decide +kernel
theorem zstat_L_setCost : Cond.static yL_setCost ∈ zB := zin2 211 rfl rfl
theorem zcode_L_setRow : Cond.codeWith yL_setRow cL_setRow 6 (some .int) [(0, 11, 14, 19), (0, 11, 18, 13)] ∈ zB := zin2 233 rfl rfl
theorem zhnd_L_setRow : zHnd yL_setRow 4 := by unfold zHnd; decide +kernel
theorem zstat_L_setRow : Cond.static yL_setRow ∈ zB := zin2 232 rfl rfl
theorem zcode_L_fill : Cond.codeWith yL_fill cL_fill 5 (some .int) [(0, 10, 13, 13)] ∈ zB := zin3 5 rfl rfl
theorem zhnd_L_fill : zHnd yL_fill 4 := by unfold zHnd; decide +kernel
theorem zstat_L_fill : Cond.static yL_fill ∈ zB := zin3 4 rfl rfl
theorem zcode_L_setForbidden : Cond.codeWith yL_setForbidden cL_setForbidden 6 (some .int) [(0, 12, 15, 19)] ∈ zB := zin3 16 rfl rfl
theorem zhnd_L_setForbidden : zHnd yL_setForbidden 5 := by unfold zHnd; decide +kernel
theorem zstat_L_setForbidden : Cond.static yL_setForbidden ∈ zB := zin3 15 rfl rfl
theorem zcode_L_costAt : Cond.codeWith yL_costAt cL_costAt 5 (some .int) [(0, 10, 13, 19)] ∈ zB := zin3 23 rfl rfl
theorem zhnd_L_costAt : zHnd yL_costAt 4 := by unfold zHnd; decide +kernel
theorem zstat_L_costAt : Cond.static yL_costAt ∈ zB := zin3 22 rfl rfl
theorem zcode_L_addToRow : Cond.codeWith yL_addToRow cL_addToRow 5 (some .int) [(0, 10, 13, 19), (0, 10, 17, 13), (0, 10, 21, 38)] ∈ zB := zin3 30 rfl rfl
theorem zhnd_L_addToRow : zHnd yL_addToRow 4 := by unfold zHnd; decide +kernel
theorem zstat_L_addToRow : Cond.static yL_addToRow ∈ zB := zin3 29 rfl rfl
theorem zcode_L_addToColumn : Cond.codeWith yL_addToColumn cL_addToColumn 5 (some .int) [(0, 10, 13, 19), (0, 10, 17, 13), (0, 10, 21, 38)] ∈ zB := zin3 65 rfl rfl
theorem zhnd_L_addToColumn : zHnd yL_addToColumn 4 := by unfold zHnd; decide +kernel
theorem zstat_L_addToColumn : Cond.static yL_addToColumn ∈ zB := zin3 64 rfl rfl
theorem zcode_L_swapRows : Cond.codeWith yL_swapRows cL_swapRows 5 (some .int) [(0, 10, 13, 19)] ∈ zB := zin3 76 rfl rfl
theorem zhnd_L_swapRows : zHnd yL_swapRows 4 := by unfold zHnd; decide +kernel
theorem zstat_L_swapRows : Cond.static yL_swapRows ∈ zB := zin3 75 rfl rfl
theorem zcode_L_swapColumns : Cond.codeWith yL_swapColumns cL_swapColumns 5 (some .int) [(0, 10, 13, 19)] ∈ zB := zin3 89 rfl rfl
theorem zhnd_L_swapColumns : zHnd yL_swapColumns 4 := by unfold zHnd; decide +kernel
theorem zstat_L_swapColumns : Cond.static yL_swapColumns ∈ zB := zin3 88 rfl rfl
theorem zcode_L_transpose : Cond.codeWith yL_transpose cL_transpose 3 (some .int) [(0, 8, 11, 38)] ∈ zB := zin3 96 rfl rfl
theorem zhnd_L_transpose : zHnd yL_transpose 2 := by unfold zHnd; decide +kernel
theorem zstat_L_transpose : Cond.static yL_transpose ∈ zB := zin3 95 rfl rfl
theorem zcode_L_assigned : Cond.codeWith yL_assigned cL_assigned 4 (some .int) [(0, 9, 12, 19)] ∈ zB := zin3 103 rfl rfl
theorem zhnd_L_assigned : zHnd yL_assigned 3 := by unfold zHnd; decide +kernel
theorem zstat_L_assigned : Cond.static yL_assigned ∈ zB := zin3 102 rfl rfl
theorem zcode_L_rowPotential : Cond.codeWith yL_rowPotential cL_rowPotential 4 (some .int) [(0, 9, 12, 19)] ∈ zB := zin3 110 rfl rfl
theorem zhnd_L_rowPotential : zHnd yL_rowPotential 3 := by unfold zHnd; decide +kernel
theorem zstat_L_rowPotential : Cond.static yL_rowPotential ∈ zB := zin3 109 rfl rfl
theorem zcode_L_columnPotential : Cond.codeWith yL_columnPotential cL_columnPotential 4 (some .int) [(0, 9, 12, 19)] ∈ zB := zin3 117 rfl rfl
theorem zhnd_L_columnPotential : zHnd yL_columnPotential 3 := by unfold zHnd; decide +kernel
theorem zstat_L_columnPotential : Cond.static yL_columnPotential ∈ zB := zin3 116 rfl rfl
theorem zcode_L_reducedCost : Cond.codeWith yL_reducedCost cL_reducedCost 5 (some .int) [(0, 10, 13, 19)] ∈ zB := zin3 124 rfl rfl
theorem zhnd_L_reducedCost : zHnd yL_reducedCost 4 := by unfold zHnd; decide +kernel
theorem zstat_L_reducedCost : Cond.static yL_reducedCost ∈ zB := zin3 123 rfl rfl
theorem zcode_L_minimumWith : Cond.codeWith yL_minimumWith cL_minimumWith 5 (some .int) [(0, 10, 13, 19)] ∈ zB := zin3 131 rfl rfl
theorem zhnd_L_minimumWith : zHnd yL_minimumWith 4 := by unfold zHnd; decide +kernel
theorem zstat_L_minimumWith : Cond.static yL_minimumWith ∈ zB := zin3 130 rfl rfl
theorem zcode_L_minimumWithout : Cond.codeWith yL_minimumWithout cL_minimumWithout 5 (some .int) [(0, 10, 13, 19)] ∈ zB := zin3 135 rfl rfl
theorem zhnd_L_minimumWithout : zHnd yL_minimumWithout 4 := by unfold zHnd; decide +kernel
theorem zstat_L_minimumWithout : Cond.static yL_minimumWithout ∈ zB := zin3 134 rfl rfl
theorem zcode_L_minimumIfCost : Cond.codeWith yL_minimumIfCost cL_minimumIfCost 6 (some .int) [(0, 12, 15, 19), (0, 12, 19, 13)] ∈ zB := zin3 139 rfl rfl
theorem zhnd_L_minimumIfCost : zHnd yL_minimumIfCost 5 := by unfold zHnd; decide +kernel
theorem zstat_L_minimumIfCost : Cond.static yL_minimumIfCost ∈ zB := zin3 138 rfl rfl
theorem zcode_L_fits : Cond.codeWith yL_fits cL_fits 4 (some .int) [(0, 16, 19, 13)] ∈ zB := zin3 146 rfl rfl
theorem zhnd_L_fits : zHnd yL_fits 3 := by unfold zHnd; decide +kernel
theorem zstat_L_fits : Cond.static yL_fits ∈ zB := zin3 145 rfl rfl
theorem zcode_L_countWithin : Cond.codeWith yL_countWithin cL_countWithin 4 (some .int) [(0, 9, 12, 13)] ∈ zB := zin3 150 rfl rfl
theorem zhnd_L_countWithin : zHnd yL_countWithin 3 := by unfold zHnd; decide +kernel
theorem zstat_L_countWithin : Cond.static yL_countWithin ∈ zB := zin3 149 rfl rfl
theorem zcode_L_sumOf : Cond.codeWith yL_sumOf cL_sumOf 4 (some .int) [(0, 9, 12, 13)] ∈ zB := zin3 164 rfl rfl
theorem zhnd_L_sumOf : zHnd yL_sumOf 3 := by unfold zHnd; decide +kernel
theorem zstat_L_sumOf : Cond.static yL_sumOf ∈ zB := zin3 163 rfl rfl
theorem zcode_L_startEnumeration : Cond.codeWith yL_startEnumeration cL_startEnumeration 3 (some .int) [(0, 8, 11, 38)] ∈ zB := zin3 171 rfl rfl
theorem zhnd_L_startEnumeration : zHnd yL_startEnumeration 2 := by unfold zHnd; decide +kernel
theorem zstat_L_startEnumeration : Cond.static yL_startEnumeration ∈ zB := zin3 170 rfl rfl
theorem zcode_L_nextSum : Cond.codeWith yL_nextSum cL_nextSum 3 (some .int) [(0, 8, 11, 38), (0, 8, 14, 91)] ∈ zB := zin3 189 rfl rfl
theorem zhnd_L_nextSum : zHnd yL_nextSum 2 := by unfold zHnd; decide +kernel
theorem zstat_L_nextSum : Cond.static yL_nextSum ∈ zB := zin3 188 rfl rfl
theorem zcode_L_currentColumn : Cond.codeWith yL_currentColumn cL_currentColumn 4 (some .int) [(0, 9, 12, 19), (0, 9, 15, 38)] ∈ zB := zin3 221 rfl rfl
theorem zhnd_L_currentColumn : zHnd yL_currentColumn 3 := by unfold zHnd; decide +kernel
theorem zstat_L_currentColumn : Cond.static yL_currentColumn ∈ zB := zin3 220 rfl rfl
theorem zcode_L_shareOf : Cond.codeWith yL_shareOf cL_shareOf 4 (some .int) [(0, 9, 12, 19)] ∈ zB := zin3 232 rfl rfl
theorem zhnd_L_shareOf : zHnd yL_shareOf 3 := by unfold zHnd; decide +kernel
theorem zstat_L_shareOf : Cond.static yL_shareOf ∈ zB := zin3 231 rfl rfl
theorem zl_L_100 : Cond.methodLink RL 100 yX3_init ∈ zB := zin1 17 rfl rfl
theorem zs_L_100 : zSI RL 100 yX3_init cX3_init 1 0 := ⟨zl_L_100, zinst_X3_init, zini_X3, zcode_X3_init, rfl, zhnd_X3_init⟩
theorem zl_X3_11 : Cond.methodLinkNest RX3 11 yX1_init "ChoreAssignment" ∈ zB := zin1 25 rfl rfl
theorem zs_X3_11 : zSIN RX3 11 yX1_init "ChoreAssignment" cX1_init 1 0 := ⟨zl_X3_11, zinst_X1_init, zini_X1, zcode_X1_init, rfl, zhnd_X1_init⟩
theorem zl_X3_21 : Cond.methodLinkNest RX3 21 yX0_init "ChoreAssignment" ∈ zB := zin1 50 rfl rfl
theorem zs_X3_21 : zSIN RX3 21 yX0_init "ChoreAssignment" cX0_init 1 0 := ⟨zl_X3_21, zinst_X0_init, zini_X0, zcode_X0_init, rfl, zhnd_X0_init⟩
theorem zl_X3_38 : Cond.methodLinkNest RX3 38 yX2_init "ChoreAssignment" ∈ zB := zin1 72 rfl rfl
theorem zs_X3_38 : zSIN RX3 38 yX2_init "ChoreAssignment" cX2_init 1 0 := ⟨zl_X3_38, zinst_X2_init, zini_X2, zcode_X2_init, rfl, zhnd_X2_init⟩
theorem zl_L_149 : Cond.methodLink RL 149 yX3_save ∈ zB := zin1 117 rfl rfl
theorem zs_L_149 : zSV RL 149 yX3_save cX3_save 1 (some .int) 0 := ⟨zl_L_149, zinst_X3_save, zsel_X3_save, zini_X3, zcode_X3_save, zhnd_X3_save⟩
theorem zl_X3_123 : Cond.methodLink RX3 123 yX1_copyFrom ∈ zB := zin1 121 rfl rfl
theorem zs_X3_123 : zSV RX3 123 yX1_copyFrom cX1_copyFrom 3 none 1 := ⟨zl_X3_123, zinst_X1_copyFrom, zsel_X1_copyFrom, zini_X1, zcode_X1_copyFrom, zhnd_X1_copyFrom⟩
theorem zl_X3_127 : Cond.methodLink RX3 127 yX3_totalCost ∈ zB := zin1 125 rfl rfl
theorem zs_X3_127 : zSV RX3 127 yX3_totalCost cX3_totalCost 3 (some .int) 0 := ⟨zl_X3_127, zinst_X3_totalCost, zsel_X3_totalCost, zini_X3, zcode_X3_totalCost, zhnd_X3_totalCost⟩
theorem zl_X3_109 : Cond.methodLink RX3 109 yX1_sumOfRow ∈ zB := zin1 129 rfl rfl
theorem zs_X3_109 : zSV RX3 109 yX1_sumOfRow cX1_sumOfRow 4 (some .int) 1 := ⟨zl_X3_109, zinst_X1_sumOfRow, zsel_X1_sumOfRow, zini_X1, zcode_X1_sumOfRow, zhnd_X1_sumOfRow⟩
theorem zl_X1_37 : Cond.methodLink RX1 37 yX1_costOf ∈ zB := zin1 133 rfl rfl
theorem zs_X1_37 : zSV RX1 37 yX1_costOf cX1_costOf 3 (some .int) 2 := ⟨zl_X1_37, zinst_X1_costOf, zsel_X1_costOf, zini_X1, zcode_X1_costOf, zhnd_X1_costOf⟩
theorem zl_X1_30 : Cond.methodLink RX1 30 yX1_isForbidden ∈ zB := zin1 137 rfl rfl
theorem zs_X1_30 : zSV RX1 30 yX1_isForbidden cX1_isForbidden 3 (some .boolean) 2 := ⟨zl_X1_30, zinst_X1_isForbidden, zsel_X1_isForbidden, zini_X1, zcode_X1_isForbidden, zhnd_X1_isForbidden⟩
theorem zl_X1_26 : Cond.methodLinkNest RX1 26 yX3_cellIndex "ChoreAssignment" ∈ zB := zin1 141 rfl rfl
theorem zs_X1_26 : zSN RX1 26 yX3_cellIndex "ChoreAssignment" cX3_cellIndex 2 (some .int) 2 := ⟨zl_X1_26, zstat_X3_cellIndex, zini_X3, zcode_X3_cellIndex, zhnd_X3_cellIndex⟩
theorem zl_X1_34 : Cond.methodLink RX1 34 yX1_numberAt ∈ zB := zin1 144 rfl rfl
theorem zs_X1_34 : zSV RX1 34 yX1_numberAt cX1_numberAt 3 (some .int) 2 := ⟨zl_X1_34, zinst_X1_numberAt, zsel_X1_numberAt, zini_X1, zcode_X1_numberAt, zhnd_X1_numberAt⟩
theorem zl_L_153 : Cond.methodLink RL 153 yX3_restore ∈ zB := zin1 148 rfl rfl
theorem zs_L_153 : zSV RL 153 yX3_restore cX3_restore 1 (some .int) 0 := ⟨zl_L_153, zinst_X3_restore, zsel_X3_restore, zini_X3, zcode_X3_restore, zhnd_X3_restore⟩
theorem zl_X3_50 : Cond.methodLink RX3 50 yX2_cancel ∈ zB := zin1 152 rfl rfl
theorem zs_X3_50 : zSV RX3 50 yX2_cancel cX2_cancel 1 none 0 := ⟨zl_X3_50, zinst_X2_cancel, zsel_X2_cancel, zini_X2, zcode_X2_cancel, zhnd_X2_cancel⟩
theorem zl_L_157 : Cond.methodLink RL 157 yX3_distance ∈ zB := zin1 156 rfl rfl
theorem zs_L_157 : zSV RL 157 yX3_distance cX3_distance 4 (some .int) 0 := ⟨zl_L_157, zinst_X3_distance, zsel_X3_distance, zini_X3, zcode_X3_distance, zhnd_X3_distance⟩
theorem zl_X3_97 : Cond.methodLink RX3 97 yX1_costOf ∈ zB := zin1 160 rfl rfl
theorem zs_X3_97 : zSV RX3 97 yX1_costOf cX1_costOf 3 (some .int) 2 := ⟨zl_X3_97, zinst_X1_costOf, zsel_X1_costOf, zini_X1, zcode_X1_costOf, zhnd_X1_costOf⟩
theorem zl_X3_130 : Cond.methodLink RX3 130 yJ9_abs_0f7a4 ∈ zB := zin1 161 rfl rfl
theorem zs_X3_130 : zSS RX3 130 yJ9_abs_0f7a4 cJ9_abs_0f7a4 1 (some .int) 1 := ⟨zl_X3_130, zstat_J9_abs_0f7a4, zini_J9, zcode_J9_abs_0f7a4, zhnd_J9_abs_0f7a4⟩
theorem zl_L_161 : Cond.methodLink RL 161 yX3_rows ∈ zB := zin1 164 rfl rfl
theorem zs_L_161 : zSV RL 161 yX3_rows cX3_rows 1 (some .int) 0 := ⟨zl_L_161, zinst_X3_rows, zsel_X3_rows, zini_X3, zcode_X3_rows, zhnd_X3_rows⟩
theorem zl_L_165 : Cond.methodLink RL 165 yX3_columns ∈ zB := zin1 168 rfl rfl
theorem zs_L_165 : zSV RL 165 yX3_columns cX3_columns 1 (some .int) 0 := ⟨zl_L_165, zinst_X3_columns, zsel_X3_columns, zini_X3, zcode_X3_columns, zhnd_X3_columns⟩
theorem zl_L_169 : Cond.methodLink RL 169 yX3_forbiddenCount ∈ zB := zin1 172 rfl rfl
theorem zs_L_169 : zSV RL 169 yX3_forbiddenCount cX3_forbiddenCount 4 (some .int) 0 := ⟨zl_L_169, zinst_X3_forbiddenCount, zsel_X3_forbiddenCount, zini_X3, zcode_X3_forbiddenCount, zhnd_X3_forbiddenCount⟩
theorem zl_X3_133 : Cond.methodLink RX3 133 yX1_isForbidden ∈ zB := zin1 176 rfl rfl
theorem zs_X3_133 : zSV RX3 133 yX1_isForbidden cX1_isForbidden 3 (some .boolean) 2 := ⟨zl_X3_133, zinst_X1_isForbidden, zsel_X1_isForbidden, zini_X1, zcode_X1_isForbidden, zhnd_X1_isForbidden⟩
theorem zl_L_173 : Cond.methodLink RL 173 yX3_totalCost ∈ zB := zin1 177 rfl rfl
theorem zs_L_173 : zSV RL 173 yX3_totalCost cX3_totalCost 3 (some .int) 0 := ⟨zl_L_173, zinst_X3_totalCost, zsel_X3_totalCost, zini_X3, zcode_X3_totalCost, zhnd_X3_totalCost⟩
theorem zl_L_177 : Cond.methodLink RL 177 yX3_minimum ∈ zB := zin1 178 rfl rfl
theorem zs_L_177 : zSV RL 177 yX3_minimum cX3_minimum 1 (some .int) 0 := ⟨zl_L_177, zinst_X3_minimum, zsel_X3_minimum, zini_X3, zcode_X3_minimum, zhnd_X3_minimum⟩
theorem zl_X3_137 : Cond.methodLink RX3 137 yX0_load ∈ zB := zin1 182 rfl rfl
theorem zs_X3_137 : zSV RX3 137 yX0_load cX0_load 4 none 1 := ⟨zl_X3_137, zinst_X0_load, zsel_X0_load, zini_X0, zcode_X0_load, zhnd_X0_load⟩
theorem zl_X0_33 : Cond.methodLink RX0 33 yX1_costOf ∈ zB := zin1 186 rfl rfl
theorem zs_X0_33 : zSV RX0 33 yX1_costOf cX1_costOf 3 (some .int) 2 := ⟨zl_X0_33, zinst_X1_costOf, zsel_X1_costOf, zini_X1, zcode_X1_costOf, zhnd_X1_costOf⟩
theorem zl_X0_37 : Cond.methodLink RX0 37 yX0_putCost ∈ zB := zin1 187 rfl rfl
theorem zs_X0_37 : zSV RX0 37 yX0_putCost cX0_putCost 4 none 3 := ⟨zl_X0_37, zinst_X0_putCost, zsel_X0_putCost, zini_X0, zcode_X0_putCost, zhnd_X0_putCost⟩
theorem zl_X0_41 : Cond.methodLinkNest RX0 41 yX3_cellIndex "ChoreAssignment" ∈ zB := zin1 191 rfl rfl
theorem zs_X0_41 : zSN RX0 41 yX3_cellIndex "ChoreAssignment" cX3_cellIndex 2 (some .int) 2 := ⟨zl_X0_41, zstat_X3_cellIndex, zini_X3, zcode_X3_cellIndex, zhnd_X3_cellIndex⟩
theorem zl_X3_140 : Cond.methodLink RX3 140 yX0_leastSum ∈ zB := zin1 192 rfl rfl
theorem zs_X3_140 : zSV RX3 140 yX0_leastSum cX0_leastSum 3 (some .int) 0 := ⟨zl_X3_140, zinst_X0_leastSum, zsel_X0_leastSum, zini_X0, zcode_X0_leastSum, zhnd_X0_leastSum⟩
theorem zl_X0_44 : Cond.methodLink RX0 44 yX0_allColumns ∈ zB := zin1 196 rfl rfl
theorem zs_X0_44 : zSV RX0 44 yX0_allColumns cX0_allColumns 1 (some .int) 0 := ⟨zl_X0_44, zinst_X0_allColumns, zsel_X0_allColumns, zini_X0, zcode_X0_allColumns, zhnd_X0_allColumns⟩
theorem zl_X0_48 : Cond.methodLink RX0 48 yX0_findLeast ∈ zB := zin1 200 rfl rfl
theorem zs_X0_48 : zSV RX0 48 yX0_findLeast cX0_findLeast 8 none 1 := ⟨zl_X0_48, zinst_X0_findLeast, zsel_X0_findLeast, zini_X0, zcode_X0_findLeast, zhnd_X0_findLeast⟩
theorem zl_X0_52 : Cond.methodLink RX0 52 yJ6_bitCount_0f7a4 ∈ zB := zin1 204 rfl rfl
theorem zs_X0_52 : zSS RX0 52 yJ6_bitCount_0f7a4 cJ6_bitCount_0f7a4 1 (some .int) 1 := ⟨zl_X0_52, zstat_J6_bitCount_0f7a4, zini_J6, zcode_J6_bitCount_0f7a4, zhnd_J6_bitCount_0f7a4⟩
theorem zl_X0_59 : Cond.methodLink RX0 59 yX0_isFree ∈ zB := zin1 211 rfl rfl
theorem zs_X0_59 : zSS RX0 59 yX0_isFree cX0_isFree 2 (some .boolean) 2 := ⟨zl_X0_59, zstat_X0_isFree, zini_X0, zcode_X0_isFree, zhnd_X0_isFree⟩
theorem zl_L_181 : Cond.methodLink RL 181 yX3_savedMinimum ∈ zB := zin1 214 rfl rfl
theorem zs_L_181 : zSV RL 181 yX3_savedMinimum cX3_savedMinimum 1 (some .int) 0 := ⟨zl_L_181, zinst_X3_savedMinimum, zsel_X3_savedMinimum, zini_X3, zcode_X3_savedMinimum, zhnd_X3_savedMinimum⟩
theorem zl_L_189 : Cond.methodLink RL 189 yX3_optimalCount ∈ zB := zin1 218 rfl rfl
theorem zs_L_189 : zSV RL 189 yX3_optimalCount cX3_optimalCount 1 (some .int) 0 := ⟨zl_L_189, zinst_X3_optimalCount, zsel_X3_optimalCount, zini_X3, zcode_X3_optimalCount, zhnd_X3_optimalCount⟩
theorem zl_X3_146 : Cond.methodLink RX3 146 yX0_leastWays ∈ zB := zin1 222 rfl rfl
theorem zs_X3_146 : zSV RX3 146 yX0_leastWays cX0_leastWays 1 (some .int) 0 := ⟨zl_X3_146, zinst_X0_leastWays, zsel_X0_leastWays, zini_X0, zcode_X0_leastWays, zhnd_X0_leastWays⟩
theorem zl_L_211 : Cond.methodLink RL 211 yX3_secondBest ∈ zB := zin1 226 rfl rfl
theorem zs_L_211 : zSV RL 211 yX3_secondBest cX3_secondBest 3 (some .int) 0 := ⟨zl_L_211, zinst_X3_secondBest, zsel_X3_secondBest, zini_X3, zcode_X3_secondBest, zhnd_X3_secondBest⟩
theorem zl_X3_143 : Cond.methodLink RX3 143 yX3_findFirstOptimal ∈ zB := zin1 230 rfl rfl
theorem zs_X3_143 : zSV RX3 143 yX3_findFirstOptimal cX3_findFirstOptimal 1 none 0 := ⟨zl_X3_143, zinst_X3_findFirstOptimal, zsel_X3_findFirstOptimal, zini_X3, zcode_X3_findFirstOptimal, zhnd_X3_findFirstOptimal⟩
theorem zl_X3_250 : Cond.methodLink RX3 250 yX0_traceLeast ∈ zB := zin1 234 rfl rfl
theorem zs_X3_250 : zSV RX3 250 yX0_traceLeast cX0_traceLeast 5 none 1 := ⟨zl_X3_250, zinst_X0_traceLeast, zsel_X0_traceLeast, zini_X0, zcode_X0_traceLeast, zhnd_X0_traceLeast⟩
theorem zl_X0_63 : Cond.methodLink RX0 63 yX0_isOnLeast ∈ zB := zin1 238 rfl rfl
theorem zs_X0_63 : zSV RX0 63 yX0_isOnLeast cX0_isOnLeast 4 (some .boolean) 3 := ⟨zl_X0_63, zinst_X0_isOnLeast, zsel_X0_isOnLeast, zini_X0, zcode_X0_isOnLeast, zhnd_X0_isOnLeast⟩
theorem zl_X3_162 : Cond.methodLink RX3 162 yX3_leastWithCost ∈ zB := zin2 3 rfl rfl
theorem zs_X3_162 : zSV RX3 162 yX3_leastWithCost cX3_leastWithCost 4 (some .int) 3 := ⟨zl_X3_162, zinst_X3_leastWithCost, zsel_X3_leastWithCost, zini_X3, zcode_X3_leastWithCost, zhnd_X3_leastWithCost⟩
theorem zl_X3_159 : Cond.methodLink RX3 159 yX0_putCost ∈ zB := zin2 7 rfl rfl
theorem zs_X3_159 : zSV RX3 159 yX0_putCost cX0_putCost 4 none 3 := ⟨zl_X3_159, zinst_X0_putCost, zsel_X0_putCost, zini_X0, zcode_X0_putCost, zhnd_X0_putCost⟩
theorem zl_X3_78 : Cond.methodLink RX3 78 yJ9_min_7cf53 ∈ zB := zin2 8 rfl rfl
theorem zs_X3_78 : zSS RX3 78 yJ9_min_7cf53 cJ9_min_7cf53 2 (some .int) 2 := ⟨zl_X3_78, zstat_J9_min_7cf53, zini_J9, zcode_J9_min_7cf53, zhnd_J9_min_7cf53⟩
theorem zl_L_215 : Cond.methodLink RL 215 yX3_maximum ∈ zB := zin2 11 rfl rfl
theorem zs_L_215 : zSV RL 215 yX3_maximum cX3_maximum 3 (some .int) 0 := ⟨zl_L_215, zinst_X3_maximum, zsel_X3_maximum, zini_X3, zcode_X3_maximum, zhnd_X3_maximum⟩
theorem zl_X3_167 : Cond.methodLink RX3 167 yX0_greatestSum ∈ zB := zin2 16 rfl rfl
theorem zs_X3_167 : zSV RX3 167 yX0_greatestSum cX0_greatestSum 7 (some .int) 0 := ⟨zl_X3_167, zinst_X0_greatestSum, zsel_X0_greatestSum, zini_X0, zcode_X0_greatestSum, zhnd_X0_greatestSum⟩
theorem zl_X0_68 : Cond.methodLink RX0 68 yJ9_max_7cf53 ∈ zB := zin2 21 rfl rfl
theorem zs_X0_68 : zSS RX0 68 yJ9_max_7cf53 cJ9_max_7cf53 2 (some .int) 2 := ⟨zl_X0_68, zstat_J9_max_7cf53, zini_J9, zcode_J9_max_7cf53, zhnd_J9_max_7cf53⟩
theorem zl_L_219 : Cond.methodLink RL 219 yX3_bottleneck ∈ zB := zin2 24 rfl rfl
theorem zs_L_219 : zSV RL 219 yX3_bottleneck cX3_bottleneck 1 (some .int) 0 := ⟨zl_L_219, zinst_X3_bottleneck, zsel_X3_bottleneck, zini_X3, zcode_X3_bottleneck, zhnd_X3_bottleneck⟩
theorem zl_X3_170 : Cond.methodLink RX3 170 yX0_leastPeak ∈ zB := zin2 28 rfl rfl
theorem zs_X3_170 : zSV RX3 170 yX0_leastPeak cX0_leastPeak 7 (some .int) 0 := ⟨zl_X3_170, zinst_X0_leastPeak, zsel_X0_leastPeak, zini_X0, zcode_X0_leastPeak, zhnd_X0_leastPeak⟩
theorem zl_X0_73 : Cond.methodLink RX0 73 yJ9_min_7cf53 ∈ zB := zin2 32 rfl rfl
theorem zs_X0_73 : zSS RX0 73 yJ9_min_7cf53 cJ9_min_7cf53 2 (some .int) 2 := ⟨zl_X0_73, zstat_J9_min_7cf53, zini_J9, zcode_J9_min_7cf53, zhnd_J9_min_7cf53⟩
theorem zl_L_241 : Cond.methodLink RL 241 yX3_stepsMade ∈ zB := zin2 33 rfl rfl
theorem zs_L_241 : zSV RL 241 yX3_stepsMade cX3_stepsMade 1 (some .int) 0 := ⟨zl_L_241, zinst_X3_stepsMade, zsel_X3_stepsMade, zini_X3, zcode_X3_stepsMade, zhnd_X3_stepsMade⟩
theorem zl_L_245 : Cond.methodLink RL 245 yX3_meanCost ∈ zB := zin2 37 rfl rfl
theorem zs_L_245 : zSV RL 245 yX3_meanCost cX3_meanCost 1 (some .double) 0 := ⟨zl_L_245, zinst_X3_meanCost, zsel_X3_meanCost, zini_X3, zcode_X3_meanCost, zhnd_X3_meanCost⟩
theorem zl_L_254 : Cond.methodLink RL 254 yX3_checksum ∈ zB := zin2 41 rfl rfl
theorem zs_L_254 : zSV RL 254 yX3_checksum cX3_checksum 4 (some .long) 0 := ⟨zl_L_254, zinst_X3_checksum, zsel_X3_checksum, zini_X3, zcode_X3_checksum, zhnd_X3_checksum⟩
theorem zl_X3_217 : Cond.methodLink RX3 217 yX3_rows ∈ zB := zin2 46 rfl rfl
theorem zs_X3_217 : zSV RX3 217 yX3_rows cX3_rows 1 (some .int) 0 := ⟨zl_X3_217, zinst_X3_rows, zsel_X3_rows, zini_X3, zcode_X3_rows, zhnd_X3_rows⟩
theorem zl_X3_220 : Cond.methodLink RX3 220 yX3_mixed ∈ zB := zin2 47 rfl rfl
theorem zs_X3_220 : zSS RX3 220 yX3_mixed cX3_mixed 3 (some .long) 2 := ⟨zl_X3_220, zstat_X3_mixed, zini_X3, zcode_X3_mixed, zhnd_X3_mixed⟩
theorem zl_X3_224 : Cond.methodLink RX3 224 yX3_columns ∈ zB := zin2 51 rfl rfl
theorem zs_X3_224 : zSV RX3 224 yX3_columns cX3_columns 1 (some .int) 0 := ⟨zl_X3_224, zinst_X3_columns, zsel_X3_columns, zini_X3, zcode_X3_columns, zhnd_X3_columns⟩
theorem zl_X3_90 : Cond.methodLink RX3 90 yX3_forbiddenCount ∈ zB := zin2 52 rfl rfl
theorem zs_X3_90 : zSV RX3 90 yX3_forbiddenCount cX3_forbiddenCount 4 (some .int) 0 := ⟨zl_X3_90, zinst_X3_forbiddenCount, zsel_X3_forbiddenCount, zini_X3, zcode_X3_forbiddenCount, zhnd_X3_forbiddenCount⟩
theorem zl_X3_227 : Cond.methodLink RX3 227 yX3_stepsMade ∈ zB := zin2 53 rfl rfl
theorem zs_X3_227 : zSV RX3 227 yX3_stepsMade cX3_stepsMade 1 (some .int) 0 := ⟨zl_X3_227, zinst_X3_stepsMade, zsel_X3_stepsMade, zini_X3, zcode_X3_stepsMade, zhnd_X3_stepsMade⟩
theorem zl_X3_230 : Cond.methodLink RX3 230 yX3_mixedCosts ∈ zB := zin2 54 rfl rfl
theorem zs_X3_230 : zSS RX3 230 yX3_mixedCosts cX3_mixedCosts 7 (some .long) 2 := ⟨zl_X3_230, zstat_X3_mixedCosts, zini_X3, zcode_X3_mixedCosts, zhnd_X3_mixedCosts⟩
theorem zl_X3_209 : Cond.methodLink RX3 209 yX3_minimum ∈ zB := zin2 57 rfl rfl
theorem zs_X3_209 : zSV RX3 209 yX3_minimum cX3_minimum 1 (some .int) 0 := ⟨zl_X3_209, zinst_X3_minimum, zsel_X3_minimum, zini_X3, zcode_X3_minimum, zhnd_X3_minimum⟩
theorem zl_L_259 : Cond.methodLink RL 259 yX3_isSound ∈ zB := zin2 58 rfl rfl
theorem zs_L_259 : zSV RL 259 yX3_isSound cX3_isSound 1 (some .boolean) 0 := ⟨zl_L_259, zinst_X3_isSound, zsel_X3_isSound, zini_X3, zcode_X3_isSound, zhnd_X3_isSound⟩
theorem zl_X3_149 : Cond.methodLink RX3 149 yX3_findPotentials ∈ zB := zin2 62 rfl rfl
theorem zs_X3_149 : zSV RX3 149 yX3_findPotentials cX3_findPotentials 4 none 0 := ⟨zl_X3_149, zinst_X3_findPotentials, zsel_X3_findPotentials, zini_X3, zcode_X3_findPotentials, zhnd_X3_findPotentials⟩
theorem zl_X3_254 : Cond.methodLink RX3 254 yX3_minimumWith ∈ zB := zin2 66 rfl rfl
theorem zs_X3_254 : zSV RX3 254 yX3_minimumWith cX3_minimumWith 4 (some .int) 2 := ⟨zl_X3_254, zinst_X3_minimumWith, zsel_X3_minimumWith, zini_X3, zcode_X3_minimumWith, zhnd_X3_minimumWith⟩
theorem zl_X3_94 : Cond.methodLink RX3 94 yX3_requireCell ∈ zB := zin2 70 rfl rfl
theorem zs_X3_94 : zSV RX3 94 yX3_requireCell cX3_requireCell 3 none 2 := ⟨zl_X3_94, zinst_X3_requireCell, zsel_X3_requireCell, zini_X3, zcode_X3_requireCell, zhnd_X3_requireCell⟩
theorem zl_X3_64 : Cond.methodLink RX3 64 yX3_requireRow ∈ zB := zin2 74 rfl rfl
theorem zs_X3_64 : zSV RX3 64 yX3_requireRow cX3_requireRow 2 none 1 := ⟨zl_X3_64, zinst_X3_requireRow, zsel_X3_requireRow, zini_X3, zcode_X3_requireRow, zhnd_X3_requireRow⟩
theorem zl_X3_152 : Cond.methodLink RX3 152 yX3_requireColumn ∈ zB := zin2 142 rfl rfl
theorem zs_X3_152 : zSV RX3 152 yX3_requireColumn cX3_requireColumn 2 none 1 := ⟨zl_X3_152, zinst_X3_requireColumn, zsel_X3_requireColumn, zini_X3, zcode_X3_requireColumn, zhnd_X3_requireColumn⟩
theorem zl_X3_177 : Cond.methodLink RX3 177 yX3_isColumn ∈ zB := zin2 146 rfl rfl
theorem zs_X3_177 : zSV RX3 177 yX3_isColumn cX3_isColumn 2 (some .boolean) 1 := ⟨zl_X3_177, zinst_X3_isColumn, zsel_X3_isColumn, zini_X3, zcode_X3_isColumn, zhnd_X3_isColumn⟩
theorem zl_X3_257 : Cond.methodLink RX3 257 yX3_smallestRest ∈ zB := zin2 150 rfl rfl
theorem zs_X3_257 : zSV RX3 257 yX3_smallestRest cX3_smallestRest 4 (some .int) 1 := ⟨zl_X3_257, zinst_X3_smallestRest, zsel_X3_smallestRest, zini_X3, zcode_X3_smallestRest, zhnd_X3_smallestRest⟩
theorem zl_X3_234 : Cond.methodLink RX3 234 yX3_potentialsAddUp ∈ zB := zin2 154 rfl rfl
theorem zs_X3_234 : zSV RX3 234 yX3_potentialsAddUp cX3_potentialsAddUp 3 (some .boolean) 0 := ⟨zl_X3_234, zinst_X3_potentialsAddUp, zsel_X3_potentialsAddUp, zini_X3, zcode_X3_potentialsAddUp, zhnd_X3_potentialsAddUp⟩
theorem zl_X3_238 : Cond.methodLink RX3 238 yX3_reducedCostsHold ∈ zB := zin2 158 rfl rfl
theorem zs_X3_238 : zSV RX3 238 yX3_reducedCostsHold cX3_reducedCostsHold 4 (some .boolean) 0 := ⟨zl_X3_238, zinst_X3_reducedCostsHold, zsel_X3_reducedCostsHold, zini_X3, zcode_X3_reducedCostsHold, zhnd_X3_reducedCostsHold⟩
theorem zl_X3_155 : Cond.methodLink RX3 155 yX3_reducedBy ∈ zB := zin2 162 rfl rfl
theorem zs_X3_155 : zSV RX3 155 yX3_reducedBy cX3_reducedBy 3 (some .int) 2 := ⟨zl_X3_155, zinst_X3_reducedBy, zsel_X3_reducedBy, zini_X3, zcode_X3_reducedBy, zhnd_X3_reducedBy⟩
theorem zl_X3_241 : Cond.methodLink RX3 241 yX3_cellSplitHolds ∈ zB := zin2 166 rfl rfl
theorem zs_X3_241 : zSV RX3 241 yX3_cellSplitHolds cX3_cellSplitHolds 2 (some .boolean) 0 := ⟨zl_X3_241, zinst_X3_cellSplitHolds, zsel_X3_cellSplitHolds, zini_X3, zcode_X3_cellSplitHolds, zhnd_X3_cellSplitHolds⟩
theorem zl_X3_260 : Cond.methodLink RX3 260 yX3_minimumWithout ∈ zB := zin2 170 rfl rfl
theorem zs_X3_260 : zSV RX3 260 yX3_minimumWithout cX3_minimumWithout 3 (some .int) 2 := ⟨zl_X3_260, zinst_X3_minimumWithout, zsel_X3_minimumWithout, zini_X3, zcode_X3_minimumWithout, zhnd_X3_minimumWithout⟩
theorem zl_X3_244 : Cond.methodLink RX3 244 yX3_bottleneckHolds ∈ zB := zin2 174 rfl rfl
theorem zs_X3_244 : zSV RX3 244 yX3_bottleneckHolds cX3_bottleneckHolds 2 (some .boolean) 0 := ⟨zl_X3_244, zinst_X3_bottleneckHolds, zsel_X3_bottleneckHolds, zini_X3, zcode_X3_bottleneckHolds, zhnd_X3_bottleneckHolds⟩
theorem zl_X3_263 : Cond.methodLink RX3 263 yX3_bottleneck ∈ zB := zin2 178 rfl rfl
theorem zs_X3_263 : zSV RX3 263 yX3_bottleneck cX3_bottleneck 1 (some .int) 0 := ⟨zl_X3_263, zinst_X3_bottleneck, zsel_X3_bottleneck, zini_X3, zcode_X3_bottleneck, zhnd_X3_bottleneck⟩
theorem zl_X3_266 : Cond.methodLink RX3 266 yX3_fits ∈ zB := zin2 179 rfl rfl
theorem zs_X3_266 : zSV RX3 266 yX3_fits cX3_fits 4 (some .boolean) 1 := ⟨zl_X3_266, zinst_X3_fits, zsel_X3_fits, zini_X3, zcode_X3_fits, zhnd_X3_fits⟩
theorem zl_L_104 : Cond.methodLink RL 104 yL_resize ∈ zB := zin2 198 rfl rfl
theorem zs_L_104 : zSW RL 104 yL_resize cL_resize 5 (some .int) [(0, 10, 13, 13)] 4 := ⟨zl_L_104, zstat_L_resize, zini_L, zcode_L_resize, zhnd_L_resize⟩
theorem zl_L_7 : Cond.methodLink RL 7 yX3_resize ∈ zB := zin2 202 rfl rfl
theorem zs_L_7 : zSV RL 7 yX3_resize cX3_resize 3 (some .int) 2 := ⟨zl_L_7, zinst_X3_resize, zsel_X3_resize, zini_X3, zcode_X3_resize, zhnd_X3_resize⟩
theorem zl_X3_46 : Cond.methodLink RX3 46 yX1_clearTo ∈ zB := zin2 206 rfl rfl
theorem zs_X3_46 : zSV RX3 46 yX1_clearTo cX1_clearTo 4 none 2 := ⟨zl_X3_46, zinst_X1_clearTo, zsel_X1_clearTo, zini_X1, zcode_X1_clearTo, zhnd_X1_clearTo⟩
theorem zl_L_113 : Cond.methodLink RL 113 yL_setCost ∈ zB := zin2 210 rfl rfl
theorem zs_L_113 : zSW RL 113 yL_setCost cL_setCost 6 (some .int) [(0, 12, 15, 19), (0, 12, 19, 13)] 5 := ⟨zl_L_113, zstat_L_setCost, zini_L, zcode_L_setCost, zhnd_L_setCost⟩
theorem zl_L_15 : Cond.methodLink RL 15 yX3_setCost ∈ zB := zin2 214 rfl rfl
theorem zs_L_15 : zSV RL 15 yX3_setCost cX3_setCost 5 (some .int) 3 := ⟨zl_L_15, zinst_X3_setCost, zsel_X3_setCost, zini_X3, zcode_X3_setCost, zhnd_X3_setCost⟩
theorem zl_X3_53 : Cond.methodLink RX3 53 yX3_requireRealCell ∈ zB := zin2 218 rfl rfl
theorem zs_X3_53 : zSV RX3 53 yX3_requireRealCell cX3_requireRealCell 3 none 2 := ⟨zl_X3_53, zinst_X3_requireRealCell, zsel_X3_requireRealCell, zini_X3, zcode_X3_requireRealCell, zhnd_X3_requireRealCell⟩
theorem zl_X3_113 : Cond.methodLink RX3 113 yX3_requireRealColumn ∈ zB := zin2 222 rfl rfl
theorem zs_X3_113 : zSV RX3 113 yX3_requireRealColumn cX3_requireRealColumn 2 none 1 := ⟨zl_X3_113, zinst_X3_requireRealColumn, zsel_X3_requireRealColumn, zini_X3, zcode_X3_requireRealColumn, zhnd_X3_requireRealColumn⟩
theorem zl_X3_56 : Cond.methodLink RX3 56 yX1_numberAt ∈ zB := zin2 226 rfl rfl
theorem zs_X3_56 : zSV RX3 56 yX1_numberAt cX1_numberAt 3 (some .int) 2 := ⟨zl_X3_56, zinst_X1_numberAt, zsel_X1_numberAt, zini_X1, zcode_X1_numberAt, zhnd_X1_numberAt⟩
theorem zl_X3_60 : Cond.methodLink RX3 60 yX1_putNumber ∈ zB := zin2 227 rfl rfl
theorem zs_X3_60 : zSV RX3 60 yX1_putNumber cX1_putNumber 4 none 3 := ⟨zl_X3_60, zinst_X1_putNumber, zsel_X1_putNumber, zini_X1, zcode_X1_putNumber, zhnd_X1_putNumber⟩
theorem zl_L_119 : Cond.methodLink RL 119 yL_setRow ∈ zB := zin2 231 rfl rfl
theorem zs_L_119 : zSW RL 119 yL_setRow cL_setRow 6 (some .int) [(0, 11, 14, 19), (0, 11, 18, 13)] 4 := ⟨zl_L_119, zstat_L_setRow, zini_L, zcode_L_setRow, zhnd_L_setRow⟩
theorem zl_L_21 : Cond.methodLink RL 21 yX3_setRow ∈ zB := zin2 234 rfl rfl
theorem zs_L_21 : zSV RL 21 yX3_setRow cX3_setRow 9 (some .int) 2 := ⟨zl_L_21, zinst_X3_setRow, zsel_X3_setRow, zini_X3, zcode_X3_setRow, zhnd_X3_setRow⟩
theorem zl_X3_68 : Cond.methodLink RX3 68 yX3_packedBound ∈ zB := zin2 238 rfl rfl
theorem zs_X3_68 : zSV RX3 68 yX3_packedBound cX3_packedBound 4 (some .long) 0 := ⟨zl_X3_68, zinst_X3_packedBound, zsel_X3_packedBound, zini_X3, zcode_X3_packedBound, zhnd_X3_packedBound⟩
theorem zl_L_123 : Cond.methodLink RL 123 yL_fill ∈ zB := zin3 3 rfl rfl
theorem zs_L_123 : zSW RL 123 yL_fill cL_fill 5 (some .int) [(0, 10, 13, 13)] 4 := ⟨zl_L_123, zstat_L_fill, zini_L, zcode_L_fill, zhnd_L_fill⟩
theorem zl_L_25 : Cond.methodLink RL 25 yX3_fill ∈ zB := zin3 6 rfl rfl
theorem zs_L_25 : zSV RL 25 yX3_fill cX3_fill 8 (some .int) 2 := ⟨zl_L_25, zinst_X3_fill, zsel_X3_fill, zini_X3, zcode_X3_fill, zhnd_X3_fill⟩
theorem zl_X3_86 : Cond.methodLink RX3 86 yX1_putForbidden ∈ zB := zin3 10 rfl rfl
theorem zs_X3_86 : zSV RX3 86 yX1_putForbidden cX1_putForbidden 4 none 3 := ⟨zl_X3_86, zinst_X1_putForbidden, zsel_X1_putForbidden, zini_X1, zcode_X1_putForbidden, zhnd_X1_putForbidden⟩
theorem zl_L_126 : Cond.methodLink RL 126 yL_setForbidden ∈ zB := zin3 14 rfl rfl
theorem zs_L_126 : zSW RL 126 yL_setForbidden cL_setForbidden 6 (some .int) [(0, 12, 15, 19)] 5 := ⟨zl_L_126, zstat_L_setForbidden, zini_L, zcode_L_setForbidden, zhnd_L_setForbidden⟩
theorem zl_L_28 : Cond.methodLink RL 28 yX3_setForbidden ∈ zB := zin3 17 rfl rfl
theorem zs_L_28 : zSV RL 28 yX3_setForbidden cX3_setForbidden 4 (some .int) 3 := ⟨zl_L_28, zinst_X3_setForbidden, zsel_X3_setForbidden, zini_X3, zcode_X3_setForbidden, zhnd_X3_setForbidden⟩
theorem zl_L_130 : Cond.methodLink RL 130 yL_costAt ∈ zB := zin3 21 rfl rfl
theorem zs_L_130 : zSW RL 130 yL_costAt cL_costAt 5 (some .int) [(0, 10, 13, 19)] 4 := ⟨zl_L_130, zstat_L_costAt, zini_L, zcode_L_costAt, zhnd_L_costAt⟩
theorem zl_L_32 : Cond.methodLink RL 32 yX3_costAt ∈ zB := zin3 24 rfl rfl
theorem zs_L_32 : zSV RL 32 yX3_costAt cX3_costAt 3 (some .int) 2 := ⟨zl_L_32, zinst_X3_costAt, zsel_X3_costAt, zini_X3, zcode_X3_costAt, zhnd_X3_costAt⟩
theorem zl_L_133 : Cond.methodLink RL 133 yL_addToRow ∈ zB := zin3 28 rfl rfl
theorem zs_L_133 : zSW RL 133 yL_addToRow cL_addToRow 5 (some .int) [(0, 10, 13, 19), (0, 10, 17, 13), (0, 10, 21, 38)] 4 := ⟨zl_L_133, zstat_L_addToRow, zini_L, zcode_L_addToRow, zhnd_L_addToRow⟩
theorem zl_L_35 : Cond.methodLink RL 35 yX3_addToRow ∈ zB := zin3 32 rfl rfl
theorem zs_L_35 : zSV RL 35 yX3_addToRow cX3_addToRow 4 (some .int) 2 := ⟨zl_L_35, zinst_X3_addToRow, zsel_X3_addToRow, zini_X3, zcode_X3_addToRow, zhnd_X3_addToRow⟩
theorem zl_X3_100 : Cond.methodLink RX3 100 yX3_requireAddend ∈ zB := zin3 36 rfl rfl
theorem zs_X3_100 : zSV RX3 100 yX3_requireAddend cX3_requireAddend 2 none 1 := ⟨zl_X3_100, zinst_X3_requireAddend, zsel_X3_requireAddend, zini_X3, zcode_X3_requireAddend, zhnd_X3_requireAddend⟩
theorem zl_X3_103 : Cond.methodLink RX3 103 yX3_requireNoDummyColumn ∈ zB := zin3 40 rfl rfl
theorem zs_X3_103 : zSV RX3 103 yX3_requireNoDummyColumn cX3_requireNoDummyColumn 1 none 0 := ⟨zl_X3_103, zinst_X3_requireNoDummyColumn, zsel_X3_requireNoDummyColumn, zini_X3, zcode_X3_requireNoDummyColumn, zhnd_X3_requireNoDummyColumn⟩
theorem zl_X3_106 : Cond.methodLink RX3 106 yX3_requireAddable ∈ zB := zin3 59 rfl rfl
theorem zs_X3_106 : zSV RX3 106 yX3_requireAddable cX3_requireAddable 5 none 3 := ⟨zl_X3_106, zinst_X3_requireAddable, zsel_X3_requireAddable, zini_X3, zcode_X3_requireAddable, zhnd_X3_requireAddable⟩
theorem zl_L_136 : Cond.methodLink RL 136 yL_addToColumn ∈ zB := zin3 63 rfl rfl
theorem zs_L_136 : zSW RL 136 yL_addToColumn cL_addToColumn 5 (some .int) [(0, 10, 13, 19), (0, 10, 17, 13), (0, 10, 21, 38)] 4 := ⟨zl_L_136, zstat_L_addToColumn, zini_L, zcode_L_addToColumn, zhnd_L_addToColumn⟩
theorem zl_L_40 : Cond.methodLink RL 40 yX3_addToColumn ∈ zB := zin3 66 rfl rfl
theorem zs_L_40 : zSV RL 40 yX3_addToColumn cX3_addToColumn 4 (some .int) 2 := ⟨zl_L_40, zinst_X3_addToColumn, zsel_X3_addToColumn, zini_X3, zcode_X3_addToColumn, zhnd_X3_addToColumn⟩
theorem zl_X3_116 : Cond.methodLink RX3 116 yX1_sumOfColumn ∈ zB := zin3 70 rfl rfl
theorem zs_X3_116 : zSV RX3 116 yX1_sumOfColumn cX1_sumOfColumn 4 (some .int) 1 := ⟨zl_X3_116, zinst_X1_sumOfColumn, zsel_X1_sumOfColumn, zini_X1, zcode_X1_sumOfColumn, zhnd_X1_sumOfColumn⟩
theorem zl_L_139 : Cond.methodLink RL 139 yL_swapRows ∈ zB := zin3 74 rfl rfl
theorem zs_L_139 : zSW RL 139 yL_swapRows cL_swapRows 5 (some .int) [(0, 10, 13, 19)] 4 := ⟨zl_L_139, zstat_L_swapRows, zini_L, zcode_L_swapRows, zhnd_L_swapRows⟩
theorem zl_L_43 : Cond.methodLink RL 43 yX3_swapRows ∈ zB := zin3 77 rfl rfl
theorem zs_L_43 : zSV RL 43 yX3_swapRows cX3_swapRows 4 (some .int) 2 := ⟨zl_L_43, zinst_X3_swapRows, zsel_X3_swapRows, zini_X3, zcode_X3_swapRows, zhnd_X3_swapRows⟩
theorem zl_X3_119 : Cond.methodLink RX3 119 yX1_swapCells ∈ zB := zin3 81 rfl rfl
theorem zs_X3_119 : zSV RX3 119 yX1_swapCells cX1_swapCells 7 none 4 := ⟨zl_X3_119, zinst_X1_swapCells, zsel_X1_swapCells, zini_X1, zcode_X1_swapCells, zhnd_X1_swapCells⟩
theorem zl_X1_40 : Cond.methodLink RX1 40 yX1_putNumber ∈ zB := zin3 85 rfl rfl
theorem zs_X1_40 : zSV RX1 40 yX1_putNumber cX1_putNumber 4 none 3 := ⟨zl_X1_40, zinst_X1_putNumber, zsel_X1_putNumber, zini_X1, zcode_X1_putNumber, zhnd_X1_putNumber⟩
theorem zl_X1_44 : Cond.methodLink RX1 44 yX1_putForbidden ∈ zB := zin3 86 rfl rfl
theorem zs_X1_44 : zSV RX1 44 yX1_putForbidden cX1_putForbidden 4 none 3 := ⟨zl_X1_44, zinst_X1_putForbidden, zsel_X1_putForbidden, zini_X1, zcode_X1_putForbidden, zhnd_X1_putForbidden⟩
theorem zl_L_142 : Cond.methodLink RL 142 yL_swapColumns ∈ zB := zin3 87 rfl rfl
theorem zs_L_142 : zSW RL 142 yL_swapColumns cL_swapColumns 5 (some .int) [(0, 10, 13, 19)] 4 := ⟨zl_L_142, zstat_L_swapColumns, zini_L, zcode_L_swapColumns, zhnd_L_swapColumns⟩
theorem zl_L_46 : Cond.methodLink RL 46 yX3_swapColumns ∈ zB := zin3 90 rfl rfl
theorem zs_L_46 : zSV RL 46 yX3_swapColumns cX3_swapColumns 4 (some .int) 2 := ⟨zl_L_46, zinst_X3_swapColumns, zsel_X3_swapColumns, zini_X3, zcode_X3_swapColumns, zhnd_X3_swapColumns⟩
theorem zl_L_145 : Cond.methodLink RL 145 yL_transpose ∈ zB := zin3 94 rfl rfl
theorem zs_L_145 : zSW RL 145 yL_transpose cL_transpose 3 (some .int) [(0, 8, 11, 38)] 2 := ⟨zl_L_145, zstat_L_transpose, zini_L, zcode_L_transpose, zhnd_L_transpose⟩
theorem zl_L_49 : Cond.methodLink RL 49 yX3_transpose ∈ zB := zin3 97 rfl rfl
theorem zs_L_49 : zSV RL 49 yX3_transpose cX3_transpose 3 (some .int) 0 := ⟨zl_L_49, zinst_X3_transpose, zsel_X3_transpose, zini_X3, zcode_X3_transpose, zhnd_X3_transpose⟩
theorem zl_L_185 : Cond.methodLink RL 185 yL_assigned ∈ zB := zin3 101 rfl rfl
theorem zs_L_185 : zSW RL 185 yL_assigned cL_assigned 4 (some .int) [(0, 9, 12, 19)] 3 := ⟨zl_L_185, zstat_L_assigned, zini_L, zcode_L_assigned, zhnd_L_assigned⟩
theorem zl_L_53 : Cond.methodLink RL 53 yX3_assigned ∈ zB := zin3 104 rfl rfl
theorem zs_L_53 : zSV RL 53 yX3_assigned cX3_assigned 2 (some .int) 1 := ⟨zl_L_53, zinst_X3_assigned, zsel_X3_assigned, zini_X3, zcode_X3_assigned, zhnd_X3_assigned⟩
theorem zl_L_193 : Cond.methodLink RL 193 yL_rowPotential ∈ zB := zin3 108 rfl rfl
theorem zs_L_193 : zSW RL 193 yL_rowPotential cL_rowPotential 4 (some .int) [(0, 9, 12, 19)] 3 := ⟨zl_L_193, zstat_L_rowPotential, zini_L, zcode_L_rowPotential, zhnd_L_rowPotential⟩
theorem zl_L_57 : Cond.methodLink RL 57 yX3_rowPotential ∈ zB := zin3 111 rfl rfl
theorem zs_L_57 : zSV RL 57 yX3_rowPotential cX3_rowPotential 2 (some .int) 1 := ⟨zl_L_57, zinst_X3_rowPotential, zsel_X3_rowPotential, zini_X3, zcode_X3_rowPotential, zhnd_X3_rowPotential⟩
theorem zl_L_196 : Cond.methodLink RL 196 yL_columnPotential ∈ zB := zin3 115 rfl rfl
theorem zs_L_196 : zSW RL 196 yL_columnPotential cL_columnPotential 4 (some .int) [(0, 9, 12, 19)] 3 := ⟨zl_L_196, zstat_L_columnPotential, zini_L, zcode_L_columnPotential, zhnd_L_columnPotential⟩
theorem zl_L_60 : Cond.methodLink RL 60 yX3_columnPotential ∈ zB := zin3 118 rfl rfl
theorem zs_L_60 : zSV RL 60 yX3_columnPotential cX3_columnPotential 2 (some .int) 1 := ⟨zl_L_60, zinst_X3_columnPotential, zsel_X3_columnPotential, zini_X3, zcode_X3_columnPotential, zhnd_X3_columnPotential⟩
theorem zl_L_199 : Cond.methodLink RL 199 yL_reducedCost ∈ zB := zin3 122 rfl rfl
theorem zs_L_199 : zSW RL 199 yL_reducedCost cL_reducedCost 5 (some .int) [(0, 10, 13, 19)] 4 := ⟨zl_L_199, zstat_L_reducedCost, zini_L, zcode_L_reducedCost, zhnd_L_reducedCost⟩
theorem zl_L_63 : Cond.methodLink RL 63 yX3_reducedCost ∈ zB := zin3 125 rfl rfl
theorem zs_L_63 : zSV RL 63 yX3_reducedCost cX3_reducedCost 3 (some .int) 2 := ⟨zl_L_63, zinst_X3_reducedCost, zsel_X3_reducedCost, zini_X3, zcode_X3_reducedCost, zhnd_X3_reducedCost⟩
theorem zl_L_202 : Cond.methodLink RL 202 yL_minimumWith ∈ zB := zin3 129 rfl rfl
theorem zs_L_202 : zSW RL 202 yL_minimumWith cL_minimumWith 5 (some .int) [(0, 10, 13, 19)] 4 := ⟨zl_L_202, zstat_L_minimumWith, zini_L, zcode_L_minimumWith, zhnd_L_minimumWith⟩
theorem zl_L_66 : Cond.methodLink RL 66 yX3_minimumWith ∈ zB := zin3 132 rfl rfl
theorem zs_L_66 : zSV RL 66 yX3_minimumWith cX3_minimumWith 4 (some .int) 2 := ⟨zl_L_66, zinst_X3_minimumWith, zsel_X3_minimumWith, zini_X3, zcode_X3_minimumWith, zhnd_X3_minimumWith⟩
theorem zl_L_205 : Cond.methodLink RL 205 yL_minimumWithout ∈ zB := zin3 133 rfl rfl
theorem zs_L_205 : zSW RL 205 yL_minimumWithout cL_minimumWithout 5 (some .int) [(0, 10, 13, 19)] 4 := ⟨zl_L_205, zstat_L_minimumWithout, zini_L, zcode_L_minimumWithout, zhnd_L_minimumWithout⟩
theorem zl_L_69 : Cond.methodLink RL 69 yX3_minimumWithout ∈ zB := zin3 136 rfl rfl
theorem zs_L_69 : zSV RL 69 yX3_minimumWithout cX3_minimumWithout 3 (some .int) 2 := ⟨zl_L_69, zinst_X3_minimumWithout, zsel_X3_minimumWithout, zini_X3, zcode_X3_minimumWithout, zhnd_X3_minimumWithout⟩
theorem zl_L_208 : Cond.methodLink RL 208 yL_minimumIfCost ∈ zB := zin3 137 rfl rfl
theorem zs_L_208 : zSW RL 208 yL_minimumIfCost cL_minimumIfCost 6 (some .int) [(0, 12, 15, 19), (0, 12, 19, 13)] 5 := ⟨zl_L_208, zstat_L_minimumIfCost, zini_L, zcode_L_minimumIfCost, zhnd_L_minimumIfCost⟩
theorem zl_L_72 : Cond.methodLink RL 72 yX3_minimumIfCost ∈ zB := zin3 140 rfl rfl
theorem zs_L_72 : zSV RL 72 yX3_minimumIfCost cX3_minimumIfCost 4 (some .int) 3 := ⟨zl_L_72, zinst_X3_minimumIfCost, zsel_X3_minimumIfCost, zini_X3, zcode_X3_minimumIfCost, zhnd_X3_minimumIfCost⟩
theorem zl_L_223 : Cond.methodLink RL 223 yL_fits ∈ zB := zin3 144 rfl rfl
theorem zs_L_223 : zSW RL 223 yL_fits cL_fits 4 (some .int) [(0, 16, 19, 13)] 3 := ⟨zl_L_223, zstat_L_fits, zini_L, zcode_L_fits, zhnd_L_fits⟩
theorem zl_L_75 : Cond.methodLink RL 75 yX3_fits ∈ zB := zin3 147 rfl rfl
theorem zs_L_75 : zSV RL 75 yX3_fits cX3_fits 4 (some .boolean) 1 := ⟨zl_L_75, zinst_X3_fits, zsel_X3_fits, zini_X3, zcode_X3_fits, zhnd_X3_fits⟩
theorem zl_L_226 : Cond.methodLink RL 226 yL_countWithin ∈ zB := zin3 148 rfl rfl
theorem zs_L_226 : zSW RL 226 yL_countWithin cL_countWithin 4 (some .int) [(0, 9, 12, 13)] 3 := ⟨zl_L_226, zstat_L_countWithin, zini_L, zcode_L_countWithin, zhnd_L_countWithin⟩
theorem zl_L_79 : Cond.methodLink RL 79 yX3_countWithin ∈ zB := zin3 151 rfl rfl
theorem zs_L_79 : zSV RL 79 yX3_countWithin cX3_countWithin 2 (some .int) 1 := ⟨zl_L_79, zinst_X3_countWithin, zsel_X3_countWithin, zini_X3, zcode_X3_countWithin, zhnd_X3_countWithin⟩
theorem zl_X3_173 : Cond.methodLinkNest RX3 173 yX0_countFrom "ChoreAssignment" ∈ zB := zin3 155 rfl rfl
theorem zs_X3_173 : zSN RX3 173 yX0_countFrom "ChoreAssignment" cX0_countFrom 7 (some .int) 4 := ⟨zl_X3_173, zstat_X0_countFrom, zini_X0, zcode_X0_countFrom, zhnd_X0_countFrom⟩
theorem zl_X0_76 : Cond.methodLinkNest RX0 76 yX3_factorial "ChoreAssignment" ∈ zB := zin3 158 rfl rfl
theorem zs_X0_76 : zSN RX0 76 yX3_factorial "ChoreAssignment" cX3_factorial 3 (some .int) 1 := ⟨zl_X0_76, zstat_X3_factorial, zini_X3, zcode_X3_factorial, zhnd_X3_factorial⟩
theorem zl_X0_79 : Cond.methodLink RX0 79 yX0_countFrom ∈ zB := zin3 161 rfl rfl
theorem zs_X0_79 : zSS RX0 79 yX0_countFrom cX0_countFrom 7 (some .int) 4 := ⟨zl_X0_79, zstat_X0_countFrom, zini_X0, zcode_X0_countFrom, zhnd_X0_countFrom⟩
theorem zl_L_229 : Cond.methodLink RL 229 yL_sumOf ∈ zB := zin3 162 rfl rfl
theorem zs_L_229 : zSW RL 229 yL_sumOf cL_sumOf 4 (some .int) [(0, 9, 12, 13)] 3 := ⟨zl_L_229, zstat_L_sumOf, zini_L, zcode_L_sumOf, zhnd_L_sumOf⟩
theorem zl_L_82 : Cond.methodLink RL 82 yX3_sumOf ∈ zB := zin3 165 rfl rfl
theorem zs_L_82 : zSV RL 82 yX3_sumOf cX3_sumOf 7 (some .int) 1 := ⟨zl_L_82, zinst_X3_sumOf, zsel_X3_sumOf, zini_X3, zcode_X3_sumOf, zhnd_X3_sumOf⟩
theorem zl_L_232 : Cond.methodLink RL 232 yL_startEnumeration ∈ zB := zin3 169 rfl rfl
theorem zs_L_232 : zSW RL 232 yL_startEnumeration cL_startEnumeration 3 (some .int) [(0, 8, 11, 38)] 2 := ⟨zl_L_232, zstat_L_startEnumeration, zini_L, zcode_L_startEnumeration, zhnd_L_startEnumeration⟩
theorem zl_L_85 : Cond.methodLink RL 85 yX3_startEnumeration ∈ zB := zin3 172 rfl rfl
theorem zs_L_85 : zSV RL 85 yX3_startEnumeration cX3_startEnumeration 1 (some .int) 0 := ⟨zl_L_85, zinst_X3_startEnumeration, zsel_X3_startEnumeration, zini_X3, zcode_X3_startEnumeration, zhnd_X3_startEnumeration⟩
theorem zl_X3_184 : Cond.methodLink RX3 184 yX2_begin ∈ zB := zin3 176 rfl rfl
theorem zs_X3_184 : zSV RX3 184 yX2_begin cX2_begin 2 none 1 := ⟨zl_X3_184, zinst_X2_begin, zsel_X2_begin, zini_X2, zcode_X2_begin, zhnd_X2_begin⟩
theorem zl_X2_27 : Cond.methodLink RX2 27 yX2_addKeys ∈ zB := zin3 180 rfl rfl
theorem zs_X2_27 : zSS RX2 27 yX2_addKeys cX2_addKeys 7 none 5 := ⟨zl_X2_27, zstat_X2_addKeys, zini_X2, zcode_X2_addKeys, zhnd_X2_addKeys⟩
theorem zl_X2_36 : Cond.methodLink RX2 36 yX1_costOf ∈ zB := zin3 183 rfl rfl
theorem zs_X2_36 : zSV RX2 36 yX1_costOf cX1_costOf 3 (some .int) 2 := ⟨zl_X2_36, zinst_X1_costOf, zsel_X1_costOf, zini_X1, zcode_X1_costOf, zhnd_X1_costOf⟩
theorem zl_X2_40 : Cond.methodLink RX2 40 yX2_shiftOf ∈ zB := zin3 184 rfl rfl
theorem zs_X2_40 : zSS RX2 40 yX2_shiftOf cX2_shiftOf 1 (some .int) 1 := ⟨zl_X2_40, zstat_X2_shiftOf, zini_X2, zcode_X2_shiftOf, zhnd_X2_shiftOf⟩
theorem zl_L_235 : Cond.methodLink RL 235 yL_nextSum ∈ zB := zin3 187 rfl rfl
theorem zs_L_235 : zSW RL 235 yL_nextSum cL_nextSum 3 (some .int) [(0, 8, 11, 38), (0, 8, 14, 91)] 2 := ⟨zl_L_235, zstat_L_nextSum, zini_L, zcode_L_nextSum, zhnd_L_nextSum⟩
theorem zl_L_88 : Cond.methodLink RL 88 yX3_nextSum ∈ zB := zin3 191 rfl rfl
theorem zs_L_88 : zSV RL 88 yX3_nextSum cX3_nextSum 1 (some .int) 0 := ⟨zl_L_88, zinst_X3_nextSum, zsel_X3_nextSum, zini_X3, zcode_X3_nextSum, zhnd_X3_nextSum⟩
theorem zl_X3_200 : Cond.methodLink RX3 200 yX2_advance ∈ zB := zin3 210 rfl rfl
theorem zs_X3_200 : zSV RX3 200 yX2_advance cX2_advance 4 none 0 := ⟨zl_X3_200, zinst_X2_advance, zsel_X2_advance, zini_X2, zcode_X2_advance, zhnd_X2_advance⟩
theorem zl_X3_203 : Cond.methodLink RX3 203 yX2_visitedSum ∈ zB := zin3 215 rfl rfl
theorem zs_X3_203 : zSV RX3 203 yX2_visitedSum cX2_visitedSum 1 (some .int) 0 := ⟨zl_X3_203, zinst_X2_visitedSum, zsel_X2_visitedSum, zini_X2, zcode_X2_visitedSum, zhnd_X2_visitedSum⟩
theorem zl_L_238 : Cond.methodLink RL 238 yL_currentColumn ∈ zB := zin3 219 rfl rfl
theorem zs_L_238 : zSW RL 238 yL_currentColumn cL_currentColumn 4 (some .int) [(0, 9, 12, 19), (0, 9, 15, 38)] 3 := ⟨zl_L_238, zstat_L_currentColumn, zini_L, zcode_L_currentColumn, zhnd_L_currentColumn⟩
theorem zl_L_93 : Cond.methodLink RL 93 yX3_currentColumn ∈ zB := zin3 222 rfl rfl
theorem zs_L_93 : zSV RL 93 yX3_currentColumn cX3_currentColumn 2 (some .int) 1 := ⟨zl_L_93, zinst_X3_currentColumn, zsel_X3_currentColumn, zini_X3, zcode_X3_currentColumn, zhnd_X3_currentColumn⟩
theorem zl_X3_206 : Cond.methodLink RX3 206 yX2_visitedColumn ∈ zB := zin3 226 rfl rfl
theorem zs_X3_206 : zSV RX3 206 yX2_visitedColumn cX2_visitedColumn 2 (some .int) 1 := ⟨zl_X3_206, zinst_X2_visitedColumn, zsel_X2_visitedColumn, zini_X2, zcode_X2_visitedColumn, zhnd_X2_visitedColumn⟩
theorem zl_L_250 : Cond.methodLink RL 250 yL_shareOf ∈ zB := zin3 230 rfl rfl
theorem zs_L_250 : zSW RL 250 yL_shareOf cL_shareOf 4 (some .int) [(0, 9, 12, 19)] 3 := ⟨zl_L_250, zstat_L_shareOf, zini_L, zcode_L_shareOf, zhnd_L_shareOf⟩
theorem zl_L_96 : Cond.methodLink RL 96 yX3_shareOf ∈ zB := zin3 233 rfl rfl
theorem zs_L_96 : zSV RL 96 yX3_shareOf cX3_shareOf 3 (some .float) 1 := ⟨zl_L_96, zinst_X3_shareOf, zsel_X3_shareOf, zini_X3, zcode_X3_shareOf, zhnd_X3_shareOf⟩
theorem zl_X3_212 : Cond.methodLink RX3 212 yX3_assigned ∈ zB := zin3 237 rfl rfl
theorem zs_X3_212 : zSV RX3 212 yX3_assigned cX3_assigned 2 (some .int) 1 := ⟨zl_X3_212, zinst_X3_assigned, zsel_X3_assigned, zini_X3, zcode_X3_assigned, zhnd_X3_assigned⟩
theorem zl_L_103 : Cond.methodLink RL 103 yX4_init ∈ zB := zin4 0 rfl rfl
theorem zs_L_103 : zSI RL 103 yX4_init cX4_init 1 0 := ⟨zl_L_103, zinst_X4_init, zini_X4, zcode_X4_init, rfl, zhnd_X4_init⟩
theorem zl_L_110 : Cond.methodLink RL 110 yX4_thrown ∈ zB := zin4 77 rfl rfl
theorem zs_L_110 : zSV RL 110 yX4_thrown cX4_thrown 1 (some .int) 0 := ⟨zl_L_110, zinst_X4_thrown, zsel_X4_thrown, zini_X4, zcode_X4_thrown, zhnd_X4_thrown⟩
theorem zl_L_109 : Cond.methodLink RL 109 yX4_resize ∈ zB := zin4 81 rfl rfl
theorem zs_L_109 : zSV RL 109 yX4_resize cX4_resize 4 (some .int) 2 := ⟨zl_L_109, zinst_X4_resize, zsel_X4_resize, zini_X4, zcode_X4_resize, zhnd_X4_resize⟩
theorem zl_X4_63 : Cond.methodLink RX4 63 yX4_isIn ∈ zB := zin4 86 rfl rfl
theorem zs_X4_63 : zSS RX4 63 yX4_isIn cX4_isIn 6 (some .boolean) 3 := ⟨zl_X4_63, zstat_X4_isIn, zini_X4, zcode_X4_isIn, zhnd_X4_isIn⟩
theorem zl_X4_118 : Cond.methodLink RX4 118 yX4_isWrong ∈ zB := zin4 89 rfl rfl
theorem zs_X4_118 : zSV RX4 118 yX4_isWrong cX4_isWrong 2 (some .boolean) 1 := ⟨zl_X4_118, zinst_X4_isWrong, zsel_X4_isWrong, zini_X4, zcode_X4_isWrong, zhnd_X4_isWrong⟩
theorem zl_L_116 : Cond.methodLink RL 116 yX4_setCost ∈ zB := zin4 93 rfl rfl
theorem zs_L_116 : zSV RL 116 yX4_setCost cX4_setCost 5 (some .int) 3 := ⟨zl_L_116, zinst_X4_setCost, zsel_X4_setCost, zini_X4, zcode_X4_setCost, zhnd_X4_setCost⟩
theorem zl_X4_122 : Cond.methodLink RX4 122 yX4_isRow ∈ zB := zin4 97 rfl rfl
theorem zs_X4_122 : zSV RX4 122 yX4_isRow cX4_isRow 2 (some .boolean) 1 := ⟨zl_X4_122, zinst_X4_isRow, zsel_X4_isRow, zini_X4, zcode_X4_isRow, zhnd_X4_isRow⟩
theorem zl_X4_125 : Cond.methodLink RX4 125 yX4_isReal ∈ zB := zin4 101 rfl rfl
theorem zs_X4_125 : zSV RX4 125 yX4_isReal cX4_isReal 2 (some .boolean) 1 := ⟨zl_X4_125, zinst_X4_isReal, zsel_X4_isReal, zini_X4, zcode_X4_isReal, zhnd_X4_isReal⟩
theorem zl_L_122 : Cond.methodLink RL 122 yX4_setRow ∈ zB := zin4 106 rfl rfl
theorem zs_L_122 : zSV RL 122 yX4_setRow cX4_setRow 11 (some .int) 2 := ⟨zl_L_122, zinst_X4_setRow, zsel_X4_setRow, zini_X4, zcode_X4_setRow, zhnd_X4_setRow⟩
theorem zl_L_125 : Cond.methodLink RL 125 yX4_fill ∈ zB := zin4 111 rfl rfl
theorem zs_L_125 : zSV RL 125 yX4_fill cX4_fill 7 (some .int) 2 := ⟨zl_L_125, zinst_X4_fill, zsel_X4_fill, zini_X4, zcode_X4_fill, zhnd_X4_fill⟩
theorem zl_L_129 : Cond.methodLink RL 129 yX4_setForbidden ∈ zB := zin4 116 rfl rfl
theorem zs_L_129 : zSV RL 129 yX4_setForbidden cX4_setForbidden 4 (some .int) 3 := ⟨zl_L_129, zinst_X4_setForbidden, zsel_X4_setForbidden, zini_X4, zcode_X4_setForbidden, zhnd_X4_setForbidden⟩
theorem zl_X4_134 : Cond.methodLink RX4 134 yX4_forbiddenMany ∈ zB := zin4 120 rfl rfl
theorem zs_X4_134 : zSV RX4 134 yX4_forbiddenMany cX4_forbiddenMany 4 (some .int) 0 := ⟨zl_X4_134, zinst_X4_forbiddenMany, zsel_X4_forbiddenMany, zini_X4, zcode_X4_forbiddenMany, zhnd_X4_forbiddenMany⟩
theorem zl_L_132 : Cond.methodLink RL 132 yX4_costAt ∈ zB := zin4 124 rfl rfl
theorem zs_L_132 : zSV RL 132 yX4_costAt cX4_costAt 3 (some .int) 2 := ⟨zl_L_132, zinst_X4_costAt, zsel_X4_costAt, zini_X4, zcode_X4_costAt, zhnd_X4_costAt⟩
theorem zl_X4_75 : Cond.methodLink RX4 75 yX4_cost ∈ zB := zin4 128 rfl rfl
theorem zs_X4_75 : zSV RX4 75 yX4_cost cX4_cost 3 (some .int) 2 := ⟨zl_X4_75, zinst_X4_cost, zsel_X4_cost, zini_X4, zcode_X4_cost, zhnd_X4_cost⟩
theorem zl_L_135 : Cond.methodLink RL 135 yX4_addToRow ∈ zB := zin4 132 rfl rfl
theorem zs_L_135 : zSV RL 135 yX4_addToRow cX4_addToRow 5 (some .int) 2 := ⟨zl_L_135, zinst_X4_addToRow, zsel_X4_addToRow, zini_X4, zcode_X4_addToRow, zhnd_X4_addToRow⟩
theorem zl_X4_140 : Cond.methodLink RX4 140 yX4_takes ∈ zB := zin4 137 rfl rfl
theorem zs_X4_140 : zSV RX4 140 yX4_takes cX4_takes 4 (some .boolean) 3 := ⟨zl_X4_140, zinst_X4_takes, zsel_X4_takes, zini_X4, zcode_X4_takes, zhnd_X4_takes⟩
theorem zl_X4_144 : Cond.methodLink RX4 144 yX4_rowSum ∈ zB := zin4 141 rfl rfl
theorem zs_X4_144 : zSV RX4 144 yX4_rowSum cX4_rowSum 4 (some .int) 1 := ⟨zl_X4_144, zinst_X4_rowSum, zsel_X4_rowSum, zini_X4, zcode_X4_rowSum, zhnd_X4_rowSum⟩
theorem zl_L_138 : Cond.methodLink RL 138 yX4_addToColumn ∈ zB := zin4 145 rfl rfl
theorem zs_L_138 : zSV RL 138 yX4_addToColumn cX4_addToColumn 5 (some .int) 2 := ⟨zl_L_138, zinst_X4_addToColumn, zsel_X4_addToColumn, zini_X4, zcode_X4_addToColumn, zhnd_X4_addToColumn⟩
theorem zl_X4_147 : Cond.methodLink RX4 147 yX4_columnSum ∈ zB := zin4 149 rfl rfl
theorem zs_X4_147 : zSV RX4 147 yX4_columnSum cX4_columnSum 4 (some .int) 1 := ⟨zl_X4_147, zinst_X4_columnSum, zsel_X4_columnSum, zini_X4, zcode_X4_columnSum, zhnd_X4_columnSum⟩
theorem zl_L_141 : Cond.methodLink RL 141 yX4_swapRows ∈ zB := zin4 153 rfl rfl
theorem zs_L_141 : zSV RL 141 yX4_swapRows cX4_swapRows 4 (some .int) 2 := ⟨zl_L_141, zinst_X4_swapRows, zsel_X4_swapRows, zini_X4, zcode_X4_swapRows, zhnd_X4_swapRows⟩
theorem zl_X4_150 : Cond.methodLink RX4 150 yX4_exchangeCells ∈ zB := zin4 157 rfl rfl
theorem zs_X4_150 : zSV RX4 150 yX4_exchangeCells cX4_exchangeCells 5 none 2 := ⟨zl_X4_150, zinst_X4_exchangeCells, zsel_X4_exchangeCells, zini_X4, zcode_X4_exchangeCells, zhnd_X4_exchangeCells⟩
theorem zl_L_144 : Cond.methodLink RL 144 yX4_swapColumns ∈ zB := zin4 161 rfl rfl
theorem zs_L_144 : zSV RL 144 yX4_swapColumns cX4_swapColumns 4 (some .int) 2 := ⟨zl_L_144, zinst_X4_swapColumns, zsel_X4_swapColumns, zini_X4, zcode_X4_swapColumns, zhnd_X4_swapColumns⟩
theorem zl_L_148 : Cond.methodLink RL 148 yX4_transpose ∈ zB := zin4 165 rfl rfl
theorem zs_L_148 : zSV RL 148 yX4_transpose cX4_transpose 3 (some .int) 0 := ⟨zl_L_148, zinst_X4_transpose, zsel_X4_transpose, zini_X4, zcode_X4_transpose, zhnd_X4_transpose⟩
theorem zl_L_152 : Cond.methodLink RL 152 yX4_save ∈ zB := zin4 169 rfl rfl
theorem zs_L_152 : zSV RL 152 yX4_save cX4_save 2 (some .int) 0 := ⟨zl_L_152, zinst_X4_save, zsel_X4_save, zini_X4, zcode_X4_save, zhnd_X4_save⟩
theorem zl_X4_153 : Cond.methodLink RX4 153 yX4_total ∈ zB := zin4 173 rfl rfl
theorem zs_X4_153 : zSV RX4 153 yX4_total cX4_total 3 (some .int) 0 := ⟨zl_X4_153, zinst_X4_total, zsel_X4_total, zini_X4, zcode_X4_total, zhnd_X4_total⟩
theorem zl_L_156 : Cond.methodLink RL 156 yX4_restore ∈ zB := zin4 177 rfl rfl
theorem zs_L_156 : zSV RL 156 yX4_restore cX4_restore 2 (some .int) 0 := ⟨zl_L_156, zinst_X4_restore, zsel_X4_restore, zini_X4, zcode_X4_restore, zhnd_X4_restore⟩
theorem zl_L_160 : Cond.methodLink RL 160 yX4_distance ∈ zB := zin4 181 rfl rfl
theorem zs_L_160 : zSV RL 160 yX4_distance cX4_distance 5 (some .int) 0 := ⟨zl_L_160, zinst_X4_distance, zsel_X4_distance, zini_X4, zcode_X4_distance, zhnd_X4_distance⟩
theorem zl_X4_156 : Cond.methodLink RX4 156 yX4_savedCost ∈ zB := zin4 185 rfl rfl
theorem zs_X4_156 : zSV RX4 156 yX4_savedCost cX4_savedCost 3 (some .int) 2 := ⟨zl_X4_156, zinst_X4_savedCost, zsel_X4_savedCost, zini_X4, zcode_X4_savedCost, zhnd_X4_savedCost⟩
theorem zl_L_164 : Cond.methodLink RL 164 yX4_rows ∈ zB := zin4 189 rfl rfl
theorem zs_L_164 : zSV RL 164 yX4_rows cX4_rows 1 (some .int) 0 := ⟨zl_L_164, zinst_X4_rows, zsel_X4_rows, zini_X4, zcode_X4_rows, zhnd_X4_rows⟩
theorem zl_L_168 : Cond.methodLink RL 168 yX4_columns ∈ zB := zin4 193 rfl rfl
theorem zs_L_168 : zSV RL 168 yX4_columns cX4_columns 1 (some .int) 0 := ⟨zl_L_168, zinst_X4_columns, zsel_X4_columns, zini_X4, zcode_X4_columns, zhnd_X4_columns⟩
theorem zl_L_172 : Cond.methodLink RL 172 yX4_forbiddenCount ∈ zB := zin4 197 rfl rfl
theorem zs_L_172 : zSV RL 172 yX4_forbiddenCount cX4_forbiddenCount 1 (some .int) 0 := ⟨zl_L_172, zinst_X4_forbiddenCount, zsel_X4_forbiddenCount, zini_X4, zcode_X4_forbiddenCount, zhnd_X4_forbiddenCount⟩
theorem zl_L_176 : Cond.methodLink RL 176 yX4_totalCost ∈ zB := zin4 201 rfl rfl
theorem zs_L_176 : zSV RL 176 yX4_totalCost cX4_totalCost 1 (some .int) 0 := ⟨zl_L_176, zinst_X4_totalCost, zsel_X4_totalCost, zini_X4, zcode_X4_totalCost, zhnd_X4_totalCost⟩
theorem zl_L_180 : Cond.methodLink RL 180 yX4_minimum ∈ zB := zin4 205 rfl rfl
theorem zs_L_180 : zSV RL 180 yX4_minimum cX4_minimum 1 (some .int) 0 := ⟨zl_L_180, zinst_X4_minimum, zsel_X4_minimum, zini_X4, zcode_X4_minimum, zhnd_X4_minimum⟩
theorem zl_X4_114 : Cond.methodLink RX4 114 yX4_look_ ∈ zB := zin4 209 rfl rfl
theorem zs_X4_114 : zSV RX4 114 yX4_look_ cX4_look_ 1 none 0 := ⟨zl_X4_114, zinst_X4_look_, zsel_X4_look_, zini_X4, zcode_X4_look_, zhnd_X4_look_⟩
theorem zl_X4_108 : Cond.methodLink RX4 108 yX4_take ∈ zB := zin4 213 rfl rfl
theorem zs_X4_108 : zSV RX4 108 yX4_take cX4_take 3 none 0 := ⟨zl_X4_108, zinst_X4_take, zsel_X4_take, zini_X4, zcode_X4_take, zhnd_X4_take⟩
theorem zl_X4_111 : Cond.methodLink RX4 111 yX4_look ∈ zB := zin4 217 rfl rfl
theorem zs_X4_111 : zSV RX4 111 yX4_look cX4_look 3 none 1 := ⟨zl_X4_111, zinst_X4_look, zsel_X4_look, zini_X4, zcode_X4_look, zhnd_X4_look⟩
theorem zl_X4_95 : Cond.methodLink RX4 95 yX4_begin ∈ zB := zin4 222 rfl rfl
theorem zs_X4_95 : zSV RX4 95 yX4_begin cX4_begin 2 none 0 := ⟨zl_X4_95, zinst_X4_begin, zsel_X4_begin, zini_X4, zcode_X4_begin, zhnd_X4_begin⟩
theorem zl_X4_67 : Cond.methodLink RX4 67 yX4_factorial ∈ zB := zin4 226 rfl rfl
theorem zs_X4_67 : zSS RX4 67 yX4_factorial cX4_factorial 1 (some .int) 1 := ⟨zl_X4_67, zstat_X4_factorial, zini_X4, zcode_X4_factorial, zhnd_X4_factorial⟩
theorem zl_X4_98 : Cond.methodLink RX4 98 yX4_sum ∈ zB := zin4 229 rfl rfl
theorem zs_X4_98 : zSV RX4 98 yX4_sum cX4_sum 4 (some .int) 1 := ⟨zl_X4_98, zinst_X4_sum, zsel_X4_sum, zini_X4, zcode_X4_sum, zhnd_X4_sum⟩
theorem zl_X4_101 : Cond.methodLink RX4 101 yX4_see ∈ zB := zin4 233 rfl rfl
theorem zs_X4_101 : zSV RX4 101 yX4_see cX4_see 6 none 2 := ⟨zl_X4_101, zinst_X4_see, zsel_X4_see, zini_X4, zcode_X4_see, zhnd_X4_see⟩
theorem zl_X4_104 : Cond.methodLink RX4 104 yX4_goOn ∈ zB := zin4 237 rfl rfl
theorem zs_X4_104 : zSV RX4 104 yX4_goOn cX4_goOn 6 none 1 := ⟨zl_X4_104, zinst_X4_goOn, zsel_X4_goOn, zini_X4, zcode_X4_goOn, zhnd_X4_goOn⟩
theorem zl_X4_71 : Cond.methodLink RX4 71 yX4_exchange ∈ zB := zin5 1 rfl rfl
theorem zs_X4_71 : zSV RX4 71 yX4_exchange cX4_exchange 4 none 2 := ⟨zl_X4_71, zinst_X4_exchange, zsel_X4_exchange, zini_X4, zcode_X4_exchange, zhnd_X4_exchange⟩
theorem zl_L_184 : Cond.methodLink RL 184 yX4_savedMinimum ∈ zB := zin5 5 rfl rfl
theorem zs_L_184 : zSV RL 184 yX4_savedMinimum cX4_savedMinimum 3 (some .int) 0 := ⟨zl_L_184, zinst_X4_savedMinimum, zsel_X4_savedMinimum, zini_X4, zcode_X4_savedMinimum, zhnd_X4_savedMinimum⟩
theorem zl_L_188 : Cond.methodLink RL 188 yX4_assigned ∈ zB := zin5 9 rfl rfl
theorem zs_L_188 : zSV RL 188 yX4_assigned cX4_assigned 2 (some .int) 1 := ⟨zl_L_188, zinst_X4_assigned, zsel_X4_assigned, zini_X4, zcode_X4_assigned, zhnd_X4_assigned⟩
theorem zl_L_192 : Cond.methodLink RL 192 yX4_optimalCount ∈ zB := zin5 13 rfl rfl
theorem zs_L_192 : zSV RL 192 yX4_optimalCount cX4_optimalCount 1 (some .int) 0 := ⟨zl_L_192, zinst_X4_optimalCount, zsel_X4_optimalCount, zini_X4, zcode_X4_optimalCount, zhnd_X4_optimalCount⟩
theorem zl_L_195 : Cond.methodLink RL 195 yX4_rowPotential ∈ zB := zin5 17 rfl rfl
theorem zs_L_195 : zSV RL 195 yX4_rowPotential cX4_rowPotential 2 (some .int) 1 := ⟨zl_L_195, zinst_X4_rowPotential, zsel_X4_rowPotential, zini_X4, zcode_X4_rowPotential, zhnd_X4_rowPotential⟩
theorem zl_X4_159 : Cond.methodLink RX4 159 yX4_findPotentials ∈ zB := zin5 21 rfl rfl
theorem zs_X4_159 : zSV RX4 159 yX4_findPotentials cX4_findPotentials 4 none 0 := ⟨zl_X4_159, zinst_X4_findPotentials, zsel_X4_findPotentials, zini_X4, zcode_X4_findPotentials, zhnd_X4_findPotentials⟩
theorem zl_L_198 : Cond.methodLink RL 198 yX4_columnPotential ∈ zB := zin5 25 rfl rfl
theorem zs_L_198 : zSV RL 198 yX4_columnPotential cX4_columnPotential 2 (some .int) 1 := ⟨zl_L_198, zinst_X4_columnPotential, zsel_X4_columnPotential, zini_X4, zcode_X4_columnPotential, zhnd_X4_columnPotential⟩
theorem zl_L_201 : Cond.methodLink RL 201 yX4_reducedCost ∈ zB := zin5 29 rfl rfl
theorem zs_L_201 : zSV RL 201 yX4_reducedCost cX4_reducedCost 3 (some .int) 2 := ⟨zl_L_201, zinst_X4_reducedCost, zsel_X4_reducedCost, zini_X4, zcode_X4_reducedCost, zhnd_X4_reducedCost⟩
theorem zl_X4_162 : Cond.methodLink RX4 162 yX4_reduced ∈ zB := zin5 33 rfl rfl
theorem zs_X4_162 : zSV RX4 162 yX4_reduced cX4_reduced 3 (some .int) 2 := ⟨zl_X4_162, zinst_X4_reduced, zsel_X4_reduced, zini_X4, zcode_X4_reduced, zhnd_X4_reduced⟩
theorem zl_L_204 : Cond.methodLink RL 204 yX4_minimumWith ∈ zB := zin5 37 rfl rfl
theorem zs_L_204 : zSV RL 204 yX4_minimumWith cX4_minimumWith 3 (some .int) 2 := ⟨zl_L_204, zinst_X4_minimumWith, zsel_X4_minimumWith, zini_X4, zcode_X4_minimumWith, zhnd_X4_minimumWith⟩
theorem zl_L_207 : Cond.methodLink RL 207 yX4_minimumWithout ∈ zB := zin5 41 rfl rfl
theorem zs_L_207 : zSV RL 207 yX4_minimumWithout cX4_minimumWithout 3 (some .int) 2 := ⟨zl_L_207, zinst_X4_minimumWithout, zsel_X4_minimumWithout, zini_X4, zcode_X4_minimumWithout, zhnd_X4_minimumWithout⟩
theorem zl_X4_165 : Cond.methodLink RX4 165 yX4_without ∈ zB := zin5 45 rfl rfl
theorem zs_X4_165 : zSV RX4 165 yX4_without cX4_without 5 (some .int) 2 := ⟨zl_X4_165, zinst_X4_without, zsel_X4_without, zini_X4, zcode_X4_without, zhnd_X4_without⟩
theorem zl_L_210 : Cond.methodLink RL 210 yX4_minimumIfCost ∈ zB := zin5 49 rfl rfl
theorem zs_L_210 : zSV RL 210 yX4_minimumIfCost cX4_minimumIfCost 4 (some .int) 3 := ⟨zl_L_210, zinst_X4_minimumIfCost, zsel_X4_minimumIfCost, zini_X4, zcode_X4_minimumIfCost, zhnd_X4_minimumIfCost⟩
theorem zl_L_214 : Cond.methodLink RL 214 yX4_secondBest ∈ zB := zin5 53 rfl rfl
theorem zs_L_214 : zSV RL 214 yX4_secondBest cX4_secondBest 1 (some .int) 0 := ⟨zl_L_214, zinst_X4_secondBest, zsel_X4_secondBest, zini_X4, zcode_X4_secondBest, zhnd_X4_secondBest⟩
theorem zl_L_218 : Cond.methodLink RL 218 yX4_maximum ∈ zB := zin5 57 rfl rfl
theorem zs_L_218 : zSV RL 218 yX4_maximum cX4_maximum 1 (some .int) 0 := ⟨zl_L_218, zinst_X4_maximum, zsel_X4_maximum, zini_X4, zcode_X4_maximum, zhnd_X4_maximum⟩
theorem zl_L_222 : Cond.methodLink RL 222 yX4_bottleneck ∈ zB := zin5 61 rfl rfl
theorem zs_L_222 : zSV RL 222 yX4_bottleneck cX4_bottleneck 1 (some .int) 0 := ⟨zl_L_222, zinst_X4_bottleneck, zsel_X4_bottleneck, zini_X4, zcode_X4_bottleneck, zhnd_X4_bottleneck⟩
theorem zl_L_225 : Cond.methodLink RL 225 yX4_fits ∈ zB := zin5 65 rfl rfl
theorem zs_L_225 : zSV RL 225 yX4_fits cX4_fits 2 (some .boolean) 1 := ⟨zl_L_225, zinst_X4_fits, zsel_X4_fits, zini_X4, zcode_X4_fits, zhnd_X4_fits⟩
theorem zl_L_228 : Cond.methodLink RL 228 yX4_countWithin ∈ zB := zin5 70 rfl rfl
theorem zs_L_228 : zSV RL 228 yX4_countWithin cX4_countWithin 4 (some .int) 1 := ⟨zl_L_228, zinst_X4_countWithin, zsel_X4_countWithin, zini_X4, zcode_X4_countWithin, zhnd_X4_countWithin⟩
theorem zl_L_231 : Cond.methodLink RL 231 yX4_sumOf ∈ zB := zin5 75 rfl rfl
theorem zs_L_231 : zSV RL 231 yX4_sumOf cX4_sumOf 7 (some .int) 1 := ⟨zl_L_231, zinst_X4_sumOf, zsel_X4_sumOf, zini_X4, zcode_X4_sumOf, zhnd_X4_sumOf⟩
theorem zl_L_234 : Cond.methodLink RL 234 yX4_startEnumeration ∈ zB := zin5 79 rfl rfl
theorem zs_L_234 : zSV RL 234 yX4_startEnumeration cX4_startEnumeration 1 (some .int) 0 := ⟨zl_L_234, zinst_X4_startEnumeration, zsel_X4_startEnumeration, zini_X4, zcode_X4_startEnumeration, zhnd_X4_startEnumeration⟩
theorem zl_L_237 : Cond.methodLink RL 237 yX4_nextSum ∈ zB := zin5 83 rfl rfl
theorem zs_L_237 : zSV RL 237 yX4_nextSum cX4_nextSum 7 (some .int) 0 := ⟨zl_L_237, zinst_X4_nextSum, zsel_X4_nextSum, zini_X4, zcode_X4_nextSum, zhnd_X4_nextSum⟩
theorem zl_L_240 : Cond.methodLink RL 240 yX4_currentColumn ∈ zB := zin5 87 rfl rfl
theorem zs_L_240 : zSV RL 240 yX4_currentColumn cX4_currentColumn 2 (some .int) 1 := ⟨zl_L_240, zinst_X4_currentColumn, zsel_X4_currentColumn, zini_X4, zcode_X4_currentColumn, zhnd_X4_currentColumn⟩
theorem zl_L_244 : Cond.methodLink RL 244 yX4_stepsMade ∈ zB := zin5 91 rfl rfl
theorem zs_L_244 : zSV RL 244 yX4_stepsMade cX4_stepsMade 1 (some .int) 0 := ⟨zl_L_244, zinst_X4_stepsMade, zsel_X4_stepsMade, zini_X4, zcode_X4_stepsMade, zhnd_X4_stepsMade⟩
theorem zl_L_249 : Cond.methodLink RL 249 yX4_meanCost ∈ zB := zin5 95 rfl rfl
theorem zs_L_249 : zSV RL 249 yX4_meanCost cX4_meanCost 1 (some .double) 0 := ⟨zl_L_249, zinst_X4_meanCost, zsel_X4_meanCost, zini_X4, zcode_X4_meanCost, zhnd_X4_meanCost⟩
theorem zl_L_253 : Cond.methodLink RL 253 yX4_shareOf ∈ zB := zin5 99 rfl rfl
theorem zs_L_253 : zSV RL 253 yX4_shareOf cX4_shareOf 2 (some .float) 1 := ⟨zl_L_253, zinst_X4_shareOf, zsel_X4_shareOf, zini_X4, zcode_X4_shareOf, zhnd_X4_shareOf⟩
theorem zl_L_258 : Cond.methodLink RL 258 yX4_checksum ∈ zB := zin5 103 rfl rfl
theorem zs_L_258 : zSV RL 258 yX4_checksum cX4_checksum 5 (some .long) 0 := ⟨zl_L_258, zinst_X4_checksum, zsel_X4_checksum, zini_X4, zcode_X4_checksum, zhnd_X4_checksum⟩
theorem zl_L_263 : Cond.methodLink RL 263 yX4_isSound ∈ zB := zin5 109 rfl rfl
theorem zs_L_263 : zSV RL 263 yX4_isSound cX4_isSound 5 (some .boolean) 0 := ⟨zl_L_263, zinst_X4_isSound, zsel_X4_isSound, zini_X4, zcode_X4_isSound, zhnd_X4_isSound⟩
theorem zl_X4_182 : Cond.methodLink RX4 182 yX4_fits ∈ zB := zin5 113 rfl rfl
theorem zs_X4_182 : zSV RX4 182 yX4_fits cX4_fits 2 (some .boolean) 1 := ⟨zl_X4_182, zinst_X4_fits, zsel_X4_fits, zini_X4, zcode_X4_fits, zhnd_X4_fits⟩
theorem zt_X3_43 : zThr RX3 43 45 "java/lang/IllegalArgumentException" := ⟨zw_X3_k43, zin1 9 rfl rfl, fun w h => zB_of ((by decide +kernel : ∀ w ∈ vx_at0 RX3 45 "java/lang/IllegalArgumentException" ["java/lang/RuntimeException", "java/lang/Exception"], w ∈ lw_tbl) w h) (List.all_eq_true.mp (by decide +kernel : (vx_at0 RX3 45 "java/lang/IllegalArgumentException" ["java/lang/RuntimeException", "java/lang/Exception"]).all zgood = true) w h), by decide +kernel⟩
theorem zt_X3_181 : zThr RX3 181 183 "java/lang/IllegalStateException" := ⟨zw_X3_k181, zin1 12 rfl rfl, fun w h => zB_of ((by decide +kernel : ∀ w ∈ vx_at0 RX3 183 "java/lang/IllegalStateException" ["java/lang/RuntimeException", "java/lang/Exception"], w ∈ lw_tbl) w h) (List.all_eq_true.mp (by decide +kernel : (vx_at0 RX3 183 "java/lang/IllegalStateException" ["java/lang/RuntimeException", "java/lang/Exception"]).all zgood = true) w h), by decide +kernel⟩
theorem zt_X3_197 : zThr RX3 197 199 "java/util/NoSuchElementException" := ⟨zw_X3_k197, zin1 14 rfl rfl, fun w h => zB_of ((by decide +kernel : ∀ w ∈ vx_at0 RX3 199 "java/util/NoSuchElementException" ["java/lang/RuntimeException", "java/lang/Exception"], w ∈ lw_tbl) w h) (List.all_eq_true.mp (by decide +kernel : (vx_at0 RX3 199 "java/util/NoSuchElementException" ["java/lang/RuntimeException", "java/lang/Exception"]).all zgood = true) w h), by decide +kernel⟩
theorem zt_X3_247 : zThr RX3 247 249 "java/lang/IndexOutOfBoundsException" := ⟨zw_X3_k247, zin1 10 rfl rfl, fun w h => zB_of ((by decide +kernel : ∀ w ∈ vx_at0 RX3 249 "java/lang/IndexOutOfBoundsException" ["java/lang/RuntimeException", "java/lang/Exception"], w ∈ lw_tbl) w h) (List.all_eq_true.mp (by decide +kernel : (vx_at0 RX3 249 "java/lang/IndexOutOfBoundsException" ["java/lang/RuntimeException", "java/lang/Exception"]).all zgood = true) w h), by decide +kernel⟩
end
section
theorem zz_end : True := trivial
end
