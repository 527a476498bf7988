-- ===== PART A: goes FIRST, ahead of the names: the tables' words, and 'selects' of the private methods out of them =====
/-- a private method of a class that the tables say can be made, by its rows of tables_1 -/
def lw_okq (q : MethodName × Nat) : Prop := (q.1.cls ≠ "java/lang/invoke/MethodHandle" ∧ q.1.cls ≠ "java/lang/invoke/VarHandle") ∧ Cond.instantiable q.1.cls q.2 ∈ tables_1 ∧ Cond.privateMethod q.1 ∈ tables_1 ∧ Cond.instanceMethod q.1 ∈ tables_1
theorem lw_p0 : lw_okq (⟨"BooleanConstraints$Instance", "countSolutions", "()I"⟩, 7) := ⟨⟨by decide +kernel, by decide +kernel⟩, List.mem_of_getElem? (i := 24) (by decide +kernel), List.mem_of_getElem? (i := 104) (by decide +kernel), List.mem_of_getElem? (i := 105) (by decide +kernel)⟩
theorem lw_p1 : lw_okq (⟨"BooleanConstraints$Instance", "wordCount", "()I"⟩, 7) := ⟨⟨by decide +kernel, by decide +kernel⟩, List.mem_of_getElem? (i := 24) (by decide +kernel), List.mem_of_getElem? (i := 108) (by decide +kernel), List.mem_of_getElem? (i := 109) (by decide +kernel)⟩
theorem lw_p2 : lw_okq (⟨"BooleanConstraints$Instance", "solutionsIn", "(II)J"⟩, 7) := ⟨⟨by decide +kernel, by decide +kernel⟩, List.mem_of_getElem? (i := 24) (by decide +kernel), List.mem_of_getElem? (i := 112) (by decide +kernel), List.mem_of_getElem? (i := 113) (by decide +kernel)⟩
theorem lw_p3 : lw_okq (⟨"BooleanConstraints$Instance", "assignmentsOfAWord", "()J"⟩, 7) := ⟨⟨by decide +kernel, by decide +kernel⟩, List.mem_of_getElem? (i := 24) (by decide +kernel), List.mem_of_getElem? (i := 116) (by decide +kernel), List.mem_of_getElem? (i := 117) (by decide +kernel)⟩
theorem lw_p4 : lw_okq (⟨"BooleanConstraints$Instance", "satisfying", "(II)J"⟩, 7) := ⟨⟨by decide +kernel, by decide +kernel⟩, List.mem_of_getElem? (i := 24) (by decide +kernel), List.mem_of_getElem? (i := 124) (by decide +kernel), List.mem_of_getElem? (i := 125) (by decide +kernel)⟩
theorem lw_p5 : lw_okq (⟨"BooleanConstraints$Instance", "isSpare", "(II)Z"⟩, 7) := ⟨⟨by decide +kernel, by decide +kernel⟩, List.mem_of_getElem? (i := 24) (by decide +kernel), List.mem_of_getElem? (i := 152) (by decide +kernel), List.mem_of_getElem? (i := 153) (by decide +kernel)⟩
theorem lw_p6 : lw_okq (⟨"BooleanConstraints$Instance", "removeConstraints", "(I)V"⟩, 7) := ⟨⟨by decide +kernel, by decide +kernel⟩, List.mem_of_getElem? (i := 24) (by decide +kernel), List.mem_of_getElem? (i := 156) (by decide +kernel), List.mem_of_getElem? (i := 157) (by decide +kernel)⟩
theorem lw_p7 : lw_okq (⟨"BooleanConstraints$Instance", "copyFrom", "(LBooleanConstraints$Instance;)V"⟩, 7) := ⟨⟨by decide +kernel, by decide +kernel⟩, List.mem_of_getElem? (i := 24) (by decide +kernel), List.mem_of_getElem? (i := 170) (by decide +kernel), List.mem_of_getElem? (i := 171) (by decide +kernel)⟩
theorem lw_p8 : lw_okq (⟨"java/lang/Throwable", "fillInStackTrace", "(I)Ljava/lang/Throwable;"⟩, 6) := ⟨⟨by decide +kernel, by decide +kernel⟩, List.mem_of_getElem? (i := 229) (by decide +kernel), List.mem_of_getElem? (i := 227) (by decide +kernel), List.mem_of_getElem? (i := 228) (by decide +kernel)⟩
theorem lw_p9 : lw_okq (⟨"BooleanConstraints", "addNew", "(II)I"⟩, 10) := ⟨⟨by decide +kernel, by decide +kernel⟩, List.mem_of_getElem? (i := 16) (by decide +kernel), List.mem_of_getElem? (i := 259) (by decide +kernel), List.mem_of_getElem? (i := 260) (by decide +kernel)⟩
theorem lw_p10 : lw_okq (⟨"BooleanConstraints", "requireRoomForRelation", "()V"⟩, 10) := ⟨⟨by decide +kernel, by decide +kernel⟩, List.mem_of_getElem? (i := 16) (by decide +kernel), List.mem_of_getElem? (i := 263) (by decide +kernel), List.mem_of_getElem? (i := 264) (by decide +kernel)⟩
theorem lw_p11 : lw_okq (⟨"BooleanConstraints", "requireRelation", "(I)V"⟩, 10) := ⟨⟨by decide +kernel, by decide +kernel⟩, List.mem_of_getElem? (i := 16) (by decide +kernel), List.mem_of_getElem? (i := 317) (by decide +kernel), List.mem_of_getElem? (i := 318) (by decide +kernel)⟩
theorem lw_p12 : lw_okq (⟨"BooleanConstraints", "requireTuple", "(II)V"⟩, 10) := ⟨⟨by decide +kernel, by decide +kernel⟩, List.mem_of_getElem? (i := 16) (by decide +kernel), List.mem_of_getElem? (i := 337) (by decide +kernel), List.mem_of_getElem? (i := 338) (by decide +kernel)⟩
theorem lw_p13 : lw_okq (⟨"BooleanConstraints", "requirePosition", "(II)V"⟩, 10) := ⟨⟨by decide +kernel, by decide +kernel⟩, List.mem_of_getElem? (i := 16) (by decide +kernel), List.mem_of_getElem? (i := 400) (by decide +kernel), List.mem_of_getElem? (i := 401) (by decide +kernel)⟩
theorem lw_p14 : lw_okq (⟨"BooleanConstraints", "isPreserved", "(III)Z"⟩, 10) := ⟨⟨by decide +kernel, by decide +kernel⟩, List.mem_of_getElem? (i := 16) (by decide +kernel), List.mem_of_getElem? (i := 443) (by decide +kernel), List.mem_of_getElem? (i := 444) (by decide +kernel)⟩
theorem lw_p15 : lw_okq (⟨"BooleanConstraints", "areAllPreserved", "(II)Z"⟩, 10) := ⟨⟨by decide +kernel, by decide +kernel⟩, List.mem_of_getElem? (i := 16) (by decide +kernel), List.mem_of_getElem? (i := 463) (by decide +kernel), List.mem_of_getElem? (i := 464) (by decide +kernel)⟩
def lw_privs_1 : List (MethodName × Nat) := [(⟨"BooleanConstraints$Instance", "countSolutions", "()I"⟩, 7), (⟨"BooleanConstraints$Instance", "wordCount", "()I"⟩, 7), (⟨"BooleanConstraints$Instance", "solutionsIn", "(II)J"⟩, 7), (⟨"BooleanConstraints$Instance", "assignmentsOfAWord", "()J"⟩, 7), (⟨"BooleanConstraints$Instance", "satisfying", "(II)J"⟩, 7), (⟨"BooleanConstraints$Instance", "isSpare", "(II)Z"⟩, 7), (⟨"BooleanConstraints$Instance", "removeConstraints", "(I)V"⟩, 7), (⟨"BooleanConstraints$Instance", "copyFrom", "(LBooleanConstraints$Instance;)V"⟩, 7), (⟨"java/lang/Throwable", "fillInStackTrace", "(I)Ljava/lang/Throwable;"⟩, 6), (⟨"BooleanConstraints", "addNew", "(II)I"⟩, 10), (⟨"BooleanConstraints", "requireRoomForRelation", "()V"⟩, 10), (⟨"BooleanConstraints", "requireRelation", "(I)V"⟩, 10), (⟨"BooleanConstraints", "requireTuple", "(II)V"⟩, 10), (⟨"BooleanConstraints", "requirePosition", "(II)V"⟩, 10), (⟨"BooleanConstraints", "isPreserved", "(III)Z"⟩, 10), (⟨"BooleanConstraints", "areAllPreserved", "(II)Z"⟩, 10)]
theorem lw_r1 : ∀ q ∈ lw_privs_1, lw_okq q := List.forall_mem_cons.mpr ⟨lw_p0, List.forall_mem_cons.mpr ⟨lw_p1, List.forall_mem_cons.mpr ⟨lw_p2, List.forall_mem_cons.mpr ⟨lw_p3, List.forall_mem_cons.mpr ⟨lw_p4, List.forall_mem_cons.mpr ⟨lw_p5, List.forall_mem_cons.mpr ⟨lw_p6, List.forall_mem_cons.mpr ⟨lw_p7, List.forall_mem_cons.mpr ⟨lw_p8, List.forall_mem_cons.mpr ⟨lw_p9, List.forall_mem_cons.mpr ⟨lw_p10, List.forall_mem_cons.mpr ⟨lw_p11, List.forall_mem_cons.mpr ⟨lw_p12, List.forall_mem_cons.mpr ⟨lw_p13, List.forall_mem_cons.mpr ⟨lw_p14, List.forall_mem_cons.mpr ⟨lw_p15, fun _ h => absurd h List.not_mem_nil⟩⟩⟩⟩⟩⟩⟩⟩⟩⟩⟩⟩⟩⟩⟩⟩
theorem lw_p16 : lw_okq (⟨"BooleanConstraints", "isOfKind", "(I)Z"⟩, 10) := ⟨⟨by decide +kernel, by decide +kernel⟩, List.mem_of_getElem? (i := 16) (by decide +kernel), List.mem_of_getElem? (i := 583) (by decide +kernel), List.mem_of_getElem? (i := 584) (by decide +kernel)⟩
theorem lw_p17 : lw_okq (⟨"BooleanConstraints", "requireVariables", "(IIIII)V"⟩, 10) := ⟨⟨by decide +kernel, by decide +kernel⟩, List.mem_of_getElem? (i := 16) (by decide +kernel), List.mem_of_getElem? (i := 610) (by decide +kernel), List.mem_of_getElem? (i := 611) (by decide +kernel)⟩
theorem lw_p18 : lw_okq (⟨"BooleanConstraints", "requireVariable", "(I)V"⟩, 10) := ⟨⟨by decide +kernel, by decide +kernel⟩, List.mem_of_getElem? (i := 16) (by decide +kernel), List.mem_of_getElem? (i := 614) (by decide +kernel), List.mem_of_getElem? (i := 615) (by decide +kernel)⟩
theorem lw_p19 : lw_okq (⟨"BooleanConstraints$Instance", "findSolution", "(I)I"⟩, 7) := ⟨⟨by decide +kernel, by decide +kernel⟩, List.mem_of_getElem? (i := 24) (by decide +kernel), List.mem_of_getElem? (i := 638) (by decide +kernel), List.mem_of_getElem? (i := 639) (by decide +kernel)⟩
theorem lw_p20 : lw_okq (⟨"BooleanConstraints$Instance", "variablesThatTake", "(I)I"⟩, 7) := ⟨⟨by decide +kernel, by decide +kernel⟩, List.mem_of_getElem? (i := 24) (by decide +kernel), List.mem_of_getElem? (i := 653) (by decide +kernel), List.mem_of_getElem? (i := 654) (by decide +kernel)⟩
theorem lw_p21 : lw_okq (⟨"BooleanConstraints", "requireKindOfLanguage", "(I)V"⟩, 10) := ⟨⟨by decide +kernel, by decide +kernel⟩, List.mem_of_getElem? (i := 16) (by decide +kernel), List.mem_of_getElem? (i := 668) (by decide +kernel), List.mem_of_getElem? (i := 669) (by decide +kernel)⟩
theorem lw_p22 : lw_okq (⟨"BooleanConstraints", "requireSolutions", "()V"⟩, 10) := ⟨⟨by decide +kernel, by decide +kernel⟩, List.mem_of_getElem? (i := 16) (by decide +kernel), List.mem_of_getElem? (i := 688) (by decide +kernel), List.mem_of_getElem? (i := 689) (by decide +kernel)⟩
theorem lw_p23 : lw_okq (⟨"BooleanConstraints$Instance", "greatestAssignment", "()I"⟩, 7) := ⟨⟨by decide +kernel, by decide +kernel⟩, List.mem_of_getElem? (i := 24) (by decide +kernel), List.mem_of_getElem? (i := 693) (by decide +kernel), List.mem_of_getElem? (i := 694) (by decide +kernel)⟩
theorem lw_p24 : lw_okq (⟨"BooleanConstraints$Instance", "hasSolutionWith", "(IIII)Z"⟩, 7) := ⟨⟨by decide +kernel, by decide +kernel⟩, List.mem_of_getElem? (i := 24) (by decide +kernel), List.mem_of_getElem? (i := 711) (by decide +kernel), List.mem_of_getElem? (i := 712) (by decide +kernel)⟩
theorem lw_p25 : lw_okq (⟨"BooleanConstraints$Instance", "tuplesOfSolutions", "(II)I"⟩, 7) := ⟨⟨by decide +kernel, by decide +kernel⟩, List.mem_of_getElem? (i := 24) (by decide +kernel), List.mem_of_getElem? (i := 729) (by decide +kernel), List.mem_of_getElem? (i := 730) (by decide +kernel)⟩
theorem lw_p26 : lw_okq (⟨"BooleanConstraints$Instance", "isSatisfied", "(II)Z"⟩, 7) := ⟨⟨by decide +kernel, by decide +kernel⟩, List.mem_of_getElem? (i := 24) (by decide +kernel), List.mem_of_getElem? (i := 742) (by decide +kernel), List.mem_of_getElem? (i := 743) (by decide +kernel)⟩
theorem lw_p27 : lw_okq (⟨"BooleanConstraints", "wrongPosition", "(I)I"⟩, 10) := ⟨⟨by decide +kernel, by decide +kernel⟩, List.mem_of_getElem? (i := 16) (by decide +kernel), List.mem_of_getElem? (i := 771) (by decide +kernel), List.mem_of_getElem? (i := 772) (by decide +kernel)⟩
theorem lw_p28 : lw_okq (⟨"BooleanConstraints", "firstTupleLength", "(I)I"⟩, 10) := ⟨⟨by decide +kernel, by decide +kernel⟩, List.mem_of_getElem? (i := 16) (by decide +kernel), List.mem_of_getElem? (i := 782) (by decide +kernel), List.mem_of_getElem? (i := 783) (by decide +kernel)⟩
theorem lw_p29 : lw_okq (⟨"BooleanConstraints", "readTuples", "(II)I"⟩, 10) := ⟨⟨by decide +kernel, by decide +kernel⟩, List.mem_of_getElem? (i := 16) (by decide +kernel), List.mem_of_getElem? (i := 786) (by decide +kernel), List.mem_of_getElem? (i := 787) (by decide +kernel)⟩
theorem lw_p30 : lw_okq (⟨"BooleanConstraints", "writeTuple", "(II)V"⟩, 10) := ⟨⟨by decide +kernel, by decide +kernel⟩, List.mem_of_getElem? (i := 16) (by decide +kernel), List.mem_of_getElem? (i := 805) (by decide +kernel), List.mem_of_getElem? (i := 806) (by decide +kernel)⟩
theorem lw_p31 : lw_okq (⟨"BooleanConstraints", "writeCharacter", "(C)V"⟩, 10) := ⟨⟨by decide +kernel, by decide +kernel⟩, List.mem_of_getElem? (i := 16) (by decide +kernel), List.mem_of_getElem? (i := 809) (by decide +kernel), List.mem_of_getElem? (i := 810) (by decide +kernel)⟩
def lw_privs_2 : List (MethodName × Nat) := [(⟨"BooleanConstraints", "isOfKind", "(I)Z"⟩, 10), (⟨"BooleanConstraints", "requireVariables", "(IIIII)V"⟩, 10), (⟨"BooleanConstraints", "requireVariable", "(I)V"⟩, 10), (⟨"BooleanConstraints$Instance", "findSolution", "(I)I"⟩, 7), (⟨"BooleanConstraints$Instance", "variablesThatTake", "(I)I"⟩, 7), (⟨"BooleanConstraints", "requireKindOfLanguage", "(I)V"⟩, 10), (⟨"BooleanConstraints", "requireSolutions", "()V"⟩, 10), (⟨"BooleanConstraints$Instance", "greatestAssignment", "()I"⟩, 7), (⟨"BooleanConstraints$Instance", "hasSolutionWith", "(IIII)Z"⟩, 7), (⟨"BooleanConstraints$Instance", "tuplesOfSolutions", "(II)I"⟩, 7), (⟨"BooleanConstraints$Instance", "isSatisfied", "(II)Z"⟩, 7), (⟨"BooleanConstraints", "wrongPosition", "(I)I"⟩, 10), (⟨"BooleanConstraints", "firstTupleLength", "(I)I"⟩, 10), (⟨"BooleanConstraints", "readTuples", "(II)I"⟩, 10), (⟨"BooleanConstraints", "writeTuple", "(II)V"⟩, 10), (⟨"BooleanConstraints", "writeCharacter", "(C)V"⟩, 10)]
theorem lw_r2 : ∀ q ∈ lw_privs_2, lw_okq q := List.forall_mem_cons.mpr ⟨lw_p16, List.forall_mem_cons.mpr ⟨lw_p17, List.forall_mem_cons.mpr ⟨lw_p18, List.forall_mem_cons.mpr ⟨lw_p19, List.forall_mem_cons.mpr ⟨lw_p20, List.forall_mem_cons.mpr ⟨lw_p21, List.forall_mem_cons.mpr ⟨lw_p22, List.forall_mem_cons.mpr ⟨lw_p23, List.forall_mem_cons.mpr ⟨lw_p24, List.forall_mem_cons.mpr ⟨lw_p25, List.forall_mem_cons.mpr ⟨lw_p26, List.forall_mem_cons.mpr ⟨lw_p27, List.forall_mem_cons.mpr ⟨lw_p28, List.forall_mem_cons.mpr ⟨lw_p29, List.forall_mem_cons.mpr ⟨lw_p30, List.forall_mem_cons.mpr ⟨lw_p31, fun _ h => absurd h List.not_mem_nil⟩⟩⟩⟩⟩⟩⟩⟩⟩⟩⟩⟩⟩⟩⟩⟩
theorem lw_p32 : lw_okq (⟨"BooleanConstraints", "requireFlags", "(I)V"⟩, 10) := ⟨⟨by decide +kernel, by decide +kernel⟩, List.mem_of_getElem? (i := 16) (by decide +kernel), List.mem_of_getElem? (i := 840) (by decide +kernel), List.mem_of_getElem? (i := 841) (by decide +kernel)⟩
theorem lw_p33 : lw_okq (⟨"BooleanConstraintsModel", "fails", "(I)I"⟩, 21) := ⟨⟨by decide +kernel, by decide +kernel⟩, List.mem_of_getElem? (i := 861) (by decide +kernel), List.mem_of_getElem? (i := 943) (by decide +kernel), List.mem_of_getElem? (i := 944) (by decide +kernel)⟩
theorem lw_p34 : lw_okq (⟨"BooleanConstraintsModel", "adds", "(II)I"⟩, 21) := ⟨⟨by decide +kernel, by decide +kernel⟩, List.mem_of_getElem? (i := 861) (by decide +kernel), List.mem_of_getElem? (i := 947) (by decide +kernel), List.mem_of_getElem? (i := 948) (by decide +kernel)⟩
theorem lw_p35 : lw_okq (⟨"BooleanConstraintsModel", "noTuple", "(II)I"⟩, 21) := ⟨⟨by decide +kernel, by decide +kernel⟩, List.mem_of_getElem? (i := 861) (by decide +kernel), List.mem_of_getElem? (i := 975) (by decide +kernel), List.mem_of_getElem? (i := 976) (by decide +kernel)⟩
theorem lw_p36 : lw_okq (⟨"BooleanConstraintsModel", "isRelation", "(I)Z"⟩, 21) := ⟨⟨by decide +kernel, by decide +kernel⟩, List.mem_of_getElem? (i := 861) (by decide +kernel), List.mem_of_getElem? (i := 979) (by decide +kernel), List.mem_of_getElem? (i := 980) (by decide +kernel)⟩
theorem lw_p37 : lw_okq (⟨"BooleanConstraintsModel", "refuses", "(I)Z"⟩, 21) := ⟨⟨by decide +kernel, by decide +kernel⟩, List.mem_of_getElem? (i := 861) (by decide +kernel), List.mem_of_getElem? (i := 1041) (by decide +kernel), List.mem_of_getElem? (i := 1042) (by decide +kernel)⟩
theorem lw_p38 : lw_okq (⟨"BooleanConstraintsModel", "doesPreserve", "(III)Z"⟩, 21) := ⟨⟨by decide +kernel, by decide +kernel⟩, List.mem_of_getElem? (i := 861) (by decide +kernel), List.mem_of_getElem? (i := 1045) (by decide +kernel), List.mem_of_getElem? (i := 1046) (by decide +kernel)⟩
theorem lw_p39 : lw_okq (⟨"BooleanConstraintsModel", "isKept", "(II)Z"⟩, 21) := ⟨⟨by decide +kernel, by decide +kernel⟩, List.mem_of_getElem? (i := 861) (by decide +kernel), List.mem_of_getElem? (i := 1056) (by decide +kernel), List.mem_of_getElem? (i := 1057) (by decide +kernel)⟩
theorem lw_p40 : lw_okq (⟨"BooleanConstraintsModel", "has", "(I)Z"⟩, 21) := ⟨⟨by decide +kernel, by decide +kernel⟩, List.mem_of_getElem? (i := 861) (by decide +kernel), List.mem_of_getElem? (i := 1111) (by decide +kernel), List.mem_of_getElem? (i := 1112) (by decide +kernel)⟩
theorem lw_p41 : lw_okq (⟨"BooleanConstraintsModel", "areVariables", "(IIIII)Z"⟩, 21) := ⟨⟨by decide +kernel, by decide +kernel⟩, List.mem_of_getElem? (i := 861) (by decide +kernel), List.mem_of_getElem? (i := 1127) (by decide +kernel), List.mem_of_getElem? (i := 1128) (by decide +kernel)⟩
theorem lw_p42 : lw_okq (⟨"BooleanConstraintsModel", "isVariable", "(I)Z"⟩, 21) := ⟨⟨by decide +kernel, by decide +kernel⟩, List.mem_of_getElem? (i := 861) (by decide +kernel), List.mem_of_getElem? (i := 1131) (by decide +kernel), List.mem_of_getElem? (i := 1132) (by decide +kernel)⟩
theorem lw_p43 : lw_okq (⟨"BooleanConstraintsModel", "solutions", "()I"⟩, 21) := ⟨⟨by decide +kernel, by decide +kernel⟩, List.mem_of_getElem? (i := 861) (by decide +kernel), List.mem_of_getElem? (i := 1143) (by decide +kernel), List.mem_of_getElem? (i := 1144) (by decide +kernel)⟩
theorem lw_p44 : lw_okq (⟨"BooleanConstraintsModel", "solves", "(II)Z"⟩, 21) := ⟨⟨by decide +kernel, by decide +kernel⟩, List.mem_of_getElem? (i := 861) (by decide +kernel), List.mem_of_getElem? (i := 1147) (by decide +kernel), List.mem_of_getElem? (i := 1148) (by decide +kernel)⟩
theorem lw_p45 : lw_okq (⟨"BooleanConstraintsModel", "isSatisfied", "(II)Z"⟩, 21) := ⟨⟨by decide +kernel, by decide +kernel⟩, List.mem_of_getElem? (i := 861) (by decide +kernel), List.mem_of_getElem? (i := 1151) (by decide +kernel), List.mem_of_getElem? (i := 1152) (by decide +kernel)⟩
theorem lw_p46 : lw_okq (⟨"BooleanConstraintsModel", "doesImply", "(IIII)Z"⟩, 21) := ⟨⟨by decide +kernel, by decide +kernel⟩, List.mem_of_getElem? (i := 861) (by decide +kernel), List.mem_of_getElem? (i := 1163) (by decide +kernel), List.mem_of_getElem? (i := 1164) (by decide +kernel)⟩
theorem lw_p47 : lw_okq (⟨"BooleanConstraintsModel", "isIdle", "(I)Z"⟩, 21) := ⟨⟨by decide +kernel, by decide +kernel⟩, List.mem_of_getElem? (i := 861) (by decide +kernel), List.mem_of_getElem? (i := 1195) (by decide +kernel), List.mem_of_getElem? (i := 1196) (by decide +kernel)⟩
def lw_privs_3 : List (MethodName × Nat) := [(⟨"BooleanConstraints", "requireFlags", "(I)V"⟩, 10), (⟨"BooleanConstraintsModel", "fails", "(I)I"⟩, 21), (⟨"BooleanConstraintsModel", "adds", "(II)I"⟩, 21), (⟨"BooleanConstraintsModel", "noTuple", "(II)I"⟩, 21), (⟨"BooleanConstraintsModel", "isRelation", "(I)Z"⟩, 21), (⟨"BooleanConstraintsModel", "refuses", "(I)Z"⟩, 21), (⟨"BooleanConstraintsModel", "doesPreserve", "(III)Z"⟩, 21), (⟨"BooleanConstraintsModel", "isKept", "(II)Z"⟩, 21), (⟨"BooleanConstraintsModel", "has", "(I)Z"⟩, 21), (⟨"BooleanConstraintsModel", "areVariables", "(IIIII)Z"⟩, 21), (⟨"BooleanConstraintsModel", "isVariable", "(I)Z"⟩, 21), (⟨"BooleanConstraintsModel", "solutions", "()I"⟩, 21), (⟨"BooleanConstraintsModel", "solves", "(II)Z"⟩, 21), (⟨"BooleanConstraintsModel", "isSatisfied", "(II)Z"⟩, 21), (⟨"BooleanConstraintsModel", "doesImply", "(IIII)Z"⟩, 21), (⟨"BooleanConstraintsModel", "isIdle", "(I)Z"⟩, 21)]
theorem lw_r3 : ∀ q ∈ lw_privs_3, lw_okq q := List.forall_mem_cons.mpr ⟨lw_p32, List.forall_mem_cons.mpr ⟨lw_p33, List.forall_mem_cons.mpr ⟨lw_p34, List.forall_mem_cons.mpr ⟨lw_p35, List.forall_mem_cons.mpr ⟨lw_p36, List.forall_mem_cons.mpr ⟨lw_p37, List.forall_mem_cons.mpr ⟨lw_p38, List.forall_mem_cons.mpr ⟨lw_p39, List.forall_mem_cons.mpr ⟨lw_p40, List.forall_mem_cons.mpr ⟨lw_p41, List.forall_mem_cons.mpr ⟨lw_p42, List.forall_mem_cons.mpr ⟨lw_p43, List.forall_mem_cons.mpr ⟨lw_p44, List.forall_mem_cons.mpr ⟨lw_p45, List.forall_mem_cons.mpr ⟨lw_p46, List.forall_mem_cons.mpr ⟨lw_p47, fun _ h => absurd h List.not_mem_nil⟩⟩⟩⟩⟩⟩⟩⟩⟩⟩⟩⟩⟩⟩⟩⟩
theorem lw_p48 : lw_okq (⟨"BooleanConstraintsModel", "reads", "()I"⟩, 21) := ⟨⟨by decide +kernel, by decide +kernel⟩, List.mem_of_getElem? (i := 861) (by decide +kernel), List.mem_of_getElem? (i := 1211) (by decide +kernel), List.mem_of_getElem? (i := 1212) (by decide +kernel)⟩
theorem lw_p49 : lw_okq (⟨"BooleanConstraintsModel", "puts", "(C)V"⟩, 21) := ⟨⟨by decide +kernel, by decide +kernel⟩, List.mem_of_getElem? (i := 861) (by decide +kernel), List.mem_of_getElem? (i := 1223) (by decide +kernel), List.mem_of_getElem? (i := 1224) (by decide +kernel)⟩
theorem lw_p50 : lw_okq (⟨"BooleanConstraintsModel", "passState", "(Z)I"⟩, 21) := ⟨⟨by decide +kernel, by decide +kernel⟩, List.mem_of_getElem? (i := 861) (by decide +kernel), List.mem_of_getElem? (i := 1250) (by decide +kernel), List.mem_of_getElem? (i := 1251) (by decide +kernel)⟩
theorem lw_p51 : lw_okq (⟨"BooleanConstraintsModel", "passes", "(I)I"⟩, 21) := ⟨⟨by decide +kernel, by decide +kernel⟩, List.mem_of_getElem? (i := 861) (by decide +kernel), List.mem_of_getElem? (i := 1254) (by decide +kernel), List.mem_of_getElem? (i := 1255) (by decide +kernel)⟩
theorem lw_p52 : lw_okq (⟨"BooleanConstraintsModel", "passAll", "([I)V"⟩, 21) := ⟨⟨by decide +kernel, by decide +kernel⟩, List.mem_of_getElem? (i := 861) (by decide +kernel), List.mem_of_getElem? (i := 1258) (by decide +kernel), List.mem_of_getElem? (i := 1259) (by decide +kernel)⟩
def lw_privs_4 : List (MethodName × Nat) := [(⟨"BooleanConstraintsModel", "reads", "()I"⟩, 21), (⟨"BooleanConstraintsModel", "puts", "(C)V"⟩, 21), (⟨"BooleanConstraintsModel", "passState", "(Z)I"⟩, 21), (⟨"BooleanConstraintsModel", "passes", "(I)I"⟩, 21), (⟨"BooleanConstraintsModel", "passAll", "([I)V"⟩, 21)]
theorem lw_r4 : ∀ q ∈ lw_privs_4, lw_okq q := List.forall_mem_cons.mpr ⟨lw_p48, List.forall_mem_cons.mpr ⟨lw_p49, List.forall_mem_cons.mpr ⟨lw_p50, List.forall_mem_cons.mpr ⟨lw_p51, List.forall_mem_cons.mpr ⟨lw_p52, fun _ h => absurd h List.not_mem_nil⟩⟩⟩⟩⟩
def lw_privs : List (MethodName × Nat) := lw_privs_1 ++ (lw_privs_2 ++ (lw_privs_3 ++ (lw_privs_4)))
def lw_tbl : List Cond := k2_sels lw_privs ++ tables_1
theorem lw_privs_ok : ∀ q ∈ lw_privs, lw_okq q := by
  show ∀ q ∈ lw_privs_1 ++ (lw_privs_2 ++ (lw_privs_3 ++ (lw_privs_4))), lw_okq q
  exact List.forall_mem_append.mpr ⟨lw_r1, List.forall_mem_append.mpr ⟨lw_r2, List.forall_mem_append.mpr ⟨lw_r3, lw_r4⟩⟩⟩
def RX0 : String := "BooleanConstraints$Instance"
def TX0 : u_T := fun k => match k with
  | 0 => ("BooleanConstraints$Instance", "relationCount", "I", false)
  | 1 => ("BooleanConstraints$Instance", "arities", "[I", true)
  | 2 => ("BooleanConstraints$Instance", "tuples", "[I", true)
  | 3 => ("BooleanConstraints$Instance", "variableCount", "I", false)
  | 4 => ("BooleanConstraints$Instance", "constraintCount", "I", false)
  | 5 => ("BooleanConstraints$Instance", "constraintRelations", "[I", true)
  | _ => ("BooleanConstraints$Instance", "constraintVariables", "[I", true)
def tyX0 : Nat → FieldType := fun k => match k with
  | 0 => .int
  | 1 => .array .int
  | 2 => .array .int
  | 3 => .int
  | 4 => .int
  | 5 => .array .int
  | _ => .array .int
abbrev wsX00 : List Cond := u_ws RX0 TX0 7
theorem nmX0 : ∀ a, a < 7 → ∀ b, b < 7 → a ≠ b → (TX0 a).2.1 ≠ (TX0 b).2.1 := by decide +kernel
theorem tyX0_ok : ∀ k, k < 7 → parseFieldDescriptor (TX0 k).2.2.1 = some (tyX0 k) := by decide +kernel
abbrev cX0_init : ByteArray := prog_2_method_1_code
def yX0_init : MethodName := ⟨RX0, "<init>", "()V"⟩
abbrev cX0_copyFrom : ByteArray := prog_2_method_2_code
def yX0_copyFrom : MethodName := ⟨RX0, "copyFrom", "(LBooleanConstraints$Instance;)V"⟩
abbrev cX0_greatestAssignment : ByteArray := prog_2_method_3_code
def yX0_greatestAssignment : MethodName := ⟨RX0, "greatestAssignment", "()I"⟩
abbrev cX0_wordCount : ByteArray := prog_2_method_4_code
def yX0_wordCount : MethodName := ⟨RX0, "wordCount", "()I"⟩
abbrev cX0_assignmentsOfAWord : ByteArray := prog_2_method_5_code
def yX0_assignmentsOfAWord : MethodName := ⟨RX0, "assignmentsOfAWord", "()J"⟩
abbrev cX0_variableAt : ByteArray := prog_2_method_6_code
def yX0_variableAt : MethodName := ⟨RX0, "variableAt", "(II)I"⟩
abbrev cX0_assignmentsWithOne : ByteArray := prog_2_method_7_code
def yX0_assignmentsWithOne : MethodName := ⟨RX0, "assignmentsWithOne", "(II)J"⟩
abbrev cX0_assignmentsWith : ByteArray := prog_2_method_8_code
def yX0_assignmentsWith : MethodName := ⟨RX0, "assignmentsWith", "(III)J"⟩
abbrev cX0_assignmentsInto : ByteArray := prog_2_method_9_code
def yX0_assignmentsInto : MethodName := ⟨RX0, "assignmentsInto", "(IIII)J"⟩
abbrev cX0_satisfying : ByteArray := prog_2_method_10_code
def yX0_satisfying : MethodName := ⟨RX0, "satisfying", "(II)J"⟩
abbrev cX0_solutionsIn : ByteArray := prog_2_method_11_code
def yX0_solutionsIn : MethodName := ⟨RX0, "solutionsIn", "(II)J"⟩
abbrev cX0_countSolutions : ByteArray := prog_2_method_12_code
def yX0_countSolutions : MethodName := ⟨RX0, "countSolutions", "()I"⟩
abbrev cX0_findSolution : ByteArray := prog_2_method_13_code
def yX0_findSolution : MethodName := ⟨RX0, "findSolution", "(I)I"⟩
abbrev cX0_placeOfBit : ByteArray := prog_2_method_14_code
def yX0_placeOfBit : MethodName := ⟨RX0, "placeOfBit", "(JI)I"⟩
abbrev cX0_variablesThatTake : ByteArray := prog_2_method_15_code
def yX0_variablesThatTake : MethodName := ⟨RX0, "variablesThatTake", "(I)I"⟩
abbrev cX0_hasSolutionWith : ByteArray := prog_2_method_16_code
def yX0_hasSolutionWith : MethodName := ⟨RX0, "hasSolutionWith", "(IIII)Z"⟩
abbrev cX0_tuplesOfSolutions : ByteArray := prog_2_method_17_code
def yX0_tuplesOfSolutions : MethodName := ⟨RX0, "tuplesOfSolutions", "(II)I"⟩
abbrev cX0_isSatisfied : ByteArray := prog_2_method_18_code
def yX0_isSatisfied : MethodName := ⟨RX0, "isSatisfied", "(II)Z"⟩
abbrev cX0_isSpare : ByteArray := prog_2_method_19_code
def yX0_isSpare : MethodName := ⟨RX0, "isSpare", "(II)Z"⟩
abbrev cX0_removeConstraints : ByteArray := prog_2_method_20_code
def yX0_removeConstraints : MethodName := ⟨RX0, "removeConstraints", "(I)V"⟩
def RX1 : String := "BooleanConstraints"
def TX1 : u_T := fun k => match k with
  | 0 => ("BooleanConstraints", "current", "LBooleanConstraints$Instance;", true)
  | 1 => ("BooleanConstraints", "saved", "LBooleanConstraints$Instance;", true)
  | 2 => ("BooleanConstraints", "hasSnapshot", "Z", false)
  | 3 => ("BooleanConstraints", "input", "[C", true)
  | 4 => ("BooleanConstraints", "inputLength", "I", false)
  | 5 => ("BooleanConstraints", "lastErrorPosition", "I", false)
  | 6 => ("BooleanConstraints", "output", "[C", true)
  | 7 => ("BooleanConstraints", "outputLength", "I", false)
  | 8 => ("BooleanConstraints", "flagLengths", "[I", true)
  | _ => ("BooleanConstraints", "flagBits", "[I", true)
def tyX1 : Nat → FieldType := fun k => match k with
  | 0 => .object "BooleanConstraints$Instance"
  | 1 => .object "BooleanConstraints$Instance"
  | 2 => .boolean
  | 3 => .array .char
  | 4 => .int
  | 5 => .int
  | 6 => .array .char
  | 7 => .int
  | 8 => .array .int
  | _ => .array .int
abbrev wsX10 : List Cond := u_ws RX1 TX1 10
theorem nmX1 : ∀ a, a < 10 → ∀ b, b < 10 → a ≠ b → (TX1 a).2.1 ≠ (TX1 b).2.1 := by decide +kernel
theorem tyX1_ok : ∀ k, k < 10 → parseFieldDescriptor (TX1 k).2.2.1 = some (tyX1 k) := by decide +kernel
abbrev cX1_init : ByteArray := prog_1_method_1_code
def yX1_init : MethodName := ⟨RX1, "<init>", "()V"⟩
abbrev cX1_addRelation : ByteArray := prog_1_method_2_code
def yX1_addRelation : MethodName := ⟨RX1, "addRelation", "(I)I"⟩
abbrev cX1_addClause : ByteArray := prog_1_method_3_code
def yX1_addClause : MethodName := ⟨RX1, "addClause", "(II)I"⟩
abbrev cX1_addParity : ByteArray := prog_1_method_4_code
def yX1_addParity : MethodName := ⟨RX1, "addParity", "(II)I"⟩
abbrev cX1_addTuple : ByteArray := prog_1_method_5_code
def yX1_addTuple : MethodName := ⟨RX1, "addTuple", "(II)Z"⟩
abbrev cX1_removeTuple : ByteArray := prog_1_method_6_code
def yX1_removeTuple : MethodName := ⟨RX1, "removeTuple", "(II)Z"⟩
abbrev cX1_contains : ByteArray := prog_1_method_7_code
def yX1_contains : MethodName := ⟨RX1, "contains", "(II)Z"⟩
abbrev cX1_tupleCount : ByteArray := prog_1_method_8_code
def yX1_tupleCount : MethodName := ⟨RX1, "tupleCount", "(I)I"⟩
abbrev cX1_arity : ByteArray := prog_1_method_9_code
def yX1_arity : MethodName := ⟨RX1, "arity", "(I)I"⟩
abbrev cX1_relationCount : ByteArray := prog_1_method_10_code
def yX1_relationCount : MethodName := ⟨RX1, "relationCount", "()I"⟩
abbrev cX1_areEqual : ByteArray := prog_1_method_11_code
def yX1_areEqual : MethodName := ⟨RX1, "areEqual", "(II)Z"⟩
abbrev cX1_clear : ByteArray := prog_1_method_12_code
def yX1_clear : MethodName := ⟨RX1, "clear", "()I"⟩
abbrev cX1_addComplement : ByteArray := prog_1_method_13_code
def yX1_addComplement : MethodName := ⟨RX1, "addComplement", "(I)I"⟩
abbrev cX1_addIntersection : ByteArray := prog_1_method_14_code
def yX1_addIntersection : MethodName := ⟨RX1, "addIntersection", "(II)I"⟩
abbrev cX1_addProjection : ByteArray := prog_1_method_15_code
def yX1_addProjection : MethodName := ⟨RX1, "addProjection", "(II)I"⟩
abbrev cX1_addExchanged : ByteArray := prog_1_method_16_code
def yX1_addExchanged : MethodName := ⟨RX1, "addExchanged", "(III)I"⟩
abbrev cX1_apply : ByteArray := prog_1_method_17_code
def yX1_apply : MethodName := ⟨RX1, "apply", "(IIIII)I"⟩
abbrev cX1_preserves : ByteArray := prog_1_method_18_code
def yX1_preserves : MethodName := ⟨RX1, "preserves", "(III)Z"⟩
abbrev cX1_isPolymorphism : ByteArray := prog_1_method_19_code
def yX1_isPolymorphism : MethodName := ⟨RX1, "isPolymorphism", "(II)Z"⟩
abbrev cX1_polymorphismCount : ByteArray := prog_1_method_20_code
def yX1_polymorphismCount : MethodName := ⟨RX1, "polymorphismCount", "(I)I"⟩
abbrev cX1_polymorphism : ByteArray := prog_1_method_21_code
def yX1_polymorphism : MethodName := ⟨RX1, "polymorphism", "(II)I"⟩
abbrev cX1_isIdempotent : ByteArray := prog_1_method_22_code
def yX1_isIdempotent : MethodName := ⟨RX1, "isIdempotent", "(II)Z"⟩
abbrev cX1_isMonotone : ByteArray := prog_1_method_23_code
def yX1_isMonotone : MethodName := ⟨RX1, "isMonotone", "(II)Z"⟩
abbrev cX1_projectedArgument : ByteArray := prog_1_method_24_code
def yX1_projectedArgument : MethodName := ⟨RX1, "projectedArgument", "(II)I"⟩
abbrev cX1_close : ByteArray := prog_1_method_25_code
def yX1_close : MethodName := ⟨RX1, "close", "(III)I"⟩
abbrev cX1_dual : ByteArray := prog_1_method_26_code
def yX1_dual : MethodName := ⟨RX1, "dual", "(II)I"⟩
abbrev cX1_dependsOn : ByteArray := prog_1_method_27_code
def yX1_dependsOn : MethodName := ⟨RX1, "dependsOn", "(III)Z"⟩
abbrev cX1_compose : ByteArray := prog_1_method_28_code
def yX1_compose : MethodName := ⟨RX1, "compose", "(III)I"⟩
abbrev cX1_relationHasKind : ByteArray := prog_1_method_29_code
def yX1_relationHasKind : MethodName := ⟨RX1, "relationHasKind", "(II)Z"⟩
abbrev cX1_hasKind : ByteArray := prog_1_method_30_code
def yX1_hasKind : MethodName := ⟨RX1, "hasKind", "(I)Z"⟩
abbrev cX1_lowestKind : ByteArray := prog_1_method_31_code
def yX1_lowestKind : MethodName := ⟨RX1, "lowestKind", "()I"⟩
abbrev cX1_setVariables : ByteArray := prog_1_method_32_code
def yX1_setVariables : MethodName := ⟨RX1, "setVariables", "(I)I"⟩
abbrev cX1_addConstraint : ByteArray := prog_1_method_33_code
def yX1_addConstraint : MethodName := ⟨RX1, "addConstraint", "(IIIII)I"⟩
abbrev cX1_removeLastConstraint : ByteArray := prog_1_method_34_code
def yX1_removeLastConstraint : MethodName := ⟨RX1, "removeLastConstraint", "()I"⟩
abbrev cX1_solutionCount : ByteArray := prog_1_method_35_code
def yX1_solutionCount : MethodName := ⟨RX1, "solutionCount", "()I"⟩
abbrev cX1_solution : ByteArray := prog_1_method_36_code
def yX1_solution : MethodName := ⟨RX1, "solution", "(I)I"⟩
abbrev cX1_isForced : ByteArray := prog_1_method_37_code
def yX1_isForced : MethodName := ⟨RX1, "isForced", "(II)Z"⟩
abbrev cX1_leastSolution : ByteArray := prog_1_method_38_code
def yX1_leastSolution : MethodName := ⟨RX1, "leastSolution", "()I"⟩
abbrev cX1_greatestSolution : ByteArray := prog_1_method_39_code
def yX1_greatestSolution : MethodName := ⟨RX1, "greatestSolution", "()I"⟩
abbrev cX1_implies : ByteArray := prog_1_method_40_code
def yX1_implies : MethodName := ⟨RX1, "implies", "(IIII)Z"⟩
abbrev cX1_dimension : ByteArray := prog_1_method_41_code
def yX1_dimension : MethodName := ⟨RX1, "dimension", "()I"⟩
abbrev cX1_define : ByteArray := prog_1_method_42_code
def yX1_define : MethodName := ⟨RX1, "define", "(IIIII)I"⟩
abbrev cX1_firstViolated : ByteArray := prog_1_method_43_code
def yX1_firstViolated : MethodName := ⟨RX1, "firstViolated", "(I)I"⟩
abbrev cX1_isRedundant : ByteArray := prog_1_method_44_code
def yX1_isRedundant : MethodName := ⟨RX1, "isRedundant", "(I)Z"⟩
abbrev cX1_removeRedundant : ByteArray := prog_1_method_45_code
def yX1_removeRedundant : MethodName := ⟨RX1, "removeRedundant", "()I"⟩
abbrev cX1_append : ByteArray := prog_1_method_46_code
def yX1_append : MethodName := ⟨RX1, "append", "(C)I"⟩
abbrev cX1_parse : ByteArray := prog_1_method_47_code
def yX1_parse : MethodName := ⟨RX1, "parse", "()I"⟩
abbrev cX1_errorPosition : ByteArray := prog_1_method_48_code
def yX1_errorPosition : MethodName := ⟨RX1, "errorPosition", "()I"⟩
abbrev cX1_write : ByteArray := prog_1_method_49_code
def yX1_write : MethodName := ⟨RX1, "write", "(I)I"⟩
abbrev cX1_outputAt : ByteArray := prog_1_method_50_code
def yX1_outputAt : MethodName := ⟨RX1, "outputAt", "(I)C"⟩
abbrev cX1_storeFlags : ByteArray := prog_1_method_51_code
def yX1_storeFlags : MethodName := ⟨RX1, "storeFlags", "(III)I"⟩
abbrev cX1_setFlag : ByteArray := prog_1_method_52_code
def yX1_setFlag : MethodName := ⟨RX1, "setFlag", "(IIZ)Z"⟩
abbrev cX1_takeFlags : ByteArray := prog_1_method_53_code
def yX1_takeFlags : MethodName := ⟨RX1, "takeFlags", "(II)I"⟩
abbrev cX1_saveSnapshot : ByteArray := prog_1_method_54_code
def yX1_saveSnapshot : MethodName := ⟨RX1, "saveSnapshot", "()I"⟩
abbrev cX1_restoreSnapshot : ByteArray := prog_1_method_55_code
def yX1_restoreSnapshot : MethodName := ⟨RX1, "restoreSnapshot", "()I"⟩
abbrev cX1_requireRelationArity : ByteArray := prog_1_method_56_code
def yX1_requireRelationArity : MethodName := ⟨RX1, "requireRelationArity", "(I)V"⟩
abbrev cX1_requireOperationArity : ByteArray := prog_1_method_57_code
def yX1_requireOperationArity : MethodName := ⟨RX1, "requireOperationArity", "(I)V"⟩
abbrev cX1_requireOperation : ByteArray := prog_1_method_58_code
def yX1_requireOperation : MethodName := ⟨RX1, "requireOperation", "(II)V"⟩
abbrev cX1_requireBit : ByteArray := prog_1_method_59_code
def yX1_requireBit : MethodName := ⟨RX1, "requireBit", "(I)V"⟩
abbrev cX1_requireKind : ByteArray := prog_1_method_60_code
def yX1_requireKind : MethodName := ⟨RX1, "requireKind", "(I)V"⟩
abbrev cX1_requireSlot : ByteArray := prog_1_method_61_code
def yX1_requireSlot : MethodName := ⟨RX1, "requireSlot", "(I)V"⟩
abbrev cX1_requireFlags : ByteArray := prog_1_method_62_code
def yX1_requireFlags : MethodName := ⟨RX1, "requireFlags", "(I)V"⟩
abbrev cX1_requireRelation : ByteArray := prog_1_method_63_code
def yX1_requireRelation : MethodName := ⟨RX1, "requireRelation", "(I)V"⟩
abbrev cX1_requireTuple : ByteArray := prog_1_method_64_code
def yX1_requireTuple : MethodName := ⟨RX1, "requireTuple", "(II)V"⟩
abbrev cX1_requirePosition : ByteArray := prog_1_method_65_code
def yX1_requirePosition : MethodName := ⟨RX1, "requirePosition", "(II)V"⟩
abbrev cX1_requireRoomForRelation : ByteArray := prog_1_method_66_code
def yX1_requireRoomForRelation : MethodName := ⟨RX1, "requireRoomForRelation", "()V"⟩
abbrev cX1_requireVariable : ByteArray := prog_1_method_67_code
def yX1_requireVariable : MethodName := ⟨RX1, "requireVariable", "(I)V"⟩
abbrev cX1_requireVariables : ByteArray := prog_1_method_68_code
def yX1_requireVariables : MethodName := ⟨RX1, "requireVariables", "(IIIII)V"⟩
abbrev cX1_requireKindOfLanguage : ByteArray := prog_1_method_69_code
def yX1_requireKindOfLanguage : MethodName := ⟨RX1, "requireKindOfLanguage", "(I)V"⟩
abbrev cX1_requireSolutions : ByteArray := prog_1_method_70_code
def yX1_requireSolutions : MethodName := ⟨RX1, "requireSolutions", "()V"⟩
abbrev cX1_addNew : ByteArray := prog_1_method_71_code
def yX1_addNew : MethodName := ⟨RX1, "addNew", "(II)I"⟩
abbrev cX1_has : ByteArray := prog_1_method_72_code
def yX1_has : MethodName := ⟨RX1, "has", "(II)Z"⟩
abbrev cX1_greatestTuple : ByteArray := prog_1_method_73_code
def yX1_greatestTuple : MethodName := ⟨RX1, "greatestTuple", "(I)I"⟩
abbrev cX1_allTuples : ByteArray := prog_1_method_74_code
def yX1_allTuples : MethodName := ⟨RX1, "allTuples", "(I)I"⟩
abbrev cX1_tuplesWithSum : ByteArray := prog_1_method_75_code
def yX1_tuplesWithSum : MethodName := ⟨RX1, "tuplesWithSum", "(II)I"⟩
abbrev cX1_tuplesWithoutPosition : ByteArray := prog_1_method_76_code
def yX1_tuplesWithoutPosition : MethodName := ⟨RX1, "tuplesWithoutPosition", "(II)I"⟩
abbrev cX1_tuplesWithExchange : ByteArray := prog_1_method_77_code
def yX1_tuplesWithExchange : MethodName := ⟨RX1, "tuplesWithExchange", "(III)I"⟩
abbrev cX1_valueFor : ByteArray := prog_1_method_78_code
def yX1_valueFor : MethodName := ⟨RX1, "valueFor", "(III)I"⟩
abbrev cX1_argumentCode : ByteArray := prog_1_method_79_code
def yX1_argumentCode : MethodName := ⟨RX1, "argumentCode", "(II)I"⟩
abbrev cX1_valuesAtZero : ByteArray := prog_1_method_80_code
def yX1_valuesAtZero : MethodName := ⟨RX1, "valuesAtZero", "(III)I"⟩
abbrev cX1_valuesAtOne : ByteArray := prog_1_method_81_code
def yX1_valuesAtOne : MethodName := ⟨RX1, "valuesAtOne", "(III)I"⟩
abbrev cX1_appliedToTwo : ByteArray := prog_1_method_82_code
def yX1_appliedToTwo : MethodName := ⟨RX1, "appliedToTwo", "(III)I"⟩
abbrev cX1_escapingTuples : ByteArray := prog_1_method_83_code
def yX1_escapingTuples : MethodName := ⟨RX1, "escapingTuples", "(IIII)I"⟩
abbrev cX1_tuplesChosenBy : ByteArray := prog_1_method_84_code
def yX1_tuplesChosenBy : MethodName := ⟨RX1, "tuplesChosenBy", "(IIII)I"⟩
abbrev cX1_isPreserved : ByteArray := prog_1_method_85_code
def yX1_isPreserved : MethodName := ⟨RX1, "isPreserved", "(III)Z"⟩
abbrev cX1_areAllPreserved : ByteArray := prog_1_method_86_code
def yX1_areAllPreserved : MethodName := ⟨RX1, "areAllPreserved", "(II)Z"⟩
abbrev cX1_isOfKind : ByteArray := prog_1_method_87_code
def yX1_isOfKind : MethodName := ⟨RX1, "isOfKind", "(I)Z"⟩
abbrev cX1_packedVariables : ByteArray := prog_1_method_88_code
def yX1_packedVariables : MethodName := ⟨RX1, "packedVariables", "(IIIII)I"⟩
abbrev cX1_wrongPosition : ByteArray := prog_1_method_89_code
def yX1_wrongPosition : MethodName := ⟨RX1, "wrongPosition", "(I)I"⟩
abbrev cX1_isWholeTuple : ByteArray := prog_1_method_90_code
def yX1_isWholeTuple : MethodName := ⟨RX1, "isWholeTuple", "(II)Z"⟩
abbrev cX1_isDigit : ByteArray := prog_1_method_91_code
def yX1_isDigit : MethodName := ⟨RX1, "isDigit", "(C)Z"⟩
abbrev cX1_firstTupleLength : ByteArray := prog_1_method_92_code
def yX1_firstTupleLength : MethodName := ⟨RX1, "firstTupleLength", "(I)I"⟩
abbrev cX1_readTuples : ByteArray := prog_1_method_93_code
def yX1_readTuples : MethodName := ⟨RX1, "readTuples", "(II)I"⟩
abbrev cX1_writeTuple : ByteArray := prog_1_method_94_code
def yX1_writeTuple : MethodName := ⟨RX1, "writeTuple", "(II)V"⟩
abbrev cX1_writeCharacter : ByteArray := prog_1_method_95_code
def yX1_writeCharacter : MethodName := ⟨RX1, "writeCharacter", "(C)V"⟩
def RX2 : String := "BooleanConstraintsModel"
def TX2 : u_T := fun k => match k with
  | 0 => ("BooleanConstraintsModel", "thrown", "I", false)
  | 1 => ("BooleanConstraintsModel", "arity", "[I", true)
  | 2 => ("BooleanConstraintsModel", "tuples", "[I", true)
  | 3 => ("BooleanConstraintsModel", "relations", "I", false)
  | 4 => ("BooleanConstraintsModel", "relationOf", "[I", true)
  | 5 => ("BooleanConstraintsModel", "variableOf", "[I", true)
  | 6 => ("BooleanConstraintsModel", "variables", "I", false)
  | 7 => ("BooleanConstraintsModel", "constraints", "I", false)
  | 8 => ("BooleanConstraintsModel", "input", "[C", true)
  | 9 => ("BooleanConstraintsModel", "output", "[C", true)
  | 10 => ("BooleanConstraintsModel", "inputLength", "I", false)
  | 11 => ("BooleanConstraintsModel", "outputLength", "I", false)
  | 12 => ("BooleanConstraintsModel", "errorAt", "I", false)
  | 13 => ("BooleanConstraintsModel", "readArity", "I", false)
  | 14 => ("BooleanConstraintsModel", "readTuples", "I", false)
  | 15 => ("BooleanConstraintsModel", "flags", "[Z", true)
  | 16 => ("BooleanConstraintsModel", "flagCount", "[I", true)
  | 17 => ("BooleanConstraintsModel", "saved", "[I", true)
  | 18 => ("BooleanConstraintsModel", "cursor", "I", false)
  | 19 => ("BooleanConstraintsModel", "hasSnapshot", "Z", false)
  | _ => ("BooleanConstraintsModel", "isSaving", "Z", false)
def tyX2 : Nat → FieldType := fun k => match k with
  | 0 => .int
  | 1 => .array .int
  | 2 => .array .int
  | 3 => .int
  | 4 => .array .int
  | 5 => .array .int
  | 6 => .int
  | 7 => .int
  | 8 => .array .char
  | 9 => .array .char
  | 10 => .int
  | 11 => .int
  | 12 => .int
  | 13 => .int
  | 14 => .int
  | 15 => .array .boolean
  | 16 => .array .int
  | 17 => .array .int
  | 18 => .int
  | 19 => .boolean
  | _ => .boolean
abbrev wsX20 : List Cond := u_ws RX2 TX2 21
theorem nmX2 : ∀ a, a < 21 → ∀ b, b < 21 → a ≠ b → (TX2 a).2.1 ≠ (TX2 b).2.1 := by decide +kernel
theorem tyX2_ok : ∀ k, k < 21 → parseFieldDescriptor (TX2 k).2.2.1 = some (tyX2 k) := by decide +kernel
abbrev cX2_init : ByteArray := prog_4_method_1_code
def yX2_init : MethodName := ⟨RX2, "<init>", "()V"⟩
abbrev cX2_thrown : ByteArray := prog_4_method_2_code
def yX2_thrown : MethodName := ⟨RX2, "thrown", "()I"⟩
abbrev cX2_fails : ByteArray := prog_4_method_3_code
def yX2_fails : MethodName := ⟨RX2, "fails", "(I)I"⟩
abbrev cX2_refuses : ByteArray := prog_4_method_4_code
def yX2_refuses : MethodName := ⟨RX2, "refuses", "(I)Z"⟩
abbrev cX2_isBetween : ByteArray := prog_4_method_5_code
def yX2_isBetween : MethodName := ⟨RX2, "isBetween", "(III)Z"⟩
abbrev cX2_isBit : ByteArray := prog_4_method_6_code
def yX2_isBit : MethodName := ⟨RX2, "isBit", "(I)Z"⟩
abbrev cX2_bits : ByteArray := prog_4_method_7_code
def yX2_bits : MethodName := ⟨RX2, "bits", "(I)I"⟩
abbrev cX2_isRelation : ByteArray := prog_4_method_8_code
def yX2_isRelation : MethodName := ⟨RX2, "isRelation", "(I)Z"⟩
abbrev cX2_allOf : ByteArray := prog_4_method_9_code
def yX2_allOf : MethodName := ⟨RX2, "allOf", "(I)I"⟩
abbrev cX2_isTuple : ByteArray := prog_4_method_10_code
def yX2_isTuple : MethodName := ⟨RX2, "isTuple", "(II)Z"⟩
abbrev cX2_adds : ByteArray := prog_4_method_11_code
def yX2_adds : MethodName := ⟨RX2, "adds", "(II)I"⟩
abbrev cX2_addRelation : ByteArray := prog_4_method_12_code
def yX2_addRelation : MethodName := ⟨RX2, "addRelation", "(I)I"⟩
abbrev cX2_addClause : ByteArray := prog_4_method_13_code
def yX2_addClause : MethodName := ⟨RX2, "addClause", "(II)I"⟩
abbrev cX2_addParity : ByteArray := prog_4_method_14_code
def yX2_addParity : MethodName := ⟨RX2, "addParity", "(II)I"⟩
abbrev cX2_noTuple : ByteArray := prog_4_method_15_code
def yX2_noTuple : MethodName := ⟨RX2, "noTuple", "(II)I"⟩
abbrev cX2_addTuple : ByteArray := prog_4_method_16_code
def yX2_addTuple : MethodName := ⟨RX2, "addTuple", "(II)Z"⟩
abbrev cX2_removeTuple : ByteArray := prog_4_method_17_code
def yX2_removeTuple : MethodName := ⟨RX2, "removeTuple", "(II)Z"⟩
abbrev cX2_contains : ByteArray := prog_4_method_18_code
def yX2_contains : MethodName := ⟨RX2, "contains", "(II)Z"⟩
abbrev cX2_tupleCount : ByteArray := prog_4_method_19_code
def yX2_tupleCount : MethodName := ⟨RX2, "tupleCount", "(I)I"⟩
abbrev cX2_arity : ByteArray := prog_4_method_20_code
def yX2_arity : MethodName := ⟨RX2, "arity", "(I)I"⟩
abbrev cX2_relationCount : ByteArray := prog_4_method_21_code
def yX2_relationCount : MethodName := ⟨RX2, "relationCount", "()I"⟩
abbrev cX2_areEqual : ByteArray := prog_4_method_22_code
def yX2_areEqual : MethodName := ⟨RX2, "areEqual", "(II)Z"⟩
abbrev cX2_clear : ByteArray := prog_4_method_23_code
def yX2_clear : MethodName := ⟨RX2, "clear", "()I"⟩
abbrev cX2_addComplement : ByteArray := prog_4_method_24_code
def yX2_addComplement : MethodName := ⟨RX2, "addComplement", "(I)I"⟩
abbrev cX2_addIntersection : ByteArray := prog_4_method_25_code
def yX2_addIntersection : MethodName := ⟨RX2, "addIntersection", "(II)I"⟩
abbrev cX2_addProjection : ByteArray := prog_4_method_26_code
def yX2_addProjection : MethodName := ⟨RX2, "addProjection", "(II)I"⟩
abbrev cX2_addExchanged : ByteArray := prog_4_method_27_code
def yX2_addExchanged : MethodName := ⟨RX2, "addExchanged", "(III)I"⟩
abbrev cX2_isOperation : ByteArray := prog_4_method_28_code
def yX2_isOperation : MethodName := ⟨RX2, "isOperation", "(II)Z"⟩
abbrev cX2_placeOf : ByteArray := prog_4_method_29_code
def yX2_placeOf : MethodName := ⟨RX2, "placeOf", "(IIII)I"⟩
abbrev cX2_apply : ByteArray := prog_4_method_30_code
def yX2_apply : MethodName := ⟨RX2, "apply", "(IIIII)I"⟩
abbrev cX2_applied : ByteArray := prog_4_method_31_code
def yX2_applied : MethodName := ⟨RX2, "applied", "(IIIII)I"⟩
abbrev cX2_madeOf : ByteArray := prog_4_method_32_code
def yX2_madeOf : MethodName := ⟨RX2, "madeOf", "(IIII)I"⟩
abbrev cX2_doesPreserve : ByteArray := prog_4_method_33_code
def yX2_doesPreserve : MethodName := ⟨RX2, "doesPreserve", "(III)Z"⟩
abbrev cX2_isKept : ByteArray := prog_4_method_34_code
def yX2_isKept : MethodName := ⟨RX2, "isKept", "(II)Z"⟩
abbrev cX2_preserves : ByteArray := prog_4_method_35_code
def yX2_preserves : MethodName := ⟨RX2, "preserves", "(III)Z"⟩
abbrev cX2_isPolymorphism : ByteArray := prog_4_method_36_code
def yX2_isPolymorphism : MethodName := ⟨RX2, "isPolymorphism", "(II)Z"⟩
abbrev cX2_polymorphismCount : ByteArray := prog_4_method_37_code
def yX2_polymorphismCount : MethodName := ⟨RX2, "polymorphismCount", "(I)I"⟩
abbrev cX2_polymorphism : ByteArray := prog_4_method_38_code
def yX2_polymorphism : MethodName := ⟨RX2, "polymorphism", "(II)I"⟩
abbrev cX2_isIdempotent : ByteArray := prog_4_method_39_code
def yX2_isIdempotent : MethodName := ⟨RX2, "isIdempotent", "(II)Z"⟩
abbrev cX2_isMonotone : ByteArray := prog_4_method_40_code
def yX2_isMonotone : MethodName := ⟨RX2, "isMonotone", "(II)Z"⟩
abbrev cX2_projectedArgument : ByteArray := prog_4_method_41_code
def yX2_projectedArgument : MethodName := ⟨RX2, "projectedArgument", "(II)I"⟩
abbrev cX2_close : ByteArray := prog_4_method_42_code
def yX2_close : MethodName := ⟨RX2, "close", "(III)I"⟩
abbrev cX2_dual : ByteArray := prog_4_method_43_code
def yX2_dual : MethodName := ⟨RX2, "dual", "(II)I"⟩
abbrev cX2_dependsOn : ByteArray := prog_4_method_44_code
def yX2_dependsOn : MethodName := ⟨RX2, "dependsOn", "(III)Z"⟩
abbrev cX2_compose : ByteArray := prog_4_method_45_code
def yX2_compose : MethodName := ⟨RX2, "compose", "(III)I"⟩
abbrev cX2_has : ByteArray := prog_4_method_46_code
def yX2_has : MethodName := ⟨RX2, "has", "(I)Z"⟩
abbrev cX2_relationHasKind : ByteArray := prog_4_method_47_code
def yX2_relationHasKind : MethodName := ⟨RX2, "relationHasKind", "(II)Z"⟩
abbrev cX2_hasKind : ByteArray := prog_4_method_48_code
def yX2_hasKind : MethodName := ⟨RX2, "hasKind", "(I)Z"⟩
abbrev cX2_lowestKind : ByteArray := prog_4_method_49_code
def yX2_lowestKind : MethodName := ⟨RX2, "lowestKind", "()I"⟩
abbrev cX2_isVariable : ByteArray := prog_4_method_50_code
def yX2_isVariable : MethodName := ⟨RX2, "isVariable", "(I)Z"⟩
abbrev cX2_setVariables : ByteArray := prog_4_method_51_code
def yX2_setVariables : MethodName := ⟨RX2, "setVariables", "(I)I"⟩
abbrev cX2_areVariables : ByteArray := prog_4_method_52_code
def yX2_areVariables : MethodName := ⟨RX2, "areVariables", "(IIIII)Z"⟩
abbrev cX2_addConstraint : ByteArray := prog_4_method_53_code
def yX2_addConstraint : MethodName := ⟨RX2, "addConstraint", "(IIIII)I"⟩
abbrev cX2_removeLastConstraint : ByteArray := prog_4_method_54_code
def yX2_removeLastConstraint : MethodName := ⟨RX2, "removeLastConstraint", "()I"⟩
abbrev cX2_isSatisfied : ByteArray := prog_4_method_55_code
def yX2_isSatisfied : MethodName := ⟨RX2, "isSatisfied", "(II)Z"⟩
abbrev cX2_solves : ByteArray := prog_4_method_56_code
def yX2_solves : MethodName := ⟨RX2, "solves", "(II)Z"⟩
abbrev cX2_solutions : ByteArray := prog_4_method_57_code
def yX2_solutions : MethodName := ⟨RX2, "solutions", "()I"⟩
abbrev cX2_solutionCount : ByteArray := prog_4_method_58_code
def yX2_solutionCount : MethodName := ⟨RX2, "solutionCount", "()I"⟩
abbrev cX2_solution : ByteArray := prog_4_method_59_code
def yX2_solution : MethodName := ⟨RX2, "solution", "(I)I"⟩
abbrev cX2_doesImply : ByteArray := prog_4_method_60_code
def yX2_doesImply : MethodName := ⟨RX2, "doesImply", "(IIII)Z"⟩
abbrev cX2_isForced : ByteArray := prog_4_method_61_code
def yX2_isForced : MethodName := ⟨RX2, "isForced", "(II)Z"⟩
abbrev cX2_leastSolution : ByteArray := prog_4_method_62_code
def yX2_leastSolution : MethodName := ⟨RX2, "leastSolution", "()I"⟩
abbrev cX2_greatestSolution : ByteArray := prog_4_method_63_code
def yX2_greatestSolution : MethodName := ⟨RX2, "greatestSolution", "()I"⟩
abbrev cX2_implies : ByteArray := prog_4_method_64_code
def yX2_implies : MethodName := ⟨RX2, "implies", "(IIII)Z"⟩
abbrev cX2_dimension : ByteArray := prog_4_method_65_code
def yX2_dimension : MethodName := ⟨RX2, "dimension", "()I"⟩
abbrev cX2_define : ByteArray := prog_4_method_66_code
def yX2_define : MethodName := ⟨RX2, "define", "(IIIII)I"⟩
abbrev cX2_firstViolated : ByteArray := prog_4_method_67_code
def yX2_firstViolated : MethodName := ⟨RX2, "firstViolated", "(I)I"⟩
abbrev cX2_isIdle : ByteArray := prog_4_method_68_code
def yX2_isIdle : MethodName := ⟨RX2, "isIdle", "(I)Z"⟩
abbrev cX2_isRedundant : ByteArray := prog_4_method_69_code
def yX2_isRedundant : MethodName := ⟨RX2, "isRedundant", "(I)Z"⟩
abbrev cX2_removeRedundant : ByteArray := prog_4_method_70_code
def yX2_removeRedundant : MethodName := ⟨RX2, "removeRedundant", "()I"⟩
abbrev cX2_append : ByteArray := prog_4_method_71_code
def yX2_append : MethodName := ⟨RX2, "append", "(C)I"⟩
abbrev cX2_reads : ByteArray := prog_4_method_72_code
def yX2_reads : MethodName := ⟨RX2, "reads", "()I"⟩
abbrev cX2_parse : ByteArray := prog_4_method_73_code
def yX2_parse : MethodName := ⟨RX2, "parse", "()I"⟩
abbrev cX2_errorPosition : ByteArray := prog_4_method_74_code
def yX2_errorPosition : MethodName := ⟨RX2, "errorPosition", "()I"⟩
abbrev cX2_puts : ByteArray := prog_4_method_75_code
def yX2_puts : MethodName := ⟨RX2, "puts", "(C)V"⟩
abbrev cX2_write : ByteArray := prog_4_method_76_code
def yX2_write : MethodName := ⟨RX2, "write", "(I)I"⟩
abbrev cX2_outputAt : ByteArray := prog_4_method_77_code
def yX2_outputAt : MethodName := ⟨RX2, "outputAt", "(I)C"⟩
abbrev cX2_isSlot : ByteArray := prog_4_method_78_code
def yX2_isSlot : MethodName := ⟨RX2, "isSlot", "(I)Z"⟩
abbrev cX2_storeFlags : ByteArray := prog_4_method_79_code
def yX2_storeFlags : MethodName := ⟨RX2, "storeFlags", "(III)I"⟩
abbrev cX2_setFlag : ByteArray := prog_4_method_80_code
def yX2_setFlag : MethodName := ⟨RX2, "setFlag", "(IIZ)Z"⟩
abbrev cX2_takeFlags : ByteArray := prog_4_method_81_code
def yX2_takeFlags : MethodName := ⟨RX2, "takeFlags", "(II)I"⟩
abbrev cX2_passes : ByteArray := prog_4_method_82_code
def yX2_passes : MethodName := ⟨RX2, "passes", "(I)I"⟩
abbrev cX2_passAll : ByteArray := prog_4_method_83_code
def yX2_passAll : MethodName := ⟨RX2, "passAll", "([I)V"⟩
abbrev cX2_passState : ByteArray := prog_4_method_84_code
def yX2_passState : MethodName := ⟨RX2, "passState", "(Z)I"⟩
abbrev cX2_saveSnapshot : ByteArray := prog_4_method_85_code
def yX2_saveSnapshot : MethodName := ⟨RX2, "saveSnapshot", "()I"⟩
abbrev cX2_restoreSnapshot : ByteArray := prog_4_method_86_code
def yX2_restoreSnapshot : MethodName := ⟨RX2, "restoreSnapshot", "()I"⟩
def RJx145de : String := "java/io/Serializable"
def RJ6 : String := "java/lang/Integer"
abbrev cJ6_bitCount_0f7a4 : ByteArray := prog_10_method_49_code
def yJ6_bitCount_0f7a4 : MethodName := ⟨RJ6, "bitCount", "(I)I"⟩
def RJ13 : String := "java/lang/Long"
abbrev cJ13_bitCount_95d88 : ByteArray := prog_11_method_50_code
def yJ13_bitCount_95d88 : MethodName := ⟨RJ13, "bitCount", "(J)I"⟩
def RJ0 : String := "java/lang/String"
def RJ10 : String := "java/lang/System"
def RL : String := "BooleanConstraintsLaw"
abbrev cL_addRelation : ByteArray := method_3_code
def yL_addRelation : MethodName := ⟨RL, "addRelation", "(LBooleanConstraints;I[J)I"⟩
abbrev cL_addClause : ByteArray := method_4_code
def yL_addClause : MethodName := ⟨RL, "addClause", "(LBooleanConstraints;II[J)I"⟩
abbrev cL_addParity : ByteArray := method_5_code
def yL_addParity : MethodName := ⟨RL, "addParity", "(LBooleanConstraints;II[J)I"⟩
abbrev cL_addTuple : ByteArray := method_6_code
def yL_addTuple : MethodName := ⟨RL, "addTuple", "(LBooleanConstraints;II[J)I"⟩
abbrev cL_removeTuple : ByteArray := method_7_code
def yL_removeTuple : MethodName := ⟨RL, "removeTuple", "(LBooleanConstraints;II[J)I"⟩
abbrev cL_contains : ByteArray := method_8_code
def yL_contains : MethodName := ⟨RL, "contains", "(LBooleanConstraints;II[J)I"⟩
abbrev cL_tupleCount : ByteArray := method_9_code
def yL_tupleCount : MethodName := ⟨RL, "tupleCount", "(LBooleanConstraints;I[J)I"⟩
abbrev cL_arity : ByteArray := method_10_code
def yL_arity : MethodName := ⟨RL, "arity", "(LBooleanConstraints;I[J)I"⟩
abbrev cL_areEqual : ByteArray := method_11_code
def yL_areEqual : MethodName := ⟨RL, "areEqual", "(LBooleanConstraints;II[J)I"⟩
abbrev cL_addComplement : ByteArray := method_12_code
def yL_addComplement : MethodName := ⟨RL, "addComplement", "(LBooleanConstraints;I[J)I"⟩
abbrev cL_addIntersection : ByteArray := method_13_code
def yL_addIntersection : MethodName := ⟨RL, "addIntersection", "(LBooleanConstraints;II[J)I"⟩
abbrev cL_addProjection : ByteArray := method_14_code
def yL_addProjection : MethodName := ⟨RL, "addProjection", "(LBooleanConstraints;II[J)I"⟩
abbrev cL_addExchanged : ByteArray := method_15_code
def yL_addExchanged : MethodName := ⟨RL, "addExchanged", "(LBooleanConstraints;III[J)I"⟩
abbrev cL_apply : ByteArray := method_16_code
def yL_apply : MethodName := ⟨RL, "apply", "(LBooleanConstraints;IIIII[J)I"⟩
abbrev cL_preserves : ByteArray := method_17_code
def yL_preserves : MethodName := ⟨RL, "preserves", "(LBooleanConstraints;III[J)I"⟩
abbrev cL_isPolymorphism : ByteArray := method_18_code
def yL_isPolymorphism : MethodName := ⟨RL, "isPolymorphism", "(LBooleanConstraints;II[J)I"⟩
abbrev cL_polymorphismCount : ByteArray := method_19_code
def yL_polymorphismCount : MethodName := ⟨RL, "polymorphismCount", "(LBooleanConstraints;I[J)I"⟩
abbrev cL_polymorphism : ByteArray := method_20_code
def yL_polymorphism : MethodName := ⟨RL, "polymorphism", "(LBooleanConstraints;II[J)I"⟩
abbrev cL_isIdempotent : ByteArray := method_21_code
def yL_isIdempotent : MethodName := ⟨RL, "isIdempotent", "(LBooleanConstraints;II[J)I"⟩
abbrev cL_isMonotone : ByteArray := method_22_code
def yL_isMonotone : MethodName := ⟨RL, "isMonotone", "(LBooleanConstraints;II[J)I"⟩
abbrev cL_projectedArgument : ByteArray := method_23_code
def yL_projectedArgument : MethodName := ⟨RL, "projectedArgument", "(LBooleanConstraints;II[J)I"⟩
abbrev cL_close : ByteArray := method_24_code
def yL_close : MethodName := ⟨RL, "close", "(LBooleanConstraints;III[J)I"⟩
abbrev cL_dual : ByteArray := method_25_code
def yL_dual : MethodName := ⟨RL, "dual", "(LBooleanConstraints;II[J)I"⟩
abbrev cL_dependsOn : ByteArray := method_26_code
def yL_dependsOn : MethodName := ⟨RL, "dependsOn", "(LBooleanConstraints;III[J)I"⟩
abbrev cL_compose : ByteArray := method_27_code
def yL_compose : MethodName := ⟨RL, "compose", "(LBooleanConstraints;III[J)I"⟩
abbrev cL_relationHasKind : ByteArray := method_28_code
def yL_relationHasKind : MethodName := ⟨RL, "relationHasKind", "(LBooleanConstraints;II[J)I"⟩
abbrev cL_hasKind : ByteArray := method_29_code
def yL_hasKind : MethodName := ⟨RL, "hasKind", "(LBooleanConstraints;I[J)I"⟩
abbrev cL_lowestKind : ByteArray := method_30_code
def yL_lowestKind : MethodName := ⟨RL, "lowestKind", "(LBooleanConstraints;[J)I"⟩
abbrev cL_setVariables : ByteArray := method_31_code
def yL_setVariables : MethodName := ⟨RL, "setVariables", "(LBooleanConstraints;I[J)I"⟩
abbrev cL_addConstraint : ByteArray := method_32_code
def yL_addConstraint : MethodName := ⟨RL, "addConstraint", "(LBooleanConstraints;IIIII[J)I"⟩
abbrev cL_removeLastConstraint : ByteArray := method_33_code
def yL_removeLastConstraint : MethodName := ⟨RL, "removeLastConstraint", "(LBooleanConstraints;[J)I"⟩
abbrev cL_solution : ByteArray := method_34_code
def yL_solution : MethodName := ⟨RL, "solution", "(LBooleanConstraints;I[J)I"⟩
abbrev cL_isForced : ByteArray := method_35_code
def yL_isForced : MethodName := ⟨RL, "isForced", "(LBooleanConstraints;II[J)I"⟩
abbrev cL_leastSolution : ByteArray := method_36_code
def yL_leastSolution : MethodName := ⟨RL, "leastSolution", "(LBooleanConstraints;[J)I"⟩
abbrev cL_greatestSolution : ByteArray := method_37_code
def yL_greatestSolution : MethodName := ⟨RL, "greatestSolution", "(LBooleanConstraints;[J)I"⟩
abbrev cL_implies : ByteArray := method_38_code
def yL_implies : MethodName := ⟨RL, "implies", "(LBooleanConstraints;IIII[J)I"⟩
abbrev cL_dimension : ByteArray := method_39_code
def yL_dimension : MethodName := ⟨RL, "dimension", "(LBooleanConstraints;[J)I"⟩
abbrev cL_define : ByteArray := method_40_code
def yL_define : MethodName := ⟨RL, "define", "(LBooleanConstraints;IIIII[J)I"⟩
abbrev cL_firstViolated : ByteArray := method_41_code
def yL_firstViolated : MethodName := ⟨RL, "firstViolated", "(LBooleanConstraints;I[J)I"⟩
abbrev cL_isRedundant : ByteArray := method_42_code
def yL_isRedundant : MethodName := ⟨RL, "isRedundant", "(LBooleanConstraints;I[J)I"⟩
abbrev cL_append : ByteArray := method_43_code
def yL_append : MethodName := ⟨RL, "append", "(LBooleanConstraints;C[J)I"⟩
abbrev cL_parse : ByteArray := method_44_code
def yL_parse : MethodName := ⟨RL, "parse", "(LBooleanConstraints;[J)I"⟩
abbrev cL_errorPosition : ByteArray := method_45_code
def yL_errorPosition : MethodName := ⟨RL, "errorPosition", "(LBooleanConstraints;[J)I"⟩
abbrev cL_write : ByteArray := method_46_code
def yL_write : MethodName := ⟨RL, "write", "(LBooleanConstraints;I[J)I"⟩
abbrev cL_outputAt : ByteArray := method_47_code
def yL_outputAt : MethodName := ⟨RL, "outputAt", "(LBooleanConstraints;I[J)I"⟩
abbrev cL_storeFlags : ByteArray := method_48_code
def yL_storeFlags : MethodName := ⟨RL, "storeFlags", "(LBooleanConstraints;III[J)I"⟩
abbrev cL_setFlag : ByteArray := method_49_code
def yL_setFlag : MethodName := ⟨RL, "setFlag", "(LBooleanConstraints;IIZ[J)I"⟩
abbrev cL_takeFlags : ByteArray := method_50_code
def yL_takeFlags : MethodName := ⟨RL, "takeFlags", "(LBooleanConstraints;II[J)I"⟩
abbrev cL_restoreSnapshot : ByteArray := method_51_code
def yL_restoreSnapshot : MethodName := ⟨RL, "restoreSnapshot", "(LBooleanConstraints;[J)I"⟩
abbrev cL_law : ByteArray := code
def yL_law : MethodName := ⟨RL, "law", "([I)Z"⟩
abbrev vwCl : List vw_C := [(RX0, TX0, 7), (RX1, TX1, 10), (RX2, TX2, 21)]
def sTx : List (String × Nat × String) := [("BooleanConstraints", 285, "the arity is out of range"), ("BooleanConstraints", 303, "there are already 8 relations"), ("BooleanConstraints", 61, "signs are out of range"), ("BooleanConstraints", 289, "a value is neither 0 nor 1"), ("BooleanConstraints", 297, "there is no such relation"), ("BooleanConstraints", 299, "there is no such tuple"), ("BooleanConstraints", 103, "the relations have different arities"), ("BooleanConstraints", 301, "there is no such position"), ("BooleanConstraints", 108, "the relation has arity 1"), ("BooleanConstraints", 287, "there is no operation of this arity with this code"), ("BooleanConstraints", 135, "there is no such polymorphism"), ("BooleanConstraints", 147, "the operation agrees with no argument"), ("BooleanConstraints", 155, "there is no such argument"), ("BooleanConstraints", 158, "inner is out of range"), ("BooleanConstraints", 291, "the kind is out of range"), ("BooleanConstraints", 173, "the language is not easy"), ("BooleanConstraints", 175, "the number of variables is out of range"), ("BooleanConstraints", 305, "there is no such variable"), ("BooleanConstraints", 186, "there are already 20 constraints"), ("BooleanConstraints", 199, "there are no constraints"), ("BooleanConstraints", 208, "there is no such solution"), ("BooleanConstraints", 309, "the language does not have the kind"), ("BooleanConstraints", 312, "there are no solutions"), ("BooleanConstraints", 232, "there is no such assignment"), ("BooleanConstraints", 237, "the assignment is a solution"), ("BooleanConstraints", 239, "there is no such constraint"), ("BooleanConstraints", 247, "the character code is out of range"), ("BooleanConstraints", 249, "the input has 60 characters"), ("BooleanConstraints", 254, "the input is not a valid text"), ("BooleanConstraints", 262, "no text was wrong so far"), ("BooleanConstraints", 267, "there is no such index of the output"), ("BooleanConstraints", 293, "there is no such slot"), ("BooleanConstraints", 272, "the length is out of range"), ("BooleanConstraints", 295, "the slot is empty"), ("BooleanConstraints", 277, "there is no such element"), ("BooleanConstraints", 283, "no snapshot was saved")]
def nCs : List (String × String) := [("java/lang/IllegalStateException", "java/lang/IllegalArgumentException"), ("java/lang/IndexOutOfBoundsException", "java/lang/IllegalArgumentException"), ("java/util/NoSuchElementException", "java/lang/IllegalArgumentException"), ("java/lang/UnsupportedOperationException", "java/lang/IllegalArgumentException"), ("java/lang/IllegalArgumentException", "java/lang/IllegalStateException"), ("java/lang/IndexOutOfBoundsException", "java/lang/IllegalStateException"), ("java/util/NoSuchElementException", "java/lang/IllegalStateException"), ("java/lang/UnsupportedOperationException", "java/lang/IllegalStateException"), ("java/lang/IllegalArgumentException", "java/lang/IndexOutOfBoundsException"), ("java/lang/IllegalStateException", "java/lang/IndexOutOfBoundsException"), ("java/util/NoSuchElementException", "java/lang/IndexOutOfBoundsException"), ("java/lang/UnsupportedOperationException", "java/lang/IndexOutOfBoundsException"), ("java/lang/IllegalArgumentException", "java/util/NoSuchElementException"), ("java/lang/IllegalStateException", "java/util/NoSuchElementException"), ("java/lang/IndexOutOfBoundsException", "java/util/NoSuchElementException"), ("java/lang/UnsupportedOperationException", "java/util/NoSuchElementException"), ("java/lang/IllegalArgumentException", "java/lang/UnsupportedOperationException"), ("java/lang/IllegalStateException", "java/lang/UnsupportedOperationException"), ("java/lang/IndexOutOfBoundsException", "java/lang/UnsupportedOperationException"), ("java/util/NoSuchElementException", "java/lang/UnsupportedOperationException")]
