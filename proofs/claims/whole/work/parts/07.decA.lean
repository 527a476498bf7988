theorem dX0_copyFrom_0 : decode cX0_copyFrom 0 = .ok (.aload_n 0, 1) := by decide +kernel
theorem dX0_copyFrom_1 : decode cX0_copyFrom 1 = .ok (.aload_n 1, 1) := by decide +kernel
theorem dX0_copyFrom_2 : decode cX0_copyFrom 2 = .ok (.getfield 9, 3) := by decide +kernel
theorem dX0_copyFrom_5 : decode cX0_copyFrom 5 = .ok (.putfield 9, 3) := by decide +kernel
theorem dX0_copyFrom_8 : decode cX0_copyFrom 8 = .ok (.aload_n 0, 1) := by decide +kernel
theorem dX0_copyFrom_9 : decode cX0_copyFrom 9 = .ok (.aload_n 1, 1) := by decide +kernel
theorem dX0_copyFrom_10 : decode cX0_copyFrom 10 = .ok (.getfield 22, 3) := by decide +kernel
theorem dX0_copyFrom_13 : decode cX0_copyFrom 13 = .ok (.putfield 22, 3) := by decide +kernel
theorem dX0_copyFrom_16 : decode cX0_copyFrom 16 = .ok (.aload_n 0, 1) := by decide +kernel
theorem dX0_copyFrom_17 : decode cX0_copyFrom 17 = .ok (.aload_n 1, 1) := by decide +kernel
theorem dX0_copyFrom_18 : decode cX0_copyFrom 18 = .ok (.getfield 25, 3) := by decide +kernel
theorem dX0_copyFrom_21 : decode cX0_copyFrom 21 = .ok (.putfield 25, 3) := by decide +kernel
theorem dX0_copyFrom_24 : decode cX0_copyFrom 24 = .ok (.aload_n 1, 1) := by decide +kernel
theorem dX0_copyFrom_25 : decode cX0_copyFrom 25 = .ok (.getfield 15, 3) := by decide +kernel
theorem dX0_copyFrom_28 : decode cX0_copyFrom 28 = .ok (.iconst 0, 1) := by decide +kernel
theorem dX0_copyFrom_29 : decode cX0_copyFrom 29 = .ok (.aload_n 0, 1) := by decide +kernel
theorem dX0_copyFrom_30 : decode cX0_copyFrom 30 = .ok (.getfield 15, 3) := by decide +kernel
theorem dX0_copyFrom_33 : decode cX0_copyFrom 33 = .ok (.iconst 0, 1) := by decide +kernel
theorem dX0_copyFrom_34 : decode cX0_copyFrom 34 = .ok (.bipush 8, 2) := by decide +kernel
theorem dX0_copyFrom_36 : decode cX0_copyFrom 36 = .ok (.invokestatic 34, 3) := by decide +kernel
theorem dX0_copyFrom_39 : decode cX0_copyFrom 39 = .ok (.aload_n 1, 1) := by decide +kernel
theorem dX0_copyFrom_40 : decode cX0_copyFrom 40 = .ok (.getfield 19, 3) := by decide +kernel
theorem dX0_copyFrom_43 : decode cX0_copyFrom 43 = .ok (.iconst 0, 1) := by decide +kernel
theorem dX0_copyFrom_44 : decode cX0_copyFrom 44 = .ok (.aload_n 0, 1) := by decide +kernel
theorem dX0_copyFrom_45 : decode cX0_copyFrom 45 = .ok (.getfield 19, 3) := by decide +kernel
theorem dX0_copyFrom_48 : decode cX0_copyFrom 48 = .ok (.iconst 0, 1) := by decide +kernel
theorem dX0_copyFrom_49 : decode cX0_copyFrom 49 = .ok (.bipush 8, 2) := by decide +kernel
theorem dX0_copyFrom_51 : decode cX0_copyFrom 51 = .ok (.invokestatic 34, 3) := by decide +kernel
theorem dX0_copyFrom_54 : decode cX0_copyFrom 54 = .ok (.aload_n 1, 1) := by decide +kernel
theorem dX0_copyFrom_55 : decode cX0_copyFrom 55 = .ok (.getfield 28, 3) := by decide +kernel
theorem dX0_copyFrom_58 : decode cX0_copyFrom 58 = .ok (.iconst 0, 1) := by decide +kernel
theorem dX0_copyFrom_59 : decode cX0_copyFrom 59 = .ok (.aload_n 0, 1) := by decide +kernel
theorem dX0_copyFrom_60 : decode cX0_copyFrom 60 = .ok (.getfield 28, 3) := by decide +kernel
theorem dX0_copyFrom_63 : decode cX0_copyFrom 63 = .ok (.iconst 0, 1) := by decide +kernel
theorem dX0_copyFrom_64 : decode cX0_copyFrom 64 = .ok (.bipush 20, 2) := by decide +kernel
theorem dX0_copyFrom_66 : decode cX0_copyFrom 66 = .ok (.invokestatic 34, 3) := by decide +kernel
theorem dX0_copyFrom_69 : decode cX0_copyFrom 69 = .ok (.aload_n 1, 1) := by decide +kernel
theorem dX0_copyFrom_70 : decode cX0_copyFrom 70 = .ok (.getfield 31, 3) := by decide +kernel
theorem dX0_copyFrom_73 : decode cX0_copyFrom 73 = .ok (.iconst 0, 1) := by decide +kernel
theorem dX0_copyFrom_74 : decode cX0_copyFrom 74 = .ok (.aload_n 0, 1) := by decide +kernel
theorem dX0_copyFrom_75 : decode cX0_copyFrom 75 = .ok (.getfield 31, 3) := by decide +kernel
theorem dX0_copyFrom_78 : decode cX0_copyFrom 78 = .ok (.iconst 0, 1) := by decide +kernel
theorem dX0_copyFrom_79 : decode cX0_copyFrom 79 = .ok (.bipush 20, 2) := by decide +kernel
theorem dX0_copyFrom_81 : decode cX0_copyFrom 81 = .ok (.invokestatic 34, 3) := by decide +kernel
theorem dX0_copyFrom_84 : decode cX0_copyFrom 84 = .ok (.return_, 1) := by decide +kernel
theorem dX0_greatestAssignment_0 : decode cX0_greatestAssignment 0 = .ok (.iconst 1, 1) := by decide +kernel
theorem dX0_greatestAssignment_1 : decode cX0_greatestAssignment 1 = .ok (.aload_n 0, 1) := by decide +kernel
theorem dX0_greatestAssignment_2 : decode cX0_greatestAssignment 2 = .ok (.getfield 22, 3) := by decide +kernel
theorem dX0_greatestAssignment_5 : decode cX0_greatestAssignment 5 = .ok (.ishl, 1) := by decide +kernel
theorem dX0_greatestAssignment_6 : decode cX0_greatestAssignment 6 = .ok (.iconst 1, 1) := by decide +kernel
theorem dX0_greatestAssignment_7 : decode cX0_greatestAssignment 7 = .ok (.isub, 1) := by decide +kernel
theorem dX0_greatestAssignment_8 : decode cX0_greatestAssignment 8 = .ok (.ireturn, 1) := by decide +kernel
theorem dX0_wordCount_0 : decode cX0_wordCount 0 = .ok (.aload_n 0, 1) := by decide +kernel
theorem dX0_wordCount_1 : decode cX0_wordCount 1 = .ok (.getfield 22, 3) := by decide +kernel
theorem dX0_wordCount_4 : decode cX0_wordCount 4 = .ok (.bipush 6, 2) := by decide +kernel
theorem dX0_wordCount_6 : decode cX0_wordCount 6 = .ok (.if_icmp .gt 7, 3) := by decide +kernel
theorem dX0_wordCount_9 : decode cX0_wordCount 9 = .ok (.iconst 1, 1) := by decide +kernel
theorem dX0_wordCount_10 : decode cX0_wordCount 10 = .ok (.goto 12, 3) := by decide +kernel
theorem dX0_wordCount_13 : decode cX0_wordCount 13 = .ok (.iconst 1, 1) := by decide +kernel
theorem dX0_wordCount_14 : decode cX0_wordCount 14 = .ok (.aload_n 0, 1) := by decide +kernel
theorem dX0_wordCount_15 : decode cX0_wordCount 15 = .ok (.getfield 22, 3) := by decide +kernel
theorem dX0_wordCount_18 : decode cX0_wordCount 18 = .ok (.bipush 6, 2) := by decide +kernel
theorem dX0_wordCount_20 : decode cX0_wordCount 20 = .ok (.isub, 1) := by decide +kernel
theorem dX0_wordCount_21 : decode cX0_wordCount 21 = .ok (.ishl, 1) := by decide +kernel
theorem dX0_wordCount_22 : decode cX0_wordCount 22 = .ok (.ireturn, 1) := by decide +kernel
theorem dX0_assignmentsOfAWord_0 : decode cX0_assignmentsOfAWord 0 = .ok (.aload_n 0, 1) := by decide +kernel
theorem dX0_assignmentsOfAWord_1 : decode cX0_assignmentsOfAWord 1 = .ok (.getfield 22, 3) := by decide +kernel
theorem dX0_assignmentsOfAWord_4 : decode cX0_assignmentsOfAWord 4 = .ok (.bipush 6, 2) := by decide +kernel
theorem dX0_assignmentsOfAWord_6 : decode cX0_assignmentsOfAWord 6 = .ok (.if_icmp .lt 9, 3) := by decide +kernel
theorem dX0_assignmentsOfAWord_9 : decode cX0_assignmentsOfAWord 9 = .ok (.ldc2_w 40, 3) := by decide +kernel
theorem dX0_assignmentsOfAWord_12 : decode cX0_assignmentsOfAWord 12 = .ok (.goto 13, 3) := by decide +kernel
theorem dX0_assignmentsOfAWord_15 : decode cX0_assignmentsOfAWord 15 = .ok (.lconst 1, 1) := by decide +kernel
theorem dX0_assignmentsOfAWord_16 : decode cX0_assignmentsOfAWord 16 = .ok (.iconst 1, 1) := by decide +kernel
theorem dX0_assignmentsOfAWord_17 : decode cX0_assignmentsOfAWord 17 = .ok (.aload_n 0, 1) := by decide +kernel
theorem dX0_assignmentsOfAWord_18 : decode cX0_assignmentsOfAWord 18 = .ok (.getfield 22, 3) := by decide +kernel
theorem dX0_assignmentsOfAWord_21 : decode cX0_assignmentsOfAWord 21 = .ok (.ishl, 1) := by decide +kernel
theorem dX0_assignmentsOfAWord_22 : decode cX0_assignmentsOfAWord 22 = .ok (.lshl, 1) := by decide +kernel
theorem dX0_assignmentsOfAWord_23 : decode cX0_assignmentsOfAWord 23 = .ok (.lconst 1, 1) := by decide +kernel
theorem dX0_assignmentsOfAWord_24 : decode cX0_assignmentsOfAWord 24 = .ok (.lsub, 1) := by decide +kernel
theorem dX0_assignmentsOfAWord_25 : decode cX0_assignmentsOfAWord 25 = .ok (.lreturn, 1) := by decide +kernel
theorem dX0_variableAt_0 : decode cX0_variableAt 0 = .ok (.iload_n 0, 1) := by decide +kernel
theorem dX0_variableAt_1 : decode cX0_variableAt 1 = .ok (.iconst 4, 1) := by decide +kernel
theorem dX0_variableAt_2 : decode cX0_variableAt 2 = .ok (.iload_n 1, 1) := by decide +kernel
theorem dX0_variableAt_3 : decode cX0_variableAt 3 = .ok (.imul, 1) := by decide +kernel
theorem dX0_variableAt_4 : decode cX0_variableAt 4 = .ok (.iushr, 1) := by decide +kernel
theorem dX0_variableAt_5 : decode cX0_variableAt 5 = .ok (.bipush 15, 2) := by decide +kernel
theorem dX0_variableAt_7 : decode cX0_variableAt 7 = .ok (.iand, 1) := by decide +kernel
theorem dX0_variableAt_8 : decode cX0_variableAt 8 = .ok (.ireturn, 1) := by decide +kernel
theorem dX0_assignmentsWithOne_0 : decode cX0_assignmentsWithOne 0 = .ok (.iload_n 0, 1) := by decide +kernel
theorem dX0_assignmentsWithOne_1 : decode cX0_assignmentsWithOne 1 = .ok (.bipush 6, 2) := by decide +kernel
theorem dX0_assignmentsWithOne_3 : decode cX0_assignmentsWithOne 3 = .ok (.if_icmp .ge 9, 3) := by decide +kernel
theorem dX0_assignmentsWithOne_6 : decode cX0_assignmentsWithOne 6 = .ok (.getstatic 42, 3) := by decide +kernel
theorem dX0_assignmentsWithOne_9 : decode cX0_assignmentsWithOne 9 = .ok (.iload_n 0, 1) := by decide +kernel
theorem dX0_assignmentsWithOne_10 : decode cX0_assignmentsWithOne 10 = .ok (.laload, 1) := by decide +kernel
theorem dX0_assignmentsWithOne_11 : decode cX0_assignmentsWithOne 11 = .ok (.lreturn, 1) := by decide +kernel
theorem dX0_assignmentsWithOne_12 : decode cX0_assignmentsWithOne 12 = .ok (.iload_n 1, 1) := by decide +kernel
theorem dX0_assignmentsWithOne_13 : decode cX0_assignmentsWithOne 13 = .ok (.iload_n 0, 1) := by decide +kernel
theorem dX0_assignmentsWithOne_14 : decode cX0_assignmentsWithOne 14 = .ok (.bipush 6, 2) := by decide +kernel
theorem dX0_assignmentsWithOne_16 : decode cX0_assignmentsWithOne 16 = .ok (.isub, 1) := by decide +kernel
theorem dX0_assignmentsWithOne_17 : decode cX0_assignmentsWithOne 17 = .ok (.invokestatic 46, 3) := by decide +kernel
theorem dX0_assignmentsWithOne_20 : decode cX0_assignmentsWithOne 20 = .ok (.ifCond .eq 9, 3) := by decide +kernel
theorem dX0_assignmentsWithOne_23 : decode cX0_assignmentsWithOne 23 = .ok (.ldc2_w 40, 3) := by decide +kernel
theorem dX0_assignmentsWithOne_26 : decode cX0_assignmentsWithOne 26 = .ok (.goto 4, 3) := by decide +kernel
theorem dX0_assignmentsWithOne_29 : decode cX0_assignmentsWithOne 29 = .ok (.lconst 0, 1) := by decide +kernel
theorem dX0_assignmentsWithOne_30 : decode cX0_assignmentsWithOne 30 = .ok (.lreturn, 1) := by decide +kernel
theorem dX0_assignmentsWith_0 : decode cX0_assignmentsWith 0 = .ok (.iload_n 0, 1) := by decide +kernel
theorem dX0_assignmentsWith_1 : decode cX0_assignmentsWith 1 = .ok (.iload_n 2, 1) := by decide +kernel
theorem dX0_assignmentsWith_2 : decode cX0_assignmentsWith 2 = .ok (.invokestatic 50, 3) := by decide +kernel
theorem dX0_assignmentsWith_5 : decode cX0_assignmentsWith 5 = .ok (.lstore_n 3, 1) := by decide +kernel
theorem dX0_assignmentsWith_6 : decode cX0_assignmentsWith 6 = .ok (.iload_n 1, 1) := by decide +kernel
theorem dX0_assignmentsWith_7 : decode cX0_assignmentsWith 7 = .ok (.iconst 1, 1) := by decide +kernel
theorem dX0_assignmentsWith_8 : decode cX0_assignmentsWith 8 = .ok (.if_icmp .ne 7, 3) := by decide +kernel
theorem dX0_assignmentsWith_11 : decode cX0_assignmentsWith 11 = .ok (.lload_n 3, 1) := by decide +kernel
theorem dX0_assignmentsWith_12 : decode cX0_assignmentsWith 12 = .ok (.goto 8, 3) := by decide +kernel
theorem dX0_assignmentsWith_15 : decode cX0_assignmentsWith 15 = .ok (.lload_n 3, 1) := by decide +kernel
theorem dX0_assignmentsWith_16 : decode cX0_assignmentsWith 16 = .ok (.ldc2_w 40, 3) := by decide +kernel
theorem dX0_assignmentsWith_19 : decode cX0_assignmentsWith 19 = .ok (.lxor, 1) := by decide +kernel
theorem dX0_assignmentsWith_20 : decode cX0_assignmentsWith 20 = .ok (.lreturn, 1) := by decide +kernel
theorem dX0_assignmentsInto_0 : decode cX0_assignmentsInto 0 = .ok (.iload_n 0, 1) := by decide +kernel
theorem dX0_assignmentsInto_1 : decode cX0_assignmentsInto 1 = .ok (.ifCond .ne 5, 3) := by decide +kernel
theorem dX0_assignmentsInto_4 : decode cX0_assignmentsInto 4 = .ok (.lconst 0, 1) := by decide +kernel
theorem dX0_assignmentsInto_5 : decode cX0_assignmentsInto 5 = .ok (.lreturn, 1) := by decide +kernel
theorem dX0_assignmentsInto_6 : decode cX0_assignmentsInto 6 = .ok (.iload_n 1, 1) := by decide +kernel
theorem dX0_assignmentsInto_7 : decode cX0_assignmentsInto 7 = .ok (.ifCond .le 11, 3) := by decide +kernel
theorem dX0_assignmentsInto_10 : decode cX0_assignmentsInto 10 = .ok (.iload_n 0, 1) := by decide +kernel
theorem dX0_assignmentsInto_11 : decode cX0_assignmentsInto 11 = .ok (.iload_n 1, 1) := by decide +kernel
theorem dX0_assignmentsInto_12 : decode cX0_assignmentsInto 12 = .ok (.invokestatic 54, 3) := by decide +kernel
theorem dX0_assignmentsInto_15 : decode cX0_assignmentsInto 15 = .ok (.if_icmp .ne 7, 3) := by decide +kernel
theorem dX0_assignmentsInto_18 : decode cX0_assignmentsInto 18 = .ok (.ldc2_w 40, 3) := by decide +kernel
theorem dX0_assignmentsInto_21 : decode cX0_assignmentsInto 21 = .ok (.lreturn, 1) := by decide +kernel
theorem dX0_assignmentsInto_22 : decode cX0_assignmentsInto 22 = .ok (.iload_n 1, 1) := by decide +kernel
theorem dX0_assignmentsInto_23 : decode cX0_assignmentsInto 23 = .ok (.iconst 1, 1) := by decide +kernel
theorem dX0_assignmentsInto_24 : decode cX0_assignmentsInto 24 = .ok (.isub, 1) := by decide +kernel
theorem dX0_assignmentsInto_25 : decode cX0_assignmentsInto 25 = .ok (.istore 4, 2) := by decide +kernel
theorem dX0_assignmentsInto_27 : decode cX0_assignmentsInto 27 = .ok (.iload_n 2, 1) := by decide +kernel
theorem dX0_assignmentsInto_28 : decode cX0_assignmentsInto 28 = .ok (.iload 4, 2) := by decide +kernel
theorem dX0_assignmentsInto_30 : decode cX0_assignmentsInto 30 = .ok (.invokestatic 58, 3) := by decide +kernel
theorem dX0_assignmentsInto_33 : decode cX0_assignmentsInto 33 = .ok (.iload_n 3, 1) := by decide +kernel
theorem dX0_assignmentsInto_34 : decode cX0_assignmentsInto 34 = .ok (.invokestatic 50, 3) := by decide +kernel
theorem dX0_assignmentsInto_37 : decode cX0_assignmentsInto 37 = .ok (.lstore 5, 2) := by decide +kernel
theorem dX0_assignmentsInto_39 : decode cX0_assignmentsInto 39 = .ok (.iload_n 0, 1) := by decide +kernel
theorem dX0_assignmentsInto_40 : decode cX0_assignmentsInto 40 = .ok (.iload 4, 2) := by decide +kernel
theorem dX0_assignmentsInto_42 : decode cX0_assignmentsInto 42 = .ok (.invokestatic 54, 3) := by decide +kernel
theorem dX0_assignmentsInto_45 : decode cX0_assignmentsInto 45 = .ok (.iand, 1) := by decide +kernel
theorem dX0_assignmentsInto_46 : decode cX0_assignmentsInto 46 = .ok (.iload 4, 2) := by decide +kernel
theorem dX0_assignmentsInto_48 : decode cX0_assignmentsInto 48 = .ok (.iload_n 2, 1) := by decide +kernel
theorem dX0_assignmentsInto_49 : decode cX0_assignmentsInto 49 = .ok (.iload_n 3, 1) := by decide +kernel
theorem dX0_assignmentsInto_50 : decode cX0_assignmentsInto 50 = .ok (.invokestatic 62, 3) := by decide +kernel
theorem dX0_assignmentsInto_53 : decode cX0_assignmentsInto 53 = .ok (.lstore 7, 2) := by decide +kernel
theorem dX0_assignmentsInto_55 : decode cX0_assignmentsInto 55 = .ok (.iload_n 0, 1) := by decide +kernel
theorem dX0_assignmentsInto_56 : decode cX0_assignmentsInto 56 = .ok (.iconst 1, 1) := by decide +kernel
theorem dX0_assignmentsInto_57 : decode cX0_assignmentsInto 57 = .ok (.iload 4, 2) := by decide +kernel
theorem dX0_assignmentsInto_59 : decode cX0_assignmentsInto 59 = .ok (.ishl, 1) := by decide +kernel
theorem dX0_assignmentsInto_60 : decode cX0_assignmentsInto 60 = .ok (.iushr, 1) := by decide +kernel
theorem dX0_assignmentsInto_61 : decode cX0_assignmentsInto 61 = .ok (.iload 4, 2) := by decide +kernel
theorem dX0_assignmentsInto_63 : decode cX0_assignmentsInto 63 = .ok (.iload_n 2, 1) := by decide +kernel
theorem dX0_assignmentsInto_64 : decode cX0_assignmentsInto 64 = .ok (.iload_n 3, 1) := by decide +kernel
theorem dX0_assignmentsInto_65 : decode cX0_assignmentsInto 65 = .ok (.invokestatic 62, 3) := by decide +kernel
theorem dX0_assignmentsInto_68 : decode cX0_assignmentsInto 68 = .ok (.lstore 9, 2) := by decide +kernel
theorem dX0_assignmentsInto_70 : decode cX0_assignmentsInto 70 = .ok (.lload 7, 2) := by decide +kernel
theorem dX0_assignmentsInto_72 : decode cX0_assignmentsInto 72 = .ok (.lload 5, 2) := by decide +kernel
theorem dX0_assignmentsInto_74 : decode cX0_assignmentsInto 74 = .ok (.ldc2_w 40, 3) := by decide +kernel
theorem dX0_assignmentsInto_77 : decode cX0_assignmentsInto 77 = .ok (.lxor, 1) := by decide +kernel
theorem dX0_assignmentsInto_78 : decode cX0_assignmentsInto 78 = .ok (.land, 1) := by decide +kernel
theorem dX0_assignmentsInto_79 : decode cX0_assignmentsInto 79 = .ok (.lload 9, 2) := by decide +kernel
theorem dX0_assignmentsInto_81 : decode cX0_assignmentsInto 81 = .ok (.lload 5, 2) := by decide +kernel
theorem dX0_assignmentsInto_83 : decode cX0_assignmentsInto 83 = .ok (.land, 1) := by decide +kernel
theorem dX0_assignmentsInto_84 : decode cX0_assignmentsInto 84 = .ok (.lor, 1) := by decide +kernel
theorem dX0_assignmentsInto_85 : decode cX0_assignmentsInto 85 = .ok (.lreturn, 1) := by decide +kernel
theorem dX0_satisfying_0 : decode cX0_satisfying 0 = .ok (.aload_n 0, 1) := by decide +kernel
theorem dX0_satisfying_1 : decode cX0_satisfying 1 = .ok (.getfield 28, 3) := by decide +kernel
theorem dX0_satisfying_4 : decode cX0_satisfying 4 = .ok (.iload_n 1, 1) := by decide +kernel
theorem dX0_satisfying_5 : decode cX0_satisfying 5 = .ok (.iaload, 1) := by decide +kernel
theorem dX0_satisfying_6 : decode cX0_satisfying 6 = .ok (.istore_n 3, 1) := by decide +kernel
theorem dX0_satisfying_7 : decode cX0_satisfying 7 = .ok (.aload_n 0, 1) := by decide +kernel
theorem dX0_satisfying_8 : decode cX0_satisfying 8 = .ok (.getfield 19, 3) := by decide +kernel
theorem dX0_satisfying_11 : decode cX0_satisfying 11 = .ok (.iload_n 3, 1) := by decide +kernel
theorem dX0_satisfying_12 : decode cX0_satisfying 12 = .ok (.iaload, 1) := by decide +kernel
theorem dX0_satisfying_13 : decode cX0_satisfying 13 = .ok (.aload_n 0, 1) := by decide +kernel
theorem dX0_satisfying_14 : decode cX0_satisfying 14 = .ok (.getfield 15, 3) := by decide +kernel
theorem dX0_satisfying_17 : decode cX0_satisfying 17 = .ok (.iload_n 3, 1) := by decide +kernel
theorem dX0_satisfying_18 : decode cX0_satisfying 18 = .ok (.iaload, 1) := by decide +kernel
theorem dX0_satisfying_19 : decode cX0_satisfying 19 = .ok (.aload_n 0, 1) := by decide +kernel
theorem dX0_satisfying_20 : decode cX0_satisfying 20 = .ok (.getfield 31, 3) := by decide +kernel
theorem dX0_satisfying_23 : decode cX0_satisfying 23 = .ok (.iload_n 1, 1) := by decide +kernel
theorem dX0_satisfying_24 : decode cX0_satisfying 24 = .ok (.iaload, 1) := by decide +kernel
theorem dX0_satisfying_25 : decode cX0_satisfying 25 = .ok (.iload_n 2, 1) := by decide +kernel
theorem dX0_satisfying_26 : decode cX0_satisfying 26 = .ok (.invokestatic 62, 3) := by decide +kernel
theorem dX0_satisfying_29 : decode cX0_satisfying 29 = .ok (.lreturn, 1) := by decide +kernel
theorem dX0_solutionsIn_0 : decode cX0_solutionsIn 0 = .ok (.aload_n 0, 1) := by decide +kernel
theorem dX0_solutionsIn_1 : decode cX0_solutionsIn 1 = .ok (.invokevirtual 66, 3) := by decide +kernel
theorem dX0_solutionsIn_4 : decode cX0_solutionsIn 4 = .ok (.lstore_n 3, 1) := by decide +kernel
theorem dX0_solutionsIn_5 : decode cX0_solutionsIn 5 = .ok (.iconst 0, 1) := by decide +kernel
theorem dX0_solutionsIn_6 : decode cX0_solutionsIn 6 = .ok (.istore 5, 2) := by decide +kernel
theorem dX0_solutionsIn_8 : decode cX0_solutionsIn 8 = .ok (.iload 5, 2) := by decide +kernel
theorem dX0_solutionsIn_10 : decode cX0_solutionsIn 10 = .ok (.aload_n 0, 1) := by decide +kernel
theorem dX0_solutionsIn_11 : decode cX0_solutionsIn 11 = .ok (.getfield 25, 3) := by decide +kernel
theorem dX0_solutionsIn_14 : decode cX0_solutionsIn 14 = .ok (.if_icmp .ge 34, 3) := by decide +kernel
theorem dX0_solutionsIn_17 : decode cX0_solutionsIn 17 = .ok (.lload_n 3, 1) := by decide +kernel
theorem dX0_solutionsIn_18 : decode cX0_solutionsIn 18 = .ok (.lconst 0, 1) := by decide +kernel
theorem dX0_solutionsIn_19 : decode cX0_solutionsIn 19 = .ok (.lcmp, 1) := by decide +kernel
theorem dX0_solutionsIn_20 : decode cX0_solutionsIn 20 = .ok (.ifCond .eq 28, 3) := by decide +kernel
theorem dX0_solutionsIn_23 : decode cX0_solutionsIn 23 = .ok (.iload_n 2, 1) := by decide +kernel
theorem dX0_solutionsIn_24 : decode cX0_solutionsIn 24 = .ok (.iload 5, 2) := by decide +kernel
theorem dX0_solutionsIn_26 : decode cX0_solutionsIn 26 = .ok (.invokestatic 46, 3) := by decide +kernel
theorem dX0_solutionsIn_29 : decode cX0_solutionsIn 29 = .ok (.ifCond .ne 13, 3) := by decide +kernel
theorem dX0_solutionsIn_32 : decode cX0_solutionsIn 32 = .ok (.lload_n 3, 1) := by decide +kernel
theorem dX0_solutionsIn_33 : decode cX0_solutionsIn 33 = .ok (.aload_n 0, 1) := by decide +kernel
theorem dX0_solutionsIn_34 : decode cX0_solutionsIn 34 = .ok (.iload 5, 2) := by decide +kernel
theorem dX0_solutionsIn_36 : decode cX0_solutionsIn 36 = .ok (.iload_n 1, 1) := by decide +kernel
theorem dX0_solutionsIn_37 : decode cX0_solutionsIn 37 = .ok (.invokevirtual 70, 3) := by decide +kernel
theorem dX0_solutionsIn_40 : decode cX0_solutionsIn 40 = .ok (.land, 1) := by decide +kernel
theorem dX0_solutionsIn_41 : decode cX0_solutionsIn 41 = .ok (.lstore_n 3, 1) := by decide +kernel
theorem dX0_solutionsIn_42 : decode cX0_solutionsIn 42 = .ok (.iinc 5 1, 3) := by decide +kernel
theorem dX0_solutionsIn_45 : decode cX0_solutionsIn 45 = .ok (.goto (-37), 3) := by decide +kernel
theorem dX0_solutionsIn_48 : decode cX0_solutionsIn 48 = .ok (.lload_n 3, 1) := by decide +kernel
theorem dX0_solutionsIn_49 : decode cX0_solutionsIn 49 = .ok (.lreturn, 1) := by decide +kernel
theorem dX0_countSolutions_0 : decode cX0_countSolutions 0 = .ok (.iconst 0, 1) := by decide +kernel
theorem dX0_countSolutions_1 : decode cX0_countSolutions 1 = .ok (.istore_n 1, 1) := by decide +kernel
theorem dX0_countSolutions_2 : decode cX0_countSolutions 2 = .ok (.iconst 0, 1) := by decide +kernel
theorem dX0_countSolutions_3 : decode cX0_countSolutions 3 = .ok (.istore_n 2, 1) := by decide +kernel
theorem dX0_countSolutions_4 : decode cX0_countSolutions 4 = .ok (.iload_n 2, 1) := by decide +kernel
theorem dX0_countSolutions_5 : decode cX0_countSolutions 5 = .ok (.aload_n 0, 1) := by decide +kernel
theorem dX0_countSolutions_6 : decode cX0_countSolutions 6 = .ok (.invokevirtual 73, 3) := by decide +kernel
theorem dX0_countSolutions_9 : decode cX0_countSolutions 9 = .ok (.if_icmp .ge 21, 3) := by decide +kernel
theorem dX0_countSolutions_12 : decode cX0_countSolutions 12 = .ok (.iload_n 1, 1) := by decide +kernel
theorem dX0_countSolutions_13 : decode cX0_countSolutions 13 = .ok (.aload_n 0, 1) := by decide +kernel
theorem dX0_countSolutions_14 : decode cX0_countSolutions 14 = .ok (.iload_n 2, 1) := by decide +kernel
theorem dX0_countSolutions_15 : decode cX0_countSolutions 15 = .ok (.iconst 0, 1) := by decide +kernel
theorem dX0_countSolutions_16 : decode cX0_countSolutions 16 = .ok (.invokevirtual 77, 3) := by decide +kernel
theorem dX0_countSolutions_19 : decode cX0_countSolutions 19 = .ok (.invokestatic 80, 3) := by decide +kernel
theorem dX0_countSolutions_22 : decode cX0_countSolutions 22 = .ok (.iadd, 1) := by decide +kernel
theorem dX0_countSolutions_23 : decode cX0_countSolutions 23 = .ok (.istore_n 1, 1) := by decide +kernel
theorem dX0_countSolutions_24 : decode cX0_countSolutions 24 = .ok (.iinc 2 1, 3) := by decide +kernel
theorem dX0_countSolutions_27 : decode cX0_countSolutions 27 = .ok (.goto (-23), 3) := by decide +kernel
theorem dX0_countSolutions_30 : decode cX0_countSolutions 30 = .ok (.iload_n 1, 1) := by decide +kernel
theorem dX0_countSolutions_31 : decode cX0_countSolutions 31 = .ok (.ireturn, 1) := by decide +kernel
theorem dX0_findSolution_0 : decode cX0_findSolution 0 = .ok (.iconst 0, 1) := by decide +kernel
theorem dX0_findSolution_1 : decode cX0_findSolution 1 = .ok (.istore_n 2, 1) := by decide +kernel
theorem dX0_findSolution_2 : decode cX0_findSolution 2 = .ok (.iconst 0, 1) := by decide +kernel
theorem dX0_findSolution_3 : decode cX0_findSolution 3 = .ok (.istore_n 3, 1) := by decide +kernel
theorem dX0_findSolution_4 : decode cX0_findSolution 4 = .ok (.iload_n 3, 1) := by decide +kernel
theorem dX0_findSolution_5 : decode cX0_findSolution 5 = .ok (.aload_n 0, 1) := by decide +kernel
theorem dX0_findSolution_6 : decode cX0_findSolution 6 = .ok (.invokevirtual 73, 3) := by decide +kernel
theorem dX0_findSolution_9 : decode cX0_findSolution 9 = .ok (.if_icmp .ge 55, 3) := by decide +kernel
theorem dX0_findSolution_12 : decode cX0_findSolution 12 = .ok (.iload_n 1, 1) := by decide +kernel
theorem dX0_findSolution_13 : decode cX0_findSolution 13 = .ok (.ifCond .lt 51, 3) := by decide +kernel
theorem dX0_findSolution_16 : decode cX0_findSolution 16 = .ok (.aload_n 0, 1) := by decide +kernel
theorem dX0_findSolution_17 : decode cX0_findSolution 17 = .ok (.iload_n 3, 1) := by decide +kernel
theorem dX0_findSolution_18 : decode cX0_findSolution 18 = .ok (.iconst 0, 1) := by decide +kernel
theorem dX0_findSolution_19 : decode cX0_findSolution 19 = .ok (.invokevirtual 77, 3) := by decide +kernel
theorem dX0_findSolution_22 : decode cX0_findSolution 22 = .ok (.lstore 4, 2) := by decide +kernel
theorem dX0_findSolution_24 : decode cX0_findSolution 24 = .ok (.lload 4, 2) := by decide +kernel
theorem dX0_findSolution_26 : decode cX0_findSolution 26 = .ok (.invokestatic 80, 3) := by decide +kernel
theorem dX0_findSolution_29 : decode cX0_findSolution 29 = .ok (.istore 6, 2) := by decide +kernel
theorem dX0_findSolution_31 : decode cX0_findSolution 31 = .ok (.iload_n 1, 1) := by decide +kernel
theorem dX0_findSolution_32 : decode cX0_findSolution 32 = .ok (.iload_n 2, 1) := by decide +kernel
theorem dX0_findSolution_33 : decode cX0_findSolution 33 = .ok (.isub, 1) := by decide +kernel
theorem dX0_findSolution_34 : decode cX0_findSolution 34 = .ok (.iload 6, 2) := by decide +kernel
theorem dX0_findSolution_36 : decode cX0_findSolution 36 = .ok (.if_icmp .ge 17, 3) := by decide +kernel
theorem dX0_findSolution_39 : decode cX0_findSolution 39 = .ok (.iload_n 3, 1) := by decide +kernel
theorem dX0_findSolution_40 : decode cX0_findSolution 40 = .ok (.bipush 64, 2) := by decide +kernel
theorem dX0_findSolution_42 : decode cX0_findSolution 42 = .ok (.imul, 1) := by decide +kernel
theorem dX0_findSolution_43 : decode cX0_findSolution 43 = .ok (.lload 4, 2) := by decide +kernel
theorem dX0_findSolution_45 : decode cX0_findSolution 45 = .ok (.iload_n 1, 1) := by decide +kernel
theorem dX0_findSolution_46 : decode cX0_findSolution 46 = .ok (.iload_n 2, 1) := by decide +kernel
theorem dX0_findSolution_47 : decode cX0_findSolution 47 = .ok (.isub, 1) := by decide +kernel
theorem dX0_findSolution_48 : decode cX0_findSolution 48 = .ok (.invokestatic 86, 3) := by decide +kernel
theorem dX0_findSolution_51 : decode cX0_findSolution 51 = .ok (.iadd, 1) := by decide +kernel
theorem dX0_findSolution_52 : decode cX0_findSolution 52 = .ok (.ireturn, 1) := by decide +kernel
theorem dX0_findSolution_53 : decode cX0_findSolution 53 = .ok (.iload_n 2, 1) := by decide +kernel
theorem dX0_findSolution_54 : decode cX0_findSolution 54 = .ok (.iload 6, 2) := by decide +kernel
theorem dX0_findSolution_56 : decode cX0_findSolution 56 = .ok (.iadd, 1) := by decide +kernel
theorem dX0_findSolution_57 : decode cX0_findSolution 57 = .ok (.istore_n 2, 1) := by decide +kernel
theorem dX0_findSolution_58 : decode cX0_findSolution 58 = .ok (.iinc 3 1, 3) := by decide +kernel
theorem dX0_findSolution_61 : decode cX0_findSolution 61 = .ok (.goto (-57), 3) := by decide +kernel
theorem dX0_findSolution_64 : decode cX0_findSolution 64 = .ok (.iconst (-1), 1) := by decide +kernel
theorem dX0_findSolution_65 : decode cX0_findSolution 65 = .ok (.ireturn, 1) := by decide +kernel
theorem dX0_placeOfBit_0 : decode cX0_placeOfBit 0 = .ok (.lload_n 0, 1) := by decide +kernel
theorem dX0_placeOfBit_1 : decode cX0_placeOfBit 1 = .ok (.lstore_n 3, 1) := by decide +kernel
theorem dX0_placeOfBit_2 : decode cX0_placeOfBit 2 = .ok (.iconst 0, 1) := by decide +kernel
theorem dX0_placeOfBit_3 : decode cX0_placeOfBit 3 = .ok (.istore 5, 2) := by decide +kernel
theorem dX0_placeOfBit_5 : decode cX0_placeOfBit 5 = .ok (.iload 5, 2) := by decide +kernel
theorem dX0_placeOfBit_7 : decode cX0_placeOfBit 7 = .ok (.iload_n 2, 1) := by decide +kernel
theorem dX0_placeOfBit_8 : decode cX0_placeOfBit 8 = .ok (.if_icmp .ge 15, 3) := by decide +kernel
theorem dX0_placeOfBit_11 : decode cX0_placeOfBit 11 = .ok (.lload_n 3, 1) := by decide +kernel
theorem dX0_placeOfBit_12 : decode cX0_placeOfBit 12 = .ok (.lload_n 3, 1) := by decide +kernel
theorem dX0_placeOfBit_13 : decode cX0_placeOfBit 13 = .ok (.lconst 1, 1) := by decide +kernel
theorem dX0_placeOfBit_14 : decode cX0_placeOfBit 14 = .ok (.lsub, 1) := by decide +kernel
theorem dX0_placeOfBit_15 : decode cX0_placeOfBit 15 = .ok (.land, 1) := by decide +kernel
theorem dX0_placeOfBit_16 : decode cX0_placeOfBit 16 = .ok (.lstore_n 3, 1) := by decide +kernel
theorem dX0_placeOfBit_17 : decode cX0_placeOfBit 17 = .ok (.iinc 5 1, 3) := by decide +kernel
theorem dX0_placeOfBit_20 : decode cX0_placeOfBit 20 = .ok (.goto (-15), 3) := by decide +kernel
theorem dX0_placeOfBit_23 : decode cX0_placeOfBit 23 = .ok (.lload_n 3, 1) := by decide +kernel
theorem dX0_placeOfBit_24 : decode cX0_placeOfBit 24 = .ok (.lload_n 3, 1) := by decide +kernel
theorem dX0_placeOfBit_25 : decode cX0_placeOfBit 25 = .ok (.lneg, 1) := by decide +kernel
theorem dX0_placeOfBit_26 : decode cX0_placeOfBit 26 = .ok (.land, 1) := by decide +kernel
theorem dX0_placeOfBit_27 : decode cX0_placeOfBit 27 = .ok (.lconst 1, 1) := by decide +kernel
theorem dX0_placeOfBit_28 : decode cX0_placeOfBit 28 = .ok (.lsub, 1) := by decide +kernel
theorem dX0_placeOfBit_29 : decode cX0_placeOfBit 29 = .ok (.invokestatic 80, 3) := by decide +kernel
theorem dX0_placeOfBit_32 : decode cX0_placeOfBit 32 = .ok (.ireturn, 1) := by decide +kernel
theorem dX0_variablesThatTake_0 : decode cX0_variablesThatTake 0 = .ok (.iconst 0, 1) := by decide +kernel
theorem dX0_variablesThatTake_1 : decode cX0_variablesThatTake 1 = .ok (.istore_n 2, 1) := by decide +kernel
theorem dX0_variablesThatTake_2 : decode cX0_variablesThatTake 2 = .ok (.iconst 0, 1) := by decide +kernel
theorem dX0_variablesThatTake_3 : decode cX0_variablesThatTake 3 = .ok (.istore_n 3, 1) := by decide +kernel
theorem dX0_variablesThatTake_4 : decode cX0_variablesThatTake 4 = .ok (.iload_n 3, 1) := by decide +kernel
theorem dX0_variablesThatTake_5 : decode cX0_variablesThatTake 5 = .ok (.aload_n 0, 1) := by decide +kernel
theorem dX0_variablesThatTake_6 : decode cX0_variablesThatTake 6 = .ok (.invokevirtual 73, 3) := by decide +kernel
theorem dX0_variablesThatTake_9 : decode cX0_variablesThatTake 9 = .ok (.if_icmp .ge 57, 3) := by decide +kernel
theorem dX0_variablesThatTake_12 : decode cX0_variablesThatTake 12 = .ok (.aload_n 0, 1) := by decide +kernel
theorem dX0_variablesThatTake_13 : decode cX0_variablesThatTake 13 = .ok (.iload_n 3, 1) := by decide +kernel
theorem dX0_variablesThatTake_14 : decode cX0_variablesThatTake 14 = .ok (.iconst 0, 1) := by decide +kernel
theorem dX0_variablesThatTake_15 : decode cX0_variablesThatTake 15 = .ok (.invokevirtual 77, 3) := by decide +kernel
theorem dX0_variablesThatTake_18 : decode cX0_variablesThatTake 18 = .ok (.lstore 4, 2) := by decide +kernel
theorem dX0_variablesThatTake_20 : decode cX0_variablesThatTake 20 = .ok (.iconst 0, 1) := by decide +kernel
theorem dX0_variablesThatTake_21 : decode cX0_variablesThatTake 21 = .ok (.istore 6, 2) := by decide +kernel
theorem dX0_variablesThatTake_23 : decode cX0_variablesThatTake 23 = .ok (.iload 6, 2) := by decide +kernel
theorem dX0_variablesThatTake_25 : decode cX0_variablesThatTake 25 = .ok (.aload_n 0, 1) := by decide +kernel
theorem dX0_variablesThatTake_26 : decode cX0_variablesThatTake 26 = .ok (.getfield 22, 3) := by decide +kernel
theorem dX0_variablesThatTake_29 : decode cX0_variablesThatTake 29 = .ok (.if_icmp .ge 31, 3) := by decide +kernel
theorem dX0_variablesThatTake_32 : decode cX0_variablesThatTake 32 = .ok (.lload 4, 2) := by decide +kernel
theorem dX0_variablesThatTake_34 : decode cX0_variablesThatTake 34 = .ok (.iload 6, 2) := by decide +kernel
theorem dX0_variablesThatTake_36 : decode cX0_variablesThatTake 36 = .ok (.iload_n 1, 1) := by decide +kernel
theorem dX0_variablesThatTake_37 : decode cX0_variablesThatTake 37 = .ok (.iload_n 3, 1) := by decide +kernel
theorem dX0_variablesThatTake_38 : decode cX0_variablesThatTake 38 = .ok (.invokestatic 90, 3) := by decide +kernel
theorem dX0_variablesThatTake_41 : decode cX0_variablesThatTake 41 = .ok (.land, 1) := by decide +kernel
theorem dX0_variablesThatTake_42 : decode cX0_variablesThatTake 42 = .ok (.lconst 0, 1) := by decide +kernel
theorem dX0_variablesThatTake_43 : decode cX0_variablesThatTake 43 = .ok (.lcmp, 1) := by decide +kernel
theorem dX0_variablesThatTake_44 : decode cX0_variablesThatTake 44 = .ok (.ifCond .eq 10, 3) := by decide +kernel
theorem dX0_variablesThatTake_47 : decode cX0_variablesThatTake 47 = .ok (.iload_n 2, 1) := by decide +kernel
theorem dX0_variablesThatTake_48 : decode cX0_variablesThatTake 48 = .ok (.iconst 1, 1) := by decide +kernel
theorem dX0_variablesThatTake_49 : decode cX0_variablesThatTake 49 = .ok (.iload 6, 2) := by decide +kernel
theorem dX0_variablesThatTake_51 : decode cX0_variablesThatTake 51 = .ok (.ishl, 1) := by decide +kernel
theorem dX0_variablesThatTake_52 : decode cX0_variablesThatTake 52 = .ok (.ior, 1) := by decide +kernel
theorem dX0_variablesThatTake_53 : decode cX0_variablesThatTake 53 = .ok (.istore_n 2, 1) := by decide +kernel
theorem dX0_variablesThatTake_54 : decode cX0_variablesThatTake 54 = .ok (.iinc 6 1, 3) := by decide +kernel
theorem dX0_variablesThatTake_57 : decode cX0_variablesThatTake 57 = .ok (.goto (-34), 3) := by decide +kernel
theorem dX0_variablesThatTake_60 : decode cX0_variablesThatTake 60 = .ok (.iinc 3 1, 3) := by decide +kernel
theorem dX0_variablesThatTake_63 : decode cX0_variablesThatTake 63 = .ok (.goto (-59), 3) := by decide +kernel
theorem dX0_variablesThatTake_66 : decode cX0_variablesThatTake 66 = .ok (.iload_n 2, 1) := by decide +kernel
theorem dX0_variablesThatTake_67 : decode cX0_variablesThatTake 67 = .ok (.ireturn, 1) := by decide +kernel
theorem dX0_hasSolutionWith_0 : decode cX0_hasSolutionWith 0 = .ok (.iconst 0, 1) := by decide +kernel
theorem dX0_hasSolutionWith_1 : decode cX0_hasSolutionWith 1 = .ok (.istore 5, 2) := by decide +kernel
theorem dX0_hasSolutionWith_3 : decode cX0_hasSolutionWith 3 = .ok (.iload 5, 2) := by decide +kernel
theorem dX0_hasSolutionWith_5 : decode cX0_hasSolutionWith 5 = .ok (.aload_n 0, 1) := by decide +kernel
theorem dX0_hasSolutionWith_6 : decode cX0_hasSolutionWith 6 = .ok (.invokevirtual 73, 3) := by decide +kernel
theorem dX0_hasSolutionWith_9 : decode cX0_hasSolutionWith 9 = .ok (.if_icmp .ge 44, 3) := by decide +kernel
theorem dX0_hasSolutionWith_12 : decode cX0_hasSolutionWith 12 = .ok (.iload_n 1, 1) := by decide +kernel
theorem dX0_hasSolutionWith_13 : decode cX0_hasSolutionWith 13 = .ok (.iload_n 2, 1) := by decide +kernel
theorem dX0_hasSolutionWith_14 : decode cX0_hasSolutionWith 14 = .ok (.iload 5, 2) := by decide +kernel
theorem dX0_hasSolutionWith_16 : decode cX0_hasSolutionWith 16 = .ok (.invokestatic 90, 3) := by decide +kernel
theorem dX0_hasSolutionWith_19 : decode cX0_hasSolutionWith 19 = .ok (.iload_n 3, 1) := by decide +kernel
theorem dX0_hasSolutionWith_20 : decode cX0_hasSolutionWith 20 = .ok (.iload 4, 2) := by decide +kernel
theorem dX0_hasSolutionWith_22 : decode cX0_hasSolutionWith 22 = .ok (.iload 5, 2) := by decide +kernel
theorem dX0_hasSolutionWith_24 : decode cX0_hasSolutionWith 24 = .ok (.invokestatic 90, 3) := by decide +kernel
theorem dX0_hasSolutionWith_27 : decode cX0_hasSolutionWith 27 = .ok (.land, 1) := by decide +kernel
theorem dX0_hasSolutionWith_28 : decode cX0_hasSolutionWith 28 = .ok (.lstore 6, 2) := by decide +kernel
theorem dX0_hasSolutionWith_30 : decode cX0_hasSolutionWith 30 = .ok (.aload_n 0, 1) := by decide +kernel
theorem dX0_hasSolutionWith_31 : decode cX0_hasSolutionWith 31 = .ok (.iload 5, 2) := by decide +kernel
theorem dX0_hasSolutionWith_33 : decode cX0_hasSolutionWith 33 = .ok (.iconst 0, 1) := by decide +kernel
theorem dX0_hasSolutionWith_34 : decode cX0_hasSolutionWith 34 = .ok (.invokevirtual 77, 3) := by decide +kernel
theorem dX0_hasSolutionWith_37 : decode cX0_hasSolutionWith 37 = .ok (.lload 6, 2) := by decide +kernel
theorem dX0_hasSolutionWith_39 : decode cX0_hasSolutionWith 39 = .ok (.land, 1) := by decide +kernel
theorem dX0_hasSolutionWith_40 : decode cX0_hasSolutionWith 40 = .ok (.lconst 0, 1) := by decide +kernel
theorem dX0_hasSolutionWith_41 : decode cX0_hasSolutionWith 41 = .ok (.lcmp, 1) := by decide +kernel
theorem dX0_hasSolutionWith_42 : decode cX0_hasSolutionWith 42 = .ok (.ifCond .eq 5, 3) := by decide +kernel
theorem dX0_hasSolutionWith_45 : decode cX0_hasSolutionWith 45 = .ok (.iconst 1, 1) := by decide +kernel
theorem dX0_hasSolutionWith_46 : decode cX0_hasSolutionWith 46 = .ok (.ireturn, 1) := by decide +kernel
theorem dX0_hasSolutionWith_47 : decode cX0_hasSolutionWith 47 = .ok (.iinc 5 1, 3) := by decide +kernel
theorem dX0_hasSolutionWith_50 : decode cX0_hasSolutionWith 50 = .ok (.goto (-47), 3) := by decide +kernel
theorem dX0_hasSolutionWith_53 : decode cX0_hasSolutionWith 53 = .ok (.iconst 0, 1) := by decide +kernel
theorem dX0_hasSolutionWith_54 : decode cX0_hasSolutionWith 54 = .ok (.ireturn, 1) := by decide +kernel
theorem dX0_tuplesOfSolutions_0 : decode cX0_tuplesOfSolutions 0 = .ok (.iconst 0, 1) := by decide +kernel
theorem dX0_tuplesOfSolutions_1 : decode cX0_tuplesOfSolutions 1 = .ok (.istore_n 3, 1) := by decide +kernel
theorem dX0_tuplesOfSolutions_2 : decode cX0_tuplesOfSolutions 2 = .ok (.iconst 0, 1) := by decide +kernel
theorem dX0_tuplesOfSolutions_3 : decode cX0_tuplesOfSolutions 3 = .ok (.istore 4, 2) := by decide +kernel
theorem dX0_tuplesOfSolutions_5 : decode cX0_tuplesOfSolutions 5 = .ok (.iload 4, 2) := by decide +kernel
theorem dX0_tuplesOfSolutions_7 : decode cX0_tuplesOfSolutions 7 = .ok (.aload_n 0, 1) := by decide +kernel
theorem dX0_tuplesOfSolutions_8 : decode cX0_tuplesOfSolutions 8 = .ok (.invokevirtual 73, 3) := by decide +kernel
theorem dX0_tuplesOfSolutions_11 : decode cX0_tuplesOfSolutions 11 = .ok (.if_icmp .ge 62, 3) := by decide +kernel
theorem dX0_tuplesOfSolutions_14 : decode cX0_tuplesOfSolutions 14 = .ok (.aload_n 0, 1) := by decide +kernel
theorem dX0_tuplesOfSolutions_15 : decode cX0_tuplesOfSolutions 15 = .ok (.iload 4, 2) := by decide +kernel
theorem dX0_tuplesOfSolutions_17 : decode cX0_tuplesOfSolutions 17 = .ok (.iconst 0, 1) := by decide +kernel
theorem dX0_tuplesOfSolutions_18 : decode cX0_tuplesOfSolutions 18 = .ok (.invokevirtual 77, 3) := by decide +kernel
theorem dX0_tuplesOfSolutions_21 : decode cX0_tuplesOfSolutions 21 = .ok (.lstore 5, 2) := by decide +kernel
theorem dX0_tuplesOfSolutions_23 : decode cX0_tuplesOfSolutions 23 = .ok (.iconst 0, 1) := by decide +kernel
theorem dX0_tuplesOfSolutions_24 : decode cX0_tuplesOfSolutions 24 = .ok (.istore 7, 2) := by decide +kernel
theorem dX0_tuplesOfSolutions_26 : decode cX0_tuplesOfSolutions 26 = .ok (.iload 7, 2) := by decide +kernel
theorem dX0_tuplesOfSolutions_28 : decode cX0_tuplesOfSolutions 28 = .ok (.iload_n 1, 1) := by decide +kernel
theorem dX0_tuplesOfSolutions_29 : decode cX0_tuplesOfSolutions 29 = .ok (.invokestatic 94, 3) := by decide +kernel
theorem dX0_tuplesOfSolutions_32 : decode cX0_tuplesOfSolutions 32 = .ok (.if_icmp .gt 35, 3) := by decide +kernel
theorem dX0_tuplesOfSolutions_35 : decode cX0_tuplesOfSolutions 35 = .ok (.lload 5, 2) := by decide +kernel
theorem dX0_tuplesOfSolutions_37 : decode cX0_tuplesOfSolutions 37 = .ok (.iconst 1, 1) := by decide +kernel
theorem dX0_tuplesOfSolutions_38 : decode cX0_tuplesOfSolutions 38 = .ok (.iload 7, 2) := by decide +kernel
theorem dX0_tuplesOfSolutions_40 : decode cX0_tuplesOfSolutions 40 = .ok (.ishl, 1) := by decide +kernel
theorem dX0_tuplesOfSolutions_41 : decode cX0_tuplesOfSolutions 41 = .ok (.iload_n 1, 1) := by decide +kernel
theorem dX0_tuplesOfSolutions_42 : decode cX0_tuplesOfSolutions 42 = .ok (.iload_n 2, 1) := by decide +kernel
theorem dX0_tuplesOfSolutions_43 : decode cX0_tuplesOfSolutions 43 = .ok (.iload 4, 2) := by decide +kernel
theorem dX0_tuplesOfSolutions_45 : decode cX0_tuplesOfSolutions 45 = .ok (.invokestatic 62, 3) := by decide +kernel
theorem dX0_tuplesOfSolutions_48 : decode cX0_tuplesOfSolutions 48 = .ok (.land, 1) := by decide +kernel
theorem dX0_tuplesOfSolutions_49 : decode cX0_tuplesOfSolutions 49 = .ok (.lconst 0, 1) := by decide +kernel
theorem dX0_tuplesOfSolutions_50 : decode cX0_tuplesOfSolutions 50 = .ok (.lcmp, 1) := by decide +kernel
theorem dX0_tuplesOfSolutions_51 : decode cX0_tuplesOfSolutions 51 = .ok (.ifCond .eq 10, 3) := by decide +kernel
theorem dX0_tuplesOfSolutions_54 : decode cX0_tuplesOfSolutions 54 = .ok (.iload_n 3, 1) := by decide +kernel
theorem dX0_tuplesOfSolutions_55 : decode cX0_tuplesOfSolutions 55 = .ok (.iconst 1, 1) := by decide +kernel
theorem dX0_tuplesOfSolutions_56 : decode cX0_tuplesOfSolutions 56 = .ok (.iload 7, 2) := by decide +kernel
theorem dX0_tuplesOfSolutions_58 : decode cX0_tuplesOfSolutions 58 = .ok (.ishl, 1) := by decide +kernel
theorem dX0_tuplesOfSolutions_59 : decode cX0_tuplesOfSolutions 59 = .ok (.ior, 1) := by decide +kernel
theorem dX0_tuplesOfSolutions_60 : decode cX0_tuplesOfSolutions 60 = .ok (.istore_n 3, 1) := by decide +kernel
theorem dX0_tuplesOfSolutions_61 : decode cX0_tuplesOfSolutions 61 = .ok (.iinc 7 1, 3) := by decide +kernel
theorem dX0_tuplesOfSolutions_64 : decode cX0_tuplesOfSolutions 64 = .ok (.goto (-38), 3) := by decide +kernel
theorem dX0_tuplesOfSolutions_67 : decode cX0_tuplesOfSolutions 67 = .ok (.iinc 4 1, 3) := by decide +kernel
theorem dX0_tuplesOfSolutions_70 : decode cX0_tuplesOfSolutions 70 = .ok (.goto (-65), 3) := by decide +kernel
theorem dX0_tuplesOfSolutions_73 : decode cX0_tuplesOfSolutions 73 = .ok (.iload_n 3, 1) := by decide +kernel
theorem dX0_tuplesOfSolutions_74 : decode cX0_tuplesOfSolutions 74 = .ok (.ireturn, 1) := by decide +kernel
theorem dX0_isSatisfied_0 : decode cX0_isSatisfied 0 = .ok (.aload_n 0, 1) := by decide +kernel
theorem dX0_isSatisfied_1 : decode cX0_isSatisfied 1 = .ok (.getfield 28, 3) := by decide +kernel
theorem dX0_isSatisfied_4 : decode cX0_isSatisfied 4 = .ok (.iload_n 1, 1) := by decide +kernel
theorem dX0_isSatisfied_5 : decode cX0_isSatisfied 5 = .ok (.iaload, 1) := by decide +kernel
theorem dX0_isSatisfied_6 : decode cX0_isSatisfied 6 = .ok (.istore_n 3, 1) := by decide +kernel
theorem dX0_isSatisfied_7 : decode cX0_isSatisfied 7 = .ok (.iconst 0, 1) := by decide +kernel
theorem dX0_isSatisfied_8 : decode cX0_isSatisfied 8 = .ok (.istore 4, 2) := by decide +kernel
theorem dX0_isSatisfied_10 : decode cX0_isSatisfied 10 = .ok (.iconst 0, 1) := by decide +kernel
theorem dX0_isSatisfied_11 : decode cX0_isSatisfied 11 = .ok (.istore 5, 2) := by decide +kernel
theorem dX0_isSatisfied_13 : decode cX0_isSatisfied 13 = .ok (.iload 5, 2) := by decide +kernel
theorem dX0_isSatisfied_15 : decode cX0_isSatisfied 15 = .ok (.aload_n 0, 1) := by decide +kernel
theorem dX0_isSatisfied_16 : decode cX0_isSatisfied 16 = .ok (.getfield 15, 3) := by decide +kernel
theorem dX0_isSatisfied_19 : decode cX0_isSatisfied 19 = .ok (.iload_n 3, 1) := by decide +kernel
theorem dX0_isSatisfied_20 : decode cX0_isSatisfied 20 = .ok (.iaload, 1) := by decide +kernel
theorem dX0_isSatisfied_21 : decode cX0_isSatisfied 21 = .ok (.if_icmp .ge 36, 3) := by decide +kernel
theorem dX0_isSatisfied_24 : decode cX0_isSatisfied 24 = .ok (.iload_n 2, 1) := by decide +kernel
theorem dX0_isSatisfied_25 : decode cX0_isSatisfied 25 = .ok (.aload_n 0, 1) := by decide +kernel
theorem dX0_isSatisfied_26 : decode cX0_isSatisfied 26 = .ok (.getfield 31, 3) := by decide +kernel
theorem dX0_isSatisfied_29 : decode cX0_isSatisfied 29 = .ok (.iload_n 1, 1) := by decide +kernel
theorem dX0_isSatisfied_30 : decode cX0_isSatisfied 30 = .ok (.iaload, 1) := by decide +kernel
theorem dX0_isSatisfied_31 : decode cX0_isSatisfied 31 = .ok (.iload 5, 2) := by decide +kernel
theorem dX0_isSatisfied_33 : decode cX0_isSatisfied 33 = .ok (.invokestatic 58, 3) := by decide +kernel
theorem dX0_isSatisfied_36 : decode cX0_isSatisfied 36 = .ok (.invokestatic 46, 3) := by decide +kernel
theorem dX0_isSatisfied_39 : decode cX0_isSatisfied 39 = .ok (.ifCond .eq 12, 3) := by decide +kernel
theorem dX0_isSatisfied_42 : decode cX0_isSatisfied 42 = .ok (.iload 4, 2) := by decide +kernel
theorem dX0_isSatisfied_44 : decode cX0_isSatisfied 44 = .ok (.iconst 1, 1) := by decide +kernel
theorem dX0_isSatisfied_45 : decode cX0_isSatisfied 45 = .ok (.iload 5, 2) := by decide +kernel
theorem dX0_isSatisfied_47 : decode cX0_isSatisfied 47 = .ok (.ishl, 1) := by decide +kernel
theorem dX0_isSatisfied_48 : decode cX0_isSatisfied 48 = .ok (.ior, 1) := by decide +kernel
theorem dX0_isSatisfied_49 : decode cX0_isSatisfied 49 = .ok (.istore 4, 2) := by decide +kernel
theorem dX0_isSatisfied_51 : decode cX0_isSatisfied 51 = .ok (.iinc 5 1, 3) := by decide +kernel
theorem dX0_isSatisfied_54 : decode cX0_isSatisfied 54 = .ok (.goto (-41), 3) := by decide +kernel
theorem dX0_isSatisfied_57 : decode cX0_isSatisfied 57 = .ok (.aload_n 0, 1) := by decide +kernel
theorem dX0_isSatisfied_58 : decode cX0_isSatisfied 58 = .ok (.getfield 19, 3) := by decide +kernel
theorem dX0_isSatisfied_61 : decode cX0_isSatisfied 61 = .ok (.iload_n 3, 1) := by decide +kernel
theorem dX0_isSatisfied_62 : decode cX0_isSatisfied 62 = .ok (.iaload, 1) := by decide +kernel
theorem dX0_isSatisfied_63 : decode cX0_isSatisfied 63 = .ok (.iload 4, 2) := by decide +kernel
theorem dX0_isSatisfied_65 : decode cX0_isSatisfied 65 = .ok (.invokestatic 46, 3) := by decide +kernel
theorem dX0_isSatisfied_68 : decode cX0_isSatisfied 68 = .ok (.ireturn, 1) := by decide +kernel
theorem dX0_isSpare_0 : decode cX0_isSpare 0 = .ok (.iconst 0, 1) := by decide +kernel
theorem dX0_isSpare_1 : decode cX0_isSpare 1 = .ok (.istore_n 3, 1) := by decide +kernel
theorem dX0_isSpare_2 : decode cX0_isSpare 2 = .ok (.iload_n 3, 1) := by decide +kernel
theorem dX0_isSpare_3 : decode cX0_isSpare 3 = .ok (.aload_n 0, 1) := by decide +kernel
theorem dX0_isSpare_4 : decode cX0_isSpare 4 = .ok (.invokevirtual 73, 3) := by decide +kernel
theorem dX0_isSpare_7 : decode cX0_isSpare 7 = .ok (.if_icmp .ge 41, 3) := by decide +kernel
theorem dX0_isSpare_10 : decode cX0_isSpare 10 = .ok (.aload_n 0, 1) := by decide +kernel
theorem dX0_isSpare_11 : decode cX0_isSpare 11 = .ok (.iload_n 3, 1) := by decide +kernel
theorem dX0_isSpare_12 : decode cX0_isSpare 12 = .ok (.iload_n 2, 1) := by decide +kernel
theorem dX0_isSpare_13 : decode cX0_isSpare 13 = .ok (.iconst 1, 1) := by decide +kernel
theorem dX0_isSpare_14 : decode cX0_isSpare 14 = .ok (.iload_n 1, 1) := by decide +kernel
theorem dX0_isSpare_15 : decode cX0_isSpare 15 = .ok (.ishl, 1) := by decide +kernel
theorem dX0_isSpare_16 : decode cX0_isSpare 16 = .ok (.ior, 1) := by decide +kernel
theorem dX0_isSpare_17 : decode cX0_isSpare 17 = .ok (.invokevirtual 77, 3) := by decide +kernel
theorem dX0_isSpare_20 : decode cX0_isSpare 20 = .ok (.lstore 4, 2) := by decide +kernel
theorem dX0_isSpare_22 : decode cX0_isSpare 22 = .ok (.lload 4, 2) := by decide +kernel
theorem dX0_isSpare_24 : decode cX0_isSpare 24 = .ok (.aload_n 0, 1) := by decide +kernel
theorem dX0_isSpare_25 : decode cX0_isSpare 25 = .ok (.iload_n 1, 1) := by decide +kernel
theorem dX0_isSpare_26 : decode cX0_isSpare 26 = .ok (.iload_n 3, 1) := by decide +kernel
theorem dX0_isSpare_27 : decode cX0_isSpare 27 = .ok (.invokevirtual 70, 3) := by decide +kernel
theorem dX0_isSpare_30 : decode cX0_isSpare 30 = .ok (.ldc2_w 40, 3) := by decide +kernel
theorem dX0_isSpare_33 : decode cX0_isSpare 33 = .ok (.lxor, 1) := by decide +kernel
theorem dX0_isSpare_34 : decode cX0_isSpare 34 = .ok (.land, 1) := by decide +kernel
theorem dX0_isSpare_35 : decode cX0_isSpare 35 = .ok (.lconst 0, 1) := by decide +kernel
theorem dX0_isSpare_36 : decode cX0_isSpare 36 = .ok (.lcmp, 1) := by decide +kernel
theorem dX0_isSpare_37 : decode cX0_isSpare 37 = .ok (.ifCond .eq 5, 3) := by decide +kernel
theorem dX0_isSpare_40 : decode cX0_isSpare 40 = .ok (.iconst 0, 1) := by decide +kernel
theorem dX0_isSpare_41 : decode cX0_isSpare 41 = .ok (.ireturn, 1) := by decide +kernel
theorem dX0_isSpare_42 : decode cX0_isSpare 42 = .ok (.iinc 3 1, 3) := by decide +kernel
theorem dX0_isSpare_45 : decode cX0_isSpare 45 = .ok (.goto (-43), 3) := by decide +kernel
theorem dX0_isSpare_48 : decode cX0_isSpare 48 = .ok (.iconst 1, 1) := by decide +kernel
theorem dX0_isSpare_49 : decode cX0_isSpare 49 = .ok (.ireturn, 1) := by decide +kernel
theorem dX0_removeConstraints_0 : decode cX0_removeConstraints 0 = .ok (.iconst 0, 1) := by decide +kernel
theorem dX0_removeConstraints_1 : decode cX0_removeConstraints 1 = .ok (.istore_n 2, 1) := by decide +kernel
theorem dX0_removeConstraints_2 : decode cX0_removeConstraints 2 = .ok (.iconst 0, 1) := by decide +kernel
theorem dX0_removeConstraints_3 : decode cX0_removeConstraints 3 = .ok (.istore_n 3, 1) := by decide +kernel
theorem dX0_removeConstraints_4 : decode cX0_removeConstraints 4 = .ok (.iload_n 3, 1) := by decide +kernel
theorem dX0_removeConstraints_5 : decode cX0_removeConstraints 5 = .ok (.aload_n 0, 1) := by decide +kernel
theorem dX0_removeConstraints_6 : decode cX0_removeConstraints 6 = .ok (.getfield 25, 3) := by decide +kernel
theorem dX0_removeConstraints_9 : decode cX0_removeConstraints 9 = .ok (.if_icmp .ge 44, 3) := by decide +kernel
theorem dX0_removeConstraints_12 : decode cX0_removeConstraints 12 = .ok (.iload_n 1, 1) := by decide +kernel
theorem dX0_removeConstraints_13 : decode cX0_removeConstraints 13 = .ok (.iload_n 3, 1) := by decide +kernel
theorem dX0_removeConstraints_14 : decode cX0_removeConstraints 14 = .ok (.invokestatic 46, 3) := by decide +kernel
theorem dX0_removeConstraints_17 : decode cX0_removeConstraints 17 = .ok (.ifCond .ne 30, 3) := by decide +kernel
theorem dX0_removeConstraints_20 : decode cX0_removeConstraints 20 = .ok (.aload_n 0, 1) := by decide +kernel
theorem dX0_removeConstraints_21 : decode cX0_removeConstraints 21 = .ok (.getfield 28, 3) := by decide +kernel
theorem dX0_removeConstraints_24 : decode cX0_removeConstraints 24 = .ok (.iload_n 2, 1) := by decide +kernel
theorem dX0_removeConstraints_25 : decode cX0_removeConstraints 25 = .ok (.aload_n 0, 1) := by decide +kernel
theorem dX0_removeConstraints_26 : decode cX0_removeConstraints 26 = .ok (.getfield 28, 3) := by decide +kernel
theorem dX0_removeConstraints_29 : decode cX0_removeConstraints 29 = .ok (.iload_n 3, 1) := by decide +kernel
theorem dX0_removeConstraints_30 : decode cX0_removeConstraints 30 = .ok (.iaload, 1) := by decide +kernel
theorem dX0_removeConstraints_31 : decode cX0_removeConstraints 31 = .ok (.iastore, 1) := by decide +kernel
theorem dX0_removeConstraints_32 : decode cX0_removeConstraints 32 = .ok (.aload_n 0, 1) := by decide +kernel
theorem dX0_removeConstraints_33 : decode cX0_removeConstraints 33 = .ok (.getfield 31, 3) := by decide +kernel
theorem dX0_removeConstraints_36 : decode cX0_removeConstraints 36 = .ok (.iload_n 2, 1) := by decide +kernel
theorem dX0_removeConstraints_37 : decode cX0_removeConstraints 37 = .ok (.aload_n 0, 1) := by decide +kernel
theorem dX0_removeConstraints_38 : decode cX0_removeConstraints 38 = .ok (.getfield 31, 3) := by decide +kernel
theorem dX0_removeConstraints_41 : decode cX0_removeConstraints 41 = .ok (.iload_n 3, 1) := by decide +kernel
theorem dX0_removeConstraints_42 : decode cX0_removeConstraints 42 = .ok (.iaload, 1) := by decide +kernel
theorem dX0_removeConstraints_43 : decode cX0_removeConstraints 43 = .ok (.iastore, 1) := by decide +kernel
theorem dX0_removeConstraints_44 : decode cX0_removeConstraints 44 = .ok (.iinc 2 1, 3) := by decide +kernel
theorem dX0_removeConstraints_47 : decode cX0_removeConstraints 47 = .ok (.iinc 3 1, 3) := by decide +kernel
theorem dX0_removeConstraints_50 : decode cX0_removeConstraints 50 = .ok (.goto (-46), 3) := by decide +kernel
theorem dX0_removeConstraints_53 : decode cX0_removeConstraints 53 = .ok (.aload_n 0, 1) := by decide +kernel
theorem dX0_removeConstraints_54 : decode cX0_removeConstraints 54 = .ok (.iload_n 2, 1) := by decide +kernel
theorem dX0_removeConstraints_55 : decode cX0_removeConstraints 55 = .ok (.putfield 25, 3) := by decide +kernel
theorem dX0_removeConstraints_58 : decode cX0_removeConstraints 58 = .ok (.return_, 1) := by decide +kernel
theorem dX1_addRelation_0 : decode cX1_addRelation 0 = .ok (.iload_n 1, 1) := by decide +kernel
theorem dX1_addRelation_1 : decode cX1_addRelation 1 = .ok (.invokestatic 47, 3) := by decide +kernel
theorem dX1_addRelation_4 : decode cX1_addRelation 4 = .ok (.aload_n 0, 1) := by decide +kernel
theorem dX1_addRelation_5 : decode cX1_addRelation 5 = .ok (.iload_n 1, 1) := by decide +kernel
theorem dX1_addRelation_6 : decode cX1_addRelation 6 = .ok (.iconst 0, 1) := by decide +kernel
theorem dX1_addRelation_7 : decode cX1_addRelation 7 = .ok (.invokevirtual 51, 3) := by decide +kernel
theorem dX1_addRelation_10 : decode cX1_addRelation 10 = .ok (.ireturn, 1) := by decide +kernel
theorem dX1_addClause_0 : decode cX1_addClause 0 = .ok (.iload_n 1, 1) := by decide +kernel
theorem dX1_addClause_1 : decode cX1_addClause 1 = .ok (.invokestatic 47, 3) := by decide +kernel
theorem dX1_addClause_4 : decode cX1_addClause 4 = .ok (.iload_n 2, 1) := by decide +kernel
theorem dX1_addClause_5 : decode cX1_addClause 5 = .ok (.ifCond .lt 11, 3) := by decide +kernel
theorem dX1_addClause_8 : decode cX1_addClause 8 = .ok (.iload_n 2, 1) := by decide +kernel
theorem dX1_addClause_9 : decode cX1_addClause 9 = .ok (.iload_n 1, 1) := by decide +kernel
theorem dX1_addClause_10 : decode cX1_addClause 10 = .ok (.invokestatic 55, 3) := by decide +kernel
theorem dX1_addClause_13 : decode cX1_addClause 13 = .ok (.if_icmp .le 13, 3) := by decide +kernel
theorem dX1_addClause_16 : decode cX1_addClause 16 = .ok (.new 59, 3) := by decide +kernel
theorem dX1_addClause_19 : decode cX1_addClause 19 = .ok (.dup, 1) := by decide +kernel
theorem dX1_addClause_20 : decode cX1_addClause 20 = .ok (.ldc 61, 2) := by decide +kernel
theorem dX1_addClause_22 : decode cX1_addClause 22 = .ok (.invokespecial 63, 3) := by decide +kernel
theorem dX1_addClause_25 : decode cX1_addClause 25 = .ok (.athrow, 1) := by decide +kernel
theorem dX1_addClause_26 : decode cX1_addClause 26 = .ok (.aload_n 0, 1) := by decide +kernel
theorem dX1_addClause_27 : decode cX1_addClause 27 = .ok (.iload_n 1, 1) := by decide +kernel
theorem dX1_addClause_28 : decode cX1_addClause 28 = .ok (.iload_n 1, 1) := by decide +kernel
theorem dX1_addClause_29 : decode cX1_addClause 29 = .ok (.invokestatic 66, 3) := by decide +kernel
theorem dX1_addClause_32 : decode cX1_addClause 32 = .ok (.iconst 1, 1) := by decide +kernel
theorem dX1_addClause_33 : decode cX1_addClause 33 = .ok (.iload_n 2, 1) := by decide +kernel
theorem dX1_addClause_34 : decode cX1_addClause 34 = .ok (.ishl, 1) := by decide +kernel
theorem dX1_addClause_35 : decode cX1_addClause 35 = .ok (.iconst (-1), 1) := by decide +kernel
theorem dX1_addClause_36 : decode cX1_addClause 36 = .ok (.ixor, 1) := by decide +kernel
theorem dX1_addClause_37 : decode cX1_addClause 37 = .ok (.iand, 1) := by decide +kernel
theorem dX1_addClause_38 : decode cX1_addClause 38 = .ok (.invokevirtual 51, 3) := by decide +kernel
theorem dX1_addClause_41 : decode cX1_addClause 41 = .ok (.ireturn, 1) := by decide +kernel
theorem dX1_addParity_0 : decode cX1_addParity 0 = .ok (.iload_n 1, 1) := by decide +kernel
theorem dX1_addParity_1 : decode cX1_addParity 1 = .ok (.invokestatic 47, 3) := by decide +kernel
theorem dX1_addParity_4 : decode cX1_addParity 4 = .ok (.iload_n 2, 1) := by decide +kernel
theorem dX1_addParity_5 : decode cX1_addParity 5 = .ok (.invokestatic 69, 3) := by decide +kernel
theorem dX1_addParity_8 : decode cX1_addParity 8 = .ok (.aload_n 0, 1) := by decide +kernel
theorem dX1_addParity_9 : decode cX1_addParity 9 = .ok (.iload_n 1, 1) := by decide +kernel
theorem dX1_addParity_10 : decode cX1_addParity 10 = .ok (.iload_n 1, 1) := by decide +kernel
theorem dX1_addParity_11 : decode cX1_addParity 11 = .ok (.iload_n 2, 1) := by decide +kernel
theorem dX1_addParity_12 : decode cX1_addParity 12 = .ok (.invokestatic 72, 3) := by decide +kernel
theorem dX1_addParity_15 : decode cX1_addParity 15 = .ok (.invokevirtual 51, 3) := by decide +kernel
theorem dX1_addParity_18 : decode cX1_addParity 18 = .ok (.ireturn, 1) := by decide +kernel
theorem dX1_addTuple_0 : decode cX1_addTuple 0 = .ok (.aload_n 0, 1) := by decide +kernel
theorem dX1_addTuple_1 : decode cX1_addTuple 1 = .ok (.iload_n 1, 1) := by decide +kernel
theorem dX1_addTuple_2 : decode cX1_addTuple 2 = .ok (.invokevirtual 75, 3) := by decide +kernel
theorem dX1_addTuple_5 : decode cX1_addTuple 5 = .ok (.aload_n 0, 1) := by decide +kernel
theorem dX1_addTuple_6 : decode cX1_addTuple 6 = .ok (.iload_n 1, 1) := by decide +kernel
theorem dX1_addTuple_7 : decode cX1_addTuple 7 = .ok (.iload_n 2, 1) := by decide +kernel
theorem dX1_addTuple_8 : decode cX1_addTuple 8 = .ok (.invokevirtual 78, 3) := by decide +kernel
theorem dX1_addTuple_11 : decode cX1_addTuple 11 = .ok (.aload_n 0, 1) := by decide +kernel
theorem dX1_addTuple_12 : decode cX1_addTuple 12 = .ok (.getfield 10, 3) := by decide +kernel
theorem dX1_addTuple_15 : decode cX1_addTuple 15 = .ok (.getfield 82, 3) := by decide +kernel
theorem dX1_addTuple_18 : decode cX1_addTuple 18 = .ok (.iload_n 1, 1) := by decide +kernel
theorem dX1_addTuple_19 : decode cX1_addTuple 19 = .ok (.iaload, 1) := by decide +kernel
theorem dX1_addTuple_20 : decode cX1_addTuple 20 = .ok (.iload_n 2, 1) := by decide +kernel
theorem dX1_addTuple_21 : decode cX1_addTuple 21 = .ok (.invokestatic 85, 3) := by decide +kernel
theorem dX1_addTuple_24 : decode cX1_addTuple 24 = .ok (.ifCond .ne 7, 3) := by decide +kernel
theorem dX1_addTuple_27 : decode cX1_addTuple 27 = .ok (.iconst 1, 1) := by decide +kernel
theorem dX1_addTuple_28 : decode cX1_addTuple 28 = .ok (.goto 4, 3) := by decide +kernel
theorem dX1_addTuple_31 : decode cX1_addTuple 31 = .ok (.iconst 0, 1) := by decide +kernel
theorem dX1_addTuple_32 : decode cX1_addTuple 32 = .ok (.istore_n 3, 1) := by decide +kernel
theorem dX1_addTuple_33 : decode cX1_addTuple 33 = .ok (.aload_n 0, 1) := by decide +kernel
theorem dX1_addTuple_34 : decode cX1_addTuple 34 = .ok (.getfield 10, 3) := by decide +kernel
theorem dX1_addTuple_37 : decode cX1_addTuple 37 = .ok (.getfield 82, 3) := by decide +kernel
theorem dX1_addTuple_40 : decode cX1_addTuple 40 = .ok (.iload_n 1, 1) := by decide +kernel
theorem dX1_addTuple_41 : decode cX1_addTuple 41 = .ok (.dup2, 1) := by decide +kernel
theorem dX1_addTuple_42 : decode cX1_addTuple 42 = .ok (.iaload, 1) := by decide +kernel
theorem dX1_addTuple_43 : decode cX1_addTuple 43 = .ok (.iconst 1, 1) := by decide +kernel
theorem dX1_addTuple_44 : decode cX1_addTuple 44 = .ok (.iload_n 2, 1) := by decide +kernel
theorem dX1_addTuple_45 : decode cX1_addTuple 45 = .ok (.ishl, 1) := by decide +kernel
theorem dX1_addTuple_46 : decode cX1_addTuple 46 = .ok (.ior, 1) := by decide +kernel
theorem dX1_addTuple_47 : decode cX1_addTuple 47 = .ok (.iastore, 1) := by decide +kernel
theorem dX1_addTuple_48 : decode cX1_addTuple 48 = .ok (.iload_n 3, 1) := by decide +kernel
theorem dX1_addTuple_49 : decode cX1_addTuple 49 = .ok (.ireturn, 1) := by decide +kernel
theorem dX1_removeTuple_0 : decode cX1_removeTuple 0 = .ok (.aload_n 0, 1) := by decide +kernel
theorem dX1_removeTuple_1 : decode cX1_removeTuple 1 = .ok (.iload_n 1, 1) := by decide +kernel
theorem dX1_removeTuple_2 : decode cX1_removeTuple 2 = .ok (.invokevirtual 75, 3) := by decide +kernel
theorem dX1_removeTuple_5 : decode cX1_removeTuple 5 = .ok (.aload_n 0, 1) := by decide +kernel
theorem dX1_removeTuple_6 : decode cX1_removeTuple 6 = .ok (.iload_n 1, 1) := by decide +kernel
theorem dX1_removeTuple_7 : decode cX1_removeTuple 7 = .ok (.iload_n 2, 1) := by decide +kernel
theorem dX1_removeTuple_8 : decode cX1_removeTuple 8 = .ok (.invokevirtual 78, 3) := by decide +kernel
theorem dX1_removeTuple_11 : decode cX1_removeTuple 11 = .ok (.aload_n 0, 1) := by decide +kernel
theorem dX1_removeTuple_12 : decode cX1_removeTuple 12 = .ok (.getfield 10, 3) := by decide +kernel
theorem dX1_removeTuple_15 : decode cX1_removeTuple 15 = .ok (.getfield 82, 3) := by decide +kernel
theorem dX1_removeTuple_18 : decode cX1_removeTuple 18 = .ok (.iload_n 1, 1) := by decide +kernel
theorem dX1_removeTuple_19 : decode cX1_removeTuple 19 = .ok (.iaload, 1) := by decide +kernel
theorem dX1_removeTuple_20 : decode cX1_removeTuple 20 = .ok (.iload_n 2, 1) := by decide +kernel
theorem dX1_removeTuple_21 : decode cX1_removeTuple 21 = .ok (.invokestatic 85, 3) := by decide +kernel
theorem dX1_removeTuple_24 : decode cX1_removeTuple 24 = .ok (.istore_n 3, 1) := by decide +kernel
theorem dX1_removeTuple_25 : decode cX1_removeTuple 25 = .ok (.aload_n 0, 1) := by decide +kernel
theorem dX1_removeTuple_26 : decode cX1_removeTuple 26 = .ok (.getfield 10, 3) := by decide +kernel
theorem dX1_removeTuple_29 : decode cX1_removeTuple 29 = .ok (.getfield 82, 3) := by decide +kernel
theorem dX1_removeTuple_32 : decode cX1_removeTuple 32 = .ok (.iload_n 1, 1) := by decide +kernel
theorem dX1_removeTuple_33 : decode cX1_removeTuple 33 = .ok (.dup2, 1) := by decide +kernel
theorem dX1_removeTuple_34 : decode cX1_removeTuple 34 = .ok (.iaload, 1) := by decide +kernel
theorem dX1_removeTuple_35 : decode cX1_removeTuple 35 = .ok (.iconst 1, 1) := by decide +kernel
theorem dX1_removeTuple_36 : decode cX1_removeTuple 36 = .ok (.iload_n 2, 1) := by decide +kernel
theorem dX1_removeTuple_37 : decode cX1_removeTuple 37 = .ok (.ishl, 1) := by decide +kernel
theorem dX1_removeTuple_38 : decode cX1_removeTuple 38 = .ok (.iconst (-1), 1) := by decide +kernel
theorem dX1_removeTuple_39 : decode cX1_removeTuple 39 = .ok (.ixor, 1) := by decide +kernel
theorem dX1_removeTuple_40 : decode cX1_removeTuple 40 = .ok (.iand, 1) := by decide +kernel
theorem dX1_removeTuple_41 : decode cX1_removeTuple 41 = .ok (.iastore, 1) := by decide +kernel
theorem dX1_removeTuple_42 : decode cX1_removeTuple 42 = .ok (.iload_n 3, 1) := by decide +kernel
theorem dX1_removeTuple_43 : decode cX1_removeTuple 43 = .ok (.ireturn, 1) := by decide +kernel
theorem dX1_contains_0 : decode cX1_contains 0 = .ok (.aload_n 0, 1) := by decide +kernel
theorem dX1_contains_1 : decode cX1_contains 1 = .ok (.iload_n 1, 1) := by decide +kernel
theorem dX1_contains_2 : decode cX1_contains 2 = .ok (.invokevirtual 75, 3) := by decide +kernel
theorem dX1_contains_5 : decode cX1_contains 5 = .ok (.aload_n 0, 1) := by decide +kernel
theorem dX1_contains_6 : decode cX1_contains 6 = .ok (.iload_n 1, 1) := by decide +kernel
theorem dX1_contains_7 : decode cX1_contains 7 = .ok (.iload_n 2, 1) := by decide +kernel
theorem dX1_contains_8 : decode cX1_contains 8 = .ok (.invokevirtual 78, 3) := by decide +kernel
theorem dX1_contains_11 : decode cX1_contains 11 = .ok (.aload_n 0, 1) := by decide +kernel
theorem dX1_contains_12 : decode cX1_contains 12 = .ok (.getfield 10, 3) := by decide +kernel
theorem dX1_contains_15 : decode cX1_contains 15 = .ok (.getfield 82, 3) := by decide +kernel
theorem dX1_contains_18 : decode cX1_contains 18 = .ok (.iload_n 1, 1) := by decide +kernel
theorem dX1_contains_19 : decode cX1_contains 19 = .ok (.iaload, 1) := by decide +kernel
theorem dX1_contains_20 : decode cX1_contains 20 = .ok (.iload_n 2, 1) := by decide +kernel
theorem dX1_contains_21 : decode cX1_contains 21 = .ok (.invokestatic 85, 3) := by decide +kernel
theorem dX1_contains_24 : decode cX1_contains 24 = .ok (.ireturn, 1) := by decide +kernel
theorem dX1_tupleCount_0 : decode cX1_tupleCount 0 = .ok (.aload_n 0, 1) := by decide +kernel
theorem dX1_tupleCount_1 : decode cX1_tupleCount 1 = .ok (.iload_n 1, 1) := by decide +kernel
theorem dX1_tupleCount_2 : decode cX1_tupleCount 2 = .ok (.invokevirtual 75, 3) := by decide +kernel
theorem dX1_tupleCount_5 : decode cX1_tupleCount 5 = .ok (.aload_n 0, 1) := by decide +kernel
theorem dX1_tupleCount_6 : decode cX1_tupleCount 6 = .ok (.getfield 10, 3) := by decide +kernel
theorem dX1_tupleCount_9 : decode cX1_tupleCount 9 = .ok (.getfield 82, 3) := by decide +kernel
theorem dX1_tupleCount_12 : decode cX1_tupleCount 12 = .ok (.iload_n 1, 1) := by decide +kernel
theorem dX1_tupleCount_13 : decode cX1_tupleCount 13 = .ok (.iaload, 1) := by decide +kernel
theorem dX1_tupleCount_14 : decode cX1_tupleCount 14 = .ok (.invokestatic 89, 3) := by decide +kernel
theorem dX1_tupleCount_17 : decode cX1_tupleCount 17 = .ok (.ireturn, 1) := by decide +kernel
theorem dX1_arity_0 : decode cX1_arity 0 = .ok (.aload_n 0, 1) := by decide +kernel
theorem dX1_arity_1 : decode cX1_arity 1 = .ok (.iload_n 1, 1) := by decide +kernel
theorem dX1_arity_2 : decode cX1_arity 2 = .ok (.invokevirtual 75, 3) := by decide +kernel
theorem dX1_arity_5 : decode cX1_arity 5 = .ok (.aload_n 0, 1) := by decide +kernel
theorem dX1_arity_6 : decode cX1_arity 6 = .ok (.getfield 10, 3) := by decide +kernel
theorem dX1_arity_9 : decode cX1_arity 9 = .ok (.getfield 94, 3) := by decide +kernel
theorem dX1_arity_12 : decode cX1_arity 12 = .ok (.iload_n 1, 1) := by decide +kernel
theorem dX1_arity_13 : decode cX1_arity 13 = .ok (.iaload, 1) := by decide +kernel
theorem dX1_arity_14 : decode cX1_arity 14 = .ok (.ireturn, 1) := by decide +kernel
theorem dX1_relationCount_0 : decode cX1_relationCount 0 = .ok (.aload_n 0, 1) := by decide +kernel
theorem dX1_relationCount_1 : decode cX1_relationCount 1 = .ok (.getfield 10, 3) := by decide +kernel
theorem dX1_relationCount_4 : decode cX1_relationCount 4 = .ok (.getfield 97, 3) := by decide +kernel
theorem dX1_relationCount_7 : decode cX1_relationCount 7 = .ok (.ireturn, 1) := by decide +kernel
theorem dX1_areEqual_0 : decode cX1_areEqual 0 = .ok (.aload_n 0, 1) := by decide +kernel
theorem dX1_areEqual_1 : decode cX1_areEqual 1 = .ok (.iload_n 1, 1) := by decide +kernel
theorem dX1_areEqual_2 : decode cX1_areEqual 2 = .ok (.invokevirtual 75, 3) := by decide +kernel
theorem dX1_areEqual_5 : decode cX1_areEqual 5 = .ok (.aload_n 0, 1) := by decide +kernel
theorem dX1_areEqual_6 : decode cX1_areEqual 6 = .ok (.iload_n 2, 1) := by decide +kernel
theorem dX1_areEqual_7 : decode cX1_areEqual 7 = .ok (.invokevirtual 75, 3) := by decide +kernel
theorem dX1_areEqual_10 : decode cX1_areEqual 10 = .ok (.aload_n 0, 1) := by decide +kernel
theorem dX1_areEqual_11 : decode cX1_areEqual 11 = .ok (.getfield 10, 3) := by decide +kernel
theorem dX1_areEqual_14 : decode cX1_areEqual 14 = .ok (.getfield 94, 3) := by decide +kernel
theorem dX1_areEqual_17 : decode cX1_areEqual 17 = .ok (.iload_n 1, 1) := by decide +kernel
theorem dX1_areEqual_18 : decode cX1_areEqual 18 = .ok (.iaload, 1) := by decide +kernel
theorem dX1_areEqual_19 : decode cX1_areEqual 19 = .ok (.aload_n 0, 1) := by decide +kernel
theorem dX1_areEqual_20 : decode cX1_areEqual 20 = .ok (.getfield 10, 3) := by decide +kernel
theorem dX1_areEqual_23 : decode cX1_areEqual 23 = .ok (.getfield 94, 3) := by decide +kernel
theorem dX1_areEqual_26 : decode cX1_areEqual 26 = .ok (.iload_n 2, 1) := by decide +kernel
theorem dX1_areEqual_27 : decode cX1_areEqual 27 = .ok (.iaload, 1) := by decide +kernel
theorem dX1_areEqual_28 : decode cX1_areEqual 28 = .ok (.if_icmp .ne 28, 3) := by decide +kernel
theorem dX1_areEqual_31 : decode cX1_areEqual 31 = .ok (.aload_n 0, 1) := by decide +kernel
theorem dX1_areEqual_32 : decode cX1_areEqual 32 = .ok (.getfield 10, 3) := by decide +kernel
theorem dX1_areEqual_35 : decode cX1_areEqual 35 = .ok (.getfield 82, 3) := by decide +kernel
theorem dX1_areEqual_38 : decode cX1_areEqual 38 = .ok (.iload_n 1, 1) := by decide +kernel
theorem dX1_areEqual_39 : decode cX1_areEqual 39 = .ok (.iaload, 1) := by decide +kernel
theorem dX1_areEqual_40 : decode cX1_areEqual 40 = .ok (.aload_n 0, 1) := by decide +kernel
theorem dX1_areEqual_41 : decode cX1_areEqual 41 = .ok (.getfield 10, 3) := by decide +kernel
theorem dX1_areEqual_44 : decode cX1_areEqual 44 = .ok (.getfield 82, 3) := by decide +kernel
theorem dX1_areEqual_47 : decode cX1_areEqual 47 = .ok (.iload_n 2, 1) := by decide +kernel
theorem dX1_areEqual_48 : decode cX1_areEqual 48 = .ok (.iaload, 1) := by decide +kernel
theorem dX1_areEqual_49 : decode cX1_areEqual 49 = .ok (.if_icmp .ne 7, 3) := by decide +kernel
theorem dX1_areEqual_52 : decode cX1_areEqual 52 = .ok (.iconst 1, 1) := by decide +kernel
theorem dX1_areEqual_53 : decode cX1_areEqual 53 = .ok (.goto 4, 3) := by decide +kernel
theorem dX1_areEqual_56 : decode cX1_areEqual 56 = .ok (.iconst 0, 1) := by decide +kernel
theorem dX1_areEqual_57 : decode cX1_areEqual 57 = .ok (.ireturn, 1) := by decide +kernel
theorem dX1_clear_0 : decode cX1_clear 0 = .ok (.aload_n 0, 1) := by decide +kernel
theorem dX1_clear_1 : decode cX1_clear 1 = .ok (.getfield 10, 3) := by decide +kernel
theorem dX1_clear_4 : decode cX1_clear 4 = .ok (.getfield 97, 3) := by decide +kernel
theorem dX1_clear_7 : decode cX1_clear 7 = .ok (.istore_n 1, 1) := by decide +kernel
theorem dX1_clear_8 : decode cX1_clear 8 = .ok (.aload_n 0, 1) := by decide +kernel
theorem dX1_clear_9 : decode cX1_clear 9 = .ok (.getfield 10, 3) := by decide +kernel
theorem dX1_clear_12 : decode cX1_clear 12 = .ok (.iconst 0, 1) := by decide +kernel
theorem dX1_clear_13 : decode cX1_clear 13 = .ok (.putfield 97, 3) := by decide +kernel
theorem dX1_clear_16 : decode cX1_clear 16 = .ok (.aload_n 0, 1) := by decide +kernel
theorem dX1_clear_17 : decode cX1_clear 17 = .ok (.getfield 10, 3) := by decide +kernel
theorem dX1_clear_20 : decode cX1_clear 20 = .ok (.iconst 0, 1) := by decide +kernel
theorem dX1_clear_21 : decode cX1_clear 21 = .ok (.putfield 100, 3) := by decide +kernel
theorem dX1_clear_24 : decode cX1_clear 24 = .ok (.iload_n 1, 1) := by decide +kernel
theorem dX1_clear_25 : decode cX1_clear 25 = .ok (.ireturn, 1) := by decide +kernel
theorem dX1_addComplement_0 : decode cX1_addComplement 0 = .ok (.aload_n 0, 1) := by decide +kernel
theorem dX1_addComplement_1 : decode cX1_addComplement 1 = .ok (.iload_n 1, 1) := by decide +kernel
theorem dX1_addComplement_2 : decode cX1_addComplement 2 = .ok (.invokevirtual 75, 3) := by decide +kernel
theorem dX1_addComplement_5 : decode cX1_addComplement 5 = .ok (.aload_n 0, 1) := by decide +kernel
theorem dX1_addComplement_6 : decode cX1_addComplement 6 = .ok (.getfield 10, 3) := by decide +kernel
theorem dX1_addComplement_9 : decode cX1_addComplement 9 = .ok (.getfield 94, 3) := by decide +kernel
theorem dX1_addComplement_12 : decode cX1_addComplement 12 = .ok (.iload_n 1, 1) := by decide +kernel
theorem dX1_addComplement_13 : decode cX1_addComplement 13 = .ok (.iaload, 1) := by decide +kernel
theorem dX1_addComplement_14 : decode cX1_addComplement 14 = .ok (.istore_n 2, 1) := by decide +kernel
theorem dX1_addComplement_15 : decode cX1_addComplement 15 = .ok (.aload_n 0, 1) := by decide +kernel
theorem dX1_addComplement_16 : decode cX1_addComplement 16 = .ok (.iload_n 2, 1) := by decide +kernel
theorem dX1_addComplement_17 : decode cX1_addComplement 17 = .ok (.iload_n 2, 1) := by decide +kernel
theorem dX1_addComplement_18 : decode cX1_addComplement 18 = .ok (.invokestatic 66, 3) := by decide +kernel
theorem dX1_addComplement_21 : decode cX1_addComplement 21 = .ok (.aload_n 0, 1) := by decide +kernel
theorem dX1_addComplement_22 : decode cX1_addComplement 22 = .ok (.getfield 10, 3) := by decide +kernel
theorem dX1_addComplement_25 : decode cX1_addComplement 25 = .ok (.getfield 82, 3) := by decide +kernel
theorem dX1_addComplement_28 : decode cX1_addComplement 28 = .ok (.iload_n 1, 1) := by decide +kernel
theorem dX1_addComplement_29 : decode cX1_addComplement 29 = .ok (.iaload, 1) := by decide +kernel
theorem dX1_addComplement_30 : decode cX1_addComplement 30 = .ok (.iconst (-1), 1) := by decide +kernel
theorem dX1_addComplement_31 : decode cX1_addComplement 31 = .ok (.ixor, 1) := by decide +kernel
theorem dX1_addComplement_32 : decode cX1_addComplement 32 = .ok (.iand, 1) := by decide +kernel
theorem dX1_addComplement_33 : decode cX1_addComplement 33 = .ok (.invokevirtual 51, 3) := by decide +kernel
theorem dX1_addComplement_36 : decode cX1_addComplement 36 = .ok (.ireturn, 1) := by decide +kernel
theorem dX1_addIntersection_0 : decode cX1_addIntersection 0 = .ok (.aload_n 0, 1) := by decide +kernel
theorem dX1_addIntersection_1 : decode cX1_addIntersection 1 = .ok (.iload_n 1, 1) := by decide +kernel
theorem dX1_addIntersection_2 : decode cX1_addIntersection 2 = .ok (.invokevirtual 75, 3) := by decide +kernel
theorem dX1_addIntersection_5 : decode cX1_addIntersection 5 = .ok (.aload_n 0, 1) := by decide +kernel
theorem dX1_addIntersection_6 : decode cX1_addIntersection 6 = .ok (.iload_n 2, 1) := by decide +kernel
theorem dX1_addIntersection_7 : decode cX1_addIntersection 7 = .ok (.invokevirtual 75, 3) := by decide +kernel
theorem dX1_addIntersection_10 : decode cX1_addIntersection 10 = .ok (.aload_n 0, 1) := by decide +kernel
theorem dX1_addIntersection_11 : decode cX1_addIntersection 11 = .ok (.getfield 10, 3) := by decide +kernel
theorem dX1_addIntersection_14 : decode cX1_addIntersection 14 = .ok (.getfield 94, 3) := by decide +kernel
theorem dX1_addIntersection_17 : decode cX1_addIntersection 17 = .ok (.iload_n 1, 1) := by decide +kernel
theorem dX1_addIntersection_18 : decode cX1_addIntersection 18 = .ok (.iaload, 1) := by decide +kernel
theorem dX1_addIntersection_19 : decode cX1_addIntersection 19 = .ok (.aload_n 0, 1) := by decide +kernel
theorem dX1_addIntersection_20 : decode cX1_addIntersection 20 = .ok (.getfield 10, 3) := by decide +kernel
theorem dX1_addIntersection_23 : decode cX1_addIntersection 23 = .ok (.getfield 94, 3) := by decide +kernel
theorem dX1_addIntersection_26 : decode cX1_addIntersection 26 = .ok (.iload_n 2, 1) := by decide +kernel
theorem dX1_addIntersection_27 : decode cX1_addIntersection 27 = .ok (.iaload, 1) := by decide +kernel
theorem dX1_addIntersection_28 : decode cX1_addIntersection 28 = .ok (.if_icmp .eq 13, 3) := by decide +kernel
theorem dX1_addIntersection_31 : decode cX1_addIntersection 31 = .ok (.new 59, 3) := by decide +kernel
theorem dX1_addIntersection_34 : decode cX1_addIntersection 34 = .ok (.dup, 1) := by decide +kernel
theorem dX1_addIntersection_35 : decode cX1_addIntersection 35 = .ok (.ldc 103, 2) := by decide +kernel
theorem dX1_addIntersection_37 : decode cX1_addIntersection 37 = .ok (.invokespecial 63, 3) := by decide +kernel
theorem dX1_addIntersection_40 : decode cX1_addIntersection 40 = .ok (.athrow, 1) := by decide +kernel
theorem dX1_addIntersection_41 : decode cX1_addIntersection 41 = .ok (.aload_n 0, 1) := by decide +kernel
theorem dX1_addIntersection_42 : decode cX1_addIntersection 42 = .ok (.aload_n 0, 1) := by decide +kernel
theorem dX1_addIntersection_43 : decode cX1_addIntersection 43 = .ok (.getfield 10, 3) := by decide +kernel
theorem dX1_addIntersection_46 : decode cX1_addIntersection 46 = .ok (.getfield 94, 3) := by decide +kernel
theorem dX1_addIntersection_49 : decode cX1_addIntersection 49 = .ok (.iload_n 1, 1) := by decide +kernel
theorem dX1_addIntersection_50 : decode cX1_addIntersection 50 = .ok (.iaload, 1) := by decide +kernel
theorem dX1_addIntersection_51 : decode cX1_addIntersection 51 = .ok (.aload_n 0, 1) := by decide +kernel
theorem dX1_addIntersection_52 : decode cX1_addIntersection 52 = .ok (.getfield 10, 3) := by decide +kernel
theorem dX1_addIntersection_55 : decode cX1_addIntersection 55 = .ok (.getfield 82, 3) := by decide +kernel
theorem dX1_addIntersection_58 : decode cX1_addIntersection 58 = .ok (.iload_n 1, 1) := by decide +kernel
theorem dX1_addIntersection_59 : decode cX1_addIntersection 59 = .ok (.iaload, 1) := by decide +kernel
theorem dX1_addIntersection_60 : decode cX1_addIntersection 60 = .ok (.aload_n 0, 1) := by decide +kernel
theorem dX1_addIntersection_61 : decode cX1_addIntersection 61 = .ok (.getfield 10, 3) := by decide +kernel
theorem dX1_addIntersection_64 : decode cX1_addIntersection 64 = .ok (.getfield 82, 3) := by decide +kernel
theorem dX1_addIntersection_67 : decode cX1_addIntersection 67 = .ok (.iload_n 2, 1) := by decide +kernel
theorem dX1_addIntersection_68 : decode cX1_addIntersection 68 = .ok (.iaload, 1) := by decide +kernel
theorem dX1_addIntersection_69 : decode cX1_addIntersection 69 = .ok (.iand, 1) := by decide +kernel
theorem dX1_addIntersection_70 : decode cX1_addIntersection 70 = .ok (.invokevirtual 51, 3) := by decide +kernel
theorem dX1_addIntersection_73 : decode cX1_addIntersection 73 = .ok (.ireturn, 1) := by decide +kernel
theorem dX1_addProjection_0 : decode cX1_addProjection 0 = .ok (.aload_n 0, 1) := by decide +kernel
theorem dX1_addProjection_1 : decode cX1_addProjection 1 = .ok (.iload_n 1, 1) := by decide +kernel
theorem dX1_addProjection_2 : decode cX1_addProjection 2 = .ok (.invokevirtual 75, 3) := by decide +kernel
theorem dX1_addProjection_5 : decode cX1_addProjection 5 = .ok (.aload_n 0, 1) := by decide +kernel
theorem dX1_addProjection_6 : decode cX1_addProjection 6 = .ok (.iload_n 1, 1) := by decide +kernel
theorem dX1_addProjection_7 : decode cX1_addProjection 7 = .ok (.iload_n 2, 1) := by decide +kernel
theorem dX1_addProjection_8 : decode cX1_addProjection 8 = .ok (.invokevirtual 105, 3) := by decide +kernel
theorem dX1_addProjection_11 : decode cX1_addProjection 11 = .ok (.aload_n 0, 1) := by decide +kernel
theorem dX1_addProjection_12 : decode cX1_addProjection 12 = .ok (.getfield 10, 3) := by decide +kernel
theorem dX1_addProjection_15 : decode cX1_addProjection 15 = .ok (.getfield 94, 3) := by decide +kernel
theorem dX1_addProjection_18 : decode cX1_addProjection 18 = .ok (.iload_n 1, 1) := by decide +kernel
theorem dX1_addProjection_19 : decode cX1_addProjection 19 = .ok (.iaload, 1) := by decide +kernel
theorem dX1_addProjection_20 : decode cX1_addProjection 20 = .ok (.istore_n 3, 1) := by decide +kernel
theorem dX1_addProjection_21 : decode cX1_addProjection 21 = .ok (.iload_n 3, 1) := by decide +kernel
theorem dX1_addProjection_22 : decode cX1_addProjection 22 = .ok (.iconst 1, 1) := by decide +kernel
theorem dX1_addProjection_23 : decode cX1_addProjection 23 = .ok (.if_icmp .ne 13, 3) := by decide +kernel
theorem dX1_addProjection_26 : decode cX1_addProjection 26 = .ok (.new 59, 3) := by decide +kernel
theorem dX1_addProjection_29 : decode cX1_addProjection 29 = .ok (.dup, 1) := by decide +kernel
theorem dX1_addProjection_30 : decode cX1_addProjection 30 = .ok (.ldc 108, 2) := by decide +kernel
theorem dX1_addProjection_32 : decode cX1_addProjection 32 = .ok (.invokespecial 63, 3) := by decide +kernel
theorem dX1_addProjection_35 : decode cX1_addProjection 35 = .ok (.athrow, 1) := by decide +kernel
theorem dX1_addProjection_36 : decode cX1_addProjection 36 = .ok (.aload_n 0, 1) := by decide +kernel
theorem dX1_addProjection_37 : decode cX1_addProjection 37 = .ok (.iload_n 3, 1) := by decide +kernel
theorem dX1_addProjection_38 : decode cX1_addProjection 38 = .ok (.iconst 1, 1) := by decide +kernel
theorem dX1_addProjection_39 : decode cX1_addProjection 39 = .ok (.isub, 1) := by decide +kernel
theorem dX1_addProjection_40 : decode cX1_addProjection 40 = .ok (.aload_n 0, 1) := by decide +kernel
theorem dX1_addProjection_41 : decode cX1_addProjection 41 = .ok (.getfield 10, 3) := by decide +kernel
theorem dX1_addProjection_44 : decode cX1_addProjection 44 = .ok (.getfield 82, 3) := by decide +kernel
theorem dX1_addProjection_47 : decode cX1_addProjection 47 = .ok (.iload_n 1, 1) := by decide +kernel
theorem dX1_addProjection_48 : decode cX1_addProjection 48 = .ok (.iaload, 1) := by decide +kernel
theorem dX1_addProjection_49 : decode cX1_addProjection 49 = .ok (.iload_n 2, 1) := by decide +kernel
theorem dX1_addProjection_50 : decode cX1_addProjection 50 = .ok (.invokestatic 110, 3) := by decide +kernel
theorem dX1_addProjection_53 : decode cX1_addProjection 53 = .ok (.invokevirtual 51, 3) := by decide +kernel
theorem dX1_addProjection_56 : decode cX1_addProjection 56 = .ok (.ireturn, 1) := by decide +kernel
theorem dX1_addExchanged_0 : decode cX1_addExchanged 0 = .ok (.aload_n 0, 1) := by decide +kernel
theorem dX1_addExchanged_1 : decode cX1_addExchanged 1 = .ok (.iload_n 1, 1) := by decide +kernel
theorem dX1_addExchanged_2 : decode cX1_addExchanged 2 = .ok (.invokevirtual 75, 3) := by decide +kernel
theorem dX1_addExchanged_5 : decode cX1_addExchanged 5 = .ok (.aload_n 0, 1) := by decide +kernel
theorem dX1_addExchanged_6 : decode cX1_addExchanged 6 = .ok (.iload_n 1, 1) := by decide +kernel
theorem dX1_addExchanged_7 : decode cX1_addExchanged 7 = .ok (.iload_n 2, 1) := by decide +kernel
theorem dX1_addExchanged_8 : decode cX1_addExchanged 8 = .ok (.invokevirtual 105, 3) := by decide +kernel
theorem dX1_addExchanged_11 : decode cX1_addExchanged 11 = .ok (.aload_n 0, 1) := by decide +kernel
theorem dX1_addExchanged_12 : decode cX1_addExchanged 12 = .ok (.iload_n 1, 1) := by decide +kernel
theorem dX1_addExchanged_13 : decode cX1_addExchanged 13 = .ok (.iload_n 3, 1) := by decide +kernel
theorem dX1_addExchanged_14 : decode cX1_addExchanged 14 = .ok (.invokevirtual 105, 3) := by decide +kernel
theorem dX1_addExchanged_17 : decode cX1_addExchanged 17 = .ok (.aload_n 0, 1) := by decide +kernel
theorem dX1_addExchanged_18 : decode cX1_addExchanged 18 = .ok (.aload_n 0, 1) := by decide +kernel
theorem dX1_addExchanged_19 : decode cX1_addExchanged 19 = .ok (.getfield 10, 3) := by decide +kernel
theorem dX1_addExchanged_22 : decode cX1_addExchanged 22 = .ok (.getfield 94, 3) := by decide +kernel
theorem dX1_addExchanged_25 : decode cX1_addExchanged 25 = .ok (.iload_n 1, 1) := by decide +kernel
theorem dX1_addExchanged_26 : decode cX1_addExchanged 26 = .ok (.iaload, 1) := by decide +kernel
theorem dX1_addExchanged_27 : decode cX1_addExchanged 27 = .ok (.aload_n 0, 1) := by decide +kernel
theorem dX1_addExchanged_28 : decode cX1_addExchanged 28 = .ok (.getfield 10, 3) := by decide +kernel
theorem dX1_addExchanged_31 : decode cX1_addExchanged 31 = .ok (.getfield 82, 3) := by decide +kernel
theorem dX1_addExchanged_34 : decode cX1_addExchanged 34 = .ok (.iload_n 1, 1) := by decide +kernel
theorem dX1_addExchanged_35 : decode cX1_addExchanged 35 = .ok (.iaload, 1) := by decide +kernel
theorem dX1_addExchanged_36 : decode cX1_addExchanged 36 = .ok (.iload_n 2, 1) := by decide +kernel
theorem dX1_addExchanged_37 : decode cX1_addExchanged 37 = .ok (.iload_n 3, 1) := by decide +kernel
theorem dX1_addExchanged_38 : decode cX1_addExchanged 38 = .ok (.invokestatic 113, 3) := by decide +kernel
theorem dX1_addExchanged_41 : decode cX1_addExchanged 41 = .ok (.invokevirtual 51, 3) := by decide +kernel
theorem dX1_addExchanged_44 : decode cX1_addExchanged 44 = .ok (.ireturn, 1) := by decide +kernel
theorem dX1_apply_0 : decode cX1_apply 0 = .ok (.iload_n 1, 1) := by decide +kernel
theorem dX1_apply_1 : decode cX1_apply 1 = .ok (.iload_n 2, 1) := by decide +kernel
theorem dX1_apply_2 : decode cX1_apply 2 = .ok (.invokestatic 117, 3) := by decide +kernel
theorem dX1_apply_5 : decode cX1_apply 5 = .ok (.iload_n 3, 1) := by decide +kernel
theorem dX1_apply_6 : decode cX1_apply 6 = .ok (.invokestatic 69, 3) := by decide +kernel
theorem dX1_apply_9 : decode cX1_apply 9 = .ok (.iload 4, 2) := by decide +kernel
theorem dX1_apply_11 : decode cX1_apply 11 = .ok (.invokestatic 69, 3) := by decide +kernel
theorem dX1_apply_14 : decode cX1_apply 14 = .ok (.iload 5, 2) := by decide +kernel
theorem dX1_apply_16 : decode cX1_apply 16 = .ok (.invokestatic 69, 3) := by decide +kernel
theorem dX1_apply_19 : decode cX1_apply 19 = .ok (.iload_n 1, 1) := by decide +kernel
theorem dX1_apply_20 : decode cX1_apply 20 = .ok (.iload_n 2, 1) := by decide +kernel
theorem dX1_apply_21 : decode cX1_apply 21 = .ok (.iload_n 3, 1) := by decide +kernel
theorem dX1_apply_22 : decode cX1_apply 22 = .ok (.iconst 2, 1) := by decide +kernel
theorem dX1_apply_23 : decode cX1_apply 23 = .ok (.iload 4, 2) := by decide +kernel
theorem dX1_apply_25 : decode cX1_apply 25 = .ok (.imul, 1) := by decide +kernel
theorem dX1_apply_26 : decode cX1_apply 26 = .ok (.iadd, 1) := by decide +kernel
theorem dX1_apply_27 : decode cX1_apply 27 = .ok (.iconst 4, 1) := by decide +kernel
theorem dX1_apply_28 : decode cX1_apply 28 = .ok (.iload 5, 2) := by decide +kernel
theorem dX1_apply_30 : decode cX1_apply 30 = .ok (.imul, 1) := by decide +kernel
theorem dX1_apply_31 : decode cX1_apply 31 = .ok (.iadd, 1) := by decide +kernel
theorem dX1_apply_32 : decode cX1_apply 32 = .ok (.invokestatic 120, 3) := by decide +kernel
theorem dX1_apply_35 : decode cX1_apply 35 = .ok (.ireturn, 1) := by decide +kernel
theorem dX1_preserves_0 : decode cX1_preserves 0 = .ok (.iload_n 1, 1) := by decide +kernel
theorem dX1_preserves_1 : decode cX1_preserves 1 = .ok (.iload_n 2, 1) := by decide +kernel
theorem dX1_preserves_2 : decode cX1_preserves 2 = .ok (.invokestatic 117, 3) := by decide +kernel
theorem dX1_preserves_5 : decode cX1_preserves 5 = .ok (.aload_n 0, 1) := by decide +kernel
theorem dX1_preserves_6 : decode cX1_preserves 6 = .ok (.iload_n 3, 1) := by decide +kernel
theorem dX1_preserves_7 : decode cX1_preserves 7 = .ok (.invokevirtual 75, 3) := by decide +kernel
theorem dX1_preserves_10 : decode cX1_preserves 10 = .ok (.aload_n 0, 1) := by decide +kernel
theorem dX1_preserves_11 : decode cX1_preserves 11 = .ok (.iload_n 3, 1) := by decide +kernel
theorem dX1_preserves_12 : decode cX1_preserves 12 = .ok (.iload_n 1, 1) := by decide +kernel
theorem dX1_preserves_13 : decode cX1_preserves 13 = .ok (.iload_n 2, 1) := by decide +kernel
theorem dX1_preserves_14 : decode cX1_preserves 14 = .ok (.invokevirtual 123, 3) := by decide +kernel
theorem dX1_preserves_17 : decode cX1_preserves 17 = .ok (.ireturn, 1) := by decide +kernel
theorem dX1_isPolymorphism_0 : decode cX1_isPolymorphism 0 = .ok (.iload_n 1, 1) := by decide +kernel
theorem dX1_isPolymorphism_1 : decode cX1_isPolymorphism 1 = .ok (.iload_n 2, 1) := by decide +kernel
theorem dX1_isPolymorphism_2 : decode cX1_isPolymorphism 2 = .ok (.invokestatic 117, 3) := by decide +kernel
theorem dX1_isPolymorphism_5 : decode cX1_isPolymorphism 5 = .ok (.aload_n 0, 1) := by decide +kernel
theorem dX1_isPolymorphism_6 : decode cX1_isPolymorphism 6 = .ok (.iload_n 1, 1) := by decide +kernel
theorem dX1_isPolymorphism_7 : decode cX1_isPolymorphism 7 = .ok (.iload_n 2, 1) := by decide +kernel
theorem dX1_isPolymorphism_8 : decode cX1_isPolymorphism 8 = .ok (.invokevirtual 127, 3) := by decide +kernel
theorem dX1_isPolymorphism_11 : decode cX1_isPolymorphism 11 = .ok (.ireturn, 1) := by decide +kernel
theorem dX1_polymorphismCount_0 : decode cX1_polymorphismCount 0 = .ok (.iload_n 1, 1) := by decide +kernel
theorem dX1_polymorphismCount_1 : decode cX1_polymorphismCount 1 = .ok (.invokestatic 130, 3) := by decide +kernel
theorem dX1_polymorphismCount_4 : decode cX1_polymorphismCount 4 = .ok (.iconst 0, 1) := by decide +kernel
theorem dX1_polymorphismCount_5 : decode cX1_polymorphismCount 5 = .ok (.istore_n 2, 1) := by decide +kernel
theorem dX1_polymorphismCount_6 : decode cX1_polymorphismCount 6 = .ok (.iconst 0, 1) := by decide +kernel
theorem dX1_polymorphismCount_7 : decode cX1_polymorphismCount 7 = .ok (.istore_n 3, 1) := by decide +kernel
theorem dX1_polymorphismCount_8 : decode cX1_polymorphismCount 8 = .ok (.iload_n 3, 1) := by decide +kernel
theorem dX1_polymorphismCount_9 : decode cX1_polymorphismCount 9 = .ok (.iload_n 1, 1) := by decide +kernel
theorem dX1_polymorphismCount_10 : decode cX1_polymorphismCount 10 = .ok (.invokestatic 66, 3) := by decide +kernel
theorem dX1_polymorphismCount_13 : decode cX1_polymorphismCount 13 = .ok (.if_icmp .gt 21, 3) := by decide +kernel
theorem dX1_polymorphismCount_16 : decode cX1_polymorphismCount 16 = .ok (.aload_n 0, 1) := by decide +kernel
theorem dX1_polymorphismCount_17 : decode cX1_polymorphismCount 17 = .ok (.iload_n 1, 1) := by decide +kernel
theorem dX1_polymorphismCount_18 : decode cX1_polymorphismCount 18 = .ok (.iload_n 3, 1) := by decide +kernel
theorem dX1_polymorphismCount_19 : decode cX1_polymorphismCount 19 = .ok (.invokevirtual 127, 3) := by decide +kernel
theorem dX1_polymorphismCount_22 : decode cX1_polymorphismCount 22 = .ok (.ifCond .eq 6, 3) := by decide +kernel
theorem dX1_polymorphismCount_25 : decode cX1_polymorphismCount 25 = .ok (.iinc 2 1, 3) := by decide +kernel
theorem dX1_polymorphismCount_28 : decode cX1_polymorphismCount 28 = .ok (.iinc 3 1, 3) := by decide +kernel
theorem dX1_polymorphismCount_31 : decode cX1_polymorphismCount 31 = .ok (.goto (-23), 3) := by decide +kernel
theorem dX1_polymorphismCount_34 : decode cX1_polymorphismCount 34 = .ok (.iload_n 2, 1) := by decide +kernel
theorem dX1_polymorphismCount_35 : decode cX1_polymorphismCount 35 = .ok (.ireturn, 1) := by decide +kernel
theorem dX1_polymorphism_0 : decode cX1_polymorphism 0 = .ok (.iload_n 1, 1) := by decide +kernel
theorem dX1_polymorphism_1 : decode cX1_polymorphism 1 = .ok (.invokestatic 130, 3) := by decide +kernel
theorem dX1_polymorphism_4 : decode cX1_polymorphism 4 = .ok (.iload_n 2, 1) := by decide +kernel
theorem dX1_polymorphism_5 : decode cX1_polymorphism 5 = .ok (.ifCond .lt 44, 3) := by decide +kernel
theorem dX1_polymorphism_8 : decode cX1_polymorphism 8 = .ok (.iconst 0, 1) := by decide +kernel
theorem dX1_polymorphism_9 : decode cX1_polymorphism 9 = .ok (.istore_n 3, 1) := by decide +kernel
theorem dX1_polymorphism_10 : decode cX1_polymorphism 10 = .ok (.iconst 0, 1) := by decide +kernel
theorem dX1_polymorphism_11 : decode cX1_polymorphism 11 = .ok (.istore 4, 2) := by decide +kernel
theorem dX1_polymorphism_13 : decode cX1_polymorphism 13 = .ok (.iload 4, 2) := by decide +kernel
theorem dX1_polymorphism_15 : decode cX1_polymorphism 15 = .ok (.iload_n 1, 1) := by decide +kernel
theorem dX1_polymorphism_16 : decode cX1_polymorphism 16 = .ok (.invokestatic 66, 3) := by decide +kernel
theorem dX1_polymorphism_19 : decode cX1_polymorphism 19 = .ok (.if_icmp .gt 30, 3) := by decide +kernel
theorem dX1_polymorphism_22 : decode cX1_polymorphism 22 = .ok (.aload_n 0, 1) := by decide +kernel
theorem dX1_polymorphism_23 : decode cX1_polymorphism 23 = .ok (.iload_n 1, 1) := by decide +kernel
theorem dX1_polymorphism_24 : decode cX1_polymorphism 24 = .ok (.iload 4, 2) := by decide +kernel
theorem dX1_polymorphism_26 : decode cX1_polymorphism 26 = .ok (.invokevirtual 127, 3) := by decide +kernel
theorem dX1_polymorphism_29 : decode cX1_polymorphism 29 = .ok (.ifCond .eq 14, 3) := by decide +kernel
theorem dX1_polymorphism_32 : decode cX1_polymorphism 32 = .ok (.iload_n 3, 1) := by decide +kernel
theorem dX1_polymorphism_33 : decode cX1_polymorphism 33 = .ok (.iload_n 2, 1) := by decide +kernel
theorem dX1_polymorphism_34 : decode cX1_polymorphism 34 = .ok (.if_icmp .ne 6, 3) := by decide +kernel
theorem dX1_polymorphism_37 : decode cX1_polymorphism 37 = .ok (.iload 4, 2) := by decide +kernel
theorem dX1_polymorphism_39 : decode cX1_polymorphism 39 = .ok (.ireturn, 1) := by decide +kernel
theorem dX1_polymorphism_40 : decode cX1_polymorphism 40 = .ok (.iinc 3 1, 3) := by decide +kernel
theorem dX1_polymorphism_43 : decode cX1_polymorphism 43 = .ok (.iinc 4 1, 3) := by decide +kernel
theorem dX1_polymorphism_46 : decode cX1_polymorphism 46 = .ok (.goto (-33), 3) := by decide +kernel
theorem dX1_polymorphism_49 : decode cX1_polymorphism 49 = .ok (.new 133, 3) := by decide +kernel
theorem dX1_polymorphism_52 : decode cX1_polymorphism 52 = .ok (.dup, 1) := by decide +kernel
theorem dX1_polymorphism_53 : decode cX1_polymorphism 53 = .ok (.ldc 135, 2) := by decide +kernel
theorem dX1_polymorphism_55 : decode cX1_polymorphism 55 = .ok (.invokespecial 137, 3) := by decide +kernel
theorem dX1_polymorphism_58 : decode cX1_polymorphism 58 = .ok (.athrow, 1) := by decide +kernel
theorem dX1_isIdempotent_0 : decode cX1_isIdempotent 0 = .ok (.iload_n 1, 1) := by decide +kernel
theorem dX1_isIdempotent_1 : decode cX1_isIdempotent 1 = .ok (.iload_n 2, 1) := by decide +kernel
theorem dX1_isIdempotent_2 : decode cX1_isIdempotent 2 = .ok (.invokestatic 117, 3) := by decide +kernel
theorem dX1_isIdempotent_5 : decode cX1_isIdempotent 5 = .ok (.iload_n 2, 1) := by decide +kernel
theorem dX1_isIdempotent_6 : decode cX1_isIdempotent 6 = .ok (.iconst 0, 1) := by decide +kernel
theorem dX1_isIdempotent_7 : decode cX1_isIdempotent 7 = .ok (.invokestatic 85, 3) := by decide +kernel
theorem dX1_isIdempotent_10 : decode cX1_isIdempotent 10 = .ok (.ifCond .ne 18, 3) := by decide +kernel
theorem dX1_isIdempotent_13 : decode cX1_isIdempotent 13 = .ok (.iload_n 2, 1) := by decide +kernel
theorem dX1_isIdempotent_14 : decode cX1_isIdempotent 14 = .ok (.iload_n 1, 1) := by decide +kernel
theorem dX1_isIdempotent_15 : decode cX1_isIdempotent 15 = .ok (.invokestatic 55, 3) := by decide +kernel
theorem dX1_isIdempotent_18 : decode cX1_isIdempotent 18 = .ok (.invokestatic 85, 3) := by decide +kernel
theorem dX1_isIdempotent_21 : decode cX1_isIdempotent 21 = .ok (.ifCond .eq 7, 3) := by decide +kernel
theorem dX1_isIdempotent_24 : decode cX1_isIdempotent 24 = .ok (.iconst 1, 1) := by decide +kernel
theorem dX1_isIdempotent_25 : decode cX1_isIdempotent 25 = .ok (.goto 4, 3) := by decide +kernel
theorem dX1_isIdempotent_28 : decode cX1_isIdempotent 28 = .ok (.iconst 0, 1) := by decide +kernel
theorem dX1_isIdempotent_29 : decode cX1_isIdempotent 29 = .ok (.ireturn, 1) := by decide +kernel
theorem dX1_isMonotone_0 : decode cX1_isMonotone 0 = .ok (.iload_n 1, 1) := by decide +kernel
theorem dX1_isMonotone_1 : decode cX1_isMonotone 1 = .ok (.iload_n 2, 1) := by decide +kernel
theorem dX1_isMonotone_2 : decode cX1_isMonotone 2 = .ok (.invokestatic 117, 3) := by decide +kernel
theorem dX1_isMonotone_5 : decode cX1_isMonotone 5 = .ok (.iconst 0, 1) := by decide +kernel
theorem dX1_isMonotone_6 : decode cX1_isMonotone 6 = .ok (.istore_n 3, 1) := by decide +kernel
theorem dX1_isMonotone_7 : decode cX1_isMonotone 7 = .ok (.iload_n 3, 1) := by decide +kernel
theorem dX1_isMonotone_8 : decode cX1_isMonotone 8 = .ok (.iload_n 1, 1) := by decide +kernel
theorem dX1_isMonotone_9 : decode cX1_isMonotone 9 = .ok (.if_icmp .ge 29, 3) := by decide +kernel
theorem dX1_isMonotone_12 : decode cX1_isMonotone 12 = .ok (.iload_n 1, 1) := by decide +kernel
theorem dX1_isMonotone_13 : decode cX1_isMonotone 13 = .ok (.iload_n 2, 1) := by decide +kernel
theorem dX1_isMonotone_14 : decode cX1_isMonotone 14 = .ok (.iload_n 3, 1) := by decide +kernel
theorem dX1_isMonotone_15 : decode cX1_isMonotone 15 = .ok (.invokestatic 138, 3) := by decide +kernel
theorem dX1_isMonotone_18 : decode cX1_isMonotone 18 = .ok (.iload_n 1, 1) := by decide +kernel
theorem dX1_isMonotone_19 : decode cX1_isMonotone 19 = .ok (.iload_n 2, 1) := by decide +kernel
theorem dX1_isMonotone_20 : decode cX1_isMonotone 20 = .ok (.iload_n 3, 1) := by decide +kernel
theorem dX1_isMonotone_21 : decode cX1_isMonotone 21 = .ok (.invokestatic 141, 3) := by decide +kernel
theorem dX1_isMonotone_24 : decode cX1_isMonotone 24 = .ok (.iconst (-1), 1) := by decide +kernel
theorem dX1_isMonotone_25 : decode cX1_isMonotone 25 = .ok (.ixor, 1) := by decide +kernel
theorem dX1_isMonotone_26 : decode cX1_isMonotone 26 = .ok (.iand, 1) := by decide +kernel
theorem dX1_isMonotone_27 : decode cX1_isMonotone 27 = .ok (.ifCond .eq 5, 3) := by decide +kernel
theorem dX1_isMonotone_30 : decode cX1_isMonotone 30 = .ok (.iconst 0, 1) := by decide +kernel
theorem dX1_isMonotone_31 : decode cX1_isMonotone 31 = .ok (.ireturn, 1) := by decide +kernel
theorem dX1_isMonotone_32 : decode cX1_isMonotone 32 = .ok (.iinc 3 1, 3) := by decide +kernel
theorem dX1_isMonotone_35 : decode cX1_isMonotone 35 = .ok (.goto (-28), 3) := by decide +kernel
theorem dX1_isMonotone_38 : decode cX1_isMonotone 38 = .ok (.iconst 1, 1) := by decide +kernel
theorem dX1_isMonotone_39 : decode cX1_isMonotone 39 = .ok (.ireturn, 1) := by decide +kernel
theorem dX1_projectedArgument_0 : decode cX1_projectedArgument 0 = .ok (.iload_n 1, 1) := by decide +kernel
theorem dX1_projectedArgument_1 : decode cX1_projectedArgument 1 = .ok (.iload_n 2, 1) := by decide +kernel
theorem dX1_projectedArgument_2 : decode cX1_projectedArgument 2 = .ok (.invokestatic 117, 3) := by decide +kernel
theorem dX1_projectedArgument_5 : decode cX1_projectedArgument 5 = .ok (.iconst 0, 1) := by decide +kernel
theorem dX1_projectedArgument_6 : decode cX1_projectedArgument 6 = .ok (.istore_n 3, 1) := by decide +kernel
theorem dX1_projectedArgument_7 : decode cX1_projectedArgument 7 = .ok (.iload_n 3, 1) := by decide +kernel
theorem dX1_projectedArgument_8 : decode cX1_projectedArgument 8 = .ok (.iload_n 1, 1) := by decide +kernel
theorem dX1_projectedArgument_9 : decode cX1_projectedArgument 9 = .ok (.if_icmp .ge 20, 3) := by decide +kernel
theorem dX1_projectedArgument_12 : decode cX1_projectedArgument 12 = .ok (.iload_n 2, 1) := by decide +kernel
theorem dX1_projectedArgument_13 : decode cX1_projectedArgument 13 = .ok (.iload_n 1, 1) := by decide +kernel
theorem dX1_projectedArgument_14 : decode cX1_projectedArgument 14 = .ok (.iload_n 3, 1) := by decide +kernel
theorem dX1_projectedArgument_15 : decode cX1_projectedArgument 15 = .ok (.invokestatic 144, 3) := by decide +kernel
theorem dX1_projectedArgument_18 : decode cX1_projectedArgument 18 = .ok (.if_icmp .ne 5, 3) := by decide +kernel
theorem dX1_projectedArgument_21 : decode cX1_projectedArgument 21 = .ok (.iload_n 3, 1) := by decide +kernel
theorem dX1_projectedArgument_22 : decode cX1_projectedArgument 22 = .ok (.ireturn, 1) := by decide +kernel
theorem dX1_projectedArgument_23 : decode cX1_projectedArgument 23 = .ok (.iinc 3 1, 3) := by decide +kernel
theorem dX1_projectedArgument_26 : decode cX1_projectedArgument 26 = .ok (.goto (-19), 3) := by decide +kernel
theorem dX1_projectedArgument_29 : decode cX1_projectedArgument 29 = .ok (.new 133, 3) := by decide +kernel
theorem dX1_projectedArgument_32 : decode cX1_projectedArgument 32 = .ok (.dup, 1) := by decide +kernel
theorem dX1_projectedArgument_33 : decode cX1_projectedArgument 33 = .ok (.ldc 147, 2) := by decide +kernel
theorem dX1_projectedArgument_35 : decode cX1_projectedArgument 35 = .ok (.invokespecial 137, 3) := by decide +kernel
theorem dX1_projectedArgument_38 : decode cX1_projectedArgument 38 = .ok (.athrow, 1) := by decide +kernel
theorem dX1_close_0 : decode cX1_close 0 = .ok (.aload_n 0, 1) := by decide +kernel
theorem dX1_close_1 : decode cX1_close 1 = .ok (.iload_n 1, 1) := by decide +kernel
theorem dX1_close_2 : decode cX1_close 2 = .ok (.invokevirtual 75, 3) := by decide +kernel
theorem dX1_close_5 : decode cX1_close 5 = .ok (.iload_n 2, 1) := by decide +kernel
theorem dX1_close_6 : decode cX1_close 6 = .ok (.iload_n 3, 1) := by decide +kernel
theorem dX1_close_7 : decode cX1_close 7 = .ok (.invokestatic 117, 3) := by decide +kernel
theorem dX1_close_10 : decode cX1_close 10 = .ok (.aload_n 0, 1) := by decide +kernel
theorem dX1_close_11 : decode cX1_close 11 = .ok (.getfield 10, 3) := by decide +kernel
theorem dX1_close_14 : decode cX1_close 14 = .ok (.getfield 94, 3) := by decide +kernel
theorem dX1_close_17 : decode cX1_close 17 = .ok (.iload_n 1, 1) := by decide +kernel
theorem dX1_close_18 : decode cX1_close 18 = .ok (.iaload, 1) := by decide +kernel
theorem dX1_close_19 : decode cX1_close 19 = .ok (.istore 4, 2) := by decide +kernel
theorem dX1_close_21 : decode cX1_close 21 = .ok (.aload_n 0, 1) := by decide +kernel
theorem dX1_close_22 : decode cX1_close 22 = .ok (.getfield 10, 3) := by decide +kernel
theorem dX1_close_25 : decode cX1_close 25 = .ok (.getfield 82, 3) := by decide +kernel
theorem dX1_close_28 : decode cX1_close 28 = .ok (.iload_n 1, 1) := by decide +kernel
theorem dX1_close_29 : decode cX1_close 29 = .ok (.iaload, 1) := by decide +kernel
theorem dX1_close_30 : decode cX1_close 30 = .ok (.istore 5, 2) := by decide +kernel
theorem dX1_close_32 : decode cX1_close 32 = .ok (.iload 5, 2) := by decide +kernel
theorem dX1_close_34 : decode cX1_close 34 = .ok (.iload 4, 2) := by decide +kernel
theorem dX1_close_36 : decode cX1_close 36 = .ok (.iload_n 2, 1) := by decide +kernel
theorem dX1_close_37 : decode cX1_close 37 = .ok (.iload_n 3, 1) := by decide +kernel
theorem dX1_close_38 : decode cX1_close 38 = .ok (.invokestatic 149, 3) := by decide +kernel
theorem dX1_close_41 : decode cX1_close 41 = .ok (.istore 6, 2) := by decide +kernel
theorem dX1_close_43 : decode cX1_close 43 = .ok (.iconst 0, 1) := by decide +kernel
theorem dX1_close_44 : decode cX1_close 44 = .ok (.istore 7, 2) := by decide +kernel
theorem dX1_close_46 : decode cX1_close 46 = .ok (.iload 7, 2) := by decide +kernel
theorem dX1_close_48 : decode cX1_close 48 = .ok (.bipush 16, 2) := by decide +kernel
theorem dX1_close_50 : decode cX1_close 50 = .ok (.if_icmp .ge 32, 3) := by decide +kernel
theorem dX1_close_53 : decode cX1_close 53 = .ok (.iload 6, 2) := by decide +kernel
theorem dX1_close_55 : decode cX1_close 55 = .ok (.ifCond .eq 27, 3) := by decide +kernel
theorem dX1_close_58 : decode cX1_close 58 = .ok (.iload 5, 2) := by decide +kernel
theorem dX1_close_60 : decode cX1_close 60 = .ok (.iload 6, 2) := by decide +kernel
theorem dX1_close_62 : decode cX1_close 62 = .ok (.ior, 1) := by decide +kernel
theorem dX1_close_63 : decode cX1_close 63 = .ok (.istore 5, 2) := by decide +kernel
theorem dX1_close_65 : decode cX1_close 65 = .ok (.iload 5, 2) := by decide +kernel
theorem dX1_close_67 : decode cX1_close 67 = .ok (.iload 4, 2) := by decide +kernel
theorem dX1_close_69 : decode cX1_close 69 = .ok (.iload_n 2, 1) := by decide +kernel
theorem dX1_close_70 : decode cX1_close 70 = .ok (.iload_n 3, 1) := by decide +kernel
theorem dX1_close_71 : decode cX1_close 71 = .ok (.invokestatic 149, 3) := by decide +kernel
theorem dX1_close_74 : decode cX1_close 74 = .ok (.istore 6, 2) := by decide +kernel
theorem dX1_close_76 : decode cX1_close 76 = .ok (.iinc 7 1, 3) := by decide +kernel
theorem dX1_close_79 : decode cX1_close 79 = .ok (.goto (-33), 3) := by decide +kernel
theorem dX1_close_82 : decode cX1_close 82 = .ok (.aload_n 0, 1) := by decide +kernel
theorem dX1_close_83 : decode cX1_close 83 = .ok (.getfield 10, 3) := by decide +kernel
theorem dX1_close_86 : decode cX1_close 86 = .ok (.getfield 82, 3) := by decide +kernel
theorem dX1_close_89 : decode cX1_close 89 = .ok (.iload_n 1, 1) := by decide +kernel
theorem dX1_close_90 : decode cX1_close 90 = .ok (.iload 5, 2) := by decide +kernel
theorem dX1_close_92 : decode cX1_close 92 = .ok (.iastore, 1) := by decide +kernel
theorem dX1_close_93 : decode cX1_close 93 = .ok (.iload 5, 2) := by decide +kernel
theorem dX1_close_95 : decode cX1_close 95 = .ok (.invokestatic 89, 3) := by decide +kernel
theorem dX1_close_98 : decode cX1_close 98 = .ok (.ireturn, 1) := by decide +kernel
theorem dX1_dual_0 : decode cX1_dual 0 = .ok (.iload_n 1, 1) := by decide +kernel
theorem dX1_dual_1 : decode cX1_dual 1 = .ok (.iload_n 2, 1) := by decide +kernel
theorem dX1_dual_2 : decode cX1_dual 2 = .ok (.invokestatic 117, 3) := by decide +kernel
theorem dX1_dual_5 : decode cX1_dual 5 = .ok (.iload_n 1, 1) := by decide +kernel
theorem dX1_dual_6 : decode cX1_dual 6 = .ok (.invokestatic 55, 3) := by decide +kernel
theorem dX1_dual_9 : decode cX1_dual 9 = .ok (.istore_n 3, 1) := by decide +kernel
theorem dX1_dual_10 : decode cX1_dual 10 = .ok (.iconst 0, 1) := by decide +kernel
theorem dX1_dual_11 : decode cX1_dual 11 = .ok (.istore 4, 2) := by decide +kernel
theorem dX1_dual_13 : decode cX1_dual 13 = .ok (.iconst 0, 1) := by decide +kernel
theorem dX1_dual_14 : decode cX1_dual 14 = .ok (.istore 5, 2) := by decide +kernel
theorem dX1_dual_16 : decode cX1_dual 16 = .ok (.iload 5, 2) := by decide +kernel
theorem dX1_dual_18 : decode cX1_dual 18 = .ok (.iload_n 3, 1) := by decide +kernel
theorem dX1_dual_19 : decode cX1_dual 19 = .ok (.if_icmp .gt 29, 3) := by decide +kernel
theorem dX1_dual_22 : decode cX1_dual 22 = .ok (.iload_n 2, 1) := by decide +kernel
theorem dX1_dual_23 : decode cX1_dual 23 = .ok (.iload_n 3, 1) := by decide +kernel
theorem dX1_dual_24 : decode cX1_dual 24 = .ok (.iload 5, 2) := by decide +kernel
theorem dX1_dual_26 : decode cX1_dual 26 = .ok (.isub, 1) := by decide +kernel
theorem dX1_dual_27 : decode cX1_dual 27 = .ok (.invokestatic 85, 3) := by decide +kernel
theorem dX1_dual_30 : decode cX1_dual 30 = .ok (.ifCond .ne 12, 3) := by decide +kernel
theorem dX1_dual_33 : decode cX1_dual 33 = .ok (.iload 4, 2) := by decide +kernel
theorem dX1_dual_35 : decode cX1_dual 35 = .ok (.iconst 1, 1) := by decide +kernel
theorem dX1_dual_36 : decode cX1_dual 36 = .ok (.iload 5, 2) := by decide +kernel
theorem dX1_dual_38 : decode cX1_dual 38 = .ok (.ishl, 1) := by decide +kernel
theorem dX1_dual_39 : decode cX1_dual 39 = .ok (.ior, 1) := by decide +kernel
theorem dX1_dual_40 : decode cX1_dual 40 = .ok (.istore 4, 2) := by decide +kernel
theorem dX1_dual_42 : decode cX1_dual 42 = .ok (.iinc 5 1, 3) := by decide +kernel
theorem dX1_dual_45 : decode cX1_dual 45 = .ok (.goto (-29), 3) := by decide +kernel
theorem dX1_dual_48 : decode cX1_dual 48 = .ok (.iload 4, 2) := by decide +kernel
theorem dX1_dual_50 : decode cX1_dual 50 = .ok (.ireturn, 1) := by decide +kernel
theorem dX1_dependsOn_0 : decode cX1_dependsOn 0 = .ok (.iload_n 1, 1) := by decide +kernel
theorem dX1_dependsOn_1 : decode cX1_dependsOn 1 = .ok (.iload_n 2, 1) := by decide +kernel
theorem dX1_dependsOn_2 : decode cX1_dependsOn 2 = .ok (.invokestatic 117, 3) := by decide +kernel
theorem dX1_dependsOn_5 : decode cX1_dependsOn 5 = .ok (.iload_n 3, 1) := by decide +kernel
theorem dX1_dependsOn_6 : decode cX1_dependsOn 6 = .ok (.ifCond .lt 8, 3) := by decide +kernel
theorem dX1_dependsOn_9 : decode cX1_dependsOn 9 = .ok (.iload_n 3, 1) := by decide +kernel
theorem dX1_dependsOn_10 : decode cX1_dependsOn 10 = .ok (.iload_n 1, 1) := by decide +kernel
theorem dX1_dependsOn_11 : decode cX1_dependsOn 11 = .ok (.if_icmp .lt 13, 3) := by decide +kernel
theorem dX1_dependsOn_14 : decode cX1_dependsOn 14 = .ok (.new 153, 3) := by decide +kernel
theorem dX1_dependsOn_17 : decode cX1_dependsOn 17 = .ok (.dup, 1) := by decide +kernel
theorem dX1_dependsOn_18 : decode cX1_dependsOn 18 = .ok (.ldc 155, 2) := by decide +kernel
theorem dX1_dependsOn_20 : decode cX1_dependsOn 20 = .ok (.invokespecial 157, 3) := by decide +kernel
theorem dX1_dependsOn_23 : decode cX1_dependsOn 23 = .ok (.athrow, 1) := by decide +kernel
theorem dX1_dependsOn_24 : decode cX1_dependsOn 24 = .ok (.iload_n 1, 1) := by decide +kernel
theorem dX1_dependsOn_25 : decode cX1_dependsOn 25 = .ok (.iload_n 2, 1) := by decide +kernel
theorem dX1_dependsOn_26 : decode cX1_dependsOn 26 = .ok (.iload_n 3, 1) := by decide +kernel
theorem dX1_dependsOn_27 : decode cX1_dependsOn 27 = .ok (.invokestatic 138, 3) := by decide +kernel
theorem dX1_dependsOn_30 : decode cX1_dependsOn 30 = .ok (.iload_n 1, 1) := by decide +kernel
theorem dX1_dependsOn_31 : decode cX1_dependsOn 31 = .ok (.iload_n 2, 1) := by decide +kernel
theorem dX1_dependsOn_32 : decode cX1_dependsOn 32 = .ok (.iload_n 3, 1) := by decide +kernel
theorem dX1_dependsOn_33 : decode cX1_dependsOn 33 = .ok (.invokestatic 141, 3) := by decide +kernel
theorem dX1_dependsOn_36 : decode cX1_dependsOn 36 = .ok (.if_icmp .eq 7, 3) := by decide +kernel
theorem dX1_dependsOn_39 : decode cX1_dependsOn 39 = .ok (.iconst 1, 1) := by decide +kernel
theorem dX1_dependsOn_40 : decode cX1_dependsOn 40 = .ok (.goto 4, 3) := by decide +kernel
theorem dX1_dependsOn_43 : decode cX1_dependsOn 43 = .ok (.iconst 0, 1) := by decide +kernel
theorem dX1_dependsOn_44 : decode cX1_dependsOn 44 = .ok (.ireturn, 1) := by decide +kernel
theorem dX1_compose_0 : decode cX1_compose 0 = .ok (.iload_n 1, 1) := by decide +kernel
theorem dX1_compose_1 : decode cX1_compose 1 = .ok (.iload_n 2, 1) := by decide +kernel
theorem dX1_compose_2 : decode cX1_compose 2 = .ok (.invokestatic 117, 3) := by decide +kernel
theorem dX1_compose_5 : decode cX1_compose 5 = .ok (.iload_n 3, 1) := by decide +kernel
theorem dX1_compose_6 : decode cX1_compose 6 = .ok (.ifCond .lt 11, 3) := by decide +kernel
theorem dX1_compose_9 : decode cX1_compose 9 = .ok (.iload_n 3, 1) := by decide +kernel
theorem dX1_compose_10 : decode cX1_compose 10 = .ok (.iconst 2, 1) := by decide +kernel
theorem dX1_compose_11 : decode cX1_compose 11 = .ok (.invokestatic 66, 3) := by decide +kernel
theorem dX1_compose_14 : decode cX1_compose 14 = .ok (.if_icmp .le 13, 3) := by decide +kernel
theorem dX1_compose_17 : decode cX1_compose 17 = .ok (.new 59, 3) := by decide +kernel
theorem dX1_compose_20 : decode cX1_compose 20 = .ok (.dup, 1) := by decide +kernel
theorem dX1_compose_21 : decode cX1_compose 21 = .ok (.ldc 158, 2) := by decide +kernel
theorem dX1_compose_23 : decode cX1_compose 23 = .ok (.invokespecial 63, 3) := by decide +kernel
theorem dX1_compose_26 : decode cX1_compose 26 = .ok (.athrow, 1) := by decide +kernel
theorem dX1_compose_27 : decode cX1_compose 27 = .ok (.iconst 0, 1) := by decide +kernel
theorem dX1_compose_28 : decode cX1_compose 28 = .ok (.istore 4, 2) := by decide +kernel
theorem dX1_compose_30 : decode cX1_compose 30 = .ok (.iconst 0, 1) := by decide +kernel
theorem dX1_compose_31 : decode cX1_compose 31 = .ok (.istore 5, 2) := by decide +kernel
theorem dX1_compose_33 : decode cX1_compose 33 = .ok (.iload 5, 2) := by decide +kernel
theorem dX1_compose_35 : decode cX1_compose 35 = .ok (.iconst 2, 1) := by decide +kernel
theorem dX1_compose_36 : decode cX1_compose 36 = .ok (.invokestatic 55, 3) := by decide +kernel
theorem dX1_compose_39 : decode cX1_compose 39 = .ok (.if_icmp .gt 80, 3) := by decide +kernel
theorem dX1_compose_42 : decode cX1_compose 42 = .ok (.iload 5, 2) := by decide +kernel
theorem dX1_compose_44 : decode cX1_compose 44 = .ok (.iconst 1, 1) := by decide +kernel
theorem dX1_compose_45 : decode cX1_compose 45 = .ok (.iand, 1) := by decide +kernel
theorem dX1_compose_46 : decode cX1_compose 46 = .ok (.istore 6, 2) := by decide +kernel
theorem dX1_compose_48 : decode cX1_compose 48 = .ok (.iload 5, 2) := by decide +kernel
theorem dX1_compose_50 : decode cX1_compose 50 = .ok (.iconst 1, 1) := by decide +kernel
theorem dX1_compose_51 : decode cX1_compose 51 = .ok (.iushr, 1) := by decide +kernel
theorem dX1_compose_52 : decode cX1_compose 52 = .ok (.istore 7, 2) := by decide +kernel
theorem dX1_compose_54 : decode cX1_compose 54 = .ok (.iconst 2, 1) := by decide +kernel
theorem dX1_compose_55 : decode cX1_compose 55 = .ok (.iload_n 3, 1) := by decide +kernel
theorem dX1_compose_56 : decode cX1_compose 56 = .ok (.iload 6, 2) := by decide +kernel
theorem dX1_compose_58 : decode cX1_compose 58 = .ok (.iconst 2, 1) := by decide +kernel
theorem dX1_compose_59 : decode cX1_compose 59 = .ok (.iload 7, 2) := by decide +kernel
theorem dX1_compose_61 : decode cX1_compose 61 = .ok (.imul, 1) := by decide +kernel
theorem dX1_compose_62 : decode cX1_compose 62 = .ok (.iadd, 1) := by decide +kernel
theorem dX1_compose_63 : decode cX1_compose 63 = .ok (.invokestatic 120, 3) := by decide +kernel
theorem dX1_compose_66 : decode cX1_compose 66 = .ok (.iconst 2, 1) := by decide +kernel
theorem dX1_compose_67 : decode cX1_compose 67 = .ok (.iconst 2, 1) := by decide +kernel
theorem dX1_compose_68 : decode cX1_compose 68 = .ok (.iload_n 3, 1) := by decide +kernel
theorem dX1_compose_69 : decode cX1_compose 69 = .ok (.iload 7, 2) := by decide +kernel
theorem dX1_compose_71 : decode cX1_compose 71 = .ok (.iconst 2, 1) := by decide +kernel
theorem dX1_compose_72 : decode cX1_compose 72 = .ok (.iload 6, 2) := by decide +kernel
theorem dX1_compose_74 : decode cX1_compose 74 = .ok (.imul, 1) := by decide +kernel
theorem dX1_compose_75 : decode cX1_compose 75 = .ok (.iadd, 1) := by decide +kernel
theorem dX1_compose_76 : decode cX1_compose 76 = .ok (.invokestatic 120, 3) := by decide +kernel
theorem dX1_compose_79 : decode cX1_compose 79 = .ok (.imul, 1) := by decide +kernel
theorem dX1_compose_80 : decode cX1_compose 80 = .ok (.iadd, 1) := by decide +kernel
theorem dX1_compose_81 : decode cX1_compose 81 = .ok (.iconst 4, 1) := by decide +kernel
theorem dX1_compose_82 : decode cX1_compose 82 = .ok (.iconst 2, 1) := by decide +kernel
theorem dX1_compose_83 : decode cX1_compose 83 = .ok (.iload_n 3, 1) := by decide +kernel
theorem dX1_compose_84 : decode cX1_compose 84 = .ok (.iload 6, 2) := by decide +kernel
theorem dX1_compose_86 : decode cX1_compose 86 = .ok (.iconst 2, 1) := by decide +kernel
theorem dX1_compose_87 : decode cX1_compose 87 = .ok (.iload 6, 2) := by decide +kernel
theorem dX1_compose_89 : decode cX1_compose 89 = .ok (.imul, 1) := by decide +kernel
theorem dX1_compose_90 : decode cX1_compose 90 = .ok (.iadd, 1) := by decide +kernel
theorem dX1_compose_91 : decode cX1_compose 91 = .ok (.invokestatic 120, 3) := by decide +kernel
theorem dX1_compose_94 : decode cX1_compose 94 = .ok (.imul, 1) := by decide +kernel
theorem dX1_compose_95 : decode cX1_compose 95 = .ok (.iadd, 1) := by decide +kernel
theorem dX1_compose_96 : decode cX1_compose 96 = .ok (.istore 8, 2) := by decide +kernel
theorem dX1_compose_98 : decode cX1_compose 98 = .ok (.iload 4, 2) := by decide +kernel
theorem dX1_compose_100 : decode cX1_compose 100 = .ok (.iload_n 1, 1) := by decide +kernel
theorem dX1_compose_101 : decode cX1_compose 101 = .ok (.iload_n 2, 1) := by decide +kernel
theorem dX1_compose_102 : decode cX1_compose 102 = .ok (.iload 8, 2) := by decide +kernel
theorem dX1_compose_104 : decode cX1_compose 104 = .ok (.invokestatic 120, 3) := by decide +kernel
theorem dX1_compose_107 : decode cX1_compose 107 = .ok (.iload 5, 2) := by decide +kernel
theorem dX1_compose_109 : decode cX1_compose 109 = .ok (.ishl, 1) := by decide +kernel
theorem dX1_compose_110 : decode cX1_compose 110 = .ok (.ior, 1) := by decide +kernel
theorem dX1_compose_111 : decode cX1_compose 111 = .ok (.istore 4, 2) := by decide +kernel
theorem dX1_compose_113 : decode cX1_compose 113 = .ok (.iinc 5 1, 3) := by decide +kernel
theorem dX1_compose_116 : decode cX1_compose 116 = .ok (.goto (-83), 3) := by decide +kernel
theorem dX1_compose_119 : decode cX1_compose 119 = .ok (.iload 4, 2) := by decide +kernel
theorem dX1_compose_121 : decode cX1_compose 121 = .ok (.ireturn, 1) := by decide +kernel
theorem dX1_relationHasKind_0 : decode cX1_relationHasKind 0 = .ok (.aload_n 0, 1) := by decide +kernel
theorem dX1_relationHasKind_1 : decode cX1_relationHasKind 1 = .ok (.iload_n 1, 1) := by decide +kernel
theorem dX1_relationHasKind_2 : decode cX1_relationHasKind 2 = .ok (.invokevirtual 75, 3) := by decide +kernel
theorem dX1_relationHasKind_5 : decode cX1_relationHasKind 5 = .ok (.iload_n 2, 1) := by decide +kernel
theorem dX1_relationHasKind_6 : decode cX1_relationHasKind 6 = .ok (.invokestatic 160, 3) := by decide +kernel
theorem dX1_relationHasKind_9 : decode cX1_relationHasKind 9 = .ok (.aload_n 0, 1) := by decide +kernel
theorem dX1_relationHasKind_10 : decode cX1_relationHasKind 10 = .ok (.iload_n 1, 1) := by decide +kernel
theorem dX1_relationHasKind_11 : decode cX1_relationHasKind 11 = .ok (.getstatic 163, 3) := by decide +kernel
theorem dX1_relationHasKind_14 : decode cX1_relationHasKind 14 = .ok (.iload_n 2, 1) := by decide +kernel
theorem dX1_relationHasKind_15 : decode cX1_relationHasKind 15 = .ok (.iaload, 1) := by decide +kernel
theorem dX1_relationHasKind_16 : decode cX1_relationHasKind 16 = .ok (.getstatic 166, 3) := by decide +kernel
theorem dX1_relationHasKind_19 : decode cX1_relationHasKind 19 = .ok (.iload_n 2, 1) := by decide +kernel
theorem dX1_relationHasKind_20 : decode cX1_relationHasKind 20 = .ok (.iaload, 1) := by decide +kernel
theorem dX1_relationHasKind_21 : decode cX1_relationHasKind 21 = .ok (.invokevirtual 123, 3) := by decide +kernel
theorem dX1_relationHasKind_24 : decode cX1_relationHasKind 24 = .ok (.ireturn, 1) := by decide +kernel
theorem dX1_hasKind_0 : decode cX1_hasKind 0 = .ok (.iload_n 1, 1) := by decide +kernel
theorem dX1_hasKind_1 : decode cX1_hasKind 1 = .ok (.invokestatic 160, 3) := by decide +kernel
theorem dX1_hasKind_4 : decode cX1_hasKind 4 = .ok (.aload_n 0, 1) := by decide +kernel
theorem dX1_hasKind_5 : decode cX1_hasKind 5 = .ok (.iload_n 1, 1) := by decide +kernel
theorem dX1_hasKind_6 : decode cX1_hasKind 6 = .ok (.invokevirtual 169, 3) := by decide +kernel
theorem dX1_hasKind_9 : decode cX1_hasKind 9 = .ok (.ireturn, 1) := by decide +kernel
theorem dX1_lowestKind_0 : decode cX1_lowestKind 0 = .ok (.iconst 0, 1) := by decide +kernel
theorem dX1_lowestKind_1 : decode cX1_lowestKind 1 = .ok (.istore_n 1, 1) := by decide +kernel
theorem dX1_lowestKind_2 : decode cX1_lowestKind 2 = .ok (.iload_n 1, 1) := by decide +kernel
theorem dX1_lowestKind_3 : decode cX1_lowestKind 3 = .ok (.bipush 6, 2) := by decide +kernel
theorem dX1_lowestKind_5 : decode cX1_lowestKind 5 = .ok (.if_icmp .ge 19, 3) := by decide +kernel
theorem dX1_lowestKind_8 : decode cX1_lowestKind 8 = .ok (.aload_n 0, 1) := by decide +kernel
theorem dX1_lowestKind_9 : decode cX1_lowestKind 9 = .ok (.iload_n 1, 1) := by decide +kernel
theorem dX1_lowestKind_10 : decode cX1_lowestKind 10 = .ok (.invokevirtual 169, 3) := by decide +kernel
theorem dX1_lowestKind_13 : decode cX1_lowestKind 13 = .ok (.ifCond .eq 5, 3) := by decide +kernel
theorem dX1_lowestKind_16 : decode cX1_lowestKind 16 = .ok (.iload_n 1, 1) := by decide +kernel
theorem dX1_lowestKind_17 : decode cX1_lowestKind 17 = .ok (.ireturn, 1) := by decide +kernel
theorem dX1_lowestKind_18 : decode cX1_lowestKind 18 = .ok (.iinc 1 1, 3) := by decide +kernel
theorem dX1_lowestKind_21 : decode cX1_lowestKind 21 = .ok (.goto (-19), 3) := by decide +kernel
theorem dX1_lowestKind_24 : decode cX1_lowestKind 24 = .ok (.new 133, 3) := by decide +kernel
theorem dX1_lowestKind_27 : decode cX1_lowestKind 27 = .ok (.dup, 1) := by decide +kernel
theorem dX1_lowestKind_28 : decode cX1_lowestKind 28 = .ok (.ldc 173, 2) := by decide +kernel
theorem dX1_lowestKind_30 : decode cX1_lowestKind 30 = .ok (.invokespecial 137, 3) := by decide +kernel
theorem dX1_lowestKind_33 : decode cX1_lowestKind 33 = .ok (.athrow, 1) := by decide +kernel
theorem dX1_setVariables_0 : decode cX1_setVariables 0 = .ok (.iload_n 1, 1) := by decide +kernel
theorem dX1_setVariables_1 : decode cX1_setVariables 1 = .ok (.iconst 1, 1) := by decide +kernel
theorem dX1_setVariables_2 : decode cX1_setVariables 2 = .ok (.if_icmp .lt 9, 3) := by decide +kernel
theorem dX1_setVariables_5 : decode cX1_setVariables 5 = .ok (.iload_n 1, 1) := by decide +kernel
theorem dX1_setVariables_6 : decode cX1_setVariables 6 = .ok (.bipush 10, 2) := by decide +kernel
theorem dX1_setVariables_8 : decode cX1_setVariables 8 = .ok (.if_icmp .le 13, 3) := by decide +kernel
theorem dX1_setVariables_11 : decode cX1_setVariables 11 = .ok (.new 59, 3) := by decide +kernel
theorem dX1_setVariables_14 : decode cX1_setVariables 14 = .ok (.dup, 1) := by decide +kernel
theorem dX1_setVariables_15 : decode cX1_setVariables 15 = .ok (.ldc 175, 2) := by decide +kernel
theorem dX1_setVariables_17 : decode cX1_setVariables 17 = .ok (.invokespecial 63, 3) := by decide +kernel
theorem dX1_setVariables_20 : decode cX1_setVariables 20 = .ok (.athrow, 1) := by decide +kernel
theorem dX1_setVariables_21 : decode cX1_setVariables 21 = .ok (.aload_n 0, 1) := by decide +kernel
theorem dX1_setVariables_22 : decode cX1_setVariables 22 = .ok (.getfield 10, 3) := by decide +kernel
theorem dX1_setVariables_25 : decode cX1_setVariables 25 = .ok (.getfield 100, 3) := by decide +kernel
theorem dX1_setVariables_28 : decode cX1_setVariables 28 = .ok (.istore_n 2, 1) := by decide +kernel
theorem dX1_setVariables_29 : decode cX1_setVariables 29 = .ok (.aload_n 0, 1) := by decide +kernel
theorem dX1_setVariables_30 : decode cX1_setVariables 30 = .ok (.getfield 10, 3) := by decide +kernel
theorem dX1_setVariables_33 : decode cX1_setVariables 33 = .ok (.iload_n 1, 1) := by decide +kernel
theorem dX1_setVariables_34 : decode cX1_setVariables 34 = .ok (.putfield 177, 3) := by decide +kernel
theorem dX1_setVariables_37 : decode cX1_setVariables 37 = .ok (.aload_n 0, 1) := by decide +kernel
theorem dX1_setVariables_38 : decode cX1_setVariables 38 = .ok (.getfield 10, 3) := by decide +kernel
theorem dX1_setVariables_41 : decode cX1_setVariables 41 = .ok (.iconst 0, 1) := by decide +kernel
theorem dX1_setVariables_42 : decode cX1_setVariables 42 = .ok (.putfield 100, 3) := by decide +kernel
theorem dX1_setVariables_45 : decode cX1_setVariables 45 = .ok (.iload_n 2, 1) := by decide +kernel
theorem dX1_setVariables_46 : decode cX1_setVariables 46 = .ok (.ireturn, 1) := by decide +kernel
theorem dX1_addConstraint_0 : decode cX1_addConstraint 0 = .ok (.aload_n 0, 1) := by decide +kernel
theorem dX1_addConstraint_1 : decode cX1_addConstraint 1 = .ok (.iload_n 1, 1) := by decide +kernel
theorem dX1_addConstraint_2 : decode cX1_addConstraint 2 = .ok (.invokevirtual 75, 3) := by decide +kernel
theorem dX1_addConstraint_5 : decode cX1_addConstraint 5 = .ok (.aload_n 0, 1) := by decide +kernel
theorem dX1_addConstraint_6 : decode cX1_addConstraint 6 = .ok (.getfield 10, 3) := by decide +kernel
theorem dX1_addConstraint_9 : decode cX1_addConstraint 9 = .ok (.getfield 94, 3) := by decide +kernel
theorem dX1_addConstraint_12 : decode cX1_addConstraint 12 = .ok (.iload_n 1, 1) := by decide +kernel
theorem dX1_addConstraint_13 : decode cX1_addConstraint 13 = .ok (.iaload, 1) := by decide +kernel
theorem dX1_addConstraint_14 : decode cX1_addConstraint 14 = .ok (.istore 6, 2) := by decide +kernel
theorem dX1_addConstraint_16 : decode cX1_addConstraint 16 = .ok (.aload_n 0, 1) := by decide +kernel
theorem dX1_addConstraint_17 : decode cX1_addConstraint 17 = .ok (.iload 6, 2) := by decide +kernel
theorem dX1_addConstraint_19 : decode cX1_addConstraint 19 = .ok (.iload_n 2, 1) := by decide +kernel
theorem dX1_addConstraint_20 : decode cX1_addConstraint 20 = .ok (.iload_n 3, 1) := by decide +kernel
theorem dX1_addConstraint_21 : decode cX1_addConstraint 21 = .ok (.iload 4, 2) := by decide +kernel
theorem dX1_addConstraint_23 : decode cX1_addConstraint 23 = .ok (.iload 5, 2) := by decide +kernel
theorem dX1_addConstraint_25 : decode cX1_addConstraint 25 = .ok (.invokevirtual 180, 3) := by decide +kernel
theorem dX1_addConstraint_28 : decode cX1_addConstraint 28 = .ok (.aload_n 0, 1) := by decide +kernel
theorem dX1_addConstraint_29 : decode cX1_addConstraint 29 = .ok (.getfield 10, 3) := by decide +kernel
theorem dX1_addConstraint_32 : decode cX1_addConstraint 32 = .ok (.getfield 100, 3) := by decide +kernel
theorem dX1_addConstraint_35 : decode cX1_addConstraint 35 = .ok (.bipush 20, 2) := by decide +kernel
theorem dX1_addConstraint_37 : decode cX1_addConstraint 37 = .ok (.if_icmp .lt 13, 3) := by decide +kernel
theorem dX1_addConstraint_40 : decode cX1_addConstraint 40 = .ok (.new 184, 3) := by decide +kernel
theorem dX1_addConstraint_43 : decode cX1_addConstraint 43 = .ok (.dup, 1) := by decide +kernel
theorem dX1_addConstraint_44 : decode cX1_addConstraint 44 = .ok (.ldc 186, 2) := by decide +kernel
theorem dX1_addConstraint_46 : decode cX1_addConstraint 46 = .ok (.invokespecial 188, 3) := by decide +kernel
theorem dX1_addConstraint_49 : decode cX1_addConstraint 49 = .ok (.athrow, 1) := by decide +kernel
theorem dX1_addConstraint_50 : decode cX1_addConstraint 50 = .ok (.aload_n 0, 1) := by decide +kernel
theorem dX1_addConstraint_51 : decode cX1_addConstraint 51 = .ok (.getfield 10, 3) := by decide +kernel
theorem dX1_addConstraint_54 : decode cX1_addConstraint 54 = .ok (.getfield 100, 3) := by decide +kernel
theorem dX1_addConstraint_57 : decode cX1_addConstraint 57 = .ok (.istore 7, 2) := by decide +kernel
theorem dX1_addConstraint_59 : decode cX1_addConstraint 59 = .ok (.aload_n 0, 1) := by decide +kernel
theorem dX1_addConstraint_60 : decode cX1_addConstraint 60 = .ok (.getfield 10, 3) := by decide +kernel
theorem dX1_addConstraint_63 : decode cX1_addConstraint 63 = .ok (.getfield 189, 3) := by decide +kernel
theorem dX1_addConstraint_66 : decode cX1_addConstraint 66 = .ok (.iload 7, 2) := by decide +kernel
theorem dX1_addConstraint_68 : decode cX1_addConstraint 68 = .ok (.iload_n 1, 1) := by decide +kernel
theorem dX1_addConstraint_69 : decode cX1_addConstraint 69 = .ok (.iastore, 1) := by decide +kernel
theorem dX1_addConstraint_70 : decode cX1_addConstraint 70 = .ok (.aload_n 0, 1) := by decide +kernel
theorem dX1_addConstraint_71 : decode cX1_addConstraint 71 = .ok (.getfield 10, 3) := by decide +kernel
theorem dX1_addConstraint_74 : decode cX1_addConstraint 74 = .ok (.getfield 192, 3) := by decide +kernel
theorem dX1_addConstraint_77 : decode cX1_addConstraint 77 = .ok (.iload 7, 2) := by decide +kernel
theorem dX1_addConstraint_79 : decode cX1_addConstraint 79 = .ok (.iload 6, 2) := by decide +kernel
theorem dX1_addConstraint_81 : decode cX1_addConstraint 81 = .ok (.iload_n 2, 1) := by decide +kernel
theorem dX1_addConstraint_82 : decode cX1_addConstraint 82 = .ok (.iload_n 3, 1) := by decide +kernel
theorem dX1_addConstraint_83 : decode cX1_addConstraint 83 = .ok (.iload 4, 2) := by decide +kernel
theorem dX1_addConstraint_85 : decode cX1_addConstraint 85 = .ok (.iload 5, 2) := by decide +kernel
theorem dX1_addConstraint_87 : decode cX1_addConstraint 87 = .ok (.invokestatic 195, 3) := by decide +kernel
theorem dX1_addConstraint_90 : decode cX1_addConstraint 90 = .ok (.iastore, 1) := by decide +kernel
theorem dX1_addConstraint_91 : decode cX1_addConstraint 91 = .ok (.aload_n 0, 1) := by decide +kernel
theorem dX1_addConstraint_92 : decode cX1_addConstraint 92 = .ok (.getfield 10, 3) := by decide +kernel
theorem dX1_addConstraint_95 : decode cX1_addConstraint 95 = .ok (.dup, 1) := by decide +kernel
theorem dX1_addConstraint_96 : decode cX1_addConstraint 96 = .ok (.getfield 100, 3) := by decide +kernel
theorem dX1_addConstraint_99 : decode cX1_addConstraint 99 = .ok (.iconst 1, 1) := by decide +kernel
theorem dX1_addConstraint_100 : decode cX1_addConstraint 100 = .ok (.iadd, 1) := by decide +kernel
theorem dX1_addConstraint_101 : decode cX1_addConstraint 101 = .ok (.putfield 100, 3) := by decide +kernel
theorem dX1_addConstraint_104 : decode cX1_addConstraint 104 = .ok (.iload 7, 2) := by decide +kernel
theorem dX1_addConstraint_106 : decode cX1_addConstraint 106 = .ok (.ireturn, 1) := by decide +kernel
theorem dX1_removeLastConstraint_0 : decode cX1_removeLastConstraint 0 = .ok (.aload_n 0, 1) := by decide +kernel
theorem dX1_removeLastConstraint_1 : decode cX1_removeLastConstraint 1 = .ok (.getfield 10, 3) := by decide +kernel
theorem dX1_removeLastConstraint_4 : decode cX1_removeLastConstraint 4 = .ok (.getfield 100, 3) := by decide +kernel
theorem dX1_removeLastConstraint_7 : decode cX1_removeLastConstraint 7 = .ok (.ifCond .gt 13, 3) := by decide +kernel
theorem dX1_removeLastConstraint_10 : decode cX1_removeLastConstraint 10 = .ok (.new 184, 3) := by decide +kernel
theorem dX1_removeLastConstraint_13 : decode cX1_removeLastConstraint 13 = .ok (.dup, 1) := by decide +kernel
theorem dX1_removeLastConstraint_14 : decode cX1_removeLastConstraint 14 = .ok (.ldc 199, 2) := by decide +kernel
theorem dX1_removeLastConstraint_16 : decode cX1_removeLastConstraint 16 = .ok (.invokespecial 188, 3) := by decide +kernel
theorem dX1_removeLastConstraint_19 : decode cX1_removeLastConstraint 19 = .ok (.athrow, 1) := by decide +kernel
theorem dX1_removeLastConstraint_20 : decode cX1_removeLastConstraint 20 = .ok (.aload_n 0, 1) := by decide +kernel
theorem dX1_removeLastConstraint_21 : decode cX1_removeLastConstraint 21 = .ok (.getfield 10, 3) := by decide +kernel
theorem dX1_removeLastConstraint_24 : decode cX1_removeLastConstraint 24 = .ok (.dup, 1) := by decide +kernel
theorem dX1_removeLastConstraint_25 : decode cX1_removeLastConstraint 25 = .ok (.getfield 100, 3) := by decide +kernel
theorem dX1_removeLastConstraint_28 : decode cX1_removeLastConstraint 28 = .ok (.iconst 1, 1) := by decide +kernel
theorem dX1_removeLastConstraint_29 : decode cX1_removeLastConstraint 29 = .ok (.isub, 1) := by decide +kernel
theorem dX1_removeLastConstraint_30 : decode cX1_removeLastConstraint 30 = .ok (.putfield 100, 3) := by decide +kernel
theorem dX1_removeLastConstraint_33 : decode cX1_removeLastConstraint 33 = .ok (.aload_n 0, 1) := by decide +kernel
theorem dX1_removeLastConstraint_34 : decode cX1_removeLastConstraint 34 = .ok (.getfield 10, 3) := by decide +kernel
theorem dX1_removeLastConstraint_37 : decode cX1_removeLastConstraint 37 = .ok (.getfield 100, 3) := by decide +kernel
theorem dX1_removeLastConstraint_40 : decode cX1_removeLastConstraint 40 = .ok (.ireturn, 1) := by decide +kernel
theorem dX1_solutionCount_0 : decode cX1_solutionCount 0 = .ok (.aload_n 0, 1) := by decide +kernel
theorem dX1_solutionCount_1 : decode cX1_solutionCount 1 = .ok (.getfield 10, 3) := by decide +kernel
theorem dX1_solutionCount_4 : decode cX1_solutionCount 4 = .ok (.invokevirtual 201, 3) := by decide +kernel
theorem dX1_solutionCount_7 : decode cX1_solutionCount 7 = .ok (.ireturn, 1) := by decide +kernel
theorem dX1_solution_0 : decode cX1_solution 0 = .ok (.aload_n 0, 1) := by decide +kernel
theorem dX1_solution_1 : decode cX1_solution 1 = .ok (.getfield 10, 3) := by decide +kernel
theorem dX1_solution_4 : decode cX1_solution 4 = .ok (.iload_n 1, 1) := by decide +kernel
theorem dX1_solution_5 : decode cX1_solution 5 = .ok (.invokevirtual 205, 3) := by decide +kernel
theorem dX1_solution_8 : decode cX1_solution 8 = .ok (.istore_n 2, 1) := by decide +kernel
theorem dX1_solution_9 : decode cX1_solution 9 = .ok (.iload_n 2, 1) := by decide +kernel
theorem dX1_solution_10 : decode cX1_solution 10 = .ok (.ifCond .ge 13, 3) := by decide +kernel
theorem dX1_solution_13 : decode cX1_solution 13 = .ok (.new 133, 3) := by decide +kernel
theorem dX1_solution_16 : decode cX1_solution 16 = .ok (.dup, 1) := by decide +kernel
theorem dX1_solution_17 : decode cX1_solution 17 = .ok (.ldc 208, 2) := by decide +kernel
theorem dX1_solution_19 : decode cX1_solution 19 = .ok (.invokespecial 137, 3) := by decide +kernel
theorem dX1_solution_22 : decode cX1_solution 22 = .ok (.athrow, 1) := by decide +kernel
theorem dX1_solution_23 : decode cX1_solution 23 = .ok (.iload_n 2, 1) := by decide +kernel
theorem dX1_solution_24 : decode cX1_solution 24 = .ok (.ireturn, 1) := by decide +kernel
theorem dX1_isForced_0 : decode cX1_isForced 0 = .ok (.aload_n 0, 1) := by decide +kernel
theorem dX1_isForced_1 : decode cX1_isForced 1 = .ok (.iload_n 1, 1) := by decide +kernel
theorem dX1_isForced_2 : decode cX1_isForced 2 = .ok (.invokevirtual 210, 3) := by decide +kernel
theorem dX1_isForced_5 : decode cX1_isForced 5 = .ok (.iload_n 2, 1) := by decide +kernel
theorem dX1_isForced_6 : decode cX1_isForced 6 = .ok (.invokestatic 69, 3) := by decide +kernel
theorem dX1_isForced_9 : decode cX1_isForced 9 = .ok (.aload_n 0, 1) := by decide +kernel
theorem dX1_isForced_10 : decode cX1_isForced 10 = .ok (.getfield 10, 3) := by decide +kernel
theorem dX1_isForced_13 : decode cX1_isForced 13 = .ok (.iconst 1, 1) := by decide +kernel
theorem dX1_isForced_14 : decode cX1_isForced 14 = .ok (.iload_n 2, 1) := by decide +kernel
theorem dX1_isForced_15 : decode cX1_isForced 15 = .ok (.isub, 1) := by decide +kernel
theorem dX1_isForced_16 : decode cX1_isForced 16 = .ok (.invokevirtual 213, 3) := by decide +kernel
theorem dX1_isForced_19 : decode cX1_isForced 19 = .ok (.iload_n 1, 1) := by decide +kernel
theorem dX1_isForced_20 : decode cX1_isForced 20 = .ok (.invokestatic 85, 3) := by decide +kernel
theorem dX1_isForced_23 : decode cX1_isForced 23 = .ok (.ifCond .ne 7, 3) := by decide +kernel
theorem dX1_isForced_26 : decode cX1_isForced 26 = .ok (.iconst 1, 1) := by decide +kernel
theorem dX1_isForced_27 : decode cX1_isForced 27 = .ok (.goto 4, 3) := by decide +kernel
theorem dX1_isForced_30 : decode cX1_isForced 30 = .ok (.iconst 0, 1) := by decide +kernel
theorem dX1_isForced_31 : decode cX1_isForced 31 = .ok (.ireturn, 1) := by decide +kernel
theorem dX1_leastSolution_0 : decode cX1_leastSolution 0 = .ok (.aload_n 0, 1) := by decide +kernel
theorem dX1_leastSolution_1 : decode cX1_leastSolution 1 = .ok (.iconst 2, 1) := by decide +kernel
theorem dX1_leastSolution_2 : decode cX1_leastSolution 2 = .ok (.invokevirtual 216, 3) := by decide +kernel
theorem dX1_leastSolution_5 : decode cX1_leastSolution 5 = .ok (.aload_n 0, 1) := by decide +kernel
theorem dX1_leastSolution_6 : decode cX1_leastSolution 6 = .ok (.invokevirtual 219, 3) := by decide +kernel
theorem dX1_leastSolution_9 : decode cX1_leastSolution 9 = .ok (.aload_n 0, 1) := by decide +kernel
theorem dX1_leastSolution_10 : decode cX1_leastSolution 10 = .ok (.getfield 10, 3) := by decide +kernel
theorem dX1_leastSolution_13 : decode cX1_leastSolution 13 = .ok (.invokevirtual 222, 3) := by decide +kernel
theorem dX1_leastSolution_16 : decode cX1_leastSolution 16 = .ok (.aload_n 0, 1) := by decide +kernel
theorem dX1_leastSolution_17 : decode cX1_leastSolution 17 = .ok (.getfield 10, 3) := by decide +kernel
theorem dX1_leastSolution_20 : decode cX1_leastSolution 20 = .ok (.iconst 0, 1) := by decide +kernel
theorem dX1_leastSolution_21 : decode cX1_leastSolution 21 = .ok (.invokevirtual 213, 3) := by decide +kernel
theorem dX1_leastSolution_24 : decode cX1_leastSolution 24 = .ok (.iconst (-1), 1) := by decide +kernel
theorem dX1_leastSolution_25 : decode cX1_leastSolution 25 = .ok (.ixor, 1) := by decide +kernel
theorem dX1_leastSolution_26 : decode cX1_leastSolution 26 = .ok (.iand, 1) := by decide +kernel
theorem dX1_leastSolution_27 : decode cX1_leastSolution 27 = .ok (.ireturn, 1) := by decide +kernel
theorem dX1_greatestSolution_0 : decode cX1_greatestSolution 0 = .ok (.aload_n 0, 1) := by decide +kernel
theorem dX1_greatestSolution_1 : decode cX1_greatestSolution 1 = .ok (.iconst 3, 1) := by decide +kernel
theorem dX1_greatestSolution_2 : decode cX1_greatestSolution 2 = .ok (.invokevirtual 216, 3) := by decide +kernel
theorem dX1_greatestSolution_5 : decode cX1_greatestSolution 5 = .ok (.aload_n 0, 1) := by decide +kernel
theorem dX1_greatestSolution_6 : decode cX1_greatestSolution 6 = .ok (.invokevirtual 219, 3) := by decide +kernel
theorem dX1_greatestSolution_9 : decode cX1_greatestSolution 9 = .ok (.aload_n 0, 1) := by decide +kernel
theorem dX1_greatestSolution_10 : decode cX1_greatestSolution 10 = .ok (.getfield 10, 3) := by decide +kernel
theorem dX1_greatestSolution_13 : decode cX1_greatestSolution 13 = .ok (.iconst 1, 1) := by decide +kernel
theorem dX1_greatestSolution_14 : decode cX1_greatestSolution 14 = .ok (.invokevirtual 213, 3) := by decide +kernel
theorem dX1_greatestSolution_17 : decode cX1_greatestSolution 17 = .ok (.ireturn, 1) := by decide +kernel
theorem dX1_implies_0 : decode cX1_implies 0 = .ok (.aload_n 0, 1) := by decide +kernel
theorem dX1_implies_1 : decode cX1_implies 1 = .ok (.iconst 4, 1) := by decide +kernel
theorem dX1_implies_2 : decode cX1_implies 2 = .ok (.invokevirtual 216, 3) := by decide +kernel
theorem dX1_implies_5 : decode cX1_implies 5 = .ok (.aload_n 0, 1) := by decide +kernel
theorem dX1_implies_6 : decode cX1_implies 6 = .ok (.iload_n 1, 1) := by decide +kernel
theorem dX1_implies_7 : decode cX1_implies 7 = .ok (.invokevirtual 210, 3) := by decide +kernel
theorem dX1_implies_10 : decode cX1_implies 10 = .ok (.aload_n 0, 1) := by decide +kernel
theorem dX1_implies_11 : decode cX1_implies 11 = .ok (.iload_n 3, 1) := by decide +kernel
theorem dX1_implies_12 : decode cX1_implies 12 = .ok (.invokevirtual 210, 3) := by decide +kernel
theorem dX1_implies_15 : decode cX1_implies 15 = .ok (.iload_n 2, 1) := by decide +kernel
theorem dX1_implies_16 : decode cX1_implies 16 = .ok (.invokestatic 69, 3) := by decide +kernel
theorem dX1_implies_19 : decode cX1_implies 19 = .ok (.iload 4, 2) := by decide +kernel
theorem dX1_implies_21 : decode cX1_implies 21 = .ok (.invokestatic 69, 3) := by decide +kernel
theorem dX1_implies_24 : decode cX1_implies 24 = .ok (.aload_n 0, 1) := by decide +kernel
theorem dX1_implies_25 : decode cX1_implies 25 = .ok (.getfield 10, 3) := by decide +kernel
theorem dX1_implies_28 : decode cX1_implies 28 = .ok (.iload_n 1, 1) := by decide +kernel
theorem dX1_implies_29 : decode cX1_implies 29 = .ok (.iload_n 2, 1) := by decide +kernel
theorem dX1_implies_30 : decode cX1_implies 30 = .ok (.iload_n 3, 1) := by decide +kernel
theorem dX1_implies_31 : decode cX1_implies 31 = .ok (.iconst 1, 1) := by decide +kernel
theorem dX1_implies_32 : decode cX1_implies 32 = .ok (.iload 4, 2) := by decide +kernel
theorem dX1_implies_34 : decode cX1_implies 34 = .ok (.isub, 1) := by decide +kernel
theorem dX1_implies_35 : decode cX1_implies 35 = .ok (.invokevirtual 225, 3) := by decide +kernel
theorem dX1_implies_38 : decode cX1_implies 38 = .ok (.ifCond .ne 7, 3) := by decide +kernel
theorem dX1_implies_41 : decode cX1_implies 41 = .ok (.iconst 1, 1) := by decide +kernel
theorem dX1_implies_42 : decode cX1_implies 42 = .ok (.goto 4, 3) := by decide +kernel
theorem dX1_implies_45 : decode cX1_implies 45 = .ok (.iconst 0, 1) := by decide +kernel
theorem dX1_implies_46 : decode cX1_implies 46 = .ok (.ireturn, 1) := by decide +kernel
theorem dX1_dimension_0 : decode cX1_dimension 0 = .ok (.aload_n 0, 1) := by decide +kernel
theorem dX1_dimension_1 : decode cX1_dimension 1 = .ok (.iconst 5, 1) := by decide +kernel
theorem dX1_dimension_2 : decode cX1_dimension 2 = .ok (.invokevirtual 216, 3) := by decide +kernel
theorem dX1_dimension_5 : decode cX1_dimension 5 = .ok (.aload_n 0, 1) := by decide +kernel
theorem dX1_dimension_6 : decode cX1_dimension 6 = .ok (.invokevirtual 219, 3) := by decide +kernel
theorem dX1_dimension_9 : decode cX1_dimension 9 = .ok (.aload_n 0, 1) := by decide +kernel
theorem dX1_dimension_10 : decode cX1_dimension 10 = .ok (.getfield 10, 3) := by decide +kernel
theorem dX1_dimension_13 : decode cX1_dimension 13 = .ok (.invokevirtual 201, 3) := by decide +kernel
theorem dX1_dimension_16 : decode cX1_dimension 16 = .ok (.iconst 1, 1) := by decide +kernel
theorem dX1_dimension_17 : decode cX1_dimension 17 = .ok (.isub, 1) := by decide +kernel
theorem dX1_dimension_18 : decode cX1_dimension 18 = .ok (.invokestatic 89, 3) := by decide +kernel
theorem dX1_dimension_21 : decode cX1_dimension 21 = .ok (.ireturn, 1) := by decide +kernel
theorem dX1_define_0 : decode cX1_define 0 = .ok (.iload_n 1, 1) := by decide +kernel
theorem dX1_define_1 : decode cX1_define 1 = .ok (.invokestatic 47, 3) := by decide +kernel
theorem dX1_define_4 : decode cX1_define 4 = .ok (.aload_n 0, 1) := by decide +kernel
theorem dX1_define_5 : decode cX1_define 5 = .ok (.iload_n 1, 1) := by decide +kernel
theorem dX1_define_6 : decode cX1_define 6 = .ok (.iload_n 2, 1) := by decide +kernel
theorem dX1_define_7 : decode cX1_define 7 = .ok (.iload_n 3, 1) := by decide +kernel
theorem dX1_define_8 : decode cX1_define 8 = .ok (.iload 4, 2) := by decide +kernel
theorem dX1_define_10 : decode cX1_define 10 = .ok (.iload 5, 2) := by decide +kernel
theorem dX1_define_12 : decode cX1_define 12 = .ok (.invokevirtual 180, 3) := by decide +kernel
theorem dX1_define_15 : decode cX1_define 15 = .ok (.aload_n 0, 1) := by decide +kernel
theorem dX1_define_16 : decode cX1_define 16 = .ok (.iload_n 1, 1) := by decide +kernel
theorem dX1_define_17 : decode cX1_define 17 = .ok (.aload_n 0, 1) := by decide +kernel
theorem dX1_define_18 : decode cX1_define 18 = .ok (.getfield 10, 3) := by decide +kernel
theorem dX1_define_21 : decode cX1_define 21 = .ok (.iload_n 1, 1) := by decide +kernel
theorem dX1_define_22 : decode cX1_define 22 = .ok (.iload_n 1, 1) := by decide +kernel
theorem dX1_define_23 : decode cX1_define 23 = .ok (.iload_n 2, 1) := by decide +kernel
theorem dX1_define_24 : decode cX1_define 24 = .ok (.iload_n 3, 1) := by decide +kernel
theorem dX1_define_25 : decode cX1_define 25 = .ok (.iload 4, 2) := by decide +kernel
theorem dX1_define_27 : decode cX1_define 27 = .ok (.iload 5, 2) := by decide +kernel
theorem dX1_define_29 : decode cX1_define 29 = .ok (.invokestatic 195, 3) := by decide +kernel
theorem dX1_define_32 : decode cX1_define 32 = .ok (.invokevirtual 229, 3) := by decide +kernel
theorem dX1_define_35 : decode cX1_define 35 = .ok (.invokevirtual 51, 3) := by decide +kernel
theorem dX1_define_38 : decode cX1_define 38 = .ok (.ireturn, 1) := by decide +kernel
theorem dX1_firstViolated_0 : decode cX1_firstViolated 0 = .ok (.iload_n 1, 1) := by decide +kernel
theorem dX1_firstViolated_1 : decode cX1_firstViolated 1 = .ok (.ifCond .lt 14, 3) := by decide +kernel
theorem dX1_firstViolated_4 : decode cX1_firstViolated 4 = .ok (.iload_n 1, 1) := by decide +kernel
theorem dX1_firstViolated_5 : decode cX1_firstViolated 5 = .ok (.aload_n 0, 1) := by decide +kernel
theorem dX1_firstViolated_6 : decode cX1_firstViolated 6 = .ok (.getfield 10, 3) := by decide +kernel
theorem dX1_firstViolated_9 : decode cX1_firstViolated 9 = .ok (.invokevirtual 222, 3) := by decide +kernel
theorem dX1_firstViolated_12 : decode cX1_firstViolated 12 = .ok (.if_icmp .le 13, 3) := by decide +kernel
theorem dX1_firstViolated_15 : decode cX1_firstViolated 15 = .ok (.new 59, 3) := by decide +kernel
theorem dX1_firstViolated_18 : decode cX1_firstViolated 18 = .ok (.dup, 1) := by decide +kernel
theorem dX1_firstViolated_19 : decode cX1_firstViolated 19 = .ok (.ldc 232, 2) := by decide +kernel
theorem dX1_firstViolated_21 : decode cX1_firstViolated 21 = .ok (.invokespecial 63, 3) := by decide +kernel
theorem dX1_firstViolated_24 : decode cX1_firstViolated 24 = .ok (.athrow, 1) := by decide +kernel
theorem dX1_firstViolated_25 : decode cX1_firstViolated 25 = .ok (.iconst 0, 1) := by decide +kernel
theorem dX1_firstViolated_26 : decode cX1_firstViolated 26 = .ok (.istore_n 2, 1) := by decide +kernel
theorem dX1_firstViolated_27 : decode cX1_firstViolated 27 = .ok (.iload_n 2, 1) := by decide +kernel
theorem dX1_firstViolated_28 : decode cX1_firstViolated 28 = .ok (.aload_n 0, 1) := by decide +kernel
theorem dX1_firstViolated_29 : decode cX1_firstViolated 29 = .ok (.getfield 10, 3) := by decide +kernel
theorem dX1_firstViolated_32 : decode cX1_firstViolated 32 = .ok (.getfield 100, 3) := by decide +kernel
theorem dX1_firstViolated_35 : decode cX1_firstViolated 35 = .ok (.if_icmp .ge 23, 3) := by decide +kernel
theorem dX1_firstViolated_38 : decode cX1_firstViolated 38 = .ok (.aload_n 0, 1) := by decide +kernel
theorem dX1_firstViolated_39 : decode cX1_firstViolated 39 = .ok (.getfield 10, 3) := by decide +kernel
theorem dX1_firstViolated_42 : decode cX1_firstViolated 42 = .ok (.iload_n 2, 1) := by decide +kernel
theorem dX1_firstViolated_43 : decode cX1_firstViolated 43 = .ok (.iload_n 1, 1) := by decide +kernel
theorem dX1_firstViolated_44 : decode cX1_firstViolated 44 = .ok (.invokevirtual 234, 3) := by decide +kernel
theorem dX1_firstViolated_47 : decode cX1_firstViolated 47 = .ok (.ifCond .ne 5, 3) := by decide +kernel
theorem dX1_firstViolated_50 : decode cX1_firstViolated 50 = .ok (.iload_n 2, 1) := by decide +kernel
theorem dX1_firstViolated_51 : decode cX1_firstViolated 51 = .ok (.ireturn, 1) := by decide +kernel
theorem dX1_firstViolated_52 : decode cX1_firstViolated 52 = .ok (.iinc 2 1, 3) := by decide +kernel
theorem dX1_firstViolated_55 : decode cX1_firstViolated 55 = .ok (.goto (-28), 3) := by decide +kernel
theorem dX1_firstViolated_58 : decode cX1_firstViolated 58 = .ok (.new 133, 3) := by decide +kernel
theorem dX1_firstViolated_61 : decode cX1_firstViolated 61 = .ok (.dup, 1) := by decide +kernel
theorem dX1_firstViolated_62 : decode cX1_firstViolated 62 = .ok (.ldc 237, 2) := by decide +kernel
theorem dX1_firstViolated_64 : decode cX1_firstViolated 64 = .ok (.invokespecial 137, 3) := by decide +kernel
theorem dX1_firstViolated_67 : decode cX1_firstViolated 67 = .ok (.athrow, 1) := by decide +kernel
theorem dX1_isRedundant_0 : decode cX1_isRedundant 0 = .ok (.iload_n 1, 1) := by decide +kernel
theorem dX1_isRedundant_1 : decode cX1_isRedundant 1 = .ok (.ifCond .lt 14, 3) := by decide +kernel
theorem dX1_isRedundant_4 : decode cX1_isRedundant 4 = .ok (.iload_n 1, 1) := by decide +kernel
theorem dX1_isRedundant_5 : decode cX1_isRedundant 5 = .ok (.aload_n 0, 1) := by decide +kernel
theorem dX1_isRedundant_6 : decode cX1_isRedundant 6 = .ok (.getfield 10, 3) := by decide +kernel
theorem dX1_isRedundant_9 : decode cX1_isRedundant 9 = .ok (.getfield 100, 3) := by decide +kernel
theorem dX1_isRedundant_12 : decode cX1_isRedundant 12 = .ok (.if_icmp .lt 13, 3) := by decide +kernel
theorem dX1_isRedundant_15 : decode cX1_isRedundant 15 = .ok (.new 153, 3) := by decide +kernel
theorem dX1_isRedundant_18 : decode cX1_isRedundant 18 = .ok (.dup, 1) := by decide +kernel
theorem dX1_isRedundant_19 : decode cX1_isRedundant 19 = .ok (.ldc 239, 2) := by decide +kernel
theorem dX1_isRedundant_21 : decode cX1_isRedundant 21 = .ok (.invokespecial 157, 3) := by decide +kernel
theorem dX1_isRedundant_24 : decode cX1_isRedundant 24 = .ok (.athrow, 1) := by decide +kernel
theorem dX1_isRedundant_25 : decode cX1_isRedundant 25 = .ok (.aload_n 0, 1) := by decide +kernel
theorem dX1_isRedundant_26 : decode cX1_isRedundant 26 = .ok (.getfield 10, 3) := by decide +kernel
theorem dX1_isRedundant_29 : decode cX1_isRedundant 29 = .ok (.iload_n 1, 1) := by decide +kernel
theorem dX1_isRedundant_30 : decode cX1_isRedundant 30 = .ok (.iconst 0, 1) := by decide +kernel
theorem dX1_isRedundant_31 : decode cX1_isRedundant 31 = .ok (.invokevirtual 241, 3) := by decide +kernel
theorem dX1_isRedundant_34 : decode cX1_isRedundant 34 = .ok (.ireturn, 1) := by decide +kernel
theorem dX1_removeRedundant_0 : decode cX1_removeRedundant 0 = .ok (.iconst 0, 1) := by decide +kernel
theorem dX1_removeRedundant_1 : decode cX1_removeRedundant 1 = .ok (.istore_n 1, 1) := by decide +kernel
theorem dX1_removeRedundant_2 : decode cX1_removeRedundant 2 = .ok (.aload_n 0, 1) := by decide +kernel
theorem dX1_removeRedundant_3 : decode cX1_removeRedundant 3 = .ok (.getfield 10, 3) := by decide +kernel
theorem dX1_removeRedundant_6 : decode cX1_removeRedundant 6 = .ok (.getfield 100, 3) := by decide +kernel
theorem dX1_removeRedundant_9 : decode cX1_removeRedundant 9 = .ok (.iconst 1, 1) := by decide +kernel
theorem dX1_removeRedundant_10 : decode cX1_removeRedundant 10 = .ok (.isub, 1) := by decide +kernel
theorem dX1_removeRedundant_11 : decode cX1_removeRedundant 11 = .ok (.istore_n 2, 1) := by decide +kernel
theorem dX1_removeRedundant_12 : decode cX1_removeRedundant 12 = .ok (.iload_n 2, 1) := by decide +kernel
theorem dX1_removeRedundant_13 : decode cX1_removeRedundant 13 = .ok (.ifCond .lt 27, 3) := by decide +kernel
theorem dX1_removeRedundant_16 : decode cX1_removeRedundant 16 = .ok (.aload_n 0, 1) := by decide +kernel
theorem dX1_removeRedundant_17 : decode cX1_removeRedundant 17 = .ok (.getfield 10, 3) := by decide +kernel
theorem dX1_removeRedundant_20 : decode cX1_removeRedundant 20 = .ok (.iload_n 2, 1) := by decide +kernel
theorem dX1_removeRedundant_21 : decode cX1_removeRedundant 21 = .ok (.iload_n 1, 1) := by decide +kernel
theorem dX1_removeRedundant_22 : decode cX1_removeRedundant 22 = .ok (.invokevirtual 241, 3) := by decide +kernel
theorem dX1_removeRedundant_25 : decode cX1_removeRedundant 25 = .ok (.ifCond .eq 9, 3) := by decide +kernel
theorem dX1_removeRedundant_28 : decode cX1_removeRedundant 28 = .ok (.iload_n 1, 1) := by decide +kernel
theorem dX1_removeRedundant_29 : decode cX1_removeRedundant 29 = .ok (.iconst 1, 1) := by decide +kernel
theorem dX1_removeRedundant_30 : decode cX1_removeRedundant 30 = .ok (.iload_n 2, 1) := by decide +kernel
theorem dX1_removeRedundant_31 : decode cX1_removeRedundant 31 = .ok (.ishl, 1) := by decide +kernel
theorem dX1_removeRedundant_32 : decode cX1_removeRedundant 32 = .ok (.ior, 1) := by decide +kernel
theorem dX1_removeRedundant_33 : decode cX1_removeRedundant 33 = .ok (.istore_n 1, 1) := by decide +kernel
theorem dX1_removeRedundant_34 : decode cX1_removeRedundant 34 = .ok (.iinc 2 (-1), 3) := by decide +kernel
theorem dX1_removeRedundant_37 : decode cX1_removeRedundant 37 = .ok (.goto (-25), 3) := by decide +kernel
theorem dX1_removeRedundant_40 : decode cX1_removeRedundant 40 = .ok (.aload_n 0, 1) := by decide +kernel
theorem dX1_removeRedundant_41 : decode cX1_removeRedundant 41 = .ok (.getfield 10, 3) := by decide +kernel
theorem dX1_removeRedundant_44 : decode cX1_removeRedundant 44 = .ok (.iload_n 1, 1) := by decide +kernel
theorem dX1_removeRedundant_45 : decode cX1_removeRedundant 45 = .ok (.invokevirtual 244, 3) := by decide +kernel
theorem dX1_removeRedundant_48 : decode cX1_removeRedundant 48 = .ok (.iload_n 1, 1) := by decide +kernel
theorem dX1_removeRedundant_49 : decode cX1_removeRedundant 49 = .ok (.invokestatic 89, 3) := by decide +kernel
theorem dX1_removeRedundant_52 : decode cX1_removeRedundant 52 = .ok (.ireturn, 1) := by decide +kernel
theorem dX1_append_0 : decode cX1_append 0 = .ok (.iload_n 1, 1) := by decide +kernel
theorem dX1_append_1 : decode cX1_append 1 = .ok (.bipush 32, 2) := by decide +kernel
theorem dX1_append_3 : decode cX1_append 3 = .ok (.if_icmp .lt 9, 3) := by decide +kernel
theorem dX1_append_6 : decode cX1_append 6 = .ok (.iload_n 1, 1) := by decide +kernel
theorem dX1_append_7 : decode cX1_append 7 = .ok (.bipush 126, 2) := by decide +kernel
theorem dX1_append_9 : decode cX1_append 9 = .ok (.if_icmp .le 13, 3) := by decide +kernel
theorem dX1_append_12 : decode cX1_append 12 = .ok (.new 59, 3) := by decide +kernel
theorem dX1_append_15 : decode cX1_append 15 = .ok (.dup, 1) := by decide +kernel
theorem dX1_append_16 : decode cX1_append 16 = .ok (.ldc 247, 2) := by decide +kernel
theorem dX1_append_18 : decode cX1_append 18 = .ok (.invokespecial 63, 3) := by decide +kernel
theorem dX1_append_21 : decode cX1_append 21 = .ok (.athrow, 1) := by decide +kernel
theorem dX1_append_22 : decode cX1_append 22 = .ok (.aload_n 0, 1) := by decide +kernel
theorem dX1_append_23 : decode cX1_append 23 = .ok (.getfield 27, 3) := by decide +kernel
theorem dX1_append_26 : decode cX1_append 26 = .ok (.bipush 60, 2) := by decide +kernel
theorem dX1_append_28 : decode cX1_append 28 = .ok (.if_icmp .lt 13, 3) := by decide +kernel
theorem dX1_append_31 : decode cX1_append 31 = .ok (.new 184, 3) := by decide +kernel
theorem dX1_append_34 : decode cX1_append 34 = .ok (.dup, 1) := by decide +kernel
theorem dX1_append_35 : decode cX1_append 35 = .ok (.ldc 249, 2) := by decide +kernel
theorem dX1_append_37 : decode cX1_append 37 = .ok (.invokespecial 188, 3) := by decide +kernel
theorem dX1_append_40 : decode cX1_append 40 = .ok (.athrow, 1) := by decide +kernel
theorem dX1_append_41 : decode cX1_append 41 = .ok (.aload_n 0, 1) := by decide +kernel
theorem dX1_append_42 : decode cX1_append 42 = .ok (.getfield 23, 3) := by decide +kernel
theorem dX1_append_45 : decode cX1_append 45 = .ok (.aload_n 0, 1) := by decide +kernel
theorem dX1_append_46 : decode cX1_append 46 = .ok (.getfield 27, 3) := by decide +kernel
theorem dX1_append_49 : decode cX1_append 49 = .ok (.iload_n 1, 1) := by decide +kernel
theorem dX1_append_50 : decode cX1_append 50 = .ok (.castore, 1) := by decide +kernel
theorem dX1_append_51 : decode cX1_append 51 = .ok (.aload_n 0, 1) := by decide +kernel
theorem dX1_append_52 : decode cX1_append 52 = .ok (.dup, 1) := by decide +kernel
theorem dX1_append_53 : decode cX1_append 53 = .ok (.getfield 27, 3) := by decide +kernel
theorem dX1_append_56 : decode cX1_append 56 = .ok (.iconst 1, 1) := by decide +kernel
theorem dX1_append_57 : decode cX1_append 57 = .ok (.iadd, 1) := by decide +kernel
theorem dX1_append_58 : decode cX1_append 58 = .ok (.putfield 27, 3) := by decide +kernel
theorem dX1_append_61 : decode cX1_append 61 = .ok (.aload_n 0, 1) := by decide +kernel
theorem dX1_append_62 : decode cX1_append 62 = .ok (.getfield 27, 3) := by decide +kernel
theorem dX1_append_65 : decode cX1_append 65 = .ok (.ireturn, 1) := by decide +kernel
theorem dX1_parse_0 : decode cX1_parse 0 = .ok (.aload_n 0, 1) := by decide +kernel
theorem dX1_parse_1 : decode cX1_parse 1 = .ok (.getfield 27, 3) := by decide +kernel
theorem dX1_parse_4 : decode cX1_parse 4 = .ok (.istore_n 1, 1) := by decide +kernel
theorem dX1_parse_5 : decode cX1_parse 5 = .ok (.aload_n 0, 1) := by decide +kernel
theorem dX1_parse_6 : decode cX1_parse 6 = .ok (.iconst 0, 1) := by decide +kernel
theorem dX1_parse_7 : decode cX1_parse 7 = .ok (.putfield 27, 3) := by decide +kernel
theorem dX1_parse_10 : decode cX1_parse 10 = .ok (.aload_n 0, 1) := by decide +kernel
theorem dX1_parse_11 : decode cX1_parse 11 = .ok (.iload_n 1, 1) := by decide +kernel
theorem dX1_parse_12 : decode cX1_parse 12 = .ok (.invokevirtual 251, 3) := by decide +kernel
theorem dX1_parse_15 : decode cX1_parse 15 = .ok (.istore_n 2, 1) := by decide +kernel
theorem dX1_parse_16 : decode cX1_parse 16 = .ok (.iload_n 2, 1) := by decide +kernel
theorem dX1_parse_17 : decode cX1_parse 17 = .ok (.iconst (-1), 1) := by decide +kernel
theorem dX1_parse_18 : decode cX1_parse 18 = .ok (.if_icmp .eq 18, 3) := by decide +kernel
theorem dX1_parse_21 : decode cX1_parse 21 = .ok (.aload_n 0, 1) := by decide +kernel
theorem dX1_parse_22 : decode cX1_parse 22 = .ok (.iload_n 2, 1) := by decide +kernel
theorem dX1_parse_23 : decode cX1_parse 23 = .ok (.putfield 31, 3) := by decide +kernel
theorem dX1_parse_26 : decode cX1_parse 26 = .ok (.new 59, 3) := by decide +kernel
theorem dX1_parse_29 : decode cX1_parse 29 = .ok (.dup, 1) := by decide +kernel
theorem dX1_parse_30 : decode cX1_parse 30 = .ok (.ldc 254, 2) := by decide +kernel
theorem dX1_parse_32 : decode cX1_parse 32 = .ok (.invokespecial 63, 3) := by decide +kernel
theorem dX1_parse_35 : decode cX1_parse 35 = .ok (.athrow, 1) := by decide +kernel
theorem dX1_parse_36 : decode cX1_parse 36 = .ok (.aload_n 0, 1) := by decide +kernel
theorem dX1_parse_37 : decode cX1_parse 37 = .ok (.iload_n 1, 1) := by decide +kernel
theorem dX1_parse_38 : decode cX1_parse 38 = .ok (.invokevirtual 256, 3) := by decide +kernel
theorem dX1_parse_41 : decode cX1_parse 41 = .ok (.istore_n 3, 1) := by decide +kernel
theorem dX1_parse_42 : decode cX1_parse 42 = .ok (.aload_n 0, 1) := by decide +kernel
theorem dX1_parse_43 : decode cX1_parse 43 = .ok (.iload_n 3, 1) := by decide +kernel
theorem dX1_parse_44 : decode cX1_parse 44 = .ok (.aload_n 0, 1) := by decide +kernel
theorem dX1_parse_45 : decode cX1_parse 45 = .ok (.iload_n 3, 1) := by decide +kernel
theorem dX1_parse_46 : decode cX1_parse 46 = .ok (.iload_n 1, 1) := by decide +kernel
theorem dX1_parse_47 : decode cX1_parse 47 = .ok (.invokevirtual 259, 3) := by decide +kernel
theorem dX1_parse_50 : decode cX1_parse 50 = .ok (.invokevirtual 51, 3) := by decide +kernel
theorem dX1_parse_53 : decode cX1_parse 53 = .ok (.ireturn, 1) := by decide +kernel
theorem dX1_errorPosition_0 : decode cX1_errorPosition 0 = .ok (.aload_n 0, 1) := by decide +kernel
theorem dX1_errorPosition_1 : decode cX1_errorPosition 1 = .ok (.getfield 31, 3) := by decide +kernel
theorem dX1_errorPosition_4 : decode cX1_errorPosition 4 = .ok (.iconst (-1), 1) := by decide +kernel
theorem dX1_errorPosition_5 : decode cX1_errorPosition 5 = .ok (.if_icmp .ne 14, 3) := by decide +kernel
theorem dX1_errorPosition_8 : decode cX1_errorPosition 8 = .ok (.new 184, 3) := by decide +kernel
theorem dX1_errorPosition_11 : decode cX1_errorPosition 11 = .ok (.dup, 1) := by decide +kernel
theorem dX1_errorPosition_12 : decode cX1_errorPosition 12 = .ok (.ldc_w 262, 3) := by decide +kernel
theorem dX1_errorPosition_15 : decode cX1_errorPosition 15 = .ok (.invokespecial 188, 3) := by decide +kernel
theorem dX1_errorPosition_18 : decode cX1_errorPosition 18 = .ok (.athrow, 1) := by decide +kernel
theorem dX1_errorPosition_19 : decode cX1_errorPosition 19 = .ok (.aload_n 0, 1) := by decide +kernel
theorem dX1_errorPosition_20 : decode cX1_errorPosition 20 = .ok (.getfield 31, 3) := by decide +kernel
theorem dX1_errorPosition_23 : decode cX1_errorPosition 23 = .ok (.ireturn, 1) := by decide +kernel
theorem dX1_write_0 : decode cX1_write 0 = .ok (.aload_n 0, 1) := by decide +kernel
theorem dX1_write_1 : decode cX1_write 1 = .ok (.iload_n 1, 1) := by decide +kernel
theorem dX1_write_2 : decode cX1_write 2 = .ok (.invokevirtual 75, 3) := by decide +kernel
theorem dX1_write_5 : decode cX1_write 5 = .ok (.aload_n 0, 1) := by decide +kernel
theorem dX1_write_6 : decode cX1_write 6 = .ok (.iconst 0, 1) := by decide +kernel
theorem dX1_write_7 : decode cX1_write 7 = .ok (.putfield 37, 3) := by decide +kernel
theorem dX1_write_10 : decode cX1_write 10 = .ok (.aload_n 0, 1) := by decide +kernel
theorem dX1_write_11 : decode cX1_write 11 = .ok (.getfield 10, 3) := by decide +kernel
theorem dX1_write_14 : decode cX1_write 14 = .ok (.getfield 94, 3) := by decide +kernel
theorem dX1_write_17 : decode cX1_write 17 = .ok (.iload_n 1, 1) := by decide +kernel
theorem dX1_write_18 : decode cX1_write 18 = .ok (.iaload, 1) := by decide +kernel
theorem dX1_write_19 : decode cX1_write 19 = .ok (.istore_n 2, 1) := by decide +kernel
theorem dX1_write_20 : decode cX1_write 20 = .ok (.iconst 0, 1) := by decide +kernel
theorem dX1_write_21 : decode cX1_write 21 = .ok (.istore_n 3, 1) := by decide +kernel
theorem dX1_write_22 : decode cX1_write 22 = .ok (.iload_n 3, 1) := by decide +kernel
theorem dX1_write_23 : decode cX1_write 23 = .ok (.iload_n 2, 1) := by decide +kernel
theorem dX1_write_24 : decode cX1_write 24 = .ok (.invokestatic 55, 3) := by decide +kernel
theorem dX1_write_27 : decode cX1_write 27 = .ok (.if_icmp .gt 31, 3) := by decide +kernel
theorem dX1_write_30 : decode cX1_write 30 = .ok (.aload_n 0, 1) := by decide +kernel
theorem dX1_write_31 : decode cX1_write 31 = .ok (.getfield 10, 3) := by decide +kernel
theorem dX1_write_34 : decode cX1_write 34 = .ok (.getfield 82, 3) := by decide +kernel
theorem dX1_write_37 : decode cX1_write 37 = .ok (.iload_n 1, 1) := by decide +kernel
theorem dX1_write_38 : decode cX1_write 38 = .ok (.iaload, 1) := by decide +kernel
theorem dX1_write_39 : decode cX1_write 39 = .ok (.iload_n 3, 1) := by decide +kernel
theorem dX1_write_40 : decode cX1_write 40 = .ok (.invokestatic 85, 3) := by decide +kernel
theorem dX1_write_43 : decode cX1_write 43 = .ok (.ifCond .eq 9, 3) := by decide +kernel
theorem dX1_write_46 : decode cX1_write 46 = .ok (.aload_n 0, 1) := by decide +kernel
theorem dX1_write_47 : decode cX1_write 47 = .ok (.iload_n 2, 1) := by decide +kernel
theorem dX1_write_48 : decode cX1_write 48 = .ok (.iload_n 3, 1) := by decide +kernel
theorem dX1_write_49 : decode cX1_write 49 = .ok (.invokevirtual 264, 3) := by decide +kernel
theorem dX1_write_52 : decode cX1_write 52 = .ok (.iinc 3 1, 3) := by decide +kernel
theorem dX1_write_55 : decode cX1_write 55 = .ok (.goto (-33), 3) := by decide +kernel
theorem dX1_write_58 : decode cX1_write 58 = .ok (.aload_n 0, 1) := by decide +kernel
theorem dX1_write_59 : decode cX1_write 59 = .ok (.getfield 37, 3) := by decide +kernel
theorem dX1_write_62 : decode cX1_write 62 = .ok (.ireturn, 1) := by decide +kernel
theorem dX1_outputAt_0 : decode cX1_outputAt 0 = .ok (.iload_n 1, 1) := by decide +kernel
theorem dX1_outputAt_1 : decode cX1_outputAt 1 = .ok (.ifCond .lt 11, 3) := by decide +kernel
theorem dX1_outputAt_4 : decode cX1_outputAt 4 = .ok (.iload_n 1, 1) := by decide +kernel
theorem dX1_outputAt_5 : decode cX1_outputAt 5 = .ok (.aload_n 0, 1) := by decide +kernel
theorem dX1_outputAt_6 : decode cX1_outputAt 6 = .ok (.getfield 37, 3) := by decide +kernel
theorem dX1_outputAt_9 : decode cX1_outputAt 9 = .ok (.if_icmp .lt 14, 3) := by decide +kernel
theorem dX1_outputAt_12 : decode cX1_outputAt 12 = .ok (.new 153, 3) := by decide +kernel
theorem dX1_outputAt_15 : decode cX1_outputAt 15 = .ok (.dup, 1) := by decide +kernel
theorem dX1_outputAt_16 : decode cX1_outputAt 16 = .ok (.ldc_w 267, 3) := by decide +kernel
theorem dX1_outputAt_19 : decode cX1_outputAt 19 = .ok (.invokespecial 157, 3) := by decide +kernel
theorem dX1_outputAt_22 : decode cX1_outputAt 22 = .ok (.athrow, 1) := by decide +kernel
theorem dX1_outputAt_23 : decode cX1_outputAt 23 = .ok (.aload_n 0, 1) := by decide +kernel
theorem dX1_outputAt_24 : decode cX1_outputAt 24 = .ok (.getfield 34, 3) := by decide +kernel
theorem dX1_outputAt_27 : decode cX1_outputAt 27 = .ok (.iload_n 1, 1) := by decide +kernel
theorem dX1_outputAt_28 : decode cX1_outputAt 28 = .ok (.caload, 1) := by decide +kernel
theorem dX1_outputAt_29 : decode cX1_outputAt 29 = .ok (.ireturn, 1) := by decide +kernel
theorem dX1_storeFlags_0 : decode cX1_storeFlags 0 = .ok (.iload_n 1, 1) := by decide +kernel
theorem dX1_storeFlags_1 : decode cX1_storeFlags 1 = .ok (.invokestatic 269, 3) := by decide +kernel
theorem dX1_storeFlags_4 : decode cX1_storeFlags 4 = .ok (.aload_n 0, 1) := by decide +kernel
theorem dX1_storeFlags_5 : decode cX1_storeFlags 5 = .ok (.iload_n 3, 1) := by decide +kernel
theorem dX1_storeFlags_6 : decode cX1_storeFlags 6 = .ok (.invokevirtual 75, 3) := by decide +kernel
theorem dX1_storeFlags_9 : decode cX1_storeFlags 9 = .ok (.iload_n 2, 1) := by decide +kernel
theorem dX1_storeFlags_10 : decode cX1_storeFlags 10 = .ok (.ifCond .lt 9, 3) := by decide +kernel
theorem dX1_storeFlags_13 : decode cX1_storeFlags 13 = .ok (.iload_n 2, 1) := by decide +kernel
theorem dX1_storeFlags_14 : decode cX1_storeFlags 14 = .ok (.bipush 16, 2) := by decide +kernel
theorem dX1_storeFlags_16 : decode cX1_storeFlags 16 = .ok (.if_icmp .le 14, 3) := by decide +kernel
theorem dX1_storeFlags_19 : decode cX1_storeFlags 19 = .ok (.new 59, 3) := by decide +kernel
theorem dX1_storeFlags_22 : decode cX1_storeFlags 22 = .ok (.dup, 1) := by decide +kernel
theorem dX1_storeFlags_23 : decode cX1_storeFlags 23 = .ok (.ldc_w 272, 3) := by decide +kernel
theorem dX1_storeFlags_26 : decode cX1_storeFlags 26 = .ok (.invokespecial 63, 3) := by decide +kernel
theorem dX1_storeFlags_29 : decode cX1_storeFlags 29 = .ok (.athrow, 1) := by decide +kernel
theorem dX1_storeFlags_30 : decode cX1_storeFlags 30 = .ok (.aload_n 0, 1) := by decide +kernel
theorem dX1_storeFlags_31 : decode cX1_storeFlags 31 = .ok (.getfield 40, 3) := by decide +kernel
theorem dX1_storeFlags_34 : decode cX1_storeFlags 34 = .ok (.iload_n 1, 1) := by decide +kernel
theorem dX1_storeFlags_35 : decode cX1_storeFlags 35 = .ok (.iload_n 2, 1) := by decide +kernel
theorem dX1_storeFlags_36 : decode cX1_storeFlags 36 = .ok (.iastore, 1) := by decide +kernel
theorem dX1_storeFlags_37 : decode cX1_storeFlags 37 = .ok (.aload_n 0, 1) := by decide +kernel
theorem dX1_storeFlags_38 : decode cX1_storeFlags 38 = .ok (.getfield 44, 3) := by decide +kernel
theorem dX1_storeFlags_41 : decode cX1_storeFlags 41 = .ok (.iload_n 1, 1) := by decide +kernel
theorem dX1_storeFlags_42 : decode cX1_storeFlags 42 = .ok (.aload_n 0, 1) := by decide +kernel
theorem dX1_storeFlags_43 : decode cX1_storeFlags 43 = .ok (.getfield 10, 3) := by decide +kernel
theorem dX1_storeFlags_46 : decode cX1_storeFlags 46 = .ok (.getfield 82, 3) := by decide +kernel
theorem dX1_storeFlags_49 : decode cX1_storeFlags 49 = .ok (.iload_n 3, 1) := by decide +kernel
theorem dX1_storeFlags_50 : decode cX1_storeFlags 50 = .ok (.iaload, 1) := by decide +kernel
theorem dX1_storeFlags_51 : decode cX1_storeFlags 51 = .ok (.iconst 1, 1) := by decide +kernel
theorem dX1_storeFlags_52 : decode cX1_storeFlags 52 = .ok (.iload_n 2, 1) := by decide +kernel
theorem dX1_storeFlags_53 : decode cX1_storeFlags 53 = .ok (.ishl, 1) := by decide +kernel
theorem dX1_storeFlags_54 : decode cX1_storeFlags 54 = .ok (.iconst 1, 1) := by decide +kernel
theorem dX1_storeFlags_55 : decode cX1_storeFlags 55 = .ok (.isub, 1) := by decide +kernel
theorem dX1_storeFlags_56 : decode cX1_storeFlags 56 = .ok (.iand, 1) := by decide +kernel
theorem dX1_storeFlags_57 : decode cX1_storeFlags 57 = .ok (.iastore, 1) := by decide +kernel
theorem dX1_storeFlags_58 : decode cX1_storeFlags 58 = .ok (.aload_n 0, 1) := by decide +kernel
theorem dX1_storeFlags_59 : decode cX1_storeFlags 59 = .ok (.getfield 44, 3) := by decide +kernel
theorem dX1_storeFlags_62 : decode cX1_storeFlags 62 = .ok (.iload_n 1, 1) := by decide +kernel
theorem dX1_storeFlags_63 : decode cX1_storeFlags 63 = .ok (.iaload, 1) := by decide +kernel
theorem dX1_storeFlags_64 : decode cX1_storeFlags 64 = .ok (.invokestatic 89, 3) := by decide +kernel
theorem dX1_storeFlags_67 : decode cX1_storeFlags 67 = .ok (.ireturn, 1) := by decide +kernel
theorem dX1_setFlag_0 : decode cX1_setFlag 0 = .ok (.iload_n 1, 1) := by decide +kernel
theorem dX1_setFlag_1 : decode cX1_setFlag 1 = .ok (.invokestatic 269, 3) := by decide +kernel
theorem dX1_setFlag_4 : decode cX1_setFlag 4 = .ok (.aload_n 0, 1) := by decide +kernel
theorem dX1_setFlag_5 : decode cX1_setFlag 5 = .ok (.iload_n 1, 1) := by decide +kernel
theorem dX1_setFlag_6 : decode cX1_setFlag 6 = .ok (.invokevirtual 274, 3) := by decide +kernel
theorem dX1_setFlag_9 : decode cX1_setFlag 9 = .ok (.iload_n 2, 1) := by decide +kernel
theorem dX1_setFlag_10 : decode cX1_setFlag 10 = .ok (.ifCond .lt 13, 3) := by decide +kernel
theorem dX1_setFlag_13 : decode cX1_setFlag 13 = .ok (.iload_n 2, 1) := by decide +kernel
theorem dX1_setFlag_14 : decode cX1_setFlag 14 = .ok (.aload_n 0, 1) := by decide +kernel
theorem dX1_setFlag_15 : decode cX1_setFlag 15 = .ok (.getfield 40, 3) := by decide +kernel
theorem dX1_setFlag_18 : decode cX1_setFlag 18 = .ok (.iload_n 1, 1) := by decide +kernel
theorem dX1_setFlag_19 : decode cX1_setFlag 19 = .ok (.iaload, 1) := by decide +kernel
theorem dX1_setFlag_20 : decode cX1_setFlag 20 = .ok (.if_icmp .lt 14, 3) := by decide +kernel
theorem dX1_setFlag_23 : decode cX1_setFlag 23 = .ok (.new 153, 3) := by decide +kernel
theorem dX1_setFlag_26 : decode cX1_setFlag 26 = .ok (.dup, 1) := by decide +kernel
theorem dX1_setFlag_27 : decode cX1_setFlag 27 = .ok (.ldc_w 277, 3) := by decide +kernel
theorem dX1_setFlag_30 : decode cX1_setFlag 30 = .ok (.invokespecial 157, 3) := by decide +kernel
theorem dX1_setFlag_33 : decode cX1_setFlag 33 = .ok (.athrow, 1) := by decide +kernel
theorem dX1_setFlag_34 : decode cX1_setFlag 34 = .ok (.aload_n 0, 1) := by decide +kernel
theorem dX1_setFlag_35 : decode cX1_setFlag 35 = .ok (.getfield 44, 3) := by decide +kernel
theorem dX1_setFlag_38 : decode cX1_setFlag 38 = .ok (.iload_n 1, 1) := by decide +kernel
theorem dX1_setFlag_39 : decode cX1_setFlag 39 = .ok (.iaload, 1) := by decide +kernel
theorem dX1_setFlag_40 : decode cX1_setFlag 40 = .ok (.iload_n 2, 1) := by decide +kernel
theorem dX1_setFlag_41 : decode cX1_setFlag 41 = .ok (.invokestatic 85, 3) := by decide +kernel
theorem dX1_setFlag_44 : decode cX1_setFlag 44 = .ok (.istore 4, 2) := by decide +kernel
theorem dX1_setFlag_46 : decode cX1_setFlag 46 = .ok (.iload_n 3, 1) := by decide +kernel
theorem dX1_setFlag_47 : decode cX1_setFlag 47 = .ok (.ifCond .eq 18, 3) := by decide +kernel
theorem dX1_setFlag_50 : decode cX1_setFlag 50 = .ok (.aload_n 0, 1) := by decide +kernel
theorem dX1_setFlag_51 : decode cX1_setFlag 51 = .ok (.getfield 44, 3) := by decide +kernel
theorem dX1_setFlag_54 : decode cX1_setFlag 54 = .ok (.iload_n 1, 1) := by decide +kernel
theorem dX1_setFlag_55 : decode cX1_setFlag 55 = .ok (.dup2, 1) := by decide +kernel
theorem dX1_setFlag_56 : decode cX1_setFlag 56 = .ok (.iaload, 1) := by decide +kernel
theorem dX1_setFlag_57 : decode cX1_setFlag 57 = .ok (.iconst 1, 1) := by decide +kernel
theorem dX1_setFlag_58 : decode cX1_setFlag 58 = .ok (.iload_n 2, 1) := by decide +kernel
theorem dX1_setFlag_59 : decode cX1_setFlag 59 = .ok (.ishl, 1) := by decide +kernel
theorem dX1_setFlag_60 : decode cX1_setFlag 60 = .ok (.ior, 1) := by decide +kernel
theorem dX1_setFlag_61 : decode cX1_setFlag 61 = .ok (.iastore, 1) := by decide +kernel
theorem dX1_setFlag_62 : decode cX1_setFlag 62 = .ok (.goto 17, 3) := by decide +kernel
theorem dX1_setFlag_65 : decode cX1_setFlag 65 = .ok (.aload_n 0, 1) := by decide +kernel
theorem dX1_setFlag_66 : decode cX1_setFlag 66 = .ok (.getfield 44, 3) := by decide +kernel
theorem dX1_setFlag_69 : decode cX1_setFlag 69 = .ok (.iload_n 1, 1) := by decide +kernel
theorem dX1_setFlag_70 : decode cX1_setFlag 70 = .ok (.dup2, 1) := by decide +kernel
theorem dX1_setFlag_71 : decode cX1_setFlag 71 = .ok (.iaload, 1) := by decide +kernel
theorem dX1_setFlag_72 : decode cX1_setFlag 72 = .ok (.iconst 1, 1) := by decide +kernel
theorem dX1_setFlag_73 : decode cX1_setFlag 73 = .ok (.iload_n 2, 1) := by decide +kernel
theorem dX1_setFlag_74 : decode cX1_setFlag 74 = .ok (.ishl, 1) := by decide +kernel
theorem dX1_setFlag_75 : decode cX1_setFlag 75 = .ok (.iconst (-1), 1) := by decide +kernel
theorem dX1_setFlag_76 : decode cX1_setFlag 76 = .ok (.ixor, 1) := by decide +kernel
theorem dX1_setFlag_77 : decode cX1_setFlag 77 = .ok (.iand, 1) := by decide +kernel
theorem dX1_setFlag_78 : decode cX1_setFlag 78 = .ok (.iastore, 1) := by decide +kernel
theorem dX1_setFlag_79 : decode cX1_setFlag 79 = .ok (.iload 4, 2) := by decide +kernel
theorem dX1_setFlag_81 : decode cX1_setFlag 81 = .ok (.ireturn, 1) := by decide +kernel
theorem dX1_takeFlags_0 : decode cX1_takeFlags 0 = .ok (.iload_n 1, 1) := by decide +kernel
theorem dX1_takeFlags_1 : decode cX1_takeFlags 1 = .ok (.invokestatic 269, 3) := by decide +kernel
theorem dX1_takeFlags_4 : decode cX1_takeFlags 4 = .ok (.aload_n 0, 1) := by decide +kernel
theorem dX1_takeFlags_5 : decode cX1_takeFlags 5 = .ok (.iload_n 2, 1) := by decide +kernel
theorem dX1_takeFlags_6 : decode cX1_takeFlags 6 = .ok (.invokevirtual 75, 3) := by decide +kernel
theorem dX1_takeFlags_9 : decode cX1_takeFlags 9 = .ok (.aload_n 0, 1) := by decide +kernel
theorem dX1_takeFlags_10 : decode cX1_takeFlags 10 = .ok (.iload_n 1, 1) := by decide +kernel
theorem dX1_takeFlags_11 : decode cX1_takeFlags 11 = .ok (.invokevirtual 274, 3) := by decide +kernel
theorem dX1_takeFlags_14 : decode cX1_takeFlags 14 = .ok (.aload_n 0, 1) := by decide +kernel
theorem dX1_takeFlags_15 : decode cX1_takeFlags 15 = .ok (.getfield 10, 3) := by decide +kernel
theorem dX1_takeFlags_18 : decode cX1_takeFlags 18 = .ok (.getfield 82, 3) := by decide +kernel
theorem dX1_takeFlags_21 : decode cX1_takeFlags 21 = .ok (.iload_n 2, 1) := by decide +kernel
theorem dX1_takeFlags_22 : decode cX1_takeFlags 22 = .ok (.aload_n 0, 1) := by decide +kernel
theorem dX1_takeFlags_23 : decode cX1_takeFlags 23 = .ok (.getfield 44, 3) := by decide +kernel
theorem dX1_takeFlags_26 : decode cX1_takeFlags 26 = .ok (.iload_n 1, 1) := by decide +kernel
theorem dX1_takeFlags_27 : decode cX1_takeFlags 27 = .ok (.iaload, 1) := by decide +kernel
theorem dX1_takeFlags_28 : decode cX1_takeFlags 28 = .ok (.aload_n 0, 1) := by decide +kernel
theorem dX1_takeFlags_29 : decode cX1_takeFlags 29 = .ok (.getfield 10, 3) := by decide +kernel
theorem dX1_takeFlags_32 : decode cX1_takeFlags 32 = .ok (.getfield 94, 3) := by decide +kernel
theorem dX1_takeFlags_35 : decode cX1_takeFlags 35 = .ok (.iload_n 2, 1) := by decide +kernel
theorem dX1_takeFlags_36 : decode cX1_takeFlags 36 = .ok (.iaload, 1) := by decide +kernel
theorem dX1_takeFlags_37 : decode cX1_takeFlags 37 = .ok (.invokestatic 66, 3) := by decide +kernel
theorem dX1_takeFlags_40 : decode cX1_takeFlags 40 = .ok (.iand, 1) := by decide +kernel
theorem dX1_takeFlags_41 : decode cX1_takeFlags 41 = .ok (.iastore, 1) := by decide +kernel
theorem dX1_takeFlags_42 : decode cX1_takeFlags 42 = .ok (.aload_n 0, 1) := by decide +kernel
theorem dX1_takeFlags_43 : decode cX1_takeFlags 43 = .ok (.getfield 10, 3) := by decide +kernel
theorem dX1_takeFlags_46 : decode cX1_takeFlags 46 = .ok (.getfield 82, 3) := by decide +kernel
theorem dX1_takeFlags_49 : decode cX1_takeFlags 49 = .ok (.iload_n 2, 1) := by decide +kernel
theorem dX1_takeFlags_50 : decode cX1_takeFlags 50 = .ok (.iaload, 1) := by decide +kernel
theorem dX1_takeFlags_51 : decode cX1_takeFlags 51 = .ok (.invokestatic 89, 3) := by decide +kernel
theorem dX1_takeFlags_54 : decode cX1_takeFlags 54 = .ok (.ireturn, 1) := by decide +kernel
theorem dX1_saveSnapshot_0 : decode cX1_saveSnapshot 0 = .ok (.aload_n 0, 1) := by decide +kernel
theorem dX1_saveSnapshot_1 : decode cX1_saveSnapshot 1 = .ok (.getfield 16, 3) := by decide +kernel
theorem dX1_saveSnapshot_4 : decode cX1_saveSnapshot 4 = .ok (.aload_n 0, 1) := by decide +kernel
theorem dX1_saveSnapshot_5 : decode cX1_saveSnapshot 5 = .ok (.getfield 10, 3) := by decide +kernel
theorem dX1_saveSnapshot_8 : decode cX1_saveSnapshot 8 = .ok (.invokevirtual 279, 3) := by decide +kernel
theorem dX1_saveSnapshot_11 : decode cX1_saveSnapshot 11 = .ok (.aload_n 0, 1) := by decide +kernel
theorem dX1_saveSnapshot_12 : decode cX1_saveSnapshot 12 = .ok (.iconst 1, 1) := by decide +kernel
theorem dX1_saveSnapshot_13 : decode cX1_saveSnapshot 13 = .ok (.putfield 19, 3) := by decide +kernel
theorem dX1_saveSnapshot_16 : decode cX1_saveSnapshot 16 = .ok (.aload_n 0, 1) := by decide +kernel
theorem dX1_saveSnapshot_17 : decode cX1_saveSnapshot 17 = .ok (.getfield 16, 3) := by decide +kernel
theorem dX1_saveSnapshot_20 : decode cX1_saveSnapshot 20 = .ok (.getfield 97, 3) := by decide +kernel
theorem dX1_saveSnapshot_23 : decode cX1_saveSnapshot 23 = .ok (.ireturn, 1) := by decide +kernel
theorem dX1_restoreSnapshot_0 : decode cX1_restoreSnapshot 0 = .ok (.aload_n 0, 1) := by decide +kernel
theorem dX1_restoreSnapshot_1 : decode cX1_restoreSnapshot 1 = .ok (.getfield 19, 3) := by decide +kernel
theorem dX1_restoreSnapshot_4 : decode cX1_restoreSnapshot 4 = .ok (.ifCond .ne 14, 3) := by decide +kernel
theorem dX1_restoreSnapshot_7 : decode cX1_restoreSnapshot 7 = .ok (.new 184, 3) := by decide +kernel
theorem dX1_restoreSnapshot_10 : decode cX1_restoreSnapshot 10 = .ok (.dup, 1) := by decide +kernel
theorem dX1_restoreSnapshot_11 : decode cX1_restoreSnapshot 11 = .ok (.ldc_w 283, 3) := by decide +kernel
theorem dX1_restoreSnapshot_14 : decode cX1_restoreSnapshot 14 = .ok (.invokespecial 188, 3) := by decide +kernel
theorem dX1_restoreSnapshot_17 : decode cX1_restoreSnapshot 17 = .ok (.athrow, 1) := by decide +kernel
theorem dX1_restoreSnapshot_18 : decode cX1_restoreSnapshot 18 = .ok (.aload_n 0, 1) := by decide +kernel
theorem dX1_restoreSnapshot_19 : decode cX1_restoreSnapshot 19 = .ok (.getfield 10, 3) := by decide +kernel
theorem dX1_restoreSnapshot_22 : decode cX1_restoreSnapshot 22 = .ok (.aload_n 0, 1) := by decide +kernel
theorem dX1_restoreSnapshot_23 : decode cX1_restoreSnapshot 23 = .ok (.getfield 16, 3) := by decide +kernel
theorem dX1_restoreSnapshot_26 : decode cX1_restoreSnapshot 26 = .ok (.invokevirtual 279, 3) := by decide +kernel
theorem dX1_restoreSnapshot_29 : decode cX1_restoreSnapshot 29 = .ok (.aload_n 0, 1) := by decide +kernel
theorem dX1_restoreSnapshot_30 : decode cX1_restoreSnapshot 30 = .ok (.getfield 10, 3) := by decide +kernel
theorem dX1_restoreSnapshot_33 : decode cX1_restoreSnapshot 33 = .ok (.getfield 97, 3) := by decide +kernel
theorem dX1_restoreSnapshot_36 : decode cX1_restoreSnapshot 36 = .ok (.ireturn, 1) := by decide +kernel
theorem dX1_requireRelationArity_0 : decode cX1_requireRelationArity 0 = .ok (.iload_n 0, 1) := by decide +kernel
theorem dX1_requireRelationArity_1 : decode cX1_requireRelationArity 1 = .ok (.iconst 1, 1) := by decide +kernel
theorem dX1_requireRelationArity_2 : decode cX1_requireRelationArity 2 = .ok (.if_icmp .lt 8, 3) := by decide +kernel
theorem dX1_requireRelationArity_5 : decode cX1_requireRelationArity 5 = .ok (.iload_n 0, 1) := by decide +kernel
theorem dX1_requireRelationArity_6 : decode cX1_requireRelationArity 6 = .ok (.iconst 4, 1) := by decide +kernel
theorem dX1_requireRelationArity_7 : decode cX1_requireRelationArity 7 = .ok (.if_icmp .le 14, 3) := by decide +kernel
theorem dX1_requireRelationArity_10 : decode cX1_requireRelationArity 10 = .ok (.new 59, 3) := by decide +kernel
theorem dX1_requireRelationArity_13 : decode cX1_requireRelationArity 13 = .ok (.dup, 1) := by decide +kernel
theorem dX1_requireRelationArity_14 : decode cX1_requireRelationArity 14 = .ok (.ldc_w 285, 3) := by decide +kernel
theorem dX1_requireRelationArity_17 : decode cX1_requireRelationArity 17 = .ok (.invokespecial 63, 3) := by decide +kernel
theorem dX1_requireRelationArity_20 : decode cX1_requireRelationArity 20 = .ok (.athrow, 1) := by decide +kernel
theorem dX1_requireRelationArity_21 : decode cX1_requireRelationArity 21 = .ok (.return_, 1) := by decide +kernel
theorem dX1_requireOperationArity_0 : decode cX1_requireOperationArity 0 = .ok (.iload_n 0, 1) := by decide +kernel
theorem dX1_requireOperationArity_1 : decode cX1_requireOperationArity 1 = .ok (.iconst 1, 1) := by decide +kernel
theorem dX1_requireOperationArity_2 : decode cX1_requireOperationArity 2 = .ok (.if_icmp .lt 8, 3) := by decide +kernel
theorem dX1_requireOperationArity_5 : decode cX1_requireOperationArity 5 = .ok (.iload_n 0, 1) := by decide +kernel
theorem dX1_requireOperationArity_6 : decode cX1_requireOperationArity 6 = .ok (.iconst 3, 1) := by decide +kernel
theorem dX1_requireOperationArity_7 : decode cX1_requireOperationArity 7 = .ok (.if_icmp .le 14, 3) := by decide +kernel
theorem dX1_requireOperationArity_10 : decode cX1_requireOperationArity 10 = .ok (.new 59, 3) := by decide +kernel
theorem dX1_requireOperationArity_13 : decode cX1_requireOperationArity 13 = .ok (.dup, 1) := by decide +kernel
theorem dX1_requireOperationArity_14 : decode cX1_requireOperationArity 14 = .ok (.ldc_w 285, 3) := by decide +kernel
theorem dX1_requireOperationArity_17 : decode cX1_requireOperationArity 17 = .ok (.invokespecial 63, 3) := by decide +kernel
theorem dX1_requireOperationArity_20 : decode cX1_requireOperationArity 20 = .ok (.athrow, 1) := by decide +kernel
theorem dX1_requireOperationArity_21 : decode cX1_requireOperationArity 21 = .ok (.return_, 1) := by decide +kernel
theorem dX1_requireOperation_0 : decode cX1_requireOperation 0 = .ok (.iload_n 0, 1) := by decide +kernel
theorem dX1_requireOperation_1 : decode cX1_requireOperation 1 = .ok (.invokestatic 130, 3) := by decide +kernel
theorem dX1_requireOperation_4 : decode cX1_requireOperation 4 = .ok (.iload_n 1, 1) := by decide +kernel
theorem dX1_requireOperation_5 : decode cX1_requireOperation 5 = .ok (.ifCond .lt 11, 3) := by decide +kernel
theorem dX1_requireOperation_8 : decode cX1_requireOperation 8 = .ok (.iload_n 1, 1) := by decide +kernel
theorem dX1_requireOperation_9 : decode cX1_requireOperation 9 = .ok (.iload_n 0, 1) := by decide +kernel
theorem dX1_requireOperation_10 : decode cX1_requireOperation 10 = .ok (.invokestatic 66, 3) := by decide +kernel
theorem dX1_requireOperation_13 : decode cX1_requireOperation 13 = .ok (.if_icmp .le 14, 3) := by decide +kernel
theorem dX1_requireOperation_16 : decode cX1_requireOperation 16 = .ok (.new 59, 3) := by decide +kernel
theorem dX1_requireOperation_19 : decode cX1_requireOperation 19 = .ok (.dup, 1) := by decide +kernel
theorem dX1_requireOperation_20 : decode cX1_requireOperation 20 = .ok (.ldc_w 287, 3) := by decide +kernel
theorem dX1_requireOperation_23 : decode cX1_requireOperation 23 = .ok (.invokespecial 63, 3) := by decide +kernel
theorem dX1_requireOperation_26 : decode cX1_requireOperation 26 = .ok (.athrow, 1) := by decide +kernel
theorem dX1_requireOperation_27 : decode cX1_requireOperation 27 = .ok (.return_, 1) := by decide +kernel
theorem dX1_requireBit_0 : decode cX1_requireBit 0 = .ok (.iload_n 0, 1) := by decide +kernel
theorem dX1_requireBit_1 : decode cX1_requireBit 1 = .ok (.ifCond .eq 19, 3) := by decide +kernel
theorem dX1_requireBit_4 : decode cX1_requireBit 4 = .ok (.iload_n 0, 1) := by decide +kernel
theorem dX1_requireBit_5 : decode cX1_requireBit 5 = .ok (.iconst 1, 1) := by decide +kernel
theorem dX1_requireBit_6 : decode cX1_requireBit 6 = .ok (.if_icmp .eq 14, 3) := by decide +kernel
theorem dX1_requireBit_9 : decode cX1_requireBit 9 = .ok (.new 59, 3) := by decide +kernel
theorem dX1_requireBit_12 : decode cX1_requireBit 12 = .ok (.dup, 1) := by decide +kernel
theorem dX1_requireBit_13 : decode cX1_requireBit 13 = .ok (.ldc_w 289, 3) := by decide +kernel
theorem dX1_requireBit_16 : decode cX1_requireBit 16 = .ok (.invokespecial 63, 3) := by decide +kernel
theorem dX1_requireBit_19 : decode cX1_requireBit 19 = .ok (.athrow, 1) := by decide +kernel
theorem dX1_requireBit_20 : decode cX1_requireBit 20 = .ok (.return_, 1) := by decide +kernel
theorem dX1_requireKind_0 : decode cX1_requireKind 0 = .ok (.iload_n 0, 1) := by decide +kernel
theorem dX1_requireKind_1 : decode cX1_requireKind 1 = .ok (.ifCond .lt 9, 3) := by decide +kernel
theorem dX1_requireKind_4 : decode cX1_requireKind 4 = .ok (.iload_n 0, 1) := by decide +kernel
theorem dX1_requireKind_5 : decode cX1_requireKind 5 = .ok (.bipush 6, 2) := by decide +kernel
theorem dX1_requireKind_7 : decode cX1_requireKind 7 = .ok (.if_icmp .lt 14, 3) := by decide +kernel
theorem dX1_requireKind_10 : decode cX1_requireKind 10 = .ok (.new 59, 3) := by decide +kernel
theorem dX1_requireKind_13 : decode cX1_requireKind 13 = .ok (.dup, 1) := by decide +kernel
theorem dX1_requireKind_14 : decode cX1_requireKind 14 = .ok (.ldc_w 291, 3) := by decide +kernel
theorem dX1_requireKind_17 : decode cX1_requireKind 17 = .ok (.invokespecial 63, 3) := by decide +kernel
theorem dX1_requireKind_20 : decode cX1_requireKind 20 = .ok (.athrow, 1) := by decide +kernel
theorem dX1_requireKind_21 : decode cX1_requireKind 21 = .ok (.return_, 1) := by decide +kernel
theorem dX1_requireSlot_0 : decode cX1_requireSlot 0 = .ok (.iload_n 0, 1) := by decide +kernel
theorem dX1_requireSlot_1 : decode cX1_requireSlot 1 = .ok (.ifCond .lt 8, 3) := by decide +kernel
theorem dX1_requireSlot_4 : decode cX1_requireSlot 4 = .ok (.iload_n 0, 1) := by decide +kernel
theorem dX1_requireSlot_5 : decode cX1_requireSlot 5 = .ok (.iconst 3, 1) := by decide +kernel
theorem dX1_requireSlot_6 : decode cX1_requireSlot 6 = .ok (.if_icmp .lt 14, 3) := by decide +kernel
theorem dX1_requireSlot_9 : decode cX1_requireSlot 9 = .ok (.new 153, 3) := by decide +kernel
theorem dX1_requireSlot_12 : decode cX1_requireSlot 12 = .ok (.dup, 1) := by decide +kernel
theorem dX1_requireSlot_13 : decode cX1_requireSlot 13 = .ok (.ldc_w 293, 3) := by decide +kernel
theorem dX1_requireSlot_16 : decode cX1_requireSlot 16 = .ok (.invokespecial 157, 3) := by decide +kernel
theorem dX1_requireSlot_19 : decode cX1_requireSlot 19 = .ok (.athrow, 1) := by decide +kernel
theorem dX1_requireSlot_20 : decode cX1_requireSlot 20 = .ok (.return_, 1) := by decide +kernel
theorem dX1_requireFlags_0 : decode cX1_requireFlags 0 = .ok (.aload_n 0, 1) := by decide +kernel
theorem dX1_requireFlags_1 : decode cX1_requireFlags 1 = .ok (.getfield 40, 3) := by decide +kernel
theorem dX1_requireFlags_4 : decode cX1_requireFlags 4 = .ok (.iload_n 1, 1) := by decide +kernel
theorem dX1_requireFlags_5 : decode cX1_requireFlags 5 = .ok (.iaload, 1) := by decide +kernel
theorem dX1_requireFlags_6 : decode cX1_requireFlags 6 = .ok (.iconst (-1), 1) := by decide +kernel
theorem dX1_requireFlags_7 : decode cX1_requireFlags 7 = .ok (.if_icmp .ne 14, 3) := by decide +kernel
theorem dX1_requireFlags_10 : decode cX1_requireFlags 10 = .ok (.new 184, 3) := by decide +kernel
theorem dX1_requireFlags_13 : decode cX1_requireFlags 13 = .ok (.dup, 1) := by decide +kernel
theorem dX1_requireFlags_14 : decode cX1_requireFlags 14 = .ok (.ldc_w 295, 3) := by decide +kernel
theorem dX1_requireFlags_17 : decode cX1_requireFlags 17 = .ok (.invokespecial 188, 3) := by decide +kernel
theorem dX1_requireFlags_20 : decode cX1_requireFlags 20 = .ok (.athrow, 1) := by decide +kernel
theorem dX1_requireFlags_21 : decode cX1_requireFlags 21 = .ok (.return_, 1) := by decide +kernel
theorem dX1_requireRelation_0 : decode cX1_requireRelation 0 = .ok (.iload_n 1, 1) := by decide +kernel
theorem dX1_requireRelation_1 : decode cX1_requireRelation 1 = .ok (.ifCond .lt 14, 3) := by decide +kernel
theorem dX1_requireRelation_4 : decode cX1_requireRelation 4 = .ok (.iload_n 1, 1) := by decide +kernel
theorem dX1_requireRelation_5 : decode cX1_requireRelation 5 = .ok (.aload_n 0, 1) := by decide +kernel
theorem dX1_requireRelation_6 : decode cX1_requireRelation 6 = .ok (.getfield 10, 3) := by decide +kernel
theorem dX1_requireRelation_9 : decode cX1_requireRelation 9 = .ok (.getfield 97, 3) := by decide +kernel
theorem dX1_requireRelation_12 : decode cX1_requireRelation 12 = .ok (.if_icmp .lt 14, 3) := by decide +kernel
theorem dX1_requireRelation_15 : decode cX1_requireRelation 15 = .ok (.new 153, 3) := by decide +kernel
theorem dX1_requireRelation_18 : decode cX1_requireRelation 18 = .ok (.dup, 1) := by decide +kernel
theorem dX1_requireRelation_19 : decode cX1_requireRelation 19 = .ok (.ldc_w 297, 3) := by decide +kernel
theorem dX1_requireRelation_22 : decode cX1_requireRelation 22 = .ok (.invokespecial 157, 3) := by decide +kernel
theorem dX1_requireRelation_25 : decode cX1_requireRelation 25 = .ok (.athrow, 1) := by decide +kernel
theorem dX1_requireRelation_26 : decode cX1_requireRelation 26 = .ok (.return_, 1) := by decide +kernel
theorem dX1_requireTuple_0 : decode cX1_requireTuple 0 = .ok (.iload_n 2, 1) := by decide +kernel
theorem dX1_requireTuple_1 : decode cX1_requireTuple 1 = .ok (.ifCond .lt 19, 3) := by decide +kernel
theorem dX1_requireTuple_4 : decode cX1_requireTuple 4 = .ok (.iload_n 2, 1) := by decide +kernel
theorem dX1_requireTuple_5 : decode cX1_requireTuple 5 = .ok (.aload_n 0, 1) := by decide +kernel
theorem dX1_requireTuple_6 : decode cX1_requireTuple 6 = .ok (.getfield 10, 3) := by decide +kernel
theorem dX1_requireTuple_9 : decode cX1_requireTuple 9 = .ok (.getfield 94, 3) := by decide +kernel
theorem dX1_requireTuple_12 : decode cX1_requireTuple 12 = .ok (.iload_n 1, 1) := by decide +kernel
theorem dX1_requireTuple_13 : decode cX1_requireTuple 13 = .ok (.iaload, 1) := by decide +kernel
theorem dX1_requireTuple_14 : decode cX1_requireTuple 14 = .ok (.invokestatic 55, 3) := by decide +kernel
theorem dX1_requireTuple_17 : decode cX1_requireTuple 17 = .ok (.if_icmp .le 14, 3) := by decide +kernel
theorem dX1_requireTuple_20 : decode cX1_requireTuple 20 = .ok (.new 59, 3) := by decide +kernel
theorem dX1_requireTuple_23 : decode cX1_requireTuple 23 = .ok (.dup, 1) := by decide +kernel
theorem dX1_requireTuple_24 : decode cX1_requireTuple 24 = .ok (.ldc_w 299, 3) := by decide +kernel
theorem dX1_requireTuple_27 : decode cX1_requireTuple 27 = .ok (.invokespecial 63, 3) := by decide +kernel
theorem dX1_requireTuple_30 : decode cX1_requireTuple 30 = .ok (.athrow, 1) := by decide +kernel
theorem dX1_requireTuple_31 : decode cX1_requireTuple 31 = .ok (.return_, 1) := by decide +kernel
theorem dX1_requirePosition_0 : decode cX1_requirePosition 0 = .ok (.iload_n 2, 1) := by decide +kernel
theorem dX1_requirePosition_1 : decode cX1_requirePosition 1 = .ok (.ifCond .lt 16, 3) := by decide +kernel
theorem dX1_requirePosition_4 : decode cX1_requirePosition 4 = .ok (.iload_n 2, 1) := by decide +kernel
theorem dX1_requirePosition_5 : decode cX1_requirePosition 5 = .ok (.aload_n 0, 1) := by decide +kernel
theorem dX1_requirePosition_6 : decode cX1_requirePosition 6 = .ok (.getfield 10, 3) := by decide +kernel
theorem dX1_requirePosition_9 : decode cX1_requirePosition 9 = .ok (.getfield 94, 3) := by decide +kernel
theorem dX1_requirePosition_12 : decode cX1_requirePosition 12 = .ok (.iload_n 1, 1) := by decide +kernel
theorem dX1_requirePosition_13 : decode cX1_requirePosition 13 = .ok (.iaload, 1) := by decide +kernel
theorem dX1_requirePosition_14 : decode cX1_requirePosition 14 = .ok (.if_icmp .lt 14, 3) := by decide +kernel
theorem dX1_requirePosition_17 : decode cX1_requirePosition 17 = .ok (.new 153, 3) := by decide +kernel
theorem dX1_requirePosition_20 : decode cX1_requirePosition 20 = .ok (.dup, 1) := by decide +kernel
theorem dX1_requirePosition_21 : decode cX1_requirePosition 21 = .ok (.ldc_w 301, 3) := by decide +kernel
theorem dX1_requirePosition_24 : decode cX1_requirePosition 24 = .ok (.invokespecial 157, 3) := by decide +kernel
theorem dX1_requirePosition_27 : decode cX1_requirePosition 27 = .ok (.athrow, 1) := by decide +kernel
theorem dX1_requirePosition_28 : decode cX1_requirePosition 28 = .ok (.return_, 1) := by decide +kernel
theorem dX1_requireRoomForRelation_0 : decode cX1_requireRoomForRelation 0 = .ok (.aload_n 0, 1) := by decide +kernel
theorem dX1_requireRoomForRelation_1 : decode cX1_requireRoomForRelation 1 = .ok (.getfield 10, 3) := by decide +kernel
theorem dX1_requireRoomForRelation_4 : decode cX1_requireRoomForRelation 4 = .ok (.getfield 97, 3) := by decide +kernel
theorem dX1_requireRoomForRelation_7 : decode cX1_requireRoomForRelation 7 = .ok (.bipush 8, 2) := by decide +kernel
theorem dX1_requireRoomForRelation_9 : decode cX1_requireRoomForRelation 9 = .ok (.if_icmp .lt 14, 3) := by decide +kernel
theorem dX1_requireRoomForRelation_12 : decode cX1_requireRoomForRelation 12 = .ok (.new 184, 3) := by decide +kernel
theorem dX1_requireRoomForRelation_15 : decode cX1_requireRoomForRelation 15 = .ok (.dup, 1) := by decide +kernel
theorem dX1_requireRoomForRelation_16 : decode cX1_requireRoomForRelation 16 = .ok (.ldc_w 303, 3) := by decide +kernel
theorem dX1_requireRoomForRelation_19 : decode cX1_requireRoomForRelation 19 = .ok (.invokespecial 188, 3) := by decide +kernel
theorem dX1_requireRoomForRelation_22 : decode cX1_requireRoomForRelation 22 = .ok (.athrow, 1) := by decide +kernel
theorem dX1_requireRoomForRelation_23 : decode cX1_requireRoomForRelation 23 = .ok (.return_, 1) := by decide +kernel
theorem dX1_requireVariable_0 : decode cX1_requireVariable 0 = .ok (.iload_n 1, 1) := by decide +kernel
theorem dX1_requireVariable_1 : decode cX1_requireVariable 1 = .ok (.ifCond .lt 14, 3) := by decide +kernel
theorem dX1_requireVariable_4 : decode cX1_requireVariable 4 = .ok (.iload_n 1, 1) := by decide +kernel
theorem dX1_requireVariable_5 : decode cX1_requireVariable 5 = .ok (.aload_n 0, 1) := by decide +kernel
theorem dX1_requireVariable_6 : decode cX1_requireVariable 6 = .ok (.getfield 10, 3) := by decide +kernel
theorem dX1_requireVariable_9 : decode cX1_requireVariable 9 = .ok (.getfield 177, 3) := by decide +kernel
theorem dX1_requireVariable_12 : decode cX1_requireVariable 12 = .ok (.if_icmp .lt 14, 3) := by decide +kernel
theorem dX1_requireVariable_15 : decode cX1_requireVariable 15 = .ok (.new 153, 3) := by decide +kernel
theorem dX1_requireVariable_18 : decode cX1_requireVariable 18 = .ok (.dup, 1) := by decide +kernel
theorem dX1_requireVariable_19 : decode cX1_requireVariable 19 = .ok (.ldc_w 305, 3) := by decide +kernel
theorem dX1_requireVariable_22 : decode cX1_requireVariable 22 = .ok (.invokespecial 157, 3) := by decide +kernel
theorem dX1_requireVariable_25 : decode cX1_requireVariable 25 = .ok (.athrow, 1) := by decide +kernel
theorem dX1_requireVariable_26 : decode cX1_requireVariable 26 = .ok (.return_, 1) := by decide +kernel
theorem dX1_requireVariables_0 : decode cX1_requireVariables 0 = .ok (.aload_n 0, 1) := by decide +kernel
theorem dX1_requireVariables_1 : decode cX1_requireVariables 1 = .ok (.iload_n 2, 1) := by decide +kernel
theorem dX1_requireVariables_2 : decode cX1_requireVariables 2 = .ok (.invokevirtual 210, 3) := by decide +kernel
theorem dX1_requireVariables_5 : decode cX1_requireVariables 5 = .ok (.iload_n 1, 1) := by decide +kernel
theorem dX1_requireVariables_6 : decode cX1_requireVariables 6 = .ok (.iconst 1, 1) := by decide +kernel
theorem dX1_requireVariables_7 : decode cX1_requireVariables 7 = .ok (.if_icmp .le 8, 3) := by decide +kernel
theorem dX1_requireVariables_10 : decode cX1_requireVariables 10 = .ok (.aload_n 0, 1) := by decide +kernel
theorem dX1_requireVariables_11 : decode cX1_requireVariables 11 = .ok (.iload_n 3, 1) := by decide +kernel
theorem dX1_requireVariables_12 : decode cX1_requireVariables 12 = .ok (.invokevirtual 210, 3) := by decide +kernel
theorem dX1_requireVariables_15 : decode cX1_requireVariables 15 = .ok (.iload_n 1, 1) := by decide +kernel
theorem dX1_requireVariables_16 : decode cX1_requireVariables 16 = .ok (.iconst 2, 1) := by decide +kernel
theorem dX1_requireVariables_17 : decode cX1_requireVariables 17 = .ok (.if_icmp .le 9, 3) := by decide +kernel
theorem dX1_requireVariables_20 : decode cX1_requireVariables 20 = .ok (.aload_n 0, 1) := by decide +kernel
theorem dX1_requireVariables_21 : decode cX1_requireVariables 21 = .ok (.iload 4, 2) := by decide +kernel
theorem dX1_requireVariables_23 : decode cX1_requireVariables 23 = .ok (.invokevirtual 210, 3) := by decide +kernel
theorem dX1_requireVariables_26 : decode cX1_requireVariables 26 = .ok (.iload_n 1, 1) := by decide +kernel
theorem dX1_requireVariables_27 : decode cX1_requireVariables 27 = .ok (.iconst 3, 1) := by decide +kernel
theorem dX1_requireVariables_28 : decode cX1_requireVariables 28 = .ok (.if_icmp .le 9, 3) := by decide +kernel
theorem dX1_requireVariables_31 : decode cX1_requireVariables 31 = .ok (.aload_n 0, 1) := by decide +kernel
theorem dX1_requireVariables_32 : decode cX1_requireVariables 32 = .ok (.iload 5, 2) := by decide +kernel
theorem dX1_requireVariables_34 : decode cX1_requireVariables 34 = .ok (.invokevirtual 210, 3) := by decide +kernel
theorem dX1_requireVariables_37 : decode cX1_requireVariables 37 = .ok (.return_, 1) := by decide +kernel
theorem dX1_requireKindOfLanguage_0 : decode cX1_requireKindOfLanguage 0 = .ok (.aload_n 0, 1) := by decide +kernel
theorem dX1_requireKindOfLanguage_1 : decode cX1_requireKindOfLanguage 1 = .ok (.iload_n 1, 1) := by decide +kernel
theorem dX1_requireKindOfLanguage_2 : decode cX1_requireKindOfLanguage 2 = .ok (.invokevirtual 169, 3) := by decide +kernel
theorem dX1_requireKindOfLanguage_5 : decode cX1_requireKindOfLanguage 5 = .ok (.ifCond .ne 14, 3) := by decide +kernel
theorem dX1_requireKindOfLanguage_8 : decode cX1_requireKindOfLanguage 8 = .ok (.new 307, 3) := by decide +kernel
theorem dX1_requireKindOfLanguage_11 : decode cX1_requireKindOfLanguage 11 = .ok (.dup, 1) := by decide +kernel
theorem dX1_requireKindOfLanguage_12 : decode cX1_requireKindOfLanguage 12 = .ok (.ldc_w 309, 3) := by decide +kernel
theorem dX1_requireKindOfLanguage_15 : decode cX1_requireKindOfLanguage 15 = .ok (.invokespecial 311, 3) := by decide +kernel
theorem dX1_requireKindOfLanguage_18 : decode cX1_requireKindOfLanguage 18 = .ok (.athrow, 1) := by decide +kernel
theorem dX1_requireKindOfLanguage_19 : decode cX1_requireKindOfLanguage 19 = .ok (.return_, 1) := by decide +kernel
theorem dX1_requireSolutions_0 : decode cX1_requireSolutions 0 = .ok (.aload_n 0, 1) := by decide +kernel
theorem dX1_requireSolutions_1 : decode cX1_requireSolutions 1 = .ok (.getfield 10, 3) := by decide +kernel
theorem dX1_requireSolutions_4 : decode cX1_requireSolutions 4 = .ok (.invokevirtual 201, 3) := by decide +kernel
theorem dX1_requireSolutions_7 : decode cX1_requireSolutions 7 = .ok (.ifCond .ne 14, 3) := by decide +kernel
theorem dX1_requireSolutions_10 : decode cX1_requireSolutions 10 = .ok (.new 133, 3) := by decide +kernel
theorem dX1_requireSolutions_13 : decode cX1_requireSolutions 13 = .ok (.dup, 1) := by decide +kernel
theorem dX1_requireSolutions_14 : decode cX1_requireSolutions 14 = .ok (.ldc_w 312, 3) := by decide +kernel
theorem dX1_requireSolutions_17 : decode cX1_requireSolutions 17 = .ok (.invokespecial 137, 3) := by decide +kernel
theorem dX1_requireSolutions_20 : decode cX1_requireSolutions 20 = .ok (.athrow, 1) := by decide +kernel
theorem dX1_requireSolutions_21 : decode cX1_requireSolutions 21 = .ok (.return_, 1) := by decide +kernel
theorem dX1_addNew_0 : decode cX1_addNew 0 = .ok (.aload_n 0, 1) := by decide +kernel
theorem dX1_addNew_1 : decode cX1_addNew 1 = .ok (.invokevirtual 314, 3) := by decide +kernel
theorem dX1_addNew_4 : decode cX1_addNew 4 = .ok (.aload_n 0, 1) := by decide +kernel
theorem dX1_addNew_5 : decode cX1_addNew 5 = .ok (.getfield 10, 3) := by decide +kernel
theorem dX1_addNew_8 : decode cX1_addNew 8 = .ok (.getfield 97, 3) := by decide +kernel
theorem dX1_addNew_11 : decode cX1_addNew 11 = .ok (.istore_n 3, 1) := by decide +kernel
theorem dX1_addNew_12 : decode cX1_addNew 12 = .ok (.aload_n 0, 1) := by decide +kernel
theorem dX1_addNew_13 : decode cX1_addNew 13 = .ok (.getfield 10, 3) := by decide +kernel
theorem dX1_addNew_16 : decode cX1_addNew 16 = .ok (.getfield 94, 3) := by decide +kernel
theorem dX1_addNew_19 : decode cX1_addNew 19 = .ok (.iload_n 3, 1) := by decide +kernel
theorem dX1_addNew_20 : decode cX1_addNew 20 = .ok (.iload_n 1, 1) := by decide +kernel
theorem dX1_addNew_21 : decode cX1_addNew 21 = .ok (.iastore, 1) := by decide +kernel
theorem dX1_addNew_22 : decode cX1_addNew 22 = .ok (.aload_n 0, 1) := by decide +kernel
theorem dX1_addNew_23 : decode cX1_addNew 23 = .ok (.getfield 10, 3) := by decide +kernel
theorem dX1_addNew_26 : decode cX1_addNew 26 = .ok (.getfield 82, 3) := by decide +kernel
theorem dX1_addNew_29 : decode cX1_addNew 29 = .ok (.iload_n 3, 1) := by decide +kernel
theorem dX1_addNew_30 : decode cX1_addNew 30 = .ok (.iload_n 2, 1) := by decide +kernel
theorem dX1_addNew_31 : decode cX1_addNew 31 = .ok (.iastore, 1) := by decide +kernel
theorem dX1_addNew_32 : decode cX1_addNew 32 = .ok (.aload_n 0, 1) := by decide +kernel
theorem dX1_addNew_33 : decode cX1_addNew 33 = .ok (.getfield 10, 3) := by decide +kernel
theorem dX1_addNew_36 : decode cX1_addNew 36 = .ok (.dup, 1) := by decide +kernel
theorem dX1_addNew_37 : decode cX1_addNew 37 = .ok (.getfield 97, 3) := by decide +kernel
theorem dX1_addNew_40 : decode cX1_addNew 40 = .ok (.iconst 1, 1) := by decide +kernel
theorem dX1_addNew_41 : decode cX1_addNew 41 = .ok (.iadd, 1) := by decide +kernel
theorem dX1_addNew_42 : decode cX1_addNew 42 = .ok (.putfield 97, 3) := by decide +kernel
theorem dX1_addNew_45 : decode cX1_addNew 45 = .ok (.iload_n 3, 1) := by decide +kernel
theorem dX1_addNew_46 : decode cX1_addNew 46 = .ok (.ireturn, 1) := by decide +kernel
theorem dX1_has_0 : decode cX1_has 0 = .ok (.iload_n 0, 1) := by decide +kernel
theorem dX1_has_1 : decode cX1_has 1 = .ok (.iload_n 1, 1) := by decide +kernel
theorem dX1_has_2 : decode cX1_has 2 = .ok (.iushr, 1) := by decide +kernel
theorem dX1_has_3 : decode cX1_has 3 = .ok (.iconst 1, 1) := by decide +kernel
theorem dX1_has_4 : decode cX1_has 4 = .ok (.iand, 1) := by decide +kernel
theorem dX1_has_5 : decode cX1_has 5 = .ok (.ifCond .eq 7, 3) := by decide +kernel
theorem dX1_has_8 : decode cX1_has 8 = .ok (.iconst 1, 1) := by decide +kernel
theorem dX1_has_9 : decode cX1_has 9 = .ok (.goto 4, 3) := by decide +kernel
theorem dX1_has_12 : decode cX1_has 12 = .ok (.iconst 0, 1) := by decide +kernel
theorem dX1_has_13 : decode cX1_has 13 = .ok (.ireturn, 1) := by decide +kernel
theorem dX1_greatestTuple_0 : decode cX1_greatestTuple 0 = .ok (.iconst 1, 1) := by decide +kernel
theorem dX1_greatestTuple_1 : decode cX1_greatestTuple 1 = .ok (.iload_n 0, 1) := by decide +kernel
theorem dX1_greatestTuple_2 : decode cX1_greatestTuple 2 = .ok (.ishl, 1) := by decide +kernel
theorem dX1_greatestTuple_3 : decode cX1_greatestTuple 3 = .ok (.iconst 1, 1) := by decide +kernel
theorem dX1_greatestTuple_4 : decode cX1_greatestTuple 4 = .ok (.isub, 1) := by decide +kernel
theorem dX1_greatestTuple_5 : decode cX1_greatestTuple 5 = .ok (.ireturn, 1) := by decide +kernel
theorem dX1_allTuples_0 : decode cX1_allTuples 0 = .ok (.iconst 1, 1) := by decide +kernel
theorem dX1_allTuples_1 : decode cX1_allTuples 1 = .ok (.iconst 1, 1) := by decide +kernel
theorem dX1_allTuples_2 : decode cX1_allTuples 2 = .ok (.iload_n 0, 1) := by decide +kernel
theorem dX1_allTuples_3 : decode cX1_allTuples 3 = .ok (.ishl, 1) := by decide +kernel
theorem dX1_allTuples_4 : decode cX1_allTuples 4 = .ok (.ishl, 1) := by decide +kernel
theorem dX1_allTuples_5 : decode cX1_allTuples 5 = .ok (.iconst 1, 1) := by decide +kernel
theorem dX1_allTuples_6 : decode cX1_allTuples 6 = .ok (.isub, 1) := by decide +kernel
theorem dX1_allTuples_7 : decode cX1_allTuples 7 = .ok (.ireturn, 1) := by decide +kernel
theorem dX1_tuplesWithSum_0 : decode cX1_tuplesWithSum 0 = .ok (.iconst 0, 1) := by decide +kernel
theorem dX1_tuplesWithSum_1 : decode cX1_tuplesWithSum 1 = .ok (.istore_n 2, 1) := by decide +kernel
theorem dX1_tuplesWithSum_2 : decode cX1_tuplesWithSum 2 = .ok (.iconst 0, 1) := by decide +kernel
theorem dX1_tuplesWithSum_3 : decode cX1_tuplesWithSum 3 = .ok (.istore_n 3, 1) := by decide +kernel
theorem dX1_tuplesWithSum_4 : decode cX1_tuplesWithSum 4 = .ok (.iload_n 3, 1) := by decide +kernel
theorem dX1_tuplesWithSum_5 : decode cX1_tuplesWithSum 5 = .ok (.iload_n 0, 1) := by decide +kernel
theorem dX1_tuplesWithSum_6 : decode cX1_tuplesWithSum 6 = .ok (.invokestatic 55, 3) := by decide +kernel
theorem dX1_tuplesWithSum_9 : decode cX1_tuplesWithSum 9 = .ok (.if_icmp .gt 25, 3) := by decide +kernel
theorem dX1_tuplesWithSum_12 : decode cX1_tuplesWithSum 12 = .ok (.iload_n 3, 1) := by decide +kernel
theorem dX1_tuplesWithSum_13 : decode cX1_tuplesWithSum 13 = .ok (.invokestatic 89, 3) := by decide +kernel
theorem dX1_tuplesWithSum_16 : decode cX1_tuplesWithSum 16 = .ok (.iconst 1, 1) := by decide +kernel
theorem dX1_tuplesWithSum_17 : decode cX1_tuplesWithSum 17 = .ok (.iand, 1) := by decide +kernel
theorem dX1_tuplesWithSum_18 : decode cX1_tuplesWithSum 18 = .ok (.iload_n 1, 1) := by decide +kernel
theorem dX1_tuplesWithSum_19 : decode cX1_tuplesWithSum 19 = .ok (.if_icmp .ne 9, 3) := by decide +kernel
theorem dX1_tuplesWithSum_22 : decode cX1_tuplesWithSum 22 = .ok (.iload_n 2, 1) := by decide +kernel
theorem dX1_tuplesWithSum_23 : decode cX1_tuplesWithSum 23 = .ok (.iconst 1, 1) := by decide +kernel
theorem dX1_tuplesWithSum_24 : decode cX1_tuplesWithSum 24 = .ok (.iload_n 3, 1) := by decide +kernel
theorem dX1_tuplesWithSum_25 : decode cX1_tuplesWithSum 25 = .ok (.ishl, 1) := by decide +kernel
theorem dX1_tuplesWithSum_26 : decode cX1_tuplesWithSum 26 = .ok (.ior, 1) := by decide +kernel
theorem dX1_tuplesWithSum_27 : decode cX1_tuplesWithSum 27 = .ok (.istore_n 2, 1) := by decide +kernel
theorem dX1_tuplesWithSum_28 : decode cX1_tuplesWithSum 28 = .ok (.iinc 3 1, 3) := by decide +kernel
theorem dX1_tuplesWithSum_31 : decode cX1_tuplesWithSum 31 = .ok (.goto (-27), 3) := by decide +kernel
theorem dX1_tuplesWithSum_34 : decode cX1_tuplesWithSum 34 = .ok (.iload_n 2, 1) := by decide +kernel
theorem dX1_tuplesWithSum_35 : decode cX1_tuplesWithSum 35 = .ok (.ireturn, 1) := by decide +kernel
theorem dX1_tuplesWithoutPosition_0 : decode cX1_tuplesWithoutPosition 0 = .ok (.iconst 1, 1) := by decide +kernel
theorem dX1_tuplesWithoutPosition_1 : decode cX1_tuplesWithoutPosition 1 = .ok (.iload_n 1, 1) := by decide +kernel
theorem dX1_tuplesWithoutPosition_2 : decode cX1_tuplesWithoutPosition 2 = .ok (.ishl, 1) := by decide +kernel
theorem dX1_tuplesWithoutPosition_3 : decode cX1_tuplesWithoutPosition 3 = .ok (.iconst 1, 1) := by decide +kernel
theorem dX1_tuplesWithoutPosition_4 : decode cX1_tuplesWithoutPosition 4 = .ok (.isub, 1) := by decide +kernel
theorem dX1_tuplesWithoutPosition_5 : decode cX1_tuplesWithoutPosition 5 = .ok (.istore_n 2, 1) := by decide +kernel
theorem dX1_tuplesWithoutPosition_6 : decode cX1_tuplesWithoutPosition 6 = .ok (.iconst 0, 1) := by decide +kernel
theorem dX1_tuplesWithoutPosition_7 : decode cX1_tuplesWithoutPosition 7 = .ok (.istore_n 3, 1) := by decide +kernel
theorem dX1_tuplesWithoutPosition_8 : decode cX1_tuplesWithoutPosition 8 = .ok (.iconst 0, 1) := by decide +kernel
theorem dX1_tuplesWithoutPosition_9 : decode cX1_tuplesWithoutPosition 9 = .ok (.istore 4, 2) := by decide +kernel
theorem dX1_tuplesWithoutPosition_11 : decode cX1_tuplesWithoutPosition 11 = .ok (.iload 4, 2) := by decide +kernel
theorem dX1_tuplesWithoutPosition_13 : decode cX1_tuplesWithoutPosition 13 = .ok (.bipush 16, 2) := by decide +kernel
theorem dX1_tuplesWithoutPosition_15 : decode cX1_tuplesWithoutPosition 15 = .ok (.if_icmp .ge 36, 3) := by decide +kernel
theorem dX1_tuplesWithoutPosition_18 : decode cX1_tuplesWithoutPosition 18 = .ok (.iload_n 0, 1) := by decide +kernel
theorem dX1_tuplesWithoutPosition_19 : decode cX1_tuplesWithoutPosition 19 = .ok (.iload 4, 2) := by decide +kernel
theorem dX1_tuplesWithoutPosition_21 : decode cX1_tuplesWithoutPosition 21 = .ok (.invokestatic 85, 3) := by decide +kernel
theorem dX1_tuplesWithoutPosition_24 : decode cX1_tuplesWithoutPosition 24 = .ok (.ifCond .eq 21, 3) := by decide +kernel
theorem dX1_tuplesWithoutPosition_27 : decode cX1_tuplesWithoutPosition 27 = .ok (.iload_n 3, 1) := by decide +kernel
theorem dX1_tuplesWithoutPosition_28 : decode cX1_tuplesWithoutPosition 28 = .ok (.iconst 1, 1) := by decide +kernel
theorem dX1_tuplesWithoutPosition_29 : decode cX1_tuplesWithoutPosition 29 = .ok (.iload 4, 2) := by decide +kernel
theorem dX1_tuplesWithoutPosition_31 : decode cX1_tuplesWithoutPosition 31 = .ok (.iload_n 2, 1) := by decide +kernel
theorem dX1_tuplesWithoutPosition_32 : decode cX1_tuplesWithoutPosition 32 = .ok (.iand, 1) := by decide +kernel
theorem dX1_tuplesWithoutPosition_33 : decode cX1_tuplesWithoutPosition 33 = .ok (.iload 4, 2) := by decide +kernel
theorem dX1_tuplesWithoutPosition_35 : decode cX1_tuplesWithoutPosition 35 = .ok (.iconst 1, 1) := by decide +kernel
theorem dX1_tuplesWithoutPosition_36 : decode cX1_tuplesWithoutPosition 36 = .ok (.iushr, 1) := by decide +kernel
theorem dX1_tuplesWithoutPosition_37 : decode cX1_tuplesWithoutPosition 37 = .ok (.iload_n 2, 1) := by decide +kernel
theorem dX1_tuplesWithoutPosition_38 : decode cX1_tuplesWithoutPosition 38 = .ok (.iconst (-1), 1) := by decide +kernel
theorem dX1_tuplesWithoutPosition_39 : decode cX1_tuplesWithoutPosition 39 = .ok (.ixor, 1) := by decide +kernel
theorem dX1_tuplesWithoutPosition_40 : decode cX1_tuplesWithoutPosition 40 = .ok (.iand, 1) := by decide +kernel
theorem dX1_tuplesWithoutPosition_41 : decode cX1_tuplesWithoutPosition 41 = .ok (.ior, 1) := by decide +kernel
theorem dX1_tuplesWithoutPosition_42 : decode cX1_tuplesWithoutPosition 42 = .ok (.ishl, 1) := by decide +kernel
theorem dX1_tuplesWithoutPosition_43 : decode cX1_tuplesWithoutPosition 43 = .ok (.ior, 1) := by decide +kernel
theorem dX1_tuplesWithoutPosition_44 : decode cX1_tuplesWithoutPosition 44 = .ok (.istore_n 3, 1) := by decide +kernel
theorem dX1_tuplesWithoutPosition_45 : decode cX1_tuplesWithoutPosition 45 = .ok (.iinc 4 1, 3) := by decide +kernel
theorem dX1_tuplesWithoutPosition_48 : decode cX1_tuplesWithoutPosition 48 = .ok (.goto (-37), 3) := by decide +kernel
theorem dX1_tuplesWithoutPosition_51 : decode cX1_tuplesWithoutPosition 51 = .ok (.iload_n 3, 1) := by decide +kernel
theorem dX1_tuplesWithoutPosition_52 : decode cX1_tuplesWithoutPosition 52 = .ok (.ireturn, 1) := by decide +kernel
theorem dX1_tuplesWithExchange_0 : decode cX1_tuplesWithExchange 0 = .ok (.iconst 1, 1) := by decide +kernel
theorem dX1_tuplesWithExchange_1 : decode cX1_tuplesWithExchange 1 = .ok (.iload_n 1, 1) := by decide +kernel
theorem dX1_tuplesWithExchange_2 : decode cX1_tuplesWithExchange 2 = .ok (.ishl, 1) := by decide +kernel
theorem dX1_tuplesWithExchange_3 : decode cX1_tuplesWithExchange 3 = .ok (.iconst 1, 1) := by decide +kernel
theorem dX1_tuplesWithExchange_4 : decode cX1_tuplesWithExchange 4 = .ok (.iload_n 2, 1) := by decide +kernel
theorem dX1_tuplesWithExchange_5 : decode cX1_tuplesWithExchange 5 = .ok (.ishl, 1) := by decide +kernel
theorem dX1_tuplesWithExchange_6 : decode cX1_tuplesWithExchange 6 = .ok (.ior, 1) := by decide +kernel
theorem dX1_tuplesWithExchange_7 : decode cX1_tuplesWithExchange 7 = .ok (.istore_n 3, 1) := by decide +kernel
theorem dX1_tuplesWithExchange_8 : decode cX1_tuplesWithExchange 8 = .ok (.iconst 0, 1) := by decide +kernel
theorem dX1_tuplesWithExchange_9 : decode cX1_tuplesWithExchange 9 = .ok (.istore 4, 2) := by decide +kernel
theorem dX1_tuplesWithExchange_11 : decode cX1_tuplesWithExchange 11 = .ok (.iconst 0, 1) := by decide +kernel
theorem dX1_tuplesWithExchange_12 : decode cX1_tuplesWithExchange 12 = .ok (.istore 5, 2) := by decide +kernel
theorem dX1_tuplesWithExchange_14 : decode cX1_tuplesWithExchange 14 = .ok (.iload 5, 2) := by decide +kernel
theorem dX1_tuplesWithExchange_16 : decode cX1_tuplesWithExchange 16 = .ok (.bipush 16, 2) := by decide +kernel
theorem dX1_tuplesWithExchange_18 : decode cX1_tuplesWithExchange 18 = .ok (.if_icmp .ge 61, 3) := by decide +kernel
theorem dX1_tuplesWithExchange_21 : decode cX1_tuplesWithExchange 21 = .ok (.iload_n 0, 1) := by decide +kernel
theorem dX1_tuplesWithExchange_22 : decode cX1_tuplesWithExchange 22 = .ok (.iload 5, 2) := by decide +kernel
theorem dX1_tuplesWithExchange_24 : decode cX1_tuplesWithExchange 24 = .ok (.invokestatic 85, 3) := by decide +kernel
theorem dX1_tuplesWithExchange_27 : decode cX1_tuplesWithExchange 27 = .ok (.ifCond .eq 46, 3) := by decide +kernel
theorem dX1_tuplesWithExchange_30 : decode cX1_tuplesWithExchange 30 = .ok (.iload 5, 2) := by decide +kernel
theorem dX1_tuplesWithExchange_32 : decode cX1_tuplesWithExchange 32 = .ok (.iload_n 1, 1) := by decide +kernel
theorem dX1_tuplesWithExchange_33 : decode cX1_tuplesWithExchange 33 = .ok (.invokestatic 85, 3) := by decide +kernel
theorem dX1_tuplesWithExchange_36 : decode cX1_tuplesWithExchange 36 = .ok (.iload 5, 2) := by decide +kernel
theorem dX1_tuplesWithExchange_38 : decode cX1_tuplesWithExchange 38 = .ok (.iload_n 2, 1) := by decide +kernel
theorem dX1_tuplesWithExchange_39 : decode cX1_tuplesWithExchange 39 = .ok (.invokestatic 85, 3) := by decide +kernel
theorem dX1_tuplesWithExchange_42 : decode cX1_tuplesWithExchange 42 = .ok (.if_icmp .eq 7, 3) := by decide +kernel
theorem dX1_tuplesWithExchange_45 : decode cX1_tuplesWithExchange 45 = .ok (.iconst 1, 1) := by decide +kernel
theorem dX1_tuplesWithExchange_46 : decode cX1_tuplesWithExchange 46 = .ok (.goto 4, 3) := by decide +kernel
theorem dX1_tuplesWithExchange_49 : decode cX1_tuplesWithExchange 49 = .ok (.iconst 0, 1) := by decide +kernel
theorem dX1_tuplesWithExchange_50 : decode cX1_tuplesWithExchange 50 = .ok (.istore 6, 2) := by decide +kernel
theorem dX1_tuplesWithExchange_52 : decode cX1_tuplesWithExchange 52 = .ok (.iload 4, 2) := by decide +kernel
theorem dX1_tuplesWithExchange_54 : decode cX1_tuplesWithExchange 54 = .ok (.iconst 1, 1) := by decide +kernel
theorem dX1_tuplesWithExchange_55 : decode cX1_tuplesWithExchange 55 = .ok (.iload 6, 2) := by decide +kernel
theorem dX1_tuplesWithExchange_57 : decode cX1_tuplesWithExchange 57 = .ok (.ifCond .eq 10, 3) := by decide +kernel
theorem dX1_tuplesWithExchange_60 : decode cX1_tuplesWithExchange 60 = .ok (.iload 5, 2) := by decide +kernel
theorem dX1_tuplesWithExchange_62 : decode cX1_tuplesWithExchange 62 = .ok (.iload_n 3, 1) := by decide +kernel
theorem dX1_tuplesWithExchange_63 : decode cX1_tuplesWithExchange 63 = .ok (.ixor, 1) := by decide +kernel
theorem dX1_tuplesWithExchange_64 : decode cX1_tuplesWithExchange 64 = .ok (.goto 5, 3) := by decide +kernel
theorem dX1_tuplesWithExchange_67 : decode cX1_tuplesWithExchange 67 = .ok (.iload 5, 2) := by decide +kernel
theorem dX1_tuplesWithExchange_69 : decode cX1_tuplesWithExchange 69 = .ok (.ishl, 1) := by decide +kernel
theorem dX1_tuplesWithExchange_70 : decode cX1_tuplesWithExchange 70 = .ok (.ior, 1) := by decide +kernel
theorem dX1_tuplesWithExchange_71 : decode cX1_tuplesWithExchange 71 = .ok (.istore 4, 2) := by decide +kernel
theorem dX1_tuplesWithExchange_73 : decode cX1_tuplesWithExchange 73 = .ok (.iinc 5 1, 3) := by decide +kernel
theorem dX1_tuplesWithExchange_76 : decode cX1_tuplesWithExchange 76 = .ok (.goto (-62), 3) := by decide +kernel
theorem dX1_tuplesWithExchange_79 : decode cX1_tuplesWithExchange 79 = .ok (.iload 4, 2) := by decide +kernel
theorem dX1_tuplesWithExchange_81 : decode cX1_tuplesWithExchange 81 = .ok (.ireturn, 1) := by decide +kernel
theorem dX1_valueFor_0 : decode cX1_valueFor 0 = .ok (.iload_n 1, 1) := by decide +kernel
theorem dX1_valueFor_1 : decode cX1_valueFor 1 = .ok (.iload_n 2, 1) := by decide +kernel
theorem dX1_valueFor_2 : decode cX1_valueFor 2 = .ok (.iload_n 0, 1) := by decide +kernel
theorem dX1_valueFor_3 : decode cX1_valueFor 3 = .ok (.invokestatic 55, 3) := by decide +kernel
theorem dX1_valueFor_6 : decode cX1_valueFor 6 = .ok (.iand, 1) := by decide +kernel
theorem dX1_valueFor_7 : decode cX1_valueFor 7 = .ok (.iushr, 1) := by decide +kernel
theorem dX1_valueFor_8 : decode cX1_valueFor 8 = .ok (.iconst 1, 1) := by decide +kernel
theorem dX1_valueFor_9 : decode cX1_valueFor 9 = .ok (.iand, 1) := by decide +kernel
theorem dX1_valueFor_10 : decode cX1_valueFor 10 = .ok (.ireturn, 1) := by decide +kernel
theorem dX1_argumentCode_0 : decode cX1_argumentCode 0 = .ok (.getstatic 317, 3) := by decide +kernel
theorem dX1_argumentCode_3 : decode cX1_argumentCode 3 = .ok (.iload_n 1, 1) := by decide +kernel
theorem dX1_argumentCode_4 : decode cX1_argumentCode 4 = .ok (.iaload, 1) := by decide +kernel
theorem dX1_argumentCode_5 : decode cX1_argumentCode 5 = .ok (.iload_n 0, 1) := by decide +kernel
theorem dX1_argumentCode_6 : decode cX1_argumentCode 6 = .ok (.invokestatic 66, 3) := by decide +kernel
theorem dX1_argumentCode_9 : decode cX1_argumentCode 9 = .ok (.iand, 1) := by decide +kernel
theorem dX1_argumentCode_10 : decode cX1_argumentCode 10 = .ok (.ireturn, 1) := by decide +kernel
theorem dX1_valuesAtZero_0 : decode cX1_valuesAtZero 0 = .ok (.iload_n 1, 1) := by decide +kernel
theorem dX1_valuesAtZero_1 : decode cX1_valuesAtZero 1 = .ok (.iload_n 0, 1) := by decide +kernel
theorem dX1_valuesAtZero_2 : decode cX1_valuesAtZero 2 = .ok (.iload_n 2, 1) := by decide +kernel
theorem dX1_valuesAtZero_3 : decode cX1_valuesAtZero 3 = .ok (.invokestatic 144, 3) := by decide +kernel
theorem dX1_valuesAtZero_6 : decode cX1_valuesAtZero 6 = .ok (.iconst (-1), 1) := by decide +kernel
theorem dX1_valuesAtZero_7 : decode cX1_valuesAtZero 7 = .ok (.ixor, 1) := by decide +kernel
theorem dX1_valuesAtZero_8 : decode cX1_valuesAtZero 8 = .ok (.iand, 1) := by decide +kernel
theorem dX1_valuesAtZero_9 : decode cX1_valuesAtZero 9 = .ok (.ireturn, 1) := by decide +kernel
theorem dX1_valuesAtOne_0 : decode cX1_valuesAtOne 0 = .ok (.iload_n 1, 1) := by decide +kernel
theorem dX1_valuesAtOne_1 : decode cX1_valuesAtOne 1 = .ok (.iload_n 0, 1) := by decide +kernel
theorem dX1_valuesAtOne_2 : decode cX1_valuesAtOne 2 = .ok (.iload_n 2, 1) := by decide +kernel
theorem dX1_valuesAtOne_3 : decode cX1_valuesAtOne 3 = .ok (.invokestatic 144, 3) := by decide +kernel
theorem dX1_valuesAtOne_6 : decode cX1_valuesAtOne 6 = .ok (.iand, 1) := by decide +kernel
theorem dX1_valuesAtOne_7 : decode cX1_valuesAtOne 7 = .ok (.iconst 1, 1) := by decide +kernel
theorem dX1_valuesAtOne_8 : decode cX1_valuesAtOne 8 = .ok (.iload_n 2, 1) := by decide +kernel
theorem dX1_valuesAtOne_9 : decode cX1_valuesAtOne 9 = .ok (.ishl, 1) := by decide +kernel
theorem dX1_valuesAtOne_10 : decode cX1_valuesAtOne 10 = .ok (.iushr, 1) := by decide +kernel
theorem dX1_valuesAtOne_11 : decode cX1_valuesAtOne 11 = .ok (.ireturn, 1) := by decide +kernel
theorem dX1_appliedToTwo_0 : decode cX1_appliedToTwo 0 = .ok (.iload_n 0, 1) := by decide +kernel
theorem dX1_appliedToTwo_1 : decode cX1_appliedToTwo 1 = .ok (.iconst 1, 1) := by decide +kernel
theorem dX1_appliedToTwo_2 : decode cX1_appliedToTwo 2 = .ok (.iand, 1) := by decide +kernel
theorem dX1_appliedToTwo_3 : decode cX1_appliedToTwo 3 = .ok (.ifCond .eq 13, 3) := by decide +kernel
theorem dX1_appliedToTwo_6 : decode cX1_appliedToTwo 6 = .ok (.iload_n 1, 1) := by decide +kernel
theorem dX1_appliedToTwo_7 : decode cX1_appliedToTwo 7 = .ok (.iconst (-1), 1) := by decide +kernel
theorem dX1_appliedToTwo_8 : decode cX1_appliedToTwo 8 = .ok (.ixor, 1) := by decide +kernel
theorem dX1_appliedToTwo_9 : decode cX1_appliedToTwo 9 = .ok (.iload_n 2, 1) := by decide +kernel
theorem dX1_appliedToTwo_10 : decode cX1_appliedToTwo 10 = .ok (.iconst (-1), 1) := by decide +kernel
theorem dX1_appliedToTwo_11 : decode cX1_appliedToTwo 11 = .ok (.ixor, 1) := by decide +kernel
theorem dX1_appliedToTwo_12 : decode cX1_appliedToTwo 12 = .ok (.iand, 1) := by decide +kernel
theorem dX1_appliedToTwo_13 : decode cX1_appliedToTwo 13 = .ok (.goto 4, 3) := by decide +kernel
theorem dX1_appliedToTwo_16 : decode cX1_appliedToTwo 16 = .ok (.iconst 0, 1) := by decide +kernel
theorem dX1_appliedToTwo_17 : decode cX1_appliedToTwo 17 = .ok (.iload_n 0, 1) := by decide +kernel
theorem dX1_appliedToTwo_18 : decode cX1_appliedToTwo 18 = .ok (.iconst 2, 1) := by decide +kernel
theorem dX1_appliedToTwo_19 : decode cX1_appliedToTwo 19 = .ok (.iand, 1) := by decide +kernel
theorem dX1_appliedToTwo_20 : decode cX1_appliedToTwo 20 = .ok (.ifCond .eq 11, 3) := by decide +kernel
theorem dX1_appliedToTwo_23 : decode cX1_appliedToTwo 23 = .ok (.iload_n 1, 1) := by decide +kernel
theorem dX1_appliedToTwo_24 : decode cX1_appliedToTwo 24 = .ok (.iload_n 2, 1) := by decide +kernel
theorem dX1_appliedToTwo_25 : decode cX1_appliedToTwo 25 = .ok (.iconst (-1), 1) := by decide +kernel
theorem dX1_appliedToTwo_26 : decode cX1_appliedToTwo 26 = .ok (.ixor, 1) := by decide +kernel
theorem dX1_appliedToTwo_27 : decode cX1_appliedToTwo 27 = .ok (.iand, 1) := by decide +kernel
theorem dX1_appliedToTwo_28 : decode cX1_appliedToTwo 28 = .ok (.goto 4, 3) := by decide +kernel
theorem dX1_appliedToTwo_31 : decode cX1_appliedToTwo 31 = .ok (.iconst 0, 1) := by decide +kernel
theorem dX1_appliedToTwo_32 : decode cX1_appliedToTwo 32 = .ok (.ior, 1) := by decide +kernel
theorem dX1_appliedToTwo_33 : decode cX1_appliedToTwo 33 = .ok (.iload_n 0, 1) := by decide +kernel
theorem dX1_appliedToTwo_34 : decode cX1_appliedToTwo 34 = .ok (.iconst 4, 1) := by decide +kernel
theorem dX1_appliedToTwo_35 : decode cX1_appliedToTwo 35 = .ok (.iand, 1) := by decide +kernel
theorem dX1_appliedToTwo_36 : decode cX1_appliedToTwo 36 = .ok (.ifCond .eq 11, 3) := by decide +kernel
theorem dX1_appliedToTwo_39 : decode cX1_appliedToTwo 39 = .ok (.iload_n 1, 1) := by decide +kernel
theorem dX1_appliedToTwo_40 : decode cX1_appliedToTwo 40 = .ok (.iconst (-1), 1) := by decide +kernel
theorem dX1_appliedToTwo_41 : decode cX1_appliedToTwo 41 = .ok (.ixor, 1) := by decide +kernel
theorem dX1_appliedToTwo_42 : decode cX1_appliedToTwo 42 = .ok (.iload_n 2, 1) := by decide +kernel
theorem dX1_appliedToTwo_43 : decode cX1_appliedToTwo 43 = .ok (.iand, 1) := by decide +kernel
theorem dX1_appliedToTwo_44 : decode cX1_appliedToTwo 44 = .ok (.goto 4, 3) := by decide +kernel
theorem dX1_appliedToTwo_47 : decode cX1_appliedToTwo 47 = .ok (.iconst 0, 1) := by decide +kernel
theorem dX1_appliedToTwo_48 : decode cX1_appliedToTwo 48 = .ok (.ior, 1) := by decide +kernel
theorem dX1_appliedToTwo_49 : decode cX1_appliedToTwo 49 = .ok (.iload_n 0, 1) := by decide +kernel
theorem dX1_appliedToTwo_50 : decode cX1_appliedToTwo 50 = .ok (.bipush 8, 2) := by decide +kernel
theorem dX1_appliedToTwo_52 : decode cX1_appliedToTwo 52 = .ok (.iand, 1) := by decide +kernel
theorem dX1_appliedToTwo_53 : decode cX1_appliedToTwo 53 = .ok (.ifCond .eq 9, 3) := by decide +kernel
theorem dX1_appliedToTwo_56 : decode cX1_appliedToTwo 56 = .ok (.iload_n 1, 1) := by decide +kernel
theorem dX1_appliedToTwo_57 : decode cX1_appliedToTwo 57 = .ok (.iload_n 2, 1) := by decide +kernel
theorem dX1_appliedToTwo_58 : decode cX1_appliedToTwo 58 = .ok (.iand, 1) := by decide +kernel
theorem dX1_appliedToTwo_59 : decode cX1_appliedToTwo 59 = .ok (.goto 4, 3) := by decide +kernel
theorem dX1_appliedToTwo_62 : decode cX1_appliedToTwo 62 = .ok (.iconst 0, 1) := by decide +kernel
theorem dX1_appliedToTwo_63 : decode cX1_appliedToTwo 63 = .ok (.ior, 1) := by decide +kernel
theorem dX1_appliedToTwo_64 : decode cX1_appliedToTwo 64 = .ok (.ireturn, 1) := by decide +kernel
theorem dX1_escapingTuples_0 : decode cX1_escapingTuples 0 = .ok (.iload_n 0, 1) := by decide +kernel
theorem dX1_escapingTuples_1 : decode cX1_escapingTuples 1 = .ok (.iload_n 1, 1) := by decide +kernel
theorem dX1_escapingTuples_2 : decode cX1_escapingTuples 2 = .ok (.invokestatic 66, 3) := by decide +kernel
theorem dX1_escapingTuples_5 : decode cX1_escapingTuples 5 = .ok (.if_icmp .ne 5, 3) := by decide +kernel
theorem dX1_escapingTuples_8 : decode cX1_escapingTuples 8 = .ok (.iconst 0, 1) := by decide +kernel
theorem dX1_escapingTuples_9 : decode cX1_escapingTuples 9 = .ok (.ireturn, 1) := by decide +kernel
theorem dX1_escapingTuples_10 : decode cX1_escapingTuples 10 = .ok (.iload_n 1, 1) := by decide +kernel
theorem dX1_escapingTuples_11 : decode cX1_escapingTuples 11 = .ok (.invokestatic 55, 3) := by decide +kernel
theorem dX1_escapingTuples_14 : decode cX1_escapingTuples 14 = .ok (.istore 4, 2) := by decide +kernel
theorem dX1_escapingTuples_16 : decode cX1_escapingTuples 16 = .ok (.iload_n 2, 1) := by decide +kernel
theorem dX1_escapingTuples_17 : decode cX1_escapingTuples 17 = .ok (.iconst 2, 1) := by decide +kernel
theorem dX1_escapingTuples_18 : decode cX1_escapingTuples 18 = .ok (.if_icmp .lt 7, 3) := by decide +kernel
theorem dX1_escapingTuples_21 : decode cX1_escapingTuples 21 = .ok (.iload_n 0, 1) := by decide +kernel
theorem dX1_escapingTuples_22 : decode cX1_escapingTuples 22 = .ok (.goto 4, 3) := by decide +kernel
theorem dX1_escapingTuples_25 : decode cX1_escapingTuples 25 = .ok (.iconst 1, 1) := by decide +kernel
theorem dX1_escapingTuples_26 : decode cX1_escapingTuples 26 = .ok (.istore 5, 2) := by decide +kernel
theorem dX1_escapingTuples_28 : decode cX1_escapingTuples 28 = .ok (.iload_n 2, 1) := by decide +kernel
theorem dX1_escapingTuples_29 : decode cX1_escapingTuples 29 = .ok (.iconst 3, 1) := by decide +kernel
theorem dX1_escapingTuples_30 : decode cX1_escapingTuples 30 = .ok (.if_icmp .lt 7, 3) := by decide +kernel
theorem dX1_escapingTuples_33 : decode cX1_escapingTuples 33 = .ok (.iload_n 0, 1) := by decide +kernel
theorem dX1_escapingTuples_34 : decode cX1_escapingTuples 34 = .ok (.goto 4, 3) := by decide +kernel
theorem dX1_escapingTuples_37 : decode cX1_escapingTuples 37 = .ok (.iconst 1, 1) := by decide +kernel
theorem dX1_escapingTuples_38 : decode cX1_escapingTuples 38 = .ok (.istore 6, 2) := by decide +kernel
theorem dX1_escapingTuples_40 : decode cX1_escapingTuples 40 = .ok (.iconst 0, 1) := by decide +kernel
theorem dX1_escapingTuples_41 : decode cX1_escapingTuples 41 = .ok (.istore 7, 2) := by decide +kernel
theorem dX1_escapingTuples_43 : decode cX1_escapingTuples 43 = .ok (.iload 7, 2) := by decide +kernel
theorem dX1_escapingTuples_45 : decode cX1_escapingTuples 45 = .ok (.iload 4, 2) := by decide +kernel
theorem dX1_escapingTuples_47 : decode cX1_escapingTuples 47 = .ok (.if_icmp .gt 97, 3) := by decide +kernel
theorem dX1_escapingTuples_50 : decode cX1_escapingTuples 50 = .ok (.iload_n 0, 1) := by decide +kernel
theorem dX1_escapingTuples_51 : decode cX1_escapingTuples 51 = .ok (.iload 7, 2) := by decide +kernel
theorem dX1_escapingTuples_53 : decode cX1_escapingTuples 53 = .ok (.invokestatic 85, 3) := by decide +kernel
theorem dX1_escapingTuples_56 : decode cX1_escapingTuples 56 = .ok (.ifCond .ne 6, 3) := by decide +kernel
theorem dX1_escapingTuples_59 : decode cX1_escapingTuples 59 = .ok (.goto 79, 3) := by decide +kernel
theorem dX1_escapingTuples_62 : decode cX1_escapingTuples 62 = .ok (.iconst 0, 1) := by decide +kernel
theorem dX1_escapingTuples_63 : decode cX1_escapingTuples 63 = .ok (.istore 8, 2) := by decide +kernel
theorem dX1_escapingTuples_65 : decode cX1_escapingTuples 65 = .ok (.iload 8, 2) := by decide +kernel
theorem dX1_escapingTuples_67 : decode cX1_escapingTuples 67 = .ok (.iload 4, 2) := by decide +kernel
theorem dX1_escapingTuples_69 : decode cX1_escapingTuples 69 = .ok (.if_icmp .gt 69, 3) := by decide +kernel
theorem dX1_escapingTuples_72 : decode cX1_escapingTuples 72 = .ok (.iload 5, 2) := by decide +kernel
theorem dX1_escapingTuples_74 : decode cX1_escapingTuples 74 = .ok (.iload 8, 2) := by decide +kernel
theorem dX1_escapingTuples_76 : decode cX1_escapingTuples 76 = .ok (.invokestatic 85, 3) := by decide +kernel
theorem dX1_escapingTuples_79 : decode cX1_escapingTuples 79 = .ok (.ifCond .ne 6, 3) := by decide +kernel
theorem dX1_escapingTuples_82 : decode cX1_escapingTuples 82 = .ok (.goto 50, 3) := by decide +kernel
theorem dX1_escapingTuples_85 : decode cX1_escapingTuples 85 = .ok (.iload_n 3, 1) := by decide +kernel
theorem dX1_escapingTuples_86 : decode cX1_escapingTuples 86 = .ok (.iload 7, 2) := by decide +kernel
theorem dX1_escapingTuples_88 : decode cX1_escapingTuples 88 = .ok (.iload 8, 2) := by decide +kernel
theorem dX1_escapingTuples_90 : decode cX1_escapingTuples 90 = .ok (.invokestatic 320, 3) := by decide +kernel
theorem dX1_escapingTuples_93 : decode cX1_escapingTuples 93 = .ok (.istore 9, 2) := by decide +kernel
theorem dX1_escapingTuples_95 : decode cX1_escapingTuples 95 = .ok (.iload_n 3, 1) := by decide +kernel
theorem dX1_escapingTuples_96 : decode cX1_escapingTuples 96 = .ok (.iconst 4, 1) := by decide +kernel
theorem dX1_escapingTuples_97 : decode cX1_escapingTuples 97 = .ok (.iushr, 1) := by decide +kernel
theorem dX1_escapingTuples_98 : decode cX1_escapingTuples 98 = .ok (.iload 7, 2) := by decide +kernel
theorem dX1_escapingTuples_100 : decode cX1_escapingTuples 100 = .ok (.iload 8, 2) := by decide +kernel
theorem dX1_escapingTuples_102 : decode cX1_escapingTuples 102 = .ok (.invokestatic 320, 3) := by decide +kernel
theorem dX1_escapingTuples_105 : decode cX1_escapingTuples 105 = .ok (.istore 10, 2) := by decide +kernel
theorem dX1_escapingTuples_107 : decode cX1_escapingTuples 107 = .ok (.iload 6, 2) := by decide +kernel
theorem dX1_escapingTuples_109 : decode cX1_escapingTuples 109 = .ok (.iload 9, 2) := by decide +kernel
theorem dX1_escapingTuples_111 : decode cX1_escapingTuples 111 = .ok (.iload 10, 2) := by decide +kernel
theorem dX1_escapingTuples_113 : decode cX1_escapingTuples 113 = .ok (.iload 4, 2) := by decide +kernel
theorem dX1_escapingTuples_115 : decode cX1_escapingTuples 115 = .ok (.invokestatic 323, 3) := by decide +kernel
theorem dX1_escapingTuples_118 : decode cX1_escapingTuples 118 = .ok (.iload_n 0, 1) := by decide +kernel
theorem dX1_escapingTuples_119 : decode cX1_escapingTuples 119 = .ok (.iconst (-1), 1) := by decide +kernel
theorem dX1_escapingTuples_120 : decode cX1_escapingTuples 120 = .ok (.ixor, 1) := by decide +kernel
theorem dX1_escapingTuples_121 : decode cX1_escapingTuples 121 = .ok (.iand, 1) := by decide +kernel
theorem dX1_escapingTuples_122 : decode cX1_escapingTuples 122 = .ok (.istore 11, 2) := by decide +kernel
theorem dX1_escapingTuples_124 : decode cX1_escapingTuples 124 = .ok (.iload 11, 2) := by decide +kernel
theorem dX1_escapingTuples_126 : decode cX1_escapingTuples 126 = .ok (.ifCond .eq 6, 3) := by decide +kernel
theorem dX1_escapingTuples_129 : decode cX1_escapingTuples 129 = .ok (.iload 11, 2) := by decide +kernel
theorem dX1_escapingTuples_131 : decode cX1_escapingTuples 131 = .ok (.ireturn, 1) := by decide +kernel
theorem dX1_escapingTuples_132 : decode cX1_escapingTuples 132 = .ok (.iinc 8 1, 3) := by decide +kernel
theorem dX1_escapingTuples_135 : decode cX1_escapingTuples 135 = .ok (.goto (-70), 3) := by decide +kernel
theorem dX1_escapingTuples_138 : decode cX1_escapingTuples 138 = .ok (.iinc 7 1, 3) := by decide +kernel
theorem dX1_escapingTuples_141 : decode cX1_escapingTuples 141 = .ok (.goto (-98), 3) := by decide +kernel
theorem dX1_escapingTuples_144 : decode cX1_escapingTuples 144 = .ok (.iconst 0, 1) := by decide +kernel
theorem dX1_escapingTuples_145 : decode cX1_escapingTuples 145 = .ok (.ireturn, 1) := by decide +kernel
theorem dX1_tuplesChosenBy_0 : decode cX1_tuplesChosenBy 0 = .ok (.iconst 0, 1) := by decide +kernel
theorem dX1_tuplesChosenBy_1 : decode cX1_tuplesChosenBy 1 = .ok (.istore 4, 2) := by decide +kernel
theorem dX1_tuplesChosenBy_3 : decode cX1_tuplesChosenBy 3 = .ok (.iconst 0, 1) := by decide +kernel
theorem dX1_tuplesChosenBy_4 : decode cX1_tuplesChosenBy 4 = .ok (.istore 5, 2) := by decide +kernel
theorem dX1_tuplesChosenBy_6 : decode cX1_tuplesChosenBy 6 = .ok (.iload 5, 2) := by decide +kernel
theorem dX1_tuplesChosenBy_8 : decode cX1_tuplesChosenBy 8 = .ok (.iload_n 3, 1) := by decide +kernel
theorem dX1_tuplesChosenBy_9 : decode cX1_tuplesChosenBy 9 = .ok (.if_icmp .gt 38, 3) := by decide +kernel
theorem dX1_tuplesChosenBy_12 : decode cX1_tuplesChosenBy 12 = .ok (.iload_n 0, 1) := by decide +kernel
theorem dX1_tuplesChosenBy_13 : decode cX1_tuplesChosenBy 13 = .ok (.iload 5, 2) := by decide +kernel
theorem dX1_tuplesChosenBy_15 : decode cX1_tuplesChosenBy 15 = .ok (.iushr, 1) := by decide +kernel
theorem dX1_tuplesChosenBy_16 : decode cX1_tuplesChosenBy 16 = .ok (.iconst 1, 1) := by decide +kernel
theorem dX1_tuplesChosenBy_17 : decode cX1_tuplesChosenBy 17 = .ok (.iand, 1) := by decide +kernel
theorem dX1_tuplesChosenBy_18 : decode cX1_tuplesChosenBy 18 = .ok (.ifCond .eq 23, 3) := by decide +kernel
theorem dX1_tuplesChosenBy_21 : decode cX1_tuplesChosenBy 21 = .ok (.iload 4, 2) := by decide +kernel
theorem dX1_tuplesChosenBy_23 : decode cX1_tuplesChosenBy 23 = .ok (.iconst 1, 1) := by decide +kernel
theorem dX1_tuplesChosenBy_24 : decode cX1_tuplesChosenBy 24 = .ok (.iload_n 1, 1) := by decide +kernel
theorem dX1_tuplesChosenBy_25 : decode cX1_tuplesChosenBy 25 = .ok (.iload 5, 2) := by decide +kernel
theorem dX1_tuplesChosenBy_27 : decode cX1_tuplesChosenBy 27 = .ok (.iconst (-1), 1) := by decide +kernel
theorem dX1_tuplesChosenBy_28 : decode cX1_tuplesChosenBy 28 = .ok (.ixor, 1) := by decide +kernel
theorem dX1_tuplesChosenBy_29 : decode cX1_tuplesChosenBy 29 = .ok (.iand, 1) := by decide +kernel
theorem dX1_tuplesChosenBy_30 : decode cX1_tuplesChosenBy 30 = .ok (.iload_n 2, 1) := by decide +kernel
theorem dX1_tuplesChosenBy_31 : decode cX1_tuplesChosenBy 31 = .ok (.iload 5, 2) := by decide +kernel
theorem dX1_tuplesChosenBy_33 : decode cX1_tuplesChosenBy 33 = .ok (.iand, 1) := by decide +kernel
theorem dX1_tuplesChosenBy_34 : decode cX1_tuplesChosenBy 34 = .ok (.ior, 1) := by decide +kernel
theorem dX1_tuplesChosenBy_35 : decode cX1_tuplesChosenBy 35 = .ok (.iload_n 3, 1) := by decide +kernel
theorem dX1_tuplesChosenBy_36 : decode cX1_tuplesChosenBy 36 = .ok (.iand, 1) := by decide +kernel
theorem dX1_tuplesChosenBy_37 : decode cX1_tuplesChosenBy 37 = .ok (.ishl, 1) := by decide +kernel
theorem dX1_tuplesChosenBy_38 : decode cX1_tuplesChosenBy 38 = .ok (.ior, 1) := by decide +kernel
theorem dX1_tuplesChosenBy_39 : decode cX1_tuplesChosenBy 39 = .ok (.istore 4, 2) := by decide +kernel
theorem dX1_tuplesChosenBy_41 : decode cX1_tuplesChosenBy 41 = .ok (.iinc 5 1, 3) := by decide +kernel
theorem dX1_tuplesChosenBy_44 : decode cX1_tuplesChosenBy 44 = .ok (.goto (-38), 3) := by decide +kernel
theorem dX1_tuplesChosenBy_47 : decode cX1_tuplesChosenBy 47 = .ok (.iload 4, 2) := by decide +kernel
theorem dX1_tuplesChosenBy_49 : decode cX1_tuplesChosenBy 49 = .ok (.ireturn, 1) := by decide +kernel
theorem dX1_isPreserved_0 : decode cX1_isPreserved 0 = .ok (.aload_n 0, 1) := by decide +kernel
theorem dX1_isPreserved_1 : decode cX1_isPreserved 1 = .ok (.getfield 10, 3) := by decide +kernel
theorem dX1_isPreserved_4 : decode cX1_isPreserved 4 = .ok (.getfield 82, 3) := by decide +kernel
theorem dX1_isPreserved_7 : decode cX1_isPreserved 7 = .ok (.iload_n 1, 1) := by decide +kernel
theorem dX1_isPreserved_8 : decode cX1_isPreserved 8 = .ok (.iaload, 1) := by decide +kernel
theorem dX1_isPreserved_9 : decode cX1_isPreserved 9 = .ok (.aload_n 0, 1) := by decide +kernel
theorem dX1_isPreserved_10 : decode cX1_isPreserved 10 = .ok (.getfield 10, 3) := by decide +kernel
theorem dX1_isPreserved_13 : decode cX1_isPreserved 13 = .ok (.getfield 94, 3) := by decide +kernel
theorem dX1_isPreserved_16 : decode cX1_isPreserved 16 = .ok (.iload_n 1, 1) := by decide +kernel
theorem dX1_isPreserved_17 : decode cX1_isPreserved 17 = .ok (.iaload, 1) := by decide +kernel
theorem dX1_isPreserved_18 : decode cX1_isPreserved 18 = .ok (.iload_n 2, 1) := by decide +kernel
theorem dX1_isPreserved_19 : decode cX1_isPreserved 19 = .ok (.iload_n 3, 1) := by decide +kernel
theorem dX1_isPreserved_20 : decode cX1_isPreserved 20 = .ok (.invokestatic 149, 3) := by decide +kernel
theorem dX1_isPreserved_23 : decode cX1_isPreserved 23 = .ok (.ifCond .ne 7, 3) := by decide +kernel
theorem dX1_isPreserved_26 : decode cX1_isPreserved 26 = .ok (.iconst 1, 1) := by decide +kernel
theorem dX1_isPreserved_27 : decode cX1_isPreserved 27 = .ok (.goto 4, 3) := by decide +kernel
theorem dX1_isPreserved_30 : decode cX1_isPreserved 30 = .ok (.iconst 0, 1) := by decide +kernel
theorem dX1_isPreserved_31 : decode cX1_isPreserved 31 = .ok (.ireturn, 1) := by decide +kernel
theorem dX1_areAllPreserved_0 : decode cX1_areAllPreserved 0 = .ok (.iconst 0, 1) := by decide +kernel
theorem dX1_areAllPreserved_1 : decode cX1_areAllPreserved 1 = .ok (.istore_n 3, 1) := by decide +kernel
theorem dX1_areAllPreserved_2 : decode cX1_areAllPreserved 2 = .ok (.iload_n 3, 1) := by decide +kernel
theorem dX1_areAllPreserved_3 : decode cX1_areAllPreserved 3 = .ok (.aload_n 0, 1) := by decide +kernel
theorem dX1_areAllPreserved_4 : decode cX1_areAllPreserved 4 = .ok (.getfield 10, 3) := by decide +kernel
theorem dX1_areAllPreserved_7 : decode cX1_areAllPreserved 7 = .ok (.getfield 97, 3) := by decide +kernel
theorem dX1_areAllPreserved_10 : decode cX1_areAllPreserved 10 = .ok (.if_icmp .ge 21, 3) := by decide +kernel
theorem dX1_areAllPreserved_13 : decode cX1_areAllPreserved 13 = .ok (.aload_n 0, 1) := by decide +kernel
theorem dX1_areAllPreserved_14 : decode cX1_areAllPreserved 14 = .ok (.iload_n 3, 1) := by decide +kernel
theorem dX1_areAllPreserved_15 : decode cX1_areAllPreserved 15 = .ok (.iload_n 1, 1) := by decide +kernel
theorem dX1_areAllPreserved_16 : decode cX1_areAllPreserved 16 = .ok (.iload_n 2, 1) := by decide +kernel
theorem dX1_areAllPreserved_17 : decode cX1_areAllPreserved 17 = .ok (.invokevirtual 123, 3) := by decide +kernel
theorem dX1_areAllPreserved_20 : decode cX1_areAllPreserved 20 = .ok (.ifCond .ne 5, 3) := by decide +kernel
theorem dX1_areAllPreserved_23 : decode cX1_areAllPreserved 23 = .ok (.iconst 0, 1) := by decide +kernel
theorem dX1_areAllPreserved_24 : decode cX1_areAllPreserved 24 = .ok (.ireturn, 1) := by decide +kernel
theorem dX1_areAllPreserved_25 : decode cX1_areAllPreserved 25 = .ok (.iinc 3 1, 3) := by decide +kernel
theorem dX1_areAllPreserved_28 : decode cX1_areAllPreserved 28 = .ok (.goto (-26), 3) := by decide +kernel
theorem dX1_areAllPreserved_31 : decode cX1_areAllPreserved 31 = .ok (.iconst 1, 1) := by decide +kernel
theorem dX1_areAllPreserved_32 : decode cX1_areAllPreserved 32 = .ok (.ireturn, 1) := by decide +kernel
theorem dX1_isOfKind_0 : decode cX1_isOfKind 0 = .ok (.aload_n 0, 1) := by decide +kernel
theorem dX1_isOfKind_1 : decode cX1_isOfKind 1 = .ok (.getstatic 163, 3) := by decide +kernel
theorem dX1_isOfKind_4 : decode cX1_isOfKind 4 = .ok (.iload_n 1, 1) := by decide +kernel
theorem dX1_isOfKind_5 : decode cX1_isOfKind 5 = .ok (.iaload, 1) := by decide +kernel
theorem dX1_isOfKind_6 : decode cX1_isOfKind 6 = .ok (.getstatic 166, 3) := by decide +kernel
theorem dX1_isOfKind_9 : decode cX1_isOfKind 9 = .ok (.iload_n 1, 1) := by decide +kernel
theorem dX1_isOfKind_10 : decode cX1_isOfKind 10 = .ok (.iaload, 1) := by decide +kernel
theorem dX1_isOfKind_11 : decode cX1_isOfKind 11 = .ok (.invokevirtual 127, 3) := by decide +kernel
theorem dX1_isOfKind_14 : decode cX1_isOfKind 14 = .ok (.ireturn, 1) := by decide +kernel
theorem dX1_packedVariables_0 : decode cX1_packedVariables 0 = .ok (.iload_n 1, 1) := by decide +kernel
theorem dX1_packedVariables_1 : decode cX1_packedVariables 1 = .ok (.iload_n 2, 1) := by decide +kernel
theorem dX1_packedVariables_2 : decode cX1_packedVariables 2 = .ok (.iconst 4, 1) := by decide +kernel
theorem dX1_packedVariables_3 : decode cX1_packedVariables 3 = .ok (.ishl, 1) := by decide +kernel
theorem dX1_packedVariables_4 : decode cX1_packedVariables 4 = .ok (.ior, 1) := by decide +kernel
theorem dX1_packedVariables_5 : decode cX1_packedVariables 5 = .ok (.iload_n 3, 1) := by decide +kernel
theorem dX1_packedVariables_6 : decode cX1_packedVariables 6 = .ok (.bipush 8, 2) := by decide +kernel
theorem dX1_packedVariables_8 : decode cX1_packedVariables 8 = .ok (.ishl, 1) := by decide +kernel
theorem dX1_packedVariables_9 : decode cX1_packedVariables 9 = .ok (.ior, 1) := by decide +kernel
theorem dX1_packedVariables_10 : decode cX1_packedVariables 10 = .ok (.iload 4, 2) := by decide +kernel
theorem dX1_packedVariables_12 : decode cX1_packedVariables 12 = .ok (.bipush 12, 2) := by decide +kernel
theorem dX1_packedVariables_14 : decode cX1_packedVariables 14 = .ok (.ishl, 1) := by decide +kernel
theorem dX1_packedVariables_15 : decode cX1_packedVariables 15 = .ok (.ior, 1) := by decide +kernel
theorem dX1_packedVariables_16 : decode cX1_packedVariables 16 = .ok (.istore 5, 2) := by decide +kernel
theorem dX1_packedVariables_18 : decode cX1_packedVariables 18 = .ok (.iload 5, 2) := by decide +kernel
theorem dX1_packedVariables_20 : decode cX1_packedVariables 20 = .ok (.iconst 1, 1) := by decide +kernel
theorem dX1_packedVariables_21 : decode cX1_packedVariables 21 = .ok (.iconst 4, 1) := by decide +kernel
theorem dX1_packedVariables_22 : decode cX1_packedVariables 22 = .ok (.iload_n 0, 1) := by decide +kernel
theorem dX1_packedVariables_23 : decode cX1_packedVariables 23 = .ok (.imul, 1) := by decide +kernel
theorem dX1_packedVariables_24 : decode cX1_packedVariables 24 = .ok (.ishl, 1) := by decide +kernel
theorem dX1_packedVariables_25 : decode cX1_packedVariables 25 = .ok (.iconst 1, 1) := by decide +kernel
theorem dX1_packedVariables_26 : decode cX1_packedVariables 26 = .ok (.isub, 1) := by decide +kernel
theorem dX1_packedVariables_27 : decode cX1_packedVariables 27 = .ok (.iand, 1) := by decide +kernel
theorem dX1_packedVariables_28 : decode cX1_packedVariables 28 = .ok (.ireturn, 1) := by decide +kernel
theorem dX1_wrongPosition_0 : decode cX1_wrongPosition 0 = .ok (.iconst 0, 1) := by decide +kernel
theorem dX1_wrongPosition_1 : decode cX1_wrongPosition 1 = .ok (.istore_n 2, 1) := by decide +kernel
theorem dX1_wrongPosition_2 : decode cX1_wrongPosition 2 = .ok (.iconst 0, 1) := by decide +kernel
theorem dX1_wrongPosition_3 : decode cX1_wrongPosition 3 = .ok (.istore_n 3, 1) := by decide +kernel
theorem dX1_wrongPosition_4 : decode cX1_wrongPosition 4 = .ok (.iconst 0, 1) := by decide +kernel
theorem dX1_wrongPosition_5 : decode cX1_wrongPosition 5 = .ok (.istore 4, 2) := by decide +kernel
theorem dX1_wrongPosition_7 : decode cX1_wrongPosition 7 = .ok (.iload 4, 2) := by decide +kernel
theorem dX1_wrongPosition_9 : decode cX1_wrongPosition 9 = .ok (.iload_n 1, 1) := by decide +kernel
theorem dX1_wrongPosition_10 : decode cX1_wrongPosition 10 = .ok (.if_icmp .ge 70, 3) := by decide +kernel
theorem dX1_wrongPosition_13 : decode cX1_wrongPosition 13 = .ok (.aload_n 0, 1) := by decide +kernel
theorem dX1_wrongPosition_14 : decode cX1_wrongPosition 14 = .ok (.getfield 23, 3) := by decide +kernel
theorem dX1_wrongPosition_17 : decode cX1_wrongPosition 17 = .ok (.iload 4, 2) := by decide +kernel
theorem dX1_wrongPosition_19 : decode cX1_wrongPosition 19 = .ok (.caload, 1) := by decide +kernel
theorem dX1_wrongPosition_20 : decode cX1_wrongPosition 20 = .ok (.istore 5, 2) := by decide +kernel
theorem dX1_wrongPosition_22 : decode cX1_wrongPosition 22 = .ok (.iload 5, 2) := by decide +kernel
theorem dX1_wrongPosition_24 : decode cX1_wrongPosition 24 = .ok (.bipush 44, 2) := by decide +kernel
theorem dX1_wrongPosition_26 : decode cX1_wrongPosition 26 = .ok (.if_icmp .ne 18, 3) := by decide +kernel
theorem dX1_wrongPosition_29 : decode cX1_wrongPosition 29 = .ok (.iload_n 3, 1) := by decide +kernel
theorem dX1_wrongPosition_30 : decode cX1_wrongPosition 30 = .ok (.iload_n 2, 1) := by decide +kernel
theorem dX1_wrongPosition_31 : decode cX1_wrongPosition 31 = .ok (.invokestatic 326, 3) := by decide +kernel
theorem dX1_wrongPosition_34 : decode cX1_wrongPosition 34 = .ok (.ifCond .eq 10, 3) := by decide +kernel
theorem dX1_wrongPosition_37 : decode cX1_wrongPosition 37 = .ok (.iload_n 3, 1) := by decide +kernel
theorem dX1_wrongPosition_38 : decode cX1_wrongPosition 38 = .ok (.istore_n 2, 1) := by decide +kernel
theorem dX1_wrongPosition_39 : decode cX1_wrongPosition 39 = .ok (.iconst 0, 1) := by decide +kernel
theorem dX1_wrongPosition_40 : decode cX1_wrongPosition 40 = .ok (.istore_n 3, 1) := by decide +kernel
theorem dX1_wrongPosition_41 : decode cX1_wrongPosition 41 = .ok (.goto 33, 3) := by decide +kernel
theorem dX1_wrongPosition_44 : decode cX1_wrongPosition 44 = .ok (.iload 5, 2) := by decide +kernel
theorem dX1_wrongPosition_46 : decode cX1_wrongPosition 46 = .ok (.invokestatic 329, 3) := by decide +kernel
theorem dX1_wrongPosition_49 : decode cX1_wrongPosition 49 = .ok (.ifCond .eq 22, 3) := by decide +kernel
theorem dX1_wrongPosition_52 : decode cX1_wrongPosition 52 = .ok (.iload_n 3, 1) := by decide +kernel
theorem dX1_wrongPosition_53 : decode cX1_wrongPosition 53 = .ok (.iload_n 2, 1) := by decide +kernel
theorem dX1_wrongPosition_54 : decode cX1_wrongPosition 54 = .ok (.ifCond .ne 7, 3) := by decide +kernel
theorem dX1_wrongPosition_57 : decode cX1_wrongPosition 57 = .ok (.iconst 4, 1) := by decide +kernel
theorem dX1_wrongPosition_58 : decode cX1_wrongPosition 58 = .ok (.goto 4, 3) := by decide +kernel
theorem dX1_wrongPosition_61 : decode cX1_wrongPosition 61 = .ok (.iload_n 2, 1) := by decide +kernel
theorem dX1_wrongPosition_62 : decode cX1_wrongPosition 62 = .ok (.if_icmp .ge 9, 3) := by decide +kernel
theorem dX1_wrongPosition_65 : decode cX1_wrongPosition 65 = .ok (.iinc 3 1, 3) := by decide +kernel
theorem dX1_wrongPosition_68 : decode cX1_wrongPosition 68 = .ok (.goto 6, 3) := by decide +kernel
theorem dX1_wrongPosition_71 : decode cX1_wrongPosition 71 = .ok (.iload 4, 2) := by decide +kernel
theorem dX1_wrongPosition_73 : decode cX1_wrongPosition 73 = .ok (.ireturn, 1) := by decide +kernel
theorem dX1_wrongPosition_74 : decode cX1_wrongPosition 74 = .ok (.iinc 4 1, 3) := by decide +kernel
theorem dX1_wrongPosition_77 : decode cX1_wrongPosition 77 = .ok (.goto (-70), 3) := by decide +kernel
theorem dX1_wrongPosition_80 : decode cX1_wrongPosition 80 = .ok (.iload_n 3, 1) := by decide +kernel
theorem dX1_wrongPosition_81 : decode cX1_wrongPosition 81 = .ok (.iload_n 2, 1) := by decide +kernel
theorem dX1_wrongPosition_82 : decode cX1_wrongPosition 82 = .ok (.invokestatic 326, 3) := by decide +kernel
theorem dX1_wrongPosition_85 : decode cX1_wrongPosition 85 = .ok (.ifCond .eq 7, 3) := by decide +kernel
theorem dX1_wrongPosition_88 : decode cX1_wrongPosition 88 = .ok (.iconst (-1), 1) := by decide +kernel
theorem dX1_wrongPosition_89 : decode cX1_wrongPosition 89 = .ok (.goto 4, 3) := by decide +kernel
theorem dX1_wrongPosition_92 : decode cX1_wrongPosition 92 = .ok (.iload_n 1, 1) := by decide +kernel
theorem dX1_wrongPosition_93 : decode cX1_wrongPosition 93 = .ok (.ireturn, 1) := by decide +kernel
theorem dX1_isWholeTuple_0 : decode cX1_isWholeTuple 0 = .ok (.iload_n 1, 1) := by decide +kernel
theorem dX1_isWholeTuple_1 : decode cX1_isWholeTuple 1 = .ok (.ifCond .ne 15, 3) := by decide +kernel
theorem dX1_isWholeTuple_4 : decode cX1_isWholeTuple 4 = .ok (.iload_n 0, 1) := by decide +kernel
theorem dX1_isWholeTuple_5 : decode cX1_isWholeTuple 5 = .ok (.ifCond .le 7, 3) := by decide +kernel
theorem dX1_isWholeTuple_8 : decode cX1_isWholeTuple 8 = .ok (.iconst 1, 1) := by decide +kernel
theorem dX1_isWholeTuple_9 : decode cX1_isWholeTuple 9 = .ok (.goto 17, 3) := by decide +kernel
theorem dX1_isWholeTuple_12 : decode cX1_isWholeTuple 12 = .ok (.iconst 0, 1) := by decide +kernel
theorem dX1_isWholeTuple_13 : decode cX1_isWholeTuple 13 = .ok (.goto 13, 3) := by decide +kernel
theorem dX1_isWholeTuple_16 : decode cX1_isWholeTuple 16 = .ok (.iload_n 0, 1) := by decide +kernel
theorem dX1_isWholeTuple_17 : decode cX1_isWholeTuple 17 = .ok (.iload_n 1, 1) := by decide +kernel
theorem dX1_isWholeTuple_18 : decode cX1_isWholeTuple 18 = .ok (.if_icmp .ne 7, 3) := by decide +kernel
theorem dX1_isWholeTuple_21 : decode cX1_isWholeTuple 21 = .ok (.iconst 1, 1) := by decide +kernel
theorem dX1_isWholeTuple_22 : decode cX1_isWholeTuple 22 = .ok (.goto 4, 3) := by decide +kernel
theorem dX1_isWholeTuple_25 : decode cX1_isWholeTuple 25 = .ok (.iconst 0, 1) := by decide +kernel
theorem dX1_isWholeTuple_26 : decode cX1_isWholeTuple 26 = .ok (.ireturn, 1) := by decide +kernel
theorem dX1_isDigit_0 : decode cX1_isDigit 0 = .ok (.iload_n 0, 1) := by decide +kernel
theorem dX1_isDigit_1 : decode cX1_isDigit 1 = .ok (.bipush 48, 2) := by decide +kernel
theorem dX1_isDigit_3 : decode cX1_isDigit 3 = .ok (.if_icmp .eq 9, 3) := by decide +kernel
theorem dX1_isDigit_6 : decode cX1_isDigit 6 = .ok (.iload_n 0, 1) := by decide +kernel
theorem dX1_isDigit_7 : decode cX1_isDigit 7 = .ok (.bipush 49, 2) := by decide +kernel
theorem dX1_isDigit_9 : decode cX1_isDigit 9 = .ok (.if_icmp .ne 7, 3) := by decide +kernel
theorem dX1_isDigit_12 : decode cX1_isDigit 12 = .ok (.iconst 1, 1) := by decide +kernel
theorem dX1_isDigit_13 : decode cX1_isDigit 13 = .ok (.goto 4, 3) := by decide +kernel
theorem dX1_isDigit_16 : decode cX1_isDigit 16 = .ok (.iconst 0, 1) := by decide +kernel
theorem dX1_isDigit_17 : decode cX1_isDigit 17 = .ok (.ireturn, 1) := by decide +kernel
theorem dX1_firstTupleLength_0 : decode cX1_firstTupleLength 0 = .ok (.iconst 0, 1) := by decide +kernel
theorem dX1_firstTupleLength_1 : decode cX1_firstTupleLength 1 = .ok (.istore_n 2, 1) := by decide +kernel
theorem dX1_firstTupleLength_2 : decode cX1_firstTupleLength 2 = .ok (.iload_n 2, 1) := by decide +kernel
theorem dX1_firstTupleLength_3 : decode cX1_firstTupleLength 3 = .ok (.iload_n 1, 1) := by decide +kernel
theorem dX1_firstTupleLength_4 : decode cX1_firstTupleLength 4 = .ok (.if_icmp .ge 25, 3) := by decide +kernel
theorem dX1_firstTupleLength_7 : decode cX1_firstTupleLength 7 = .ok (.iload_n 2, 1) := by decide +kernel
theorem dX1_firstTupleLength_8 : decode cX1_firstTupleLength 8 = .ok (.iconst 4, 1) := by decide +kernel
theorem dX1_firstTupleLength_9 : decode cX1_firstTupleLength 9 = .ok (.if_icmp .ge 20, 3) := by decide +kernel
theorem dX1_firstTupleLength_12 : decode cX1_firstTupleLength 12 = .ok (.aload_n 0, 1) := by decide +kernel
theorem dX1_firstTupleLength_13 : decode cX1_firstTupleLength 13 = .ok (.getfield 23, 3) := by decide +kernel
theorem dX1_firstTupleLength_16 : decode cX1_firstTupleLength 16 = .ok (.iload_n 2, 1) := by decide +kernel
theorem dX1_firstTupleLength_17 : decode cX1_firstTupleLength 17 = .ok (.caload, 1) := by decide +kernel
theorem dX1_firstTupleLength_18 : decode cX1_firstTupleLength 18 = .ok (.bipush 44, 2) := by decide +kernel
theorem dX1_firstTupleLength_20 : decode cX1_firstTupleLength 20 = .ok (.if_icmp .eq 9, 3) := by decide +kernel
theorem dX1_firstTupleLength_23 : decode cX1_firstTupleLength 23 = .ok (.iinc 2 1, 3) := by decide +kernel
theorem dX1_firstTupleLength_26 : decode cX1_firstTupleLength 26 = .ok (.goto (-24), 3) := by decide +kernel
theorem dX1_firstTupleLength_29 : decode cX1_firstTupleLength 29 = .ok (.iload_n 2, 1) := by decide +kernel
theorem dX1_firstTupleLength_30 : decode cX1_firstTupleLength 30 = .ok (.ireturn, 1) := by decide +kernel
theorem dX1_readTuples_0 : decode cX1_readTuples 0 = .ok (.iconst 0, 1) := by decide +kernel
theorem dX1_readTuples_1 : decode cX1_readTuples 1 = .ok (.istore_n 3, 1) := by decide +kernel
theorem dX1_readTuples_2 : decode cX1_readTuples 2 = .ok (.iconst 0, 1) := by decide +kernel
theorem dX1_readTuples_3 : decode cX1_readTuples 3 = .ok (.istore 4, 2) := by decide +kernel
theorem dX1_readTuples_5 : decode cX1_readTuples 5 = .ok (.iload 4, 2) := by decide +kernel
theorem dX1_readTuples_7 : decode cX1_readTuples 7 = .ok (.iload_n 1, 1) := by decide +kernel
theorem dX1_readTuples_8 : decode cX1_readTuples 8 = .ok (.iadd, 1) := by decide +kernel
theorem dX1_readTuples_9 : decode cX1_readTuples 9 = .ok (.iload_n 2, 1) := by decide +kernel
theorem dX1_readTuples_10 : decode cX1_readTuples 10 = .ok (.if_icmp .gt 63, 3) := by decide +kernel
theorem dX1_readTuples_13 : decode cX1_readTuples 13 = .ok (.iconst 0, 1) := by decide +kernel
theorem dX1_readTuples_14 : decode cX1_readTuples 14 = .ok (.istore 5, 2) := by decide +kernel
theorem dX1_readTuples_16 : decode cX1_readTuples 16 = .ok (.iconst 0, 1) := by decide +kernel
theorem dX1_readTuples_17 : decode cX1_readTuples 17 = .ok (.istore 6, 2) := by decide +kernel
theorem dX1_readTuples_19 : decode cX1_readTuples 19 = .ok (.iload 6, 2) := by decide +kernel
theorem dX1_readTuples_21 : decode cX1_readTuples 21 = .ok (.iload_n 1, 1) := by decide +kernel
theorem dX1_readTuples_22 : decode cX1_readTuples 22 = .ok (.if_icmp .ge 33, 3) := by decide +kernel
theorem dX1_readTuples_25 : decode cX1_readTuples 25 = .ok (.aload_n 0, 1) := by decide +kernel
theorem dX1_readTuples_26 : decode cX1_readTuples 26 = .ok (.getfield 23, 3) := by decide +kernel
theorem dX1_readTuples_29 : decode cX1_readTuples 29 = .ok (.iload 4, 2) := by decide +kernel
theorem dX1_readTuples_31 : decode cX1_readTuples 31 = .ok (.iload 6, 2) := by decide +kernel
theorem dX1_readTuples_33 : decode cX1_readTuples 33 = .ok (.iadd, 1) := by decide +kernel
theorem dX1_readTuples_34 : decode cX1_readTuples 34 = .ok (.caload, 1) := by decide +kernel
theorem dX1_readTuples_35 : decode cX1_readTuples 35 = .ok (.bipush 49, 2) := by decide +kernel
theorem dX1_readTuples_37 : decode cX1_readTuples 37 = .ok (.if_icmp .ne 12, 3) := by decide +kernel
theorem dX1_readTuples_40 : decode cX1_readTuples 40 = .ok (.iload 5, 2) := by decide +kernel
theorem dX1_readTuples_42 : decode cX1_readTuples 42 = .ok (.iconst 1, 1) := by decide +kernel
theorem dX1_readTuples_43 : decode cX1_readTuples 43 = .ok (.iload 6, 2) := by decide +kernel
theorem dX1_readTuples_45 : decode cX1_readTuples 45 = .ok (.ishl, 1) := by decide +kernel
theorem dX1_readTuples_46 : decode cX1_readTuples 46 = .ok (.ior, 1) := by decide +kernel
theorem dX1_readTuples_47 : decode cX1_readTuples 47 = .ok (.istore 5, 2) := by decide +kernel
theorem dX1_readTuples_49 : decode cX1_readTuples 49 = .ok (.iinc 6 1, 3) := by decide +kernel
theorem dX1_readTuples_52 : decode cX1_readTuples 52 = .ok (.goto (-33), 3) := by decide +kernel
theorem dX1_readTuples_55 : decode cX1_readTuples 55 = .ok (.iload_n 3, 1) := by decide +kernel
theorem dX1_readTuples_56 : decode cX1_readTuples 56 = .ok (.iconst 1, 1) := by decide +kernel
theorem dX1_readTuples_57 : decode cX1_readTuples 57 = .ok (.iload 5, 2) := by decide +kernel
theorem dX1_readTuples_59 : decode cX1_readTuples 59 = .ok (.ishl, 1) := by decide +kernel
theorem dX1_readTuples_60 : decode cX1_readTuples 60 = .ok (.ior, 1) := by decide +kernel
theorem dX1_readTuples_61 : decode cX1_readTuples 61 = .ok (.istore_n 3, 1) := by decide +kernel
theorem dX1_readTuples_62 : decode cX1_readTuples 62 = .ok (.iload 4, 2) := by decide +kernel
theorem dX1_readTuples_64 : decode cX1_readTuples 64 = .ok (.iload_n 1, 1) := by decide +kernel
theorem dX1_readTuples_65 : decode cX1_readTuples 65 = .ok (.iconst 1, 1) := by decide +kernel
theorem dX1_readTuples_66 : decode cX1_readTuples 66 = .ok (.iadd, 1) := by decide +kernel
theorem dX1_readTuples_67 : decode cX1_readTuples 67 = .ok (.iadd, 1) := by decide +kernel
theorem dX1_readTuples_68 : decode cX1_readTuples 68 = .ok (.istore 4, 2) := by decide +kernel
theorem dX1_readTuples_70 : decode cX1_readTuples 70 = .ok (.goto (-65), 3) := by decide +kernel
theorem dX1_readTuples_73 : decode cX1_readTuples 73 = .ok (.iload_n 3, 1) := by decide +kernel
theorem dX1_readTuples_74 : decode cX1_readTuples 74 = .ok (.ireturn, 1) := by decide +kernel
theorem dX1_writeTuple_0 : decode cX1_writeTuple 0 = .ok (.aload_n 0, 1) := by decide +kernel
theorem dX1_writeTuple_1 : decode cX1_writeTuple 1 = .ok (.getfield 37, 3) := by decide +kernel
theorem dX1_writeTuple_4 : decode cX1_writeTuple 4 = .ok (.ifCond .le 9, 3) := by decide +kernel
theorem dX1_writeTuple_7 : decode cX1_writeTuple 7 = .ok (.aload_n 0, 1) := by decide +kernel
theorem dX1_writeTuple_8 : decode cX1_writeTuple 8 = .ok (.bipush 44, 2) := by decide +kernel
theorem dX1_writeTuple_10 : decode cX1_writeTuple 10 = .ok (.invokevirtual 333, 3) := by decide +kernel
theorem dX1_writeTuple_13 : decode cX1_writeTuple 13 = .ok (.iconst 0, 1) := by decide +kernel
theorem dX1_writeTuple_14 : decode cX1_writeTuple 14 = .ok (.istore_n 3, 1) := by decide +kernel
theorem dX1_writeTuple_15 : decode cX1_writeTuple 15 = .ok (.iload_n 3, 1) := by decide +kernel
theorem dX1_writeTuple_16 : decode cX1_writeTuple 16 = .ok (.iload_n 1, 1) := by decide +kernel
theorem dX1_writeTuple_17 : decode cX1_writeTuple 17 = .ok (.if_icmp .ge 28, 3) := by decide +kernel
theorem dX1_writeTuple_20 : decode cX1_writeTuple 20 = .ok (.aload_n 0, 1) := by decide +kernel
theorem dX1_writeTuple_21 : decode cX1_writeTuple 21 = .ok (.iload_n 2, 1) := by decide +kernel
theorem dX1_writeTuple_22 : decode cX1_writeTuple 22 = .ok (.iload_n 3, 1) := by decide +kernel
theorem dX1_writeTuple_23 : decode cX1_writeTuple 23 = .ok (.invokestatic 85, 3) := by decide +kernel
theorem dX1_writeTuple_26 : decode cX1_writeTuple 26 = .ok (.ifCond .eq 8, 3) := by decide +kernel
theorem dX1_writeTuple_29 : decode cX1_writeTuple 29 = .ok (.bipush 49, 2) := by decide +kernel
theorem dX1_writeTuple_31 : decode cX1_writeTuple 31 = .ok (.goto 5, 3) := by decide +kernel
theorem dX1_writeTuple_34 : decode cX1_writeTuple 34 = .ok (.bipush 48, 2) := by decide +kernel
theorem dX1_writeTuple_36 : decode cX1_writeTuple 36 = .ok (.invokevirtual 333, 3) := by decide +kernel
theorem dX1_writeTuple_39 : decode cX1_writeTuple 39 = .ok (.iinc 3 1, 3) := by decide +kernel
theorem dX1_writeTuple_42 : decode cX1_writeTuple 42 = .ok (.goto (-27), 3) := by decide +kernel
theorem dX1_writeTuple_45 : decode cX1_writeTuple 45 = .ok (.return_, 1) := by decide +kernel
theorem dX1_writeCharacter_0 : decode cX1_writeCharacter 0 = .ok (.aload_n 0, 1) := by decide +kernel
theorem dX1_writeCharacter_1 : decode cX1_writeCharacter 1 = .ok (.getfield 37, 3) := by decide +kernel
theorem dX1_writeCharacter_4 : decode cX1_writeCharacter 4 = .ok (.bipush 79, 2) := by decide +kernel
theorem dX1_writeCharacter_6 : decode cX1_writeCharacter 6 = .ok (.if_icmp .ge 23, 3) := by decide +kernel
theorem dX1_writeCharacter_9 : decode cX1_writeCharacter 9 = .ok (.aload_n 0, 1) := by decide +kernel
theorem dX1_writeCharacter_10 : decode cX1_writeCharacter 10 = .ok (.getfield 34, 3) := by decide +kernel
theorem dX1_writeCharacter_13 : decode cX1_writeCharacter 13 = .ok (.aload_n 0, 1) := by decide +kernel
theorem dX1_writeCharacter_14 : decode cX1_writeCharacter 14 = .ok (.getfield 37, 3) := by decide +kernel
theorem dX1_writeCharacter_17 : decode cX1_writeCharacter 17 = .ok (.iload_n 1, 1) := by decide +kernel
theorem dX1_writeCharacter_18 : decode cX1_writeCharacter 18 = .ok (.castore, 1) := by decide +kernel
theorem dX1_writeCharacter_19 : decode cX1_writeCharacter 19 = .ok (.aload_n 0, 1) := by decide +kernel
theorem dX1_writeCharacter_20 : decode cX1_writeCharacter 20 = .ok (.dup, 1) := by decide +kernel
theorem dX1_writeCharacter_21 : decode cX1_writeCharacter 21 = .ok (.getfield 37, 3) := by decide +kernel
theorem dX1_writeCharacter_24 : decode cX1_writeCharacter 24 = .ok (.iconst 1, 1) := by decide +kernel
theorem dX1_writeCharacter_25 : decode cX1_writeCharacter 25 = .ok (.iadd, 1) := by decide +kernel
theorem dX1_writeCharacter_26 : decode cX1_writeCharacter 26 = .ok (.putfield 37, 3) := by decide +kernel
theorem dX1_writeCharacter_29 : decode cX1_writeCharacter 29 = .ok (.return_, 1) := by decide +kernel
theorem dJ6_bitCount_0f7a4_0 : decode cJ6_bitCount_0f7a4 0 = .ok (.iload_n 0, 1) := by decide +kernel
theorem dJ6_bitCount_0f7a4_1 : decode cJ6_bitCount_0f7a4 1 = .ok (.iload_n 0, 1) := by decide +kernel
theorem dJ6_bitCount_0f7a4_2 : decode cJ6_bitCount_0f7a4 2 = .ok (.iconst 1, 1) := by decide +kernel
theorem dJ6_bitCount_0f7a4_3 : decode cJ6_bitCount_0f7a4 3 = .ok (.iushr, 1) := by decide +kernel
theorem dJ6_bitCount_0f7a4_4 : decode cJ6_bitCount_0f7a4 4 = .ok (.ldc_w 265, 3) := by decide +kernel
theorem dJ6_bitCount_0f7a4_7 : decode cJ6_bitCount_0f7a4 7 = .ok (.iand, 1) := by decide +kernel
theorem dJ6_bitCount_0f7a4_8 : decode cJ6_bitCount_0f7a4 8 = .ok (.isub, 1) := by decide +kernel
theorem dJ6_bitCount_0f7a4_9 : decode cJ6_bitCount_0f7a4 9 = .ok (.istore_n 0, 1) := by decide +kernel
theorem dJ6_bitCount_0f7a4_10 : decode cJ6_bitCount_0f7a4 10 = .ok (.iload_n 0, 1) := by decide +kernel
theorem dJ6_bitCount_0f7a4_11 : decode cJ6_bitCount_0f7a4 11 = .ok (.ldc_w 266, 3) := by decide +kernel
theorem dJ6_bitCount_0f7a4_14 : decode cJ6_bitCount_0f7a4 14 = .ok (.iand, 1) := by decide +kernel
theorem dJ6_bitCount_0f7a4_15 : decode cJ6_bitCount_0f7a4 15 = .ok (.iload_n 0, 1) := by decide +kernel
theorem dJ6_bitCount_0f7a4_16 : decode cJ6_bitCount_0f7a4 16 = .ok (.iconst 2, 1) := by decide +kernel
theorem dJ6_bitCount_0f7a4_17 : decode cJ6_bitCount_0f7a4 17 = .ok (.iushr, 1) := by decide +kernel
theorem dJ6_bitCount_0f7a4_18 : decode cJ6_bitCount_0f7a4 18 = .ok (.ldc_w 266, 3) := by decide +kernel
theorem dJ6_bitCount_0f7a4_21 : decode cJ6_bitCount_0f7a4 21 = .ok (.iand, 1) := by decide +kernel
theorem dJ6_bitCount_0f7a4_22 : decode cJ6_bitCount_0f7a4 22 = .ok (.iadd, 1) := by decide +kernel
theorem dJ6_bitCount_0f7a4_23 : decode cJ6_bitCount_0f7a4 23 = .ok (.istore_n 0, 1) := by decide +kernel
theorem dJ6_bitCount_0f7a4_24 : decode cJ6_bitCount_0f7a4 24 = .ok (.iload_n 0, 1) := by decide +kernel
theorem dJ6_bitCount_0f7a4_25 : decode cJ6_bitCount_0f7a4 25 = .ok (.iload_n 0, 1) := by decide +kernel
theorem dJ6_bitCount_0f7a4_26 : decode cJ6_bitCount_0f7a4 26 = .ok (.iconst 4, 1) := by decide +kernel
theorem dJ6_bitCount_0f7a4_27 : decode cJ6_bitCount_0f7a4 27 = .ok (.iushr, 1) := by decide +kernel
theorem dJ6_bitCount_0f7a4_28 : decode cJ6_bitCount_0f7a4 28 = .ok (.iadd, 1) := by decide +kernel
theorem dJ6_bitCount_0f7a4_29 : decode cJ6_bitCount_0f7a4 29 = .ok (.ldc_w 267, 3) := by decide +kernel
theorem dJ6_bitCount_0f7a4_32 : decode cJ6_bitCount_0f7a4 32 = .ok (.iand, 1) := by decide +kernel
theorem dJ6_bitCount_0f7a4_33 : decode cJ6_bitCount_0f7a4 33 = .ok (.istore_n 0, 1) := by decide +kernel
theorem dJ6_bitCount_0f7a4_34 : decode cJ6_bitCount_0f7a4 34 = .ok (.iload_n 0, 1) := by decide +kernel
theorem dJ6_bitCount_0f7a4_35 : decode cJ6_bitCount_0f7a4 35 = .ok (.iload_n 0, 1) := by decide +kernel
theorem dJ6_bitCount_0f7a4_36 : decode cJ6_bitCount_0f7a4 36 = .ok (.bipush 8, 2) := by decide +kernel
theorem dJ6_bitCount_0f7a4_38 : decode cJ6_bitCount_0f7a4 38 = .ok (.iushr, 1) := by decide +kernel
theorem dJ6_bitCount_0f7a4_39 : decode cJ6_bitCount_0f7a4 39 = .ok (.iadd, 1) := by decide +kernel
theorem dJ6_bitCount_0f7a4_40 : decode cJ6_bitCount_0f7a4 40 = .ok (.istore_n 0, 1) := by decide +kernel
theorem dJ6_bitCount_0f7a4_41 : decode cJ6_bitCount_0f7a4 41 = .ok (.iload_n 0, 1) := by decide +kernel
theorem dJ6_bitCount_0f7a4_42 : decode cJ6_bitCount_0f7a4 42 = .ok (.iload_n 0, 1) := by decide +kernel
theorem dJ6_bitCount_0f7a4_43 : decode cJ6_bitCount_0f7a4 43 = .ok (.bipush 16, 2) := by decide +kernel
theorem dJ6_bitCount_0f7a4_45 : decode cJ6_bitCount_0f7a4 45 = .ok (.iushr, 1) := by decide +kernel
theorem dJ6_bitCount_0f7a4_46 : decode cJ6_bitCount_0f7a4 46 = .ok (.iadd, 1) := by decide +kernel
theorem dJ6_bitCount_0f7a4_47 : decode cJ6_bitCount_0f7a4 47 = .ok (.istore_n 0, 1) := by decide +kernel
theorem dJ6_bitCount_0f7a4_48 : decode cJ6_bitCount_0f7a4 48 = .ok (.iload_n 0, 1) := by decide +kernel
theorem dJ6_bitCount_0f7a4_49 : decode cJ6_bitCount_0f7a4 49 = .ok (.bipush 63, 2) := by decide +kernel
theorem dJ6_bitCount_0f7a4_51 : decode cJ6_bitCount_0f7a4 51 = .ok (.iand, 1) := by decide +kernel
theorem dJ6_bitCount_0f7a4_52 : decode cJ6_bitCount_0f7a4 52 = .ok (.ireturn, 1) := by decide +kernel
theorem dJ13_bitCount_95d88_0 : decode cJ13_bitCount_95d88 0 = .ok (.lload_n 0, 1) := by decide +kernel
theorem dJ13_bitCount_95d88_1 : decode cJ13_bitCount_95d88 1 = .ok (.lload_n 0, 1) := by decide +kernel
theorem dJ13_bitCount_95d88_2 : decode cJ13_bitCount_95d88 2 = .ok (.iconst 1, 1) := by decide +kernel
theorem dJ13_bitCount_95d88_3 : decode cJ13_bitCount_95d88 3 = .ok (.lushr, 1) := by decide +kernel
theorem dJ13_bitCount_95d88_4 : decode cJ13_bitCount_95d88 4 = .ok (.ldc2_w 314, 3) := by decide +kernel
theorem dJ13_bitCount_95d88_7 : decode cJ13_bitCount_95d88 7 = .ok (.land, 1) := by decide +kernel
theorem dJ13_bitCount_95d88_8 : decode cJ13_bitCount_95d88 8 = .ok (.lsub, 1) := by decide +kernel
theorem dJ13_bitCount_95d88_9 : decode cJ13_bitCount_95d88 9 = .ok (.lstore_n 0, 1) := by decide +kernel
theorem dJ13_bitCount_95d88_10 : decode cJ13_bitCount_95d88 10 = .ok (.lload_n 0, 1) := by decide +kernel
theorem dJ13_bitCount_95d88_11 : decode cJ13_bitCount_95d88 11 = .ok (.ldc2_w 316, 3) := by decide +kernel
theorem dJ13_bitCount_95d88_14 : decode cJ13_bitCount_95d88 14 = .ok (.land, 1) := by decide +kernel
theorem dJ13_bitCount_95d88_15 : decode cJ13_bitCount_95d88 15 = .ok (.lload_n 0, 1) := by decide +kernel
theorem dJ13_bitCount_95d88_16 : decode cJ13_bitCount_95d88 16 = .ok (.iconst 2, 1) := by decide +kernel
theorem dJ13_bitCount_95d88_17 : decode cJ13_bitCount_95d88 17 = .ok (.lushr, 1) := by decide +kernel
theorem dJ13_bitCount_95d88_18 : decode cJ13_bitCount_95d88 18 = .ok (.ldc2_w 316, 3) := by decide +kernel
theorem dJ13_bitCount_95d88_21 : decode cJ13_bitCount_95d88 21 = .ok (.land, 1) := by decide +kernel
theorem dJ13_bitCount_95d88_22 : decode cJ13_bitCount_95d88 22 = .ok (.ladd, 1) := by decide +kernel
theorem dJ13_bitCount_95d88_23 : decode cJ13_bitCount_95d88 23 = .ok (.lstore_n 0, 1) := by decide +kernel
theorem dJ13_bitCount_95d88_24 : decode cJ13_bitCount_95d88 24 = .ok (.lload_n 0, 1) := by decide +kernel
theorem dJ13_bitCount_95d88_25 : decode cJ13_bitCount_95d88 25 = .ok (.lload_n 0, 1) := by decide +kernel
theorem dJ13_bitCount_95d88_26 : decode cJ13_bitCount_95d88 26 = .ok (.iconst 4, 1) := by decide +kernel
theorem dJ13_bitCount_95d88_27 : decode cJ13_bitCount_95d88 27 = .ok (.lushr, 1) := by decide +kernel
theorem dJ13_bitCount_95d88_28 : decode cJ13_bitCount_95d88 28 = .ok (.ladd, 1) := by decide +kernel
theorem dJ13_bitCount_95d88_29 : decode cJ13_bitCount_95d88 29 = .ok (.ldc2_w 318, 3) := by decide +kernel
theorem dJ13_bitCount_95d88_32 : decode cJ13_bitCount_95d88 32 = .ok (.land, 1) := by decide +kernel
theorem dJ13_bitCount_95d88_33 : decode cJ13_bitCount_95d88 33 = .ok (.lstore_n 0, 1) := by decide +kernel
theorem dJ13_bitCount_95d88_34 : decode cJ13_bitCount_95d88 34 = .ok (.lload_n 0, 1) := by decide +kernel
theorem dJ13_bitCount_95d88_35 : decode cJ13_bitCount_95d88 35 = .ok (.lload_n 0, 1) := by decide +kernel
theorem dJ13_bitCount_95d88_36 : decode cJ13_bitCount_95d88 36 = .ok (.bipush 8, 2) := by decide +kernel
theorem dJ13_bitCount_95d88_38 : decode cJ13_bitCount_95d88 38 = .ok (.lushr, 1) := by decide +kernel
theorem dJ13_bitCount_95d88_39 : decode cJ13_bitCount_95d88 39 = .ok (.ladd, 1) := by decide +kernel
theorem dJ13_bitCount_95d88_40 : decode cJ13_bitCount_95d88 40 = .ok (.lstore_n 0, 1) := by decide +kernel
theorem dJ13_bitCount_95d88_41 : decode cJ13_bitCount_95d88 41 = .ok (.lload_n 0, 1) := by decide +kernel
theorem dJ13_bitCount_95d88_42 : decode cJ13_bitCount_95d88 42 = .ok (.lload_n 0, 1) := by decide +kernel
theorem dJ13_bitCount_95d88_43 : decode cJ13_bitCount_95d88 43 = .ok (.bipush 16, 2) := by decide +kernel
theorem dJ13_bitCount_95d88_45 : decode cJ13_bitCount_95d88 45 = .ok (.lushr, 1) := by decide +kernel
theorem dJ13_bitCount_95d88_46 : decode cJ13_bitCount_95d88 46 = .ok (.ladd, 1) := by decide +kernel
theorem dJ13_bitCount_95d88_47 : decode cJ13_bitCount_95d88 47 = .ok (.lstore_n 0, 1) := by decide +kernel
theorem dJ13_bitCount_95d88_48 : decode cJ13_bitCount_95d88 48 = .ok (.lload_n 0, 1) := by decide +kernel
theorem dJ13_bitCount_95d88_49 : decode cJ13_bitCount_95d88 49 = .ok (.lload_n 0, 1) := by decide +kernel
theorem dJ13_bitCount_95d88_50 : decode cJ13_bitCount_95d88 50 = .ok (.bipush 32, 2) := by decide +kernel
theorem dJ13_bitCount_95d88_52 : decode cJ13_bitCount_95d88 52 = .ok (.lushr, 1) := by decide +kernel
theorem dJ13_bitCount_95d88_53 : decode cJ13_bitCount_95d88 53 = .ok (.ladd, 1) := by decide +kernel
theorem dJ13_bitCount_95d88_54 : decode cJ13_bitCount_95d88 54 = .ok (.lstore_n 0, 1) := by decide +kernel
theorem dJ13_bitCount_95d88_55 : decode cJ13_bitCount_95d88 55 = .ok (.lload_n 0, 1) := by decide +kernel
theorem dJ13_bitCount_95d88_56 : decode cJ13_bitCount_95d88 56 = .ok (.l2i, 1) := by decide +kernel
theorem dJ13_bitCount_95d88_57 : decode cJ13_bitCount_95d88 57 = .ok (.bipush 127, 2) := by decide +kernel
theorem dJ13_bitCount_95d88_59 : decode cJ13_bitCount_95d88 59 = .ok (.iand, 1) := by decide +kernel
theorem dJ13_bitCount_95d88_60 : decode cJ13_bitCount_95d88 60 = .ok (.ireturn, 1) := by decide +kernel
