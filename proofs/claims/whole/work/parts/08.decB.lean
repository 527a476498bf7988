theorem dX2_thrown_0 : decode cX2_thrown 0 = .ok (.aload_n 0, 1) := by decide +kernel
theorem dX2_thrown_1 : decode cX2_thrown 1 = .ok (.getfield 46, 3) := by decide +kernel
theorem dX2_thrown_4 : decode cX2_thrown 4 = .ok (.ireturn, 1) := by decide +kernel
theorem dX2_fails_0 : decode cX2_fails 0 = .ok (.aload_n 0, 1) := by decide +kernel
theorem dX2_fails_1 : decode cX2_fails 1 = .ok (.iload_n 1, 1) := by decide +kernel
theorem dX2_fails_2 : decode cX2_fails 2 = .ok (.putfield 46, 3) := by decide +kernel
theorem dX2_fails_5 : decode cX2_fails 5 = .ok (.iconst 0, 1) := by decide +kernel
theorem dX2_fails_6 : decode cX2_fails 6 = .ok (.ireturn, 1) := by decide +kernel
theorem dX2_refuses_0 : decode cX2_refuses 0 = .ok (.aload_n 0, 1) := by decide +kernel
theorem dX2_refuses_1 : decode cX2_refuses 1 = .ok (.iload_n 1, 1) := by decide +kernel
theorem dX2_refuses_2 : decode cX2_refuses 2 = .ok (.putfield 46, 3) := by decide +kernel
theorem dX2_refuses_5 : decode cX2_refuses 5 = .ok (.iconst 0, 1) := by decide +kernel
theorem dX2_refuses_6 : decode cX2_refuses 6 = .ok (.ireturn, 1) := by decide +kernel
theorem dX2_isBetween_0 : decode cX2_isBetween 0 = .ok (.iload_n 0, 1) := by decide +kernel
theorem dX2_isBetween_1 : decode cX2_isBetween 1 = .ok (.iload_n 1, 1) := by decide +kernel
theorem dX2_isBetween_2 : decode cX2_isBetween 2 = .ok (.if_icmp .lt 12, 3) := by decide +kernel
theorem dX2_isBetween_5 : decode cX2_isBetween 5 = .ok (.iload_n 0, 1) := by decide +kernel
theorem dX2_isBetween_6 : decode cX2_isBetween 6 = .ok (.iload_n 2, 1) := by decide +kernel
theorem dX2_isBetween_7 : decode cX2_isBetween 7 = .ok (.if_icmp .gt 7, 3) := by decide +kernel
theorem dX2_isBetween_10 : decode cX2_isBetween 10 = .ok (.iconst 1, 1) := by decide +kernel
theorem dX2_isBetween_11 : decode cX2_isBetween 11 = .ok (.goto 4, 3) := by decide +kernel
theorem dX2_isBetween_14 : decode cX2_isBetween 14 = .ok (.iconst 0, 1) := by decide +kernel
theorem dX2_isBetween_15 : decode cX2_isBetween 15 = .ok (.ireturn, 1) := by decide +kernel
theorem dX2_isBit_0 : decode cX2_isBit 0 = .ok (.iload_n 0, 1) := by decide +kernel
theorem dX2_isBit_1 : decode cX2_isBit 1 = .ok (.ifCond .eq 8, 3) := by decide +kernel
theorem dX2_isBit_4 : decode cX2_isBit 4 = .ok (.iload_n 0, 1) := by decide +kernel
theorem dX2_isBit_5 : decode cX2_isBit 5 = .ok (.iconst 1, 1) := by decide +kernel
theorem dX2_isBit_6 : decode cX2_isBit 6 = .ok (.if_icmp .ne 7, 3) := by decide +kernel
theorem dX2_isBit_9 : decode cX2_isBit 9 = .ok (.iconst 1, 1) := by decide +kernel
theorem dX2_isBit_10 : decode cX2_isBit 10 = .ok (.goto 4, 3) := by decide +kernel
theorem dX2_isBit_13 : decode cX2_isBit 13 = .ok (.iconst 0, 1) := by decide +kernel
theorem dX2_isBit_14 : decode cX2_isBit 14 = .ok (.ireturn, 1) := by decide +kernel
theorem dX2_bits_0 : decode cX2_bits 0 = .ok (.iconst 0, 1) := by decide +kernel
theorem dX2_bits_1 : decode cX2_bits 1 = .ok (.istore_n 1, 1) := by decide +kernel
theorem dX2_bits_2 : decode cX2_bits 2 = .ok (.iconst 0, 1) := by decide +kernel
theorem dX2_bits_3 : decode cX2_bits 3 = .ok (.istore_n 2, 1) := by decide +kernel
theorem dX2_bits_4 : decode cX2_bits 4 = .ok (.iload_n 2, 1) := by decide +kernel
theorem dX2_bits_5 : decode cX2_bits 5 = .ok (.bipush 16, 2) := by decide +kernel
theorem dX2_bits_7 : decode cX2_bits 7 = .ok (.if_icmp .ge 17, 3) := by decide +kernel
theorem dX2_bits_10 : decode cX2_bits 10 = .ok (.iload_n 1, 1) := by decide +kernel
theorem dX2_bits_11 : decode cX2_bits 11 = .ok (.iload_n 0, 1) := by decide +kernel
theorem dX2_bits_12 : decode cX2_bits 12 = .ok (.iload_n 2, 1) := by decide +kernel
theorem dX2_bits_13 : decode cX2_bits 13 = .ok (.ishr, 1) := by decide +kernel
theorem dX2_bits_14 : decode cX2_bits 14 = .ok (.iconst 1, 1) := by decide +kernel
theorem dX2_bits_15 : decode cX2_bits 15 = .ok (.iand, 1) := by decide +kernel
theorem dX2_bits_16 : decode cX2_bits 16 = .ok (.iadd, 1) := by decide +kernel
theorem dX2_bits_17 : decode cX2_bits 17 = .ok (.istore_n 1, 1) := by decide +kernel
theorem dX2_bits_18 : decode cX2_bits 18 = .ok (.iinc 2 1, 3) := by decide +kernel
theorem dX2_bits_21 : decode cX2_bits 21 = .ok (.goto (-17), 3) := by decide +kernel
theorem dX2_bits_24 : decode cX2_bits 24 = .ok (.iload_n 1, 1) := by decide +kernel
theorem dX2_bits_25 : decode cX2_bits 25 = .ok (.ireturn, 1) := by decide +kernel
theorem dX2_isRelation_0 : decode cX2_isRelation 0 = .ok (.iload_n 1, 1) := by decide +kernel
theorem dX2_isRelation_1 : decode cX2_isRelation 1 = .ok (.ifCond .lt 15, 3) := by decide +kernel
theorem dX2_isRelation_4 : decode cX2_isRelation 4 = .ok (.iload_n 1, 1) := by decide +kernel
theorem dX2_isRelation_5 : decode cX2_isRelation 5 = .ok (.aload_n 0, 1) := by decide +kernel
theorem dX2_isRelation_6 : decode cX2_isRelation 6 = .ok (.getfield 49, 3) := by decide +kernel
theorem dX2_isRelation_9 : decode cX2_isRelation 9 = .ok (.if_icmp .ge 7, 3) := by decide +kernel
theorem dX2_isRelation_12 : decode cX2_isRelation 12 = .ok (.iconst 1, 1) := by decide +kernel
theorem dX2_isRelation_13 : decode cX2_isRelation 13 = .ok (.goto 4, 3) := by decide +kernel
theorem dX2_isRelation_16 : decode cX2_isRelation 16 = .ok (.iconst 0, 1) := by decide +kernel
theorem dX2_isRelation_17 : decode cX2_isRelation 17 = .ok (.ireturn, 1) := by decide +kernel
theorem dX2_allOf_0 : decode cX2_allOf 0 = .ok (.iconst 1, 1) := by decide +kernel
theorem dX2_allOf_1 : decode cX2_allOf 1 = .ok (.iconst 1, 1) := by decide +kernel
theorem dX2_allOf_2 : decode cX2_allOf 2 = .ok (.iload_n 0, 1) := by decide +kernel
theorem dX2_allOf_3 : decode cX2_allOf 3 = .ok (.ishl, 1) := by decide +kernel
theorem dX2_allOf_4 : decode cX2_allOf 4 = .ok (.ishl, 1) := by decide +kernel
theorem dX2_allOf_5 : decode cX2_allOf 5 = .ok (.iconst 1, 1) := by decide +kernel
theorem dX2_allOf_6 : decode cX2_allOf 6 = .ok (.isub, 1) := by decide +kernel
theorem dX2_allOf_7 : decode cX2_allOf 7 = .ok (.ireturn, 1) := by decide +kernel
theorem dX2_isTuple_0 : decode cX2_isTuple 0 = .ok (.iload_n 1, 1) := by decide +kernel
theorem dX2_isTuple_1 : decode cX2_isTuple 1 = .ok (.ifCond .lt 14, 3) := by decide +kernel
theorem dX2_isTuple_4 : decode cX2_isTuple 4 = .ok (.iload_n 1, 1) := by decide +kernel
theorem dX2_isTuple_5 : decode cX2_isTuple 5 = .ok (.iconst 1, 1) := by decide +kernel
theorem dX2_isTuple_6 : decode cX2_isTuple 6 = .ok (.iload_n 0, 1) := by decide +kernel
theorem dX2_isTuple_7 : decode cX2_isTuple 7 = .ok (.ishl, 1) := by decide +kernel
theorem dX2_isTuple_8 : decode cX2_isTuple 8 = .ok (.if_icmp .ge 7, 3) := by decide +kernel
theorem dX2_isTuple_11 : decode cX2_isTuple 11 = .ok (.iconst 1, 1) := by decide +kernel
theorem dX2_isTuple_12 : decode cX2_isTuple 12 = .ok (.goto 4, 3) := by decide +kernel
theorem dX2_isTuple_15 : decode cX2_isTuple 15 = .ok (.iconst 0, 1) := by decide +kernel
theorem dX2_isTuple_16 : decode cX2_isTuple 16 = .ok (.ireturn, 1) := by decide +kernel
theorem dX2_adds_0 : decode cX2_adds 0 = .ok (.aload_n 0, 1) := by decide +kernel
theorem dX2_adds_1 : decode cX2_adds 1 = .ok (.iconst 0, 1) := by decide +kernel
theorem dX2_adds_2 : decode cX2_adds 2 = .ok (.putfield 46, 3) := by decide +kernel
theorem dX2_adds_5 : decode cX2_adds 5 = .ok (.aload_n 0, 1) := by decide +kernel
theorem dX2_adds_6 : decode cX2_adds 6 = .ok (.getfield 7, 3) := by decide +kernel
theorem dX2_adds_9 : decode cX2_adds 9 = .ok (.aload_n 0, 1) := by decide +kernel
theorem dX2_adds_10 : decode cX2_adds 10 = .ok (.getfield 49, 3) := by decide +kernel
theorem dX2_adds_13 : decode cX2_adds 13 = .ok (.iload_n 1, 1) := by decide +kernel
theorem dX2_adds_14 : decode cX2_adds 14 = .ok (.iastore, 1) := by decide +kernel
theorem dX2_adds_15 : decode cX2_adds 15 = .ok (.aload_n 0, 1) := by decide +kernel
theorem dX2_adds_16 : decode cX2_adds 16 = .ok (.getfield 13, 3) := by decide +kernel
theorem dX2_adds_19 : decode cX2_adds 19 = .ok (.aload_n 0, 1) := by decide +kernel
theorem dX2_adds_20 : decode cX2_adds 20 = .ok (.getfield 49, 3) := by decide +kernel
theorem dX2_adds_23 : decode cX2_adds 23 = .ok (.iload_n 2, 1) := by decide +kernel
theorem dX2_adds_24 : decode cX2_adds 24 = .ok (.iastore, 1) := by decide +kernel
theorem dX2_adds_25 : decode cX2_adds 25 = .ok (.aload_n 0, 1) := by decide +kernel
theorem dX2_adds_26 : decode cX2_adds 26 = .ok (.dup, 1) := by decide +kernel
theorem dX2_adds_27 : decode cX2_adds 27 = .ok (.getfield 49, 3) := by decide +kernel
theorem dX2_adds_30 : decode cX2_adds 30 = .ok (.iconst 1, 1) := by decide +kernel
theorem dX2_adds_31 : decode cX2_adds 31 = .ok (.iadd, 1) := by decide +kernel
theorem dX2_adds_32 : decode cX2_adds 32 = .ok (.putfield 49, 3) := by decide +kernel
theorem dX2_adds_35 : decode cX2_adds 35 = .ok (.aload_n 0, 1) := by decide +kernel
theorem dX2_adds_36 : decode cX2_adds 36 = .ok (.getfield 49, 3) := by decide +kernel
theorem dX2_adds_39 : decode cX2_adds 39 = .ok (.iconst 1, 1) := by decide +kernel
theorem dX2_adds_40 : decode cX2_adds 40 = .ok (.isub, 1) := by decide +kernel
theorem dX2_adds_41 : decode cX2_adds 41 = .ok (.ireturn, 1) := by decide +kernel
theorem dX2_addRelation_0 : decode cX2_addRelation 0 = .ok (.iload_n 1, 1) := by decide +kernel
theorem dX2_addRelation_1 : decode cX2_addRelation 1 = .ok (.iconst 1, 1) := by decide +kernel
theorem dX2_addRelation_2 : decode cX2_addRelation 2 = .ok (.iconst 4, 1) := by decide +kernel
theorem dX2_addRelation_3 : decode cX2_addRelation 3 = .ok (.invokestatic 52, 3) := by decide +kernel
theorem dX2_addRelation_6 : decode cX2_addRelation 6 = .ok (.ifCond .ne 9, 3) := by decide +kernel
theorem dX2_addRelation_9 : decode cX2_addRelation 9 = .ok (.aload_n 0, 1) := by decide +kernel
theorem dX2_addRelation_10 : decode cX2_addRelation 10 = .ok (.iconst 1, 1) := by decide +kernel
theorem dX2_addRelation_11 : decode cX2_addRelation 11 = .ok (.invokevirtual 56, 3) := by decide +kernel
theorem dX2_addRelation_14 : decode cX2_addRelation 14 = .ok (.ireturn, 1) := by decide +kernel
theorem dX2_addRelation_15 : decode cX2_addRelation 15 = .ok (.aload_n 0, 1) := by decide +kernel
theorem dX2_addRelation_16 : decode cX2_addRelation 16 = .ok (.getfield 49, 3) := by decide +kernel
theorem dX2_addRelation_19 : decode cX2_addRelation 19 = .ok (.bipush 8, 2) := by decide +kernel
theorem dX2_addRelation_21 : decode cX2_addRelation 21 = .ok (.if_icmp .ne 9, 3) := by decide +kernel
theorem dX2_addRelation_24 : decode cX2_addRelation 24 = .ok (.aload_n 0, 1) := by decide +kernel
theorem dX2_addRelation_25 : decode cX2_addRelation 25 = .ok (.iconst 2, 1) := by decide +kernel
theorem dX2_addRelation_26 : decode cX2_addRelation 26 = .ok (.invokevirtual 56, 3) := by decide +kernel
theorem dX2_addRelation_29 : decode cX2_addRelation 29 = .ok (.ireturn, 1) := by decide +kernel
theorem dX2_addRelation_30 : decode cX2_addRelation 30 = .ok (.aload_n 0, 1) := by decide +kernel
theorem dX2_addRelation_31 : decode cX2_addRelation 31 = .ok (.iload_n 1, 1) := by decide +kernel
theorem dX2_addRelation_32 : decode cX2_addRelation 32 = .ok (.iconst 0, 1) := by decide +kernel
theorem dX2_addRelation_33 : decode cX2_addRelation 33 = .ok (.invokevirtual 60, 3) := by decide +kernel
theorem dX2_addRelation_36 : decode cX2_addRelation 36 = .ok (.ireturn, 1) := by decide +kernel
theorem dX2_addClause_0 : decode cX2_addClause 0 = .ok (.iload_n 1, 1) := by decide +kernel
theorem dX2_addClause_1 : decode cX2_addClause 1 = .ok (.iconst 1, 1) := by decide +kernel
theorem dX2_addClause_2 : decode cX2_addClause 2 = .ok (.iconst 4, 1) := by decide +kernel
theorem dX2_addClause_3 : decode cX2_addClause 3 = .ok (.invokestatic 52, 3) := by decide +kernel
theorem dX2_addClause_6 : decode cX2_addClause 6 = .ok (.ifCond .eq 11, 3) := by decide +kernel
theorem dX2_addClause_9 : decode cX2_addClause 9 = .ok (.iload_n 1, 1) := by decide +kernel
theorem dX2_addClause_10 : decode cX2_addClause 10 = .ok (.iload_n 2, 1) := by decide +kernel
theorem dX2_addClause_11 : decode cX2_addClause 11 = .ok (.invokestatic 64, 3) := by decide +kernel
theorem dX2_addClause_14 : decode cX2_addClause 14 = .ok (.ifCond .ne 9, 3) := by decide +kernel
theorem dX2_addClause_17 : decode cX2_addClause 17 = .ok (.aload_n 0, 1) := by decide +kernel
theorem dX2_addClause_18 : decode cX2_addClause 18 = .ok (.iconst 1, 1) := by decide +kernel
theorem dX2_addClause_19 : decode cX2_addClause 19 = .ok (.invokevirtual 56, 3) := by decide +kernel
theorem dX2_addClause_22 : decode cX2_addClause 22 = .ok (.ireturn, 1) := by decide +kernel
theorem dX2_addClause_23 : decode cX2_addClause 23 = .ok (.aload_n 0, 1) := by decide +kernel
theorem dX2_addClause_24 : decode cX2_addClause 24 = .ok (.getfield 49, 3) := by decide +kernel
theorem dX2_addClause_27 : decode cX2_addClause 27 = .ok (.bipush 8, 2) := by decide +kernel
theorem dX2_addClause_29 : decode cX2_addClause 29 = .ok (.if_icmp .ne 9, 3) := by decide +kernel
theorem dX2_addClause_32 : decode cX2_addClause 32 = .ok (.aload_n 0, 1) := by decide +kernel
theorem dX2_addClause_33 : decode cX2_addClause 33 = .ok (.iconst 2, 1) := by decide +kernel
theorem dX2_addClause_34 : decode cX2_addClause 34 = .ok (.invokevirtual 56, 3) := by decide +kernel
theorem dX2_addClause_37 : decode cX2_addClause 37 = .ok (.ireturn, 1) := by decide +kernel
theorem dX2_addClause_38 : decode cX2_addClause 38 = .ok (.aload_n 0, 1) := by decide +kernel
theorem dX2_addClause_39 : decode cX2_addClause 39 = .ok (.iload_n 1, 1) := by decide +kernel
theorem dX2_addClause_40 : decode cX2_addClause 40 = .ok (.iload_n 1, 1) := by decide +kernel
theorem dX2_addClause_41 : decode cX2_addClause 41 = .ok (.invokestatic 68, 3) := by decide +kernel
theorem dX2_addClause_44 : decode cX2_addClause 44 = .ok (.iconst 1, 1) := by decide +kernel
theorem dX2_addClause_45 : decode cX2_addClause 45 = .ok (.iload_n 2, 1) := by decide +kernel
theorem dX2_addClause_46 : decode cX2_addClause 46 = .ok (.ishl, 1) := by decide +kernel
theorem dX2_addClause_47 : decode cX2_addClause 47 = .ok (.iconst (-1), 1) := by decide +kernel
theorem dX2_addClause_48 : decode cX2_addClause 48 = .ok (.ixor, 1) := by decide +kernel
theorem dX2_addClause_49 : decode cX2_addClause 49 = .ok (.iand, 1) := by decide +kernel
theorem dX2_addClause_50 : decode cX2_addClause 50 = .ok (.invokevirtual 60, 3) := by decide +kernel
theorem dX2_addClause_53 : decode cX2_addClause 53 = .ok (.ireturn, 1) := by decide +kernel
theorem dX2_addParity_0 : decode cX2_addParity 0 = .ok (.iload_n 1, 1) := by decide +kernel
theorem dX2_addParity_1 : decode cX2_addParity 1 = .ok (.iconst 1, 1) := by decide +kernel
theorem dX2_addParity_2 : decode cX2_addParity 2 = .ok (.iconst 4, 1) := by decide +kernel
theorem dX2_addParity_3 : decode cX2_addParity 3 = .ok (.invokestatic 52, 3) := by decide +kernel
theorem dX2_addParity_6 : decode cX2_addParity 6 = .ok (.ifCond .eq 10, 3) := by decide +kernel
theorem dX2_addParity_9 : decode cX2_addParity 9 = .ok (.iload_n 2, 1) := by decide +kernel
theorem dX2_addParity_10 : decode cX2_addParity 10 = .ok (.invokestatic 71, 3) := by decide +kernel
theorem dX2_addParity_13 : decode cX2_addParity 13 = .ok (.ifCond .ne 9, 3) := by decide +kernel
theorem dX2_addParity_16 : decode cX2_addParity 16 = .ok (.aload_n 0, 1) := by decide +kernel
theorem dX2_addParity_17 : decode cX2_addParity 17 = .ok (.iconst 1, 1) := by decide +kernel
theorem dX2_addParity_18 : decode cX2_addParity 18 = .ok (.invokevirtual 56, 3) := by decide +kernel
theorem dX2_addParity_21 : decode cX2_addParity 21 = .ok (.ireturn, 1) := by decide +kernel
theorem dX2_addParity_22 : decode cX2_addParity 22 = .ok (.aload_n 0, 1) := by decide +kernel
theorem dX2_addParity_23 : decode cX2_addParity 23 = .ok (.getfield 49, 3) := by decide +kernel
theorem dX2_addParity_26 : decode cX2_addParity 26 = .ok (.bipush 8, 2) := by decide +kernel
theorem dX2_addParity_28 : decode cX2_addParity 28 = .ok (.if_icmp .ne 9, 3) := by decide +kernel
theorem dX2_addParity_31 : decode cX2_addParity 31 = .ok (.aload_n 0, 1) := by decide +kernel
theorem dX2_addParity_32 : decode cX2_addParity 32 = .ok (.iconst 2, 1) := by decide +kernel
theorem dX2_addParity_33 : decode cX2_addParity 33 = .ok (.invokevirtual 56, 3) := by decide +kernel
theorem dX2_addParity_36 : decode cX2_addParity 36 = .ok (.ireturn, 1) := by decide +kernel
theorem dX2_addParity_37 : decode cX2_addParity 37 = .ok (.iconst 0, 1) := by decide +kernel
theorem dX2_addParity_38 : decode cX2_addParity 38 = .ok (.istore_n 3, 1) := by decide +kernel
theorem dX2_addParity_39 : decode cX2_addParity 39 = .ok (.iconst 0, 1) := by decide +kernel
theorem dX2_addParity_40 : decode cX2_addParity 40 = .ok (.istore 4, 2) := by decide +kernel
theorem dX2_addParity_42 : decode cX2_addParity 42 = .ok (.iload 4, 2) := by decide +kernel
theorem dX2_addParity_44 : decode cX2_addParity 44 = .ok (.iconst 1, 1) := by decide +kernel
theorem dX2_addParity_45 : decode cX2_addParity 45 = .ok (.iload_n 1, 1) := by decide +kernel
theorem dX2_addParity_46 : decode cX2_addParity 46 = .ok (.ishl, 1) := by decide +kernel
theorem dX2_addParity_47 : decode cX2_addParity 47 = .ok (.if_icmp .ge 31, 3) := by decide +kernel
theorem dX2_addParity_50 : decode cX2_addParity 50 = .ok (.iload_n 3, 1) := by decide +kernel
theorem dX2_addParity_51 : decode cX2_addParity 51 = .ok (.iload 4, 2) := by decide +kernel
theorem dX2_addParity_53 : decode cX2_addParity 53 = .ok (.invokestatic 75, 3) := by decide +kernel
theorem dX2_addParity_56 : decode cX2_addParity 56 = .ok (.iconst 2, 1) := by decide +kernel
theorem dX2_addParity_57 : decode cX2_addParity 57 = .ok (.irem, 1) := by decide +kernel
theorem dX2_addParity_58 : decode cX2_addParity 58 = .ok (.iload_n 2, 1) := by decide +kernel
theorem dX2_addParity_59 : decode cX2_addParity 59 = .ok (.if_icmp .ne 10, 3) := by decide +kernel
theorem dX2_addParity_62 : decode cX2_addParity 62 = .ok (.iconst 1, 1) := by decide +kernel
theorem dX2_addParity_63 : decode cX2_addParity 63 = .ok (.iload 4, 2) := by decide +kernel
theorem dX2_addParity_65 : decode cX2_addParity 65 = .ok (.ishl, 1) := by decide +kernel
theorem dX2_addParity_66 : decode cX2_addParity 66 = .ok (.goto 4, 3) := by decide +kernel
theorem dX2_addParity_69 : decode cX2_addParity 69 = .ok (.iconst 0, 1) := by decide +kernel
theorem dX2_addParity_70 : decode cX2_addParity 70 = .ok (.ior, 1) := by decide +kernel
theorem dX2_addParity_71 : decode cX2_addParity 71 = .ok (.istore_n 3, 1) := by decide +kernel
theorem dX2_addParity_72 : decode cX2_addParity 72 = .ok (.iinc 4 1, 3) := by decide +kernel
theorem dX2_addParity_75 : decode cX2_addParity 75 = .ok (.goto (-33), 3) := by decide +kernel
theorem dX2_addParity_78 : decode cX2_addParity 78 = .ok (.aload_n 0, 1) := by decide +kernel
theorem dX2_addParity_79 : decode cX2_addParity 79 = .ok (.iload_n 1, 1) := by decide +kernel
theorem dX2_addParity_80 : decode cX2_addParity 80 = .ok (.iload_n 3, 1) := by decide +kernel
theorem dX2_addParity_81 : decode cX2_addParity 81 = .ok (.invokevirtual 60, 3) := by decide +kernel
theorem dX2_addParity_84 : decode cX2_addParity 84 = .ok (.ireturn, 1) := by decide +kernel
theorem dX2_noTuple_0 : decode cX2_noTuple 0 = .ok (.aload_n 0, 1) := by decide +kernel
theorem dX2_noTuple_1 : decode cX2_noTuple 1 = .ok (.iload_n 1, 1) := by decide +kernel
theorem dX2_noTuple_2 : decode cX2_noTuple 2 = .ok (.invokevirtual 78, 3) := by decide +kernel
theorem dX2_noTuple_5 : decode cX2_noTuple 5 = .ok (.ifCond .ne 7, 3) := by decide +kernel
theorem dX2_noTuple_8 : decode cX2_noTuple 8 = .ok (.iconst 1, 1) := by decide +kernel
theorem dX2_noTuple_9 : decode cX2_noTuple 9 = .ok (.goto 21, 3) := by decide +kernel
theorem dX2_noTuple_12 : decode cX2_noTuple 12 = .ok (.aload_n 0, 1) := by decide +kernel
theorem dX2_noTuple_13 : decode cX2_noTuple 13 = .ok (.getfield 7, 3) := by decide +kernel
theorem dX2_noTuple_16 : decode cX2_noTuple 16 = .ok (.iload_n 1, 1) := by decide +kernel
theorem dX2_noTuple_17 : decode cX2_noTuple 17 = .ok (.iaload, 1) := by decide +kernel
theorem dX2_noTuple_18 : decode cX2_noTuple 18 = .ok (.iload_n 2, 1) := by decide +kernel
theorem dX2_noTuple_19 : decode cX2_noTuple 19 = .ok (.invokestatic 64, 3) := by decide +kernel
theorem dX2_noTuple_22 : decode cX2_noTuple 22 = .ok (.ifCond .ne 7, 3) := by decide +kernel
theorem dX2_noTuple_25 : decode cX2_noTuple 25 = .ok (.iconst 2, 1) := by decide +kernel
theorem dX2_noTuple_26 : decode cX2_noTuple 26 = .ok (.goto 4, 3) := by decide +kernel
theorem dX2_noTuple_29 : decode cX2_noTuple 29 = .ok (.iconst 0, 1) := by decide +kernel
theorem dX2_noTuple_30 : decode cX2_noTuple 30 = .ok (.ireturn, 1) := by decide +kernel
theorem dX2_addTuple_0 : decode cX2_addTuple 0 = .ok (.aload_n 0, 1) := by decide +kernel
theorem dX2_addTuple_1 : decode cX2_addTuple 1 = .ok (.aload_n 0, 1) := by decide +kernel
theorem dX2_addTuple_2 : decode cX2_addTuple 2 = .ok (.iload_n 1, 1) := by decide +kernel
theorem dX2_addTuple_3 : decode cX2_addTuple 3 = .ok (.iload_n 2, 1) := by decide +kernel
theorem dX2_addTuple_4 : decode cX2_addTuple 4 = .ok (.invokevirtual 81, 3) := by decide +kernel
theorem dX2_addTuple_7 : decode cX2_addTuple 7 = .ok (.putfield 46, 3) := by decide +kernel
theorem dX2_addTuple_10 : decode cX2_addTuple 10 = .ok (.aload_n 0, 1) := by decide +kernel
theorem dX2_addTuple_11 : decode cX2_addTuple 11 = .ok (.getfield 46, 3) := by decide +kernel
theorem dX2_addTuple_14 : decode cX2_addTuple 14 = .ok (.ifCond .le 5, 3) := by decide +kernel
theorem dX2_addTuple_17 : decode cX2_addTuple 17 = .ok (.iconst 0, 1) := by decide +kernel
theorem dX2_addTuple_18 : decode cX2_addTuple 18 = .ok (.ireturn, 1) := by decide +kernel
theorem dX2_addTuple_19 : decode cX2_addTuple 19 = .ok (.aload_n 0, 1) := by decide +kernel
theorem dX2_addTuple_20 : decode cX2_addTuple 20 = .ok (.getfield 13, 3) := by decide +kernel
theorem dX2_addTuple_23 : decode cX2_addTuple 23 = .ok (.iload_n 1, 1) := by decide +kernel
theorem dX2_addTuple_24 : decode cX2_addTuple 24 = .ok (.iaload, 1) := by decide +kernel
theorem dX2_addTuple_25 : decode cX2_addTuple 25 = .ok (.iload_n 2, 1) := by decide +kernel
theorem dX2_addTuple_26 : decode cX2_addTuple 26 = .ok (.ishr, 1) := by decide +kernel
theorem dX2_addTuple_27 : decode cX2_addTuple 27 = .ok (.iconst 1, 1) := by decide +kernel
theorem dX2_addTuple_28 : decode cX2_addTuple 28 = .ok (.iand, 1) := by decide +kernel
theorem dX2_addTuple_29 : decode cX2_addTuple 29 = .ok (.ifCond .ne 7, 3) := by decide +kernel
theorem dX2_addTuple_32 : decode cX2_addTuple 32 = .ok (.iconst 1, 1) := by decide +kernel
theorem dX2_addTuple_33 : decode cX2_addTuple 33 = .ok (.goto 4, 3) := by decide +kernel
theorem dX2_addTuple_36 : decode cX2_addTuple 36 = .ok (.iconst 0, 1) := by decide +kernel
theorem dX2_addTuple_37 : decode cX2_addTuple 37 = .ok (.istore_n 3, 1) := by decide +kernel
theorem dX2_addTuple_38 : decode cX2_addTuple 38 = .ok (.aload_n 0, 1) := by decide +kernel
theorem dX2_addTuple_39 : decode cX2_addTuple 39 = .ok (.getfield 13, 3) := by decide +kernel
theorem dX2_addTuple_42 : decode cX2_addTuple 42 = .ok (.iload_n 1, 1) := by decide +kernel
theorem dX2_addTuple_43 : decode cX2_addTuple 43 = .ok (.dup2, 1) := by decide +kernel
theorem dX2_addTuple_44 : decode cX2_addTuple 44 = .ok (.iaload, 1) := by decide +kernel
theorem dX2_addTuple_45 : decode cX2_addTuple 45 = .ok (.iconst 1, 1) := by decide +kernel
theorem dX2_addTuple_46 : decode cX2_addTuple 46 = .ok (.iload_n 2, 1) := by decide +kernel
theorem dX2_addTuple_47 : decode cX2_addTuple 47 = .ok (.ishl, 1) := by decide +kernel
theorem dX2_addTuple_48 : decode cX2_addTuple 48 = .ok (.ior, 1) := by decide +kernel
theorem dX2_addTuple_49 : decode cX2_addTuple 49 = .ok (.iastore, 1) := by decide +kernel
theorem dX2_addTuple_50 : decode cX2_addTuple 50 = .ok (.iload_n 3, 1) := by decide +kernel
theorem dX2_addTuple_51 : decode cX2_addTuple 51 = .ok (.ireturn, 1) := by decide +kernel
theorem dX2_removeTuple_0 : decode cX2_removeTuple 0 = .ok (.aload_n 0, 1) := by decide +kernel
theorem dX2_removeTuple_1 : decode cX2_removeTuple 1 = .ok (.aload_n 0, 1) := by decide +kernel
theorem dX2_removeTuple_2 : decode cX2_removeTuple 2 = .ok (.iload_n 1, 1) := by decide +kernel
theorem dX2_removeTuple_3 : decode cX2_removeTuple 3 = .ok (.iload_n 2, 1) := by decide +kernel
theorem dX2_removeTuple_4 : decode cX2_removeTuple 4 = .ok (.invokevirtual 81, 3) := by decide +kernel
theorem dX2_removeTuple_7 : decode cX2_removeTuple 7 = .ok (.putfield 46, 3) := by decide +kernel
theorem dX2_removeTuple_10 : decode cX2_removeTuple 10 = .ok (.aload_n 0, 1) := by decide +kernel
theorem dX2_removeTuple_11 : decode cX2_removeTuple 11 = .ok (.getfield 46, 3) := by decide +kernel
theorem dX2_removeTuple_14 : decode cX2_removeTuple 14 = .ok (.ifCond .le 5, 3) := by decide +kernel
theorem dX2_removeTuple_17 : decode cX2_removeTuple 17 = .ok (.iconst 0, 1) := by decide +kernel
theorem dX2_removeTuple_18 : decode cX2_removeTuple 18 = .ok (.ireturn, 1) := by decide +kernel
theorem dX2_removeTuple_19 : decode cX2_removeTuple 19 = .ok (.aload_n 0, 1) := by decide +kernel
theorem dX2_removeTuple_20 : decode cX2_removeTuple 20 = .ok (.getfield 13, 3) := by decide +kernel
theorem dX2_removeTuple_23 : decode cX2_removeTuple 23 = .ok (.iload_n 1, 1) := by decide +kernel
theorem dX2_removeTuple_24 : decode cX2_removeTuple 24 = .ok (.iaload, 1) := by decide +kernel
theorem dX2_removeTuple_25 : decode cX2_removeTuple 25 = .ok (.iload_n 2, 1) := by decide +kernel
theorem dX2_removeTuple_26 : decode cX2_removeTuple 26 = .ok (.ishr, 1) := by decide +kernel
theorem dX2_removeTuple_27 : decode cX2_removeTuple 27 = .ok (.iconst 1, 1) := by decide +kernel
theorem dX2_removeTuple_28 : decode cX2_removeTuple 28 = .ok (.iand, 1) := by decide +kernel
theorem dX2_removeTuple_29 : decode cX2_removeTuple 29 = .ok (.iconst 1, 1) := by decide +kernel
theorem dX2_removeTuple_30 : decode cX2_removeTuple 30 = .ok (.if_icmp .ne 7, 3) := by decide +kernel
theorem dX2_removeTuple_33 : decode cX2_removeTuple 33 = .ok (.iconst 1, 1) := by decide +kernel
theorem dX2_removeTuple_34 : decode cX2_removeTuple 34 = .ok (.goto 4, 3) := by decide +kernel
theorem dX2_removeTuple_37 : decode cX2_removeTuple 37 = .ok (.iconst 0, 1) := by decide +kernel
theorem dX2_removeTuple_38 : decode cX2_removeTuple 38 = .ok (.istore_n 3, 1) := by decide +kernel
theorem dX2_removeTuple_39 : decode cX2_removeTuple 39 = .ok (.aload_n 0, 1) := by decide +kernel
theorem dX2_removeTuple_40 : decode cX2_removeTuple 40 = .ok (.getfield 13, 3) := by decide +kernel
theorem dX2_removeTuple_43 : decode cX2_removeTuple 43 = .ok (.iload_n 1, 1) := by decide +kernel
theorem dX2_removeTuple_44 : decode cX2_removeTuple 44 = .ok (.dup2, 1) := by decide +kernel
theorem dX2_removeTuple_45 : decode cX2_removeTuple 45 = .ok (.iaload, 1) := by decide +kernel
theorem dX2_removeTuple_46 : decode cX2_removeTuple 46 = .ok (.iconst 1, 1) := by decide +kernel
theorem dX2_removeTuple_47 : decode cX2_removeTuple 47 = .ok (.iload_n 2, 1) := by decide +kernel
theorem dX2_removeTuple_48 : decode cX2_removeTuple 48 = .ok (.ishl, 1) := by decide +kernel
theorem dX2_removeTuple_49 : decode cX2_removeTuple 49 = .ok (.iconst (-1), 1) := by decide +kernel
theorem dX2_removeTuple_50 : decode cX2_removeTuple 50 = .ok (.ixor, 1) := by decide +kernel
theorem dX2_removeTuple_51 : decode cX2_removeTuple 51 = .ok (.iand, 1) := by decide +kernel
theorem dX2_removeTuple_52 : decode cX2_removeTuple 52 = .ok (.iastore, 1) := by decide +kernel
theorem dX2_removeTuple_53 : decode cX2_removeTuple 53 = .ok (.iload_n 3, 1) := by decide +kernel
theorem dX2_removeTuple_54 : decode cX2_removeTuple 54 = .ok (.ireturn, 1) := by decide +kernel
theorem dX2_contains_0 : decode cX2_contains 0 = .ok (.aload_n 0, 1) := by decide +kernel
theorem dX2_contains_1 : decode cX2_contains 1 = .ok (.aload_n 0, 1) := by decide +kernel
theorem dX2_contains_2 : decode cX2_contains 2 = .ok (.iload_n 1, 1) := by decide +kernel
theorem dX2_contains_3 : decode cX2_contains 3 = .ok (.iload_n 2, 1) := by decide +kernel
theorem dX2_contains_4 : decode cX2_contains 4 = .ok (.invokevirtual 81, 3) := by decide +kernel
theorem dX2_contains_7 : decode cX2_contains 7 = .ok (.putfield 46, 3) := by decide +kernel
theorem dX2_contains_10 : decode cX2_contains 10 = .ok (.aload_n 0, 1) := by decide +kernel
theorem dX2_contains_11 : decode cX2_contains 11 = .ok (.getfield 46, 3) := by decide +kernel
theorem dX2_contains_14 : decode cX2_contains 14 = .ok (.ifCond .ne 21, 3) := by decide +kernel
theorem dX2_contains_17 : decode cX2_contains 17 = .ok (.aload_n 0, 1) := by decide +kernel
theorem dX2_contains_18 : decode cX2_contains 18 = .ok (.getfield 13, 3) := by decide +kernel
theorem dX2_contains_21 : decode cX2_contains 21 = .ok (.iload_n 1, 1) := by decide +kernel
theorem dX2_contains_22 : decode cX2_contains 22 = .ok (.iaload, 1) := by decide +kernel
theorem dX2_contains_23 : decode cX2_contains 23 = .ok (.iload_n 2, 1) := by decide +kernel
theorem dX2_contains_24 : decode cX2_contains 24 = .ok (.ishr, 1) := by decide +kernel
theorem dX2_contains_25 : decode cX2_contains 25 = .ok (.iconst 1, 1) := by decide +kernel
theorem dX2_contains_26 : decode cX2_contains 26 = .ok (.iand, 1) := by decide +kernel
theorem dX2_contains_27 : decode cX2_contains 27 = .ok (.iconst 1, 1) := by decide +kernel
theorem dX2_contains_28 : decode cX2_contains 28 = .ok (.if_icmp .ne 7, 3) := by decide +kernel
theorem dX2_contains_31 : decode cX2_contains 31 = .ok (.iconst 1, 1) := by decide +kernel
theorem dX2_contains_32 : decode cX2_contains 32 = .ok (.goto 4, 3) := by decide +kernel
theorem dX2_contains_35 : decode cX2_contains 35 = .ok (.iconst 0, 1) := by decide +kernel
theorem dX2_contains_36 : decode cX2_contains 36 = .ok (.ireturn, 1) := by decide +kernel
theorem dX2_tupleCount_0 : decode cX2_tupleCount 0 = .ok (.aload_n 0, 1) := by decide +kernel
theorem dX2_tupleCount_1 : decode cX2_tupleCount 1 = .ok (.aload_n 0, 1) := by decide +kernel
theorem dX2_tupleCount_2 : decode cX2_tupleCount 2 = .ok (.iload_n 1, 1) := by decide +kernel
theorem dX2_tupleCount_3 : decode cX2_tupleCount 3 = .ok (.invokevirtual 78, 3) := by decide +kernel
theorem dX2_tupleCount_6 : decode cX2_tupleCount 6 = .ok (.ifCond .eq 7, 3) := by decide +kernel
theorem dX2_tupleCount_9 : decode cX2_tupleCount 9 = .ok (.iconst 0, 1) := by decide +kernel
theorem dX2_tupleCount_10 : decode cX2_tupleCount 10 = .ok (.goto 4, 3) := by decide +kernel
theorem dX2_tupleCount_13 : decode cX2_tupleCount 13 = .ok (.iconst 1, 1) := by decide +kernel
theorem dX2_tupleCount_14 : decode cX2_tupleCount 14 = .ok (.putfield 46, 3) := by decide +kernel
theorem dX2_tupleCount_17 : decode cX2_tupleCount 17 = .ok (.aload_n 0, 1) := by decide +kernel
theorem dX2_tupleCount_18 : decode cX2_tupleCount 18 = .ok (.getfield 46, 3) := by decide +kernel
theorem dX2_tupleCount_21 : decode cX2_tupleCount 21 = .ok (.ifCond .le 7, 3) := by decide +kernel
theorem dX2_tupleCount_24 : decode cX2_tupleCount 24 = .ok (.iconst 0, 1) := by decide +kernel
theorem dX2_tupleCount_25 : decode cX2_tupleCount 25 = .ok (.goto 12, 3) := by decide +kernel
theorem dX2_tupleCount_28 : decode cX2_tupleCount 28 = .ok (.aload_n 0, 1) := by decide +kernel
theorem dX2_tupleCount_29 : decode cX2_tupleCount 29 = .ok (.getfield 13, 3) := by decide +kernel
theorem dX2_tupleCount_32 : decode cX2_tupleCount 32 = .ok (.iload_n 1, 1) := by decide +kernel
theorem dX2_tupleCount_33 : decode cX2_tupleCount 33 = .ok (.iaload, 1) := by decide +kernel
theorem dX2_tupleCount_34 : decode cX2_tupleCount 34 = .ok (.invokestatic 75, 3) := by decide +kernel
theorem dX2_tupleCount_37 : decode cX2_tupleCount 37 = .ok (.ireturn, 1) := by decide +kernel
theorem dX2_arity_0 : decode cX2_arity 0 = .ok (.aload_n 0, 1) := by decide +kernel
theorem dX2_arity_1 : decode cX2_arity 1 = .ok (.aload_n 0, 1) := by decide +kernel
theorem dX2_arity_2 : decode cX2_arity 2 = .ok (.iload_n 1, 1) := by decide +kernel
theorem dX2_arity_3 : decode cX2_arity 3 = .ok (.invokevirtual 78, 3) := by decide +kernel
theorem dX2_arity_6 : decode cX2_arity 6 = .ok (.ifCond .eq 7, 3) := by decide +kernel
theorem dX2_arity_9 : decode cX2_arity 9 = .ok (.iconst 0, 1) := by decide +kernel
theorem dX2_arity_10 : decode cX2_arity 10 = .ok (.goto 4, 3) := by decide +kernel
theorem dX2_arity_13 : decode cX2_arity 13 = .ok (.iconst 1, 1) := by decide +kernel
theorem dX2_arity_14 : decode cX2_arity 14 = .ok (.putfield 46, 3) := by decide +kernel
theorem dX2_arity_17 : decode cX2_arity 17 = .ok (.aload_n 0, 1) := by decide +kernel
theorem dX2_arity_18 : decode cX2_arity 18 = .ok (.getfield 46, 3) := by decide +kernel
theorem dX2_arity_21 : decode cX2_arity 21 = .ok (.ifCond .le 7, 3) := by decide +kernel
theorem dX2_arity_24 : decode cX2_arity 24 = .ok (.iconst 0, 1) := by decide +kernel
theorem dX2_arity_25 : decode cX2_arity 25 = .ok (.goto 9, 3) := by decide +kernel
theorem dX2_arity_28 : decode cX2_arity 28 = .ok (.aload_n 0, 1) := by decide +kernel
theorem dX2_arity_29 : decode cX2_arity 29 = .ok (.getfield 7, 3) := by decide +kernel
theorem dX2_arity_32 : decode cX2_arity 32 = .ok (.iload_n 1, 1) := by decide +kernel
theorem dX2_arity_33 : decode cX2_arity 33 = .ok (.iaload, 1) := by decide +kernel
theorem dX2_arity_34 : decode cX2_arity 34 = .ok (.ireturn, 1) := by decide +kernel
theorem dX2_relationCount_0 : decode cX2_relationCount 0 = .ok (.aload_n 0, 1) := by decide +kernel
theorem dX2_relationCount_1 : decode cX2_relationCount 1 = .ok (.iconst 0, 1) := by decide +kernel
theorem dX2_relationCount_2 : decode cX2_relationCount 2 = .ok (.putfield 46, 3) := by decide +kernel
theorem dX2_relationCount_5 : decode cX2_relationCount 5 = .ok (.aload_n 0, 1) := by decide +kernel
theorem dX2_relationCount_6 : decode cX2_relationCount 6 = .ok (.getfield 49, 3) := by decide +kernel
theorem dX2_relationCount_9 : decode cX2_relationCount 9 = .ok (.ireturn, 1) := by decide +kernel
theorem dX2_areEqual_0 : decode cX2_areEqual 0 = .ok (.aload_n 0, 1) := by decide +kernel
theorem dX2_areEqual_1 : decode cX2_areEqual 1 = .ok (.aload_n 0, 1) := by decide +kernel
theorem dX2_areEqual_2 : decode cX2_areEqual 2 = .ok (.iload_n 1, 1) := by decide +kernel
theorem dX2_areEqual_3 : decode cX2_areEqual 3 = .ok (.invokevirtual 78, 3) := by decide +kernel
theorem dX2_areEqual_6 : decode cX2_areEqual 6 = .ok (.ifCond .eq 15, 3) := by decide +kernel
theorem dX2_areEqual_9 : decode cX2_areEqual 9 = .ok (.aload_n 0, 1) := by decide +kernel
theorem dX2_areEqual_10 : decode cX2_areEqual 10 = .ok (.iload_n 2, 1) := by decide +kernel
theorem dX2_areEqual_11 : decode cX2_areEqual 11 = .ok (.invokevirtual 78, 3) := by decide +kernel
theorem dX2_areEqual_14 : decode cX2_areEqual 14 = .ok (.ifCond .eq 7, 3) := by decide +kernel
theorem dX2_areEqual_17 : decode cX2_areEqual 17 = .ok (.iconst 0, 1) := by decide +kernel
theorem dX2_areEqual_18 : decode cX2_areEqual 18 = .ok (.goto 4, 3) := by decide +kernel
theorem dX2_areEqual_21 : decode cX2_areEqual 21 = .ok (.iconst 1, 1) := by decide +kernel
theorem dX2_areEqual_22 : decode cX2_areEqual 22 = .ok (.putfield 46, 3) := by decide +kernel
theorem dX2_areEqual_25 : decode cX2_areEqual 25 = .ok (.aload_n 0, 1) := by decide +kernel
theorem dX2_areEqual_26 : decode cX2_areEqual 26 = .ok (.getfield 46, 3) := by decide +kernel
theorem dX2_areEqual_29 : decode cX2_areEqual 29 = .ok (.ifCond .ne 37, 3) := by decide +kernel
theorem dX2_areEqual_32 : decode cX2_areEqual 32 = .ok (.aload_n 0, 1) := by decide +kernel
theorem dX2_areEqual_33 : decode cX2_areEqual 33 = .ok (.getfield 7, 3) := by decide +kernel
theorem dX2_areEqual_36 : decode cX2_areEqual 36 = .ok (.iload_n 1, 1) := by decide +kernel
theorem dX2_areEqual_37 : decode cX2_areEqual 37 = .ok (.iaload, 1) := by decide +kernel
theorem dX2_areEqual_38 : decode cX2_areEqual 38 = .ok (.aload_n 0, 1) := by decide +kernel
theorem dX2_areEqual_39 : decode cX2_areEqual 39 = .ok (.getfield 7, 3) := by decide +kernel
theorem dX2_areEqual_42 : decode cX2_areEqual 42 = .ok (.iload_n 2, 1) := by decide +kernel
theorem dX2_areEqual_43 : decode cX2_areEqual 43 = .ok (.iaload, 1) := by decide +kernel
theorem dX2_areEqual_44 : decode cX2_areEqual 44 = .ok (.if_icmp .ne 22, 3) := by decide +kernel
theorem dX2_areEqual_47 : decode cX2_areEqual 47 = .ok (.aload_n 0, 1) := by decide +kernel
theorem dX2_areEqual_48 : decode cX2_areEqual 48 = .ok (.getfield 13, 3) := by decide +kernel
theorem dX2_areEqual_51 : decode cX2_areEqual 51 = .ok (.iload_n 1, 1) := by decide +kernel
theorem dX2_areEqual_52 : decode cX2_areEqual 52 = .ok (.iaload, 1) := by decide +kernel
theorem dX2_areEqual_53 : decode cX2_areEqual 53 = .ok (.aload_n 0, 1) := by decide +kernel
theorem dX2_areEqual_54 : decode cX2_areEqual 54 = .ok (.getfield 13, 3) := by decide +kernel
theorem dX2_areEqual_57 : decode cX2_areEqual 57 = .ok (.iload_n 2, 1) := by decide +kernel
theorem dX2_areEqual_58 : decode cX2_areEqual 58 = .ok (.iaload, 1) := by decide +kernel
theorem dX2_areEqual_59 : decode cX2_areEqual 59 = .ok (.if_icmp .ne 7, 3) := by decide +kernel
theorem dX2_areEqual_62 : decode cX2_areEqual 62 = .ok (.iconst 1, 1) := by decide +kernel
theorem dX2_areEqual_63 : decode cX2_areEqual 63 = .ok (.goto 4, 3) := by decide +kernel
theorem dX2_areEqual_66 : decode cX2_areEqual 66 = .ok (.iconst 0, 1) := by decide +kernel
theorem dX2_areEqual_67 : decode cX2_areEqual 67 = .ok (.ireturn, 1) := by decide +kernel
theorem dX2_clear_0 : decode cX2_clear 0 = .ok (.aload_n 0, 1) := by decide +kernel
theorem dX2_clear_1 : decode cX2_clear 1 = .ok (.iconst 0, 1) := by decide +kernel
theorem dX2_clear_2 : decode cX2_clear 2 = .ok (.putfield 46, 3) := by decide +kernel
theorem dX2_clear_5 : decode cX2_clear 5 = .ok (.aload_n 0, 1) := by decide +kernel
theorem dX2_clear_6 : decode cX2_clear 6 = .ok (.getfield 49, 3) := by decide +kernel
theorem dX2_clear_9 : decode cX2_clear 9 = .ok (.istore_n 1, 1) := by decide +kernel
theorem dX2_clear_10 : decode cX2_clear 10 = .ok (.aload_n 0, 1) := by decide +kernel
theorem dX2_clear_11 : decode cX2_clear 11 = .ok (.iconst 0, 1) := by decide +kernel
theorem dX2_clear_12 : decode cX2_clear 12 = .ok (.putfield 49, 3) := by decide +kernel
theorem dX2_clear_15 : decode cX2_clear 15 = .ok (.aload_n 0, 1) := by decide +kernel
theorem dX2_clear_16 : decode cX2_clear 16 = .ok (.iconst 0, 1) := by decide +kernel
theorem dX2_clear_17 : decode cX2_clear 17 = .ok (.putfield 84, 3) := by decide +kernel
theorem dX2_clear_20 : decode cX2_clear 20 = .ok (.iload_n 1, 1) := by decide +kernel
theorem dX2_clear_21 : decode cX2_clear 21 = .ok (.ireturn, 1) := by decide +kernel
theorem dX2_addComplement_0 : decode cX2_addComplement 0 = .ok (.aload_n 0, 1) := by decide +kernel
theorem dX2_addComplement_1 : decode cX2_addComplement 1 = .ok (.iload_n 1, 1) := by decide +kernel
theorem dX2_addComplement_2 : decode cX2_addComplement 2 = .ok (.invokevirtual 78, 3) := by decide +kernel
theorem dX2_addComplement_5 : decode cX2_addComplement 5 = .ok (.ifCond .ne 9, 3) := by decide +kernel
theorem dX2_addComplement_8 : decode cX2_addComplement 8 = .ok (.aload_n 0, 1) := by decide +kernel
theorem dX2_addComplement_9 : decode cX2_addComplement 9 = .ok (.iconst 1, 1) := by decide +kernel
theorem dX2_addComplement_10 : decode cX2_addComplement 10 = .ok (.invokevirtual 56, 3) := by decide +kernel
theorem dX2_addComplement_13 : decode cX2_addComplement 13 = .ok (.ireturn, 1) := by decide +kernel
theorem dX2_addComplement_14 : decode cX2_addComplement 14 = .ok (.aload_n 0, 1) := by decide +kernel
theorem dX2_addComplement_15 : decode cX2_addComplement 15 = .ok (.getfield 49, 3) := by decide +kernel
theorem dX2_addComplement_18 : decode cX2_addComplement 18 = .ok (.bipush 8, 2) := by decide +kernel
theorem dX2_addComplement_20 : decode cX2_addComplement 20 = .ok (.if_icmp .ne 9, 3) := by decide +kernel
theorem dX2_addComplement_23 : decode cX2_addComplement 23 = .ok (.aload_n 0, 1) := by decide +kernel
theorem dX2_addComplement_24 : decode cX2_addComplement 24 = .ok (.iconst 2, 1) := by decide +kernel
theorem dX2_addComplement_25 : decode cX2_addComplement 25 = .ok (.invokevirtual 56, 3) := by decide +kernel
theorem dX2_addComplement_28 : decode cX2_addComplement 28 = .ok (.ireturn, 1) := by decide +kernel
theorem dX2_addComplement_29 : decode cX2_addComplement 29 = .ok (.aload_n 0, 1) := by decide +kernel
theorem dX2_addComplement_30 : decode cX2_addComplement 30 = .ok (.aload_n 0, 1) := by decide +kernel
theorem dX2_addComplement_31 : decode cX2_addComplement 31 = .ok (.getfield 7, 3) := by decide +kernel
theorem dX2_addComplement_34 : decode cX2_addComplement 34 = .ok (.iload_n 1, 1) := by decide +kernel
theorem dX2_addComplement_35 : decode cX2_addComplement 35 = .ok (.iaload, 1) := by decide +kernel
theorem dX2_addComplement_36 : decode cX2_addComplement 36 = .ok (.aload_n 0, 1) := by decide +kernel
theorem dX2_addComplement_37 : decode cX2_addComplement 37 = .ok (.getfield 7, 3) := by decide +kernel
theorem dX2_addComplement_40 : decode cX2_addComplement 40 = .ok (.iload_n 1, 1) := by decide +kernel
theorem dX2_addComplement_41 : decode cX2_addComplement 41 = .ok (.iaload, 1) := by decide +kernel
theorem dX2_addComplement_42 : decode cX2_addComplement 42 = .ok (.invokestatic 68, 3) := by decide +kernel
theorem dX2_addComplement_45 : decode cX2_addComplement 45 = .ok (.aload_n 0, 1) := by decide +kernel
theorem dX2_addComplement_46 : decode cX2_addComplement 46 = .ok (.getfield 13, 3) := by decide +kernel
theorem dX2_addComplement_49 : decode cX2_addComplement 49 = .ok (.iload_n 1, 1) := by decide +kernel
theorem dX2_addComplement_50 : decode cX2_addComplement 50 = .ok (.iaload, 1) := by decide +kernel
theorem dX2_addComplement_51 : decode cX2_addComplement 51 = .ok (.iconst (-1), 1) := by decide +kernel
theorem dX2_addComplement_52 : decode cX2_addComplement 52 = .ok (.ixor, 1) := by decide +kernel
theorem dX2_addComplement_53 : decode cX2_addComplement 53 = .ok (.iand, 1) := by decide +kernel
theorem dX2_addComplement_54 : decode cX2_addComplement 54 = .ok (.invokevirtual 60, 3) := by decide +kernel
theorem dX2_addComplement_57 : decode cX2_addComplement 57 = .ok (.ireturn, 1) := by decide +kernel
theorem dX2_addIntersection_0 : decode cX2_addIntersection 0 = .ok (.aload_n 0, 1) := by decide +kernel
theorem dX2_addIntersection_1 : decode cX2_addIntersection 1 = .ok (.iload_n 1, 1) := by decide +kernel
theorem dX2_addIntersection_2 : decode cX2_addIntersection 2 = .ok (.invokevirtual 78, 3) := by decide +kernel
theorem dX2_addIntersection_5 : decode cX2_addIntersection 5 = .ok (.ifCond .eq 11, 3) := by decide +kernel
theorem dX2_addIntersection_8 : decode cX2_addIntersection 8 = .ok (.aload_n 0, 1) := by decide +kernel
theorem dX2_addIntersection_9 : decode cX2_addIntersection 9 = .ok (.iload_n 2, 1) := by decide +kernel
theorem dX2_addIntersection_10 : decode cX2_addIntersection 10 = .ok (.invokevirtual 78, 3) := by decide +kernel
theorem dX2_addIntersection_13 : decode cX2_addIntersection 13 = .ok (.ifCond .ne 9, 3) := by decide +kernel
theorem dX2_addIntersection_16 : decode cX2_addIntersection 16 = .ok (.aload_n 0, 1) := by decide +kernel
theorem dX2_addIntersection_17 : decode cX2_addIntersection 17 = .ok (.iconst 1, 1) := by decide +kernel
theorem dX2_addIntersection_18 : decode cX2_addIntersection 18 = .ok (.invokevirtual 56, 3) := by decide +kernel
theorem dX2_addIntersection_21 : decode cX2_addIntersection 21 = .ok (.ireturn, 1) := by decide +kernel
theorem dX2_addIntersection_22 : decode cX2_addIntersection 22 = .ok (.aload_n 0, 1) := by decide +kernel
theorem dX2_addIntersection_23 : decode cX2_addIntersection 23 = .ok (.getfield 7, 3) := by decide +kernel
theorem dX2_addIntersection_26 : decode cX2_addIntersection 26 = .ok (.iload_n 1, 1) := by decide +kernel
theorem dX2_addIntersection_27 : decode cX2_addIntersection 27 = .ok (.iaload, 1) := by decide +kernel
theorem dX2_addIntersection_28 : decode cX2_addIntersection 28 = .ok (.aload_n 0, 1) := by decide +kernel
theorem dX2_addIntersection_29 : decode cX2_addIntersection 29 = .ok (.getfield 7, 3) := by decide +kernel
theorem dX2_addIntersection_32 : decode cX2_addIntersection 32 = .ok (.iload_n 2, 1) := by decide +kernel
theorem dX2_addIntersection_33 : decode cX2_addIntersection 33 = .ok (.iaload, 1) := by decide +kernel
theorem dX2_addIntersection_34 : decode cX2_addIntersection 34 = .ok (.if_icmp .eq 9, 3) := by decide +kernel
theorem dX2_addIntersection_37 : decode cX2_addIntersection 37 = .ok (.aload_n 0, 1) := by decide +kernel
theorem dX2_addIntersection_38 : decode cX2_addIntersection 38 = .ok (.iconst 2, 1) := by decide +kernel
theorem dX2_addIntersection_39 : decode cX2_addIntersection 39 = .ok (.invokevirtual 56, 3) := by decide +kernel
theorem dX2_addIntersection_42 : decode cX2_addIntersection 42 = .ok (.ireturn, 1) := by decide +kernel
theorem dX2_addIntersection_43 : decode cX2_addIntersection 43 = .ok (.aload_n 0, 1) := by decide +kernel
theorem dX2_addIntersection_44 : decode cX2_addIntersection 44 = .ok (.getfield 49, 3) := by decide +kernel
theorem dX2_addIntersection_47 : decode cX2_addIntersection 47 = .ok (.bipush 8, 2) := by decide +kernel
theorem dX2_addIntersection_49 : decode cX2_addIntersection 49 = .ok (.if_icmp .ne 9, 3) := by decide +kernel
theorem dX2_addIntersection_52 : decode cX2_addIntersection 52 = .ok (.aload_n 0, 1) := by decide +kernel
theorem dX2_addIntersection_53 : decode cX2_addIntersection 53 = .ok (.iconst 3, 1) := by decide +kernel
theorem dX2_addIntersection_54 : decode cX2_addIntersection 54 = .ok (.invokevirtual 56, 3) := by decide +kernel
theorem dX2_addIntersection_57 : decode cX2_addIntersection 57 = .ok (.ireturn, 1) := by decide +kernel
theorem dX2_addIntersection_58 : decode cX2_addIntersection 58 = .ok (.aload_n 0, 1) := by decide +kernel
theorem dX2_addIntersection_59 : decode cX2_addIntersection 59 = .ok (.aload_n 0, 1) := by decide +kernel
theorem dX2_addIntersection_60 : decode cX2_addIntersection 60 = .ok (.getfield 7, 3) := by decide +kernel
theorem dX2_addIntersection_63 : decode cX2_addIntersection 63 = .ok (.iload_n 1, 1) := by decide +kernel
theorem dX2_addIntersection_64 : decode cX2_addIntersection 64 = .ok (.iaload, 1) := by decide +kernel
theorem dX2_addIntersection_65 : decode cX2_addIntersection 65 = .ok (.aload_n 0, 1) := by decide +kernel
theorem dX2_addIntersection_66 : decode cX2_addIntersection 66 = .ok (.getfield 13, 3) := by decide +kernel
theorem dX2_addIntersection_69 : decode cX2_addIntersection 69 = .ok (.iload_n 1, 1) := by decide +kernel
theorem dX2_addIntersection_70 : decode cX2_addIntersection 70 = .ok (.iaload, 1) := by decide +kernel
theorem dX2_addIntersection_71 : decode cX2_addIntersection 71 = .ok (.aload_n 0, 1) := by decide +kernel
theorem dX2_addIntersection_72 : decode cX2_addIntersection 72 = .ok (.getfield 13, 3) := by decide +kernel
theorem dX2_addIntersection_75 : decode cX2_addIntersection 75 = .ok (.iload_n 2, 1) := by decide +kernel
theorem dX2_addIntersection_76 : decode cX2_addIntersection 76 = .ok (.iaload, 1) := by decide +kernel
theorem dX2_addIntersection_77 : decode cX2_addIntersection 77 = .ok (.iand, 1) := by decide +kernel
theorem dX2_addIntersection_78 : decode cX2_addIntersection 78 = .ok (.invokevirtual 60, 3) := by decide +kernel
theorem dX2_addIntersection_81 : decode cX2_addIntersection 81 = .ok (.ireturn, 1) := by decide +kernel
theorem dX2_addProjection_0 : decode cX2_addProjection 0 = .ok (.aload_n 0, 1) := by decide +kernel
theorem dX2_addProjection_1 : decode cX2_addProjection 1 = .ok (.iload_n 1, 1) := by decide +kernel
theorem dX2_addProjection_2 : decode cX2_addProjection 2 = .ok (.invokevirtual 78, 3) := by decide +kernel
theorem dX2_addProjection_5 : decode cX2_addProjection 5 = .ok (.ifCond .eq 19, 3) := by decide +kernel
theorem dX2_addProjection_8 : decode cX2_addProjection 8 = .ok (.iload_n 2, 1) := by decide +kernel
theorem dX2_addProjection_9 : decode cX2_addProjection 9 = .ok (.iconst 0, 1) := by decide +kernel
theorem dX2_addProjection_10 : decode cX2_addProjection 10 = .ok (.aload_n 0, 1) := by decide +kernel
theorem dX2_addProjection_11 : decode cX2_addProjection 11 = .ok (.getfield 7, 3) := by decide +kernel
theorem dX2_addProjection_14 : decode cX2_addProjection 14 = .ok (.iload_n 1, 1) := by decide +kernel
theorem dX2_addProjection_15 : decode cX2_addProjection 15 = .ok (.iaload, 1) := by decide +kernel
theorem dX2_addProjection_16 : decode cX2_addProjection 16 = .ok (.iconst 1, 1) := by decide +kernel
theorem dX2_addProjection_17 : decode cX2_addProjection 17 = .ok (.isub, 1) := by decide +kernel
theorem dX2_addProjection_18 : decode cX2_addProjection 18 = .ok (.invokestatic 52, 3) := by decide +kernel
theorem dX2_addProjection_21 : decode cX2_addProjection 21 = .ok (.ifCond .ne 9, 3) := by decide +kernel
theorem dX2_addProjection_24 : decode cX2_addProjection 24 = .ok (.aload_n 0, 1) := by decide +kernel
theorem dX2_addProjection_25 : decode cX2_addProjection 25 = .ok (.iconst 1, 1) := by decide +kernel
theorem dX2_addProjection_26 : decode cX2_addProjection 26 = .ok (.invokevirtual 56, 3) := by decide +kernel
theorem dX2_addProjection_29 : decode cX2_addProjection 29 = .ok (.ireturn, 1) := by decide +kernel
theorem dX2_addProjection_30 : decode cX2_addProjection 30 = .ok (.aload_n 0, 1) := by decide +kernel
theorem dX2_addProjection_31 : decode cX2_addProjection 31 = .ok (.getfield 7, 3) := by decide +kernel
theorem dX2_addProjection_34 : decode cX2_addProjection 34 = .ok (.iload_n 1, 1) := by decide +kernel
theorem dX2_addProjection_35 : decode cX2_addProjection 35 = .ok (.iaload, 1) := by decide +kernel
theorem dX2_addProjection_36 : decode cX2_addProjection 36 = .ok (.iconst 1, 1) := by decide +kernel
theorem dX2_addProjection_37 : decode cX2_addProjection 37 = .ok (.if_icmp .ne 9, 3) := by decide +kernel
theorem dX2_addProjection_40 : decode cX2_addProjection 40 = .ok (.aload_n 0, 1) := by decide +kernel
theorem dX2_addProjection_41 : decode cX2_addProjection 41 = .ok (.iconst 2, 1) := by decide +kernel
theorem dX2_addProjection_42 : decode cX2_addProjection 42 = .ok (.invokevirtual 56, 3) := by decide +kernel
theorem dX2_addProjection_45 : decode cX2_addProjection 45 = .ok (.ireturn, 1) := by decide +kernel
theorem dX2_addProjection_46 : decode cX2_addProjection 46 = .ok (.aload_n 0, 1) := by decide +kernel
theorem dX2_addProjection_47 : decode cX2_addProjection 47 = .ok (.getfield 49, 3) := by decide +kernel
theorem dX2_addProjection_50 : decode cX2_addProjection 50 = .ok (.bipush 8, 2) := by decide +kernel
theorem dX2_addProjection_52 : decode cX2_addProjection 52 = .ok (.if_icmp .ne 9, 3) := by decide +kernel
theorem dX2_addProjection_55 : decode cX2_addProjection 55 = .ok (.aload_n 0, 1) := by decide +kernel
theorem dX2_addProjection_56 : decode cX2_addProjection 56 = .ok (.iconst 3, 1) := by decide +kernel
theorem dX2_addProjection_57 : decode cX2_addProjection 57 = .ok (.invokevirtual 56, 3) := by decide +kernel
theorem dX2_addProjection_60 : decode cX2_addProjection 60 = .ok (.ireturn, 1) := by decide +kernel
theorem dX2_addProjection_61 : decode cX2_addProjection 61 = .ok (.iconst 0, 1) := by decide +kernel
theorem dX2_addProjection_62 : decode cX2_addProjection 62 = .ok (.istore_n 3, 1) := by decide +kernel
theorem dX2_addProjection_63 : decode cX2_addProjection 63 = .ok (.iconst 0, 1) := by decide +kernel
theorem dX2_addProjection_64 : decode cX2_addProjection 64 = .ok (.istore 4, 2) := by decide +kernel
theorem dX2_addProjection_66 : decode cX2_addProjection 66 = .ok (.iload 4, 2) := by decide +kernel
theorem dX2_addProjection_68 : decode cX2_addProjection 68 = .ok (.iconst 1, 1) := by decide +kernel
theorem dX2_addProjection_69 : decode cX2_addProjection 69 = .ok (.aload_n 0, 1) := by decide +kernel
theorem dX2_addProjection_70 : decode cX2_addProjection 70 = .ok (.getfield 7, 3) := by decide +kernel
theorem dX2_addProjection_73 : decode cX2_addProjection 73 = .ok (.iload_n 1, 1) := by decide +kernel
theorem dX2_addProjection_74 : decode cX2_addProjection 74 = .ok (.iaload, 1) := by decide +kernel
theorem dX2_addProjection_75 : decode cX2_addProjection 75 = .ok (.ishl, 1) := by decide +kernel
theorem dX2_addProjection_76 : decode cX2_addProjection 76 = .ok (.if_icmp .ge 49, 3) := by decide +kernel
theorem dX2_addProjection_79 : decode cX2_addProjection 79 = .ok (.iload 4, 2) := by decide +kernel
theorem dX2_addProjection_81 : decode cX2_addProjection 81 = .ok (.iconst 1, 1) := by decide +kernel
theorem dX2_addProjection_82 : decode cX2_addProjection 82 = .ok (.iload_n 2, 1) := by decide +kernel
theorem dX2_addProjection_83 : decode cX2_addProjection 83 = .ok (.ishl, 1) := by decide +kernel
theorem dX2_addProjection_84 : decode cX2_addProjection 84 = .ok (.iconst 1, 1) := by decide +kernel
theorem dX2_addProjection_85 : decode cX2_addProjection 85 = .ok (.isub, 1) := by decide +kernel
theorem dX2_addProjection_86 : decode cX2_addProjection 86 = .ok (.iand, 1) := by decide +kernel
theorem dX2_addProjection_87 : decode cX2_addProjection 87 = .ok (.istore 5, 2) := by decide +kernel
theorem dX2_addProjection_89 : decode cX2_addProjection 89 = .ok (.iload 5, 2) := by decide +kernel
theorem dX2_addProjection_91 : decode cX2_addProjection 91 = .ok (.iload 4, 2) := by decide +kernel
theorem dX2_addProjection_93 : decode cX2_addProjection 93 = .ok (.iload_n 2, 1) := by decide +kernel
theorem dX2_addProjection_94 : decode cX2_addProjection 94 = .ok (.iconst 1, 1) := by decide +kernel
theorem dX2_addProjection_95 : decode cX2_addProjection 95 = .ok (.iadd, 1) := by decide +kernel
theorem dX2_addProjection_96 : decode cX2_addProjection 96 = .ok (.ishr, 1) := by decide +kernel
theorem dX2_addProjection_97 : decode cX2_addProjection 97 = .ok (.iload_n 2, 1) := by decide +kernel
theorem dX2_addProjection_98 : decode cX2_addProjection 98 = .ok (.ishl, 1) := by decide +kernel
theorem dX2_addProjection_99 : decode cX2_addProjection 99 = .ok (.ior, 1) := by decide +kernel
theorem dX2_addProjection_100 : decode cX2_addProjection 100 = .ok (.istore 6, 2) := by decide +kernel
theorem dX2_addProjection_102 : decode cX2_addProjection 102 = .ok (.iload_n 3, 1) := by decide +kernel
theorem dX2_addProjection_103 : decode cX2_addProjection 103 = .ok (.aload_n 0, 1) := by decide +kernel
theorem dX2_addProjection_104 : decode cX2_addProjection 104 = .ok (.getfield 13, 3) := by decide +kernel
theorem dX2_addProjection_107 : decode cX2_addProjection 107 = .ok (.iload_n 1, 1) := by decide +kernel
theorem dX2_addProjection_108 : decode cX2_addProjection 108 = .ok (.iaload, 1) := by decide +kernel
theorem dX2_addProjection_109 : decode cX2_addProjection 109 = .ok (.iload 4, 2) := by decide +kernel
theorem dX2_addProjection_111 : decode cX2_addProjection 111 = .ok (.ishr, 1) := by decide +kernel
theorem dX2_addProjection_112 : decode cX2_addProjection 112 = .ok (.iconst 1, 1) := by decide +kernel
theorem dX2_addProjection_113 : decode cX2_addProjection 113 = .ok (.iand, 1) := by decide +kernel
theorem dX2_addProjection_114 : decode cX2_addProjection 114 = .ok (.iload 6, 2) := by decide +kernel
theorem dX2_addProjection_116 : decode cX2_addProjection 116 = .ok (.ishl, 1) := by decide +kernel
theorem dX2_addProjection_117 : decode cX2_addProjection 117 = .ok (.ior, 1) := by decide +kernel
theorem dX2_addProjection_118 : decode cX2_addProjection 118 = .ok (.istore_n 3, 1) := by decide +kernel
theorem dX2_addProjection_119 : decode cX2_addProjection 119 = .ok (.iinc 4 1, 3) := by decide +kernel
theorem dX2_addProjection_122 : decode cX2_addProjection 122 = .ok (.goto (-56), 3) := by decide +kernel
theorem dX2_addProjection_125 : decode cX2_addProjection 125 = .ok (.aload_n 0, 1) := by decide +kernel
theorem dX2_addProjection_126 : decode cX2_addProjection 126 = .ok (.aload_n 0, 1) := by decide +kernel
theorem dX2_addProjection_127 : decode cX2_addProjection 127 = .ok (.getfield 7, 3) := by decide +kernel
theorem dX2_addProjection_130 : decode cX2_addProjection 130 = .ok (.iload_n 1, 1) := by decide +kernel
theorem dX2_addProjection_131 : decode cX2_addProjection 131 = .ok (.iaload, 1) := by decide +kernel
theorem dX2_addProjection_132 : decode cX2_addProjection 132 = .ok (.iconst 1, 1) := by decide +kernel
theorem dX2_addProjection_133 : decode cX2_addProjection 133 = .ok (.isub, 1) := by decide +kernel
theorem dX2_addProjection_134 : decode cX2_addProjection 134 = .ok (.iload_n 3, 1) := by decide +kernel
theorem dX2_addProjection_135 : decode cX2_addProjection 135 = .ok (.invokevirtual 60, 3) := by decide +kernel
theorem dX2_addProjection_138 : decode cX2_addProjection 138 = .ok (.ireturn, 1) := by decide +kernel
theorem dX2_addExchanged_0 : decode cX2_addExchanged 0 = .ok (.aload_n 0, 1) := by decide +kernel
theorem dX2_addExchanged_1 : decode cX2_addExchanged 1 = .ok (.iload_n 1, 1) := by decide +kernel
theorem dX2_addExchanged_2 : decode cX2_addExchanged 2 = .ok (.invokevirtual 78, 3) := by decide +kernel
theorem dX2_addExchanged_5 : decode cX2_addExchanged 5 = .ok (.ifCond .eq 35, 3) := by decide +kernel
theorem dX2_addExchanged_8 : decode cX2_addExchanged 8 = .ok (.iload_n 2, 1) := by decide +kernel
theorem dX2_addExchanged_9 : decode cX2_addExchanged 9 = .ok (.iconst 0, 1) := by decide +kernel
theorem dX2_addExchanged_10 : decode cX2_addExchanged 10 = .ok (.aload_n 0, 1) := by decide +kernel
theorem dX2_addExchanged_11 : decode cX2_addExchanged 11 = .ok (.getfield 7, 3) := by decide +kernel
theorem dX2_addExchanged_14 : decode cX2_addExchanged 14 = .ok (.iload_n 1, 1) := by decide +kernel
theorem dX2_addExchanged_15 : decode cX2_addExchanged 15 = .ok (.iaload, 1) := by decide +kernel
theorem dX2_addExchanged_16 : decode cX2_addExchanged 16 = .ok (.iconst 1, 1) := by decide +kernel
theorem dX2_addExchanged_17 : decode cX2_addExchanged 17 = .ok (.isub, 1) := by decide +kernel
theorem dX2_addExchanged_18 : decode cX2_addExchanged 18 = .ok (.invokestatic 52, 3) := by decide +kernel
theorem dX2_addExchanged_21 : decode cX2_addExchanged 21 = .ok (.ifCond .eq 19, 3) := by decide +kernel
theorem dX2_addExchanged_24 : decode cX2_addExchanged 24 = .ok (.iload_n 3, 1) := by decide +kernel
theorem dX2_addExchanged_25 : decode cX2_addExchanged 25 = .ok (.iconst 0, 1) := by decide +kernel
theorem dX2_addExchanged_26 : decode cX2_addExchanged 26 = .ok (.aload_n 0, 1) := by decide +kernel
theorem dX2_addExchanged_27 : decode cX2_addExchanged 27 = .ok (.getfield 7, 3) := by decide +kernel
theorem dX2_addExchanged_30 : decode cX2_addExchanged 30 = .ok (.iload_n 1, 1) := by decide +kernel
theorem dX2_addExchanged_31 : decode cX2_addExchanged 31 = .ok (.iaload, 1) := by decide +kernel
theorem dX2_addExchanged_32 : decode cX2_addExchanged 32 = .ok (.iconst 1, 1) := by decide +kernel
theorem dX2_addExchanged_33 : decode cX2_addExchanged 33 = .ok (.isub, 1) := by decide +kernel
theorem dX2_addExchanged_34 : decode cX2_addExchanged 34 = .ok (.invokestatic 52, 3) := by decide +kernel
theorem dX2_addExchanged_37 : decode cX2_addExchanged 37 = .ok (.ifCond .ne 9, 3) := by decide +kernel
theorem dX2_addExchanged_40 : decode cX2_addExchanged 40 = .ok (.aload_n 0, 1) := by decide +kernel
theorem dX2_addExchanged_41 : decode cX2_addExchanged 41 = .ok (.iconst 1, 1) := by decide +kernel
theorem dX2_addExchanged_42 : decode cX2_addExchanged 42 = .ok (.invokevirtual 56, 3) := by decide +kernel
theorem dX2_addExchanged_45 : decode cX2_addExchanged 45 = .ok (.ireturn, 1) := by decide +kernel
theorem dX2_addExchanged_46 : decode cX2_addExchanged 46 = .ok (.aload_n 0, 1) := by decide +kernel
theorem dX2_addExchanged_47 : decode cX2_addExchanged 47 = .ok (.getfield 49, 3) := by decide +kernel
theorem dX2_addExchanged_50 : decode cX2_addExchanged 50 = .ok (.bipush 8, 2) := by decide +kernel
theorem dX2_addExchanged_52 : decode cX2_addExchanged 52 = .ok (.if_icmp .ne 9, 3) := by decide +kernel
theorem dX2_addExchanged_55 : decode cX2_addExchanged 55 = .ok (.aload_n 0, 1) := by decide +kernel
theorem dX2_addExchanged_56 : decode cX2_addExchanged 56 = .ok (.iconst 2, 1) := by decide +kernel
theorem dX2_addExchanged_57 : decode cX2_addExchanged 57 = .ok (.invokevirtual 56, 3) := by decide +kernel
theorem dX2_addExchanged_60 : decode cX2_addExchanged 60 = .ok (.ireturn, 1) := by decide +kernel
theorem dX2_addExchanged_61 : decode cX2_addExchanged 61 = .ok (.iconst 0, 1) := by decide +kernel
theorem dX2_addExchanged_62 : decode cX2_addExchanged 62 = .ok (.istore 4, 2) := by decide +kernel
theorem dX2_addExchanged_64 : decode cX2_addExchanged 64 = .ok (.iconst 0, 1) := by decide +kernel
theorem dX2_addExchanged_65 : decode cX2_addExchanged 65 = .ok (.istore 5, 2) := by decide +kernel
theorem dX2_addExchanged_67 : decode cX2_addExchanged 67 = .ok (.iload 5, 2) := by decide +kernel
theorem dX2_addExchanged_69 : decode cX2_addExchanged 69 = .ok (.iconst 1, 1) := by decide +kernel
theorem dX2_addExchanged_70 : decode cX2_addExchanged 70 = .ok (.aload_n 0, 1) := by decide +kernel
theorem dX2_addExchanged_71 : decode cX2_addExchanged 71 = .ok (.getfield 7, 3) := by decide +kernel
theorem dX2_addExchanged_74 : decode cX2_addExchanged 74 = .ok (.iload_n 1, 1) := by decide +kernel
theorem dX2_addExchanged_75 : decode cX2_addExchanged 75 = .ok (.iaload, 1) := by decide +kernel
theorem dX2_addExchanged_76 : decode cX2_addExchanged 76 = .ok (.ishl, 1) := by decide +kernel
theorem dX2_addExchanged_77 : decode cX2_addExchanged 77 = .ok (.if_icmp .ge 66, 3) := by decide +kernel
theorem dX2_addExchanged_80 : decode cX2_addExchanged 80 = .ok (.iload 5, 2) := by decide +kernel
theorem dX2_addExchanged_82 : decode cX2_addExchanged 82 = .ok (.iconst 1, 1) := by decide +kernel
theorem dX2_addExchanged_83 : decode cX2_addExchanged 83 = .ok (.iload_n 2, 1) := by decide +kernel
theorem dX2_addExchanged_84 : decode cX2_addExchanged 84 = .ok (.ishl, 1) := by decide +kernel
theorem dX2_addExchanged_85 : decode cX2_addExchanged 85 = .ok (.iconst (-1), 1) := by decide +kernel
theorem dX2_addExchanged_86 : decode cX2_addExchanged 86 = .ok (.ixor, 1) := by decide +kernel
theorem dX2_addExchanged_87 : decode cX2_addExchanged 87 = .ok (.iand, 1) := by decide +kernel
theorem dX2_addExchanged_88 : decode cX2_addExchanged 88 = .ok (.iconst 1, 1) := by decide +kernel
theorem dX2_addExchanged_89 : decode cX2_addExchanged 89 = .ok (.iload_n 3, 1) := by decide +kernel
theorem dX2_addExchanged_90 : decode cX2_addExchanged 90 = .ok (.ishl, 1) := by decide +kernel
theorem dX2_addExchanged_91 : decode cX2_addExchanged 91 = .ok (.iconst (-1), 1) := by decide +kernel
theorem dX2_addExchanged_92 : decode cX2_addExchanged 92 = .ok (.ixor, 1) := by decide +kernel
theorem dX2_addExchanged_93 : decode cX2_addExchanged 93 = .ok (.iand, 1) := by decide +kernel
theorem dX2_addExchanged_94 : decode cX2_addExchanged 94 = .ok (.istore 6, 2) := by decide +kernel
theorem dX2_addExchanged_96 : decode cX2_addExchanged 96 = .ok (.iload 6, 2) := by decide +kernel
theorem dX2_addExchanged_98 : decode cX2_addExchanged 98 = .ok (.iload 5, 2) := by decide +kernel
theorem dX2_addExchanged_100 : decode cX2_addExchanged 100 = .ok (.iload_n 2, 1) := by decide +kernel
theorem dX2_addExchanged_101 : decode cX2_addExchanged 101 = .ok (.ishr, 1) := by decide +kernel
theorem dX2_addExchanged_102 : decode cX2_addExchanged 102 = .ok (.iconst 1, 1) := by decide +kernel
theorem dX2_addExchanged_103 : decode cX2_addExchanged 103 = .ok (.iand, 1) := by decide +kernel
theorem dX2_addExchanged_104 : decode cX2_addExchanged 104 = .ok (.iload_n 3, 1) := by decide +kernel
theorem dX2_addExchanged_105 : decode cX2_addExchanged 105 = .ok (.ishl, 1) := by decide +kernel
theorem dX2_addExchanged_106 : decode cX2_addExchanged 106 = .ok (.ior, 1) := by decide +kernel
theorem dX2_addExchanged_107 : decode cX2_addExchanged 107 = .ok (.iload 5, 2) := by decide +kernel
theorem dX2_addExchanged_109 : decode cX2_addExchanged 109 = .ok (.iload_n 3, 1) := by decide +kernel
theorem dX2_addExchanged_110 : decode cX2_addExchanged 110 = .ok (.ishr, 1) := by decide +kernel
theorem dX2_addExchanged_111 : decode cX2_addExchanged 111 = .ok (.iconst 1, 1) := by decide +kernel
theorem dX2_addExchanged_112 : decode cX2_addExchanged 112 = .ok (.iand, 1) := by decide +kernel
theorem dX2_addExchanged_113 : decode cX2_addExchanged 113 = .ok (.iload_n 2, 1) := by decide +kernel
theorem dX2_addExchanged_114 : decode cX2_addExchanged 114 = .ok (.ishl, 1) := by decide +kernel
theorem dX2_addExchanged_115 : decode cX2_addExchanged 115 = .ok (.ior, 1) := by decide +kernel
theorem dX2_addExchanged_116 : decode cX2_addExchanged 116 = .ok (.istore 7, 2) := by decide +kernel
theorem dX2_addExchanged_118 : decode cX2_addExchanged 118 = .ok (.iload 4, 2) := by decide +kernel
theorem dX2_addExchanged_120 : decode cX2_addExchanged 120 = .ok (.aload_n 0, 1) := by decide +kernel
theorem dX2_addExchanged_121 : decode cX2_addExchanged 121 = .ok (.getfield 13, 3) := by decide +kernel
theorem dX2_addExchanged_124 : decode cX2_addExchanged 124 = .ok (.iload_n 1, 1) := by decide +kernel
theorem dX2_addExchanged_125 : decode cX2_addExchanged 125 = .ok (.iaload, 1) := by decide +kernel
theorem dX2_addExchanged_126 : decode cX2_addExchanged 126 = .ok (.iload 5, 2) := by decide +kernel
theorem dX2_addExchanged_128 : decode cX2_addExchanged 128 = .ok (.ishr, 1) := by decide +kernel
theorem dX2_addExchanged_129 : decode cX2_addExchanged 129 = .ok (.iconst 1, 1) := by decide +kernel
theorem dX2_addExchanged_130 : decode cX2_addExchanged 130 = .ok (.iand, 1) := by decide +kernel
theorem dX2_addExchanged_131 : decode cX2_addExchanged 131 = .ok (.iload 7, 2) := by decide +kernel
theorem dX2_addExchanged_133 : decode cX2_addExchanged 133 = .ok (.ishl, 1) := by decide +kernel
theorem dX2_addExchanged_134 : decode cX2_addExchanged 134 = .ok (.ior, 1) := by decide +kernel
theorem dX2_addExchanged_135 : decode cX2_addExchanged 135 = .ok (.istore 4, 2) := by decide +kernel
theorem dX2_addExchanged_137 : decode cX2_addExchanged 137 = .ok (.iinc 5 1, 3) := by decide +kernel
theorem dX2_addExchanged_140 : decode cX2_addExchanged 140 = .ok (.goto (-73), 3) := by decide +kernel
theorem dX2_addExchanged_143 : decode cX2_addExchanged 143 = .ok (.aload_n 0, 1) := by decide +kernel
theorem dX2_addExchanged_144 : decode cX2_addExchanged 144 = .ok (.aload_n 0, 1) := by decide +kernel
theorem dX2_addExchanged_145 : decode cX2_addExchanged 145 = .ok (.getfield 7, 3) := by decide +kernel
theorem dX2_addExchanged_148 : decode cX2_addExchanged 148 = .ok (.iload_n 1, 1) := by decide +kernel
theorem dX2_addExchanged_149 : decode cX2_addExchanged 149 = .ok (.iaload, 1) := by decide +kernel
theorem dX2_addExchanged_150 : decode cX2_addExchanged 150 = .ok (.iload 4, 2) := by decide +kernel
theorem dX2_addExchanged_152 : decode cX2_addExchanged 152 = .ok (.invokevirtual 60, 3) := by decide +kernel
theorem dX2_addExchanged_155 : decode cX2_addExchanged 155 = .ok (.ireturn, 1) := by decide +kernel
theorem dX2_isOperation_0 : decode cX2_isOperation 0 = .ok (.iload_n 0, 1) := by decide +kernel
theorem dX2_isOperation_1 : decode cX2_isOperation 1 = .ok (.iconst 1, 1) := by decide +kernel
theorem dX2_isOperation_2 : decode cX2_isOperation 2 = .ok (.iconst 3, 1) := by decide +kernel
theorem dX2_isOperation_3 : decode cX2_isOperation 3 = .ok (.invokestatic 52, 3) := by decide +kernel
theorem dX2_isOperation_6 : decode cX2_isOperation 6 = .ok (.ifCond .eq 20, 3) := by decide +kernel
theorem dX2_isOperation_9 : decode cX2_isOperation 9 = .ok (.iload_n 1, 1) := by decide +kernel
theorem dX2_isOperation_10 : decode cX2_isOperation 10 = .ok (.ifCond .lt 16, 3) := by decide +kernel
theorem dX2_isOperation_13 : decode cX2_isOperation 13 = .ok (.iload_n 1, 1) := by decide +kernel
theorem dX2_isOperation_14 : decode cX2_isOperation 14 = .ok (.iconst 1, 1) := by decide +kernel
theorem dX2_isOperation_15 : decode cX2_isOperation 15 = .ok (.iconst 1, 1) := by decide +kernel
theorem dX2_isOperation_16 : decode cX2_isOperation 16 = .ok (.iload_n 0, 1) := by decide +kernel
theorem dX2_isOperation_17 : decode cX2_isOperation 17 = .ok (.ishl, 1) := by decide +kernel
theorem dX2_isOperation_18 : decode cX2_isOperation 18 = .ok (.ishl, 1) := by decide +kernel
theorem dX2_isOperation_19 : decode cX2_isOperation 19 = .ok (.if_icmp .ge 7, 3) := by decide +kernel
theorem dX2_isOperation_22 : decode cX2_isOperation 22 = .ok (.iconst 1, 1) := by decide +kernel
theorem dX2_isOperation_23 : decode cX2_isOperation 23 = .ok (.goto 4, 3) := by decide +kernel
theorem dX2_isOperation_26 : decode cX2_isOperation 26 = .ok (.iconst 0, 1) := by decide +kernel
theorem dX2_isOperation_27 : decode cX2_isOperation 27 = .ok (.ireturn, 1) := by decide +kernel
theorem dX2_placeOf_0 : decode cX2_placeOf 0 = .ok (.iload_n 1, 1) := by decide +kernel
theorem dX2_placeOf_1 : decode cX2_placeOf 1 = .ok (.iload_n 0, 1) := by decide +kernel
theorem dX2_placeOf_2 : decode cX2_placeOf 2 = .ok (.iconst 1, 1) := by decide +kernel
theorem dX2_placeOf_3 : decode cX2_placeOf 3 = .ok (.if_icmp .le 9, 3) := by decide +kernel
theorem dX2_placeOf_6 : decode cX2_placeOf 6 = .ok (.iconst 2, 1) := by decide +kernel
theorem dX2_placeOf_7 : decode cX2_placeOf 7 = .ok (.iload_n 2, 1) := by decide +kernel
theorem dX2_placeOf_8 : decode cX2_placeOf 8 = .ok (.imul, 1) := by decide +kernel
theorem dX2_placeOf_9 : decode cX2_placeOf 9 = .ok (.goto 4, 3) := by decide +kernel
theorem dX2_placeOf_12 : decode cX2_placeOf 12 = .ok (.iconst 0, 1) := by decide +kernel
theorem dX2_placeOf_13 : decode cX2_placeOf 13 = .ok (.iadd, 1) := by decide +kernel
theorem dX2_placeOf_14 : decode cX2_placeOf 14 = .ok (.iload_n 0, 1) := by decide +kernel
theorem dX2_placeOf_15 : decode cX2_placeOf 15 = .ok (.iconst 2, 1) := by decide +kernel
theorem dX2_placeOf_16 : decode cX2_placeOf 16 = .ok (.if_icmp .le 9, 3) := by decide +kernel
theorem dX2_placeOf_19 : decode cX2_placeOf 19 = .ok (.iconst 4, 1) := by decide +kernel
theorem dX2_placeOf_20 : decode cX2_placeOf 20 = .ok (.iload_n 3, 1) := by decide +kernel
theorem dX2_placeOf_21 : decode cX2_placeOf 21 = .ok (.imul, 1) := by decide +kernel
theorem dX2_placeOf_22 : decode cX2_placeOf 22 = .ok (.goto 4, 3) := by decide +kernel
theorem dX2_placeOf_25 : decode cX2_placeOf 25 = .ok (.iconst 0, 1) := by decide +kernel
theorem dX2_placeOf_26 : decode cX2_placeOf 26 = .ok (.iadd, 1) := by decide +kernel
theorem dX2_placeOf_27 : decode cX2_placeOf 27 = .ok (.ireturn, 1) := by decide +kernel
theorem dX2_apply_0 : decode cX2_apply 0 = .ok (.iload_n 1, 1) := by decide +kernel
theorem dX2_apply_1 : decode cX2_apply 1 = .ok (.iload_n 2, 1) := by decide +kernel
theorem dX2_apply_2 : decode cX2_apply 2 = .ok (.invokestatic 87, 3) := by decide +kernel
theorem dX2_apply_5 : decode cX2_apply 5 = .ok (.ifCond .eq 26, 3) := by decide +kernel
theorem dX2_apply_8 : decode cX2_apply 8 = .ok (.iload_n 3, 1) := by decide +kernel
theorem dX2_apply_9 : decode cX2_apply 9 = .ok (.invokestatic 71, 3) := by decide +kernel
theorem dX2_apply_12 : decode cX2_apply 12 = .ok (.ifCond .eq 19, 3) := by decide +kernel
theorem dX2_apply_15 : decode cX2_apply 15 = .ok (.iload 4, 2) := by decide +kernel
theorem dX2_apply_17 : decode cX2_apply 17 = .ok (.invokestatic 71, 3) := by decide +kernel
theorem dX2_apply_20 : decode cX2_apply 20 = .ok (.ifCond .eq 11, 3) := by decide +kernel
theorem dX2_apply_23 : decode cX2_apply 23 = .ok (.iload 5, 2) := by decide +kernel
theorem dX2_apply_25 : decode cX2_apply 25 = .ok (.invokestatic 71, 3) := by decide +kernel
theorem dX2_apply_28 : decode cX2_apply 28 = .ok (.ifCond .ne 9, 3) := by decide +kernel
theorem dX2_apply_31 : decode cX2_apply 31 = .ok (.aload_n 0, 1) := by decide +kernel
theorem dX2_apply_32 : decode cX2_apply 32 = .ok (.iconst 1, 1) := by decide +kernel
theorem dX2_apply_33 : decode cX2_apply 33 = .ok (.invokevirtual 56, 3) := by decide +kernel
theorem dX2_apply_36 : decode cX2_apply 36 = .ok (.ireturn, 1) := by decide +kernel
theorem dX2_apply_37 : decode cX2_apply 37 = .ok (.aload_n 0, 1) := by decide +kernel
theorem dX2_apply_38 : decode cX2_apply 38 = .ok (.iconst 0, 1) := by decide +kernel
theorem dX2_apply_39 : decode cX2_apply 39 = .ok (.putfield 46, 3) := by decide +kernel
theorem dX2_apply_42 : decode cX2_apply 42 = .ok (.iload_n 2, 1) := by decide +kernel
theorem dX2_apply_43 : decode cX2_apply 43 = .ok (.iload_n 1, 1) := by decide +kernel
theorem dX2_apply_44 : decode cX2_apply 44 = .ok (.iload_n 3, 1) := by decide +kernel
theorem dX2_apply_45 : decode cX2_apply 45 = .ok (.iload 4, 2) := by decide +kernel
theorem dX2_apply_47 : decode cX2_apply 47 = .ok (.iload 5, 2) := by decide +kernel
theorem dX2_apply_49 : decode cX2_apply 49 = .ok (.invokestatic 90, 3) := by decide +kernel
theorem dX2_apply_52 : decode cX2_apply 52 = .ok (.ishr, 1) := by decide +kernel
theorem dX2_apply_53 : decode cX2_apply 53 = .ok (.iconst 1, 1) := by decide +kernel
theorem dX2_apply_54 : decode cX2_apply 54 = .ok (.iand, 1) := by decide +kernel
theorem dX2_apply_55 : decode cX2_apply 55 = .ok (.ireturn, 1) := by decide +kernel
theorem dX2_applied_0 : decode cX2_applied 0 = .ok (.iconst 0, 1) := by decide +kernel
theorem dX2_applied_1 : decode cX2_applied 1 = .ok (.istore 5, 2) := by decide +kernel
theorem dX2_applied_3 : decode cX2_applied 3 = .ok (.iconst 0, 1) := by decide +kernel
theorem dX2_applied_4 : decode cX2_applied 4 = .ok (.istore 6, 2) := by decide +kernel
theorem dX2_applied_6 : decode cX2_applied 6 = .ok (.iload 6, 2) := by decide +kernel
theorem dX2_applied_8 : decode cX2_applied 8 = .ok (.iconst 4, 1) := by decide +kernel
theorem dX2_applied_9 : decode cX2_applied 9 = .ok (.if_icmp .ge 44, 3) := by decide +kernel
theorem dX2_applied_12 : decode cX2_applied 12 = .ok (.iload 5, 2) := by decide +kernel
theorem dX2_applied_14 : decode cX2_applied 14 = .ok (.iload_n 1, 1) := by decide +kernel
theorem dX2_applied_15 : decode cX2_applied 15 = .ok (.iload_n 0, 1) := by decide +kernel
theorem dX2_applied_16 : decode cX2_applied 16 = .ok (.iload_n 2, 1) := by decide +kernel
theorem dX2_applied_17 : decode cX2_applied 17 = .ok (.iload 6, 2) := by decide +kernel
theorem dX2_applied_19 : decode cX2_applied 19 = .ok (.ishr, 1) := by decide +kernel
theorem dX2_applied_20 : decode cX2_applied 20 = .ok (.iconst 1, 1) := by decide +kernel
theorem dX2_applied_21 : decode cX2_applied 21 = .ok (.iand, 1) := by decide +kernel
theorem dX2_applied_22 : decode cX2_applied 22 = .ok (.iload_n 3, 1) := by decide +kernel
theorem dX2_applied_23 : decode cX2_applied 23 = .ok (.iload 6, 2) := by decide +kernel
theorem dX2_applied_25 : decode cX2_applied 25 = .ok (.ishr, 1) := by decide +kernel
theorem dX2_applied_26 : decode cX2_applied 26 = .ok (.iconst 1, 1) := by decide +kernel
theorem dX2_applied_27 : decode cX2_applied 27 = .ok (.iand, 1) := by decide +kernel
theorem dX2_applied_28 : decode cX2_applied 28 = .ok (.iload 4, 2) := by decide +kernel
theorem dX2_applied_30 : decode cX2_applied 30 = .ok (.iload 6, 2) := by decide +kernel
theorem dX2_applied_32 : decode cX2_applied 32 = .ok (.ishr, 1) := by decide +kernel
theorem dX2_applied_33 : decode cX2_applied 33 = .ok (.iconst 1, 1) := by decide +kernel
theorem dX2_applied_34 : decode cX2_applied 34 = .ok (.iand, 1) := by decide +kernel
theorem dX2_applied_35 : decode cX2_applied 35 = .ok (.invokestatic 90, 3) := by decide +kernel
theorem dX2_applied_38 : decode cX2_applied 38 = .ok (.ishr, 1) := by decide +kernel
theorem dX2_applied_39 : decode cX2_applied 39 = .ok (.iconst 1, 1) := by decide +kernel
theorem dX2_applied_40 : decode cX2_applied 40 = .ok (.iand, 1) := by decide +kernel
theorem dX2_applied_41 : decode cX2_applied 41 = .ok (.iload 6, 2) := by decide +kernel
theorem dX2_applied_43 : decode cX2_applied 43 = .ok (.ishl, 1) := by decide +kernel
theorem dX2_applied_44 : decode cX2_applied 44 = .ok (.ior, 1) := by decide +kernel
theorem dX2_applied_45 : decode cX2_applied 45 = .ok (.istore 5, 2) := by decide +kernel
theorem dX2_applied_47 : decode cX2_applied 47 = .ok (.iinc 6 1, 3) := by decide +kernel
theorem dX2_applied_50 : decode cX2_applied 50 = .ok (.goto (-44), 3) := by decide +kernel
theorem dX2_applied_53 : decode cX2_applied 53 = .ok (.iload 5, 2) := by decide +kernel
theorem dX2_applied_55 : decode cX2_applied 55 = .ok (.ireturn, 1) := by decide +kernel
theorem dX2_madeOf_0 : decode cX2_madeOf 0 = .ok (.iconst 0, 1) := by decide +kernel
theorem dX2_madeOf_1 : decode cX2_madeOf 1 = .ok (.istore 4, 2) := by decide +kernel
theorem dX2_madeOf_3 : decode cX2_madeOf 3 = .ok (.iconst 0, 1) := by decide +kernel
theorem dX2_madeOf_4 : decode cX2_madeOf 4 = .ok (.istore 5, 2) := by decide +kernel
theorem dX2_madeOf_6 : decode cX2_madeOf 6 = .ok (.iload 5, 2) := by decide +kernel
theorem dX2_madeOf_8 : decode cX2_madeOf 8 = .ok (.bipush 16, 2) := by decide +kernel
theorem dX2_madeOf_10 : decode cX2_madeOf 10 = .ok (.if_icmp .ge 123, 3) := by decide +kernel
theorem dX2_madeOf_13 : decode cX2_madeOf 13 = .ok (.iload_n 2, 1) := by decide +kernel
theorem dX2_madeOf_14 : decode cX2_madeOf 14 = .ok (.iload 5, 2) := by decide +kernel
theorem dX2_madeOf_16 : decode cX2_madeOf 16 = .ok (.ishr, 1) := by decide +kernel
theorem dX2_madeOf_17 : decode cX2_madeOf 17 = .ok (.iconst 1, 1) := by decide +kernel
theorem dX2_madeOf_18 : decode cX2_madeOf 18 = .ok (.iand, 1) := by decide +kernel
theorem dX2_madeOf_19 : decode cX2_madeOf 19 = .ok (.ifCond .ne 6, 3) := by decide +kernel
theorem dX2_madeOf_22 : decode cX2_madeOf 22 = .ok (.goto 105, 3) := by decide +kernel
theorem dX2_madeOf_25 : decode cX2_madeOf 25 = .ok (.iconst 0, 1) := by decide +kernel
theorem dX2_madeOf_26 : decode cX2_madeOf 26 = .ok (.istore 6, 2) := by decide +kernel
theorem dX2_madeOf_28 : decode cX2_madeOf 28 = .ok (.iload 6, 2) := by decide +kernel
theorem dX2_madeOf_30 : decode cX2_madeOf 30 = .ok (.iload_n 0, 1) := by decide +kernel
theorem dX2_madeOf_31 : decode cX2_madeOf 31 = .ok (.iconst 1, 1) := by decide +kernel
theorem dX2_madeOf_32 : decode cX2_madeOf 32 = .ok (.if_icmp .le 8, 3) := by decide +kernel
theorem dX2_madeOf_35 : decode cX2_madeOf 35 = .ok (.bipush 16, 2) := by decide +kernel
theorem dX2_madeOf_37 : decode cX2_madeOf 37 = .ok (.goto 4, 3) := by decide +kernel
theorem dX2_madeOf_40 : decode cX2_madeOf 40 = .ok (.iconst 1, 1) := by decide +kernel
theorem dX2_madeOf_41 : decode cX2_madeOf 41 = .ok (.if_icmp .ge 86, 3) := by decide +kernel
theorem dX2_madeOf_44 : decode cX2_madeOf 44 = .ok (.iload_n 0, 1) := by decide +kernel
theorem dX2_madeOf_45 : decode cX2_madeOf 45 = .ok (.iconst 1, 1) := by decide +kernel
theorem dX2_madeOf_46 : decode cX2_madeOf 46 = .ok (.if_icmp .le 15, 3) := by decide +kernel
theorem dX2_madeOf_49 : decode cX2_madeOf 49 = .ok (.iload_n 2, 1) := by decide +kernel
theorem dX2_madeOf_50 : decode cX2_madeOf 50 = .ok (.iload 6, 2) := by decide +kernel
theorem dX2_madeOf_52 : decode cX2_madeOf 52 = .ok (.ishr, 1) := by decide +kernel
theorem dX2_madeOf_53 : decode cX2_madeOf 53 = .ok (.iconst 1, 1) := by decide +kernel
theorem dX2_madeOf_54 : decode cX2_madeOf 54 = .ok (.iand, 1) := by decide +kernel
theorem dX2_madeOf_55 : decode cX2_madeOf 55 = .ok (.ifCond .ne 6, 3) := by decide +kernel
theorem dX2_madeOf_58 : decode cX2_madeOf 58 = .ok (.goto 63, 3) := by decide +kernel
theorem dX2_madeOf_61 : decode cX2_madeOf 61 = .ok (.iconst 0, 1) := by decide +kernel
theorem dX2_madeOf_62 : decode cX2_madeOf 62 = .ok (.istore 7, 2) := by decide +kernel
theorem dX2_madeOf_64 : decode cX2_madeOf 64 = .ok (.iload 7, 2) := by decide +kernel
theorem dX2_madeOf_66 : decode cX2_madeOf 66 = .ok (.iload_n 0, 1) := by decide +kernel
theorem dX2_madeOf_67 : decode cX2_madeOf 67 = .ok (.iconst 2, 1) := by decide +kernel
theorem dX2_madeOf_68 : decode cX2_madeOf 68 = .ok (.if_icmp .le 8, 3) := by decide +kernel
theorem dX2_madeOf_71 : decode cX2_madeOf 71 = .ok (.bipush 16, 2) := by decide +kernel
theorem dX2_madeOf_73 : decode cX2_madeOf 73 = .ok (.goto 4, 3) := by decide +kernel
theorem dX2_madeOf_76 : decode cX2_madeOf 76 = .ok (.iconst 1, 1) := by decide +kernel
theorem dX2_madeOf_77 : decode cX2_madeOf 77 = .ok (.if_icmp .ge 44, 3) := by decide +kernel
theorem dX2_madeOf_80 : decode cX2_madeOf 80 = .ok (.iload_n 0, 1) := by decide +kernel
theorem dX2_madeOf_81 : decode cX2_madeOf 81 = .ok (.iconst 3, 1) := by decide +kernel
theorem dX2_madeOf_82 : decode cX2_madeOf 82 = .ok (.if_icmp .lt 13, 3) := by decide +kernel
theorem dX2_madeOf_85 : decode cX2_madeOf 85 = .ok (.iload_n 2, 1) := by decide +kernel
theorem dX2_madeOf_86 : decode cX2_madeOf 86 = .ok (.iload 7, 2) := by decide +kernel
theorem dX2_madeOf_88 : decode cX2_madeOf 88 = .ok (.ishr, 1) := by decide +kernel
theorem dX2_madeOf_89 : decode cX2_madeOf 89 = .ok (.iconst 1, 1) := by decide +kernel
theorem dX2_madeOf_90 : decode cX2_madeOf 90 = .ok (.iand, 1) := by decide +kernel
theorem dX2_madeOf_91 : decode cX2_madeOf 91 = .ok (.iconst 1, 1) := by decide +kernel
theorem dX2_madeOf_92 : decode cX2_madeOf 92 = .ok (.if_icmp .ne 23, 3) := by decide +kernel
theorem dX2_madeOf_95 : decode cX2_madeOf 95 = .ok (.iload 4, 2) := by decide +kernel
theorem dX2_madeOf_97 : decode cX2_madeOf 97 = .ok (.iconst 1, 1) := by decide +kernel
theorem dX2_madeOf_98 : decode cX2_madeOf 98 = .ok (.iload_n 0, 1) := by decide +kernel
theorem dX2_madeOf_99 : decode cX2_madeOf 99 = .ok (.iload_n 1, 1) := by decide +kernel
theorem dX2_madeOf_100 : decode cX2_madeOf 100 = .ok (.iload 5, 2) := by decide +kernel
theorem dX2_madeOf_102 : decode cX2_madeOf 102 = .ok (.iload 6, 2) := by decide +kernel
theorem dX2_madeOf_104 : decode cX2_madeOf 104 = .ok (.iload 7, 2) := by decide +kernel
theorem dX2_madeOf_106 : decode cX2_madeOf 106 = .ok (.invokestatic 94, 3) := by decide +kernel
theorem dX2_madeOf_109 : decode cX2_madeOf 109 = .ok (.iload_n 3, 1) := by decide +kernel
theorem dX2_madeOf_110 : decode cX2_madeOf 110 = .ok (.iand, 1) := by decide +kernel
theorem dX2_madeOf_111 : decode cX2_madeOf 111 = .ok (.ishl, 1) := by decide +kernel
theorem dX2_madeOf_112 : decode cX2_madeOf 112 = .ok (.ior, 1) := by decide +kernel
theorem dX2_madeOf_113 : decode cX2_madeOf 113 = .ok (.istore 4, 2) := by decide +kernel
theorem dX2_madeOf_115 : decode cX2_madeOf 115 = .ok (.iinc 7 1, 3) := by decide +kernel
theorem dX2_madeOf_118 : decode cX2_madeOf 118 = .ok (.goto (-54), 3) := by decide +kernel
theorem dX2_madeOf_121 : decode cX2_madeOf 121 = .ok (.iinc 6 1, 3) := by decide +kernel
theorem dX2_madeOf_124 : decode cX2_madeOf 124 = .ok (.goto (-96), 3) := by decide +kernel
theorem dX2_madeOf_127 : decode cX2_madeOf 127 = .ok (.iinc 5 1, 3) := by decide +kernel
theorem dX2_madeOf_130 : decode cX2_madeOf 130 = .ok (.goto (-124), 3) := by decide +kernel
theorem dX2_madeOf_133 : decode cX2_madeOf 133 = .ok (.iload 4, 2) := by decide +kernel
theorem dX2_madeOf_135 : decode cX2_madeOf 135 = .ok (.ireturn, 1) := by decide +kernel
theorem dX2_doesPreserve_0 : decode cX2_doesPreserve 0 = .ok (.iconst 1, 1) := by decide +kernel
theorem dX2_doesPreserve_1 : decode cX2_doesPreserve 1 = .ok (.aload_n 0, 1) := by decide +kernel
theorem dX2_doesPreserve_2 : decode cX2_doesPreserve 2 = .ok (.getfield 7, 3) := by decide +kernel
theorem dX2_doesPreserve_5 : decode cX2_doesPreserve 5 = .ok (.iload_n 3, 1) := by decide +kernel
theorem dX2_doesPreserve_6 : decode cX2_doesPreserve 6 = .ok (.iaload, 1) := by decide +kernel
theorem dX2_doesPreserve_7 : decode cX2_doesPreserve 7 = .ok (.ishl, 1) := by decide +kernel
theorem dX2_doesPreserve_8 : decode cX2_doesPreserve 8 = .ok (.iconst 1, 1) := by decide +kernel
theorem dX2_doesPreserve_9 : decode cX2_doesPreserve 9 = .ok (.isub, 1) := by decide +kernel
theorem dX2_doesPreserve_10 : decode cX2_doesPreserve 10 = .ok (.istore 4, 2) := by decide +kernel
theorem dX2_doesPreserve_12 : decode cX2_doesPreserve 12 = .ok (.aload_n 0, 1) := by decide +kernel
theorem dX2_doesPreserve_13 : decode cX2_doesPreserve 13 = .ok (.getfield 13, 3) := by decide +kernel
theorem dX2_doesPreserve_16 : decode cX2_doesPreserve 16 = .ok (.iload_n 3, 1) := by decide +kernel
theorem dX2_doesPreserve_17 : decode cX2_doesPreserve 17 = .ok (.iaload, 1) := by decide +kernel
theorem dX2_doesPreserve_18 : decode cX2_doesPreserve 18 = .ok (.istore 5, 2) := by decide +kernel
theorem dX2_doesPreserve_20 : decode cX2_doesPreserve 20 = .ok (.iload 5, 2) := by decide +kernel
theorem dX2_doesPreserve_22 : decode cX2_doesPreserve 22 = .ok (.iconst 1, 1) := by decide +kernel
theorem dX2_doesPreserve_23 : decode cX2_doesPreserve 23 = .ok (.iload 4, 2) := by decide +kernel
theorem dX2_doesPreserve_25 : decode cX2_doesPreserve 25 = .ok (.iconst 1, 1) := by decide +kernel
theorem dX2_doesPreserve_26 : decode cX2_doesPreserve 26 = .ok (.iadd, 1) := by decide +kernel
theorem dX2_doesPreserve_27 : decode cX2_doesPreserve 27 = .ok (.ishl, 1) := by decide +kernel
theorem dX2_doesPreserve_28 : decode cX2_doesPreserve 28 = .ok (.iconst 1, 1) := by decide +kernel
theorem dX2_doesPreserve_29 : decode cX2_doesPreserve 29 = .ok (.isub, 1) := by decide +kernel
theorem dX2_doesPreserve_30 : decode cX2_doesPreserve 30 = .ok (.if_icmp .ne 5, 3) := by decide +kernel
theorem dX2_doesPreserve_33 : decode cX2_doesPreserve 33 = .ok (.iconst 1, 1) := by decide +kernel
theorem dX2_doesPreserve_34 : decode cX2_doesPreserve 34 = .ok (.ireturn, 1) := by decide +kernel
theorem dX2_doesPreserve_35 : decode cX2_doesPreserve 35 = .ok (.iconst 0, 1) := by decide +kernel
theorem dX2_doesPreserve_36 : decode cX2_doesPreserve 36 = .ok (.istore 6, 2) := by decide +kernel
theorem dX2_doesPreserve_38 : decode cX2_doesPreserve 38 = .ok (.iload 6, 2) := by decide +kernel
theorem dX2_doesPreserve_40 : decode cX2_doesPreserve 40 = .ok (.iload 4, 2) := by decide +kernel
theorem dX2_doesPreserve_42 : decode cX2_doesPreserve 42 = .ok (.if_icmp .gt 130, 3) := by decide +kernel
theorem dX2_doesPreserve_45 : decode cX2_doesPreserve 45 = .ok (.iload 5, 2) := by decide +kernel
theorem dX2_doesPreserve_47 : decode cX2_doesPreserve 47 = .ok (.iload 6, 2) := by decide +kernel
theorem dX2_doesPreserve_49 : decode cX2_doesPreserve 49 = .ok (.ishr, 1) := by decide +kernel
theorem dX2_doesPreserve_50 : decode cX2_doesPreserve 50 = .ok (.iconst 1, 1) := by decide +kernel
theorem dX2_doesPreserve_51 : decode cX2_doesPreserve 51 = .ok (.iand, 1) := by decide +kernel
theorem dX2_doesPreserve_52 : decode cX2_doesPreserve 52 = .ok (.ifCond .ne 6, 3) := by decide +kernel
theorem dX2_doesPreserve_55 : decode cX2_doesPreserve 55 = .ok (.goto 111, 3) := by decide +kernel
theorem dX2_doesPreserve_58 : decode cX2_doesPreserve 58 = .ok (.iconst 0, 1) := by decide +kernel
theorem dX2_doesPreserve_59 : decode cX2_doesPreserve 59 = .ok (.istore 7, 2) := by decide +kernel
theorem dX2_doesPreserve_61 : decode cX2_doesPreserve 61 = .ok (.iload 7, 2) := by decide +kernel
theorem dX2_doesPreserve_63 : decode cX2_doesPreserve 63 = .ok (.iload_n 1, 1) := by decide +kernel
theorem dX2_doesPreserve_64 : decode cX2_doesPreserve 64 = .ok (.iconst 1, 1) := by decide +kernel
theorem dX2_doesPreserve_65 : decode cX2_doesPreserve 65 = .ok (.if_icmp .le 8, 3) := by decide +kernel
theorem dX2_doesPreserve_68 : decode cX2_doesPreserve 68 = .ok (.iload 4, 2) := by decide +kernel
theorem dX2_doesPreserve_70 : decode cX2_doesPreserve 70 = .ok (.goto 4, 3) := by decide +kernel
theorem dX2_doesPreserve_73 : decode cX2_doesPreserve 73 = .ok (.iconst 0, 1) := by decide +kernel
theorem dX2_doesPreserve_74 : decode cX2_doesPreserve 74 = .ok (.if_icmp .gt 92, 3) := by decide +kernel
theorem dX2_doesPreserve_77 : decode cX2_doesPreserve 77 = .ok (.iload_n 1, 1) := by decide +kernel
theorem dX2_doesPreserve_78 : decode cX2_doesPreserve 78 = .ok (.iconst 1, 1) := by decide +kernel
theorem dX2_doesPreserve_79 : decode cX2_doesPreserve 79 = .ok (.if_icmp .le 16, 3) := by decide +kernel
theorem dX2_doesPreserve_82 : decode cX2_doesPreserve 82 = .ok (.iload 5, 2) := by decide +kernel
theorem dX2_doesPreserve_84 : decode cX2_doesPreserve 84 = .ok (.iload 7, 2) := by decide +kernel
theorem dX2_doesPreserve_86 : decode cX2_doesPreserve 86 = .ok (.ishr, 1) := by decide +kernel
theorem dX2_doesPreserve_87 : decode cX2_doesPreserve 87 = .ok (.iconst 1, 1) := by decide +kernel
theorem dX2_doesPreserve_88 : decode cX2_doesPreserve 88 = .ok (.iand, 1) := by decide +kernel
theorem dX2_doesPreserve_89 : decode cX2_doesPreserve 89 = .ok (.ifCond .ne 6, 3) := by decide +kernel
theorem dX2_doesPreserve_92 : decode cX2_doesPreserve 92 = .ok (.goto 68, 3) := by decide +kernel
theorem dX2_doesPreserve_95 : decode cX2_doesPreserve 95 = .ok (.iconst 0, 1) := by decide +kernel
theorem dX2_doesPreserve_96 : decode cX2_doesPreserve 96 = .ok (.istore 8, 2) := by decide +kernel
theorem dX2_doesPreserve_98 : decode cX2_doesPreserve 98 = .ok (.iload 8, 2) := by decide +kernel
theorem dX2_doesPreserve_100 : decode cX2_doesPreserve 100 = .ok (.iload_n 1, 1) := by decide +kernel
theorem dX2_doesPreserve_101 : decode cX2_doesPreserve 101 = .ok (.iconst 2, 1) := by decide +kernel
theorem dX2_doesPreserve_102 : decode cX2_doesPreserve 102 = .ok (.if_icmp .le 8, 3) := by decide +kernel
theorem dX2_doesPreserve_105 : decode cX2_doesPreserve 105 = .ok (.iload 4, 2) := by decide +kernel
theorem dX2_doesPreserve_107 : decode cX2_doesPreserve 107 = .ok (.goto 4, 3) := by decide +kernel
theorem dX2_doesPreserve_110 : decode cX2_doesPreserve 110 = .ok (.iconst 0, 1) := by decide +kernel
theorem dX2_doesPreserve_111 : decode cX2_doesPreserve 111 = .ok (.if_icmp .gt 49, 3) := by decide +kernel
theorem dX2_doesPreserve_114 : decode cX2_doesPreserve 114 = .ok (.iload_n 1, 1) := by decide +kernel
theorem dX2_doesPreserve_115 : decode cX2_doesPreserve 115 = .ok (.iconst 3, 1) := by decide +kernel
theorem dX2_doesPreserve_116 : decode cX2_doesPreserve 116 = .ok (.if_icmp .lt 14, 3) := by decide +kernel
theorem dX2_doesPreserve_119 : decode cX2_doesPreserve 119 = .ok (.iload 5, 2) := by decide +kernel
theorem dX2_doesPreserve_121 : decode cX2_doesPreserve 121 = .ok (.iload 8, 2) := by decide +kernel
theorem dX2_doesPreserve_123 : decode cX2_doesPreserve 123 = .ok (.ishr, 1) := by decide +kernel
theorem dX2_doesPreserve_124 : decode cX2_doesPreserve 124 = .ok (.iconst 1, 1) := by decide +kernel
theorem dX2_doesPreserve_125 : decode cX2_doesPreserve 125 = .ok (.iand, 1) := by decide +kernel
theorem dX2_doesPreserve_126 : decode cX2_doesPreserve 126 = .ok (.iconst 1, 1) := by decide +kernel
theorem dX2_doesPreserve_127 : decode cX2_doesPreserve 127 = .ok (.if_icmp .ne 27, 3) := by decide +kernel
theorem dX2_doesPreserve_130 : decode cX2_doesPreserve 130 = .ok (.iload 5, 2) := by decide +kernel
theorem dX2_doesPreserve_132 : decode cX2_doesPreserve 132 = .ok (.iload_n 1, 1) := by decide +kernel
theorem dX2_doesPreserve_133 : decode cX2_doesPreserve 133 = .ok (.iload_n 2, 1) := by decide +kernel
theorem dX2_doesPreserve_134 : decode cX2_doesPreserve 134 = .ok (.iload 6, 2) := by decide +kernel
theorem dX2_doesPreserve_136 : decode cX2_doesPreserve 136 = .ok (.iload 7, 2) := by decide +kernel
theorem dX2_doesPreserve_138 : decode cX2_doesPreserve 138 = .ok (.iload 8, 2) := by decide +kernel
theorem dX2_doesPreserve_140 : decode cX2_doesPreserve 140 = .ok (.invokestatic 94, 3) := by decide +kernel
theorem dX2_doesPreserve_143 : decode cX2_doesPreserve 143 = .ok (.iload 4, 2) := by decide +kernel
theorem dX2_doesPreserve_145 : decode cX2_doesPreserve 145 = .ok (.iand, 1) := by decide +kernel
theorem dX2_doesPreserve_146 : decode cX2_doesPreserve 146 = .ok (.ishr, 1) := by decide +kernel
theorem dX2_doesPreserve_147 : decode cX2_doesPreserve 147 = .ok (.iconst 1, 1) := by decide +kernel
theorem dX2_doesPreserve_148 : decode cX2_doesPreserve 148 = .ok (.iand, 1) := by decide +kernel
theorem dX2_doesPreserve_149 : decode cX2_doesPreserve 149 = .ok (.ifCond .ne 5, 3) := by decide +kernel
theorem dX2_doesPreserve_152 : decode cX2_doesPreserve 152 = .ok (.iconst 0, 1) := by decide +kernel
theorem dX2_doesPreserve_153 : decode cX2_doesPreserve 153 = .ok (.ireturn, 1) := by decide +kernel
theorem dX2_doesPreserve_154 : decode cX2_doesPreserve 154 = .ok (.iinc 8 1, 3) := by decide +kernel
theorem dX2_doesPreserve_157 : decode cX2_doesPreserve 157 = .ok (.goto (-59), 3) := by decide +kernel
theorem dX2_doesPreserve_160 : decode cX2_doesPreserve 160 = .ok (.iinc 7 1, 3) := by decide +kernel
theorem dX2_doesPreserve_163 : decode cX2_doesPreserve 163 = .ok (.goto (-102), 3) := by decide +kernel
theorem dX2_doesPreserve_166 : decode cX2_doesPreserve 166 = .ok (.iinc 6 1, 3) := by decide +kernel
theorem dX2_doesPreserve_169 : decode cX2_doesPreserve 169 = .ok (.goto (-131), 3) := by decide +kernel
theorem dX2_doesPreserve_172 : decode cX2_doesPreserve 172 = .ok (.iconst 1, 1) := by decide +kernel
theorem dX2_doesPreserve_173 : decode cX2_doesPreserve 173 = .ok (.ireturn, 1) := by decide +kernel
theorem dX2_isKept_0 : decode cX2_isKept 0 = .ok (.iconst 0, 1) := by decide +kernel
theorem dX2_isKept_1 : decode cX2_isKept 1 = .ok (.istore_n 3, 1) := by decide +kernel
theorem dX2_isKept_2 : decode cX2_isKept 2 = .ok (.iload_n 3, 1) := by decide +kernel
theorem dX2_isKept_3 : decode cX2_isKept 3 = .ok (.aload_n 0, 1) := by decide +kernel
theorem dX2_isKept_4 : decode cX2_isKept 4 = .ok (.getfield 49, 3) := by decide +kernel
theorem dX2_isKept_7 : decode cX2_isKept 7 = .ok (.if_icmp .ge 21, 3) := by decide +kernel
theorem dX2_isKept_10 : decode cX2_isKept 10 = .ok (.aload_n 0, 1) := by decide +kernel
theorem dX2_isKept_11 : decode cX2_isKept 11 = .ok (.iload_n 1, 1) := by decide +kernel
theorem dX2_isKept_12 : decode cX2_isKept 12 = .ok (.iload_n 2, 1) := by decide +kernel
theorem dX2_isKept_13 : decode cX2_isKept 13 = .ok (.iload_n 3, 1) := by decide +kernel
theorem dX2_isKept_14 : decode cX2_isKept 14 = .ok (.invokevirtual 98, 3) := by decide +kernel
theorem dX2_isKept_17 : decode cX2_isKept 17 = .ok (.ifCond .ne 5, 3) := by decide +kernel
theorem dX2_isKept_20 : decode cX2_isKept 20 = .ok (.iconst 0, 1) := by decide +kernel
theorem dX2_isKept_21 : decode cX2_isKept 21 = .ok (.ireturn, 1) := by decide +kernel
theorem dX2_isKept_22 : decode cX2_isKept 22 = .ok (.iinc 3 1, 3) := by decide +kernel
theorem dX2_isKept_25 : decode cX2_isKept 25 = .ok (.goto (-23), 3) := by decide +kernel
theorem dX2_isKept_28 : decode cX2_isKept 28 = .ok (.iconst 1, 1) := by decide +kernel
theorem dX2_isKept_29 : decode cX2_isKept 29 = .ok (.ireturn, 1) := by decide +kernel
theorem dX2_preserves_0 : decode cX2_preserves 0 = .ok (.iload_n 1, 1) := by decide +kernel
theorem dX2_preserves_1 : decode cX2_preserves 1 = .ok (.iload_n 2, 1) := by decide +kernel
theorem dX2_preserves_2 : decode cX2_preserves 2 = .ok (.invokestatic 87, 3) := by decide +kernel
theorem dX2_preserves_5 : decode cX2_preserves 5 = .ok (.ifCond .ne 9, 3) := by decide +kernel
theorem dX2_preserves_8 : decode cX2_preserves 8 = .ok (.aload_n 0, 1) := by decide +kernel
theorem dX2_preserves_9 : decode cX2_preserves 9 = .ok (.iconst 1, 1) := by decide +kernel
theorem dX2_preserves_10 : decode cX2_preserves 10 = .ok (.invokevirtual 101, 3) := by decide +kernel
theorem dX2_preserves_13 : decode cX2_preserves 13 = .ok (.ireturn, 1) := by decide +kernel
theorem dX2_preserves_14 : decode cX2_preserves 14 = .ok (.aload_n 0, 1) := by decide +kernel
theorem dX2_preserves_15 : decode cX2_preserves 15 = .ok (.iload_n 3, 1) := by decide +kernel
theorem dX2_preserves_16 : decode cX2_preserves 16 = .ok (.invokevirtual 78, 3) := by decide +kernel
theorem dX2_preserves_19 : decode cX2_preserves 19 = .ok (.ifCond .ne 9, 3) := by decide +kernel
theorem dX2_preserves_22 : decode cX2_preserves 22 = .ok (.aload_n 0, 1) := by decide +kernel
theorem dX2_preserves_23 : decode cX2_preserves 23 = .ok (.iconst 2, 1) := by decide +kernel
theorem dX2_preserves_24 : decode cX2_preserves 24 = .ok (.invokevirtual 101, 3) := by decide +kernel
theorem dX2_preserves_27 : decode cX2_preserves 27 = .ok (.ireturn, 1) := by decide +kernel
theorem dX2_preserves_28 : decode cX2_preserves 28 = .ok (.aload_n 0, 1) := by decide +kernel
theorem dX2_preserves_29 : decode cX2_preserves 29 = .ok (.iconst 0, 1) := by decide +kernel
theorem dX2_preserves_30 : decode cX2_preserves 30 = .ok (.putfield 46, 3) := by decide +kernel
theorem dX2_preserves_33 : decode cX2_preserves 33 = .ok (.aload_n 0, 1) := by decide +kernel
theorem dX2_preserves_34 : decode cX2_preserves 34 = .ok (.iload_n 1, 1) := by decide +kernel
theorem dX2_preserves_35 : decode cX2_preserves 35 = .ok (.iload_n 2, 1) := by decide +kernel
theorem dX2_preserves_36 : decode cX2_preserves 36 = .ok (.iload_n 3, 1) := by decide +kernel
theorem dX2_preserves_37 : decode cX2_preserves 37 = .ok (.invokevirtual 98, 3) := by decide +kernel
theorem dX2_preserves_40 : decode cX2_preserves 40 = .ok (.ireturn, 1) := by decide +kernel
theorem dX2_isPolymorphism_0 : decode cX2_isPolymorphism 0 = .ok (.iload_n 1, 1) := by decide +kernel
theorem dX2_isPolymorphism_1 : decode cX2_isPolymorphism 1 = .ok (.iload_n 2, 1) := by decide +kernel
theorem dX2_isPolymorphism_2 : decode cX2_isPolymorphism 2 = .ok (.invokestatic 87, 3) := by decide +kernel
theorem dX2_isPolymorphism_5 : decode cX2_isPolymorphism 5 = .ok (.ifCond .ne 9, 3) := by decide +kernel
theorem dX2_isPolymorphism_8 : decode cX2_isPolymorphism 8 = .ok (.aload_n 0, 1) := by decide +kernel
theorem dX2_isPolymorphism_9 : decode cX2_isPolymorphism 9 = .ok (.iconst 1, 1) := by decide +kernel
theorem dX2_isPolymorphism_10 : decode cX2_isPolymorphism 10 = .ok (.invokevirtual 101, 3) := by decide +kernel
theorem dX2_isPolymorphism_13 : decode cX2_isPolymorphism 13 = .ok (.ireturn, 1) := by decide +kernel
theorem dX2_isPolymorphism_14 : decode cX2_isPolymorphism 14 = .ok (.aload_n 0, 1) := by decide +kernel
theorem dX2_isPolymorphism_15 : decode cX2_isPolymorphism 15 = .ok (.iconst 0, 1) := by decide +kernel
theorem dX2_isPolymorphism_16 : decode cX2_isPolymorphism 16 = .ok (.putfield 46, 3) := by decide +kernel
theorem dX2_isPolymorphism_19 : decode cX2_isPolymorphism 19 = .ok (.aload_n 0, 1) := by decide +kernel
theorem dX2_isPolymorphism_20 : decode cX2_isPolymorphism 20 = .ok (.iload_n 1, 1) := by decide +kernel
theorem dX2_isPolymorphism_21 : decode cX2_isPolymorphism 21 = .ok (.iload_n 2, 1) := by decide +kernel
theorem dX2_isPolymorphism_22 : decode cX2_isPolymorphism 22 = .ok (.invokevirtual 104, 3) := by decide +kernel
theorem dX2_isPolymorphism_25 : decode cX2_isPolymorphism 25 = .ok (.ireturn, 1) := by decide +kernel
theorem dX2_polymorphismCount_0 : decode cX2_polymorphismCount 0 = .ok (.iload_n 1, 1) := by decide +kernel
theorem dX2_polymorphismCount_1 : decode cX2_polymorphismCount 1 = .ok (.iconst 1, 1) := by decide +kernel
theorem dX2_polymorphismCount_2 : decode cX2_polymorphismCount 2 = .ok (.iconst 3, 1) := by decide +kernel
theorem dX2_polymorphismCount_3 : decode cX2_polymorphismCount 3 = .ok (.invokestatic 52, 3) := by decide +kernel
theorem dX2_polymorphismCount_6 : decode cX2_polymorphismCount 6 = .ok (.ifCond .ne 9, 3) := by decide +kernel
theorem dX2_polymorphismCount_9 : decode cX2_polymorphismCount 9 = .ok (.aload_n 0, 1) := by decide +kernel
theorem dX2_polymorphismCount_10 : decode cX2_polymorphismCount 10 = .ok (.iconst 1, 1) := by decide +kernel
theorem dX2_polymorphismCount_11 : decode cX2_polymorphismCount 11 = .ok (.invokevirtual 56, 3) := by decide +kernel
theorem dX2_polymorphismCount_14 : decode cX2_polymorphismCount 14 = .ok (.ireturn, 1) := by decide +kernel
theorem dX2_polymorphismCount_15 : decode cX2_polymorphismCount 15 = .ok (.aload_n 0, 1) := by decide +kernel
theorem dX2_polymorphismCount_16 : decode cX2_polymorphismCount 16 = .ok (.iconst 0, 1) := by decide +kernel
theorem dX2_polymorphismCount_17 : decode cX2_polymorphismCount 17 = .ok (.putfield 46, 3) := by decide +kernel
theorem dX2_polymorphismCount_20 : decode cX2_polymorphismCount 20 = .ok (.iconst 0, 1) := by decide +kernel
theorem dX2_polymorphismCount_21 : decode cX2_polymorphismCount 21 = .ok (.istore_n 2, 1) := by decide +kernel
theorem dX2_polymorphismCount_22 : decode cX2_polymorphismCount 22 = .ok (.iconst 0, 1) := by decide +kernel
theorem dX2_polymorphismCount_23 : decode cX2_polymorphismCount 23 = .ok (.istore_n 3, 1) := by decide +kernel
theorem dX2_polymorphismCount_24 : decode cX2_polymorphismCount 24 = .ok (.iload_n 3, 1) := by decide +kernel
theorem dX2_polymorphismCount_25 : decode cX2_polymorphismCount 25 = .ok (.iconst 1, 1) := by decide +kernel
theorem dX2_polymorphismCount_26 : decode cX2_polymorphismCount 26 = .ok (.iconst 1, 1) := by decide +kernel
theorem dX2_polymorphismCount_27 : decode cX2_polymorphismCount 27 = .ok (.iload_n 1, 1) := by decide +kernel
theorem dX2_polymorphismCount_28 : decode cX2_polymorphismCount 28 = .ok (.ishl, 1) := by decide +kernel
theorem dX2_polymorphismCount_29 : decode cX2_polymorphismCount 29 = .ok (.ishl, 1) := by decide +kernel
theorem dX2_polymorphismCount_30 : decode cX2_polymorphismCount 30 = .ok (.if_icmp .ge 26, 3) := by decide +kernel
theorem dX2_polymorphismCount_33 : decode cX2_polymorphismCount 33 = .ok (.iload_n 2, 1) := by decide +kernel
theorem dX2_polymorphismCount_34 : decode cX2_polymorphismCount 34 = .ok (.aload_n 0, 1) := by decide +kernel
theorem dX2_polymorphismCount_35 : decode cX2_polymorphismCount 35 = .ok (.iload_n 1, 1) := by decide +kernel
theorem dX2_polymorphismCount_36 : decode cX2_polymorphismCount 36 = .ok (.iload_n 3, 1) := by decide +kernel
theorem dX2_polymorphismCount_37 : decode cX2_polymorphismCount 37 = .ok (.invokevirtual 104, 3) := by decide +kernel
theorem dX2_polymorphismCount_40 : decode cX2_polymorphismCount 40 = .ok (.ifCond .eq 7, 3) := by decide +kernel
theorem dX2_polymorphismCount_43 : decode cX2_polymorphismCount 43 = .ok (.iconst 1, 1) := by decide +kernel
theorem dX2_polymorphismCount_44 : decode cX2_polymorphismCount 44 = .ok (.goto 4, 3) := by decide +kernel
theorem dX2_polymorphismCount_47 : decode cX2_polymorphismCount 47 = .ok (.iconst 0, 1) := by decide +kernel
theorem dX2_polymorphismCount_48 : decode cX2_polymorphismCount 48 = .ok (.iadd, 1) := by decide +kernel
theorem dX2_polymorphismCount_49 : decode cX2_polymorphismCount 49 = .ok (.istore_n 2, 1) := by decide +kernel
theorem dX2_polymorphismCount_50 : decode cX2_polymorphismCount 50 = .ok (.iinc 3 1, 3) := by decide +kernel
theorem dX2_polymorphismCount_53 : decode cX2_polymorphismCount 53 = .ok (.goto (-29), 3) := by decide +kernel
theorem dX2_polymorphismCount_56 : decode cX2_polymorphismCount 56 = .ok (.iload_n 2, 1) := by decide +kernel
theorem dX2_polymorphismCount_57 : decode cX2_polymorphismCount 57 = .ok (.ireturn, 1) := by decide +kernel
theorem dX2_polymorphism_0 : decode cX2_polymorphism 0 = .ok (.iload_n 1, 1) := by decide +kernel
theorem dX2_polymorphism_1 : decode cX2_polymorphism 1 = .ok (.iconst 1, 1) := by decide +kernel
theorem dX2_polymorphism_2 : decode cX2_polymorphism 2 = .ok (.iconst 3, 1) := by decide +kernel
theorem dX2_polymorphism_3 : decode cX2_polymorphism 3 = .ok (.invokestatic 52, 3) := by decide +kernel
theorem dX2_polymorphism_6 : decode cX2_polymorphism 6 = .ok (.ifCond .ne 9, 3) := by decide +kernel
theorem dX2_polymorphism_9 : decode cX2_polymorphism 9 = .ok (.aload_n 0, 1) := by decide +kernel
theorem dX2_polymorphism_10 : decode cX2_polymorphism 10 = .ok (.iconst 1, 1) := by decide +kernel
theorem dX2_polymorphism_11 : decode cX2_polymorphism 11 = .ok (.invokevirtual 56, 3) := by decide +kernel
theorem dX2_polymorphism_14 : decode cX2_polymorphism 14 = .ok (.ireturn, 1) := by decide +kernel
theorem dX2_polymorphism_15 : decode cX2_polymorphism 15 = .ok (.aload_n 0, 1) := by decide +kernel
theorem dX2_polymorphism_16 : decode cX2_polymorphism 16 = .ok (.iconst 0, 1) := by decide +kernel
theorem dX2_polymorphism_17 : decode cX2_polymorphism 17 = .ok (.putfield 46, 3) := by decide +kernel
theorem dX2_polymorphism_20 : decode cX2_polymorphism 20 = .ok (.iload_n 2, 1) := by decide +kernel
theorem dX2_polymorphism_21 : decode cX2_polymorphism 21 = .ok (.istore_n 3, 1) := by decide +kernel
theorem dX2_polymorphism_22 : decode cX2_polymorphism 22 = .ok (.iconst 0, 1) := by decide +kernel
theorem dX2_polymorphism_23 : decode cX2_polymorphism 23 = .ok (.istore 4, 2) := by decide +kernel
theorem dX2_polymorphism_25 : decode cX2_polymorphism 25 = .ok (.iload 4, 2) := by decide +kernel
theorem dX2_polymorphism_27 : decode cX2_polymorphism 27 = .ok (.iconst 1, 1) := by decide +kernel
theorem dX2_polymorphism_28 : decode cX2_polymorphism 28 = .ok (.iconst 1, 1) := by decide +kernel
theorem dX2_polymorphism_29 : decode cX2_polymorphism 29 = .ok (.iload_n 1, 1) := by decide +kernel
theorem dX2_polymorphism_30 : decode cX2_polymorphism 30 = .ok (.ishl, 1) := by decide +kernel
theorem dX2_polymorphism_31 : decode cX2_polymorphism 31 = .ok (.ishl, 1) := by decide +kernel
theorem dX2_polymorphism_32 : decode cX2_polymorphism 32 = .ok (.if_icmp .ge 36, 3) := by decide +kernel
theorem dX2_polymorphism_35 : decode cX2_polymorphism 35 = .ok (.iload_n 3, 1) := by decide +kernel
theorem dX2_polymorphism_36 : decode cX2_polymorphism 36 = .ok (.ifCond .lt 32, 3) := by decide +kernel
theorem dX2_polymorphism_39 : decode cX2_polymorphism 39 = .ok (.aload_n 0, 1) := by decide +kernel
theorem dX2_polymorphism_40 : decode cX2_polymorphism 40 = .ok (.iload_n 1, 1) := by decide +kernel
theorem dX2_polymorphism_41 : decode cX2_polymorphism 41 = .ok (.iload 4, 2) := by decide +kernel
theorem dX2_polymorphism_43 : decode cX2_polymorphism 43 = .ok (.invokevirtual 104, 3) := by decide +kernel
theorem dX2_polymorphism_46 : decode cX2_polymorphism 46 = .ok (.ifCond .ne 6, 3) := by decide +kernel
theorem dX2_polymorphism_49 : decode cX2_polymorphism 49 = .ok (.goto 13, 3) := by decide +kernel
theorem dX2_polymorphism_52 : decode cX2_polymorphism 52 = .ok (.iload_n 3, 1) := by decide +kernel
theorem dX2_polymorphism_53 : decode cX2_polymorphism 53 = .ok (.ifCond .ne 6, 3) := by decide +kernel
theorem dX2_polymorphism_56 : decode cX2_polymorphism 56 = .ok (.iload 4, 2) := by decide +kernel
theorem dX2_polymorphism_58 : decode cX2_polymorphism 58 = .ok (.ireturn, 1) := by decide +kernel
theorem dX2_polymorphism_59 : decode cX2_polymorphism 59 = .ok (.iinc 3 (-1), 3) := by decide +kernel
theorem dX2_polymorphism_62 : decode cX2_polymorphism 62 = .ok (.iinc 4 1, 3) := by decide +kernel
theorem dX2_polymorphism_65 : decode cX2_polymorphism 65 = .ok (.goto (-40), 3) := by decide +kernel
theorem dX2_polymorphism_68 : decode cX2_polymorphism 68 = .ok (.aload_n 0, 1) := by decide +kernel
theorem dX2_polymorphism_69 : decode cX2_polymorphism 69 = .ok (.iconst 2, 1) := by decide +kernel
theorem dX2_polymorphism_70 : decode cX2_polymorphism 70 = .ok (.invokevirtual 56, 3) := by decide +kernel
theorem dX2_polymorphism_73 : decode cX2_polymorphism 73 = .ok (.ireturn, 1) := by decide +kernel
theorem dX2_isIdempotent_0 : decode cX2_isIdempotent 0 = .ok (.iload_n 1, 1) := by decide +kernel
theorem dX2_isIdempotent_1 : decode cX2_isIdempotent 1 = .ok (.iload_n 2, 1) := by decide +kernel
theorem dX2_isIdempotent_2 : decode cX2_isIdempotent 2 = .ok (.invokestatic 87, 3) := by decide +kernel
theorem dX2_isIdempotent_5 : decode cX2_isIdempotent 5 = .ok (.ifCond .ne 9, 3) := by decide +kernel
theorem dX2_isIdempotent_8 : decode cX2_isIdempotent 8 = .ok (.aload_n 0, 1) := by decide +kernel
theorem dX2_isIdempotent_9 : decode cX2_isIdempotent 9 = .ok (.iconst 1, 1) := by decide +kernel
theorem dX2_isIdempotent_10 : decode cX2_isIdempotent 10 = .ok (.invokevirtual 101, 3) := by decide +kernel
theorem dX2_isIdempotent_13 : decode cX2_isIdempotent 13 = .ok (.ireturn, 1) := by decide +kernel
theorem dX2_isIdempotent_14 : decode cX2_isIdempotent 14 = .ok (.aload_n 0, 1) := by decide +kernel
theorem dX2_isIdempotent_15 : decode cX2_isIdempotent 15 = .ok (.iconst 0, 1) := by decide +kernel
theorem dX2_isIdempotent_16 : decode cX2_isIdempotent 16 = .ok (.putfield 46, 3) := by decide +kernel
theorem dX2_isIdempotent_19 : decode cX2_isIdempotent 19 = .ok (.iload_n 2, 1) := by decide +kernel
theorem dX2_isIdempotent_20 : decode cX2_isIdempotent 20 = .ok (.iconst 1, 1) := by decide +kernel
theorem dX2_isIdempotent_21 : decode cX2_isIdempotent 21 = .ok (.iand, 1) := by decide +kernel
theorem dX2_isIdempotent_22 : decode cX2_isIdempotent 22 = .ok (.ifCond .ne 20, 3) := by decide +kernel
theorem dX2_isIdempotent_25 : decode cX2_isIdempotent 25 = .ok (.iload_n 2, 1) := by decide +kernel
theorem dX2_isIdempotent_26 : decode cX2_isIdempotent 26 = .ok (.iconst 1, 1) := by decide +kernel
theorem dX2_isIdempotent_27 : decode cX2_isIdempotent 27 = .ok (.iload_n 1, 1) := by decide +kernel
theorem dX2_isIdempotent_28 : decode cX2_isIdempotent 28 = .ok (.ishl, 1) := by decide +kernel
theorem dX2_isIdempotent_29 : decode cX2_isIdempotent 29 = .ok (.iconst 1, 1) := by decide +kernel
theorem dX2_isIdempotent_30 : decode cX2_isIdempotent 30 = .ok (.isub, 1) := by decide +kernel
theorem dX2_isIdempotent_31 : decode cX2_isIdempotent 31 = .ok (.ishr, 1) := by decide +kernel
theorem dX2_isIdempotent_32 : decode cX2_isIdempotent 32 = .ok (.iconst 1, 1) := by decide +kernel
theorem dX2_isIdempotent_33 : decode cX2_isIdempotent 33 = .ok (.iand, 1) := by decide +kernel
theorem dX2_isIdempotent_34 : decode cX2_isIdempotent 34 = .ok (.iconst 1, 1) := by decide +kernel
theorem dX2_isIdempotent_35 : decode cX2_isIdempotent 35 = .ok (.if_icmp .ne 7, 3) := by decide +kernel
theorem dX2_isIdempotent_38 : decode cX2_isIdempotent 38 = .ok (.iconst 1, 1) := by decide +kernel
theorem dX2_isIdempotent_39 : decode cX2_isIdempotent 39 = .ok (.goto 4, 3) := by decide +kernel
theorem dX2_isIdempotent_42 : decode cX2_isIdempotent 42 = .ok (.iconst 0, 1) := by decide +kernel
theorem dX2_isIdempotent_43 : decode cX2_isIdempotent 43 = .ok (.ireturn, 1) := by decide +kernel
theorem dX2_isMonotone_0 : decode cX2_isMonotone 0 = .ok (.iload_n 1, 1) := by decide +kernel
theorem dX2_isMonotone_1 : decode cX2_isMonotone 1 = .ok (.iload_n 2, 1) := by decide +kernel
theorem dX2_isMonotone_2 : decode cX2_isMonotone 2 = .ok (.invokestatic 87, 3) := by decide +kernel
theorem dX2_isMonotone_5 : decode cX2_isMonotone 5 = .ok (.ifCond .ne 9, 3) := by decide +kernel
theorem dX2_isMonotone_8 : decode cX2_isMonotone 8 = .ok (.aload_n 0, 1) := by decide +kernel
theorem dX2_isMonotone_9 : decode cX2_isMonotone 9 = .ok (.iconst 1, 1) := by decide +kernel
theorem dX2_isMonotone_10 : decode cX2_isMonotone 10 = .ok (.invokevirtual 101, 3) := by decide +kernel
theorem dX2_isMonotone_13 : decode cX2_isMonotone 13 = .ok (.ireturn, 1) := by decide +kernel
theorem dX2_isMonotone_14 : decode cX2_isMonotone 14 = .ok (.aload_n 0, 1) := by decide +kernel
theorem dX2_isMonotone_15 : decode cX2_isMonotone 15 = .ok (.iconst 0, 1) := by decide +kernel
theorem dX2_isMonotone_16 : decode cX2_isMonotone 16 = .ok (.putfield 46, 3) := by decide +kernel
theorem dX2_isMonotone_19 : decode cX2_isMonotone 19 = .ok (.iconst 0, 1) := by decide +kernel
theorem dX2_isMonotone_20 : decode cX2_isMonotone 20 = .ok (.istore_n 3, 1) := by decide +kernel
theorem dX2_isMonotone_21 : decode cX2_isMonotone 21 = .ok (.iload_n 3, 1) := by decide +kernel
theorem dX2_isMonotone_22 : decode cX2_isMonotone 22 = .ok (.iconst 1, 1) := by decide +kernel
theorem dX2_isMonotone_23 : decode cX2_isMonotone 23 = .ok (.iload_n 1, 1) := by decide +kernel
theorem dX2_isMonotone_24 : decode cX2_isMonotone 24 = .ok (.ishl, 1) := by decide +kernel
theorem dX2_isMonotone_25 : decode cX2_isMonotone 25 = .ok (.if_icmp .ge 53, 3) := by decide +kernel
theorem dX2_isMonotone_28 : decode cX2_isMonotone 28 = .ok (.iconst 0, 1) := by decide +kernel
theorem dX2_isMonotone_29 : decode cX2_isMonotone 29 = .ok (.istore 4, 2) := by decide +kernel
theorem dX2_isMonotone_31 : decode cX2_isMonotone 31 = .ok (.iload 4, 2) := by decide +kernel
theorem dX2_isMonotone_33 : decode cX2_isMonotone 33 = .ok (.iload_n 1, 1) := by decide +kernel
theorem dX2_isMonotone_34 : decode cX2_isMonotone 34 = .ok (.if_icmp .ge 38, 3) := by decide +kernel
theorem dX2_isMonotone_37 : decode cX2_isMonotone 37 = .ok (.iload_n 3, 1) := by decide +kernel
theorem dX2_isMonotone_38 : decode cX2_isMonotone 38 = .ok (.iload 4, 2) := by decide +kernel
theorem dX2_isMonotone_40 : decode cX2_isMonotone 40 = .ok (.ishr, 1) := by decide +kernel
theorem dX2_isMonotone_41 : decode cX2_isMonotone 41 = .ok (.iconst 1, 1) := by decide +kernel
theorem dX2_isMonotone_42 : decode cX2_isMonotone 42 = .ok (.iand, 1) := by decide +kernel
theorem dX2_isMonotone_43 : decode cX2_isMonotone 43 = .ok (.ifCond .ne 23, 3) := by decide +kernel
theorem dX2_isMonotone_46 : decode cX2_isMonotone 46 = .ok (.iload_n 2, 1) := by decide +kernel
theorem dX2_isMonotone_47 : decode cX2_isMonotone 47 = .ok (.iload_n 3, 1) := by decide +kernel
theorem dX2_isMonotone_48 : decode cX2_isMonotone 48 = .ok (.ishr, 1) := by decide +kernel
theorem dX2_isMonotone_49 : decode cX2_isMonotone 49 = .ok (.iconst 1, 1) := by decide +kernel
theorem dX2_isMonotone_50 : decode cX2_isMonotone 50 = .ok (.iand, 1) := by decide +kernel
theorem dX2_isMonotone_51 : decode cX2_isMonotone 51 = .ok (.iload_n 2, 1) := by decide +kernel
theorem dX2_isMonotone_52 : decode cX2_isMonotone 52 = .ok (.iload_n 3, 1) := by decide +kernel
theorem dX2_isMonotone_53 : decode cX2_isMonotone 53 = .ok (.iconst 1, 1) := by decide +kernel
theorem dX2_isMonotone_54 : decode cX2_isMonotone 54 = .ok (.iload 4, 2) := by decide +kernel
theorem dX2_isMonotone_56 : decode cX2_isMonotone 56 = .ok (.ishl, 1) := by decide +kernel
theorem dX2_isMonotone_57 : decode cX2_isMonotone 57 = .ok (.ior, 1) := by decide +kernel
theorem dX2_isMonotone_58 : decode cX2_isMonotone 58 = .ok (.ishr, 1) := by decide +kernel
theorem dX2_isMonotone_59 : decode cX2_isMonotone 59 = .ok (.iconst 1, 1) := by decide +kernel
theorem dX2_isMonotone_60 : decode cX2_isMonotone 60 = .ok (.iand, 1) := by decide +kernel
theorem dX2_isMonotone_61 : decode cX2_isMonotone 61 = .ok (.if_icmp .le 5, 3) := by decide +kernel
theorem dX2_isMonotone_64 : decode cX2_isMonotone 64 = .ok (.iconst 0, 1) := by decide +kernel
theorem dX2_isMonotone_65 : decode cX2_isMonotone 65 = .ok (.ireturn, 1) := by decide +kernel
theorem dX2_isMonotone_66 : decode cX2_isMonotone 66 = .ok (.iinc 4 1, 3) := by decide +kernel
theorem dX2_isMonotone_69 : decode cX2_isMonotone 69 = .ok (.goto (-38), 3) := by decide +kernel
theorem dX2_isMonotone_72 : decode cX2_isMonotone 72 = .ok (.iinc 3 1, 3) := by decide +kernel
theorem dX2_isMonotone_75 : decode cX2_isMonotone 75 = .ok (.goto (-54), 3) := by decide +kernel
theorem dX2_isMonotone_78 : decode cX2_isMonotone 78 = .ok (.iconst 1, 1) := by decide +kernel
theorem dX2_isMonotone_79 : decode cX2_isMonotone 79 = .ok (.ireturn, 1) := by decide +kernel
theorem dX2_projectedArgument_0 : decode cX2_projectedArgument 0 = .ok (.iload_n 1, 1) := by decide +kernel
theorem dX2_projectedArgument_1 : decode cX2_projectedArgument 1 = .ok (.iload_n 2, 1) := by decide +kernel
theorem dX2_projectedArgument_2 : decode cX2_projectedArgument 2 = .ok (.invokestatic 87, 3) := by decide +kernel
theorem dX2_projectedArgument_5 : decode cX2_projectedArgument 5 = .ok (.ifCond .ne 9, 3) := by decide +kernel
theorem dX2_projectedArgument_8 : decode cX2_projectedArgument 8 = .ok (.aload_n 0, 1) := by decide +kernel
theorem dX2_projectedArgument_9 : decode cX2_projectedArgument 9 = .ok (.iconst 1, 1) := by decide +kernel
theorem dX2_projectedArgument_10 : decode cX2_projectedArgument 10 = .ok (.invokevirtual 56, 3) := by decide +kernel
theorem dX2_projectedArgument_13 : decode cX2_projectedArgument 13 = .ok (.ireturn, 1) := by decide +kernel
theorem dX2_projectedArgument_14 : decode cX2_projectedArgument 14 = .ok (.aload_n 0, 1) := by decide +kernel
theorem dX2_projectedArgument_15 : decode cX2_projectedArgument 15 = .ok (.iconst 0, 1) := by decide +kernel
theorem dX2_projectedArgument_16 : decode cX2_projectedArgument 16 = .ok (.putfield 46, 3) := by decide +kernel
theorem dX2_projectedArgument_19 : decode cX2_projectedArgument 19 = .ok (.iconst 0, 1) := by decide +kernel
theorem dX2_projectedArgument_20 : decode cX2_projectedArgument 20 = .ok (.istore_n 3, 1) := by decide +kernel
theorem dX2_projectedArgument_21 : decode cX2_projectedArgument 21 = .ok (.iload_n 3, 1) := by decide +kernel
theorem dX2_projectedArgument_22 : decode cX2_projectedArgument 22 = .ok (.iload_n 1, 1) := by decide +kernel
theorem dX2_projectedArgument_23 : decode cX2_projectedArgument 23 = .ok (.if_icmp .ge 64, 3) := by decide +kernel
theorem dX2_projectedArgument_26 : decode cX2_projectedArgument 26 = .ok (.iconst 0, 1) := by decide +kernel
theorem dX2_projectedArgument_27 : decode cX2_projectedArgument 27 = .ok (.istore 4, 2) := by decide +kernel
theorem dX2_projectedArgument_29 : decode cX2_projectedArgument 29 = .ok (.iconst 0, 1) := by decide +kernel
theorem dX2_projectedArgument_30 : decode cX2_projectedArgument 30 = .ok (.istore 5, 2) := by decide +kernel
theorem dX2_projectedArgument_32 : decode cX2_projectedArgument 32 = .ok (.iload 5, 2) := by decide +kernel
theorem dX2_projectedArgument_34 : decode cX2_projectedArgument 34 = .ok (.iconst 1, 1) := by decide +kernel
theorem dX2_projectedArgument_35 : decode cX2_projectedArgument 35 = .ok (.iload_n 1, 1) := by decide +kernel
theorem dX2_projectedArgument_36 : decode cX2_projectedArgument 36 = .ok (.ishl, 1) := by decide +kernel
theorem dX2_projectedArgument_37 : decode cX2_projectedArgument 37 = .ok (.if_icmp .ge 34, 3) := by decide +kernel
theorem dX2_projectedArgument_40 : decode cX2_projectedArgument 40 = .ok (.iload 4, 2) := by decide +kernel
theorem dX2_projectedArgument_42 : decode cX2_projectedArgument 42 = .ok (.iload_n 2, 1) := by decide +kernel
theorem dX2_projectedArgument_43 : decode cX2_projectedArgument 43 = .ok (.iload 5, 2) := by decide +kernel
theorem dX2_projectedArgument_45 : decode cX2_projectedArgument 45 = .ok (.ishr, 1) := by decide +kernel
theorem dX2_projectedArgument_46 : decode cX2_projectedArgument 46 = .ok (.iconst 1, 1) := by decide +kernel
theorem dX2_projectedArgument_47 : decode cX2_projectedArgument 47 = .ok (.iand, 1) := by decide +kernel
theorem dX2_projectedArgument_48 : decode cX2_projectedArgument 48 = .ok (.iload 5, 2) := by decide +kernel
theorem dX2_projectedArgument_50 : decode cX2_projectedArgument 50 = .ok (.iload_n 3, 1) := by decide +kernel
theorem dX2_projectedArgument_51 : decode cX2_projectedArgument 51 = .ok (.ishr, 1) := by decide +kernel
theorem dX2_projectedArgument_52 : decode cX2_projectedArgument 52 = .ok (.iconst 1, 1) := by decide +kernel
theorem dX2_projectedArgument_53 : decode cX2_projectedArgument 53 = .ok (.iand, 1) := by decide +kernel
theorem dX2_projectedArgument_54 : decode cX2_projectedArgument 54 = .ok (.if_icmp .ne 7, 3) := by decide +kernel
theorem dX2_projectedArgument_57 : decode cX2_projectedArgument 57 = .ok (.iconst 1, 1) := by decide +kernel
theorem dX2_projectedArgument_58 : decode cX2_projectedArgument 58 = .ok (.goto 4, 3) := by decide +kernel
theorem dX2_projectedArgument_61 : decode cX2_projectedArgument 61 = .ok (.iconst 0, 1) := by decide +kernel
theorem dX2_projectedArgument_62 : decode cX2_projectedArgument 62 = .ok (.iadd, 1) := by decide +kernel
theorem dX2_projectedArgument_63 : decode cX2_projectedArgument 63 = .ok (.istore 4, 2) := by decide +kernel
theorem dX2_projectedArgument_65 : decode cX2_projectedArgument 65 = .ok (.iinc 5 1, 3) := by decide +kernel
theorem dX2_projectedArgument_68 : decode cX2_projectedArgument 68 = .ok (.goto (-36), 3) := by decide +kernel
theorem dX2_projectedArgument_71 : decode cX2_projectedArgument 71 = .ok (.iload 4, 2) := by decide +kernel
theorem dX2_projectedArgument_73 : decode cX2_projectedArgument 73 = .ok (.iconst 1, 1) := by decide +kernel
theorem dX2_projectedArgument_74 : decode cX2_projectedArgument 74 = .ok (.iload_n 1, 1) := by decide +kernel
theorem dX2_projectedArgument_75 : decode cX2_projectedArgument 75 = .ok (.ishl, 1) := by decide +kernel
theorem dX2_projectedArgument_76 : decode cX2_projectedArgument 76 = .ok (.if_icmp .ne 5, 3) := by decide +kernel
theorem dX2_projectedArgument_79 : decode cX2_projectedArgument 79 = .ok (.iload_n 3, 1) := by decide +kernel
theorem dX2_projectedArgument_80 : decode cX2_projectedArgument 80 = .ok (.ireturn, 1) := by decide +kernel
theorem dX2_projectedArgument_81 : decode cX2_projectedArgument 81 = .ok (.iinc 3 1, 3) := by decide +kernel
theorem dX2_projectedArgument_84 : decode cX2_projectedArgument 84 = .ok (.goto (-63), 3) := by decide +kernel
theorem dX2_projectedArgument_87 : decode cX2_projectedArgument 87 = .ok (.aload_n 0, 1) := by decide +kernel
theorem dX2_projectedArgument_88 : decode cX2_projectedArgument 88 = .ok (.iconst 2, 1) := by decide +kernel
theorem dX2_projectedArgument_89 : decode cX2_projectedArgument 89 = .ok (.invokevirtual 56, 3) := by decide +kernel
theorem dX2_projectedArgument_92 : decode cX2_projectedArgument 92 = .ok (.ireturn, 1) := by decide +kernel
theorem dX2_close_0 : decode cX2_close 0 = .ok (.aload_n 0, 1) := by decide +kernel
theorem dX2_close_1 : decode cX2_close 1 = .ok (.iload_n 1, 1) := by decide +kernel
theorem dX2_close_2 : decode cX2_close 2 = .ok (.invokevirtual 78, 3) := by decide +kernel
theorem dX2_close_5 : decode cX2_close 5 = .ok (.ifCond .ne 9, 3) := by decide +kernel
theorem dX2_close_8 : decode cX2_close 8 = .ok (.aload_n 0, 1) := by decide +kernel
theorem dX2_close_9 : decode cX2_close 9 = .ok (.iconst 1, 1) := by decide +kernel
theorem dX2_close_10 : decode cX2_close 10 = .ok (.invokevirtual 56, 3) := by decide +kernel
theorem dX2_close_13 : decode cX2_close 13 = .ok (.ireturn, 1) := by decide +kernel
theorem dX2_close_14 : decode cX2_close 14 = .ok (.iload_n 2, 1) := by decide +kernel
theorem dX2_close_15 : decode cX2_close 15 = .ok (.iload_n 3, 1) := by decide +kernel
theorem dX2_close_16 : decode cX2_close 16 = .ok (.invokestatic 87, 3) := by decide +kernel
theorem dX2_close_19 : decode cX2_close 19 = .ok (.ifCond .ne 9, 3) := by decide +kernel
theorem dX2_close_22 : decode cX2_close 22 = .ok (.aload_n 0, 1) := by decide +kernel
theorem dX2_close_23 : decode cX2_close 23 = .ok (.iconst 2, 1) := by decide +kernel
theorem dX2_close_24 : decode cX2_close 24 = .ok (.invokevirtual 56, 3) := by decide +kernel
theorem dX2_close_27 : decode cX2_close 27 = .ok (.ireturn, 1) := by decide +kernel
theorem dX2_close_28 : decode cX2_close 28 = .ok (.aload_n 0, 1) := by decide +kernel
theorem dX2_close_29 : decode cX2_close 29 = .ok (.iconst 0, 1) := by decide +kernel
theorem dX2_close_30 : decode cX2_close 30 = .ok (.putfield 46, 3) := by decide +kernel
theorem dX2_close_33 : decode cX2_close 33 = .ok (.iconst (-1), 1) := by decide +kernel
theorem dX2_close_34 : decode cX2_close 34 = .ok (.istore 4, 2) := by decide +kernel
theorem dX2_close_36 : decode cX2_close 36 = .ok (.iload 4, 2) := by decide +kernel
theorem dX2_close_38 : decode cX2_close 38 = .ok (.aload_n 0, 1) := by decide +kernel
theorem dX2_close_39 : decode cX2_close 39 = .ok (.getfield 13, 3) := by decide +kernel
theorem dX2_close_42 : decode cX2_close 42 = .ok (.iload_n 1, 1) := by decide +kernel
theorem dX2_close_43 : decode cX2_close 43 = .ok (.iaload, 1) := by decide +kernel
theorem dX2_close_44 : decode cX2_close 44 = .ok (.if_icmp .eq 40, 3) := by decide +kernel
theorem dX2_close_47 : decode cX2_close 47 = .ok (.aload_n 0, 1) := by decide +kernel
theorem dX2_close_48 : decode cX2_close 48 = .ok (.getfield 13, 3) := by decide +kernel
theorem dX2_close_51 : decode cX2_close 51 = .ok (.iload_n 1, 1) := by decide +kernel
theorem dX2_close_52 : decode cX2_close 52 = .ok (.iaload, 1) := by decide +kernel
theorem dX2_close_53 : decode cX2_close 53 = .ok (.istore 4, 2) := by decide +kernel
theorem dX2_close_55 : decode cX2_close 55 = .ok (.aload_n 0, 1) := by decide +kernel
theorem dX2_close_56 : decode cX2_close 56 = .ok (.getfield 13, 3) := by decide +kernel
theorem dX2_close_59 : decode cX2_close 59 = .ok (.iload_n 1, 1) := by decide +kernel
theorem dX2_close_60 : decode cX2_close 60 = .ok (.dup2, 1) := by decide +kernel
theorem dX2_close_61 : decode cX2_close 61 = .ok (.iaload, 1) := by decide +kernel
theorem dX2_close_62 : decode cX2_close 62 = .ok (.iload_n 2, 1) := by decide +kernel
theorem dX2_close_63 : decode cX2_close 63 = .ok (.iload_n 3, 1) := by decide +kernel
theorem dX2_close_64 : decode cX2_close 64 = .ok (.iload 4, 2) := by decide +kernel
theorem dX2_close_66 : decode cX2_close 66 = .ok (.iconst 1, 1) := by decide +kernel
theorem dX2_close_67 : decode cX2_close 67 = .ok (.aload_n 0, 1) := by decide +kernel
theorem dX2_close_68 : decode cX2_close 68 = .ok (.getfield 7, 3) := by decide +kernel
theorem dX2_close_71 : decode cX2_close 71 = .ok (.iload_n 1, 1) := by decide +kernel
theorem dX2_close_72 : decode cX2_close 72 = .ok (.iaload, 1) := by decide +kernel
theorem dX2_close_73 : decode cX2_close 73 = .ok (.ishl, 1) := by decide +kernel
theorem dX2_close_74 : decode cX2_close 74 = .ok (.iconst 1, 1) := by decide +kernel
theorem dX2_close_75 : decode cX2_close 75 = .ok (.isub, 1) := by decide +kernel
theorem dX2_close_76 : decode cX2_close 76 = .ok (.invokestatic 107, 3) := by decide +kernel
theorem dX2_close_79 : decode cX2_close 79 = .ok (.ior, 1) := by decide +kernel
theorem dX2_close_80 : decode cX2_close 80 = .ok (.iastore, 1) := by decide +kernel
theorem dX2_close_81 : decode cX2_close 81 = .ok (.goto (-45), 3) := by decide +kernel
theorem dX2_close_84 : decode cX2_close 84 = .ok (.iload 4, 2) := by decide +kernel
theorem dX2_close_86 : decode cX2_close 86 = .ok (.invokestatic 75, 3) := by decide +kernel
theorem dX2_close_89 : decode cX2_close 89 = .ok (.ireturn, 1) := by decide +kernel
theorem dX2_dual_0 : decode cX2_dual 0 = .ok (.iload_n 1, 1) := by decide +kernel
theorem dX2_dual_1 : decode cX2_dual 1 = .ok (.iload_n 2, 1) := by decide +kernel
theorem dX2_dual_2 : decode cX2_dual 2 = .ok (.invokestatic 87, 3) := by decide +kernel
theorem dX2_dual_5 : decode cX2_dual 5 = .ok (.ifCond .ne 9, 3) := by decide +kernel
theorem dX2_dual_8 : decode cX2_dual 8 = .ok (.aload_n 0, 1) := by decide +kernel
theorem dX2_dual_9 : decode cX2_dual 9 = .ok (.iconst 1, 1) := by decide +kernel
theorem dX2_dual_10 : decode cX2_dual 10 = .ok (.invokevirtual 56, 3) := by decide +kernel
theorem dX2_dual_13 : decode cX2_dual 13 = .ok (.ireturn, 1) := by decide +kernel
theorem dX2_dual_14 : decode cX2_dual 14 = .ok (.aload_n 0, 1) := by decide +kernel
theorem dX2_dual_15 : decode cX2_dual 15 = .ok (.iconst 0, 1) := by decide +kernel
theorem dX2_dual_16 : decode cX2_dual 16 = .ok (.putfield 46, 3) := by decide +kernel
theorem dX2_dual_19 : decode cX2_dual 19 = .ok (.iconst 0, 1) := by decide +kernel
theorem dX2_dual_20 : decode cX2_dual 20 = .ok (.istore_n 3, 1) := by decide +kernel
theorem dX2_dual_21 : decode cX2_dual 21 = .ok (.iconst 1, 1) := by decide +kernel
theorem dX2_dual_22 : decode cX2_dual 22 = .ok (.iload_n 1, 1) := by decide +kernel
theorem dX2_dual_23 : decode cX2_dual 23 = .ok (.ishl, 1) := by decide +kernel
theorem dX2_dual_24 : decode cX2_dual 24 = .ok (.iconst 1, 1) := by decide +kernel
theorem dX2_dual_25 : decode cX2_dual 25 = .ok (.isub, 1) := by decide +kernel
theorem dX2_dual_26 : decode cX2_dual 26 = .ok (.istore 4, 2) := by decide +kernel
theorem dX2_dual_28 : decode cX2_dual 28 = .ok (.iconst 0, 1) := by decide +kernel
theorem dX2_dual_29 : decode cX2_dual 29 = .ok (.istore 5, 2) := by decide +kernel
theorem dX2_dual_31 : decode cX2_dual 31 = .ok (.iload 5, 2) := by decide +kernel
theorem dX2_dual_33 : decode cX2_dual 33 = .ok (.iload 4, 2) := by decide +kernel
theorem dX2_dual_35 : decode cX2_dual 35 = .ok (.if_icmp .gt 26, 3) := by decide +kernel
theorem dX2_dual_38 : decode cX2_dual 38 = .ok (.iload_n 3, 1) := by decide +kernel
theorem dX2_dual_39 : decode cX2_dual 39 = .ok (.iconst 1, 1) := by decide +kernel
theorem dX2_dual_40 : decode cX2_dual 40 = .ok (.iload_n 2, 1) := by decide +kernel
theorem dX2_dual_41 : decode cX2_dual 41 = .ok (.iload 4, 2) := by decide +kernel
theorem dX2_dual_43 : decode cX2_dual 43 = .ok (.iload 5, 2) := by decide +kernel
theorem dX2_dual_45 : decode cX2_dual 45 = .ok (.isub, 1) := by decide +kernel
theorem dX2_dual_46 : decode cX2_dual 46 = .ok (.ishr, 1) := by decide +kernel
theorem dX2_dual_47 : decode cX2_dual 47 = .ok (.iconst 1, 1) := by decide +kernel
theorem dX2_dual_48 : decode cX2_dual 48 = .ok (.iand, 1) := by decide +kernel
theorem dX2_dual_49 : decode cX2_dual 49 = .ok (.isub, 1) := by decide +kernel
theorem dX2_dual_50 : decode cX2_dual 50 = .ok (.iload 5, 2) := by decide +kernel
theorem dX2_dual_52 : decode cX2_dual 52 = .ok (.ishl, 1) := by decide +kernel
theorem dX2_dual_53 : decode cX2_dual 53 = .ok (.ior, 1) := by decide +kernel
theorem dX2_dual_54 : decode cX2_dual 54 = .ok (.istore_n 3, 1) := by decide +kernel
theorem dX2_dual_55 : decode cX2_dual 55 = .ok (.iinc 5 1, 3) := by decide +kernel
theorem dX2_dual_58 : decode cX2_dual 58 = .ok (.goto (-27), 3) := by decide +kernel
theorem dX2_dual_61 : decode cX2_dual 61 = .ok (.iload_n 3, 1) := by decide +kernel
theorem dX2_dual_62 : decode cX2_dual 62 = .ok (.ireturn, 1) := by decide +kernel
theorem dX2_dependsOn_0 : decode cX2_dependsOn 0 = .ok (.iload_n 1, 1) := by decide +kernel
theorem dX2_dependsOn_1 : decode cX2_dependsOn 1 = .ok (.iload_n 2, 1) := by decide +kernel
theorem dX2_dependsOn_2 : decode cX2_dependsOn 2 = .ok (.invokestatic 87, 3) := by decide +kernel
theorem dX2_dependsOn_5 : decode cX2_dependsOn 5 = .ok (.ifCond .ne 9, 3) := by decide +kernel
theorem dX2_dependsOn_8 : decode cX2_dependsOn 8 = .ok (.aload_n 0, 1) := by decide +kernel
theorem dX2_dependsOn_9 : decode cX2_dependsOn 9 = .ok (.iconst 1, 1) := by decide +kernel
theorem dX2_dependsOn_10 : decode cX2_dependsOn 10 = .ok (.invokevirtual 101, 3) := by decide +kernel
theorem dX2_dependsOn_13 : decode cX2_dependsOn 13 = .ok (.ireturn, 1) := by decide +kernel
theorem dX2_dependsOn_14 : decode cX2_dependsOn 14 = .ok (.iload_n 3, 1) := by decide +kernel
theorem dX2_dependsOn_15 : decode cX2_dependsOn 15 = .ok (.iconst 0, 1) := by decide +kernel
theorem dX2_dependsOn_16 : decode cX2_dependsOn 16 = .ok (.iload_n 1, 1) := by decide +kernel
theorem dX2_dependsOn_17 : decode cX2_dependsOn 17 = .ok (.iconst 1, 1) := by decide +kernel
theorem dX2_dependsOn_18 : decode cX2_dependsOn 18 = .ok (.isub, 1) := by decide +kernel
theorem dX2_dependsOn_19 : decode cX2_dependsOn 19 = .ok (.invokestatic 52, 3) := by decide +kernel
theorem dX2_dependsOn_22 : decode cX2_dependsOn 22 = .ok (.ifCond .ne 9, 3) := by decide +kernel
theorem dX2_dependsOn_25 : decode cX2_dependsOn 25 = .ok (.aload_n 0, 1) := by decide +kernel
theorem dX2_dependsOn_26 : decode cX2_dependsOn 26 = .ok (.iconst 2, 1) := by decide +kernel
theorem dX2_dependsOn_27 : decode cX2_dependsOn 27 = .ok (.invokevirtual 101, 3) := by decide +kernel
theorem dX2_dependsOn_30 : decode cX2_dependsOn 30 = .ok (.ireturn, 1) := by decide +kernel
theorem dX2_dependsOn_31 : decode cX2_dependsOn 31 = .ok (.aload_n 0, 1) := by decide +kernel
theorem dX2_dependsOn_32 : decode cX2_dependsOn 32 = .ok (.iconst 0, 1) := by decide +kernel
theorem dX2_dependsOn_33 : decode cX2_dependsOn 33 = .ok (.putfield 46, 3) := by decide +kernel
theorem dX2_dependsOn_36 : decode cX2_dependsOn 36 = .ok (.iconst 0, 1) := by decide +kernel
theorem dX2_dependsOn_37 : decode cX2_dependsOn 37 = .ok (.istore 4, 2) := by decide +kernel
theorem dX2_dependsOn_39 : decode cX2_dependsOn 39 = .ok (.iload 4, 2) := by decide +kernel
theorem dX2_dependsOn_41 : decode cX2_dependsOn 41 = .ok (.iconst 1, 1) := by decide +kernel
theorem dX2_dependsOn_42 : decode cX2_dependsOn 42 = .ok (.iload_n 1, 1) := by decide +kernel
theorem dX2_dependsOn_43 : decode cX2_dependsOn 43 = .ok (.ishl, 1) := by decide +kernel
theorem dX2_dependsOn_44 : decode cX2_dependsOn 44 = .ok (.if_icmp .ge 30, 3) := by decide +kernel
theorem dX2_dependsOn_47 : decode cX2_dependsOn 47 = .ok (.iload_n 2, 1) := by decide +kernel
theorem dX2_dependsOn_48 : decode cX2_dependsOn 48 = .ok (.iload 4, 2) := by decide +kernel
theorem dX2_dependsOn_50 : decode cX2_dependsOn 50 = .ok (.ishr, 1) := by decide +kernel
theorem dX2_dependsOn_51 : decode cX2_dependsOn 51 = .ok (.iconst 1, 1) := by decide +kernel
theorem dX2_dependsOn_52 : decode cX2_dependsOn 52 = .ok (.iand, 1) := by decide +kernel
theorem dX2_dependsOn_53 : decode cX2_dependsOn 53 = .ok (.iload_n 2, 1) := by decide +kernel
theorem dX2_dependsOn_54 : decode cX2_dependsOn 54 = .ok (.iload 4, 2) := by decide +kernel
theorem dX2_dependsOn_56 : decode cX2_dependsOn 56 = .ok (.iconst 1, 1) := by decide +kernel
theorem dX2_dependsOn_57 : decode cX2_dependsOn 57 = .ok (.iload_n 3, 1) := by decide +kernel
theorem dX2_dependsOn_58 : decode cX2_dependsOn 58 = .ok (.ishl, 1) := by decide +kernel
theorem dX2_dependsOn_59 : decode cX2_dependsOn 59 = .ok (.ixor, 1) := by decide +kernel
theorem dX2_dependsOn_60 : decode cX2_dependsOn 60 = .ok (.ishr, 1) := by decide +kernel
theorem dX2_dependsOn_61 : decode cX2_dependsOn 61 = .ok (.iconst 1, 1) := by decide +kernel
theorem dX2_dependsOn_62 : decode cX2_dependsOn 62 = .ok (.iand, 1) := by decide +kernel
theorem dX2_dependsOn_63 : decode cX2_dependsOn 63 = .ok (.if_icmp .eq 5, 3) := by decide +kernel
theorem dX2_dependsOn_66 : decode cX2_dependsOn 66 = .ok (.iconst 1, 1) := by decide +kernel
theorem dX2_dependsOn_67 : decode cX2_dependsOn 67 = .ok (.ireturn, 1) := by decide +kernel
theorem dX2_dependsOn_68 : decode cX2_dependsOn 68 = .ok (.iinc 4 1, 3) := by decide +kernel
theorem dX2_dependsOn_71 : decode cX2_dependsOn 71 = .ok (.goto (-32), 3) := by decide +kernel
theorem dX2_dependsOn_74 : decode cX2_dependsOn 74 = .ok (.iconst 0, 1) := by decide +kernel
theorem dX2_dependsOn_75 : decode cX2_dependsOn 75 = .ok (.ireturn, 1) := by decide +kernel
theorem dX2_compose_0 : decode cX2_compose 0 = .ok (.iload_n 1, 1) := by decide +kernel
theorem dX2_compose_1 : decode cX2_compose 1 = .ok (.iload_n 2, 1) := by decide +kernel
theorem dX2_compose_2 : decode cX2_compose 2 = .ok (.invokestatic 87, 3) := by decide +kernel
theorem dX2_compose_5 : decode cX2_compose 5 = .ok (.ifCond .eq 13, 3) := by decide +kernel
theorem dX2_compose_8 : decode cX2_compose 8 = .ok (.iload_n 3, 1) := by decide +kernel
theorem dX2_compose_9 : decode cX2_compose 9 = .ok (.iconst 0, 1) := by decide +kernel
theorem dX2_compose_10 : decode cX2_compose 10 = .ok (.bipush 15, 2) := by decide +kernel
theorem dX2_compose_12 : decode cX2_compose 12 = .ok (.invokestatic 52, 3) := by decide +kernel
theorem dX2_compose_15 : decode cX2_compose 15 = .ok (.ifCond .ne 9, 3) := by decide +kernel
theorem dX2_compose_18 : decode cX2_compose 18 = .ok (.aload_n 0, 1) := by decide +kernel
theorem dX2_compose_19 : decode cX2_compose 19 = .ok (.iconst 1, 1) := by decide +kernel
theorem dX2_compose_20 : decode cX2_compose 20 = .ok (.invokevirtual 56, 3) := by decide +kernel
theorem dX2_compose_23 : decode cX2_compose 23 = .ok (.ireturn, 1) := by decide +kernel
theorem dX2_compose_24 : decode cX2_compose 24 = .ok (.aload_n 0, 1) := by decide +kernel
theorem dX2_compose_25 : decode cX2_compose 25 = .ok (.iconst 0, 1) := by decide +kernel
theorem dX2_compose_26 : decode cX2_compose 26 = .ok (.putfield 46, 3) := by decide +kernel
theorem dX2_compose_29 : decode cX2_compose 29 = .ok (.iconst 0, 1) := by decide +kernel
theorem dX2_compose_30 : decode cX2_compose 30 = .ok (.istore 4, 2) := by decide +kernel
theorem dX2_compose_32 : decode cX2_compose 32 = .ok (.iconst 0, 1) := by decide +kernel
theorem dX2_compose_33 : decode cX2_compose 33 = .ok (.istore 5, 2) := by decide +kernel
theorem dX2_compose_35 : decode cX2_compose 35 = .ok (.iload 5, 2) := by decide +kernel
theorem dX2_compose_37 : decode cX2_compose 37 = .ok (.iconst 4, 1) := by decide +kernel
theorem dX2_compose_38 : decode cX2_compose 38 = .ok (.if_icmp .ge 67, 3) := by decide +kernel
theorem dX2_compose_41 : decode cX2_compose 41 = .ok (.iload 5, 2) := by decide +kernel
theorem dX2_compose_43 : decode cX2_compose 43 = .ok (.iconst 1, 1) := by decide +kernel
theorem dX2_compose_44 : decode cX2_compose 44 = .ok (.iand, 1) := by decide +kernel
theorem dX2_compose_45 : decode cX2_compose 45 = .ok (.istore 6, 2) := by decide +kernel
theorem dX2_compose_47 : decode cX2_compose 47 = .ok (.iload 5, 2) := by decide +kernel
theorem dX2_compose_49 : decode cX2_compose 49 = .ok (.iconst 1, 1) := by decide +kernel
theorem dX2_compose_50 : decode cX2_compose 50 = .ok (.ishr, 1) := by decide +kernel
theorem dX2_compose_51 : decode cX2_compose 51 = .ok (.istore 7, 2) := by decide +kernel
theorem dX2_compose_53 : decode cX2_compose 53 = .ok (.iload 4, 2) := by decide +kernel
theorem dX2_compose_55 : decode cX2_compose 55 = .ok (.iload_n 2, 1) := by decide +kernel
theorem dX2_compose_56 : decode cX2_compose 56 = .ok (.iload_n 1, 1) := by decide +kernel
theorem dX2_compose_57 : decode cX2_compose 57 = .ok (.iload_n 3, 1) := by decide +kernel
theorem dX2_compose_58 : decode cX2_compose 58 = .ok (.iload 6, 2) := by decide +kernel
theorem dX2_compose_60 : decode cX2_compose 60 = .ok (.iconst 2, 1) := by decide +kernel
theorem dX2_compose_61 : decode cX2_compose 61 = .ok (.iload 7, 2) := by decide +kernel
theorem dX2_compose_63 : decode cX2_compose 63 = .ok (.imul, 1) := by decide +kernel
theorem dX2_compose_64 : decode cX2_compose 64 = .ok (.iadd, 1) := by decide +kernel
theorem dX2_compose_65 : decode cX2_compose 65 = .ok (.ishr, 1) := by decide +kernel
theorem dX2_compose_66 : decode cX2_compose 66 = .ok (.iconst 1, 1) := by decide +kernel
theorem dX2_compose_67 : decode cX2_compose 67 = .ok (.iand, 1) := by decide +kernel
theorem dX2_compose_68 : decode cX2_compose 68 = .ok (.iload_n 3, 1) := by decide +kernel
theorem dX2_compose_69 : decode cX2_compose 69 = .ok (.iload 7, 2) := by decide +kernel
theorem dX2_compose_71 : decode cX2_compose 71 = .ok (.iconst 2, 1) := by decide +kernel
theorem dX2_compose_72 : decode cX2_compose 72 = .ok (.iload 6, 2) := by decide +kernel
theorem dX2_compose_74 : decode cX2_compose 74 = .ok (.imul, 1) := by decide +kernel
theorem dX2_compose_75 : decode cX2_compose 75 = .ok (.iadd, 1) := by decide +kernel
theorem dX2_compose_76 : decode cX2_compose 76 = .ok (.ishr, 1) := by decide +kernel
theorem dX2_compose_77 : decode cX2_compose 77 = .ok (.iconst 1, 1) := by decide +kernel
theorem dX2_compose_78 : decode cX2_compose 78 = .ok (.iand, 1) := by decide +kernel
theorem dX2_compose_79 : decode cX2_compose 79 = .ok (.iload_n 3, 1) := by decide +kernel
theorem dX2_compose_80 : decode cX2_compose 80 = .ok (.iconst 3, 1) := by decide +kernel
theorem dX2_compose_81 : decode cX2_compose 81 = .ok (.iload 6, 2) := by decide +kernel
theorem dX2_compose_83 : decode cX2_compose 83 = .ok (.imul, 1) := by decide +kernel
theorem dX2_compose_84 : decode cX2_compose 84 = .ok (.ishr, 1) := by decide +kernel
theorem dX2_compose_85 : decode cX2_compose 85 = .ok (.iconst 1, 1) := by decide +kernel
theorem dX2_compose_86 : decode cX2_compose 86 = .ok (.iand, 1) := by decide +kernel
theorem dX2_compose_87 : decode cX2_compose 87 = .ok (.invokestatic 90, 3) := by decide +kernel
theorem dX2_compose_90 : decode cX2_compose 90 = .ok (.ishr, 1) := by decide +kernel
theorem dX2_compose_91 : decode cX2_compose 91 = .ok (.iconst 1, 1) := by decide +kernel
theorem dX2_compose_92 : decode cX2_compose 92 = .ok (.iand, 1) := by decide +kernel
theorem dX2_compose_93 : decode cX2_compose 93 = .ok (.iload 5, 2) := by decide +kernel
theorem dX2_compose_95 : decode cX2_compose 95 = .ok (.ishl, 1) := by decide +kernel
theorem dX2_compose_96 : decode cX2_compose 96 = .ok (.ior, 1) := by decide +kernel
theorem dX2_compose_97 : decode cX2_compose 97 = .ok (.istore 4, 2) := by decide +kernel
theorem dX2_compose_99 : decode cX2_compose 99 = .ok (.iinc 5 1, 3) := by decide +kernel
theorem dX2_compose_102 : decode cX2_compose 102 = .ok (.goto (-67), 3) := by decide +kernel
theorem dX2_compose_105 : decode cX2_compose 105 = .ok (.iload 4, 2) := by decide +kernel
theorem dX2_compose_107 : decode cX2_compose 107 = .ok (.ireturn, 1) := by decide +kernel
theorem dX2_has_0 : decode cX2_has 0 = .ok (.aload_n 0, 1) := by decide +kernel
theorem dX2_has_1 : decode cX2_has 1 = .ok (.getstatic 110, 3) := by decide +kernel
theorem dX2_has_4 : decode cX2_has 4 = .ok (.iload_n 1, 1) := by decide +kernel
theorem dX2_has_5 : decode cX2_has 5 = .ok (.iaload, 1) := by decide +kernel
theorem dX2_has_6 : decode cX2_has 6 = .ok (.getstatic 113, 3) := by decide +kernel
theorem dX2_has_9 : decode cX2_has 9 = .ok (.iload_n 1, 1) := by decide +kernel
theorem dX2_has_10 : decode cX2_has 10 = .ok (.iaload, 1) := by decide +kernel
theorem dX2_has_11 : decode cX2_has 11 = .ok (.invokevirtual 104, 3) := by decide +kernel
theorem dX2_has_14 : decode cX2_has 14 = .ok (.ireturn, 1) := by decide +kernel
theorem dX2_relationHasKind_0 : decode cX2_relationHasKind 0 = .ok (.aload_n 0, 1) := by decide +kernel
theorem dX2_relationHasKind_1 : decode cX2_relationHasKind 1 = .ok (.iload_n 1, 1) := by decide +kernel
theorem dX2_relationHasKind_2 : decode cX2_relationHasKind 2 = .ok (.invokevirtual 78, 3) := by decide +kernel
theorem dX2_relationHasKind_5 : decode cX2_relationHasKind 5 = .ok (.ifCond .ne 9, 3) := by decide +kernel
theorem dX2_relationHasKind_8 : decode cX2_relationHasKind 8 = .ok (.aload_n 0, 1) := by decide +kernel
theorem dX2_relationHasKind_9 : decode cX2_relationHasKind 9 = .ok (.iconst 1, 1) := by decide +kernel
theorem dX2_relationHasKind_10 : decode cX2_relationHasKind 10 = .ok (.invokevirtual 101, 3) := by decide +kernel
theorem dX2_relationHasKind_13 : decode cX2_relationHasKind 13 = .ok (.ireturn, 1) := by decide +kernel
theorem dX2_relationHasKind_14 : decode cX2_relationHasKind 14 = .ok (.iload_n 2, 1) := by decide +kernel
theorem dX2_relationHasKind_15 : decode cX2_relationHasKind 15 = .ok (.iconst 0, 1) := by decide +kernel
theorem dX2_relationHasKind_16 : decode cX2_relationHasKind 16 = .ok (.iconst 5, 1) := by decide +kernel
theorem dX2_relationHasKind_17 : decode cX2_relationHasKind 17 = .ok (.invokestatic 52, 3) := by decide +kernel
theorem dX2_relationHasKind_20 : decode cX2_relationHasKind 20 = .ok (.ifCond .ne 9, 3) := by decide +kernel
theorem dX2_relationHasKind_23 : decode cX2_relationHasKind 23 = .ok (.aload_n 0, 1) := by decide +kernel
theorem dX2_relationHasKind_24 : decode cX2_relationHasKind 24 = .ok (.iconst 2, 1) := by decide +kernel
theorem dX2_relationHasKind_25 : decode cX2_relationHasKind 25 = .ok (.invokevirtual 101, 3) := by decide +kernel
theorem dX2_relationHasKind_28 : decode cX2_relationHasKind 28 = .ok (.ireturn, 1) := by decide +kernel
theorem dX2_relationHasKind_29 : decode cX2_relationHasKind 29 = .ok (.aload_n 0, 1) := by decide +kernel
theorem dX2_relationHasKind_30 : decode cX2_relationHasKind 30 = .ok (.iconst 0, 1) := by decide +kernel
theorem dX2_relationHasKind_31 : decode cX2_relationHasKind 31 = .ok (.putfield 46, 3) := by decide +kernel
theorem dX2_relationHasKind_34 : decode cX2_relationHasKind 34 = .ok (.aload_n 0, 1) := by decide +kernel
theorem dX2_relationHasKind_35 : decode cX2_relationHasKind 35 = .ok (.getstatic 110, 3) := by decide +kernel
theorem dX2_relationHasKind_38 : decode cX2_relationHasKind 38 = .ok (.iload_n 2, 1) := by decide +kernel
theorem dX2_relationHasKind_39 : decode cX2_relationHasKind 39 = .ok (.iaload, 1) := by decide +kernel
theorem dX2_relationHasKind_40 : decode cX2_relationHasKind 40 = .ok (.getstatic 113, 3) := by decide +kernel
theorem dX2_relationHasKind_43 : decode cX2_relationHasKind 43 = .ok (.iload_n 2, 1) := by decide +kernel
theorem dX2_relationHasKind_44 : decode cX2_relationHasKind 44 = .ok (.iaload, 1) := by decide +kernel
theorem dX2_relationHasKind_45 : decode cX2_relationHasKind 45 = .ok (.iload_n 1, 1) := by decide +kernel
theorem dX2_relationHasKind_46 : decode cX2_relationHasKind 46 = .ok (.invokevirtual 98, 3) := by decide +kernel
theorem dX2_relationHasKind_49 : decode cX2_relationHasKind 49 = .ok (.ireturn, 1) := by decide +kernel
theorem dX2_hasKind_0 : decode cX2_hasKind 0 = .ok (.iload_n 1, 1) := by decide +kernel
theorem dX2_hasKind_1 : decode cX2_hasKind 1 = .ok (.iconst 0, 1) := by decide +kernel
theorem dX2_hasKind_2 : decode cX2_hasKind 2 = .ok (.iconst 5, 1) := by decide +kernel
theorem dX2_hasKind_3 : decode cX2_hasKind 3 = .ok (.invokestatic 52, 3) := by decide +kernel
theorem dX2_hasKind_6 : decode cX2_hasKind 6 = .ok (.ifCond .ne 9, 3) := by decide +kernel
theorem dX2_hasKind_9 : decode cX2_hasKind 9 = .ok (.aload_n 0, 1) := by decide +kernel
theorem dX2_hasKind_10 : decode cX2_hasKind 10 = .ok (.iconst 1, 1) := by decide +kernel
theorem dX2_hasKind_11 : decode cX2_hasKind 11 = .ok (.invokevirtual 101, 3) := by decide +kernel
theorem dX2_hasKind_14 : decode cX2_hasKind 14 = .ok (.ireturn, 1) := by decide +kernel
theorem dX2_hasKind_15 : decode cX2_hasKind 15 = .ok (.aload_n 0, 1) := by decide +kernel
theorem dX2_hasKind_16 : decode cX2_hasKind 16 = .ok (.iconst 0, 1) := by decide +kernel
theorem dX2_hasKind_17 : decode cX2_hasKind 17 = .ok (.putfield 46, 3) := by decide +kernel
theorem dX2_hasKind_20 : decode cX2_hasKind 20 = .ok (.aload_n 0, 1) := by decide +kernel
theorem dX2_hasKind_21 : decode cX2_hasKind 21 = .ok (.iload_n 1, 1) := by decide +kernel
theorem dX2_hasKind_22 : decode cX2_hasKind 22 = .ok (.invokevirtual 116, 3) := by decide +kernel
theorem dX2_hasKind_25 : decode cX2_hasKind 25 = .ok (.ireturn, 1) := by decide +kernel
theorem dX2_lowestKind_0 : decode cX2_lowestKind 0 = .ok (.aload_n 0, 1) := by decide +kernel
theorem dX2_lowestKind_1 : decode cX2_lowestKind 1 = .ok (.iconst 0, 1) := by decide +kernel
theorem dX2_lowestKind_2 : decode cX2_lowestKind 2 = .ok (.putfield 46, 3) := by decide +kernel
theorem dX2_lowestKind_5 : decode cX2_lowestKind 5 = .ok (.iconst 0, 1) := by decide +kernel
theorem dX2_lowestKind_6 : decode cX2_lowestKind 6 = .ok (.istore_n 1, 1) := by decide +kernel
theorem dX2_lowestKind_7 : decode cX2_lowestKind 7 = .ok (.iload_n 1, 1) := by decide +kernel
theorem dX2_lowestKind_8 : decode cX2_lowestKind 8 = .ok (.bipush 6, 2) := by decide +kernel
theorem dX2_lowestKind_10 : decode cX2_lowestKind 10 = .ok (.if_icmp .ge 19, 3) := by decide +kernel
theorem dX2_lowestKind_13 : decode cX2_lowestKind 13 = .ok (.aload_n 0, 1) := by decide +kernel
theorem dX2_lowestKind_14 : decode cX2_lowestKind 14 = .ok (.iload_n 1, 1) := by decide +kernel
theorem dX2_lowestKind_15 : decode cX2_lowestKind 15 = .ok (.invokevirtual 116, 3) := by decide +kernel
theorem dX2_lowestKind_18 : decode cX2_lowestKind 18 = .ok (.ifCond .eq 5, 3) := by decide +kernel
theorem dX2_lowestKind_21 : decode cX2_lowestKind 21 = .ok (.iload_n 1, 1) := by decide +kernel
theorem dX2_lowestKind_22 : decode cX2_lowestKind 22 = .ok (.ireturn, 1) := by decide +kernel
theorem dX2_lowestKind_23 : decode cX2_lowestKind 23 = .ok (.iinc 1 1, 3) := by decide +kernel
theorem dX2_lowestKind_26 : decode cX2_lowestKind 26 = .ok (.goto (-19), 3) := by decide +kernel
theorem dX2_lowestKind_29 : decode cX2_lowestKind 29 = .ok (.aload_n 0, 1) := by decide +kernel
theorem dX2_lowestKind_30 : decode cX2_lowestKind 30 = .ok (.iconst 1, 1) := by decide +kernel
theorem dX2_lowestKind_31 : decode cX2_lowestKind 31 = .ok (.invokevirtual 56, 3) := by decide +kernel
theorem dX2_lowestKind_34 : decode cX2_lowestKind 34 = .ok (.ireturn, 1) := by decide +kernel
theorem dX2_isVariable_0 : decode cX2_isVariable 0 = .ok (.iload_n 1, 1) := by decide +kernel
theorem dX2_isVariable_1 : decode cX2_isVariable 1 = .ok (.ifCond .lt 15, 3) := by decide +kernel
theorem dX2_isVariable_4 : decode cX2_isVariable 4 = .ok (.iload_n 1, 1) := by decide +kernel
theorem dX2_isVariable_5 : decode cX2_isVariable 5 = .ok (.aload_n 0, 1) := by decide +kernel
theorem dX2_isVariable_6 : decode cX2_isVariable 6 = .ok (.getfield 22, 3) := by decide +kernel
theorem dX2_isVariable_9 : decode cX2_isVariable 9 = .ok (.if_icmp .ge 7, 3) := by decide +kernel
theorem dX2_isVariable_12 : decode cX2_isVariable 12 = .ok (.iconst 1, 1) := by decide +kernel
theorem dX2_isVariable_13 : decode cX2_isVariable 13 = .ok (.goto 4, 3) := by decide +kernel
theorem dX2_isVariable_16 : decode cX2_isVariable 16 = .ok (.iconst 0, 1) := by decide +kernel
theorem dX2_isVariable_17 : decode cX2_isVariable 17 = .ok (.ireturn, 1) := by decide +kernel
theorem dX2_setVariables_0 : decode cX2_setVariables 0 = .ok (.iload_n 1, 1) := by decide +kernel
theorem dX2_setVariables_1 : decode cX2_setVariables 1 = .ok (.iconst 1, 1) := by decide +kernel
theorem dX2_setVariables_2 : decode cX2_setVariables 2 = .ok (.bipush 10, 2) := by decide +kernel
theorem dX2_setVariables_4 : decode cX2_setVariables 4 = .ok (.invokestatic 52, 3) := by decide +kernel
theorem dX2_setVariables_7 : decode cX2_setVariables 7 = .ok (.ifCond .ne 9, 3) := by decide +kernel
theorem dX2_setVariables_10 : decode cX2_setVariables 10 = .ok (.aload_n 0, 1) := by decide +kernel
theorem dX2_setVariables_11 : decode cX2_setVariables 11 = .ok (.iconst 1, 1) := by decide +kernel
theorem dX2_setVariables_12 : decode cX2_setVariables 12 = .ok (.invokevirtual 56, 3) := by decide +kernel
theorem dX2_setVariables_15 : decode cX2_setVariables 15 = .ok (.ireturn, 1) := by decide +kernel
theorem dX2_setVariables_16 : decode cX2_setVariables 16 = .ok (.aload_n 0, 1) := by decide +kernel
theorem dX2_setVariables_17 : decode cX2_setVariables 17 = .ok (.iconst 0, 1) := by decide +kernel
theorem dX2_setVariables_18 : decode cX2_setVariables 18 = .ok (.putfield 46, 3) := by decide +kernel
theorem dX2_setVariables_21 : decode cX2_setVariables 21 = .ok (.aload_n 0, 1) := by decide +kernel
theorem dX2_setVariables_22 : decode cX2_setVariables 22 = .ok (.getfield 84, 3) := by decide +kernel
theorem dX2_setVariables_25 : decode cX2_setVariables 25 = .ok (.istore_n 2, 1) := by decide +kernel
theorem dX2_setVariables_26 : decode cX2_setVariables 26 = .ok (.aload_n 0, 1) := by decide +kernel
theorem dX2_setVariables_27 : decode cX2_setVariables 27 = .ok (.iconst 0, 1) := by decide +kernel
theorem dX2_setVariables_28 : decode cX2_setVariables 28 = .ok (.putfield 84, 3) := by decide +kernel
theorem dX2_setVariables_31 : decode cX2_setVariables 31 = .ok (.aload_n 0, 1) := by decide +kernel
theorem dX2_setVariables_32 : decode cX2_setVariables 32 = .ok (.iload_n 1, 1) := by decide +kernel
theorem dX2_setVariables_33 : decode cX2_setVariables 33 = .ok (.putfield 22, 3) := by decide +kernel
theorem dX2_setVariables_36 : decode cX2_setVariables 36 = .ok (.iload_n 2, 1) := by decide +kernel
theorem dX2_setVariables_37 : decode cX2_setVariables 37 = .ok (.ireturn, 1) := by decide +kernel
theorem dX2_areVariables_0 : decode cX2_areVariables 0 = .ok (.aload_n 0, 1) := by decide +kernel
theorem dX2_areVariables_1 : decode cX2_areVariables 1 = .ok (.iload_n 2, 1) := by decide +kernel
theorem dX2_areVariables_2 : decode cX2_areVariables 2 = .ok (.invokevirtual 119, 3) := by decide +kernel
theorem dX2_areVariables_5 : decode cX2_areVariables 5 = .ok (.ifCond .eq 48, 3) := by decide +kernel
theorem dX2_areVariables_8 : decode cX2_areVariables 8 = .ok (.iload_n 1, 1) := by decide +kernel
theorem dX2_areVariables_9 : decode cX2_areVariables 9 = .ok (.iconst 2, 1) := by decide +kernel
theorem dX2_areVariables_10 : decode cX2_areVariables 10 = .ok (.if_icmp .lt 11, 3) := by decide +kernel
theorem dX2_areVariables_13 : decode cX2_areVariables 13 = .ok (.aload_n 0, 1) := by decide +kernel
theorem dX2_areVariables_14 : decode cX2_areVariables 14 = .ok (.iload_n 3, 1) := by decide +kernel
theorem dX2_areVariables_15 : decode cX2_areVariables 15 = .ok (.invokevirtual 119, 3) := by decide +kernel
theorem dX2_areVariables_18 : decode cX2_areVariables 18 = .ok (.ifCond .eq 35, 3) := by decide +kernel
theorem dX2_areVariables_21 : decode cX2_areVariables 21 = .ok (.iload_n 1, 1) := by decide +kernel
theorem dX2_areVariables_22 : decode cX2_areVariables 22 = .ok (.iconst 3, 1) := by decide +kernel
theorem dX2_areVariables_23 : decode cX2_areVariables 23 = .ok (.if_icmp .lt 12, 3) := by decide +kernel
theorem dX2_areVariables_26 : decode cX2_areVariables 26 = .ok (.aload_n 0, 1) := by decide +kernel
theorem dX2_areVariables_27 : decode cX2_areVariables 27 = .ok (.iload 4, 2) := by decide +kernel
theorem dX2_areVariables_29 : decode cX2_areVariables 29 = .ok (.invokevirtual 119, 3) := by decide +kernel
theorem dX2_areVariables_32 : decode cX2_areVariables 32 = .ok (.ifCond .eq 21, 3) := by decide +kernel
theorem dX2_areVariables_35 : decode cX2_areVariables 35 = .ok (.iload_n 1, 1) := by decide +kernel
theorem dX2_areVariables_36 : decode cX2_areVariables 36 = .ok (.iconst 4, 1) := by decide +kernel
theorem dX2_areVariables_37 : decode cX2_areVariables 37 = .ok (.if_icmp .lt 12, 3) := by decide +kernel
theorem dX2_areVariables_40 : decode cX2_areVariables 40 = .ok (.aload_n 0, 1) := by decide +kernel
theorem dX2_areVariables_41 : decode cX2_areVariables 41 = .ok (.iload 5, 2) := by decide +kernel
theorem dX2_areVariables_43 : decode cX2_areVariables 43 = .ok (.invokevirtual 119, 3) := by decide +kernel
theorem dX2_areVariables_46 : decode cX2_areVariables 46 = .ok (.ifCond .eq 7, 3) := by decide +kernel
theorem dX2_areVariables_49 : decode cX2_areVariables 49 = .ok (.iconst 1, 1) := by decide +kernel
theorem dX2_areVariables_50 : decode cX2_areVariables 50 = .ok (.goto 4, 3) := by decide +kernel
theorem dX2_areVariables_53 : decode cX2_areVariables 53 = .ok (.iconst 0, 1) := by decide +kernel
theorem dX2_areVariables_54 : decode cX2_areVariables 54 = .ok (.ireturn, 1) := by decide +kernel
theorem dX2_addConstraint_0 : decode cX2_addConstraint 0 = .ok (.aload_n 0, 1) := by decide +kernel
theorem dX2_addConstraint_1 : decode cX2_addConstraint 1 = .ok (.iload_n 1, 1) := by decide +kernel
theorem dX2_addConstraint_2 : decode cX2_addConstraint 2 = .ok (.invokevirtual 78, 3) := by decide +kernel
theorem dX2_addConstraint_5 : decode cX2_addConstraint 5 = .ok (.ifCond .eq 22, 3) := by decide +kernel
theorem dX2_addConstraint_8 : decode cX2_addConstraint 8 = .ok (.aload_n 0, 1) := by decide +kernel
theorem dX2_addConstraint_9 : decode cX2_addConstraint 9 = .ok (.aload_n 0, 1) := by decide +kernel
theorem dX2_addConstraint_10 : decode cX2_addConstraint 10 = .ok (.getfield 7, 3) := by decide +kernel
theorem dX2_addConstraint_13 : decode cX2_addConstraint 13 = .ok (.iload_n 1, 1) := by decide +kernel
theorem dX2_addConstraint_14 : decode cX2_addConstraint 14 = .ok (.iaload, 1) := by decide +kernel
theorem dX2_addConstraint_15 : decode cX2_addConstraint 15 = .ok (.iload_n 2, 1) := by decide +kernel
theorem dX2_addConstraint_16 : decode cX2_addConstraint 16 = .ok (.iload_n 3, 1) := by decide +kernel
theorem dX2_addConstraint_17 : decode cX2_addConstraint 17 = .ok (.iload 4, 2) := by decide +kernel
theorem dX2_addConstraint_19 : decode cX2_addConstraint 19 = .ok (.iload 5, 2) := by decide +kernel
theorem dX2_addConstraint_21 : decode cX2_addConstraint 21 = .ok (.invokevirtual 122, 3) := by decide +kernel
theorem dX2_addConstraint_24 : decode cX2_addConstraint 24 = .ok (.ifCond .ne 9, 3) := by decide +kernel
theorem dX2_addConstraint_27 : decode cX2_addConstraint 27 = .ok (.aload_n 0, 1) := by decide +kernel
theorem dX2_addConstraint_28 : decode cX2_addConstraint 28 = .ok (.iconst 1, 1) := by decide +kernel
theorem dX2_addConstraint_29 : decode cX2_addConstraint 29 = .ok (.invokevirtual 56, 3) := by decide +kernel
theorem dX2_addConstraint_32 : decode cX2_addConstraint 32 = .ok (.ireturn, 1) := by decide +kernel
theorem dX2_addConstraint_33 : decode cX2_addConstraint 33 = .ok (.aload_n 0, 1) := by decide +kernel
theorem dX2_addConstraint_34 : decode cX2_addConstraint 34 = .ok (.getfield 84, 3) := by decide +kernel
theorem dX2_addConstraint_37 : decode cX2_addConstraint 37 = .ok (.bipush 20, 2) := by decide +kernel
theorem dX2_addConstraint_39 : decode cX2_addConstraint 39 = .ok (.if_icmp .ne 9, 3) := by decide +kernel
theorem dX2_addConstraint_42 : decode cX2_addConstraint 42 = .ok (.aload_n 0, 1) := by decide +kernel
theorem dX2_addConstraint_43 : decode cX2_addConstraint 43 = .ok (.iconst 2, 1) := by decide +kernel
theorem dX2_addConstraint_44 : decode cX2_addConstraint 44 = .ok (.invokevirtual 56, 3) := by decide +kernel
theorem dX2_addConstraint_47 : decode cX2_addConstraint 47 = .ok (.ireturn, 1) := by decide +kernel
theorem dX2_addConstraint_48 : decode cX2_addConstraint 48 = .ok (.aload_n 0, 1) := by decide +kernel
theorem dX2_addConstraint_49 : decode cX2_addConstraint 49 = .ok (.iconst 0, 1) := by decide +kernel
theorem dX2_addConstraint_50 : decode cX2_addConstraint 50 = .ok (.putfield 46, 3) := by decide +kernel
theorem dX2_addConstraint_53 : decode cX2_addConstraint 53 = .ok (.iconst 4, 1) := by decide +kernel
theorem dX2_addConstraint_54 : decode cX2_addConstraint 54 = .ok (.aload_n 0, 1) := by decide +kernel
theorem dX2_addConstraint_55 : decode cX2_addConstraint 55 = .ok (.getfield 84, 3) := by decide +kernel
theorem dX2_addConstraint_58 : decode cX2_addConstraint 58 = .ok (.imul, 1) := by decide +kernel
theorem dX2_addConstraint_59 : decode cX2_addConstraint 59 = .ok (.istore 6, 2) := by decide +kernel
theorem dX2_addConstraint_61 : decode cX2_addConstraint 61 = .ok (.aload_n 0, 1) := by decide +kernel
theorem dX2_addConstraint_62 : decode cX2_addConstraint 62 = .ok (.getfield 16, 3) := by decide +kernel
theorem dX2_addConstraint_65 : decode cX2_addConstraint 65 = .ok (.aload_n 0, 1) := by decide +kernel
theorem dX2_addConstraint_66 : decode cX2_addConstraint 66 = .ok (.getfield 84, 3) := by decide +kernel
theorem dX2_addConstraint_69 : decode cX2_addConstraint 69 = .ok (.iload_n 1, 1) := by decide +kernel
theorem dX2_addConstraint_70 : decode cX2_addConstraint 70 = .ok (.iastore, 1) := by decide +kernel
theorem dX2_addConstraint_71 : decode cX2_addConstraint 71 = .ok (.aload_n 0, 1) := by decide +kernel
theorem dX2_addConstraint_72 : decode cX2_addConstraint 72 = .ok (.getfield 19, 3) := by decide +kernel
theorem dX2_addConstraint_75 : decode cX2_addConstraint 75 = .ok (.iload 6, 2) := by decide +kernel
theorem dX2_addConstraint_77 : decode cX2_addConstraint 77 = .ok (.iload_n 2, 1) := by decide +kernel
theorem dX2_addConstraint_78 : decode cX2_addConstraint 78 = .ok (.iastore, 1) := by decide +kernel
theorem dX2_addConstraint_79 : decode cX2_addConstraint 79 = .ok (.aload_n 0, 1) := by decide +kernel
theorem dX2_addConstraint_80 : decode cX2_addConstraint 80 = .ok (.getfield 19, 3) := by decide +kernel
theorem dX2_addConstraint_83 : decode cX2_addConstraint 83 = .ok (.iload 6, 2) := by decide +kernel
theorem dX2_addConstraint_85 : decode cX2_addConstraint 85 = .ok (.iconst 1, 1) := by decide +kernel
theorem dX2_addConstraint_86 : decode cX2_addConstraint 86 = .ok (.iadd, 1) := by decide +kernel
theorem dX2_addConstraint_87 : decode cX2_addConstraint 87 = .ok (.iload_n 3, 1) := by decide +kernel
theorem dX2_addConstraint_88 : decode cX2_addConstraint 88 = .ok (.iastore, 1) := by decide +kernel
theorem dX2_addConstraint_89 : decode cX2_addConstraint 89 = .ok (.aload_n 0, 1) := by decide +kernel
theorem dX2_addConstraint_90 : decode cX2_addConstraint 90 = .ok (.getfield 19, 3) := by decide +kernel
theorem dX2_addConstraint_93 : decode cX2_addConstraint 93 = .ok (.iload 6, 2) := by decide +kernel
theorem dX2_addConstraint_95 : decode cX2_addConstraint 95 = .ok (.iconst 2, 1) := by decide +kernel
theorem dX2_addConstraint_96 : decode cX2_addConstraint 96 = .ok (.iadd, 1) := by decide +kernel
theorem dX2_addConstraint_97 : decode cX2_addConstraint 97 = .ok (.iload 4, 2) := by decide +kernel
theorem dX2_addConstraint_99 : decode cX2_addConstraint 99 = .ok (.iastore, 1) := by decide +kernel
theorem dX2_addConstraint_100 : decode cX2_addConstraint 100 = .ok (.aload_n 0, 1) := by decide +kernel
theorem dX2_addConstraint_101 : decode cX2_addConstraint 101 = .ok (.getfield 19, 3) := by decide +kernel
theorem dX2_addConstraint_104 : decode cX2_addConstraint 104 = .ok (.iload 6, 2) := by decide +kernel
theorem dX2_addConstraint_106 : decode cX2_addConstraint 106 = .ok (.iconst 3, 1) := by decide +kernel
theorem dX2_addConstraint_107 : decode cX2_addConstraint 107 = .ok (.iadd, 1) := by decide +kernel
theorem dX2_addConstraint_108 : decode cX2_addConstraint 108 = .ok (.iload 5, 2) := by decide +kernel
theorem dX2_addConstraint_110 : decode cX2_addConstraint 110 = .ok (.iastore, 1) := by decide +kernel
theorem dX2_addConstraint_111 : decode cX2_addConstraint 111 = .ok (.aload_n 0, 1) := by decide +kernel
theorem dX2_addConstraint_112 : decode cX2_addConstraint 112 = .ok (.dup, 1) := by decide +kernel
theorem dX2_addConstraint_113 : decode cX2_addConstraint 113 = .ok (.getfield 84, 3) := by decide +kernel
theorem dX2_addConstraint_116 : decode cX2_addConstraint 116 = .ok (.iconst 1, 1) := by decide +kernel
theorem dX2_addConstraint_117 : decode cX2_addConstraint 117 = .ok (.iadd, 1) := by decide +kernel
theorem dX2_addConstraint_118 : decode cX2_addConstraint 118 = .ok (.putfield 84, 3) := by decide +kernel
theorem dX2_addConstraint_121 : decode cX2_addConstraint 121 = .ok (.aload_n 0, 1) := by decide +kernel
theorem dX2_addConstraint_122 : decode cX2_addConstraint 122 = .ok (.getfield 84, 3) := by decide +kernel
theorem dX2_addConstraint_125 : decode cX2_addConstraint 125 = .ok (.iconst 1, 1) := by decide +kernel
theorem dX2_addConstraint_126 : decode cX2_addConstraint 126 = .ok (.isub, 1) := by decide +kernel
theorem dX2_addConstraint_127 : decode cX2_addConstraint 127 = .ok (.ireturn, 1) := by decide +kernel
theorem dX2_removeLastConstraint_0 : decode cX2_removeLastConstraint 0 = .ok (.aload_n 0, 1) := by decide +kernel
theorem dX2_removeLastConstraint_1 : decode cX2_removeLastConstraint 1 = .ok (.getfield 84, 3) := by decide +kernel
theorem dX2_removeLastConstraint_4 : decode cX2_removeLastConstraint 4 = .ok (.ifCond .ne 9, 3) := by decide +kernel
theorem dX2_removeLastConstraint_7 : decode cX2_removeLastConstraint 7 = .ok (.aload_n 0, 1) := by decide +kernel
theorem dX2_removeLastConstraint_8 : decode cX2_removeLastConstraint 8 = .ok (.iconst 1, 1) := by decide +kernel
theorem dX2_removeLastConstraint_9 : decode cX2_removeLastConstraint 9 = .ok (.invokevirtual 56, 3) := by decide +kernel
theorem dX2_removeLastConstraint_12 : decode cX2_removeLastConstraint 12 = .ok (.ireturn, 1) := by decide +kernel
theorem dX2_removeLastConstraint_13 : decode cX2_removeLastConstraint 13 = .ok (.aload_n 0, 1) := by decide +kernel
theorem dX2_removeLastConstraint_14 : decode cX2_removeLastConstraint 14 = .ok (.iconst 0, 1) := by decide +kernel
theorem dX2_removeLastConstraint_15 : decode cX2_removeLastConstraint 15 = .ok (.putfield 46, 3) := by decide +kernel
theorem dX2_removeLastConstraint_18 : decode cX2_removeLastConstraint 18 = .ok (.aload_n 0, 1) := by decide +kernel
theorem dX2_removeLastConstraint_19 : decode cX2_removeLastConstraint 19 = .ok (.dup, 1) := by decide +kernel
theorem dX2_removeLastConstraint_20 : decode cX2_removeLastConstraint 20 = .ok (.getfield 84, 3) := by decide +kernel
theorem dX2_removeLastConstraint_23 : decode cX2_removeLastConstraint 23 = .ok (.iconst 1, 1) := by decide +kernel
theorem dX2_removeLastConstraint_24 : decode cX2_removeLastConstraint 24 = .ok (.isub, 1) := by decide +kernel
theorem dX2_removeLastConstraint_25 : decode cX2_removeLastConstraint 25 = .ok (.putfield 84, 3) := by decide +kernel
theorem dX2_removeLastConstraint_28 : decode cX2_removeLastConstraint 28 = .ok (.aload_n 0, 1) := by decide +kernel
theorem dX2_removeLastConstraint_29 : decode cX2_removeLastConstraint 29 = .ok (.getfield 84, 3) := by decide +kernel
theorem dX2_removeLastConstraint_32 : decode cX2_removeLastConstraint 32 = .ok (.ireturn, 1) := by decide +kernel
theorem dX2_isSatisfied_0 : decode cX2_isSatisfied 0 = .ok (.iconst 0, 1) := by decide +kernel
theorem dX2_isSatisfied_1 : decode cX2_isSatisfied 1 = .ok (.istore_n 3, 1) := by decide +kernel
theorem dX2_isSatisfied_2 : decode cX2_isSatisfied 2 = .ok (.iconst 0, 1) := by decide +kernel
theorem dX2_isSatisfied_3 : decode cX2_isSatisfied 3 = .ok (.istore 4, 2) := by decide +kernel
theorem dX2_isSatisfied_5 : decode cX2_isSatisfied 5 = .ok (.iload 4, 2) := by decide +kernel
theorem dX2_isSatisfied_7 : decode cX2_isSatisfied 7 = .ok (.aload_n 0, 1) := by decide +kernel
theorem dX2_isSatisfied_8 : decode cX2_isSatisfied 8 = .ok (.getfield 7, 3) := by decide +kernel
theorem dX2_isSatisfied_11 : decode cX2_isSatisfied 11 = .ok (.aload_n 0, 1) := by decide +kernel
theorem dX2_isSatisfied_12 : decode cX2_isSatisfied 12 = .ok (.getfield 16, 3) := by decide +kernel
theorem dX2_isSatisfied_15 : decode cX2_isSatisfied 15 = .ok (.iload_n 1, 1) := by decide +kernel
theorem dX2_isSatisfied_16 : decode cX2_isSatisfied 16 = .ok (.iaload, 1) := by decide +kernel
theorem dX2_isSatisfied_17 : decode cX2_isSatisfied 17 = .ok (.iaload, 1) := by decide +kernel
theorem dX2_isSatisfied_18 : decode cX2_isSatisfied 18 = .ok (.if_icmp .ge 30, 3) := by decide +kernel
theorem dX2_isSatisfied_21 : decode cX2_isSatisfied 21 = .ok (.iload_n 3, 1) := by decide +kernel
theorem dX2_isSatisfied_22 : decode cX2_isSatisfied 22 = .ok (.iload_n 2, 1) := by decide +kernel
theorem dX2_isSatisfied_23 : decode cX2_isSatisfied 23 = .ok (.aload_n 0, 1) := by decide +kernel
theorem dX2_isSatisfied_24 : decode cX2_isSatisfied 24 = .ok (.getfield 19, 3) := by decide +kernel
theorem dX2_isSatisfied_27 : decode cX2_isSatisfied 27 = .ok (.iconst 4, 1) := by decide +kernel
theorem dX2_isSatisfied_28 : decode cX2_isSatisfied 28 = .ok (.iload_n 1, 1) := by decide +kernel
theorem dX2_isSatisfied_29 : decode cX2_isSatisfied 29 = .ok (.imul, 1) := by decide +kernel
theorem dX2_isSatisfied_30 : decode cX2_isSatisfied 30 = .ok (.iload 4, 2) := by decide +kernel
theorem dX2_isSatisfied_32 : decode cX2_isSatisfied 32 = .ok (.iadd, 1) := by decide +kernel
theorem dX2_isSatisfied_33 : decode cX2_isSatisfied 33 = .ok (.iaload, 1) := by decide +kernel
theorem dX2_isSatisfied_34 : decode cX2_isSatisfied 34 = .ok (.ishr, 1) := by decide +kernel
theorem dX2_isSatisfied_35 : decode cX2_isSatisfied 35 = .ok (.iconst 1, 1) := by decide +kernel
theorem dX2_isSatisfied_36 : decode cX2_isSatisfied 36 = .ok (.iand, 1) := by decide +kernel
theorem dX2_isSatisfied_37 : decode cX2_isSatisfied 37 = .ok (.iload 4, 2) := by decide +kernel
theorem dX2_isSatisfied_39 : decode cX2_isSatisfied 39 = .ok (.ishl, 1) := by decide +kernel
theorem dX2_isSatisfied_40 : decode cX2_isSatisfied 40 = .ok (.ior, 1) := by decide +kernel
theorem dX2_isSatisfied_41 : decode cX2_isSatisfied 41 = .ok (.istore_n 3, 1) := by decide +kernel
theorem dX2_isSatisfied_42 : decode cX2_isSatisfied 42 = .ok (.iinc 4 1, 3) := by decide +kernel
theorem dX2_isSatisfied_45 : decode cX2_isSatisfied 45 = .ok (.goto (-40), 3) := by decide +kernel
theorem dX2_isSatisfied_48 : decode cX2_isSatisfied 48 = .ok (.aload_n 0, 1) := by decide +kernel
theorem dX2_isSatisfied_49 : decode cX2_isSatisfied 49 = .ok (.getfield 13, 3) := by decide +kernel
theorem dX2_isSatisfied_52 : decode cX2_isSatisfied 52 = .ok (.aload_n 0, 1) := by decide +kernel
theorem dX2_isSatisfied_53 : decode cX2_isSatisfied 53 = .ok (.getfield 16, 3) := by decide +kernel
theorem dX2_isSatisfied_56 : decode cX2_isSatisfied 56 = .ok (.iload_n 1, 1) := by decide +kernel
theorem dX2_isSatisfied_57 : decode cX2_isSatisfied 57 = .ok (.iaload, 1) := by decide +kernel
theorem dX2_isSatisfied_58 : decode cX2_isSatisfied 58 = .ok (.iaload, 1) := by decide +kernel
theorem dX2_isSatisfied_59 : decode cX2_isSatisfied 59 = .ok (.iload_n 3, 1) := by decide +kernel
theorem dX2_isSatisfied_60 : decode cX2_isSatisfied 60 = .ok (.ishr, 1) := by decide +kernel
theorem dX2_isSatisfied_61 : decode cX2_isSatisfied 61 = .ok (.iconst 1, 1) := by decide +kernel
theorem dX2_isSatisfied_62 : decode cX2_isSatisfied 62 = .ok (.iand, 1) := by decide +kernel
theorem dX2_isSatisfied_63 : decode cX2_isSatisfied 63 = .ok (.iconst 1, 1) := by decide +kernel
theorem dX2_isSatisfied_64 : decode cX2_isSatisfied 64 = .ok (.if_icmp .ne 7, 3) := by decide +kernel
theorem dX2_isSatisfied_67 : decode cX2_isSatisfied 67 = .ok (.iconst 1, 1) := by decide +kernel
theorem dX2_isSatisfied_68 : decode cX2_isSatisfied 68 = .ok (.goto 4, 3) := by decide +kernel
theorem dX2_isSatisfied_71 : decode cX2_isSatisfied 71 = .ok (.iconst 0, 1) := by decide +kernel
theorem dX2_isSatisfied_72 : decode cX2_isSatisfied 72 = .ok (.ireturn, 1) := by decide +kernel
theorem dX2_solves_0 : decode cX2_solves 0 = .ok (.iconst 0, 1) := by decide +kernel
theorem dX2_solves_1 : decode cX2_solves 1 = .ok (.istore_n 3, 1) := by decide +kernel
theorem dX2_solves_2 : decode cX2_solves 2 = .ok (.iload_n 3, 1) := by decide +kernel
theorem dX2_solves_3 : decode cX2_solves 3 = .ok (.aload_n 0, 1) := by decide +kernel
theorem dX2_solves_4 : decode cX2_solves 4 = .ok (.getfield 84, 3) := by decide +kernel
theorem dX2_solves_7 : decode cX2_solves 7 = .ok (.if_icmp .ge 25, 3) := by decide +kernel
theorem dX2_solves_10 : decode cX2_solves 10 = .ok (.iload_n 3, 1) := by decide +kernel
theorem dX2_solves_11 : decode cX2_solves 11 = .ok (.iload_n 2, 1) := by decide +kernel
theorem dX2_solves_12 : decode cX2_solves 12 = .ok (.if_icmp .eq 14, 3) := by decide +kernel
theorem dX2_solves_15 : decode cX2_solves 15 = .ok (.aload_n 0, 1) := by decide +kernel
theorem dX2_solves_16 : decode cX2_solves 16 = .ok (.iload_n 3, 1) := by decide +kernel
theorem dX2_solves_17 : decode cX2_solves 17 = .ok (.iload_n 1, 1) := by decide +kernel
theorem dX2_solves_18 : decode cX2_solves 18 = .ok (.invokevirtual 126, 3) := by decide +kernel
theorem dX2_solves_21 : decode cX2_solves 21 = .ok (.ifCond .ne 5, 3) := by decide +kernel
theorem dX2_solves_24 : decode cX2_solves 24 = .ok (.iconst 0, 1) := by decide +kernel
theorem dX2_solves_25 : decode cX2_solves 25 = .ok (.ireturn, 1) := by decide +kernel
theorem dX2_solves_26 : decode cX2_solves 26 = .ok (.iinc 3 1, 3) := by decide +kernel
theorem dX2_solves_29 : decode cX2_solves 29 = .ok (.goto (-27), 3) := by decide +kernel
theorem dX2_solves_32 : decode cX2_solves 32 = .ok (.iconst 1, 1) := by decide +kernel
theorem dX2_solves_33 : decode cX2_solves 33 = .ok (.ireturn, 1) := by decide +kernel
theorem dX2_solutions_0 : decode cX2_solutions 0 = .ok (.iconst 0, 1) := by decide +kernel
theorem dX2_solutions_1 : decode cX2_solutions 1 = .ok (.istore_n 1, 1) := by decide +kernel
theorem dX2_solutions_2 : decode cX2_solutions 2 = .ok (.iconst 0, 1) := by decide +kernel
theorem dX2_solutions_3 : decode cX2_solutions 3 = .ok (.istore_n 2, 1) := by decide +kernel
theorem dX2_solutions_4 : decode cX2_solutions 4 = .ok (.iload_n 2, 1) := by decide +kernel
theorem dX2_solutions_5 : decode cX2_solutions 5 = .ok (.iconst 1, 1) := by decide +kernel
theorem dX2_solutions_6 : decode cX2_solutions 6 = .ok (.aload_n 0, 1) := by decide +kernel
theorem dX2_solutions_7 : decode cX2_solutions 7 = .ok (.getfield 22, 3) := by decide +kernel
theorem dX2_solutions_10 : decode cX2_solutions 10 = .ok (.ishl, 1) := by decide +kernel
theorem dX2_solutions_11 : decode cX2_solutions 11 = .ok (.if_icmp .ge 26, 3) := by decide +kernel
theorem dX2_solutions_14 : decode cX2_solutions 14 = .ok (.iload_n 1, 1) := by decide +kernel
theorem dX2_solutions_15 : decode cX2_solutions 15 = .ok (.aload_n 0, 1) := by decide +kernel
theorem dX2_solutions_16 : decode cX2_solutions 16 = .ok (.iload_n 2, 1) := by decide +kernel
theorem dX2_solutions_17 : decode cX2_solutions 17 = .ok (.iconst (-1), 1) := by decide +kernel
theorem dX2_solutions_18 : decode cX2_solutions 18 = .ok (.invokevirtual 129, 3) := by decide +kernel
theorem dX2_solutions_21 : decode cX2_solutions 21 = .ok (.ifCond .eq 7, 3) := by decide +kernel
theorem dX2_solutions_24 : decode cX2_solutions 24 = .ok (.iconst 1, 1) := by decide +kernel
theorem dX2_solutions_25 : decode cX2_solutions 25 = .ok (.goto 4, 3) := by decide +kernel
theorem dX2_solutions_28 : decode cX2_solutions 28 = .ok (.iconst 0, 1) := by decide +kernel
theorem dX2_solutions_29 : decode cX2_solutions 29 = .ok (.iadd, 1) := by decide +kernel
theorem dX2_solutions_30 : decode cX2_solutions 30 = .ok (.istore_n 1, 1) := by decide +kernel
theorem dX2_solutions_31 : decode cX2_solutions 31 = .ok (.iinc 2 1, 3) := by decide +kernel
theorem dX2_solutions_34 : decode cX2_solutions 34 = .ok (.goto (-30), 3) := by decide +kernel
theorem dX2_solutions_37 : decode cX2_solutions 37 = .ok (.iload_n 1, 1) := by decide +kernel
theorem dX2_solutions_38 : decode cX2_solutions 38 = .ok (.ireturn, 1) := by decide +kernel
theorem dX2_solutionCount_0 : decode cX2_solutionCount 0 = .ok (.aload_n 0, 1) := by decide +kernel
theorem dX2_solutionCount_1 : decode cX2_solutionCount 1 = .ok (.iconst 0, 1) := by decide +kernel
theorem dX2_solutionCount_2 : decode cX2_solutionCount 2 = .ok (.putfield 46, 3) := by decide +kernel
theorem dX2_solutionCount_5 : decode cX2_solutionCount 5 = .ok (.aload_n 0, 1) := by decide +kernel
theorem dX2_solutionCount_6 : decode cX2_solutionCount 6 = .ok (.invokevirtual 132, 3) := by decide +kernel
theorem dX2_solutionCount_9 : decode cX2_solutionCount 9 = .ok (.ireturn, 1) := by decide +kernel
theorem dX2_solution_0 : decode cX2_solution 0 = .ok (.aload_n 0, 1) := by decide +kernel
theorem dX2_solution_1 : decode cX2_solution 1 = .ok (.iconst 0, 1) := by decide +kernel
theorem dX2_solution_2 : decode cX2_solution 2 = .ok (.putfield 46, 3) := by decide +kernel
theorem dX2_solution_5 : decode cX2_solution 5 = .ok (.iload_n 1, 1) := by decide +kernel
theorem dX2_solution_6 : decode cX2_solution 6 = .ok (.istore_n 2, 1) := by decide +kernel
theorem dX2_solution_7 : decode cX2_solution 7 = .ok (.iconst 0, 1) := by decide +kernel
theorem dX2_solution_8 : decode cX2_solution 8 = .ok (.istore_n 3, 1) := by decide +kernel
theorem dX2_solution_9 : decode cX2_solution 9 = .ok (.iload_n 3, 1) := by decide +kernel
theorem dX2_solution_10 : decode cX2_solution 10 = .ok (.iconst 1, 1) := by decide +kernel
theorem dX2_solution_11 : decode cX2_solution 11 = .ok (.aload_n 0, 1) := by decide +kernel
theorem dX2_solution_12 : decode cX2_solution 12 = .ok (.getfield 22, 3) := by decide +kernel
theorem dX2_solution_15 : decode cX2_solution 15 = .ok (.ishl, 1) := by decide +kernel
theorem dX2_solution_16 : decode cX2_solution 16 = .ok (.if_icmp .ge 34, 3) := by decide +kernel
theorem dX2_solution_19 : decode cX2_solution 19 = .ok (.iload_n 2, 1) := by decide +kernel
theorem dX2_solution_20 : decode cX2_solution 20 = .ok (.ifCond .lt 30, 3) := by decide +kernel
theorem dX2_solution_23 : decode cX2_solution 23 = .ok (.aload_n 0, 1) := by decide +kernel
theorem dX2_solution_24 : decode cX2_solution 24 = .ok (.iload_n 3, 1) := by decide +kernel
theorem dX2_solution_25 : decode cX2_solution 25 = .ok (.iconst (-1), 1) := by decide +kernel
theorem dX2_solution_26 : decode cX2_solution 26 = .ok (.invokevirtual 129, 3) := by decide +kernel
theorem dX2_solution_29 : decode cX2_solution 29 = .ok (.ifCond .ne 6, 3) := by decide +kernel
theorem dX2_solution_32 : decode cX2_solution 32 = .ok (.goto 12, 3) := by decide +kernel
theorem dX2_solution_35 : decode cX2_solution 35 = .ok (.iload_n 2, 1) := by decide +kernel
theorem dX2_solution_36 : decode cX2_solution 36 = .ok (.ifCond .ne 5, 3) := by decide +kernel
theorem dX2_solution_39 : decode cX2_solution 39 = .ok (.iload_n 3, 1) := by decide +kernel
theorem dX2_solution_40 : decode cX2_solution 40 = .ok (.ireturn, 1) := by decide +kernel
theorem dX2_solution_41 : decode cX2_solution 41 = .ok (.iinc 2 (-1), 3) := by decide +kernel
theorem dX2_solution_44 : decode cX2_solution 44 = .ok (.iinc 3 1, 3) := by decide +kernel
theorem dX2_solution_47 : decode cX2_solution 47 = .ok (.goto (-38), 3) := by decide +kernel
theorem dX2_solution_50 : decode cX2_solution 50 = .ok (.aload_n 0, 1) := by decide +kernel
theorem dX2_solution_51 : decode cX2_solution 51 = .ok (.iconst 1, 1) := by decide +kernel
theorem dX2_solution_52 : decode cX2_solution 52 = .ok (.invokevirtual 56, 3) := by decide +kernel
theorem dX2_solution_55 : decode cX2_solution 55 = .ok (.ireturn, 1) := by decide +kernel
theorem dX2_doesImply_0 : decode cX2_doesImply 0 = .ok (.iconst 0, 1) := by decide +kernel
theorem dX2_doesImply_1 : decode cX2_doesImply 1 = .ok (.istore 5, 2) := by decide +kernel
theorem dX2_doesImply_3 : decode cX2_doesImply 3 = .ok (.iload 5, 2) := by decide +kernel
theorem dX2_doesImply_5 : decode cX2_doesImply 5 = .ok (.iconst 1, 1) := by decide +kernel
theorem dX2_doesImply_6 : decode cX2_doesImply 6 = .ok (.aload_n 0, 1) := by decide +kernel
theorem dX2_doesImply_7 : decode cX2_doesImply 7 = .ok (.getfield 22, 3) := by decide +kernel
theorem dX2_doesImply_10 : decode cX2_doesImply 10 = .ok (.ishl, 1) := by decide +kernel
theorem dX2_doesImply_11 : decode cX2_doesImply 11 = .ok (.if_icmp .ge 42, 3) := by decide +kernel
theorem dX2_doesImply_14 : decode cX2_doesImply 14 = .ok (.iload 5, 2) := by decide +kernel
theorem dX2_doesImply_16 : decode cX2_doesImply 16 = .ok (.iload_n 1, 1) := by decide +kernel
theorem dX2_doesImply_17 : decode cX2_doesImply 17 = .ok (.ishr, 1) := by decide +kernel
theorem dX2_doesImply_18 : decode cX2_doesImply 18 = .ok (.iconst 1, 1) := by decide +kernel
theorem dX2_doesImply_19 : decode cX2_doesImply 19 = .ok (.iand, 1) := by decide +kernel
theorem dX2_doesImply_20 : decode cX2_doesImply 20 = .ok (.iload_n 2, 1) := by decide +kernel
theorem dX2_doesImply_21 : decode cX2_doesImply 21 = .ok (.if_icmp .ne 26, 3) := by decide +kernel
theorem dX2_doesImply_24 : decode cX2_doesImply 24 = .ok (.iload 5, 2) := by decide +kernel
theorem dX2_doesImply_26 : decode cX2_doesImply 26 = .ok (.iload_n 3, 1) := by decide +kernel
theorem dX2_doesImply_27 : decode cX2_doesImply 27 = .ok (.ishr, 1) := by decide +kernel
theorem dX2_doesImply_28 : decode cX2_doesImply 28 = .ok (.iconst 1, 1) := by decide +kernel
theorem dX2_doesImply_29 : decode cX2_doesImply 29 = .ok (.iand, 1) := by decide +kernel
theorem dX2_doesImply_30 : decode cX2_doesImply 30 = .ok (.iload 4, 2) := by decide +kernel
theorem dX2_doesImply_32 : decode cX2_doesImply 32 = .ok (.if_icmp .eq 15, 3) := by decide +kernel
theorem dX2_doesImply_35 : decode cX2_doesImply 35 = .ok (.aload_n 0, 1) := by decide +kernel
theorem dX2_doesImply_36 : decode cX2_doesImply 36 = .ok (.iload 5, 2) := by decide +kernel
theorem dX2_doesImply_38 : decode cX2_doesImply 38 = .ok (.iconst (-1), 1) := by decide +kernel
theorem dX2_doesImply_39 : decode cX2_doesImply 39 = .ok (.invokevirtual 129, 3) := by decide +kernel
theorem dX2_doesImply_42 : decode cX2_doesImply 42 = .ok (.ifCond .eq 5, 3) := by decide +kernel
theorem dX2_doesImply_45 : decode cX2_doesImply 45 = .ok (.iconst 0, 1) := by decide +kernel
theorem dX2_doesImply_46 : decode cX2_doesImply 46 = .ok (.ireturn, 1) := by decide +kernel
theorem dX2_doesImply_47 : decode cX2_doesImply 47 = .ok (.iinc 5 1, 3) := by decide +kernel
theorem dX2_doesImply_50 : decode cX2_doesImply 50 = .ok (.goto (-47), 3) := by decide +kernel
theorem dX2_doesImply_53 : decode cX2_doesImply 53 = .ok (.iconst 1, 1) := by decide +kernel
theorem dX2_doesImply_54 : decode cX2_doesImply 54 = .ok (.ireturn, 1) := by decide +kernel
theorem dX2_isForced_0 : decode cX2_isForced 0 = .ok (.aload_n 0, 1) := by decide +kernel
theorem dX2_isForced_1 : decode cX2_isForced 1 = .ok (.iload_n 1, 1) := by decide +kernel
theorem dX2_isForced_2 : decode cX2_isForced 2 = .ok (.invokevirtual 119, 3) := by decide +kernel
theorem dX2_isForced_5 : decode cX2_isForced 5 = .ok (.ifCond .ne 9, 3) := by decide +kernel
theorem dX2_isForced_8 : decode cX2_isForced 8 = .ok (.aload_n 0, 1) := by decide +kernel
theorem dX2_isForced_9 : decode cX2_isForced 9 = .ok (.iconst 1, 1) := by decide +kernel
theorem dX2_isForced_10 : decode cX2_isForced 10 = .ok (.invokevirtual 101, 3) := by decide +kernel
theorem dX2_isForced_13 : decode cX2_isForced 13 = .ok (.ireturn, 1) := by decide +kernel
theorem dX2_isForced_14 : decode cX2_isForced 14 = .ok (.iload_n 2, 1) := by decide +kernel
theorem dX2_isForced_15 : decode cX2_isForced 15 = .ok (.invokestatic 71, 3) := by decide +kernel
theorem dX2_isForced_18 : decode cX2_isForced 18 = .ok (.ifCond .ne 9, 3) := by decide +kernel
theorem dX2_isForced_21 : decode cX2_isForced 21 = .ok (.aload_n 0, 1) := by decide +kernel
theorem dX2_isForced_22 : decode cX2_isForced 22 = .ok (.iconst 2, 1) := by decide +kernel
theorem dX2_isForced_23 : decode cX2_isForced 23 = .ok (.invokevirtual 101, 3) := by decide +kernel
theorem dX2_isForced_26 : decode cX2_isForced 26 = .ok (.ireturn, 1) := by decide +kernel
theorem dX2_isForced_27 : decode cX2_isForced 27 = .ok (.aload_n 0, 1) := by decide +kernel
theorem dX2_isForced_28 : decode cX2_isForced 28 = .ok (.iconst 0, 1) := by decide +kernel
theorem dX2_isForced_29 : decode cX2_isForced 29 = .ok (.putfield 46, 3) := by decide +kernel
theorem dX2_isForced_32 : decode cX2_isForced 32 = .ok (.aload_n 0, 1) := by decide +kernel
theorem dX2_isForced_33 : decode cX2_isForced 33 = .ok (.iload_n 1, 1) := by decide +kernel
theorem dX2_isForced_34 : decode cX2_isForced 34 = .ok (.iconst 1, 1) := by decide +kernel
theorem dX2_isForced_35 : decode cX2_isForced 35 = .ok (.iload_n 2, 1) := by decide +kernel
theorem dX2_isForced_36 : decode cX2_isForced 36 = .ok (.isub, 1) := by decide +kernel
theorem dX2_isForced_37 : decode cX2_isForced 37 = .ok (.iload_n 1, 1) := by decide +kernel
theorem dX2_isForced_38 : decode cX2_isForced 38 = .ok (.iload_n 2, 1) := by decide +kernel
theorem dX2_isForced_39 : decode cX2_isForced 39 = .ok (.invokevirtual 136, 3) := by decide +kernel
theorem dX2_isForced_42 : decode cX2_isForced 42 = .ok (.ireturn, 1) := by decide +kernel
theorem dX2_leastSolution_0 : decode cX2_leastSolution 0 = .ok (.aload_n 0, 1) := by decide +kernel
theorem dX2_leastSolution_1 : decode cX2_leastSolution 1 = .ok (.iconst 2, 1) := by decide +kernel
theorem dX2_leastSolution_2 : decode cX2_leastSolution 2 = .ok (.invokevirtual 116, 3) := by decide +kernel
theorem dX2_leastSolution_5 : decode cX2_leastSolution 5 = .ok (.ifCond .ne 9, 3) := by decide +kernel
theorem dX2_leastSolution_8 : decode cX2_leastSolution 8 = .ok (.aload_n 0, 1) := by decide +kernel
theorem dX2_leastSolution_9 : decode cX2_leastSolution 9 = .ok (.iconst 1, 1) := by decide +kernel
theorem dX2_leastSolution_10 : decode cX2_leastSolution 10 = .ok (.invokevirtual 56, 3) := by decide +kernel
theorem dX2_leastSolution_13 : decode cX2_leastSolution 13 = .ok (.ireturn, 1) := by decide +kernel
theorem dX2_leastSolution_14 : decode cX2_leastSolution 14 = .ok (.aload_n 0, 1) := by decide +kernel
theorem dX2_leastSolution_15 : decode cX2_leastSolution 15 = .ok (.invokevirtual 132, 3) := by decide +kernel
theorem dX2_leastSolution_18 : decode cX2_leastSolution 18 = .ok (.ifCond .ne 9, 3) := by decide +kernel
theorem dX2_leastSolution_21 : decode cX2_leastSolution 21 = .ok (.aload_n 0, 1) := by decide +kernel
theorem dX2_leastSolution_22 : decode cX2_leastSolution 22 = .ok (.iconst 2, 1) := by decide +kernel
theorem dX2_leastSolution_23 : decode cX2_leastSolution 23 = .ok (.invokevirtual 56, 3) := by decide +kernel
theorem dX2_leastSolution_26 : decode cX2_leastSolution 26 = .ok (.ireturn, 1) := by decide +kernel
theorem dX2_leastSolution_27 : decode cX2_leastSolution 27 = .ok (.aload_n 0, 1) := by decide +kernel
theorem dX2_leastSolution_28 : decode cX2_leastSolution 28 = .ok (.iconst 0, 1) := by decide +kernel
theorem dX2_leastSolution_29 : decode cX2_leastSolution 29 = .ok (.putfield 46, 3) := by decide +kernel
theorem dX2_leastSolution_32 : decode cX2_leastSolution 32 = .ok (.iconst 1, 1) := by decide +kernel
theorem dX2_leastSolution_33 : decode cX2_leastSolution 33 = .ok (.aload_n 0, 1) := by decide +kernel
theorem dX2_leastSolution_34 : decode cX2_leastSolution 34 = .ok (.getfield 22, 3) := by decide +kernel
theorem dX2_leastSolution_37 : decode cX2_leastSolution 37 = .ok (.ishl, 1) := by decide +kernel
theorem dX2_leastSolution_38 : decode cX2_leastSolution 38 = .ok (.iconst 1, 1) := by decide +kernel
theorem dX2_leastSolution_39 : decode cX2_leastSolution 39 = .ok (.isub, 1) := by decide +kernel
theorem dX2_leastSolution_40 : decode cX2_leastSolution 40 = .ok (.istore_n 1, 1) := by decide +kernel
theorem dX2_leastSolution_41 : decode cX2_leastSolution 41 = .ok (.iconst 0, 1) := by decide +kernel
theorem dX2_leastSolution_42 : decode cX2_leastSolution 42 = .ok (.istore_n 2, 1) := by decide +kernel
theorem dX2_leastSolution_43 : decode cX2_leastSolution 43 = .ok (.iload_n 2, 1) := by decide +kernel
theorem dX2_leastSolution_44 : decode cX2_leastSolution 44 = .ok (.iconst 1, 1) := by decide +kernel
theorem dX2_leastSolution_45 : decode cX2_leastSolution 45 = .ok (.aload_n 0, 1) := by decide +kernel
theorem dX2_leastSolution_46 : decode cX2_leastSolution 46 = .ok (.getfield 22, 3) := by decide +kernel
theorem dX2_leastSolution_49 : decode cX2_leastSolution 49 = .ok (.ishl, 1) := by decide +kernel
theorem dX2_leastSolution_50 : decode cX2_leastSolution 50 = .ok (.if_icmp .ge 26, 3) := by decide +kernel
theorem dX2_leastSolution_53 : decode cX2_leastSolution 53 = .ok (.iload_n 1, 1) := by decide +kernel
theorem dX2_leastSolution_54 : decode cX2_leastSolution 54 = .ok (.aload_n 0, 1) := by decide +kernel
theorem dX2_leastSolution_55 : decode cX2_leastSolution 55 = .ok (.iload_n 2, 1) := by decide +kernel
theorem dX2_leastSolution_56 : decode cX2_leastSolution 56 = .ok (.iconst (-1), 1) := by decide +kernel
theorem dX2_leastSolution_57 : decode cX2_leastSolution 57 = .ok (.invokevirtual 129, 3) := by decide +kernel
theorem dX2_leastSolution_60 : decode cX2_leastSolution 60 = .ok (.ifCond .eq 7, 3) := by decide +kernel
theorem dX2_leastSolution_63 : decode cX2_leastSolution 63 = .ok (.iload_n 2, 1) := by decide +kernel
theorem dX2_leastSolution_64 : decode cX2_leastSolution 64 = .ok (.goto 4, 3) := by decide +kernel
theorem dX2_leastSolution_67 : decode cX2_leastSolution 67 = .ok (.iconst (-1), 1) := by decide +kernel
theorem dX2_leastSolution_68 : decode cX2_leastSolution 68 = .ok (.iand, 1) := by decide +kernel
theorem dX2_leastSolution_69 : decode cX2_leastSolution 69 = .ok (.istore_n 1, 1) := by decide +kernel
theorem dX2_leastSolution_70 : decode cX2_leastSolution 70 = .ok (.iinc 2 1, 3) := by decide +kernel
theorem dX2_leastSolution_73 : decode cX2_leastSolution 73 = .ok (.goto (-30), 3) := by decide +kernel
theorem dX2_leastSolution_76 : decode cX2_leastSolution 76 = .ok (.iload_n 1, 1) := by decide +kernel
theorem dX2_leastSolution_77 : decode cX2_leastSolution 77 = .ok (.ireturn, 1) := by decide +kernel
theorem dX2_greatestSolution_0 : decode cX2_greatestSolution 0 = .ok (.aload_n 0, 1) := by decide +kernel
theorem dX2_greatestSolution_1 : decode cX2_greatestSolution 1 = .ok (.iconst 3, 1) := by decide +kernel
theorem dX2_greatestSolution_2 : decode cX2_greatestSolution 2 = .ok (.invokevirtual 116, 3) := by decide +kernel
theorem dX2_greatestSolution_5 : decode cX2_greatestSolution 5 = .ok (.ifCond .ne 9, 3) := by decide +kernel
theorem dX2_greatestSolution_8 : decode cX2_greatestSolution 8 = .ok (.aload_n 0, 1) := by decide +kernel
theorem dX2_greatestSolution_9 : decode cX2_greatestSolution 9 = .ok (.iconst 1, 1) := by decide +kernel
theorem dX2_greatestSolution_10 : decode cX2_greatestSolution 10 = .ok (.invokevirtual 56, 3) := by decide +kernel
theorem dX2_greatestSolution_13 : decode cX2_greatestSolution 13 = .ok (.ireturn, 1) := by decide +kernel
theorem dX2_greatestSolution_14 : decode cX2_greatestSolution 14 = .ok (.aload_n 0, 1) := by decide +kernel
theorem dX2_greatestSolution_15 : decode cX2_greatestSolution 15 = .ok (.invokevirtual 132, 3) := by decide +kernel
theorem dX2_greatestSolution_18 : decode cX2_greatestSolution 18 = .ok (.ifCond .ne 9, 3) := by decide +kernel
theorem dX2_greatestSolution_21 : decode cX2_greatestSolution 21 = .ok (.aload_n 0, 1) := by decide +kernel
theorem dX2_greatestSolution_22 : decode cX2_greatestSolution 22 = .ok (.iconst 2, 1) := by decide +kernel
theorem dX2_greatestSolution_23 : decode cX2_greatestSolution 23 = .ok (.invokevirtual 56, 3) := by decide +kernel
theorem dX2_greatestSolution_26 : decode cX2_greatestSolution 26 = .ok (.ireturn, 1) := by decide +kernel
theorem dX2_greatestSolution_27 : decode cX2_greatestSolution 27 = .ok (.aload_n 0, 1) := by decide +kernel
theorem dX2_greatestSolution_28 : decode cX2_greatestSolution 28 = .ok (.iconst 0, 1) := by decide +kernel
theorem dX2_greatestSolution_29 : decode cX2_greatestSolution 29 = .ok (.putfield 46, 3) := by decide +kernel
theorem dX2_greatestSolution_32 : decode cX2_greatestSolution 32 = .ok (.iconst 0, 1) := by decide +kernel
theorem dX2_greatestSolution_33 : decode cX2_greatestSolution 33 = .ok (.istore_n 1, 1) := by decide +kernel
theorem dX2_greatestSolution_34 : decode cX2_greatestSolution 34 = .ok (.iconst 0, 1) := by decide +kernel
theorem dX2_greatestSolution_35 : decode cX2_greatestSolution 35 = .ok (.istore_n 2, 1) := by decide +kernel
theorem dX2_greatestSolution_36 : decode cX2_greatestSolution 36 = .ok (.iload_n 2, 1) := by decide +kernel
theorem dX2_greatestSolution_37 : decode cX2_greatestSolution 37 = .ok (.iconst 1, 1) := by decide +kernel
theorem dX2_greatestSolution_38 : decode cX2_greatestSolution 38 = .ok (.aload_n 0, 1) := by decide +kernel
theorem dX2_greatestSolution_39 : decode cX2_greatestSolution 39 = .ok (.getfield 22, 3) := by decide +kernel
theorem dX2_greatestSolution_42 : decode cX2_greatestSolution 42 = .ok (.ishl, 1) := by decide +kernel
theorem dX2_greatestSolution_43 : decode cX2_greatestSolution 43 = .ok (.if_icmp .ge 26, 3) := by decide +kernel
theorem dX2_greatestSolution_46 : decode cX2_greatestSolution 46 = .ok (.iload_n 1, 1) := by decide +kernel
theorem dX2_greatestSolution_47 : decode cX2_greatestSolution 47 = .ok (.aload_n 0, 1) := by decide +kernel
theorem dX2_greatestSolution_48 : decode cX2_greatestSolution 48 = .ok (.iload_n 2, 1) := by decide +kernel
theorem dX2_greatestSolution_49 : decode cX2_greatestSolution 49 = .ok (.iconst (-1), 1) := by decide +kernel
theorem dX2_greatestSolution_50 : decode cX2_greatestSolution 50 = .ok (.invokevirtual 129, 3) := by decide +kernel
theorem dX2_greatestSolution_53 : decode cX2_greatestSolution 53 = .ok (.ifCond .eq 7, 3) := by decide +kernel
theorem dX2_greatestSolution_56 : decode cX2_greatestSolution 56 = .ok (.iload_n 2, 1) := by decide +kernel
theorem dX2_greatestSolution_57 : decode cX2_greatestSolution 57 = .ok (.goto 4, 3) := by decide +kernel
theorem dX2_greatestSolution_60 : decode cX2_greatestSolution 60 = .ok (.iconst 0, 1) := by decide +kernel
theorem dX2_greatestSolution_61 : decode cX2_greatestSolution 61 = .ok (.ior, 1) := by decide +kernel
theorem dX2_greatestSolution_62 : decode cX2_greatestSolution 62 = .ok (.istore_n 1, 1) := by decide +kernel
theorem dX2_greatestSolution_63 : decode cX2_greatestSolution 63 = .ok (.iinc 2 1, 3) := by decide +kernel
theorem dX2_greatestSolution_66 : decode cX2_greatestSolution 66 = .ok (.goto (-30), 3) := by decide +kernel
theorem dX2_greatestSolution_69 : decode cX2_greatestSolution 69 = .ok (.iload_n 1, 1) := by decide +kernel
theorem dX2_greatestSolution_70 : decode cX2_greatestSolution 70 = .ok (.ireturn, 1) := by decide +kernel
theorem dX2_implies_0 : decode cX2_implies 0 = .ok (.aload_n 0, 1) := by decide +kernel
theorem dX2_implies_1 : decode cX2_implies 1 = .ok (.iconst 4, 1) := by decide +kernel
theorem dX2_implies_2 : decode cX2_implies 2 = .ok (.invokevirtual 116, 3) := by decide +kernel
theorem dX2_implies_5 : decode cX2_implies 5 = .ok (.ifCond .ne 9, 3) := by decide +kernel
theorem dX2_implies_8 : decode cX2_implies 8 = .ok (.aload_n 0, 1) := by decide +kernel
theorem dX2_implies_9 : decode cX2_implies 9 = .ok (.iconst 1, 1) := by decide +kernel
theorem dX2_implies_10 : decode cX2_implies 10 = .ok (.invokevirtual 101, 3) := by decide +kernel
theorem dX2_implies_13 : decode cX2_implies 13 = .ok (.ireturn, 1) := by decide +kernel
theorem dX2_implies_14 : decode cX2_implies 14 = .ok (.aload_n 0, 1) := by decide +kernel
theorem dX2_implies_15 : decode cX2_implies 15 = .ok (.iload_n 1, 1) := by decide +kernel
theorem dX2_implies_16 : decode cX2_implies 16 = .ok (.invokevirtual 119, 3) := by decide +kernel
theorem dX2_implies_19 : decode cX2_implies 19 = .ok (.ifCond .eq 11, 3) := by decide +kernel
theorem dX2_implies_22 : decode cX2_implies 22 = .ok (.aload_n 0, 1) := by decide +kernel
theorem dX2_implies_23 : decode cX2_implies 23 = .ok (.iload_n 3, 1) := by decide +kernel
theorem dX2_implies_24 : decode cX2_implies 24 = .ok (.invokevirtual 119, 3) := by decide +kernel
theorem dX2_implies_27 : decode cX2_implies 27 = .ok (.ifCond .ne 9, 3) := by decide +kernel
theorem dX2_implies_30 : decode cX2_implies 30 = .ok (.aload_n 0, 1) := by decide +kernel
theorem dX2_implies_31 : decode cX2_implies 31 = .ok (.iconst 2, 1) := by decide +kernel
theorem dX2_implies_32 : decode cX2_implies 32 = .ok (.invokevirtual 101, 3) := by decide +kernel
theorem dX2_implies_35 : decode cX2_implies 35 = .ok (.ireturn, 1) := by decide +kernel
theorem dX2_implies_36 : decode cX2_implies 36 = .ok (.iload_n 2, 1) := by decide +kernel
theorem dX2_implies_37 : decode cX2_implies 37 = .ok (.invokestatic 71, 3) := by decide +kernel
theorem dX2_implies_40 : decode cX2_implies 40 = .ok (.ifCond .eq 11, 3) := by decide +kernel
theorem dX2_implies_43 : decode cX2_implies 43 = .ok (.iload 4, 2) := by decide +kernel
theorem dX2_implies_45 : decode cX2_implies 45 = .ok (.invokestatic 71, 3) := by decide +kernel
theorem dX2_implies_48 : decode cX2_implies 48 = .ok (.ifCond .ne 9, 3) := by decide +kernel
theorem dX2_implies_51 : decode cX2_implies 51 = .ok (.aload_n 0, 1) := by decide +kernel
theorem dX2_implies_52 : decode cX2_implies 52 = .ok (.iconst 3, 1) := by decide +kernel
theorem dX2_implies_53 : decode cX2_implies 53 = .ok (.invokevirtual 101, 3) := by decide +kernel
theorem dX2_implies_56 : decode cX2_implies 56 = .ok (.ireturn, 1) := by decide +kernel
theorem dX2_implies_57 : decode cX2_implies 57 = .ok (.aload_n 0, 1) := by decide +kernel
theorem dX2_implies_58 : decode cX2_implies 58 = .ok (.iconst 0, 1) := by decide +kernel
theorem dX2_implies_59 : decode cX2_implies 59 = .ok (.putfield 46, 3) := by decide +kernel
theorem dX2_implies_62 : decode cX2_implies 62 = .ok (.aload_n 0, 1) := by decide +kernel
theorem dX2_implies_63 : decode cX2_implies 63 = .ok (.iload_n 1, 1) := by decide +kernel
theorem dX2_implies_64 : decode cX2_implies 64 = .ok (.iload_n 2, 1) := by decide +kernel
theorem dX2_implies_65 : decode cX2_implies 65 = .ok (.iload_n 3, 1) := by decide +kernel
theorem dX2_implies_66 : decode cX2_implies 66 = .ok (.iload 4, 2) := by decide +kernel
theorem dX2_implies_68 : decode cX2_implies 68 = .ok (.invokevirtual 136, 3) := by decide +kernel
theorem dX2_implies_71 : decode cX2_implies 71 = .ok (.ireturn, 1) := by decide +kernel
theorem dX2_dimension_0 : decode cX2_dimension 0 = .ok (.aload_n 0, 1) := by decide +kernel
theorem dX2_dimension_1 : decode cX2_dimension 1 = .ok (.iconst 5, 1) := by decide +kernel
theorem dX2_dimension_2 : decode cX2_dimension 2 = .ok (.invokevirtual 116, 3) := by decide +kernel
theorem dX2_dimension_5 : decode cX2_dimension 5 = .ok (.ifCond .ne 9, 3) := by decide +kernel
theorem dX2_dimension_8 : decode cX2_dimension 8 = .ok (.aload_n 0, 1) := by decide +kernel
theorem dX2_dimension_9 : decode cX2_dimension 9 = .ok (.iconst 1, 1) := by decide +kernel
theorem dX2_dimension_10 : decode cX2_dimension 10 = .ok (.invokevirtual 56, 3) := by decide +kernel
theorem dX2_dimension_13 : decode cX2_dimension 13 = .ok (.ireturn, 1) := by decide +kernel
theorem dX2_dimension_14 : decode cX2_dimension 14 = .ok (.aload_n 0, 1) := by decide +kernel
theorem dX2_dimension_15 : decode cX2_dimension 15 = .ok (.invokevirtual 132, 3) := by decide +kernel
theorem dX2_dimension_18 : decode cX2_dimension 18 = .ok (.istore_n 1, 1) := by decide +kernel
theorem dX2_dimension_19 : decode cX2_dimension 19 = .ok (.iload_n 1, 1) := by decide +kernel
theorem dX2_dimension_20 : decode cX2_dimension 20 = .ok (.ifCond .ne 9, 3) := by decide +kernel
theorem dX2_dimension_23 : decode cX2_dimension 23 = .ok (.aload_n 0, 1) := by decide +kernel
theorem dX2_dimension_24 : decode cX2_dimension 24 = .ok (.iconst 2, 1) := by decide +kernel
theorem dX2_dimension_25 : decode cX2_dimension 25 = .ok (.invokevirtual 56, 3) := by decide +kernel
theorem dX2_dimension_28 : decode cX2_dimension 28 = .ok (.ireturn, 1) := by decide +kernel
theorem dX2_dimension_29 : decode cX2_dimension 29 = .ok (.aload_n 0, 1) := by decide +kernel
theorem dX2_dimension_30 : decode cX2_dimension 30 = .ok (.iconst 0, 1) := by decide +kernel
theorem dX2_dimension_31 : decode cX2_dimension 31 = .ok (.putfield 46, 3) := by decide +kernel
theorem dX2_dimension_34 : decode cX2_dimension 34 = .ok (.iconst 0, 1) := by decide +kernel
theorem dX2_dimension_35 : decode cX2_dimension 35 = .ok (.istore_n 2, 1) := by decide +kernel
theorem dX2_dimension_36 : decode cX2_dimension 36 = .ok (.iconst 1, 1) := by decide +kernel
theorem dX2_dimension_37 : decode cX2_dimension 37 = .ok (.iload_n 2, 1) := by decide +kernel
theorem dX2_dimension_38 : decode cX2_dimension 38 = .ok (.ishl, 1) := by decide +kernel
theorem dX2_dimension_39 : decode cX2_dimension 39 = .ok (.iload_n 1, 1) := by decide +kernel
theorem dX2_dimension_40 : decode cX2_dimension 40 = .ok (.if_icmp .ge 9, 3) := by decide +kernel
theorem dX2_dimension_43 : decode cX2_dimension 43 = .ok (.iinc 2 1, 3) := by decide +kernel
theorem dX2_dimension_46 : decode cX2_dimension 46 = .ok (.goto (-10), 3) := by decide +kernel
theorem dX2_dimension_49 : decode cX2_dimension 49 = .ok (.iload_n 2, 1) := by decide +kernel
theorem dX2_dimension_50 : decode cX2_dimension 50 = .ok (.ireturn, 1) := by decide +kernel
theorem dX2_define_0 : decode cX2_define 0 = .ok (.iload_n 1, 1) := by decide +kernel
theorem dX2_define_1 : decode cX2_define 1 = .ok (.iconst 1, 1) := by decide +kernel
theorem dX2_define_2 : decode cX2_define 2 = .ok (.iconst 4, 1) := by decide +kernel
theorem dX2_define_3 : decode cX2_define 3 = .ok (.invokestatic 52, 3) := by decide +kernel
theorem dX2_define_6 : decode cX2_define 6 = .ok (.ifCond .ne 9, 3) := by decide +kernel
theorem dX2_define_9 : decode cX2_define 9 = .ok (.aload_n 0, 1) := by decide +kernel
theorem dX2_define_10 : decode cX2_define 10 = .ok (.iconst 1, 1) := by decide +kernel
theorem dX2_define_11 : decode cX2_define 11 = .ok (.invokevirtual 56, 3) := by decide +kernel
theorem dX2_define_14 : decode cX2_define 14 = .ok (.ireturn, 1) := by decide +kernel
theorem dX2_define_15 : decode cX2_define 15 = .ok (.aload_n 0, 1) := by decide +kernel
theorem dX2_define_16 : decode cX2_define 16 = .ok (.iload_n 1, 1) := by decide +kernel
theorem dX2_define_17 : decode cX2_define 17 = .ok (.iload_n 2, 1) := by decide +kernel
theorem dX2_define_18 : decode cX2_define 18 = .ok (.iload_n 3, 1) := by decide +kernel
theorem dX2_define_19 : decode cX2_define 19 = .ok (.iload 4, 2) := by decide +kernel
theorem dX2_define_21 : decode cX2_define 21 = .ok (.iload 5, 2) := by decide +kernel
theorem dX2_define_23 : decode cX2_define 23 = .ok (.invokevirtual 122, 3) := by decide +kernel
theorem dX2_define_26 : decode cX2_define 26 = .ok (.ifCond .ne 9, 3) := by decide +kernel
theorem dX2_define_29 : decode cX2_define 29 = .ok (.aload_n 0, 1) := by decide +kernel
theorem dX2_define_30 : decode cX2_define 30 = .ok (.iconst 2, 1) := by decide +kernel
theorem dX2_define_31 : decode cX2_define 31 = .ok (.invokevirtual 56, 3) := by decide +kernel
theorem dX2_define_34 : decode cX2_define 34 = .ok (.ireturn, 1) := by decide +kernel
theorem dX2_define_35 : decode cX2_define 35 = .ok (.aload_n 0, 1) := by decide +kernel
theorem dX2_define_36 : decode cX2_define 36 = .ok (.getfield 49, 3) := by decide +kernel
theorem dX2_define_39 : decode cX2_define 39 = .ok (.bipush 8, 2) := by decide +kernel
theorem dX2_define_41 : decode cX2_define 41 = .ok (.if_icmp .ne 9, 3) := by decide +kernel
theorem dX2_define_44 : decode cX2_define 44 = .ok (.aload_n 0, 1) := by decide +kernel
theorem dX2_define_45 : decode cX2_define 45 = .ok (.iconst 3, 1) := by decide +kernel
theorem dX2_define_46 : decode cX2_define 46 = .ok (.invokevirtual 56, 3) := by decide +kernel
theorem dX2_define_49 : decode cX2_define 49 = .ok (.ireturn, 1) := by decide +kernel
theorem dX2_define_50 : decode cX2_define 50 = .ok (.iconst 0, 1) := by decide +kernel
theorem dX2_define_51 : decode cX2_define 51 = .ok (.istore 6, 2) := by decide +kernel
theorem dX2_define_53 : decode cX2_define 53 = .ok (.iconst 0, 1) := by decide +kernel
theorem dX2_define_54 : decode cX2_define 54 = .ok (.istore 7, 2) := by decide +kernel
theorem dX2_define_56 : decode cX2_define 56 = .ok (.iload 7, 2) := by decide +kernel
theorem dX2_define_58 : decode cX2_define 58 = .ok (.iconst 1, 1) := by decide +kernel
theorem dX2_define_59 : decode cX2_define 59 = .ok (.aload_n 0, 1) := by decide +kernel
theorem dX2_define_60 : decode cX2_define 60 = .ok (.getfield 22, 3) := by decide +kernel
theorem dX2_define_63 : decode cX2_define 63 = .ok (.ishl, 1) := by decide +kernel
theorem dX2_define_64 : decode cX2_define 64 = .ok (.if_icmp .ge 107, 3) := by decide +kernel
theorem dX2_define_67 : decode cX2_define 67 = .ok (.aload_n 0, 1) := by decide +kernel
theorem dX2_define_68 : decode cX2_define 68 = .ok (.iload 7, 2) := by decide +kernel
theorem dX2_define_70 : decode cX2_define 70 = .ok (.iconst (-1), 1) := by decide +kernel
theorem dX2_define_71 : decode cX2_define 71 = .ok (.invokevirtual 129, 3) := by decide +kernel
theorem dX2_define_74 : decode cX2_define 74 = .ok (.ifCond .ne 6, 3) := by decide +kernel
theorem dX2_define_77 : decode cX2_define 77 = .ok (.goto 88, 3) := by decide +kernel
theorem dX2_define_80 : decode cX2_define 80 = .ok (.iload 7, 2) := by decide +kernel
theorem dX2_define_82 : decode cX2_define 82 = .ok (.iload_n 2, 1) := by decide +kernel
theorem dX2_define_83 : decode cX2_define 83 = .ok (.ishr, 1) := by decide +kernel
theorem dX2_define_84 : decode cX2_define 84 = .ok (.iconst 1, 1) := by decide +kernel
theorem dX2_define_85 : decode cX2_define 85 = .ok (.iand, 1) := by decide +kernel
theorem dX2_define_86 : decode cX2_define 86 = .ok (.istore 8, 2) := by decide +kernel
theorem dX2_define_88 : decode cX2_define 88 = .ok (.iload 8, 2) := by decide +kernel
theorem dX2_define_90 : decode cX2_define 90 = .ok (.iload_n 1, 1) := by decide +kernel
theorem dX2_define_91 : decode cX2_define 91 = .ok (.iconst 1, 1) := by decide +kernel
theorem dX2_define_92 : decode cX2_define 92 = .ok (.if_icmp .le 14, 3) := by decide +kernel
theorem dX2_define_95 : decode cX2_define 95 = .ok (.iload 7, 2) := by decide +kernel
theorem dX2_define_97 : decode cX2_define 97 = .ok (.iload_n 3, 1) := by decide +kernel
theorem dX2_define_98 : decode cX2_define 98 = .ok (.ishr, 1) := by decide +kernel
theorem dX2_define_99 : decode cX2_define 99 = .ok (.iconst 1, 1) := by decide +kernel
theorem dX2_define_100 : decode cX2_define 100 = .ok (.iand, 1) := by decide +kernel
theorem dX2_define_101 : decode cX2_define 101 = .ok (.iconst 1, 1) := by decide +kernel
theorem dX2_define_102 : decode cX2_define 102 = .ok (.ishl, 1) := by decide +kernel
theorem dX2_define_103 : decode cX2_define 103 = .ok (.goto 4, 3) := by decide +kernel
theorem dX2_define_106 : decode cX2_define 106 = .ok (.iconst 0, 1) := by decide +kernel
theorem dX2_define_107 : decode cX2_define 107 = .ok (.ior, 1) := by decide +kernel
theorem dX2_define_108 : decode cX2_define 108 = .ok (.istore 8, 2) := by decide +kernel
theorem dX2_define_110 : decode cX2_define 110 = .ok (.iload 8, 2) := by decide +kernel
theorem dX2_define_112 : decode cX2_define 112 = .ok (.iload_n 1, 1) := by decide +kernel
theorem dX2_define_113 : decode cX2_define 113 = .ok (.iconst 2, 1) := by decide +kernel
theorem dX2_define_114 : decode cX2_define 114 = .ok (.if_icmp .le 15, 3) := by decide +kernel
theorem dX2_define_117 : decode cX2_define 117 = .ok (.iload 7, 2) := by decide +kernel
theorem dX2_define_119 : decode cX2_define 119 = .ok (.iload 4, 2) := by decide +kernel
theorem dX2_define_121 : decode cX2_define 121 = .ok (.ishr, 1) := by decide +kernel
theorem dX2_define_122 : decode cX2_define 122 = .ok (.iconst 1, 1) := by decide +kernel
theorem dX2_define_123 : decode cX2_define 123 = .ok (.iand, 1) := by decide +kernel
theorem dX2_define_124 : decode cX2_define 124 = .ok (.iconst 2, 1) := by decide +kernel
theorem dX2_define_125 : decode cX2_define 125 = .ok (.ishl, 1) := by decide +kernel
theorem dX2_define_126 : decode cX2_define 126 = .ok (.goto 4, 3) := by decide +kernel
theorem dX2_define_129 : decode cX2_define 129 = .ok (.iconst 0, 1) := by decide +kernel
theorem dX2_define_130 : decode cX2_define 130 = .ok (.ior, 1) := by decide +kernel
theorem dX2_define_131 : decode cX2_define 131 = .ok (.istore 8, 2) := by decide +kernel
theorem dX2_define_133 : decode cX2_define 133 = .ok (.iload 8, 2) := by decide +kernel
theorem dX2_define_135 : decode cX2_define 135 = .ok (.iload_n 1, 1) := by decide +kernel
theorem dX2_define_136 : decode cX2_define 136 = .ok (.iconst 3, 1) := by decide +kernel
theorem dX2_define_137 : decode cX2_define 137 = .ok (.if_icmp .le 15, 3) := by decide +kernel
theorem dX2_define_140 : decode cX2_define 140 = .ok (.iload 7, 2) := by decide +kernel
theorem dX2_define_142 : decode cX2_define 142 = .ok (.iload 5, 2) := by decide +kernel
theorem dX2_define_144 : decode cX2_define 144 = .ok (.ishr, 1) := by decide +kernel
theorem dX2_define_145 : decode cX2_define 145 = .ok (.iconst 1, 1) := by decide +kernel
theorem dX2_define_146 : decode cX2_define 146 = .ok (.iand, 1) := by decide +kernel
theorem dX2_define_147 : decode cX2_define 147 = .ok (.iconst 3, 1) := by decide +kernel
theorem dX2_define_148 : decode cX2_define 148 = .ok (.ishl, 1) := by decide +kernel
theorem dX2_define_149 : decode cX2_define 149 = .ok (.goto 4, 3) := by decide +kernel
theorem dX2_define_152 : decode cX2_define 152 = .ok (.iconst 0, 1) := by decide +kernel
theorem dX2_define_153 : decode cX2_define 153 = .ok (.ior, 1) := by decide +kernel
theorem dX2_define_154 : decode cX2_define 154 = .ok (.istore 8, 2) := by decide +kernel
theorem dX2_define_156 : decode cX2_define 156 = .ok (.iload 6, 2) := by decide +kernel
theorem dX2_define_158 : decode cX2_define 158 = .ok (.iconst 1, 1) := by decide +kernel
theorem dX2_define_159 : decode cX2_define 159 = .ok (.iload 8, 2) := by decide +kernel
theorem dX2_define_161 : decode cX2_define 161 = .ok (.ishl, 1) := by decide +kernel
theorem dX2_define_162 : decode cX2_define 162 = .ok (.ior, 1) := by decide +kernel
theorem dX2_define_163 : decode cX2_define 163 = .ok (.istore 6, 2) := by decide +kernel
theorem dX2_define_165 : decode cX2_define 165 = .ok (.iinc 7 1, 3) := by decide +kernel
theorem dX2_define_168 : decode cX2_define 168 = .ok (.goto (-112), 3) := by decide +kernel
theorem dX2_define_171 : decode cX2_define 171 = .ok (.aload_n 0, 1) := by decide +kernel
theorem dX2_define_172 : decode cX2_define 172 = .ok (.iload_n 1, 1) := by decide +kernel
theorem dX2_define_173 : decode cX2_define 173 = .ok (.iload 6, 2) := by decide +kernel
theorem dX2_define_175 : decode cX2_define 175 = .ok (.invokevirtual 60, 3) := by decide +kernel
theorem dX2_define_178 : decode cX2_define 178 = .ok (.ireturn, 1) := by decide +kernel
theorem dX2_firstViolated_0 : decode cX2_firstViolated 0 = .ok (.iload_n 1, 1) := by decide +kernel
theorem dX2_firstViolated_1 : decode cX2_firstViolated 1 = .ok (.ifCond .lt 13, 3) := by decide +kernel
theorem dX2_firstViolated_4 : decode cX2_firstViolated 4 = .ok (.iload_n 1, 1) := by decide +kernel
theorem dX2_firstViolated_5 : decode cX2_firstViolated 5 = .ok (.iconst 1, 1) := by decide +kernel
theorem dX2_firstViolated_6 : decode cX2_firstViolated 6 = .ok (.aload_n 0, 1) := by decide +kernel
theorem dX2_firstViolated_7 : decode cX2_firstViolated 7 = .ok (.getfield 22, 3) := by decide +kernel
theorem dX2_firstViolated_10 : decode cX2_firstViolated 10 = .ok (.ishl, 1) := by decide +kernel
theorem dX2_firstViolated_11 : decode cX2_firstViolated 11 = .ok (.if_icmp .lt 9, 3) := by decide +kernel
theorem dX2_firstViolated_14 : decode cX2_firstViolated 14 = .ok (.aload_n 0, 1) := by decide +kernel
theorem dX2_firstViolated_15 : decode cX2_firstViolated 15 = .ok (.iconst 1, 1) := by decide +kernel
theorem dX2_firstViolated_16 : decode cX2_firstViolated 16 = .ok (.invokevirtual 56, 3) := by decide +kernel
theorem dX2_firstViolated_19 : decode cX2_firstViolated 19 = .ok (.ireturn, 1) := by decide +kernel
theorem dX2_firstViolated_20 : decode cX2_firstViolated 20 = .ok (.aload_n 0, 1) := by decide +kernel
theorem dX2_firstViolated_21 : decode cX2_firstViolated 21 = .ok (.iconst 0, 1) := by decide +kernel
theorem dX2_firstViolated_22 : decode cX2_firstViolated 22 = .ok (.putfield 46, 3) := by decide +kernel
theorem dX2_firstViolated_25 : decode cX2_firstViolated 25 = .ok (.iconst 0, 1) := by decide +kernel
theorem dX2_firstViolated_26 : decode cX2_firstViolated 26 = .ok (.istore_n 2, 1) := by decide +kernel
theorem dX2_firstViolated_27 : decode cX2_firstViolated 27 = .ok (.iload_n 2, 1) := by decide +kernel
theorem dX2_firstViolated_28 : decode cX2_firstViolated 28 = .ok (.aload_n 0, 1) := by decide +kernel
theorem dX2_firstViolated_29 : decode cX2_firstViolated 29 = .ok (.getfield 84, 3) := by decide +kernel
theorem dX2_firstViolated_32 : decode cX2_firstViolated 32 = .ok (.if_icmp .ge 20, 3) := by decide +kernel
theorem dX2_firstViolated_35 : decode cX2_firstViolated 35 = .ok (.aload_n 0, 1) := by decide +kernel
theorem dX2_firstViolated_36 : decode cX2_firstViolated 36 = .ok (.iload_n 2, 1) := by decide +kernel
theorem dX2_firstViolated_37 : decode cX2_firstViolated 37 = .ok (.iload_n 1, 1) := by decide +kernel
theorem dX2_firstViolated_38 : decode cX2_firstViolated 38 = .ok (.invokevirtual 126, 3) := by decide +kernel
theorem dX2_firstViolated_41 : decode cX2_firstViolated 41 = .ok (.ifCond .ne 5, 3) := by decide +kernel
theorem dX2_firstViolated_44 : decode cX2_firstViolated 44 = .ok (.iload_n 2, 1) := by decide +kernel
theorem dX2_firstViolated_45 : decode cX2_firstViolated 45 = .ok (.ireturn, 1) := by decide +kernel
theorem dX2_firstViolated_46 : decode cX2_firstViolated 46 = .ok (.iinc 2 1, 3) := by decide +kernel
theorem dX2_firstViolated_49 : decode cX2_firstViolated 49 = .ok (.goto (-22), 3) := by decide +kernel
theorem dX2_firstViolated_52 : decode cX2_firstViolated 52 = .ok (.aload_n 0, 1) := by decide +kernel
theorem dX2_firstViolated_53 : decode cX2_firstViolated 53 = .ok (.iconst 2, 1) := by decide +kernel
theorem dX2_firstViolated_54 : decode cX2_firstViolated 54 = .ok (.invokevirtual 56, 3) := by decide +kernel
theorem dX2_firstViolated_57 : decode cX2_firstViolated 57 = .ok (.ireturn, 1) := by decide +kernel
theorem dX2_isIdle_0 : decode cX2_isIdle 0 = .ok (.iconst 0, 1) := by decide +kernel
theorem dX2_isIdle_1 : decode cX2_isIdle 1 = .ok (.istore_n 2, 1) := by decide +kernel
theorem dX2_isIdle_2 : decode cX2_isIdle 2 = .ok (.iload_n 2, 1) := by decide +kernel
theorem dX2_isIdle_3 : decode cX2_isIdle 3 = .ok (.iconst 1, 1) := by decide +kernel
theorem dX2_isIdle_4 : decode cX2_isIdle 4 = .ok (.aload_n 0, 1) := by decide +kernel
theorem dX2_isIdle_5 : decode cX2_isIdle 5 = .ok (.getfield 22, 3) := by decide +kernel
theorem dX2_isIdle_8 : decode cX2_isIdle 8 = .ok (.ishl, 1) := by decide +kernel
theorem dX2_isIdle_9 : decode cX2_isIdle 9 = .ok (.if_icmp .ge 29, 3) := by decide +kernel
theorem dX2_isIdle_12 : decode cX2_isIdle 12 = .ok (.aload_n 0, 1) := by decide +kernel
theorem dX2_isIdle_13 : decode cX2_isIdle 13 = .ok (.iload_n 1, 1) := by decide +kernel
theorem dX2_isIdle_14 : decode cX2_isIdle 14 = .ok (.iload_n 2, 1) := by decide +kernel
theorem dX2_isIdle_15 : decode cX2_isIdle 15 = .ok (.invokevirtual 126, 3) := by decide +kernel
theorem dX2_isIdle_18 : decode cX2_isIdle 18 = .ok (.ifCond .ne 14, 3) := by decide +kernel
theorem dX2_isIdle_21 : decode cX2_isIdle 21 = .ok (.aload_n 0, 1) := by decide +kernel
theorem dX2_isIdle_22 : decode cX2_isIdle 22 = .ok (.iload_n 2, 1) := by decide +kernel
theorem dX2_isIdle_23 : decode cX2_isIdle 23 = .ok (.iload_n 1, 1) := by decide +kernel
theorem dX2_isIdle_24 : decode cX2_isIdle 24 = .ok (.invokevirtual 129, 3) := by decide +kernel
theorem dX2_isIdle_27 : decode cX2_isIdle 27 = .ok (.ifCond .eq 5, 3) := by decide +kernel
theorem dX2_isIdle_30 : decode cX2_isIdle 30 = .ok (.iconst 0, 1) := by decide +kernel
theorem dX2_isIdle_31 : decode cX2_isIdle 31 = .ok (.ireturn, 1) := by decide +kernel
theorem dX2_isIdle_32 : decode cX2_isIdle 32 = .ok (.iinc 2 1, 3) := by decide +kernel
theorem dX2_isIdle_35 : decode cX2_isIdle 35 = .ok (.goto (-33), 3) := by decide +kernel
theorem dX2_isIdle_38 : decode cX2_isIdle 38 = .ok (.iconst 1, 1) := by decide +kernel
theorem dX2_isIdle_39 : decode cX2_isIdle 39 = .ok (.ireturn, 1) := by decide +kernel
theorem dX2_isRedundant_0 : decode cX2_isRedundant 0 = .ok (.iload_n 1, 1) := by decide +kernel
theorem dX2_isRedundant_1 : decode cX2_isRedundant 1 = .ok (.iconst 0, 1) := by decide +kernel
theorem dX2_isRedundant_2 : decode cX2_isRedundant 2 = .ok (.aload_n 0, 1) := by decide +kernel
theorem dX2_isRedundant_3 : decode cX2_isRedundant 3 = .ok (.getfield 84, 3) := by decide +kernel
theorem dX2_isRedundant_6 : decode cX2_isRedundant 6 = .ok (.iconst 1, 1) := by decide +kernel
theorem dX2_isRedundant_7 : decode cX2_isRedundant 7 = .ok (.isub, 1) := by decide +kernel
theorem dX2_isRedundant_8 : decode cX2_isRedundant 8 = .ok (.invokestatic 52, 3) := by decide +kernel
theorem dX2_isRedundant_11 : decode cX2_isRedundant 11 = .ok (.ifCond .ne 9, 3) := by decide +kernel
theorem dX2_isRedundant_14 : decode cX2_isRedundant 14 = .ok (.aload_n 0, 1) := by decide +kernel
theorem dX2_isRedundant_15 : decode cX2_isRedundant 15 = .ok (.iconst 1, 1) := by decide +kernel
theorem dX2_isRedundant_16 : decode cX2_isRedundant 16 = .ok (.invokevirtual 101, 3) := by decide +kernel
theorem dX2_isRedundant_19 : decode cX2_isRedundant 19 = .ok (.ireturn, 1) := by decide +kernel
theorem dX2_isRedundant_20 : decode cX2_isRedundant 20 = .ok (.aload_n 0, 1) := by decide +kernel
theorem dX2_isRedundant_21 : decode cX2_isRedundant 21 = .ok (.iconst 0, 1) := by decide +kernel
theorem dX2_isRedundant_22 : decode cX2_isRedundant 22 = .ok (.putfield 46, 3) := by decide +kernel
theorem dX2_isRedundant_25 : decode cX2_isRedundant 25 = .ok (.aload_n 0, 1) := by decide +kernel
theorem dX2_isRedundant_26 : decode cX2_isRedundant 26 = .ok (.iload_n 1, 1) := by decide +kernel
theorem dX2_isRedundant_27 : decode cX2_isRedundant 27 = .ok (.invokevirtual 140, 3) := by decide +kernel
theorem dX2_isRedundant_30 : decode cX2_isRedundant 30 = .ok (.ireturn, 1) := by decide +kernel
theorem dX2_removeRedundant_0 : decode cX2_removeRedundant 0 = .ok (.aload_n 0, 1) := by decide +kernel
theorem dX2_removeRedundant_1 : decode cX2_removeRedundant 1 = .ok (.iconst 0, 1) := by decide +kernel
theorem dX2_removeRedundant_2 : decode cX2_removeRedundant 2 = .ok (.putfield 46, 3) := by decide +kernel
theorem dX2_removeRedundant_5 : decode cX2_removeRedundant 5 = .ok (.iconst 0, 1) := by decide +kernel
theorem dX2_removeRedundant_6 : decode cX2_removeRedundant 6 = .ok (.istore_n 1, 1) := by decide +kernel
theorem dX2_removeRedundant_7 : decode cX2_removeRedundant 7 = .ok (.aload_n 0, 1) := by decide +kernel
theorem dX2_removeRedundant_8 : decode cX2_removeRedundant 8 = .ok (.getfield 84, 3) := by decide +kernel
theorem dX2_removeRedundant_11 : decode cX2_removeRedundant 11 = .ok (.iconst 1, 1) := by decide +kernel
theorem dX2_removeRedundant_12 : decode cX2_removeRedundant 12 = .ok (.isub, 1) := by decide +kernel
theorem dX2_removeRedundant_13 : decode cX2_removeRedundant 13 = .ok (.istore_n 2, 1) := by decide +kernel
theorem dX2_removeRedundant_14 : decode cX2_removeRedundant 14 = .ok (.iload_n 2, 1) := by decide +kernel
theorem dX2_removeRedundant_15 : decode cX2_removeRedundant 15 = .ok (.ifCond .lt 102, 3) := by decide +kernel
theorem dX2_removeRedundant_18 : decode cX2_removeRedundant 18 = .ok (.aload_n 0, 1) := by decide +kernel
theorem dX2_removeRedundant_19 : decode cX2_removeRedundant 19 = .ok (.iload_n 2, 1) := by decide +kernel
theorem dX2_removeRedundant_20 : decode cX2_removeRedundant 20 = .ok (.invokevirtual 140, 3) := by decide +kernel
theorem dX2_removeRedundant_23 : decode cX2_removeRedundant 23 = .ok (.ifCond .ne 6, 3) := by decide +kernel
theorem dX2_removeRedundant_26 : decode cX2_removeRedundant 26 = .ok (.goto 85, 3) := by decide +kernel
theorem dX2_removeRedundant_29 : decode cX2_removeRedundant 29 = .ok (.aload_n 0, 1) := by decide +kernel
theorem dX2_removeRedundant_30 : decode cX2_removeRedundant 30 = .ok (.dup, 1) := by decide +kernel
theorem dX2_removeRedundant_31 : decode cX2_removeRedundant 31 = .ok (.getfield 84, 3) := by decide +kernel
theorem dX2_removeRedundant_34 : decode cX2_removeRedundant 34 = .ok (.iconst 1, 1) := by decide +kernel
theorem dX2_removeRedundant_35 : decode cX2_removeRedundant 35 = .ok (.isub, 1) := by decide +kernel
theorem dX2_removeRedundant_36 : decode cX2_removeRedundant 36 = .ok (.putfield 84, 3) := by decide +kernel
theorem dX2_removeRedundant_39 : decode cX2_removeRedundant 39 = .ok (.iinc 1 1, 3) := by decide +kernel
theorem dX2_removeRedundant_42 : decode cX2_removeRedundant 42 = .ok (.iload_n 2, 1) := by decide +kernel
theorem dX2_removeRedundant_43 : decode cX2_removeRedundant 43 = .ok (.istore_n 3, 1) := by decide +kernel
theorem dX2_removeRedundant_44 : decode cX2_removeRedundant 44 = .ok (.iload_n 3, 1) := by decide +kernel
theorem dX2_removeRedundant_45 : decode cX2_removeRedundant 45 = .ok (.aload_n 0, 1) := by decide +kernel
theorem dX2_removeRedundant_46 : decode cX2_removeRedundant 46 = .ok (.getfield 84, 3) := by decide +kernel
theorem dX2_removeRedundant_49 : decode cX2_removeRedundant 49 = .ok (.if_icmp .ge 62, 3) := by decide +kernel
theorem dX2_removeRedundant_52 : decode cX2_removeRedundant 52 = .ok (.aload_n 0, 1) := by decide +kernel
theorem dX2_removeRedundant_53 : decode cX2_removeRedundant 53 = .ok (.getfield 16, 3) := by decide +kernel
theorem dX2_removeRedundant_56 : decode cX2_removeRedundant 56 = .ok (.iload_n 3, 1) := by decide +kernel
theorem dX2_removeRedundant_57 : decode cX2_removeRedundant 57 = .ok (.aload_n 0, 1) := by decide +kernel
theorem dX2_removeRedundant_58 : decode cX2_removeRedundant 58 = .ok (.getfield 16, 3) := by decide +kernel
theorem dX2_removeRedundant_61 : decode cX2_removeRedundant 61 = .ok (.iload_n 3, 1) := by decide +kernel
theorem dX2_removeRedundant_62 : decode cX2_removeRedundant 62 = .ok (.iconst 1, 1) := by decide +kernel
theorem dX2_removeRedundant_63 : decode cX2_removeRedundant 63 = .ok (.iadd, 1) := by decide +kernel
theorem dX2_removeRedundant_64 : decode cX2_removeRedundant 64 = .ok (.iaload, 1) := by decide +kernel
theorem dX2_removeRedundant_65 : decode cX2_removeRedundant 65 = .ok (.iastore, 1) := by decide +kernel
theorem dX2_removeRedundant_66 : decode cX2_removeRedundant 66 = .ok (.iconst 0, 1) := by decide +kernel
theorem dX2_removeRedundant_67 : decode cX2_removeRedundant 67 = .ok (.istore 4, 2) := by decide +kernel
theorem dX2_removeRedundant_69 : decode cX2_removeRedundant 69 = .ok (.iload 4, 2) := by decide +kernel
theorem dX2_removeRedundant_71 : decode cX2_removeRedundant 71 = .ok (.iconst 4, 1) := by decide +kernel
theorem dX2_removeRedundant_72 : decode cX2_removeRedundant 72 = .ok (.if_icmp .ge 33, 3) := by decide +kernel
theorem dX2_removeRedundant_75 : decode cX2_removeRedundant 75 = .ok (.aload_n 0, 1) := by decide +kernel
theorem dX2_removeRedundant_76 : decode cX2_removeRedundant 76 = .ok (.getfield 19, 3) := by decide +kernel
theorem dX2_removeRedundant_79 : decode cX2_removeRedundant 79 = .ok (.iconst 4, 1) := by decide +kernel
theorem dX2_removeRedundant_80 : decode cX2_removeRedundant 80 = .ok (.iload_n 3, 1) := by decide +kernel
theorem dX2_removeRedundant_81 : decode cX2_removeRedundant 81 = .ok (.imul, 1) := by decide +kernel
theorem dX2_removeRedundant_82 : decode cX2_removeRedundant 82 = .ok (.iload 4, 2) := by decide +kernel
theorem dX2_removeRedundant_84 : decode cX2_removeRedundant 84 = .ok (.iadd, 1) := by decide +kernel
theorem dX2_removeRedundant_85 : decode cX2_removeRedundant 85 = .ok (.aload_n 0, 1) := by decide +kernel
theorem dX2_removeRedundant_86 : decode cX2_removeRedundant 86 = .ok (.getfield 19, 3) := by decide +kernel
theorem dX2_removeRedundant_89 : decode cX2_removeRedundant 89 = .ok (.iconst 4, 1) := by decide +kernel
theorem dX2_removeRedundant_90 : decode cX2_removeRedundant 90 = .ok (.iload_n 3, 1) := by decide +kernel
theorem dX2_removeRedundant_91 : decode cX2_removeRedundant 91 = .ok (.imul, 1) := by decide +kernel
theorem dX2_removeRedundant_92 : decode cX2_removeRedundant 92 = .ok (.iconst 4, 1) := by decide +kernel
theorem dX2_removeRedundant_93 : decode cX2_removeRedundant 93 = .ok (.iadd, 1) := by decide +kernel
theorem dX2_removeRedundant_94 : decode cX2_removeRedundant 94 = .ok (.iload 4, 2) := by decide +kernel
theorem dX2_removeRedundant_96 : decode cX2_removeRedundant 96 = .ok (.iadd, 1) := by decide +kernel
theorem dX2_removeRedundant_97 : decode cX2_removeRedundant 97 = .ok (.iaload, 1) := by decide +kernel
theorem dX2_removeRedundant_98 : decode cX2_removeRedundant 98 = .ok (.iastore, 1) := by decide +kernel
theorem dX2_removeRedundant_99 : decode cX2_removeRedundant 99 = .ok (.iinc 4 1, 3) := by decide +kernel
theorem dX2_removeRedundant_102 : decode cX2_removeRedundant 102 = .ok (.goto (-33), 3) := by decide +kernel
theorem dX2_removeRedundant_105 : decode cX2_removeRedundant 105 = .ok (.iinc 3 1, 3) := by decide +kernel
theorem dX2_removeRedundant_108 : decode cX2_removeRedundant 108 = .ok (.goto (-64), 3) := by decide +kernel
theorem dX2_removeRedundant_111 : decode cX2_removeRedundant 111 = .ok (.iinc 2 (-1), 3) := by decide +kernel
theorem dX2_removeRedundant_114 : decode cX2_removeRedundant 114 = .ok (.goto (-100), 3) := by decide +kernel
theorem dX2_removeRedundant_117 : decode cX2_removeRedundant 117 = .ok (.iload_n 1, 1) := by decide +kernel
theorem dX2_removeRedundant_118 : decode cX2_removeRedundant 118 = .ok (.ireturn, 1) := by decide +kernel
theorem dX2_append_0 : decode cX2_append 0 = .ok (.iload_n 1, 1) := by decide +kernel
theorem dX2_append_1 : decode cX2_append 1 = .ok (.bipush 32, 2) := by decide +kernel
theorem dX2_append_3 : decode cX2_append 3 = .ok (.bipush 126, 2) := by decide +kernel
theorem dX2_append_5 : decode cX2_append 5 = .ok (.invokestatic 52, 3) := by decide +kernel
theorem dX2_append_8 : decode cX2_append 8 = .ok (.ifCond .ne 9, 3) := by decide +kernel
theorem dX2_append_11 : decode cX2_append 11 = .ok (.aload_n 0, 1) := by decide +kernel
theorem dX2_append_12 : decode cX2_append 12 = .ok (.iconst 1, 1) := by decide +kernel
theorem dX2_append_13 : decode cX2_append 13 = .ok (.invokevirtual 56, 3) := by decide +kernel
theorem dX2_append_16 : decode cX2_append 16 = .ok (.ireturn, 1) := by decide +kernel
theorem dX2_append_17 : decode cX2_append 17 = .ok (.aload_n 0, 1) := by decide +kernel
theorem dX2_append_18 : decode cX2_append 18 = .ok (.getfield 143, 3) := by decide +kernel
theorem dX2_append_21 : decode cX2_append 21 = .ok (.bipush 60, 2) := by decide +kernel
theorem dX2_append_23 : decode cX2_append 23 = .ok (.if_icmp .ne 9, 3) := by decide +kernel
theorem dX2_append_26 : decode cX2_append 26 = .ok (.aload_n 0, 1) := by decide +kernel
theorem dX2_append_27 : decode cX2_append 27 = .ok (.iconst 2, 1) := by decide +kernel
theorem dX2_append_28 : decode cX2_append 28 = .ok (.invokevirtual 56, 3) := by decide +kernel
theorem dX2_append_31 : decode cX2_append 31 = .ok (.ireturn, 1) := by decide +kernel
theorem dX2_append_32 : decode cX2_append 32 = .ok (.aload_n 0, 1) := by decide +kernel
theorem dX2_append_33 : decode cX2_append 33 = .ok (.iconst 0, 1) := by decide +kernel
theorem dX2_append_34 : decode cX2_append 34 = .ok (.putfield 46, 3) := by decide +kernel
theorem dX2_append_37 : decode cX2_append 37 = .ok (.aload_n 0, 1) := by decide +kernel
theorem dX2_append_38 : decode cX2_append 38 = .ok (.getfield 26, 3) := by decide +kernel
theorem dX2_append_41 : decode cX2_append 41 = .ok (.aload_n 0, 1) := by decide +kernel
theorem dX2_append_42 : decode cX2_append 42 = .ok (.getfield 143, 3) := by decide +kernel
theorem dX2_append_45 : decode cX2_append 45 = .ok (.iload_n 1, 1) := by decide +kernel
theorem dX2_append_46 : decode cX2_append 46 = .ok (.castore, 1) := by decide +kernel
theorem dX2_append_47 : decode cX2_append 47 = .ok (.aload_n 0, 1) := by decide +kernel
theorem dX2_append_48 : decode cX2_append 48 = .ok (.dup, 1) := by decide +kernel
theorem dX2_append_49 : decode cX2_append 49 = .ok (.getfield 143, 3) := by decide +kernel
theorem dX2_append_52 : decode cX2_append 52 = .ok (.iconst 1, 1) := by decide +kernel
theorem dX2_append_53 : decode cX2_append 53 = .ok (.iadd, 1) := by decide +kernel
theorem dX2_append_54 : decode cX2_append 54 = .ok (.putfield 143, 3) := by decide +kernel
theorem dX2_append_57 : decode cX2_append 57 = .ok (.aload_n 0, 1) := by decide +kernel
theorem dX2_append_58 : decode cX2_append 58 = .ok (.getfield 143, 3) := by decide +kernel
theorem dX2_append_61 : decode cX2_append 61 = .ok (.ireturn, 1) := by decide +kernel
theorem dX2_reads_0 : decode cX2_reads 0 = .ok (.aload_n 0, 1) := by decide +kernel
theorem dX2_reads_1 : decode cX2_reads 1 = .ok (.iconst 0, 1) := by decide +kernel
theorem dX2_reads_2 : decode cX2_reads 2 = .ok (.putfield 146, 3) := by decide +kernel
theorem dX2_reads_5 : decode cX2_reads 5 = .ok (.aload_n 0, 1) := by decide +kernel
theorem dX2_reads_6 : decode cX2_reads 6 = .ok (.iconst 0, 1) := by decide +kernel
theorem dX2_reads_7 : decode cX2_reads 7 = .ok (.putfield 149, 3) := by decide +kernel
theorem dX2_reads_10 : decode cX2_reads 10 = .ok (.iconst 0, 1) := by decide +kernel
theorem dX2_reads_11 : decode cX2_reads 11 = .ok (.istore_n 1, 1) := by decide +kernel
theorem dX2_reads_12 : decode cX2_reads 12 = .ok (.iconst 0, 1) := by decide +kernel
theorem dX2_reads_13 : decode cX2_reads 13 = .ok (.istore_n 2, 1) := by decide +kernel
theorem dX2_reads_14 : decode cX2_reads 14 = .ok (.iconst 0, 1) := by decide +kernel
theorem dX2_reads_15 : decode cX2_reads 15 = .ok (.istore_n 3, 1) := by decide +kernel
theorem dX2_reads_16 : decode cX2_reads 16 = .ok (.iload_n 3, 1) := by decide +kernel
theorem dX2_reads_17 : decode cX2_reads 17 = .ok (.aload_n 0, 1) := by decide +kernel
theorem dX2_reads_18 : decode cX2_reads 18 = .ok (.getfield 143, 3) := by decide +kernel
theorem dX2_reads_21 : decode cX2_reads 21 = .ok (.if_icmp .ge 117, 3) := by decide +kernel
theorem dX2_reads_24 : decode cX2_reads 24 = .ok (.aload_n 0, 1) := by decide +kernel
theorem dX2_reads_25 : decode cX2_reads 25 = .ok (.getfield 26, 3) := by decide +kernel
theorem dX2_reads_28 : decode cX2_reads 28 = .ok (.iload_n 3, 1) := by decide +kernel
theorem dX2_reads_29 : decode cX2_reads 29 = .ok (.caload, 1) := by decide +kernel
theorem dX2_reads_30 : decode cX2_reads 30 = .ok (.istore 4, 2) := by decide +kernel
theorem dX2_reads_32 : decode cX2_reads 32 = .ok (.iload 4, 2) := by decide +kernel
theorem dX2_reads_34 : decode cX2_reads 34 = .ok (.bipush 48, 2) := by decide +kernel
theorem dX2_reads_36 : decode cX2_reads 36 = .ok (.if_icmp .eq 10, 3) := by decide +kernel
theorem dX2_reads_39 : decode cX2_reads 39 = .ok (.iload 4, 2) := by decide +kernel
theorem dX2_reads_41 : decode cX2_reads 41 = .ok (.bipush 49, 2) := by decide +kernel
theorem dX2_reads_43 : decode cX2_reads 43 = .ok (.if_icmp .ne 40, 3) := by decide +kernel
theorem dX2_reads_46 : decode cX2_reads 46 = .ok (.iload_n 1, 1) := by decide +kernel
theorem dX2_reads_47 : decode cX2_reads 47 = .ok (.aload_n 0, 1) := by decide +kernel
theorem dX2_reads_48 : decode cX2_reads 48 = .ok (.getfield 146, 3) := by decide +kernel
theorem dX2_reads_51 : decode cX2_reads 51 = .ok (.ifCond .le 10, 3) := by decide +kernel
theorem dX2_reads_54 : decode cX2_reads 54 = .ok (.aload_n 0, 1) := by decide +kernel
theorem dX2_reads_55 : decode cX2_reads 55 = .ok (.getfield 146, 3) := by decide +kernel
theorem dX2_reads_58 : decode cX2_reads 58 = .ok (.goto 4, 3) := by decide +kernel
theorem dX2_reads_61 : decode cX2_reads 61 = .ok (.iconst 4, 1) := by decide +kernel
theorem dX2_reads_62 : decode cX2_reads 62 = .ok (.if_icmp .ne 5, 3) := by decide +kernel
theorem dX2_reads_65 : decode cX2_reads 65 = .ok (.iload_n 3, 1) := by decide +kernel
theorem dX2_reads_66 : decode cX2_reads 66 = .ok (.ireturn, 1) := by decide +kernel
theorem dX2_reads_67 : decode cX2_reads 67 = .ok (.iload_n 2, 1) := by decide +kernel
theorem dX2_reads_68 : decode cX2_reads 68 = .ok (.iload 4, 2) := by decide +kernel
theorem dX2_reads_70 : decode cX2_reads 70 = .ok (.bipush 48, 2) := by decide +kernel
theorem dX2_reads_72 : decode cX2_reads 72 = .ok (.isub, 1) := by decide +kernel
theorem dX2_reads_73 : decode cX2_reads 73 = .ok (.iload_n 1, 1) := by decide +kernel
theorem dX2_reads_74 : decode cX2_reads 74 = .ok (.ishl, 1) := by decide +kernel
theorem dX2_reads_75 : decode cX2_reads 75 = .ok (.ior, 1) := by decide +kernel
theorem dX2_reads_76 : decode cX2_reads 76 = .ok (.istore_n 2, 1) := by decide +kernel
theorem dX2_reads_77 : decode cX2_reads 77 = .ok (.iinc 1 1, 3) := by decide +kernel
theorem dX2_reads_80 : decode cX2_reads 80 = .ok (.goto 52, 3) := by decide +kernel
theorem dX2_reads_83 : decode cX2_reads 83 = .ok (.iload 4, 2) := by decide +kernel
theorem dX2_reads_85 : decode cX2_reads 85 = .ok (.bipush 44, 2) := by decide +kernel
theorem dX2_reads_87 : decode cX2_reads 87 = .ok (.if_icmp .ne 22, 3) := by decide +kernel
theorem dX2_reads_90 : decode cX2_reads 90 = .ok (.iload_n 1, 1) := by decide +kernel
theorem dX2_reads_91 : decode cX2_reads 91 = .ok (.ifCond .eq 18, 3) := by decide +kernel
theorem dX2_reads_94 : decode cX2_reads 94 = .ok (.aload_n 0, 1) := by decide +kernel
theorem dX2_reads_95 : decode cX2_reads 95 = .ok (.getfield 146, 3) := by decide +kernel
theorem dX2_reads_98 : decode cX2_reads 98 = .ok (.ifCond .le 13, 3) := by decide +kernel
theorem dX2_reads_101 : decode cX2_reads 101 = .ok (.iload_n 1, 1) := by decide +kernel
theorem dX2_reads_102 : decode cX2_reads 102 = .ok (.aload_n 0, 1) := by decide +kernel
theorem dX2_reads_103 : decode cX2_reads 103 = .ok (.getfield 146, 3) := by decide +kernel
theorem dX2_reads_106 : decode cX2_reads 106 = .ok (.if_icmp .ge 5, 3) := by decide +kernel
theorem dX2_reads_109 : decode cX2_reads 109 = .ok (.iload_n 3, 1) := by decide +kernel
theorem dX2_reads_110 : decode cX2_reads 110 = .ok (.ireturn, 1) := by decide +kernel
theorem dX2_reads_111 : decode cX2_reads 111 = .ok (.aload_n 0, 1) := by decide +kernel
theorem dX2_reads_112 : decode cX2_reads 112 = .ok (.iload_n 1, 1) := by decide +kernel
theorem dX2_reads_113 : decode cX2_reads 113 = .ok (.putfield 146, 3) := by decide +kernel
theorem dX2_reads_116 : decode cX2_reads 116 = .ok (.aload_n 0, 1) := by decide +kernel
theorem dX2_reads_117 : decode cX2_reads 117 = .ok (.dup, 1) := by decide +kernel
theorem dX2_reads_118 : decode cX2_reads 118 = .ok (.getfield 149, 3) := by decide +kernel
theorem dX2_reads_121 : decode cX2_reads 121 = .ok (.iconst 1, 1) := by decide +kernel
theorem dX2_reads_122 : decode cX2_reads 122 = .ok (.iload_n 2, 1) := by decide +kernel
theorem dX2_reads_123 : decode cX2_reads 123 = .ok (.ishl, 1) := by decide +kernel
theorem dX2_reads_124 : decode cX2_reads 124 = .ok (.ior, 1) := by decide +kernel
theorem dX2_reads_125 : decode cX2_reads 125 = .ok (.putfield 149, 3) := by decide +kernel
theorem dX2_reads_128 : decode cX2_reads 128 = .ok (.iconst 0, 1) := by decide +kernel
theorem dX2_reads_129 : decode cX2_reads 129 = .ok (.istore_n 1, 1) := by decide +kernel
theorem dX2_reads_130 : decode cX2_reads 130 = .ok (.iconst 0, 1) := by decide +kernel
theorem dX2_reads_131 : decode cX2_reads 131 = .ok (.istore_n 2, 1) := by decide +kernel
theorem dX2_reads_132 : decode cX2_reads 132 = .ok (.iinc 3 1, 3) := by decide +kernel
theorem dX2_reads_135 : decode cX2_reads 135 = .ok (.goto (-119), 3) := by decide +kernel
theorem dX2_reads_138 : decode cX2_reads 138 = .ok (.iload_n 1, 1) := by decide +kernel
theorem dX2_reads_139 : decode cX2_reads 139 = .ok (.ifCond .eq 18, 3) := by decide +kernel
theorem dX2_reads_142 : decode cX2_reads 142 = .ok (.aload_n 0, 1) := by decide +kernel
theorem dX2_reads_143 : decode cX2_reads 143 = .ok (.getfield 146, 3) := by decide +kernel
theorem dX2_reads_146 : decode cX2_reads 146 = .ok (.ifCond .le 16, 3) := by decide +kernel
theorem dX2_reads_149 : decode cX2_reads 149 = .ok (.iload_n 1, 1) := by decide +kernel
theorem dX2_reads_150 : decode cX2_reads 150 = .ok (.aload_n 0, 1) := by decide +kernel
theorem dX2_reads_151 : decode cX2_reads 151 = .ok (.getfield 146, 3) := by decide +kernel
theorem dX2_reads_154 : decode cX2_reads 154 = .ok (.if_icmp .ge 8, 3) := by decide +kernel
theorem dX2_reads_157 : decode cX2_reads 157 = .ok (.aload_n 0, 1) := by decide +kernel
theorem dX2_reads_158 : decode cX2_reads 158 = .ok (.getfield 143, 3) := by decide +kernel
theorem dX2_reads_161 : decode cX2_reads 161 = .ok (.ireturn, 1) := by decide +kernel
theorem dX2_reads_162 : decode cX2_reads 162 = .ok (.aload_n 0, 1) := by decide +kernel
theorem dX2_reads_163 : decode cX2_reads 163 = .ok (.iload_n 1, 1) := by decide +kernel
theorem dX2_reads_164 : decode cX2_reads 164 = .ok (.putfield 146, 3) := by decide +kernel
theorem dX2_reads_167 : decode cX2_reads 167 = .ok (.aload_n 0, 1) := by decide +kernel
theorem dX2_reads_168 : decode cX2_reads 168 = .ok (.dup, 1) := by decide +kernel
theorem dX2_reads_169 : decode cX2_reads 169 = .ok (.getfield 149, 3) := by decide +kernel
theorem dX2_reads_172 : decode cX2_reads 172 = .ok (.iconst 1, 1) := by decide +kernel
theorem dX2_reads_173 : decode cX2_reads 173 = .ok (.iload_n 2, 1) := by decide +kernel
theorem dX2_reads_174 : decode cX2_reads 174 = .ok (.ishl, 1) := by decide +kernel
theorem dX2_reads_175 : decode cX2_reads 175 = .ok (.ior, 1) := by decide +kernel
theorem dX2_reads_176 : decode cX2_reads 176 = .ok (.putfield 149, 3) := by decide +kernel
theorem dX2_reads_179 : decode cX2_reads 179 = .ok (.iconst (-1), 1) := by decide +kernel
theorem dX2_reads_180 : decode cX2_reads 180 = .ok (.ireturn, 1) := by decide +kernel
theorem dX2_parse_0 : decode cX2_parse 0 = .ok (.aload_n 0, 1) := by decide +kernel
theorem dX2_parse_1 : decode cX2_parse 1 = .ok (.invokevirtual 152, 3) := by decide +kernel
theorem dX2_parse_4 : decode cX2_parse 4 = .ok (.istore_n 1, 1) := by decide +kernel
theorem dX2_parse_5 : decode cX2_parse 5 = .ok (.aload_n 0, 1) := by decide +kernel
theorem dX2_parse_6 : decode cX2_parse 6 = .ok (.iconst 0, 1) := by decide +kernel
theorem dX2_parse_7 : decode cX2_parse 7 = .ok (.putfield 143, 3) := by decide +kernel
theorem dX2_parse_10 : decode cX2_parse 10 = .ok (.iload_n 1, 1) := by decide +kernel
theorem dX2_parse_11 : decode cX2_parse 11 = .ok (.ifCond .lt 14, 3) := by decide +kernel
theorem dX2_parse_14 : decode cX2_parse 14 = .ok (.aload_n 0, 1) := by decide +kernel
theorem dX2_parse_15 : decode cX2_parse 15 = .ok (.iload_n 1, 1) := by decide +kernel
theorem dX2_parse_16 : decode cX2_parse 16 = .ok (.putfield 33, 3) := by decide +kernel
theorem dX2_parse_19 : decode cX2_parse 19 = .ok (.aload_n 0, 1) := by decide +kernel
theorem dX2_parse_20 : decode cX2_parse 20 = .ok (.iconst 1, 1) := by decide +kernel
theorem dX2_parse_21 : decode cX2_parse 21 = .ok (.invokevirtual 56, 3) := by decide +kernel
theorem dX2_parse_24 : decode cX2_parse 24 = .ok (.ireturn, 1) := by decide +kernel
theorem dX2_parse_25 : decode cX2_parse 25 = .ok (.aload_n 0, 1) := by decide +kernel
theorem dX2_parse_26 : decode cX2_parse 26 = .ok (.getfield 49, 3) := by decide +kernel
theorem dX2_parse_29 : decode cX2_parse 29 = .ok (.bipush 8, 2) := by decide +kernel
theorem dX2_parse_31 : decode cX2_parse 31 = .ok (.if_icmp .ne 9, 3) := by decide +kernel
theorem dX2_parse_34 : decode cX2_parse 34 = .ok (.aload_n 0, 1) := by decide +kernel
theorem dX2_parse_35 : decode cX2_parse 35 = .ok (.iconst 2, 1) := by decide +kernel
theorem dX2_parse_36 : decode cX2_parse 36 = .ok (.invokevirtual 56, 3) := by decide +kernel
theorem dX2_parse_39 : decode cX2_parse 39 = .ok (.ireturn, 1) := by decide +kernel
theorem dX2_parse_40 : decode cX2_parse 40 = .ok (.aload_n 0, 1) := by decide +kernel
theorem dX2_parse_41 : decode cX2_parse 41 = .ok (.aload_n 0, 1) := by decide +kernel
theorem dX2_parse_42 : decode cX2_parse 42 = .ok (.getfield 146, 3) := by decide +kernel
theorem dX2_parse_45 : decode cX2_parse 45 = .ok (.aload_n 0, 1) := by decide +kernel
theorem dX2_parse_46 : decode cX2_parse 46 = .ok (.getfield 149, 3) := by decide +kernel
theorem dX2_parse_49 : decode cX2_parse 49 = .ok (.invokevirtual 60, 3) := by decide +kernel
theorem dX2_parse_52 : decode cX2_parse 52 = .ok (.ireturn, 1) := by decide +kernel
theorem dX2_errorPosition_0 : decode cX2_errorPosition 0 = .ok (.aload_n 0, 1) := by decide +kernel
theorem dX2_errorPosition_1 : decode cX2_errorPosition 1 = .ok (.getfield 33, 3) := by decide +kernel
theorem dX2_errorPosition_4 : decode cX2_errorPosition 4 = .ok (.ifCond .ge 9, 3) := by decide +kernel
theorem dX2_errorPosition_7 : decode cX2_errorPosition 7 = .ok (.aload_n 0, 1) := by decide +kernel
theorem dX2_errorPosition_8 : decode cX2_errorPosition 8 = .ok (.iconst 1, 1) := by decide +kernel
theorem dX2_errorPosition_9 : decode cX2_errorPosition 9 = .ok (.invokevirtual 56, 3) := by decide +kernel
theorem dX2_errorPosition_12 : decode cX2_errorPosition 12 = .ok (.ireturn, 1) := by decide +kernel
theorem dX2_errorPosition_13 : decode cX2_errorPosition 13 = .ok (.aload_n 0, 1) := by decide +kernel
theorem dX2_errorPosition_14 : decode cX2_errorPosition 14 = .ok (.iconst 0, 1) := by decide +kernel
theorem dX2_errorPosition_15 : decode cX2_errorPosition 15 = .ok (.putfield 46, 3) := by decide +kernel
theorem dX2_errorPosition_18 : decode cX2_errorPosition 18 = .ok (.aload_n 0, 1) := by decide +kernel
theorem dX2_errorPosition_19 : decode cX2_errorPosition 19 = .ok (.getfield 33, 3) := by decide +kernel
theorem dX2_errorPosition_22 : decode cX2_errorPosition 22 = .ok (.ireturn, 1) := by decide +kernel
theorem dX2_puts_0 : decode cX2_puts 0 = .ok (.aload_n 0, 1) := by decide +kernel
theorem dX2_puts_1 : decode cX2_puts 1 = .ok (.getfield 30, 3) := by decide +kernel
theorem dX2_puts_4 : decode cX2_puts 4 = .ok (.aload_n 0, 1) := by decide +kernel
theorem dX2_puts_5 : decode cX2_puts 5 = .ok (.getfield 155, 3) := by decide +kernel
theorem dX2_puts_8 : decode cX2_puts 8 = .ok (.iload_n 1, 1) := by decide +kernel
theorem dX2_puts_9 : decode cX2_puts 9 = .ok (.castore, 1) := by decide +kernel
theorem dX2_puts_10 : decode cX2_puts 10 = .ok (.aload_n 0, 1) := by decide +kernel
theorem dX2_puts_11 : decode cX2_puts 11 = .ok (.dup, 1) := by decide +kernel
theorem dX2_puts_12 : decode cX2_puts 12 = .ok (.getfield 155, 3) := by decide +kernel
theorem dX2_puts_15 : decode cX2_puts 15 = .ok (.iconst 1, 1) := by decide +kernel
theorem dX2_puts_16 : decode cX2_puts 16 = .ok (.iadd, 1) := by decide +kernel
theorem dX2_puts_17 : decode cX2_puts 17 = .ok (.putfield 155, 3) := by decide +kernel
theorem dX2_puts_20 : decode cX2_puts 20 = .ok (.return_, 1) := by decide +kernel
theorem dX2_write_0 : decode cX2_write 0 = .ok (.aload_n 0, 1) := by decide +kernel
theorem dX2_write_1 : decode cX2_write 1 = .ok (.iload_n 1, 1) := by decide +kernel
theorem dX2_write_2 : decode cX2_write 2 = .ok (.invokevirtual 78, 3) := by decide +kernel
theorem dX2_write_5 : decode cX2_write 5 = .ok (.ifCond .ne 9, 3) := by decide +kernel
theorem dX2_write_8 : decode cX2_write 8 = .ok (.aload_n 0, 1) := by decide +kernel
theorem dX2_write_9 : decode cX2_write 9 = .ok (.iconst 1, 1) := by decide +kernel
theorem dX2_write_10 : decode cX2_write 10 = .ok (.invokevirtual 56, 3) := by decide +kernel
theorem dX2_write_13 : decode cX2_write 13 = .ok (.ireturn, 1) := by decide +kernel
theorem dX2_write_14 : decode cX2_write 14 = .ok (.aload_n 0, 1) := by decide +kernel
theorem dX2_write_15 : decode cX2_write 15 = .ok (.iconst 0, 1) := by decide +kernel
theorem dX2_write_16 : decode cX2_write 16 = .ok (.putfield 46, 3) := by decide +kernel
theorem dX2_write_19 : decode cX2_write 19 = .ok (.aload_n 0, 1) := by decide +kernel
theorem dX2_write_20 : decode cX2_write 20 = .ok (.iconst 0, 1) := by decide +kernel
theorem dX2_write_21 : decode cX2_write 21 = .ok (.putfield 155, 3) := by decide +kernel
theorem dX2_write_24 : decode cX2_write 24 = .ok (.iconst 0, 1) := by decide +kernel
theorem dX2_write_25 : decode cX2_write 25 = .ok (.istore_n 2, 1) := by decide +kernel
theorem dX2_write_26 : decode cX2_write 26 = .ok (.iload_n 2, 1) := by decide +kernel
theorem dX2_write_27 : decode cX2_write 27 = .ok (.bipush 16, 2) := by decide +kernel
theorem dX2_write_29 : decode cX2_write 29 = .ok (.if_icmp .ge 76, 3) := by decide +kernel
theorem dX2_write_32 : decode cX2_write 32 = .ok (.aload_n 0, 1) := by decide +kernel
theorem dX2_write_33 : decode cX2_write 33 = .ok (.getfield 13, 3) := by decide +kernel
theorem dX2_write_36 : decode cX2_write 36 = .ok (.iload_n 1, 1) := by decide +kernel
theorem dX2_write_37 : decode cX2_write 37 = .ok (.iaload, 1) := by decide +kernel
theorem dX2_write_38 : decode cX2_write 38 = .ok (.iload_n 2, 1) := by decide +kernel
theorem dX2_write_39 : decode cX2_write 39 = .ok (.ishr, 1) := by decide +kernel
theorem dX2_write_40 : decode cX2_write 40 = .ok (.iconst 1, 1) := by decide +kernel
theorem dX2_write_41 : decode cX2_write 41 = .ok (.iand, 1) := by decide +kernel
theorem dX2_write_42 : decode cX2_write 42 = .ok (.ifCond .ne 6, 3) := by decide +kernel
theorem dX2_write_45 : decode cX2_write 45 = .ok (.goto 54, 3) := by decide +kernel
theorem dX2_write_48 : decode cX2_write 48 = .ok (.aload_n 0, 1) := by decide +kernel
theorem dX2_write_49 : decode cX2_write 49 = .ok (.getfield 155, 3) := by decide +kernel
theorem dX2_write_52 : decode cX2_write 52 = .ok (.ifCond .le 9, 3) := by decide +kernel
theorem dX2_write_55 : decode cX2_write 55 = .ok (.aload_n 0, 1) := by decide +kernel
theorem dX2_write_56 : decode cX2_write 56 = .ok (.bipush 44, 2) := by decide +kernel
theorem dX2_write_58 : decode cX2_write 58 = .ok (.invokevirtual 158, 3) := by decide +kernel
theorem dX2_write_61 : decode cX2_write 61 = .ok (.iconst 0, 1) := by decide +kernel
theorem dX2_write_62 : decode cX2_write 62 = .ok (.istore_n 3, 1) := by decide +kernel
theorem dX2_write_63 : decode cX2_write 63 = .ok (.iload_n 3, 1) := by decide +kernel
theorem dX2_write_64 : decode cX2_write 64 = .ok (.aload_n 0, 1) := by decide +kernel
theorem dX2_write_65 : decode cX2_write 65 = .ok (.getfield 7, 3) := by decide +kernel
theorem dX2_write_68 : decode cX2_write 68 = .ok (.iload_n 1, 1) := by decide +kernel
theorem dX2_write_69 : decode cX2_write 69 = .ok (.iaload, 1) := by decide +kernel
theorem dX2_write_70 : decode cX2_write 70 = .ok (.if_icmp .ge 29, 3) := by decide +kernel
theorem dX2_write_73 : decode cX2_write 73 = .ok (.aload_n 0, 1) := by decide +kernel
theorem dX2_write_74 : decode cX2_write 74 = .ok (.iload_n 2, 1) := by decide +kernel
theorem dX2_write_75 : decode cX2_write 75 = .ok (.iload_n 3, 1) := by decide +kernel
theorem dX2_write_76 : decode cX2_write 76 = .ok (.ishr, 1) := by decide +kernel
theorem dX2_write_77 : decode cX2_write 77 = .ok (.iconst 1, 1) := by decide +kernel
theorem dX2_write_78 : decode cX2_write 78 = .ok (.iand, 1) := by decide +kernel
theorem dX2_write_79 : decode cX2_write 79 = .ok (.iconst 1, 1) := by decide +kernel
theorem dX2_write_80 : decode cX2_write 80 = .ok (.if_icmp .ne 8, 3) := by decide +kernel
theorem dX2_write_83 : decode cX2_write 83 = .ok (.bipush 49, 2) := by decide +kernel
theorem dX2_write_85 : decode cX2_write 85 = .ok (.goto 5, 3) := by decide +kernel
theorem dX2_write_88 : decode cX2_write 88 = .ok (.bipush 48, 2) := by decide +kernel
theorem dX2_write_90 : decode cX2_write 90 = .ok (.invokevirtual 158, 3) := by decide +kernel
theorem dX2_write_93 : decode cX2_write 93 = .ok (.iinc 3 1, 3) := by decide +kernel
theorem dX2_write_96 : decode cX2_write 96 = .ok (.goto (-33), 3) := by decide +kernel
theorem dX2_write_99 : decode cX2_write 99 = .ok (.iinc 2 1, 3) := by decide +kernel
theorem dX2_write_102 : decode cX2_write 102 = .ok (.goto (-76), 3) := by decide +kernel
theorem dX2_write_105 : decode cX2_write 105 = .ok (.aload_n 0, 1) := by decide +kernel
theorem dX2_write_106 : decode cX2_write 106 = .ok (.getfield 155, 3) := by decide +kernel
theorem dX2_write_109 : decode cX2_write 109 = .ok (.ireturn, 1) := by decide +kernel
theorem dX2_outputAt_0 : decode cX2_outputAt 0 = .ok (.aload_n 0, 1) := by decide +kernel
theorem dX2_outputAt_1 : decode cX2_outputAt 1 = .ok (.iload_n 1, 1) := by decide +kernel
theorem dX2_outputAt_2 : decode cX2_outputAt 2 = .ok (.iconst 0, 1) := by decide +kernel
theorem dX2_outputAt_3 : decode cX2_outputAt 3 = .ok (.aload_n 0, 1) := by decide +kernel
theorem dX2_outputAt_4 : decode cX2_outputAt 4 = .ok (.getfield 155, 3) := by decide +kernel
theorem dX2_outputAt_7 : decode cX2_outputAt 7 = .ok (.iconst 1, 1) := by decide +kernel
theorem dX2_outputAt_8 : decode cX2_outputAt 8 = .ok (.isub, 1) := by decide +kernel
theorem dX2_outputAt_9 : decode cX2_outputAt 9 = .ok (.invokestatic 52, 3) := by decide +kernel
theorem dX2_outputAt_12 : decode cX2_outputAt 12 = .ok (.ifCond .eq 7, 3) := by decide +kernel
theorem dX2_outputAt_15 : decode cX2_outputAt 15 = .ok (.iconst 0, 1) := by decide +kernel
theorem dX2_outputAt_16 : decode cX2_outputAt 16 = .ok (.goto 4, 3) := by decide +kernel
theorem dX2_outputAt_19 : decode cX2_outputAt 19 = .ok (.iconst 1, 1) := by decide +kernel
theorem dX2_outputAt_20 : decode cX2_outputAt 20 = .ok (.putfield 46, 3) := by decide +kernel
theorem dX2_outputAt_23 : decode cX2_outputAt 23 = .ok (.aload_n 0, 1) := by decide +kernel
theorem dX2_outputAt_24 : decode cX2_outputAt 24 = .ok (.getfield 46, 3) := by decide +kernel
theorem dX2_outputAt_27 : decode cX2_outputAt 27 = .ok (.ifCond .le 7, 3) := by decide +kernel
theorem dX2_outputAt_30 : decode cX2_outputAt 30 = .ok (.iconst 0, 1) := by decide +kernel
theorem dX2_outputAt_31 : decode cX2_outputAt 31 = .ok (.goto 9, 3) := by decide +kernel
theorem dX2_outputAt_34 : decode cX2_outputAt 34 = .ok (.aload_n 0, 1) := by decide +kernel
theorem dX2_outputAt_35 : decode cX2_outputAt 35 = .ok (.getfield 30, 3) := by decide +kernel
theorem dX2_outputAt_38 : decode cX2_outputAt 38 = .ok (.iload_n 1, 1) := by decide +kernel
theorem dX2_outputAt_39 : decode cX2_outputAt 39 = .ok (.caload, 1) := by decide +kernel
theorem dX2_outputAt_40 : decode cX2_outputAt 40 = .ok (.ireturn, 1) := by decide +kernel
theorem dX2_isSlot_0 : decode cX2_isSlot 0 = .ok (.iload_n 0, 1) := by decide +kernel
theorem dX2_isSlot_1 : decode cX2_isSlot 1 = .ok (.ifCond .lt 12, 3) := by decide +kernel
theorem dX2_isSlot_4 : decode cX2_isSlot 4 = .ok (.iload_n 0, 1) := by decide +kernel
theorem dX2_isSlot_5 : decode cX2_isSlot 5 = .ok (.iconst 3, 1) := by decide +kernel
theorem dX2_isSlot_6 : decode cX2_isSlot 6 = .ok (.if_icmp .ge 7, 3) := by decide +kernel
theorem dX2_isSlot_9 : decode cX2_isSlot 9 = .ok (.iconst 1, 1) := by decide +kernel
theorem dX2_isSlot_10 : decode cX2_isSlot 10 = .ok (.goto 4, 3) := by decide +kernel
theorem dX2_isSlot_13 : decode cX2_isSlot 13 = .ok (.iconst 0, 1) := by decide +kernel
theorem dX2_isSlot_14 : decode cX2_isSlot 14 = .ok (.ireturn, 1) := by decide +kernel
theorem dX2_storeFlags_0 : decode cX2_storeFlags 0 = .ok (.iload_n 1, 1) := by decide +kernel
theorem dX2_storeFlags_1 : decode cX2_storeFlags 1 = .ok (.invokestatic 162, 3) := by decide +kernel
theorem dX2_storeFlags_4 : decode cX2_storeFlags 4 = .ok (.ifCond .eq 11, 3) := by decide +kernel
theorem dX2_storeFlags_7 : decode cX2_storeFlags 7 = .ok (.aload_n 0, 1) := by decide +kernel
theorem dX2_storeFlags_8 : decode cX2_storeFlags 8 = .ok (.iload_n 3, 1) := by decide +kernel
theorem dX2_storeFlags_9 : decode cX2_storeFlags 9 = .ok (.invokevirtual 78, 3) := by decide +kernel
theorem dX2_storeFlags_12 : decode cX2_storeFlags 12 = .ok (.ifCond .ne 9, 3) := by decide +kernel
theorem dX2_storeFlags_15 : decode cX2_storeFlags 15 = .ok (.aload_n 0, 1) := by decide +kernel
theorem dX2_storeFlags_16 : decode cX2_storeFlags 16 = .ok (.iconst 1, 1) := by decide +kernel
theorem dX2_storeFlags_17 : decode cX2_storeFlags 17 = .ok (.invokevirtual 56, 3) := by decide +kernel
theorem dX2_storeFlags_20 : decode cX2_storeFlags 20 = .ok (.ireturn, 1) := by decide +kernel
theorem dX2_storeFlags_21 : decode cX2_storeFlags 21 = .ok (.iload_n 2, 1) := by decide +kernel
theorem dX2_storeFlags_22 : decode cX2_storeFlags 22 = .ok (.iconst 0, 1) := by decide +kernel
theorem dX2_storeFlags_23 : decode cX2_storeFlags 23 = .ok (.bipush 16, 2) := by decide +kernel
theorem dX2_storeFlags_25 : decode cX2_storeFlags 25 = .ok (.invokestatic 52, 3) := by decide +kernel
theorem dX2_storeFlags_28 : decode cX2_storeFlags 28 = .ok (.ifCond .ne 9, 3) := by decide +kernel
theorem dX2_storeFlags_31 : decode cX2_storeFlags 31 = .ok (.aload_n 0, 1) := by decide +kernel
theorem dX2_storeFlags_32 : decode cX2_storeFlags 32 = .ok (.iconst 2, 1) := by decide +kernel
theorem dX2_storeFlags_33 : decode cX2_storeFlags 33 = .ok (.invokevirtual 56, 3) := by decide +kernel
theorem dX2_storeFlags_36 : decode cX2_storeFlags 36 = .ok (.ireturn, 1) := by decide +kernel
theorem dX2_storeFlags_37 : decode cX2_storeFlags 37 = .ok (.aload_n 0, 1) := by decide +kernel
theorem dX2_storeFlags_38 : decode cX2_storeFlags 38 = .ok (.iconst 0, 1) := by decide +kernel
theorem dX2_storeFlags_39 : decode cX2_storeFlags 39 = .ok (.putfield 46, 3) := by decide +kernel
theorem dX2_storeFlags_42 : decode cX2_storeFlags 42 = .ok (.aload_n 0, 1) := by decide +kernel
theorem dX2_storeFlags_43 : decode cX2_storeFlags 43 = .ok (.getfield 40, 3) := by decide +kernel
theorem dX2_storeFlags_46 : decode cX2_storeFlags 46 = .ok (.iload_n 1, 1) := by decide +kernel
theorem dX2_storeFlags_47 : decode cX2_storeFlags 47 = .ok (.iload_n 2, 1) := by decide +kernel
theorem dX2_storeFlags_48 : decode cX2_storeFlags 48 = .ok (.iastore, 1) := by decide +kernel
theorem dX2_storeFlags_49 : decode cX2_storeFlags 49 = .ok (.iconst 0, 1) := by decide +kernel
theorem dX2_storeFlags_50 : decode cX2_storeFlags 50 = .ok (.istore 4, 2) := by decide +kernel
theorem dX2_storeFlags_52 : decode cX2_storeFlags 52 = .ok (.iconst 0, 1) := by decide +kernel
theorem dX2_storeFlags_53 : decode cX2_storeFlags 53 = .ok (.istore 5, 2) := by decide +kernel
theorem dX2_storeFlags_55 : decode cX2_storeFlags 55 = .ok (.iload 5, 2) := by decide +kernel
theorem dX2_storeFlags_57 : decode cX2_storeFlags 57 = .ok (.iload_n 2, 1) := by decide +kernel
theorem dX2_storeFlags_58 : decode cX2_storeFlags 58 = .ok (.if_icmp .ge 60, 3) := by decide +kernel
theorem dX2_storeFlags_61 : decode cX2_storeFlags 61 = .ok (.aload_n 0, 1) := by decide +kernel
theorem dX2_storeFlags_62 : decode cX2_storeFlags 62 = .ok (.getfield 13, 3) := by decide +kernel
theorem dX2_storeFlags_65 : decode cX2_storeFlags 65 = .ok (.iload_n 3, 1) := by decide +kernel
theorem dX2_storeFlags_66 : decode cX2_storeFlags 66 = .ok (.iaload, 1) := by decide +kernel
theorem dX2_storeFlags_67 : decode cX2_storeFlags 67 = .ok (.iload 5, 2) := by decide +kernel
theorem dX2_storeFlags_69 : decode cX2_storeFlags 69 = .ok (.ishr, 1) := by decide +kernel
theorem dX2_storeFlags_70 : decode cX2_storeFlags 70 = .ok (.iconst 1, 1) := by decide +kernel
theorem dX2_storeFlags_71 : decode cX2_storeFlags 71 = .ok (.iand, 1) := by decide +kernel
theorem dX2_storeFlags_72 : decode cX2_storeFlags 72 = .ok (.iconst 1, 1) := by decide +kernel
theorem dX2_storeFlags_73 : decode cX2_storeFlags 73 = .ok (.if_icmp .ne 7, 3) := by decide +kernel
theorem dX2_storeFlags_76 : decode cX2_storeFlags 76 = .ok (.iconst 1, 1) := by decide +kernel
theorem dX2_storeFlags_77 : decode cX2_storeFlags 77 = .ok (.goto 4, 3) := by decide +kernel
theorem dX2_storeFlags_80 : decode cX2_storeFlags 80 = .ok (.iconst 0, 1) := by decide +kernel
theorem dX2_storeFlags_81 : decode cX2_storeFlags 81 = .ok (.istore 6, 2) := by decide +kernel
theorem dX2_storeFlags_83 : decode cX2_storeFlags 83 = .ok (.aload_n 0, 1) := by decide +kernel
theorem dX2_storeFlags_84 : decode cX2_storeFlags 84 = .ok (.getfield 36, 3) := by decide +kernel
theorem dX2_storeFlags_87 : decode cX2_storeFlags 87 = .ok (.bipush 16, 2) := by decide +kernel
theorem dX2_storeFlags_89 : decode cX2_storeFlags 89 = .ok (.iload_n 1, 1) := by decide +kernel
theorem dX2_storeFlags_90 : decode cX2_storeFlags 90 = .ok (.imul, 1) := by decide +kernel
theorem dX2_storeFlags_91 : decode cX2_storeFlags 91 = .ok (.iload 5, 2) := by decide +kernel
theorem dX2_storeFlags_93 : decode cX2_storeFlags 93 = .ok (.iadd, 1) := by decide +kernel
theorem dX2_storeFlags_94 : decode cX2_storeFlags 94 = .ok (.iload 6, 2) := by decide +kernel
theorem dX2_storeFlags_96 : decode cX2_storeFlags 96 = .ok (.bastore, 1) := by decide +kernel
theorem dX2_storeFlags_97 : decode cX2_storeFlags 97 = .ok (.iload 4, 2) := by decide +kernel
theorem dX2_storeFlags_99 : decode cX2_storeFlags 99 = .ok (.iload 6, 2) := by decide +kernel
theorem dX2_storeFlags_101 : decode cX2_storeFlags 101 = .ok (.ifCond .eq 7, 3) := by decide +kernel
theorem dX2_storeFlags_104 : decode cX2_storeFlags 104 = .ok (.iconst 1, 1) := by decide +kernel
theorem dX2_storeFlags_105 : decode cX2_storeFlags 105 = .ok (.goto 4, 3) := by decide +kernel
theorem dX2_storeFlags_108 : decode cX2_storeFlags 108 = .ok (.iconst 0, 1) := by decide +kernel
theorem dX2_storeFlags_109 : decode cX2_storeFlags 109 = .ok (.iadd, 1) := by decide +kernel
theorem dX2_storeFlags_110 : decode cX2_storeFlags 110 = .ok (.istore 4, 2) := by decide +kernel
theorem dX2_storeFlags_112 : decode cX2_storeFlags 112 = .ok (.iinc 5 1, 3) := by decide +kernel
theorem dX2_storeFlags_115 : decode cX2_storeFlags 115 = .ok (.goto (-60), 3) := by decide +kernel
theorem dX2_storeFlags_118 : decode cX2_storeFlags 118 = .ok (.iload 4, 2) := by decide +kernel
theorem dX2_storeFlags_120 : decode cX2_storeFlags 120 = .ok (.ireturn, 1) := by decide +kernel
theorem dX2_setFlag_0 : decode cX2_setFlag 0 = .ok (.iload_n 1, 1) := by decide +kernel
theorem dX2_setFlag_1 : decode cX2_setFlag 1 = .ok (.invokestatic 162, 3) := by decide +kernel
theorem dX2_setFlag_4 : decode cX2_setFlag 4 = .ok (.ifCond .ne 9, 3) := by decide +kernel
theorem dX2_setFlag_7 : decode cX2_setFlag 7 = .ok (.aload_n 0, 1) := by decide +kernel
theorem dX2_setFlag_8 : decode cX2_setFlag 8 = .ok (.iconst 1, 1) := by decide +kernel
theorem dX2_setFlag_9 : decode cX2_setFlag 9 = .ok (.invokevirtual 101, 3) := by decide +kernel
theorem dX2_setFlag_12 : decode cX2_setFlag 12 = .ok (.ireturn, 1) := by decide +kernel
theorem dX2_setFlag_13 : decode cX2_setFlag 13 = .ok (.aload_n 0, 1) := by decide +kernel
theorem dX2_setFlag_14 : decode cX2_setFlag 14 = .ok (.getfield 40, 3) := by decide +kernel
theorem dX2_setFlag_17 : decode cX2_setFlag 17 = .ok (.iload_n 1, 1) := by decide +kernel
theorem dX2_setFlag_18 : decode cX2_setFlag 18 = .ok (.iaload, 1) := by decide +kernel
theorem dX2_setFlag_19 : decode cX2_setFlag 19 = .ok (.ifCond .ge 9, 3) := by decide +kernel
theorem dX2_setFlag_22 : decode cX2_setFlag 22 = .ok (.aload_n 0, 1) := by decide +kernel
theorem dX2_setFlag_23 : decode cX2_setFlag 23 = .ok (.iconst 2, 1) := by decide +kernel
theorem dX2_setFlag_24 : decode cX2_setFlag 24 = .ok (.invokevirtual 101, 3) := by decide +kernel
theorem dX2_setFlag_27 : decode cX2_setFlag 27 = .ok (.ireturn, 1) := by decide +kernel
theorem dX2_setFlag_28 : decode cX2_setFlag 28 = .ok (.iload_n 2, 1) := by decide +kernel
theorem dX2_setFlag_29 : decode cX2_setFlag 29 = .ok (.iconst 0, 1) := by decide +kernel
theorem dX2_setFlag_30 : decode cX2_setFlag 30 = .ok (.aload_n 0, 1) := by decide +kernel
theorem dX2_setFlag_31 : decode cX2_setFlag 31 = .ok (.getfield 40, 3) := by decide +kernel
theorem dX2_setFlag_34 : decode cX2_setFlag 34 = .ok (.iload_n 1, 1) := by decide +kernel
theorem dX2_setFlag_35 : decode cX2_setFlag 35 = .ok (.iaload, 1) := by decide +kernel
theorem dX2_setFlag_36 : decode cX2_setFlag 36 = .ok (.iconst 1, 1) := by decide +kernel
theorem dX2_setFlag_37 : decode cX2_setFlag 37 = .ok (.isub, 1) := by decide +kernel
theorem dX2_setFlag_38 : decode cX2_setFlag 38 = .ok (.invokestatic 52, 3) := by decide +kernel
theorem dX2_setFlag_41 : decode cX2_setFlag 41 = .ok (.ifCond .ne 9, 3) := by decide +kernel
theorem dX2_setFlag_44 : decode cX2_setFlag 44 = .ok (.aload_n 0, 1) := by decide +kernel
theorem dX2_setFlag_45 : decode cX2_setFlag 45 = .ok (.iconst 1, 1) := by decide +kernel
theorem dX2_setFlag_46 : decode cX2_setFlag 46 = .ok (.invokevirtual 101, 3) := by decide +kernel
theorem dX2_setFlag_49 : decode cX2_setFlag 49 = .ok (.ireturn, 1) := by decide +kernel
theorem dX2_setFlag_50 : decode cX2_setFlag 50 = .ok (.aload_n 0, 1) := by decide +kernel
theorem dX2_setFlag_51 : decode cX2_setFlag 51 = .ok (.iconst 0, 1) := by decide +kernel
theorem dX2_setFlag_52 : decode cX2_setFlag 52 = .ok (.putfield 46, 3) := by decide +kernel
theorem dX2_setFlag_55 : decode cX2_setFlag 55 = .ok (.aload_n 0, 1) := by decide +kernel
theorem dX2_setFlag_56 : decode cX2_setFlag 56 = .ok (.getfield 36, 3) := by decide +kernel
theorem dX2_setFlag_59 : decode cX2_setFlag 59 = .ok (.bipush 16, 2) := by decide +kernel
theorem dX2_setFlag_61 : decode cX2_setFlag 61 = .ok (.iload_n 1, 1) := by decide +kernel
theorem dX2_setFlag_62 : decode cX2_setFlag 62 = .ok (.imul, 1) := by decide +kernel
theorem dX2_setFlag_63 : decode cX2_setFlag 63 = .ok (.iload_n 2, 1) := by decide +kernel
theorem dX2_setFlag_64 : decode cX2_setFlag 64 = .ok (.iadd, 1) := by decide +kernel
theorem dX2_setFlag_65 : decode cX2_setFlag 65 = .ok (.baload, 1) := by decide +kernel
theorem dX2_setFlag_66 : decode cX2_setFlag 66 = .ok (.istore 4, 2) := by decide +kernel
theorem dX2_setFlag_68 : decode cX2_setFlag 68 = .ok (.aload_n 0, 1) := by decide +kernel
theorem dX2_setFlag_69 : decode cX2_setFlag 69 = .ok (.getfield 36, 3) := by decide +kernel
theorem dX2_setFlag_72 : decode cX2_setFlag 72 = .ok (.bipush 16, 2) := by decide +kernel
theorem dX2_setFlag_74 : decode cX2_setFlag 74 = .ok (.iload_n 1, 1) := by decide +kernel
theorem dX2_setFlag_75 : decode cX2_setFlag 75 = .ok (.imul, 1) := by decide +kernel
theorem dX2_setFlag_76 : decode cX2_setFlag 76 = .ok (.iload_n 2, 1) := by decide +kernel
theorem dX2_setFlag_77 : decode cX2_setFlag 77 = .ok (.iadd, 1) := by decide +kernel
theorem dX2_setFlag_78 : decode cX2_setFlag 78 = .ok (.iload_n 3, 1) := by decide +kernel
theorem dX2_setFlag_79 : decode cX2_setFlag 79 = .ok (.bastore, 1) := by decide +kernel
theorem dX2_setFlag_80 : decode cX2_setFlag 80 = .ok (.iload 4, 2) := by decide +kernel
theorem dX2_setFlag_82 : decode cX2_setFlag 82 = .ok (.ireturn, 1) := by decide +kernel
theorem dX2_takeFlags_0 : decode cX2_takeFlags 0 = .ok (.iload_n 1, 1) := by decide +kernel
theorem dX2_takeFlags_1 : decode cX2_takeFlags 1 = .ok (.invokestatic 162, 3) := by decide +kernel
theorem dX2_takeFlags_4 : decode cX2_takeFlags 4 = .ok (.ifCond .eq 11, 3) := by decide +kernel
theorem dX2_takeFlags_7 : decode cX2_takeFlags 7 = .ok (.aload_n 0, 1) := by decide +kernel
theorem dX2_takeFlags_8 : decode cX2_takeFlags 8 = .ok (.iload_n 2, 1) := by decide +kernel
theorem dX2_takeFlags_9 : decode cX2_takeFlags 9 = .ok (.invokevirtual 78, 3) := by decide +kernel
theorem dX2_takeFlags_12 : decode cX2_takeFlags 12 = .ok (.ifCond .ne 9, 3) := by decide +kernel
theorem dX2_takeFlags_15 : decode cX2_takeFlags 15 = .ok (.aload_n 0, 1) := by decide +kernel
theorem dX2_takeFlags_16 : decode cX2_takeFlags 16 = .ok (.iconst 1, 1) := by decide +kernel
theorem dX2_takeFlags_17 : decode cX2_takeFlags 17 = .ok (.invokevirtual 56, 3) := by decide +kernel
theorem dX2_takeFlags_20 : decode cX2_takeFlags 20 = .ok (.ireturn, 1) := by decide +kernel
theorem dX2_takeFlags_21 : decode cX2_takeFlags 21 = .ok (.aload_n 0, 1) := by decide +kernel
theorem dX2_takeFlags_22 : decode cX2_takeFlags 22 = .ok (.getfield 40, 3) := by decide +kernel
theorem dX2_takeFlags_25 : decode cX2_takeFlags 25 = .ok (.iload_n 1, 1) := by decide +kernel
theorem dX2_takeFlags_26 : decode cX2_takeFlags 26 = .ok (.iaload, 1) := by decide +kernel
theorem dX2_takeFlags_27 : decode cX2_takeFlags 27 = .ok (.ifCond .ge 9, 3) := by decide +kernel
theorem dX2_takeFlags_30 : decode cX2_takeFlags 30 = .ok (.aload_n 0, 1) := by decide +kernel
theorem dX2_takeFlags_31 : decode cX2_takeFlags 31 = .ok (.iconst 2, 1) := by decide +kernel
theorem dX2_takeFlags_32 : decode cX2_takeFlags 32 = .ok (.invokevirtual 56, 3) := by decide +kernel
theorem dX2_takeFlags_35 : decode cX2_takeFlags 35 = .ok (.ireturn, 1) := by decide +kernel
theorem dX2_takeFlags_36 : decode cX2_takeFlags 36 = .ok (.aload_n 0, 1) := by decide +kernel
theorem dX2_takeFlags_37 : decode cX2_takeFlags 37 = .ok (.iconst 0, 1) := by decide +kernel
theorem dX2_takeFlags_38 : decode cX2_takeFlags 38 = .ok (.putfield 46, 3) := by decide +kernel
theorem dX2_takeFlags_41 : decode cX2_takeFlags 41 = .ok (.iconst 0, 1) := by decide +kernel
theorem dX2_takeFlags_42 : decode cX2_takeFlags 42 = .ok (.istore_n 3, 1) := by decide +kernel
theorem dX2_takeFlags_43 : decode cX2_takeFlags 43 = .ok (.iconst 0, 1) := by decide +kernel
theorem dX2_takeFlags_44 : decode cX2_takeFlags 44 = .ok (.istore 4, 2) := by decide +kernel
theorem dX2_takeFlags_46 : decode cX2_takeFlags 46 = .ok (.iload 4, 2) := by decide +kernel
theorem dX2_takeFlags_48 : decode cX2_takeFlags 48 = .ok (.aload_n 0, 1) := by decide +kernel
theorem dX2_takeFlags_49 : decode cX2_takeFlags 49 = .ok (.getfield 40, 3) := by decide +kernel
theorem dX2_takeFlags_52 : decode cX2_takeFlags 52 = .ok (.iload_n 1, 1) := by decide +kernel
theorem dX2_takeFlags_53 : decode cX2_takeFlags 53 = .ok (.iaload, 1) := by decide +kernel
theorem dX2_takeFlags_54 : decode cX2_takeFlags 54 = .ok (.if_icmp .ge 48, 3) := by decide +kernel
theorem dX2_takeFlags_57 : decode cX2_takeFlags 57 = .ok (.iload 4, 2) := by decide +kernel
theorem dX2_takeFlags_59 : decode cX2_takeFlags 59 = .ok (.iconst 1, 1) := by decide +kernel
theorem dX2_takeFlags_60 : decode cX2_takeFlags 60 = .ok (.aload_n 0, 1) := by decide +kernel
theorem dX2_takeFlags_61 : decode cX2_takeFlags 61 = .ok (.getfield 7, 3) := by decide +kernel
theorem dX2_takeFlags_64 : decode cX2_takeFlags 64 = .ok (.iload_n 2, 1) := by decide +kernel
theorem dX2_takeFlags_65 : decode cX2_takeFlags 65 = .ok (.iaload, 1) := by decide +kernel
theorem dX2_takeFlags_66 : decode cX2_takeFlags 66 = .ok (.ishl, 1) := by decide +kernel
theorem dX2_takeFlags_67 : decode cX2_takeFlags 67 = .ok (.if_icmp .ge 35, 3) := by decide +kernel
theorem dX2_takeFlags_70 : decode cX2_takeFlags 70 = .ok (.iload_n 3, 1) := by decide +kernel
theorem dX2_takeFlags_71 : decode cX2_takeFlags 71 = .ok (.aload_n 0, 1) := by decide +kernel
theorem dX2_takeFlags_72 : decode cX2_takeFlags 72 = .ok (.getfield 36, 3) := by decide +kernel
theorem dX2_takeFlags_75 : decode cX2_takeFlags 75 = .ok (.bipush 16, 2) := by decide +kernel
theorem dX2_takeFlags_77 : decode cX2_takeFlags 77 = .ok (.iload_n 1, 1) := by decide +kernel
theorem dX2_takeFlags_78 : decode cX2_takeFlags 78 = .ok (.imul, 1) := by decide +kernel
theorem dX2_takeFlags_79 : decode cX2_takeFlags 79 = .ok (.iload 4, 2) := by decide +kernel
theorem dX2_takeFlags_81 : decode cX2_takeFlags 81 = .ok (.iadd, 1) := by decide +kernel
theorem dX2_takeFlags_82 : decode cX2_takeFlags 82 = .ok (.baload, 1) := by decide +kernel
theorem dX2_takeFlags_83 : decode cX2_takeFlags 83 = .ok (.ifCond .eq 10, 3) := by decide +kernel
theorem dX2_takeFlags_86 : decode cX2_takeFlags 86 = .ok (.iconst 1, 1) := by decide +kernel
theorem dX2_takeFlags_87 : decode cX2_takeFlags 87 = .ok (.iload 4, 2) := by decide +kernel
theorem dX2_takeFlags_89 : decode cX2_takeFlags 89 = .ok (.ishl, 1) := by decide +kernel
theorem dX2_takeFlags_90 : decode cX2_takeFlags 90 = .ok (.goto 4, 3) := by decide +kernel
theorem dX2_takeFlags_93 : decode cX2_takeFlags 93 = .ok (.iconst 0, 1) := by decide +kernel
theorem dX2_takeFlags_94 : decode cX2_takeFlags 94 = .ok (.ior, 1) := by decide +kernel
theorem dX2_takeFlags_95 : decode cX2_takeFlags 95 = .ok (.istore_n 3, 1) := by decide +kernel
theorem dX2_takeFlags_96 : decode cX2_takeFlags 96 = .ok (.iinc 4 1, 3) := by decide +kernel
theorem dX2_takeFlags_99 : decode cX2_takeFlags 99 = .ok (.goto (-53), 3) := by decide +kernel
theorem dX2_takeFlags_102 : decode cX2_takeFlags 102 = .ok (.aload_n 0, 1) := by decide +kernel
theorem dX2_takeFlags_103 : decode cX2_takeFlags 103 = .ok (.getfield 13, 3) := by decide +kernel
theorem dX2_takeFlags_106 : decode cX2_takeFlags 106 = .ok (.iload_n 2, 1) := by decide +kernel
theorem dX2_takeFlags_107 : decode cX2_takeFlags 107 = .ok (.iload_n 3, 1) := by decide +kernel
theorem dX2_takeFlags_108 : decode cX2_takeFlags 108 = .ok (.iastore, 1) := by decide +kernel
theorem dX2_takeFlags_109 : decode cX2_takeFlags 109 = .ok (.iload_n 3, 1) := by decide +kernel
theorem dX2_takeFlags_110 : decode cX2_takeFlags 110 = .ok (.invokestatic 75, 3) := by decide +kernel
theorem dX2_takeFlags_113 : decode cX2_takeFlags 113 = .ok (.ireturn, 1) := by decide +kernel
theorem dX2_passes_0 : decode cX2_passes 0 = .ok (.aload_n 0, 1) := by decide +kernel
theorem dX2_passes_1 : decode cX2_passes 1 = .ok (.getfield 165, 3) := by decide +kernel
theorem dX2_passes_4 : decode cX2_passes 4 = .ok (.ifCond .eq 7, 3) := by decide +kernel
theorem dX2_passes_7 : decode cX2_passes 7 = .ok (.iload_n 1, 1) := by decide +kernel
theorem dX2_passes_8 : decode cX2_passes 8 = .ok (.goto 12, 3) := by decide +kernel
theorem dX2_passes_11 : decode cX2_passes 11 = .ok (.aload_n 0, 1) := by decide +kernel
theorem dX2_passes_12 : decode cX2_passes 12 = .ok (.getfield 43, 3) := by decide +kernel
theorem dX2_passes_15 : decode cX2_passes 15 = .ok (.aload_n 0, 1) := by decide +kernel
theorem dX2_passes_16 : decode cX2_passes 16 = .ok (.getfield 169, 3) := by decide +kernel
theorem dX2_passes_19 : decode cX2_passes 19 = .ok (.iaload, 1) := by decide +kernel
theorem dX2_passes_20 : decode cX2_passes 20 = .ok (.istore_n 2, 1) := by decide +kernel
theorem dX2_passes_21 : decode cX2_passes 21 = .ok (.aload_n 0, 1) := by decide +kernel
theorem dX2_passes_22 : decode cX2_passes 22 = .ok (.getfield 43, 3) := by decide +kernel
theorem dX2_passes_25 : decode cX2_passes 25 = .ok (.aload_n 0, 1) := by decide +kernel
theorem dX2_passes_26 : decode cX2_passes 26 = .ok (.getfield 169, 3) := by decide +kernel
theorem dX2_passes_29 : decode cX2_passes 29 = .ok (.iload_n 2, 1) := by decide +kernel
theorem dX2_passes_30 : decode cX2_passes 30 = .ok (.iastore, 1) := by decide +kernel
theorem dX2_passes_31 : decode cX2_passes 31 = .ok (.aload_n 0, 1) := by decide +kernel
theorem dX2_passes_32 : decode cX2_passes 32 = .ok (.dup, 1) := by decide +kernel
theorem dX2_passes_33 : decode cX2_passes 33 = .ok (.getfield 169, 3) := by decide +kernel
theorem dX2_passes_36 : decode cX2_passes 36 = .ok (.iconst 1, 1) := by decide +kernel
theorem dX2_passes_37 : decode cX2_passes 37 = .ok (.iadd, 1) := by decide +kernel
theorem dX2_passes_38 : decode cX2_passes 38 = .ok (.putfield 169, 3) := by decide +kernel
theorem dX2_passes_41 : decode cX2_passes 41 = .ok (.iload_n 2, 1) := by decide +kernel
theorem dX2_passes_42 : decode cX2_passes 42 = .ok (.ireturn, 1) := by decide +kernel
theorem dX2_passAll_0 : decode cX2_passAll 0 = .ok (.iconst 0, 1) := by decide +kernel
theorem dX2_passAll_1 : decode cX2_passAll 1 = .ok (.istore_n 2, 1) := by decide +kernel
theorem dX2_passAll_2 : decode cX2_passAll 2 = .ok (.iload_n 2, 1) := by decide +kernel
theorem dX2_passAll_3 : decode cX2_passAll 3 = .ok (.aload_n 1, 1) := by decide +kernel
theorem dX2_passAll_4 : decode cX2_passAll 4 = .ok (.arraylength, 1) := by decide +kernel
theorem dX2_passAll_5 : decode cX2_passAll 5 = .ok (.if_icmp .ge 19, 3) := by decide +kernel
theorem dX2_passAll_8 : decode cX2_passAll 8 = .ok (.aload_n 1, 1) := by decide +kernel
theorem dX2_passAll_9 : decode cX2_passAll 9 = .ok (.iload_n 2, 1) := by decide +kernel
theorem dX2_passAll_10 : decode cX2_passAll 10 = .ok (.aload_n 0, 1) := by decide +kernel
theorem dX2_passAll_11 : decode cX2_passAll 11 = .ok (.aload_n 1, 1) := by decide +kernel
theorem dX2_passAll_12 : decode cX2_passAll 12 = .ok (.iload_n 2, 1) := by decide +kernel
theorem dX2_passAll_13 : decode cX2_passAll 13 = .ok (.iaload, 1) := by decide +kernel
theorem dX2_passAll_14 : decode cX2_passAll 14 = .ok (.invokevirtual 172, 3) := by decide +kernel
theorem dX2_passAll_17 : decode cX2_passAll 17 = .ok (.iastore, 1) := by decide +kernel
theorem dX2_passAll_18 : decode cX2_passAll 18 = .ok (.iinc 2 1, 3) := by decide +kernel
theorem dX2_passAll_21 : decode cX2_passAll 21 = .ok (.goto (-19), 3) := by decide +kernel
theorem dX2_passAll_24 : decode cX2_passAll 24 = .ok (.return_, 1) := by decide +kernel
theorem dX2_passState_0 : decode cX2_passState 0 = .ok (.aload_n 0, 1) := by decide +kernel
theorem dX2_passState_1 : decode cX2_passState 1 = .ok (.iconst 0, 1) := by decide +kernel
theorem dX2_passState_2 : decode cX2_passState 2 = .ok (.putfield 46, 3) := by decide +kernel
theorem dX2_passState_5 : decode cX2_passState 5 = .ok (.aload_n 0, 1) := by decide +kernel
theorem dX2_passState_6 : decode cX2_passState 6 = .ok (.iload_n 1, 1) := by decide +kernel
theorem dX2_passState_7 : decode cX2_passState 7 = .ok (.putfield 165, 3) := by decide +kernel
theorem dX2_passState_10 : decode cX2_passState 10 = .ok (.aload_n 0, 1) := by decide +kernel
theorem dX2_passState_11 : decode cX2_passState 11 = .ok (.iconst 0, 1) := by decide +kernel
theorem dX2_passState_12 : decode cX2_passState 12 = .ok (.putfield 169, 3) := by decide +kernel
theorem dX2_passState_15 : decode cX2_passState 15 = .ok (.aload_n 0, 1) := by decide +kernel
theorem dX2_passState_16 : decode cX2_passState 16 = .ok (.aload_n 0, 1) := by decide +kernel
theorem dX2_passState_17 : decode cX2_passState 17 = .ok (.aload_n 0, 1) := by decide +kernel
theorem dX2_passState_18 : decode cX2_passState 18 = .ok (.getfield 49, 3) := by decide +kernel
theorem dX2_passState_21 : decode cX2_passState 21 = .ok (.invokevirtual 172, 3) := by decide +kernel
theorem dX2_passState_24 : decode cX2_passState 24 = .ok (.putfield 49, 3) := by decide +kernel
theorem dX2_passState_27 : decode cX2_passState 27 = .ok (.aload_n 0, 1) := by decide +kernel
theorem dX2_passState_28 : decode cX2_passState 28 = .ok (.aload_n 0, 1) := by decide +kernel
theorem dX2_passState_29 : decode cX2_passState 29 = .ok (.aload_n 0, 1) := by decide +kernel
theorem dX2_passState_30 : decode cX2_passState 30 = .ok (.getfield 22, 3) := by decide +kernel
theorem dX2_passState_33 : decode cX2_passState 33 = .ok (.invokevirtual 172, 3) := by decide +kernel
theorem dX2_passState_36 : decode cX2_passState 36 = .ok (.putfield 22, 3) := by decide +kernel
theorem dX2_passState_39 : decode cX2_passState 39 = .ok (.aload_n 0, 1) := by decide +kernel
theorem dX2_passState_40 : decode cX2_passState 40 = .ok (.aload_n 0, 1) := by decide +kernel
theorem dX2_passState_41 : decode cX2_passState 41 = .ok (.aload_n 0, 1) := by decide +kernel
theorem dX2_passState_42 : decode cX2_passState 42 = .ok (.getfield 84, 3) := by decide +kernel
theorem dX2_passState_45 : decode cX2_passState 45 = .ok (.invokevirtual 172, 3) := by decide +kernel
theorem dX2_passState_48 : decode cX2_passState 48 = .ok (.putfield 84, 3) := by decide +kernel
theorem dX2_passState_51 : decode cX2_passState 51 = .ok (.aload_n 0, 1) := by decide +kernel
theorem dX2_passState_52 : decode cX2_passState 52 = .ok (.aload_n 0, 1) := by decide +kernel
theorem dX2_passState_53 : decode cX2_passState 53 = .ok (.getfield 7, 3) := by decide +kernel
theorem dX2_passState_56 : decode cX2_passState 56 = .ok (.invokevirtual 175, 3) := by decide +kernel
theorem dX2_passState_59 : decode cX2_passState 59 = .ok (.aload_n 0, 1) := by decide +kernel
theorem dX2_passState_60 : decode cX2_passState 60 = .ok (.aload_n 0, 1) := by decide +kernel
theorem dX2_passState_61 : decode cX2_passState 61 = .ok (.getfield 13, 3) := by decide +kernel
theorem dX2_passState_64 : decode cX2_passState 64 = .ok (.invokevirtual 175, 3) := by decide +kernel
theorem dX2_passState_67 : decode cX2_passState 67 = .ok (.aload_n 0, 1) := by decide +kernel
theorem dX2_passState_68 : decode cX2_passState 68 = .ok (.aload_n 0, 1) := by decide +kernel
theorem dX2_passState_69 : decode cX2_passState 69 = .ok (.getfield 16, 3) := by decide +kernel
theorem dX2_passState_72 : decode cX2_passState 72 = .ok (.invokevirtual 175, 3) := by decide +kernel
theorem dX2_passState_75 : decode cX2_passState 75 = .ok (.aload_n 0, 1) := by decide +kernel
theorem dX2_passState_76 : decode cX2_passState 76 = .ok (.aload_n 0, 1) := by decide +kernel
theorem dX2_passState_77 : decode cX2_passState 77 = .ok (.getfield 19, 3) := by decide +kernel
theorem dX2_passState_80 : decode cX2_passState 80 = .ok (.invokevirtual 175, 3) := by decide +kernel
theorem dX2_passState_83 : decode cX2_passState 83 = .ok (.aload_n 0, 1) := by decide +kernel
theorem dX2_passState_84 : decode cX2_passState 84 = .ok (.getfield 49, 3) := by decide +kernel
theorem dX2_passState_87 : decode cX2_passState 87 = .ok (.ireturn, 1) := by decide +kernel
theorem dX2_saveSnapshot_0 : decode cX2_saveSnapshot 0 = .ok (.aload_n 0, 1) := by decide +kernel
theorem dX2_saveSnapshot_1 : decode cX2_saveSnapshot 1 = .ok (.iconst 1, 1) := by decide +kernel
theorem dX2_saveSnapshot_2 : decode cX2_saveSnapshot 2 = .ok (.putfield 179, 3) := by decide +kernel
theorem dX2_saveSnapshot_5 : decode cX2_saveSnapshot 5 = .ok (.aload_n 0, 1) := by decide +kernel
theorem dX2_saveSnapshot_6 : decode cX2_saveSnapshot 6 = .ok (.iconst 1, 1) := by decide +kernel
theorem dX2_saveSnapshot_7 : decode cX2_saveSnapshot 7 = .ok (.invokevirtual 182, 3) := by decide +kernel
theorem dX2_saveSnapshot_10 : decode cX2_saveSnapshot 10 = .ok (.ireturn, 1) := by decide +kernel
theorem dX2_restoreSnapshot_0 : decode cX2_restoreSnapshot 0 = .ok (.aload_n 0, 1) := by decide +kernel
theorem dX2_restoreSnapshot_1 : decode cX2_restoreSnapshot 1 = .ok (.getfield 179, 3) := by decide +kernel
theorem dX2_restoreSnapshot_4 : decode cX2_restoreSnapshot 4 = .ok (.ifCond .eq 11, 3) := by decide +kernel
theorem dX2_restoreSnapshot_7 : decode cX2_restoreSnapshot 7 = .ok (.aload_n 0, 1) := by decide +kernel
theorem dX2_restoreSnapshot_8 : decode cX2_restoreSnapshot 8 = .ok (.iconst 0, 1) := by decide +kernel
theorem dX2_restoreSnapshot_9 : decode cX2_restoreSnapshot 9 = .ok (.invokevirtual 182, 3) := by decide +kernel
theorem dX2_restoreSnapshot_12 : decode cX2_restoreSnapshot 12 = .ok (.goto 8, 3) := by decide +kernel
theorem dX2_restoreSnapshot_15 : decode cX2_restoreSnapshot 15 = .ok (.aload_n 0, 1) := by decide +kernel
theorem dX2_restoreSnapshot_16 : decode cX2_restoreSnapshot 16 = .ok (.iconst 1, 1) := by decide +kernel
theorem dX2_restoreSnapshot_17 : decode cX2_restoreSnapshot 17 = .ok (.invokevirtual 56, 3) := by decide +kernel
theorem dX2_restoreSnapshot_20 : decode cX2_restoreSnapshot 20 = .ok (.ireturn, 1) := by decide +kernel
