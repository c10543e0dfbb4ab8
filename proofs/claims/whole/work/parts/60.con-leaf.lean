theorem d_I_bitCount_0 : decode b_I_bitCount 0 = .ok (.iload_n 0, 1) := by decide +kernel
theorem d_I_bitCount_1 : decode b_I_bitCount 1 = .ok (.iload_n 0, 1) := by decide +kernel
theorem d_I_bitCount_2 : decode b_I_bitCount 2 = .ok (.iconst 1, 1) := by decide +kernel
theorem d_I_bitCount_3 : decode b_I_bitCount 3 = .ok (.iushr, 1) := by decide +kernel
theorem d_I_bitCount_4 : decode b_I_bitCount 4 = .ok (.ldc_w 265, 3) := by decide +kernel
theorem d_I_bitCount_7 : decode b_I_bitCount 7 = .ok (.iand, 1) := by decide +kernel
theorem d_I_bitCount_8 : decode b_I_bitCount 8 = .ok (.isub, 1) := by decide +kernel
theorem d_I_bitCount_9 : decode b_I_bitCount 9 = .ok (.istore_n 0, 1) := by decide +kernel
theorem d_I_bitCount_10 : decode b_I_bitCount 10 = .ok (.iload_n 0, 1) := by decide +kernel
theorem d_I_bitCount_11 : decode b_I_bitCount 11 = .ok (.ldc_w 266, 3) := by decide +kernel
theorem d_I_bitCount_14 : decode b_I_bitCount 14 = .ok (.iand, 1) := by decide +kernel
theorem d_I_bitCount_15 : decode b_I_bitCount 15 = .ok (.iload_n 0, 1) := by decide +kernel
theorem d_I_bitCount_16 : decode b_I_bitCount 16 = .ok (.iconst 2, 1) := by decide +kernel
theorem d_I_bitCount_17 : decode b_I_bitCount 17 = .ok (.iushr, 1) := by decide +kernel
theorem d_I_bitCount_18 : decode b_I_bitCount 18 = .ok (.ldc_w 266, 3) := by decide +kernel
theorem d_I_bitCount_21 : decode b_I_bitCount 21 = .ok (.iand, 1) := by decide +kernel
theorem d_I_bitCount_22 : decode b_I_bitCount 22 = .ok (.iadd, 1) := by decide +kernel
theorem d_I_bitCount_23 : decode b_I_bitCount 23 = .ok (.istore_n 0, 1) := by decide +kernel
theorem d_I_bitCount_24 : decode b_I_bitCount 24 = .ok (.iload_n 0, 1) := by decide +kernel
theorem d_I_bitCount_25 : decode b_I_bitCount 25 = .ok (.iload_n 0, 1) := by decide +kernel
theorem d_I_bitCount_26 : decode b_I_bitCount 26 = .ok (.iconst 4, 1) := by decide +kernel
theorem d_I_bitCount_27 : decode b_I_bitCount 27 = .ok (.iushr, 1) := by decide +kernel
theorem d_I_bitCount_28 : decode b_I_bitCount 28 = .ok (.iadd, 1) := by decide +kernel
theorem d_I_bitCount_29 : decode b_I_bitCount 29 = .ok (.ldc_w 267, 3) := by decide +kernel
theorem d_I_bitCount_32 : decode b_I_bitCount 32 = .ok (.iand, 1) := by decide +kernel
theorem d_I_bitCount_33 : decode b_I_bitCount 33 = .ok (.istore_n 0, 1) := by decide +kernel
theorem d_I_bitCount_34 : decode b_I_bitCount 34 = .ok (.iload_n 0, 1) := by decide +kernel
theorem d_I_bitCount_35 : decode b_I_bitCount 35 = .ok (.iload_n 0, 1) := by decide +kernel
theorem d_I_bitCount_36 : decode b_I_bitCount 36 = .ok (.bipush 8, 2) := by decide +kernel
theorem d_I_bitCount_38 : decode b_I_bitCount 38 = .ok (.iushr, 1) := by decide +kernel
theorem d_I_bitCount_39 : decode b_I_bitCount 39 = .ok (.iadd, 1) := by decide +kernel
theorem d_I_bitCount_40 : decode b_I_bitCount 40 = .ok (.istore_n 0, 1) := by decide +kernel
theorem d_I_bitCount_41 : decode b_I_bitCount 41 = .ok (.iload_n 0, 1) := by decide +kernel
theorem d_I_bitCount_42 : decode b_I_bitCount 42 = .ok (.iload_n 0, 1) := by decide +kernel
theorem d_I_bitCount_43 : decode b_I_bitCount 43 = .ok (.bipush 16, 2) := by decide +kernel
theorem d_I_bitCount_45 : decode b_I_bitCount 45 = .ok (.iushr, 1) := by decide +kernel
theorem d_I_bitCount_46 : decode b_I_bitCount 46 = .ok (.iadd, 1) := by decide +kernel
theorem d_I_bitCount_47 : decode b_I_bitCount 47 = .ok (.istore_n 0, 1) := by decide +kernel
theorem d_I_bitCount_48 : decode b_I_bitCount 48 = .ok (.iload_n 0, 1) := by decide +kernel
theorem d_I_bitCount_49 : decode b_I_bitCount 49 = .ok (.bipush 63, 2) := by decide +kernel
theorem d_I_bitCount_51 : decode b_I_bitCount 51 = .ok (.iand, 1) := by decide +kernel
theorem d_I_bitCount_52 : decode b_I_bitCount 52 = .ok (.ireturn, 1) := by decide +kernel
theorem d_H_isFactRelation_0 : decode b_H_isFactRelation 0 = .ok (.iload_n 0, 1) := by decide +kernel
theorem d_H_isFactRelation_1 : decode b_H_isFactRelation 1 = .ok (.ifCond .lt 12, 3) := by decide +kernel
theorem d_H_isFactRelation_4 : decode b_H_isFactRelation 4 = .ok (.iload_n 0, 1) := by decide +kernel
theorem d_H_isFactRelation_5 : decode b_H_isFactRelation 5 = .ok (.iconst 2, 1) := by decide +kernel
theorem d_H_isFactRelation_6 : decode b_H_isFactRelation 6 = .ok (.if_icmp .ge 7, 3) := by decide +kernel
theorem d_H_isFactRelation_9 : decode b_H_isFactRelation 9 = .ok (.iconst 1, 1) := by decide +kernel
theorem d_H_isFactRelation_10 : decode b_H_isFactRelation 10 = .ok (.goto 4, 3) := by decide +kernel
theorem d_H_isFactRelation_13 : decode b_H_isFactRelation 13 = .ok (.iconst 0, 1) := by decide +kernel
theorem d_H_isFactRelation_14 : decode b_H_isFactRelation 14 = .ok (.ireturn, 1) := by decide +kernel
theorem d_H_pairBit_0 : decode b_H_pairBit 0 = .ok (.iload_n 0, 1) := by decide +kernel
theorem d_H_pairBit_1 : decode b_H_pairBit 1 = .ok (.ifCond .lt 21, 3) := by decide +kernel
theorem d_H_pairBit_4 : decode b_H_pairBit 4 = .ok (.iload_n 0, 1) := by decide +kernel
theorem d_H_pairBit_5 : decode b_H_pairBit 5 = .ok (.iconst 4, 1) := by decide +kernel
theorem d_H_pairBit_6 : decode b_H_pairBit 6 = .ok (.if_icmp .ge 16, 3) := by decide +kernel
theorem d_H_pairBit_9 : decode b_H_pairBit 9 = .ok (.iload_n 1, 1) := by decide +kernel
theorem d_H_pairBit_10 : decode b_H_pairBit 10 = .ok (.ifCond .lt 12, 3) := by decide +kernel
theorem d_H_pairBit_13 : decode b_H_pairBit 13 = .ok (.iload_n 1, 1) := by decide +kernel
theorem d_H_pairBit_14 : decode b_H_pairBit 14 = .ok (.iconst 4, 1) := by decide +kernel
theorem d_H_pairBit_15 : decode b_H_pairBit 15 = .ok (.if_icmp .ge 7, 3) := by decide +kernel
theorem d_H_pairBit_18 : decode b_H_pairBit 18 = .ok (.iconst 1, 1) := by decide +kernel
theorem d_H_pairBit_19 : decode b_H_pairBit 19 = .ok (.goto 4, 3) := by decide +kernel
theorem d_H_pairBit_22 : decode b_H_pairBit 22 = .ok (.iconst 0, 1) := by decide +kernel
theorem d_H_pairBit_23 : decode b_H_pairBit 23 = .ok (.istore_n 2, 1) := by decide +kernel
theorem d_H_pairBit_24 : decode b_H_pairBit 24 = .ok (.iload_n 2, 1) := by decide +kernel
theorem d_H_pairBit_25 : decode b_H_pairBit 25 = .ok (.ifCond .eq 13, 3) := by decide +kernel
theorem d_H_pairBit_28 : decode b_H_pairBit 28 = .ok (.iconst 1, 1) := by decide +kernel
theorem d_H_pairBit_29 : decode b_H_pairBit 29 = .ok (.iconst 4, 1) := by decide +kernel
theorem d_H_pairBit_30 : decode b_H_pairBit 30 = .ok (.iload_n 0, 1) := by decide +kernel
theorem d_H_pairBit_31 : decode b_H_pairBit 31 = .ok (.imul, 1) := by decide +kernel
theorem d_H_pairBit_32 : decode b_H_pairBit 32 = .ok (.iload_n 1, 1) := by decide +kernel
theorem d_H_pairBit_33 : decode b_H_pairBit 33 = .ok (.iadd, 1) := by decide +kernel
theorem d_H_pairBit_34 : decode b_H_pairBit 34 = .ok (.ishl, 1) := by decide +kernel
theorem d_H_pairBit_35 : decode b_H_pairBit 35 = .ok (.goto 4, 3) := by decide +kernel
theorem d_H_pairBit_38 : decode b_H_pairBit 38 = .ok (.iconst 0, 1) := by decide +kernel
theorem d_H_pairBit_39 : decode b_H_pairBit 39 = .ok (.ireturn, 1) := by decide +kernel
theorem d_H_hasHeadVariables_0 : decode b_H_hasHeadVariables 0 = .ok (.iload_n 0, 1) := by decide +kernel
theorem d_H_hasHeadVariables_1 : decode b_H_hasHeadVariables 1 = .ok (.ldc 169, 2) := by decide +kernel
theorem d_H_hasHeadVariables_3 : decode b_H_hasHeadVariables 3 = .ok (.iand, 1) := by decide +kernel
theorem d_H_hasHeadVariables_4 : decode b_H_hasHeadVariables 4 = .ok (.ifCond .eq 14, 3) := by decide +kernel
theorem d_H_hasHeadVariables_7 : decode b_H_hasHeadVariables 7 = .ok (.iload_n 0, 1) := by decide +kernel
theorem d_H_hasHeadVariables_8 : decode b_H_hasHeadVariables 8 = .ok (.ldc 170, 2) := by decide +kernel
theorem d_H_hasHeadVariables_10 : decode b_H_hasHeadVariables 10 = .ok (.iand, 1) := by decide +kernel
theorem d_H_hasHeadVariables_11 : decode b_H_hasHeadVariables 11 = .ok (.ifCond .eq 7, 3) := by decide +kernel
theorem d_H_hasHeadVariables_14 : decode b_H_hasHeadVariables 14 = .ok (.iconst 1, 1) := by decide +kernel
theorem d_H_hasHeadVariables_15 : decode b_H_hasHeadVariables 15 = .ok (.goto 4, 3) := by decide +kernel
theorem d_H_hasHeadVariables_18 : decode b_H_hasHeadVariables 18 = .ok (.iconst 0, 1) := by decide +kernel
theorem d_H_hasHeadVariables_19 : decode b_H_hasHeadVariables 19 = .ok (.ireturn, 1) := by decide +kernel
theorem d_H_codeOf_0 : decode b_H_codeOf 0 = .ok (.bipush 9, 2) := by decide +kernel
theorem d_H_codeOf_2 : decode b_H_codeOf 2 = .ok (.iload_n 0, 1) := by decide +kernel
theorem d_H_codeOf_3 : decode b_H_codeOf 3 = .ok (.imul, 1) := by decide +kernel
theorem d_H_codeOf_4 : decode b_H_codeOf 4 = .ok (.iconst 3, 1) := by decide +kernel
theorem d_H_codeOf_5 : decode b_H_codeOf 5 = .ok (.iload_n 1, 1) := by decide +kernel
theorem d_H_codeOf_6 : decode b_H_codeOf 6 = .ok (.imul, 1) := by decide +kernel
theorem d_H_codeOf_7 : decode b_H_codeOf 7 = .ok (.iadd, 1) := by decide +kernel
theorem d_H_codeOf_8 : decode b_H_codeOf 8 = .ok (.iload_n 2, 1) := by decide +kernel
theorem d_H_codeOf_9 : decode b_H_codeOf 9 = .ok (.iadd, 1) := by decide +kernel
theorem d_H_codeOf_10 : decode b_H_codeOf 10 = .ok (.ireturn, 1) := by decide +kernel
theorem d_H_relationOf_0 : decode b_H_relationOf 0 = .ok (.iload_n 0, 1) := by decide +kernel
theorem d_H_relationOf_1 : decode b_H_relationOf 1 = .ok (.bipush 9, 2) := by decide +kernel
theorem d_H_relationOf_3 : decode b_H_relationOf 3 = .ok (.idiv, 1) := by decide +kernel
theorem d_H_relationOf_4 : decode b_H_relationOf 4 = .ok (.ireturn, 1) := by decide +kernel
theorem d_H_firstVariableOf_0 : decode b_H_firstVariableOf 0 = .ok (.iload_n 0, 1) := by decide +kernel
theorem d_H_firstVariableOf_1 : decode b_H_firstVariableOf 1 = .ok (.iconst 3, 1) := by decide +kernel
theorem d_H_firstVariableOf_2 : decode b_H_firstVariableOf 2 = .ok (.idiv, 1) := by decide +kernel
theorem d_H_firstVariableOf_3 : decode b_H_firstVariableOf 3 = .ok (.iconst 3, 1) := by decide +kernel
theorem d_H_firstVariableOf_4 : decode b_H_firstVariableOf 4 = .ok (.irem, 1) := by decide +kernel
theorem d_H_firstVariableOf_5 : decode b_H_firstVariableOf 5 = .ok (.ireturn, 1) := by decide +kernel
theorem d_H_secondVariableOf_0 : decode b_H_secondVariableOf 0 = .ok (.iload_n 0, 1) := by decide +kernel
theorem d_H_secondVariableOf_1 : decode b_H_secondVariableOf 1 = .ok (.iconst 3, 1) := by decide +kernel
theorem d_H_secondVariableOf_2 : decode b_H_secondVariableOf 2 = .ok (.irem, 1) := by decide +kernel
theorem d_H_secondVariableOf_3 : decode b_H_secondVariableOf 3 = .ok (.ireturn, 1) := by decide +kernel
theorem d_H_leastCode_0 : decode b_H_leastCode 0 = .ok (.iload_n 0, 1) := by decide +kernel
theorem d_H_leastCode_1 : decode b_H_leastCode 1 = .ok (.iload_n 0, 1) := by decide +kernel
theorem d_H_leastCode_2 : decode b_H_leastCode 2 = .ok (.ineg, 1) := by decide +kernel
theorem d_H_leastCode_3 : decode b_H_leastCode 3 = .ok (.iand, 1) := by decide +kernel
theorem d_H_leastCode_4 : decode b_H_leastCode 4 = .ok (.iconst 1, 1) := by decide +kernel
theorem d_H_leastCode_5 : decode b_H_leastCode 5 = .ok (.isub, 1) := by decide +kernel
theorem d_H_leastCode_6 : decode b_H_leastCode 6 = .ok (.invokestatic 66, 3) := by decide +kernel
theorem d_H_leastCode_9 : decode b_H_leastCode 9 = .ok (.ireturn, 1) := by decide +kernel
theorem d_H_withoutLeastCode_0 : decode b_H_withoutLeastCode 0 = .ok (.iload_n 0, 1) := by decide +kernel
theorem d_H_withoutLeastCode_1 : decode b_H_withoutLeastCode 1 = .ok (.iload_n 0, 1) := by decide +kernel
theorem d_H_withoutLeastCode_2 : decode b_H_withoutLeastCode 2 = .ok (.iconst 1, 1) := by decide +kernel
theorem d_H_withoutLeastCode_3 : decode b_H_withoutLeastCode 3 = .ok (.isub, 1) := by decide +kernel
theorem d_H_withoutLeastCode_4 : decode b_H_withoutLeastCode 4 = .ok (.iand, 1) := by decide +kernel
theorem d_H_withoutLeastCode_5 : decode b_H_withoutLeastCode 5 = .ok (.ireturn, 1) := by decide +kernel
theorem d_H_codeAt_0 : decode b_H_codeAt 0 = .ok (.iload_n 1, 1) := by decide +kernel
theorem d_H_codeAt_1 : decode b_H_codeAt 1 = .ok (.ifCond .lt 11, 3) := by decide +kernel
theorem d_H_codeAt_4 : decode b_H_codeAt 4 = .ok (.iload_n 1, 1) := by decide +kernel
theorem d_H_codeAt_5 : decode b_H_codeAt 5 = .ok (.iload_n 0, 1) := by decide +kernel
theorem d_H_codeAt_6 : decode b_H_codeAt 6 = .ok (.invokestatic 66, 3) := by decide +kernel
theorem d_H_codeAt_9 : decode b_H_codeAt 9 = .ok (.if_icmp .lt 5, 3) := by decide +kernel
theorem d_H_codeAt_12 : decode b_H_codeAt 12 = .ok (.iconst (-1), 1) := by decide +kernel
theorem d_H_codeAt_13 : decode b_H_codeAt 13 = .ok (.ireturn, 1) := by decide +kernel
theorem d_H_codeAt_14 : decode b_H_codeAt 14 = .ok (.iload_n 0, 1) := by decide +kernel
theorem d_H_codeAt_15 : decode b_H_codeAt 15 = .ok (.istore_n 2, 1) := by decide +kernel
theorem d_H_codeAt_16 : decode b_H_codeAt 16 = .ok (.iconst 0, 1) := by decide +kernel
theorem d_H_codeAt_17 : decode b_H_codeAt 17 = .ok (.istore_n 3, 1) := by decide +kernel
theorem d_H_codeAt_18 : decode b_H_codeAt 18 = .ok (.iload_n 3, 1) := by decide +kernel
theorem d_H_codeAt_19 : decode b_H_codeAt 19 = .ok (.iload_n 1, 1) := by decide +kernel
theorem d_H_codeAt_20 : decode b_H_codeAt 20 = .ok (.if_icmp .ge 14, 3) := by decide +kernel
theorem d_H_codeAt_23 : decode b_H_codeAt 23 = .ok (.iload_n 2, 1) := by decide +kernel
theorem d_H_codeAt_24 : decode b_H_codeAt 24 = .ok (.invokestatic 171, 3) := by decide +kernel
theorem d_H_codeAt_27 : decode b_H_codeAt 27 = .ok (.istore_n 2, 1) := by decide +kernel
theorem d_H_codeAt_28 : decode b_H_codeAt 28 = .ok (.iinc 3 1, 3) := by decide +kernel
theorem d_H_codeAt_31 : decode b_H_codeAt 31 = .ok (.goto (-13), 3) := by decide +kernel
theorem d_H_codeAt_34 : decode b_H_codeAt 34 = .ok (.iload_n 2, 1) := by decide +kernel
theorem d_H_codeAt_35 : decode b_H_codeAt 35 = .ok (.invokestatic 174, 3) := by decide +kernel
theorem d_H_codeAt_38 : decode b_H_codeAt 38 = .ok (.ireturn, 1) := by decide +kernel
theorem d_H_withVariableForZ_0 : decode b_H_withVariableForZ 0 = .ok (.iconst 0, 1) := by decide +kernel
theorem d_H_withVariableForZ_1 : decode b_H_withVariableForZ 1 = .ok (.istore_n 2, 1) := by decide +kernel
theorem d_H_withVariableForZ_2 : decode b_H_withVariableForZ 2 = .ok (.iload_n 0, 1) := by decide +kernel
theorem d_H_withVariableForZ_3 : decode b_H_withVariableForZ 3 = .ok (.istore_n 3, 1) := by decide +kernel
theorem d_H_withVariableForZ_4 : decode b_H_withVariableForZ 4 = .ok (.iconst 0, 1) := by decide +kernel
theorem d_H_withVariableForZ_5 : decode b_H_withVariableForZ 5 = .ok (.istore 4, 2) := by decide +kernel
theorem d_H_withVariableForZ_7 : decode b_H_withVariableForZ 7 = .ok (.iload 4, 2) := by decide +kernel
theorem d_H_withVariableForZ_9 : decode b_H_withVariableForZ 9 = .ok (.iconst 3, 1) := by decide +kernel
theorem d_H_withVariableForZ_10 : decode b_H_withVariableForZ 10 = .ok (.if_icmp .ge 75, 3) := by decide +kernel
theorem d_H_withVariableForZ_13 : decode b_H_withVariableForZ 13 = .ok (.iload_n 3, 1) := by decide +kernel
theorem d_H_withVariableForZ_14 : decode b_H_withVariableForZ 14 = .ok (.ifCond .eq 71, 3) := by decide +kernel
theorem d_H_withVariableForZ_17 : decode b_H_withVariableForZ 17 = .ok (.iload_n 3, 1) := by decide +kernel
theorem d_H_withVariableForZ_18 : decode b_H_withVariableForZ 18 = .ok (.invokestatic 174, 3) := by decide +kernel
theorem d_H_withVariableForZ_21 : decode b_H_withVariableForZ 21 = .ok (.istore 5, 2) := by decide +kernel
theorem d_H_withVariableForZ_23 : decode b_H_withVariableForZ 23 = .ok (.iload 5, 2) := by decide +kernel
theorem d_H_withVariableForZ_25 : decode b_H_withVariableForZ 25 = .ok (.invokestatic 177, 3) := by decide +kernel
theorem d_H_withVariableForZ_28 : decode b_H_withVariableForZ 28 = .ok (.istore 6, 2) := by decide +kernel
theorem d_H_withVariableForZ_30 : decode b_H_withVariableForZ 30 = .ok (.iload 5, 2) := by decide +kernel
theorem d_H_withVariableForZ_32 : decode b_H_withVariableForZ 32 = .ok (.invokestatic 180, 3) := by decide +kernel
theorem d_H_withVariableForZ_35 : decode b_H_withVariableForZ 35 = .ok (.istore 7, 2) := by decide +kernel
theorem d_H_withVariableForZ_37 : decode b_H_withVariableForZ 37 = .ok (.iload_n 2, 1) := by decide +kernel
theorem d_H_withVariableForZ_38 : decode b_H_withVariableForZ 38 = .ok (.iconst 1, 1) := by decide +kernel
theorem d_H_withVariableForZ_39 : decode b_H_withVariableForZ 39 = .ok (.iload 5, 2) := by decide +kernel
theorem d_H_withVariableForZ_41 : decode b_H_withVariableForZ 41 = .ok (.invokestatic 183, 3) := by decide +kernel
theorem d_H_withVariableForZ_44 : decode b_H_withVariableForZ 44 = .ok (.iload 6, 2) := by decide +kernel
theorem d_H_withVariableForZ_46 : decode b_H_withVariableForZ 46 = .ok (.iconst 2, 1) := by decide +kernel
theorem d_H_withVariableForZ_47 : decode b_H_withVariableForZ 47 = .ok (.if_icmp .ne 7, 3) := by decide +kernel
theorem d_H_withVariableForZ_50 : decode b_H_withVariableForZ 50 = .ok (.iload_n 1, 1) := by decide +kernel
theorem d_H_withVariableForZ_51 : decode b_H_withVariableForZ 51 = .ok (.goto 5, 3) := by decide +kernel
theorem d_H_withVariableForZ_54 : decode b_H_withVariableForZ 54 = .ok (.iload 6, 2) := by decide +kernel
theorem d_H_withVariableForZ_56 : decode b_H_withVariableForZ 56 = .ok (.iload 7, 2) := by decide +kernel
theorem d_H_withVariableForZ_58 : decode b_H_withVariableForZ 58 = .ok (.iconst 2, 1) := by decide +kernel
theorem d_H_withVariableForZ_59 : decode b_H_withVariableForZ 59 = .ok (.if_icmp .ne 7, 3) := by decide +kernel
theorem d_H_withVariableForZ_62 : decode b_H_withVariableForZ 62 = .ok (.iload_n 1, 1) := by decide +kernel
theorem d_H_withVariableForZ_63 : decode b_H_withVariableForZ 63 = .ok (.goto 5, 3) := by decide +kernel
theorem d_H_withVariableForZ_66 : decode b_H_withVariableForZ 66 = .ok (.iload 7, 2) := by decide +kernel
theorem d_H_withVariableForZ_68 : decode b_H_withVariableForZ 68 = .ok (.invokestatic 186, 3) := by decide +kernel
theorem d_H_withVariableForZ_71 : decode b_H_withVariableForZ 71 = .ok (.ishl, 1) := by decide +kernel
theorem d_H_withVariableForZ_72 : decode b_H_withVariableForZ 72 = .ok (.ior, 1) := by decide +kernel
theorem d_H_withVariableForZ_73 : decode b_H_withVariableForZ 73 = .ok (.istore_n 2, 1) := by decide +kernel
theorem d_H_withVariableForZ_74 : decode b_H_withVariableForZ 74 = .ok (.iload_n 3, 1) := by decide +kernel
theorem d_H_withVariableForZ_75 : decode b_H_withVariableForZ 75 = .ok (.invokestatic 171, 3) := by decide +kernel
theorem d_H_withVariableForZ_78 : decode b_H_withVariableForZ 78 = .ok (.istore_n 3, 1) := by decide +kernel
theorem d_H_withVariableForZ_79 : decode b_H_withVariableForZ 79 = .ok (.iinc 4 1, 3) := by decide +kernel
theorem d_H_withVariableForZ_82 : decode b_H_withVariableForZ 82 = .ok (.goto (-75), 3) := by decide +kernel
theorem d_H_withVariableForZ_85 : decode b_H_withVariableForZ 85 = .ok (.iload_n 2, 1) := by decide +kernel
theorem d_H_withVariableForZ_86 : decode b_H_withVariableForZ 86 = .ok (.ireturn, 1) := by decide +kernel
set_option maxHeartbeats 1000000 in
set_option maxRecDepth 100000 in
theorem c_I_bitCount (l : Launch) (dC : Nat → ClassId) (dI : Nat → Nat → Nat) (sz : Nat)  (x0 : Int32) (r0 : Int32) (u0 : Unit) (h : m_I_bitCount x0 = some (r0, u0)) : Met l y_I_bitCount w_I_bitCount ({ frames := 0, cells := 0, slots := 0, locals := 0 } : Room) (va_Pc [.int x0] (fun U => U.heap.size = sz ∧ va_P (dC, dI) classes [] U.heap ∧ va_K (dC, dI) classes [] U ∧ va_D (fun _ => True) [])) (va_Qi (fun (r : Int32) (u : Unit) => r = r0 ∧ u = u0) (fun (u : Unit) (t : State) => va_P (dC, dI) classes [] t.heap ∧ va_K (dC, dI) classes [] t ∧ va_D (va_A [] sz) []) (va_A [] sz)) 0 0 (va_A [] sz) := by
  refine Met.ofW (cc := b_I_bitCount) (maxL := 1) (ret := (some .int)) (by decide) rfl ?_
  intro p e s m args below meth c s₁ B hml hv
  obtain ⟨rfl, hsz, hP, hK, hD0⟩ := hv
  have hx := B.exec
  have hb := B.bytes
  have hr := B.returns
  have hts0 := atoms_spec (ws := w_I_bitCount) B.pre
  have hts : ∀ w ∈ lw_gd, w.before ([.int x0] : List Value).toArray s = true := fun w h9 => hts0 w (List.mem_cons_of_mem _ h9)
  have hown : s.vm.findClass R_I = some m.cls := findClass_of_methodNamed B.named
  have hlocks := B.notSynchronized
  subst hsz
  have hD := hD0.self (sz := s.heap.size)
  generalize hAe : va_A [] s.heap.size = A at hD ⊢
  have hA : ∀ q : Nat, s.heap.size ≤ q → A q := fun q h9 => by rw [← hAe]; exact Or.inr h9
  obtain ⟨H, eH⟩ : ∃ H : Heap, H = s.heap := ⟨_, rfl⟩
  have hS : va_S A s.heap H [] := by rw [eH]; exact va_S.rf
  have hP : va_P (dC, dI) classes [] H := by rw [eH]; exact hP
  refine W_gen (fun Q hQ => ?_)
  refine W_heap eH ?_
  clear eH
  have hl := lv_entry ([.int x0]) (n := 1) (Nat.le_of_ble_eq_true rfl)
  rw [lg_entry_eq]
  generalize (lg_sl ([.int x0]) ++ List.replicate (1 - (lg_sl ([.int x0])).length) Slot.unset).toArray = ls at hl ⊢
  have hl : lv_has ls 1 [(0, .int x0)] := hl
  unfold m_I_bitCount at h
  refine lv_iload_n hx hb d_I_bitCount_0 rfl (lv_at hl 0 rfl) ?_
  refine lv_iload_n hx hb d_I_bitCount_1 rfl (lv_at hl 0 rfl) ?_
  refine lv_iconst (v := (nI 1)) hx hb d_I_bitCount_2 (by decide) ?_
  refine lv_iushr (v := iush x0 (nI 1)) hx hb d_I_bitCount_3 rfl ?_
  refine lv_ldcw (v := 1431655765) hx hb hown (hts _ con_I_265) d_I_bitCount_4 ?_
  refine lv_iand hx hb d_I_bitCount_7 ?_
  refine lv_isub hx hb d_I_bitCount_8 ?_
  refine lv_istore_n (lv' := [(0, .int (x0 - ((iush x0 (nI 1)) &&& (nI 1431655765))))]) hx hb d_I_bitCount_9 rfl hl (by decide) rfl (fun ls hl => ?_)
  refine lv_iload_n hx hb d_I_bitCount_10 rfl (lv_at hl 0 rfl) ?_
  refine lv_ldcw (v := 858993459) hx hb hown (hts _ con_I_266) d_I_bitCount_11 ?_
  refine lv_iand hx hb d_I_bitCount_14 ?_
  refine lv_iload_n hx hb d_I_bitCount_15 rfl (lv_at hl 0 rfl) ?_
  refine lv_iconst (v := (nI 2)) hx hb d_I_bitCount_16 (by decide) ?_
  refine lv_iushr (v := iush (x0 - ((iush x0 (nI 1)) &&& (nI 1431655765))) (nI 2)) hx hb d_I_bitCount_17 rfl ?_
  refine lv_ldcw (v := 858993459) hx hb hown (hts _ con_I_266) d_I_bitCount_18 ?_
  refine lv_iand hx hb d_I_bitCount_21 ?_
  refine lv_iadd hx hb d_I_bitCount_22 ?_
  refine lv_topi (fun w_23 ew_23 => ?_)
  have h := of_let h ew_23
  refine lv_istore_n (lv' := [(0, .int w_23)]) hx hb d_I_bitCount_23 rfl hl (by decide) rfl (fun ls hl => ?_)
  refine lv_iload_n hx hb d_I_bitCount_24 rfl (lv_at hl 0 rfl) ?_
  refine lv_iload_n hx hb d_I_bitCount_25 rfl (lv_at hl 0 rfl) ?_
  refine lv_iconst (v := (nI 4)) hx hb d_I_bitCount_26 (by decide) ?_
  refine lv_iushr (v := iush w_23 (nI 4)) hx hb d_I_bitCount_27 rfl ?_
  refine lv_iadd hx hb d_I_bitCount_28 ?_
  refine lv_ldcw (v := 252645135) hx hb hown (hts _ con_I_267) d_I_bitCount_29 ?_
  refine lv_iand hx hb d_I_bitCount_32 ?_
  refine lv_istore_n (lv' := [(0, .int ((w_23 + (iush w_23 (nI 4))) &&& (nI 252645135)))]) hx hb d_I_bitCount_33 rfl hl (by decide) rfl (fun ls hl => ?_)
  refine lv_iload_n hx hb d_I_bitCount_34 rfl (lv_at hl 0 rfl) ?_
  refine lv_iload_n hx hb d_I_bitCount_35 rfl (lv_at hl 0 rfl) ?_
  refine lv_bipush (v := (nI 8)) hx hb d_I_bitCount_36 (by decide) ?_
  refine lv_iushr (v := iush ((w_23 + (iush w_23 (nI 4))) &&& (nI 252645135)) (nI 8)) hx hb d_I_bitCount_38 rfl ?_
  refine lv_iadd hx hb d_I_bitCount_39 ?_
  refine lv_topi (fun w_40 ew_40 => ?_)
  have h := of_let h ew_40
  refine lv_istore_n (lv' := [(0, .int w_40)]) hx hb d_I_bitCount_40 rfl hl (by decide) rfl (fun ls hl => ?_)
  refine lv_iload_n hx hb d_I_bitCount_41 rfl (lv_at hl 0 rfl) ?_
  refine lv_iload_n hx hb d_I_bitCount_42 rfl (lv_at hl 0 rfl) ?_
  refine lv_bipush (v := (nI 16)) hx hb d_I_bitCount_43 (by decide) ?_
  refine lv_iushr (v := iush w_40 (nI 16)) hx hb d_I_bitCount_45 rfl ?_
  refine lv_iadd hx hb d_I_bitCount_46 ?_
  refine lv_istore_n (lv' := [(0, .int (w_40 + (iush w_40 (nI 16))))]) hx hb d_I_bitCount_47 rfl hl (by decide) rfl (fun ls hl => ?_)
  refine lv_iload_n hx hb d_I_bitCount_48 rfl (lv_at hl 0 rfl) ?_
  refine lv_bipush (v := (nI 63)) hx hb d_I_bitCount_49 (by decide) ?_
  refine lv_iand hx hb d_I_bitCount_51 ?_
  rw [hQ]
  exact W.iret (v := (w_40 + (iush w_40 (nI 16))) &&& (nI 63)) hx hb hr (fun t ht hW => ⟨⟨(w_40 + (iush w_40 (nI 16))) &&& (nI 63), (), rfl, Prod.mk.inj (Option.some.inj h), by rw [ht]; exact hP, va_K.moved hW.alike hK, hD⟩, hS.F ht⟩) hS.2.2 d_I_bitCount_52
set_option maxHeartbeats 1000000 in
set_option maxRecDepth 100000 in
theorem c_H_isFactRelation (l : Launch) (dC : Nat → ClassId) (dI : Nat → Nat → Nat) (sz : Nat)  (x0 : Int32) (r0 : Int32) (u0 : Unit) (h : m_H_isFactRelation x0 = some (r0, u0)) : Met l y_H_isFactRelation w_H_isFactRelation ({ frames := 0, cells := 0, slots := 0, locals := 0 } : Room) (va_Pc [.int x0] (fun U => U.heap.size = sz ∧ va_P (dC, dI) classes [] U.heap ∧ va_K (dC, dI) classes [] U ∧ va_D (fun _ => True) [])) (va_Qi (fun (r : Int32) (u : Unit) => r = r0 ∧ u = u0) (fun (u : Unit) (t : State) => va_P (dC, dI) classes [] t.heap ∧ va_K (dC, dI) classes [] t ∧ va_D (va_A [] sz) []) (va_A [] sz)) 0 0 (va_A [] sz) := by
  refine Met.ofW (cc := b_H_isFactRelation) (maxL := 1) (ret := (some .boolean)) (by decide) rfl ?_
  intro p e s m args below meth c s₁ B hml hv
  obtain ⟨rfl, hsz, hP, hK, hD0⟩ := hv
  have hx := B.exec
  have hb := B.bytes
  have hr := B.returns
  have hts0 := atoms_spec (ws := w_H_isFactRelation) B.pre
  have hts : ∀ w ∈ lw_gd, w.before ([.int x0] : List Value).toArray s = true := fun w h9 => hts0 w (List.mem_cons_of_mem _ h9)
  have hown : s.vm.findClass R_H = some m.cls := findClass_of_methodNamed B.named
  have hlocks := B.notSynchronized
  subst hsz
  have hD := hD0.self (sz := s.heap.size)
  generalize hAe : va_A [] s.heap.size = A at hD ⊢
  have hA : ∀ q : Nat, s.heap.size ≤ q → A q := fun q h9 => by rw [← hAe]; exact Or.inr h9
  obtain ⟨H, eH⟩ : ∃ H : Heap, H = s.heap := ⟨_, rfl⟩
  have hS : va_S A s.heap H [] := by rw [eH]; exact va_S.rf
  have hP : va_P (dC, dI) classes [] H := by rw [eH]; exact hP
  refine W_gen (fun Q hQ => ?_)
  refine W_heap eH ?_
  clear eH
  have hl := lv_entry ([.int x0]) (n := 1) (Nat.le_of_ble_eq_true rfl)
  rw [lg_entry_eq]
  generalize (lg_sl ([.int x0]) ++ List.replicate (1 - (lg_sl ([.int x0])).length) Slot.unset).toArray = ls at hl ⊢
  have hl : lv_has ls 1 [(0, .int x0)] := hl
  unfold m_H_isFactRelation at h
  refine lv_iload_n hx hb d_H_isFactRelation_0 rfl (lv_at hl 0 rfl) ?_
  refine lv_if_lt (tgt := 13) hx hb d_H_isFactRelation_1 (by decide) (fun c_1 => ?_) (fun c_1 => ?_)
  · have h := of_pos h c_1
    refine lv_iconst (v := (nI 0)) hx hb d_H_isFactRelation_13 (by decide) ?_
    rw [hQ]
    exact W.zret (v := (nI 0)) hx hb hr rfl (fun t ht hW => ⟨⟨(nI 0), (), rfl, Prod.mk.inj (Option.some.inj h), by rw [ht]; exact hP, va_K.moved hW.alike hK, hD⟩, hS.F ht⟩) hS.2.2 d_H_isFactRelation_14
  · have h := of_neg h c_1
    refine lv_iload_n hx hb d_H_isFactRelation_4 rfl (lv_at hl 0 rfl) ?_
    refine lv_iconst (v := (nI 2)) hx hb d_H_isFactRelation_5 (by decide) ?_
    refine lv_icmp_ge (tgt := 13) hx hb d_H_isFactRelation_6 (by decide) (fun c_6 => ?_) (fun c_6 => ?_)
    · have h := of_pos h c_6
      refine lv_iconst (v := (nI 0)) hx hb d_H_isFactRelation_13 (by decide) ?_
      rw [hQ]
      exact W.zret (v := (nI 0)) hx hb hr rfl (fun t ht hW => ⟨⟨(nI 0), (), rfl, Prod.mk.inj (Option.some.inj h), by rw [ht]; exact hP, va_K.moved hW.alike hK, hD⟩, hS.F ht⟩) hS.2.2 d_H_isFactRelation_14
    · have h := of_neg h c_6
      refine lv_iconst (v := (nI 1)) hx hb d_H_isFactRelation_9 (by decide) ?_
      refine lv_goto (tgt := 14) hx hb d_H_isFactRelation_10 (by decide) ?_
      rw [hQ]
      exact W.zret (v := (nI 1)) hx hb hr rfl (fun t ht hW => ⟨⟨(nI 1), (), rfl, Prod.mk.inj (Option.some.inj h), by rw [ht]; exact hP, va_K.moved hW.alike hK, hD⟩, hS.F ht⟩) hS.2.2 d_H_isFactRelation_14
set_option maxHeartbeats 1000000 in
set_option maxRecDepth 100000 in
theorem c_H_pairBit (l : Launch) (dC : Nat → ClassId) (dI : Nat → Nat → Nat) (sz : Nat)  (x0 : Int32) (x1 : Int32) (r0 : Int32) (u0 : Unit) (h : m_H_pairBit x0 x1 = some (r0, u0)) : Met l y_H_pairBit w_H_pairBit ({ frames := 0, cells := 0, slots := 0, locals := 0 } : Room) (va_Pc [.int x0, .int x1] (fun U => U.heap.size = sz ∧ va_P (dC, dI) classes [] U.heap ∧ va_K (dC, dI) classes [] U ∧ va_D (fun _ => True) [])) (va_Qi (fun (r : Int32) (u : Unit) => r = r0 ∧ u = u0) (fun (u : Unit) (t : State) => va_P (dC, dI) classes [] t.heap ∧ va_K (dC, dI) classes [] t ∧ va_D (va_A [] sz) []) (va_A [] sz)) 0 0 (va_A [] sz) := by
  refine Met.ofW (cc := b_H_pairBit) (maxL := 3) (ret := (some .int)) (by decide) rfl ?_
  intro p e s m args below meth c s₁ B hml hv
  obtain ⟨rfl, hsz, hP, hK, hD0⟩ := hv
  have hx := B.exec
  have hb := B.bytes
  have hr := B.returns
  have hts0 := atoms_spec (ws := w_H_pairBit) B.pre
  have hts : ∀ w ∈ lw_gd, w.before ([.int x0, .int x1] : List Value).toArray s = true := fun w h9 => hts0 w (List.mem_cons_of_mem _ h9)
  have hown : s.vm.findClass R_H = some m.cls := findClass_of_methodNamed B.named
  have hlocks := B.notSynchronized
  subst hsz
  have hD := hD0.self (sz := s.heap.size)
  generalize hAe : va_A [] s.heap.size = A at hD ⊢
  have hA : ∀ q : Nat, s.heap.size ≤ q → A q := fun q h9 => by rw [← hAe]; exact Or.inr h9
  obtain ⟨H, eH⟩ : ∃ H : Heap, H = s.heap := ⟨_, rfl⟩
  have hS : va_S A s.heap H [] := by rw [eH]; exact va_S.rf
  have hP : va_P (dC, dI) classes [] H := by rw [eH]; exact hP
  refine W_gen (fun Q hQ => ?_)
  refine W_heap eH ?_
  clear eH
  have hl := lv_entry ([.int x0, .int x1]) (n := 3) (Nat.le_of_ble_eq_true rfl)
  rw [lg_entry_eq]
  generalize (lg_sl ([.int x0, .int x1]) ++ List.replicate (3 - (lg_sl ([.int x0, .int x1])).length) Slot.unset).toArray = ls at hl ⊢
  have hl : lv_has ls 3 [(0, .int x0), (1, .int x1)] := hl
  have J_23 : ∀ (z0 : Int32) (z1 : Int32) (y0 : Int32), m_H_pairBit_23 z0 z1 y0 = some (r0, u0) → ∀ (H : Heap) (locs : List Loc), va_P (dC, dI) classes [] H → va_D A [] → va_S A s.heap H locs → ∀ (ls : Array Slot), lv_has ls 3 [(0, .int z0), (1, .int z1)] → W p l e (headSpec w_H_pairBit ({ frames := 0, cells := 0, slots := 0, locals := 0 } : Room)).room s m ([.int x0, .int x1] : List Value).toArray below meth c H locs 0 0 Q (F0 m 23 ls [.int y0]) := by
    intro z0 z1 y0 h H locs hP hD hS ls hl
    unfold m_H_pairBit_23 at h
    refine lv_istore_n (lv' := [(2, .int y0), (0, .int z0), (1, .int z1)]) hx hb d_H_pairBit_23 rfl hl (by decide) rfl (fun ls hl => ?_)
    refine lv_iload_n hx hb d_H_pairBit_24 rfl (lv_at hl 0 rfl) ?_
    refine lv_if_eq (tgt := 38) hx hb d_H_pairBit_25 (by decide) (fun c_25 => ?_) (fun c_25 => ?_)
    · have h := of_pos h c_25
      refine lv_iconst (v := (nI 0)) hx hb d_H_pairBit_38 (by decide) ?_
      rw [hQ]
      exact W.iret (v := (nI 0)) hx hb hr (fun t ht hW => ⟨⟨(nI 0), (), rfl, Prod.mk.inj (Option.some.inj h), by rw [ht]; exact hP, va_K.moved hW.alike hK, hD⟩, hS.F ht⟩) hS.2.2 d_H_pairBit_39
    · have h := of_neg h c_25
      refine lv_iconst (v := (nI 1)) hx hb d_H_pairBit_28 (by decide) ?_
      refine lv_iconst (v := (nI 4)) hx hb d_H_pairBit_29 (by decide) ?_
      refine lv_iload_n hx hb d_H_pairBit_30 rfl (lv_at hl 1 rfl) ?_
      refine lv_imul hx hb d_H_pairBit_31 ?_
      refine lv_iload_n hx hb d_H_pairBit_32 rfl (lv_at hl 2 rfl) ?_
      refine lv_iadd hx hb d_H_pairBit_33 ?_
      refine lv_ishl hx hb d_H_pairBit_34 ?_
      refine lv_goto (tgt := 39) hx hb d_H_pairBit_35 (by decide) ?_
      rw [hQ]
      exact W.iret (v := (nI 1) <<< ((((nI 4) * z0) + z1) &&& 31)) hx hb hr (fun t ht hW => ⟨⟨(nI 1) <<< ((((nI 4) * z0) + z1) &&& 31), (), rfl, Prod.mk.inj (Option.some.inj h), by rw [ht]; exact hP, va_K.moved hW.alike hK, hD⟩, hS.F ht⟩) hS.2.2 d_H_pairBit_39
  have J_22 : ∀ (z0 : Int32) (z1 : Int32), m_H_pairBit_22 z0 z1 = some (r0, u0) → ∀ (H : Heap) (locs : List Loc), va_P (dC, dI) classes [] H → va_D A [] → va_S A s.heap H locs → ∀ (ls : Array Slot), lv_has ls 3 [(0, .int z0), (1, .int z1)] → W p l e (headSpec w_H_pairBit ({ frames := 0, cells := 0, slots := 0, locals := 0 } : Room)).room s m ([.int x0, .int x1] : List Value).toArray below meth c H locs 0 0 Q (F0 m 22 ls []) := by
    intro z0 z1 h H locs hP hD hS ls hl
    unfold m_H_pairBit_22 at h
    refine lv_iconst (v := (nI 0)) hx hb d_H_pairBit_22 (by decide) ?_
    exact J_23 z0 z1 (nI 0) h _ _ hP hD hS ls (lv_sub hl [0, 1] rfl)
  unfold m_H_pairBit at h
  refine lv_iload_n hx hb d_H_pairBit_0 rfl (lv_at hl 0 rfl) ?_
  refine lv_if_lt (tgt := 22) hx hb d_H_pairBit_1 (by decide) (fun c_1 => ?_) (fun c_1 => ?_)
  · have h := of_pos h c_1
    exact J_22 x0 x1 h _ _ hP hD hS ls (lv_sub hl [0, 1] rfl)
  · have h := of_neg h c_1
    refine lv_iload_n hx hb d_H_pairBit_4 rfl (lv_at hl 0 rfl) ?_
    refine lv_iconst (v := (nI 4)) hx hb d_H_pairBit_5 (by decide) ?_
    refine lv_icmp_ge (tgt := 22) hx hb d_H_pairBit_6 (by decide) (fun c_6 => ?_) (fun c_6 => ?_)
    · have h := of_pos h c_6
      exact J_22 x0 x1 h _ _ hP hD hS ls (lv_sub hl [0, 1] rfl)
    · have h := of_neg h c_6
      refine lv_iload_n hx hb d_H_pairBit_9 rfl (lv_at hl 1 rfl) ?_
      refine lv_if_lt (tgt := 22) hx hb d_H_pairBit_10 (by decide) (fun c_10 => ?_) (fun c_10 => ?_)
      · have h := of_pos h c_10
        exact J_22 x0 x1 h _ _ hP hD hS ls (lv_sub hl [0, 1] rfl)
      · have h := of_neg h c_10
        refine lv_iload_n hx hb d_H_pairBit_13 rfl (lv_at hl 1 rfl) ?_
        refine lv_iconst (v := (nI 4)) hx hb d_H_pairBit_14 (by decide) ?_
        refine lv_icmp_ge (tgt := 22) hx hb d_H_pairBit_15 (by decide) (fun c_15 => ?_) (fun c_15 => ?_)
        · have h := of_pos h c_15
          exact J_22 x0 x1 h _ _ hP hD hS ls (lv_sub hl [0, 1] rfl)
        · have h := of_neg h c_15
          refine lv_iconst (v := (nI 1)) hx hb d_H_pairBit_18 (by decide) ?_
          refine lv_goto (tgt := 23) hx hb d_H_pairBit_19 (by decide) ?_
          exact J_23 x0 x1 (nI 1) h _ _ hP hD hS ls (lv_sub hl [0, 1] rfl)
set_option maxHeartbeats 1000000 in
set_option maxRecDepth 100000 in
theorem c_H_hasHeadVariables (l : Launch) (dC : Nat → ClassId) (dI : Nat → Nat → Nat) (sz : Nat)  (x0 : Int32) (r0 : Int32) (u0 : Unit) (h : m_H_hasHeadVariables x0 = some (r0, u0)) : Met l y_H_hasHeadVariables w_H_hasHeadVariables ({ frames := 0, cells := 0, slots := 0, locals := 0 } : Room) (va_Pc [.int x0] (fun U => U.heap.size = sz ∧ va_P (dC, dI) classes [] U.heap ∧ va_K (dC, dI) classes [] U ∧ va_D (fun _ => True) [])) (va_Qi (fun (r : Int32) (u : Unit) => r = r0 ∧ u = u0) (fun (u : Unit) (t : State) => va_P (dC, dI) classes [] t.heap ∧ va_K (dC, dI) classes [] t ∧ va_D (va_A [] sz) []) (va_A [] sz)) 0 0 (va_A [] sz) := by
  refine Met.ofW (cc := b_H_hasHeadVariables) (maxL := 1) (ret := (some .boolean)) (by decide) rfl ?_
  intro p e s m args below meth c s₁ B hml hv
  obtain ⟨rfl, hsz, hP, hK, hD0⟩ := hv
  have hx := B.exec
  have hb := B.bytes
  have hr := B.returns
  have hts0 := atoms_spec (ws := w_H_hasHeadVariables) B.pre
  have hts : ∀ w ∈ lw_gd, w.before ([.int x0] : List Value).toArray s = true := fun w h9 => hts0 w (List.mem_cons_of_mem _ h9)
  have hown : s.vm.findClass R_H = some m.cls := findClass_of_methodNamed B.named
  have hlocks := B.notSynchronized
  subst hsz
  have hD := hD0.self (sz := s.heap.size)
  generalize hAe : va_A [] s.heap.size = A at hD ⊢
  have hA : ∀ q : Nat, s.heap.size ≤ q → A q := fun q h9 => by rw [← hAe]; exact Or.inr h9
  obtain ⟨H, eH⟩ : ∃ H : Heap, H = s.heap := ⟨_, rfl⟩
  have hS : va_S A s.heap H [] := by rw [eH]; exact va_S.rf
  have hP : va_P (dC, dI) classes [] H := by rw [eH]; exact hP
  refine W_gen (fun Q hQ => ?_)
  refine W_heap eH ?_
  clear eH
  have hl := lv_entry ([.int x0]) (n := 1) (Nat.le_of_ble_eq_true rfl)
  rw [lg_entry_eq]
  generalize (lg_sl ([.int x0]) ++ List.replicate (1 - (lg_sl ([.int x0])).length) Slot.unset).toArray = ls at hl ⊢
  have hl : lv_has ls 1 [(0, .int x0)] := hl
  unfold m_H_hasHeadVariables at h
  refine lv_iload_n hx hb d_H_hasHeadVariables_0 rfl (lv_at hl 0 rfl) ?_
  refine lv_ldc (v := 20749903) hx hb hown (hts _ con_H_169) d_H_hasHeadVariables_1 ?_
  refine lv_iand hx hb d_H_hasHeadVariables_3 ?_
  refine lv_if_eq (tgt := 18) hx hb d_H_hasHeadVariables_4 (by decide) (fun c_4 => ?_) (fun c_4 => ?_)
  · have h := of_pos h c_4
    refine lv_iconst (v := (nI 0)) hx hb d_H_hasHeadVariables_18 (by decide) ?_
    rw [hQ]
    exact W.zret (v := (nI 0)) hx hb hr rfl (fun t ht hW => ⟨⟨(nI 0), (), rfl, Prod.mk.inj (Option.some.inj h), by rw [ht]; exact hP, va_K.moved hW.alike hK, hD⟩, hS.F ht⟩) hS.2.2 d_H_hasHeadVariables_19
  · have h := of_neg h c_4
    refine lv_iload_n hx hb d_H_hasHeadVariables_7 rfl (lv_at hl 0 rfl) ?_
    refine lv_ldc (v := 48854202) hx hb hown (hts _ con_H_170) d_H_hasHeadVariables_8 ?_
    refine lv_iand hx hb d_H_hasHeadVariables_10 ?_
    refine lv_if_eq (tgt := 18) hx hb d_H_hasHeadVariables_11 (by decide) (fun c_11 => ?_) (fun c_11 => ?_)
    · have h := of_pos h c_11
      refine lv_iconst (v := (nI 0)) hx hb d_H_hasHeadVariables_18 (by decide) ?_
      rw [hQ]
      exact W.zret (v := (nI 0)) hx hb hr rfl (fun t ht hW => ⟨⟨(nI 0), (), rfl, Prod.mk.inj (Option.some.inj h), by rw [ht]; exact hP, va_K.moved hW.alike hK, hD⟩, hS.F ht⟩) hS.2.2 d_H_hasHeadVariables_19
    · have h := of_neg h c_11
      refine lv_iconst (v := (nI 1)) hx hb d_H_hasHeadVariables_14 (by decide) ?_
      refine lv_goto (tgt := 19) hx hb d_H_hasHeadVariables_15 (by decide) ?_
      rw [hQ]
      exact W.zret (v := (nI 1)) hx hb hr rfl (fun t ht hW => ⟨⟨(nI 1), (), rfl, Prod.mk.inj (Option.some.inj h), by rw [ht]; exact hP, va_K.moved hW.alike hK, hD⟩, hS.F ht⟩) hS.2.2 d_H_hasHeadVariables_19
set_option maxHeartbeats 1000000 in
set_option maxRecDepth 100000 in
theorem c_H_codeOf (l : Launch) (dC : Nat → ClassId) (dI : Nat → Nat → Nat) (sz : Nat)  (x0 : Int32) (x1 : Int32) (x2 : Int32) (r0 : Int32) (u0 : Unit) (h : m_H_codeOf x0 x1 x2 = some (r0, u0)) : Met l y_H_codeOf w_H_codeOf ({ frames := 0, cells := 0, slots := 0, locals := 0 } : Room) (va_Pc [.int x0, .int x1, .int x2] (fun U => U.heap.size = sz ∧ va_P (dC, dI) classes [] U.heap ∧ va_K (dC, dI) classes [] U ∧ va_D (fun _ => True) [])) (va_Qi (fun (r : Int32) (u : Unit) => r = r0 ∧ u = u0) (fun (u : Unit) (t : State) => va_P (dC, dI) classes [] t.heap ∧ va_K (dC, dI) classes [] t ∧ va_D (va_A [] sz) []) (va_A [] sz)) 0 0 (va_A [] sz) := by
  refine Met.ofW (cc := b_H_codeOf) (maxL := 3) (ret := (some .int)) (by decide) rfl ?_
  intro p e s m args below meth c s₁ B hml hv
  obtain ⟨rfl, hsz, hP, hK, hD0⟩ := hv
  have hx := B.exec
  have hb := B.bytes
  have hr := B.returns
  have hts0 := atoms_spec (ws := w_H_codeOf) B.pre
  have hts : ∀ w ∈ lw_gd, w.before ([.int x0, .int x1, .int x2] : List Value).toArray s = true := fun w h9 => hts0 w (List.mem_cons_of_mem _ h9)
  have hown : s.vm.findClass R_H = some m.cls := findClass_of_methodNamed B.named
  have hlocks := B.notSynchronized
  subst hsz
  have hD := hD0.self (sz := s.heap.size)
  generalize hAe : va_A [] s.heap.size = A at hD ⊢
  have hA : ∀ q : Nat, s.heap.size ≤ q → A q := fun q h9 => by rw [← hAe]; exact Or.inr h9
  obtain ⟨H, eH⟩ : ∃ H : Heap, H = s.heap := ⟨_, rfl⟩
  have hS : va_S A s.heap H [] := by rw [eH]; exact va_S.rf
  have hP : va_P (dC, dI) classes [] H := by rw [eH]; exact hP
  refine W_gen (fun Q hQ => ?_)
  refine W_heap eH ?_
  clear eH
  have hl := lv_entry ([.int x0, .int x1, .int x2]) (n := 3) (Nat.le_of_ble_eq_true rfl)
  rw [lg_entry_eq]
  generalize (lg_sl ([.int x0, .int x1, .int x2]) ++ List.replicate (3 - (lg_sl ([.int x0, .int x1, .int x2])).length) Slot.unset).toArray = ls at hl ⊢
  have hl : lv_has ls 3 [(0, .int x0), (1, .int x1), (2, .int x2)] := hl
  unfold m_H_codeOf at h
  refine lv_bipush (v := (nI 9)) hx hb d_H_codeOf_0 (by decide) ?_
  refine lv_iload_n hx hb d_H_codeOf_2 rfl (lv_at hl 0 rfl) ?_
  refine lv_imul hx hb d_H_codeOf_3 ?_
  refine lv_iconst (v := (nI 3)) hx hb d_H_codeOf_4 (by decide) ?_
  refine lv_iload_n hx hb d_H_codeOf_5 rfl (lv_at hl 1 rfl) ?_
  refine lv_imul hx hb d_H_codeOf_6 ?_
  refine lv_iadd hx hb d_H_codeOf_7 ?_
  refine lv_iload_n hx hb d_H_codeOf_8 rfl (lv_at hl 2 rfl) ?_
  refine lv_iadd hx hb d_H_codeOf_9 ?_
  rw [hQ]
  exact W.iret (v := (((nI 9) * x0) + ((nI 3) * x1)) + x2) hx hb hr (fun t ht hW => ⟨⟨(((nI 9) * x0) + ((nI 3) * x1)) + x2, (), rfl, Prod.mk.inj (Option.some.inj h), by rw [ht]; exact hP, va_K.moved hW.alike hK, hD⟩, hS.F ht⟩) hS.2.2 d_H_codeOf_10
set_option maxHeartbeats 1000000 in
set_option maxRecDepth 100000 in
theorem c_H_relationOf (l : Launch) (dC : Nat → ClassId) (dI : Nat → Nat → Nat) (sz : Nat)  (x0 : Int32) (r0 : Int32) (u0 : Unit) (h : m_H_relationOf x0 = some (r0, u0)) : Met l y_H_relationOf w_H_relationOf ({ frames := 0, cells := 0, slots := 0, locals := 0 } : Room) (va_Pc [.int x0] (fun U => U.heap.size = sz ∧ va_P (dC, dI) classes [] U.heap ∧ va_K (dC, dI) classes [] U ∧ va_D (fun _ => True) [])) (va_Qi (fun (r : Int32) (u : Unit) => r = r0 ∧ u = u0) (fun (u : Unit) (t : State) => va_P (dC, dI) classes [] t.heap ∧ va_K (dC, dI) classes [] t ∧ va_D (va_A [] sz) []) (va_A [] sz)) 0 0 (va_A [] sz) := by
  refine Met.ofW (cc := b_H_relationOf) (maxL := 1) (ret := (some .int)) (by decide) rfl ?_
  intro p e s m args below meth c s₁ B hml hv
  obtain ⟨rfl, hsz, hP, hK, hD0⟩ := hv
  have hx := B.exec
  have hb := B.bytes
  have hr := B.returns
  have hts0 := atoms_spec (ws := w_H_relationOf) B.pre
  have hts : ∀ w ∈ lw_gd, w.before ([.int x0] : List Value).toArray s = true := fun w h9 => hts0 w (List.mem_cons_of_mem _ h9)
  have hown : s.vm.findClass R_H = some m.cls := findClass_of_methodNamed B.named
  have hlocks := B.notSynchronized
  subst hsz
  have hD := hD0.self (sz := s.heap.size)
  generalize hAe : va_A [] s.heap.size = A at hD ⊢
  have hA : ∀ q : Nat, s.heap.size ≤ q → A q := fun q h9 => by rw [← hAe]; exact Or.inr h9
  obtain ⟨H, eH⟩ : ∃ H : Heap, H = s.heap := ⟨_, rfl⟩
  have hS : va_S A s.heap H [] := by rw [eH]; exact va_S.rf
  have hP : va_P (dC, dI) classes [] H := by rw [eH]; exact hP
  refine W_gen (fun Q hQ => ?_)
  refine W_heap eH ?_
  clear eH
  have hl := lv_entry ([.int x0]) (n := 1) (Nat.le_of_ble_eq_true rfl)
  rw [lg_entry_eq]
  generalize (lg_sl ([.int x0]) ++ List.replicate (1 - (lg_sl ([.int x0])).length) Slot.unset).toArray = ls at hl ⊢
  have hl : lv_has ls 1 [(0, .int x0)] := hl
  unfold m_H_relationOf at h
  refine lv_iload_n hx hb d_H_relationOf_0 rfl (lv_at hl 0 rfl) ?_
  refine lv_bipush (v := (nI 9)) hx hb d_H_relationOf_1 (by decide) ?_
  refine lv_idiv hx hb d_H_relationOf_3 (by decide) ?_
  rw [hQ]
  exact W.iret (v := x0 / (nI 9)) hx hb hr (fun t ht hW => ⟨⟨x0 / (nI 9), (), rfl, Prod.mk.inj (Option.some.inj h), by rw [ht]; exact hP, va_K.moved hW.alike hK, hD⟩, hS.F ht⟩) hS.2.2 d_H_relationOf_4
set_option maxHeartbeats 1000000 in
set_option maxRecDepth 100000 in
theorem c_H_firstVariableOf (l : Launch) (dC : Nat → ClassId) (dI : Nat → Nat → Nat) (sz : Nat)  (x0 : Int32) (r0 : Int32) (u0 : Unit) (h : m_H_firstVariableOf x0 = some (r0, u0)) : Met l y_H_firstVariableOf w_H_firstVariableOf ({ frames := 0, cells := 0, slots := 0, locals := 0 } : Room) (va_Pc [.int x0] (fun U => U.heap.size = sz ∧ va_P (dC, dI) classes [] U.heap ∧ va_K (dC, dI) classes [] U ∧ va_D (fun _ => True) [])) (va_Qi (fun (r : Int32) (u : Unit) => r = r0 ∧ u = u0) (fun (u : Unit) (t : State) => va_P (dC, dI) classes [] t.heap ∧ va_K (dC, dI) classes [] t ∧ va_D (va_A [] sz) []) (va_A [] sz)) 0 0 (va_A [] sz) := by
  refine Met.ofW (cc := b_H_firstVariableOf) (maxL := 1) (ret := (some .int)) (by decide) rfl ?_
  intro p e s m args below meth c s₁ B hml hv
  obtain ⟨rfl, hsz, hP, hK, hD0⟩ := hv
  have hx := B.exec
  have hb := B.bytes
  have hr := B.returns
  have hts0 := atoms_spec (ws := w_H_firstVariableOf) B.pre
  have hts : ∀ w ∈ lw_gd, w.before ([.int x0] : List Value).toArray s = true := fun w h9 => hts0 w (List.mem_cons_of_mem _ h9)
  have hown : s.vm.findClass R_H = some m.cls := findClass_of_methodNamed B.named
  have hlocks := B.notSynchronized
  subst hsz
  have hD := hD0.self (sz := s.heap.size)
  generalize hAe : va_A [] s.heap.size = A at hD ⊢
  have hA : ∀ q : Nat, s.heap.size ≤ q → A q := fun q h9 => by rw [← hAe]; exact Or.inr h9
  obtain ⟨H, eH⟩ : ∃ H : Heap, H = s.heap := ⟨_, rfl⟩
  have hS : va_S A s.heap H [] := by rw [eH]; exact va_S.rf
  have hP : va_P (dC, dI) classes [] H := by rw [eH]; exact hP
  refine W_gen (fun Q hQ => ?_)
  refine W_heap eH ?_
  clear eH
  have hl := lv_entry ([.int x0]) (n := 1) (Nat.le_of_ble_eq_true rfl)
  rw [lg_entry_eq]
  generalize (lg_sl ([.int x0]) ++ List.replicate (1 - (lg_sl ([.int x0])).length) Slot.unset).toArray = ls at hl ⊢
  have hl : lv_has ls 1 [(0, .int x0)] := hl
  unfold m_H_firstVariableOf at h
  refine lv_iload_n hx hb d_H_firstVariableOf_0 rfl (lv_at hl 0 rfl) ?_
  refine lv_iconst (v := (nI 3)) hx hb d_H_firstVariableOf_1 (by decide) ?_
  refine lv_idiv hx hb d_H_firstVariableOf_2 (by decide) ?_
  refine lv_iconst (v := (nI 3)) hx hb d_H_firstVariableOf_3 (by decide) ?_
  refine lv_irem hx hb d_H_firstVariableOf_4 (by decide) ?_
  rw [hQ]
  exact W.iret (v := irm (x0 / (nI 3)) (nI 3)) hx hb hr (fun t ht hW => ⟨⟨irm (x0 / (nI 3)) (nI 3), (), rfl, Prod.mk.inj (Option.some.inj h), by rw [ht]; exact hP, va_K.moved hW.alike hK, hD⟩, hS.F ht⟩) hS.2.2 d_H_firstVariableOf_5
set_option maxHeartbeats 1000000 in
set_option maxRecDepth 100000 in
theorem c_H_secondVariableOf (l : Launch) (dC : Nat → ClassId) (dI : Nat → Nat → Nat) (sz : Nat)  (x0 : Int32) (r0 : Int32) (u0 : Unit) (h : m_H_secondVariableOf x0 = some (r0, u0)) : Met l y_H_secondVariableOf w_H_secondVariableOf ({ frames := 0, cells := 0, slots := 0, locals := 0 } : Room) (va_Pc [.int x0] (fun U => U.heap.size = sz ∧ va_P (dC, dI) classes [] U.heap ∧ va_K (dC, dI) classes [] U ∧ va_D (fun _ => True) [])) (va_Qi (fun (r : Int32) (u : Unit) => r = r0 ∧ u = u0) (fun (u : Unit) (t : State) => va_P (dC, dI) classes [] t.heap ∧ va_K (dC, dI) classes [] t ∧ va_D (va_A [] sz) []) (va_A [] sz)) 0 0 (va_A [] sz) := by
  refine Met.ofW (cc := b_H_secondVariableOf) (maxL := 1) (ret := (some .int)) (by decide) rfl ?_
  intro p e s m args below meth c s₁ B hml hv
  obtain ⟨rfl, hsz, hP, hK, hD0⟩ := hv
  have hx := B.exec
  have hb := B.bytes
  have hr := B.returns
  have hts0 := atoms_spec (ws := w_H_secondVariableOf) B.pre
  have hts : ∀ w ∈ lw_gd, w.before ([.int x0] : List Value).toArray s = true := fun w h9 => hts0 w (List.mem_cons_of_mem _ h9)
  have hown : s.vm.findClass R_H = some m.cls := findClass_of_methodNamed B.named
  have hlocks := B.notSynchronized
  subst hsz
  have hD := hD0.self (sz := s.heap.size)
  generalize hAe : va_A [] s.heap.size = A at hD ⊢
  have hA : ∀ q : Nat, s.heap.size ≤ q → A q := fun q h9 => by rw [← hAe]; exact Or.inr h9
  obtain ⟨H, eH⟩ : ∃ H : Heap, H = s.heap := ⟨_, rfl⟩
  have hS : va_S A s.heap H [] := by rw [eH]; exact va_S.rf
  have hP : va_P (dC, dI) classes [] H := by rw [eH]; exact hP
  refine W_gen (fun Q hQ => ?_)
  refine W_heap eH ?_
  clear eH
  have hl := lv_entry ([.int x0]) (n := 1) (Nat.le_of_ble_eq_true rfl)
  rw [lg_entry_eq]
  generalize (lg_sl ([.int x0]) ++ List.replicate (1 - (lg_sl ([.int x0])).length) Slot.unset).toArray = ls at hl ⊢
  have hl : lv_has ls 1 [(0, .int x0)] := hl
  unfold m_H_secondVariableOf at h
  refine lv_iload_n hx hb d_H_secondVariableOf_0 rfl (lv_at hl 0 rfl) ?_
  refine lv_iconst (v := (nI 3)) hx hb d_H_secondVariableOf_1 (by decide) ?_
  refine lv_irem hx hb d_H_secondVariableOf_2 (by decide) ?_
  rw [hQ]
  exact W.iret (v := irm x0 (nI 3)) hx hb hr (fun t ht hW => ⟨⟨irm x0 (nI 3), (), rfl, Prod.mk.inj (Option.some.inj h), by rw [ht]; exact hP, va_K.moved hW.alike hK, hD⟩, hS.F ht⟩) hS.2.2 d_H_secondVariableOf_3
set_option maxHeartbeats 1000000 in
set_option maxRecDepth 100000 in
theorem c_H_leastCode (l : Launch) (dC : Nat → ClassId) (dI : Nat → Nat → Nat) (sz : Nat)  (x0 : Int32) (r0 : Int32) (u0 : Unit) (h : m_H_leastCode x0 = some (r0, u0)) : Met l y_H_leastCode w_H_leastCode ({ frames := 1, cells := 0, slots := 0, locals := 20 } : Room) (va_Pc [.int x0] (fun U => U.heap.size = sz ∧ va_P (dC, dI) classes [] U.heap ∧ va_K (dC, dI) classes [] U ∧ va_D (fun _ => True) [])) (va_Qi (fun (r : Int32) (u : Unit) => r = r0 ∧ u = u0) (fun (u : Unit) (t : State) => va_P (dC, dI) classes [] t.heap ∧ va_K (dC, dI) classes [] t ∧ va_D (va_A [] sz) []) (va_A [] sz)) 0 0 (va_A [] sz) := by
  refine Met.ofW (cc := b_H_leastCode) (maxL := 1) (ret := (some .int)) (by decide) rfl ?_
  intro p e s m args below meth c s₁ B hml hv
  obtain ⟨rfl, hsz, hP, hK, hD0⟩ := hv
  have hx := B.exec
  have hb := B.bytes
  have hr := B.returns
  have hts0 := atoms_spec (ws := w_H_leastCode) B.pre
  have hts : ∀ w ∈ lw_gd, w.before ([.int x0] : List Value).toArray s = true := fun w h9 => hts0 w (List.mem_cons_of_mem _ h9)
  have hown : s.vm.findClass R_H = some m.cls := findClass_of_methodNamed B.named
  have hlocks := B.notSynchronized
  subst hsz
  have hD := hD0.self (sz := s.heap.size)
  generalize hAe : va_A [] s.heap.size = A at hD ⊢
  have hA : ∀ q : Nat, s.heap.size ≤ q → A q := fun q h9 => by rw [← hAe]; exact Or.inr h9
  obtain ⟨H, eH⟩ : ∃ H : Heap, H = s.heap := ⟨_, rfl⟩
  have hS : va_S A s.heap H [] := by rw [eH]; exact va_S.rf
  have hP : va_P (dC, dI) classes [] H := by rw [eH]; exact hP
  refine W_gen (fun Q hQ => ?_)
  refine W_heap eH ?_
  clear eH
  have hl := lv_entry ([.int x0]) (n := 1) (Nat.le_of_ble_eq_true rfl)
  rw [lg_entry_eq]
  generalize (lg_sl ([.int x0]) ++ List.replicate (1 - (lg_sl ([.int x0])).length) Slot.unset).toArray = ls at hl ⊢
  have hl : lv_has ls 1 [(0, .int x0)] := hl
  unfold m_H_leastCode at h
  refine lv_iload_n hx hb d_H_leastCode_0 rfl (lv_at hl 0 rfl) ?_
  refine lv_iload_n hx hb d_H_leastCode_1 rfl (lv_at hl 0 rfl) ?_
  refine lv_ineg hx hb d_H_leastCode_2 ?_
  refine lv_iand hx hb d_H_leastCode_3 ?_
  refine lv_iconst (v := (nI 1)) hx hb d_H_leastCode_4 (by decide) ?_
  refine lv_isub hx hb d_H_leastCode_5 ?_
  have hPc := hP.sub (ws' := []) [] rfl
  have hDc := hD.sub (ws' := []) [] (by decide) rfl
  have hKc := hK.sub (tys' := []) [] rfl
  have hFc := va_free (wc := []) hD hS hA [] rfl
  obtain ⟨v_6, hc_6, h⟩ := of_bind h
  refine va_calli (va_runS (As := [.int ((x0 &&& (-x0)) - (nI 1))]) (rest := []) ⟨hx, hb, hml, hown, hts⟩ (c_I_bitCount l dC dI H.size ((x0 &&& (-x0)) - (nI 1)) v_6.1 v_6.2 hc_6) (va_cwS 1 hts (gS mlk_H_66 sta_I_bitCount ini_I cod_I_bitCount) rfl rfl rfl (by decide +kernel) ⟨Nat.le_of_ble_eq_true rfl, Nat.le_of_ble_eq_true rfl⟩) ⟨fun a U g mk q => by obtain ⟨q0, q1, qP, qK, qD⟩ := q; exact ⟨q0, q1, qP, va_K.moved (u := U) (U := U.calling g mk a) (Vm.Alike.refl U.vm) qK, qD⟩, fun U hU hW => ⟨rfl, by rw [hU], by rw [hU]; exact hPc, va_K.moved hW.alike hKc, hDc.weaken (fun _ _ _ _ => trivial)⟩⟩ rfl rfl hl.1 rfl (lv_room (Nat.le_of_ble_eq_true rfl)) d_H_leastCode_6 ⟨Nat.le_of_ble_eq_true rfl, Nat.le_of_ble_eq_true rfl⟩) hS (fun q _ h9 => hFc q h9) hFc (fun r_6 u t H1 locs ht hvm hw hB hz1 hk1 hS => ?_)
  obtain ⟨rfl, rfl⟩ := hw
  obtain ⟨hP1, hK1, hD1⟩ := hB
  rw [ht] at hP1
  obtain ⟨hP, hD⟩ := va_join (wr := []) (w1 := []) hP hD [] [] rfl rfl (by decide) (by decide) hk1 hFc hP1 hD1
  have hP := hP.sub (ws' := []) [] rfl
  have hD := hD.sub (ws' := []) [] (by decide) rfl
  generalize H1 = H at hP hS ⊢
  rw [hQ]
  exact W.iret (v := v_6.1) hx hb hr (fun t ht hW => ⟨⟨v_6.1, (), rfl, Prod.mk.inj (Option.some.inj h), by rw [ht]; exact hP, va_K.moved hW.alike hK, hD⟩, hS.F ht⟩) hS.2.2 d_H_leastCode_9
set_option maxHeartbeats 1000000 in
set_option maxRecDepth 100000 in
theorem c_H_withoutLeastCode (l : Launch) (dC : Nat → ClassId) (dI : Nat → Nat → Nat) (sz : Nat)  (x0 : Int32) (r0 : Int32) (u0 : Unit) (h : m_H_withoutLeastCode x0 = some (r0, u0)) : Met l y_H_withoutLeastCode w_H_withoutLeastCode ({ frames := 0, cells := 0, slots := 0, locals := 0 } : Room) (va_Pc [.int x0] (fun U => U.heap.size = sz ∧ va_P (dC, dI) classes [] U.heap ∧ va_K (dC, dI) classes [] U ∧ va_D (fun _ => True) [])) (va_Qi (fun (r : Int32) (u : Unit) => r = r0 ∧ u = u0) (fun (u : Unit) (t : State) => va_P (dC, dI) classes [] t.heap ∧ va_K (dC, dI) classes [] t ∧ va_D (va_A [] sz) []) (va_A [] sz)) 0 0 (va_A [] sz) := by
  refine Met.ofW (cc := b_H_withoutLeastCode) (maxL := 1) (ret := (some .int)) (by decide) rfl ?_
  intro p e s m args below meth c s₁ B hml hv
  obtain ⟨rfl, hsz, hP, hK, hD0⟩ := hv
  have hx := B.exec
  have hb := B.bytes
  have hr := B.returns
  have hts0 := atoms_spec (ws := w_H_withoutLeastCode) B.pre
  have hts : ∀ w ∈ lw_gd, w.before ([.int x0] : List Value).toArray s = true := fun w h9 => hts0 w (List.mem_cons_of_mem _ h9)
  have hown : s.vm.findClass R_H = some m.cls := findClass_of_methodNamed B.named
  have hlocks := B.notSynchronized
  subst hsz
  have hD := hD0.self (sz := s.heap.size)
  generalize hAe : va_A [] s.heap.size = A at hD ⊢
  have hA : ∀ q : Nat, s.heap.size ≤ q → A q := fun q h9 => by rw [← hAe]; exact Or.inr h9
  obtain ⟨H, eH⟩ : ∃ H : Heap, H = s.heap := ⟨_, rfl⟩
  have hS : va_S A s.heap H [] := by rw [eH]; exact va_S.rf
  have hP : va_P (dC, dI) classes [] H := by rw [eH]; exact hP
  refine W_gen (fun Q hQ => ?_)
  refine W_heap eH ?_
  clear eH
  have hl := lv_entry ([.int x0]) (n := 1) (Nat.le_of_ble_eq_true rfl)
  rw [lg_entry_eq]
  generalize (lg_sl ([.int x0]) ++ List.replicate (1 - (lg_sl ([.int x0])).length) Slot.unset).toArray = ls at hl ⊢
  have hl : lv_has ls 1 [(0, .int x0)] := hl
  unfold m_H_withoutLeastCode at h
  refine lv_iload_n hx hb d_H_withoutLeastCode_0 rfl (lv_at hl 0 rfl) ?_
  refine lv_iload_n hx hb d_H_withoutLeastCode_1 rfl (lv_at hl 0 rfl) ?_
  refine lv_iconst (v := (nI 1)) hx hb d_H_withoutLeastCode_2 (by decide) ?_
  refine lv_isub hx hb d_H_withoutLeastCode_3 ?_
  refine lv_iand hx hb d_H_withoutLeastCode_4 ?_
  rw [hQ]
  exact W.iret (v := x0 &&& (x0 - (nI 1))) hx hb hr (fun t ht hW => ⟨⟨x0 &&& (x0 - (nI 1)), (), rfl, Prod.mk.inj (Option.some.inj h), by rw [ht]; exact hP, va_K.moved hW.alike hK, hD⟩, hS.F ht⟩) hS.2.2 d_H_withoutLeastCode_5
set_option maxHeartbeats 1000000 in
set_option maxRecDepth 100000 in
theorem c_H_codeAt (l : Launch) (dC : Nat → ClassId) (dI : Nat → Nat → Nat) (sz : Nat)  (x0 : Int32) (x1 : Int32) (r0 : Int32) (u0 : Unit) (h : m_H_codeAt x0 x1 = some (r0, u0)) : Met l y_H_codeAt w_H_codeAt ({ frames := 2, cells := 0, slots := 0, locals := 40 } : Room) (va_Pc [.int x0, .int x1] (fun U => U.heap.size = sz ∧ va_P (dC, dI) classes [] U.heap ∧ va_K (dC, dI) classes [] U ∧ va_D (fun _ => True) [])) (va_Qi (fun (r : Int32) (u : Unit) => r = r0 ∧ u = u0) (fun (u : Unit) (t : State) => va_P (dC, dI) classes [] t.heap ∧ va_K (dC, dI) classes [] t ∧ va_D (va_A [] sz) []) (va_A [] sz)) 0 0 (va_A [] sz) := by
  refine Met.ofW (cc := b_H_codeAt) (maxL := 4) (ret := (some .int)) (by decide) rfl ?_
  intro p e s m args below meth c s₁ B hml hv
  obtain ⟨rfl, hsz, hP, hK, hD0⟩ := hv
  have hx := B.exec
  have hb := B.bytes
  have hr := B.returns
  have hts0 := atoms_spec (ws := w_H_codeAt) B.pre
  have hts : ∀ w ∈ lw_gd, w.before ([.int x0, .int x1] : List Value).toArray s = true := fun w h9 => hts0 w (List.mem_cons_of_mem _ h9)
  have hown : s.vm.findClass R_H = some m.cls := findClass_of_methodNamed B.named
  have hlocks := B.notSynchronized
  subst hsz
  have hD := hD0.self (sz := s.heap.size)
  generalize hAe : va_A [] s.heap.size = A at hD ⊢
  have hA : ∀ q : Nat, s.heap.size ≤ q → A q := fun q h9 => by rw [← hAe]; exact Or.inr h9
  obtain ⟨H, eH⟩ : ∃ H : Heap, H = s.heap := ⟨_, rfl⟩
  have hS : va_S A s.heap H [] := by rw [eH]; exact va_S.rf
  have hP : va_P (dC, dI) classes [] H := by rw [eH]; exact hP
  refine W_gen (fun Q hQ => ?_)
  refine W_heap eH ?_
  clear eH
  have hl := lv_entry ([.int x0, .int x1]) (n := 4) (Nat.le_of_ble_eq_true rfl)
  rw [lg_entry_eq]
  generalize (lg_sl ([.int x0, .int x1]) ++ List.replicate (4 - (lg_sl ([.int x0, .int x1])).length) Slot.unset).toArray = ls at hl ⊢
  have hl : lv_has ls 4 [(0, .int x0), (1, .int x1)] := hl
  have J_18 : ∀ (n : Nat) (z1 : Int32) (z2 : Int32) (z3 : Int32), m_H_codeAt_18 n z1 z2 z3 = some (r0, u0) → ∀ (H : Heap) (locs : List Loc), va_P (dC, dI) classes [] H → va_D A [] → va_S A s.heap H locs → ∀ (ls : Array Slot), lv_has ls 4 [(1, .int z1), (2, .int z2), (3, .int z3)] → W p l e (headSpec w_H_codeAt ({ frames := 2, cells := 0, slots := 0, locals := 40 } : Room)).room s m ([.int x0, .int x1] : List Value).toArray below meth c H locs 0 0 Q (F0 m 18 ls []) := by
    intro n
    induction n with
    | zero => intro z1 z2 z3 h; exact absurd h (by unfold m_H_codeAt_18; exact fun h9 => nomatch h9)
    | succ n ih =>
      intro z1 z2 z3 h H locs hP hD hS ls hl
      unfold m_H_codeAt_18 at h
      refine lv_iload_n hx hb d_H_codeAt_18 rfl (lv_at hl 2 rfl) ?_
      refine lv_iload_n hx hb d_H_codeAt_19 rfl (lv_at hl 0 rfl) ?_
      refine lv_icmp_ge (tgt := 34) hx hb d_H_codeAt_20 (by decide) (fun c_20 => ?_) (fun c_20 => ?_)
      · have h := of_pos h c_20
        refine lv_iload_n hx hb d_H_codeAt_34 rfl (lv_at hl 1 rfl) ?_
        have hPc := hP.sub (ws' := []) [] rfl
        have hDc := hD.sub (ws' := []) [] (by decide) rfl
        have hKc := hK.sub (tys' := []) [] rfl
        have hFc := va_free (wc := []) hD hS hA [] rfl
        obtain ⟨v_35, hc_35, h⟩ := of_bind h
        refine va_calli (va_runS (As := [.int z2]) (rest := []) ⟨hx, hb, hml, hown, hts⟩ (c_H_leastCode l dC dI H.size z2 v_35.1 v_35.2 hc_35) (va_cwS 1 hts (gS mlk_H_174 sta_H_leastCode ini_H cod_H_leastCode) rfl rfl rfl (by decide +kernel) ⟨Nat.le_of_ble_eq_true rfl, Nat.le_of_ble_eq_true rfl⟩) ⟨fun a U g mk q => by obtain ⟨q0, q1, qP, qK, qD⟩ := q; exact ⟨q0, q1, qP, va_K.moved (u := U) (U := U.calling g mk a) (Vm.Alike.refl U.vm) qK, qD⟩, fun U hU hW => ⟨rfl, by rw [hU], by rw [hU]; exact hPc, va_K.moved hW.alike hKc, hDc.weaken (fun _ _ _ _ => trivial)⟩⟩ rfl rfl hl.1 rfl (lv_room (Nat.le_of_ble_eq_true rfl)) d_H_codeAt_35 ⟨Nat.le_of_ble_eq_true rfl, Nat.le_of_ble_eq_true rfl⟩) hS (fun q _ h9 => hFc q h9) hFc (fun r_35 u t H1 locs ht hvm hw hB hz1 hk1 hS => ?_)
        obtain ⟨rfl, rfl⟩ := hw
        obtain ⟨hP1, hK1, hD1⟩ := hB
        rw [ht] at hP1
        obtain ⟨hP, hD⟩ := va_join (wr := []) (w1 := []) hP hD [] [] rfl rfl (by decide) (by decide) hk1 hFc hP1 hD1
        have hP := hP.sub (ws' := []) [] rfl
        have hD := hD.sub (ws' := []) [] (by decide) rfl
        generalize H1 = H at hP hS ⊢
        rw [hQ]
        exact W.iret (v := v_35.1) hx hb hr (fun t ht hW => ⟨⟨v_35.1, (), rfl, Prod.mk.inj (Option.some.inj h), by rw [ht]; exact hP, va_K.moved hW.alike hK, hD⟩, hS.F ht⟩) hS.2.2 d_H_codeAt_38
      · have h := of_neg h c_20
        refine lv_iload_n hx hb d_H_codeAt_23 rfl (lv_at hl 1 rfl) ?_
        have hPc := hP.sub (ws' := []) [] rfl
        have hDc := hD.sub (ws' := []) [] (by decide) rfl
        have hKc := hK.sub (tys' := []) [] rfl
        have hFc := va_free (wc := []) hD hS hA [] rfl
        obtain ⟨v_24, hc_24, h⟩ := of_bind h
        refine va_calli (va_runS (As := [.int z2]) (rest := []) ⟨hx, hb, hml, hown, hts⟩ (c_H_withoutLeastCode l dC dI H.size z2 v_24.1 v_24.2 hc_24) (va_cwS 1 hts (gS mlk_H_171 sta_H_withoutLeastCode ini_H cod_H_withoutLeastCode) rfl rfl rfl (by decide +kernel) ⟨Nat.le_of_ble_eq_true rfl, Nat.le_of_ble_eq_true rfl⟩) ⟨fun a U g mk q => by obtain ⟨q0, q1, qP, qK, qD⟩ := q; exact ⟨q0, q1, qP, va_K.moved (u := U) (U := U.calling g mk a) (Vm.Alike.refl U.vm) qK, qD⟩, fun U hU hW => ⟨rfl, by rw [hU], by rw [hU]; exact hPc, va_K.moved hW.alike hKc, hDc.weaken (fun _ _ _ _ => trivial)⟩⟩ rfl rfl hl.1 rfl (lv_room (Nat.le_of_ble_eq_true rfl)) d_H_codeAt_24 ⟨Nat.le_of_ble_eq_true rfl, Nat.le_of_ble_eq_true rfl⟩) hS (fun q _ h9 => hFc q h9) hFc (fun r_24 u t H1 locs ht hvm hw hB hz1 hk1 hS => ?_)
        obtain ⟨rfl, rfl⟩ := hw
        obtain ⟨hP1, hK1, hD1⟩ := hB
        rw [ht] at hP1
        obtain ⟨hP, hD⟩ := va_join (wr := []) (w1 := []) hP hD [] [] rfl rfl (by decide) (by decide) hk1 hFc hP1 hD1
        have hP := hP.sub (ws' := []) [] rfl
        have hD := hD.sub (ws' := []) [] (by decide) rfl
        generalize H1 = H at hP hS ⊢
        refine lv_istore_n (lv' := [(2, .int v_24.1), (1, .int z1), (3, .int z3)]) hx hb d_H_codeAt_27 rfl hl (by decide) rfl (fun ls hl => ?_)
        refine lv_iinc (v := z3 + (nI 1)) (lv' := [(3, .int (z3 + (nI 1))), (2, .int v_24.1), (1, .int z1)]) hx hb d_H_codeAt_28 hl (k := 2) rfl rfl (by decide) rfl (fun ls hl => ?_)
        refine lv_goto (tgt := 18) hx hb d_H_codeAt_31 (by decide) ?_
        exact ih z1 v_24.1 (z3 + (nI 1)) h _ _ hP hD hS ls (lv_sub hl [2, 1, 0] rfl)
  unfold m_H_codeAt at h
  refine lv_iload_n hx hb d_H_codeAt_0 rfl (lv_at hl 1 rfl) ?_
  refine lv_if_lt (tgt := 12) hx hb d_H_codeAt_1 (by decide) (fun c_1 => ?_) (fun c_1 => ?_)
  · have h := of_pos h c_1
    refine lv_iconst (v := (-1 : Int32)) hx hb d_H_codeAt_12 (by decide) ?_
    rw [hQ]
    exact W.iret (v := (-1 : Int32)) hx hb hr (fun t ht hW => ⟨⟨(-1 : Int32), (), rfl, Prod.mk.inj (Option.some.inj h), by rw [ht]; exact hP, va_K.moved hW.alike hK, hD⟩, hS.F ht⟩) hS.2.2 d_H_codeAt_13
  · have h := of_neg h c_1
    refine lv_iload_n hx hb d_H_codeAt_4 rfl (lv_at hl 1 rfl) ?_
    refine lv_iload_n hx hb d_H_codeAt_5 rfl (lv_at hl 0 rfl) ?_
    have hPc := hP.sub (ws' := []) [] rfl
    have hDc := hD.sub (ws' := []) [] (by decide) rfl
    have hKc := hK.sub (tys' := []) [] rfl
    have hFc := va_free (wc := []) hD hS hA [] rfl
    obtain ⟨v_6, hc_6, h⟩ := of_bind h
    refine va_calli (va_runS (As := [.int x0]) (rest := [.int x1]) ⟨hx, hb, hml, hown, hts⟩ (c_I_bitCount l dC dI H.size x0 v_6.1 v_6.2 hc_6) (va_cwS 1 hts (gS mlk_H_66 sta_I_bitCount ini_I cod_I_bitCount) rfl rfl rfl (by decide +kernel) ⟨Nat.le_of_ble_eq_true rfl, Nat.le_of_ble_eq_true rfl⟩) ⟨fun a U g mk q => by obtain ⟨q0, q1, qP, qK, qD⟩ := q; exact ⟨q0, q1, qP, va_K.moved (u := U) (U := U.calling g mk a) (Vm.Alike.refl U.vm) qK, qD⟩, fun U hU hW => ⟨rfl, by rw [hU], by rw [hU]; exact hPc, va_K.moved hW.alike hKc, hDc.weaken (fun _ _ _ _ => trivial)⟩⟩ rfl rfl hl.1 rfl (lv_room (Nat.le_of_ble_eq_true rfl)) d_H_codeAt_6 ⟨Nat.le_of_ble_eq_true rfl, Nat.le_of_ble_eq_true rfl⟩) hS (fun q _ h9 => hFc q h9) hFc (fun r_6 u t H1 locs ht hvm hw hB hz1 hk1 hS => ?_)
    obtain ⟨rfl, rfl⟩ := hw
    obtain ⟨hP1, hK1, hD1⟩ := hB
    rw [ht] at hP1
    obtain ⟨hP, hD⟩ := va_join (wr := []) (w1 := []) hP hD [] [] rfl rfl (by decide) (by decide) hk1 hFc hP1 hD1
    have hP := hP.sub (ws' := []) [] rfl
    have hD := hD.sub (ws' := []) [] (by decide) rfl
    generalize H1 = H at hP hS ⊢
    refine lv_icmp_lt (tgt := 14) hx hb d_H_codeAt_9 (by decide) (fun c_9 => ?_) (fun c_9 => ?_)
    · have h := of_pos h c_9
      refine lv_iload_n hx hb d_H_codeAt_14 rfl (lv_at hl 0 rfl) ?_
      refine lv_istore_n (lv' := [(2, .int x0), (0, .int x0), (1, .int x1)]) hx hb d_H_codeAt_15 rfl hl (by decide) rfl (fun ls hl => ?_)
      refine lv_iconst (v := (nI 0)) hx hb d_H_codeAt_16 (by decide) ?_
      refine lv_istore_n (lv' := [(3, .int (nI 0)), (2, .int x0), (0, .int x0), (1, .int x1)]) hx hb d_H_codeAt_17 rfl hl (by decide) rfl (fun ls hl => ?_)
      exact J_18 40 x1 x0 (nI 0) h _ _ hP hD hS ls (lv_sub hl [3, 1, 0] rfl)
    · have h := of_neg h c_9
      refine lv_iconst (v := (-1 : Int32)) hx hb d_H_codeAt_12 (by decide) ?_
      rw [hQ]
      exact W.iret (v := (-1 : Int32)) hx hb hr (fun t ht hW => ⟨⟨(-1 : Int32), (), rfl, Prod.mk.inj (Option.some.inj h), by rw [ht]; exact hP, va_K.moved hW.alike hK, hD⟩, hS.F ht⟩) hS.2.2 d_H_codeAt_13
set_option maxHeartbeats 1000000 in
set_option maxRecDepth 100000 in
theorem c_H_withVariableForZ (l : Launch) (dC : Nat → ClassId) (dI : Nat → Nat → Nat) (sz : Nat)  (x0 : Int32) (x1 : Int32) (r0 : Int32) (u0 : Unit) (h : m_H_withVariableForZ x0 x1 = some (r0, u0)) : Met l y_H_withVariableForZ w_H_withVariableForZ ({ frames := 2, cells := 0, slots := 0, locals := 40 } : Room) (va_Pc [.int x0, .int x1] (fun U => U.heap.size = sz ∧ va_P (dC, dI) classes [] U.heap ∧ va_K (dC, dI) classes [] U ∧ va_D (fun _ => True) [])) (va_Qi (fun (r : Int32) (u : Unit) => r = r0 ∧ u = u0) (fun (u : Unit) (t : State) => va_P (dC, dI) classes [] t.heap ∧ va_K (dC, dI) classes [] t ∧ va_D (va_A [] sz) []) (va_A [] sz)) 0 0 (va_A [] sz) := by
  refine Met.ofW (cc := b_H_withVariableForZ) (maxL := 8) (ret := (some .int)) (by decide) rfl ?_
  intro p e s m args below meth c s₁ B hml hv
  obtain ⟨rfl, hsz, hP, hK, hD0⟩ := hv
  have hx := B.exec
  have hb := B.bytes
  have hr := B.returns
  have hts0 := atoms_spec (ws := w_H_withVariableForZ) B.pre
  have hts : ∀ w ∈ lw_gd, w.before ([.int x0, .int x1] : List Value).toArray s = true := fun w h9 => hts0 w (List.mem_cons_of_mem _ h9)
  have hown : s.vm.findClass R_H = some m.cls := findClass_of_methodNamed B.named
  have hlocks := B.notSynchronized
  subst hsz
  have hD := hD0.self (sz := s.heap.size)
  generalize hAe : va_A [] s.heap.size = A at hD ⊢
  have hA : ∀ q : Nat, s.heap.size ≤ q → A q := fun q h9 => by rw [← hAe]; exact Or.inr h9
  obtain ⟨H, eH⟩ : ∃ H : Heap, H = s.heap := ⟨_, rfl⟩
  have hS : va_S A s.heap H [] := by rw [eH]; exact va_S.rf
  have hP : va_P (dC, dI) classes [] H := by rw [eH]; exact hP
  refine W_gen (fun Q hQ => ?_)
  refine W_heap eH ?_
  clear eH
  have hl := lv_entry ([.int x0, .int x1]) (n := 8) (Nat.le_of_ble_eq_true rfl)
  rw [lg_entry_eq]
  generalize (lg_sl ([.int x0, .int x1]) ++ List.replicate (8 - (lg_sl ([.int x0, .int x1])).length) Slot.unset).toArray = ls at hl ⊢
  have hl : lv_has ls 8 [(0, .int x0), (1, .int x1)] := hl
  have J_68 : ∀ (k_7 : Int32 → Int32 → Int32 → Int32 → Option (Int32 × Unit)) (hk_7 : ∀ (z1 : Int32) (z2 : Int32) (z3 : Int32) (z4 : Int32), k_7 z1 z2 z3 z4 = some (r0, u0) → ∀ (H : Heap) (locs : List Loc), va_P (dC, dI) classes [] H → va_D A [] → va_S A s.heap H locs → ∀ (ls : Array Slot), lv_has ls 8 [(1, .int z1), (2, .int z2), (3, .int z3), (4, .int z4)] → W p l e (headSpec w_H_withVariableForZ ({ frames := 2, cells := 0, slots := 0, locals := 40 } : Room)).room s m ([.int x0, .int x1] : List Value).toArray below meth c H locs 0 0 Q (F0 m 7 ls [])) (z1 : Int32) (z3 : Int32) (z4 : Int32) (y0 : Int32) (y1 : Int32) (y2 : Int32) (y3 : Int32) (y4 : Int32), m_H_withVariableForZ_68 k_7 z1 z3 z4 y0 y1 y2 y3 y4 = some (r0, u0) → ∀ (H : Heap) (locs : List Loc), va_P (dC, dI) classes [] H → va_D A [] → va_S A s.heap H locs → ∀ (ls : Array Slot), lv_has ls 8 [(1, .int z1), (3, .int z3), (4, .int z4)] → W p l e (headSpec w_H_withVariableForZ ({ frames := 2, cells := 0, slots := 0, locals := 40 } : Room)).room s m ([.int x0, .int x1] : List Value).toArray below meth c H locs 0 0 Q (F0 m 68 ls [.int y0, .int y1, .int y2, .int y3, .int y4]) := by
    intro k_7 hk_7 z1 z3 z4 y0 y1 y2 y3 y4 h H locs hP hD hS ls hl
    unfold m_H_withVariableForZ_68 at h
    have hPc := hP.sub (ws' := []) [] rfl
    have hDc := hD.sub (ws' := []) [] (by decide) rfl
    have hKc := hK.sub (tys' := []) [] rfl
    have hFc := va_free (wc := []) hD hS hA [] rfl
    obtain ⟨v_68, hc_68, h⟩ := of_bind h
    refine va_calli (va_runS (As := [.int y2, .int y1, .int y0]) (rest := [.int y3, .int y4]) ⟨hx, hb, hml, hown, hts⟩ (c_H_codeOf l dC dI H.size y2 y1 y0 v_68.1 v_68.2 hc_68) (va_cwS 3 hts (gS mlk_H_186 sta_H_codeOf ini_H cod_H_codeOf) rfl rfl rfl (by decide +kernel) ⟨Nat.le_of_ble_eq_true rfl, Nat.le_of_ble_eq_true rfl⟩) ⟨fun a U g mk q => by obtain ⟨q0, q1, qP, qK, qD⟩ := q; exact ⟨q0, q1, qP, va_K.moved (u := U) (U := U.calling g mk a) (Vm.Alike.refl U.vm) qK, qD⟩, fun U hU hW => ⟨rfl, by rw [hU], by rw [hU]; exact hPc, va_K.moved hW.alike hKc, hDc.weaken (fun _ _ _ _ => trivial)⟩⟩ rfl rfl hl.1 rfl (lv_room (Nat.le_of_ble_eq_true rfl)) d_H_withVariableForZ_68 ⟨Nat.le_of_ble_eq_true rfl, Nat.le_of_ble_eq_true rfl⟩) hS (fun q _ h9 => hFc q h9) hFc (fun r_68 u t H1 locs ht hvm hw hB hz1 hk1 hS => ?_)
    obtain ⟨rfl, rfl⟩ := hw
    obtain ⟨hP1, hK1, hD1⟩ := hB
    rw [ht] at hP1
    obtain ⟨hP, hD⟩ := va_join (wr := []) (w1 := []) hP hD [] [] rfl rfl (by decide) (by decide) hk1 hFc hP1 hD1
    have hP := hP.sub (ws' := []) [] rfl
    have hD := hD.sub (ws' := []) [] (by decide) rfl
    generalize H1 = H at hP hS ⊢
    refine lv_ishl hx hb d_H_withVariableForZ_71 ?_
    refine lv_ior hx hb d_H_withVariableForZ_72 ?_
    refine lv_istore_n (lv' := [(2, .int (y4 ||| (y3 <<< (v_68.1 &&& 31)))), (1, .int z1), (3, .int z3), (4, .int z4)]) hx hb d_H_withVariableForZ_73 rfl hl (by decide) rfl (fun ls hl => ?_)
    refine lv_iload_n hx hb d_H_withVariableForZ_74 rfl (lv_at hl 2 rfl) ?_
    have hPc := hP.sub (ws' := []) [] rfl
    have hDc := hD.sub (ws' := []) [] (by decide) rfl
    have hKc := hK.sub (tys' := []) [] rfl
    have hFc := va_free (wc := []) hD hS hA [] rfl
    obtain ⟨v_75, hc_75, h⟩ := of_bind h
    refine va_calli (va_runS (As := [.int z3]) (rest := []) ⟨hx, hb, hml, hown, hts⟩ (c_H_withoutLeastCode l dC dI H.size z3 v_75.1 v_75.2 hc_75) (va_cwS 1 hts (gS mlk_H_171 sta_H_withoutLeastCode ini_H cod_H_withoutLeastCode) rfl rfl rfl (by decide +kernel) ⟨Nat.le_of_ble_eq_true rfl, Nat.le_of_ble_eq_true rfl⟩) ⟨fun a U g mk q => by obtain ⟨q0, q1, qP, qK, qD⟩ := q; exact ⟨q0, q1, qP, va_K.moved (u := U) (U := U.calling g mk a) (Vm.Alike.refl U.vm) qK, qD⟩, fun U hU hW => ⟨rfl, by rw [hU], by rw [hU]; exact hPc, va_K.moved hW.alike hKc, hDc.weaken (fun _ _ _ _ => trivial)⟩⟩ rfl rfl hl.1 rfl (lv_room (Nat.le_of_ble_eq_true rfl)) d_H_withVariableForZ_75 ⟨Nat.le_of_ble_eq_true rfl, Nat.le_of_ble_eq_true rfl⟩) hS (fun q _ h9 => hFc q h9) hFc (fun r_75 u t H1 locs ht hvm hw hB hz1 hk1 hS => ?_)
    obtain ⟨rfl, rfl⟩ := hw
    obtain ⟨hP1, hK1, hD1⟩ := hB
    rw [ht] at hP1
    obtain ⟨hP, hD⟩ := va_join (wr := []) (w1 := []) hP hD [] [] rfl rfl (by decide) (by decide) hk1 hFc hP1 hD1
    have hP := hP.sub (ws' := []) [] rfl
    have hD := hD.sub (ws' := []) [] (by decide) rfl
    generalize H1 = H at hP hS ⊢
    refine lv_istore_n (lv' := [(3, .int v_75.1), (2, .int (y4 ||| (y3 <<< (v_68.1 &&& 31)))), (1, .int z1), (4, .int z4)]) hx hb d_H_withVariableForZ_78 rfl hl (by decide) rfl (fun ls hl => ?_)
    refine lv_iinc (v := z4 + (nI 1)) (lv' := [(4, .int (z4 + (nI 1))), (3, .int v_75.1), (2, .int (y4 ||| (y3 <<< (v_68.1 &&& 31)))), (1, .int z1)]) hx hb d_H_withVariableForZ_79 hl (k := 3) rfl rfl (by decide) rfl (fun ls hl => ?_)
    refine lv_goto (tgt := 7) hx hb d_H_withVariableForZ_82 (by decide) ?_
    exact hk_7 z1 (y4 ||| (y3 <<< (v_68.1 &&& 31))) v_75.1 (z4 + (nI 1)) h _ _ hP hD hS ls (lv_sub hl [3, 2, 1, 0] rfl)
  have J_56 : ∀ (k_7 : Int32 → Int32 → Int32 → Int32 → Option (Int32 × Unit)) (hk_7 : ∀ (z1 : Int32) (z2 : Int32) (z3 : Int32) (z4 : Int32), k_7 z1 z2 z3 z4 = some (r0, u0) → ∀ (H : Heap) (locs : List Loc), va_P (dC, dI) classes [] H → va_D A [] → va_S A s.heap H locs → ∀ (ls : Array Slot), lv_has ls 8 [(1, .int z1), (2, .int z2), (3, .int z3), (4, .int z4)] → W p l e (headSpec w_H_withVariableForZ ({ frames := 2, cells := 0, slots := 0, locals := 40 } : Room)).room s m ([.int x0, .int x1] : List Value).toArray below meth c H locs 0 0 Q (F0 m 7 ls [])) (z1 : Int32) (z3 : Int32) (z4 : Int32) (z7 : Int32) (y0 : Int32) (y1 : Int32) (y2 : Int32) (y3 : Int32), m_H_withVariableForZ_56 k_7 z1 z3 z4 z7 y0 y1 y2 y3 = some (r0, u0) → ∀ (H : Heap) (locs : List Loc), va_P (dC, dI) classes [] H → va_D A [] → va_S A s.heap H locs → ∀ (ls : Array Slot), lv_has ls 8 [(1, .int z1), (3, .int z3), (4, .int z4), (7, .int z7)] → W p l e (headSpec w_H_withVariableForZ ({ frames := 2, cells := 0, slots := 0, locals := 40 } : Room)).room s m ([.int x0, .int x1] : List Value).toArray below meth c H locs 0 0 Q (F0 m 56 ls [.int y0, .int y1, .int y2, .int y3]) := by
    intro k_7 hk_7 z1 z3 z4 z7 y0 y1 y2 y3 h H locs hP hD hS ls hl
    unfold m_H_withVariableForZ_56 at h
    refine lv_iload hx hb d_H_withVariableForZ_56 (lv_at hl 3 rfl) ?_
    refine lv_iconst (v := (nI 2)) hx hb d_H_withVariableForZ_58 (by decide) ?_
    refine lv_icmp_ne (tgt := 66) hx hb d_H_withVariableForZ_59 (by decide) (fun c_59 => ?_) (fun c_59 => ?_)
    · have h := of_neg h c_59
      refine lv_iload hx hb d_H_withVariableForZ_66 (lv_at hl 3 rfl) ?_
      exact J_68 k_7 hk_7 z1 z3 z4 z7 y0 y1 y2 y3 h _ _ hP hD hS ls (lv_sub hl [0, 1, 2] rfl)
    · have h := of_pos h c_59
      refine lv_iload_n hx hb d_H_withVariableForZ_62 rfl (lv_at hl 0 rfl) ?_
      refine lv_goto (tgt := 68) hx hb d_H_withVariableForZ_63 (by decide) ?_
      exact J_68 k_7 hk_7 z1 z3 z4 z1 y0 y1 y2 y3 h _ _ hP hD hS ls (lv_sub hl [0, 1, 2] rfl)
  have J_7 : ∀ (n : Nat) (z1 : Int32) (z2 : Int32) (z3 : Int32) (z4 : Int32), m_H_withVariableForZ_7 n z1 z2 z3 z4 = some (r0, u0) → ∀ (H : Heap) (locs : List Loc), va_P (dC, dI) classes [] H → va_D A [] → va_S A s.heap H locs → ∀ (ls : Array Slot), lv_has ls 8 [(1, .int z1), (2, .int z2), (3, .int z3), (4, .int z4)] → W p l e (headSpec w_H_withVariableForZ ({ frames := 2, cells := 0, slots := 0, locals := 40 } : Room)).room s m ([.int x0, .int x1] : List Value).toArray below meth c H locs 0 0 Q (F0 m 7 ls []) := by
    intro n
    induction n with
    | zero => intro z1 z2 z3 z4 h; exact absurd h (by unfold m_H_withVariableForZ_7; exact fun h9 => nomatch h9)
    | succ n ih =>
      intro z1 z2 z3 z4 h H locs hP hD hS ls hl
      unfold m_H_withVariableForZ_7 at h
      refine lv_iload hx hb d_H_withVariableForZ_7 (lv_at hl 3 rfl) ?_
      refine lv_iconst (v := (nI 3)) hx hb d_H_withVariableForZ_9 (by decide) ?_
      refine lv_icmp_ge (tgt := 85) hx hb d_H_withVariableForZ_10 (by decide) (fun c_10 => ?_) (fun c_10 => ?_)
      · have h := of_pos h c_10
        refine lv_iload_n hx hb d_H_withVariableForZ_85 rfl (lv_at hl 1 rfl) ?_
        rw [hQ]
        exact W.iret (v := z2) hx hb hr (fun t ht hW => ⟨⟨z2, (), rfl, Prod.mk.inj (Option.some.inj h), by rw [ht]; exact hP, va_K.moved hW.alike hK, hD⟩, hS.F ht⟩) hS.2.2 d_H_withVariableForZ_86
      · have h := of_neg h c_10
        refine lv_iload_n hx hb d_H_withVariableForZ_13 rfl (lv_at hl 2 rfl) ?_
        refine lv_if_eq (tgt := 85) hx hb d_H_withVariableForZ_14 (by decide) (fun c_14 => ?_) (fun c_14 => ?_)
        · have h := of_pos h c_14
          refine lv_iload_n hx hb d_H_withVariableForZ_85 rfl (lv_at hl 1 rfl) ?_
          rw [hQ]
          exact W.iret (v := z2) hx hb hr (fun t ht hW => ⟨⟨z2, (), rfl, Prod.mk.inj (Option.some.inj h), by rw [ht]; exact hP, va_K.moved hW.alike hK, hD⟩, hS.F ht⟩) hS.2.2 d_H_withVariableForZ_86
        · have h := of_neg h c_14
          refine lv_iload_n hx hb d_H_withVariableForZ_17 rfl (lv_at hl 2 rfl) ?_
          have hPc := hP.sub (ws' := []) [] rfl
          have hDc := hD.sub (ws' := []) [] (by decide) rfl
          have hKc := hK.sub (tys' := []) [] rfl
          have hFc := va_free (wc := []) hD hS hA [] rfl
          obtain ⟨v_18, hc_18, h⟩ := of_bind h
          refine va_calli (va_runS (As := [.int z3]) (rest := []) ⟨hx, hb, hml, hown, hts⟩ (c_H_leastCode l dC dI H.size z3 v_18.1 v_18.2 hc_18) (va_cwS 1 hts (gS mlk_H_174 sta_H_leastCode ini_H cod_H_leastCode) rfl rfl rfl (by decide +kernel) ⟨Nat.le_of_ble_eq_true rfl, Nat.le_of_ble_eq_true rfl⟩) ⟨fun a U g mk q => by obtain ⟨q0, q1, qP, qK, qD⟩ := q; exact ⟨q0, q1, qP, va_K.moved (u := U) (U := U.calling g mk a) (Vm.Alike.refl U.vm) qK, qD⟩, fun U hU hW => ⟨rfl, by rw [hU], by rw [hU]; exact hPc, va_K.moved hW.alike hKc, hDc.weaken (fun _ _ _ _ => trivial)⟩⟩ rfl rfl hl.1 rfl (lv_room (Nat.le_of_ble_eq_true rfl)) d_H_withVariableForZ_18 ⟨Nat.le_of_ble_eq_true rfl, Nat.le_of_ble_eq_true rfl⟩) hS (fun q _ h9 => hFc q h9) hFc (fun r_18 u t H1 locs ht hvm hw hB hz1 hk1 hS => ?_)
          obtain ⟨rfl, rfl⟩ := hw
          obtain ⟨hP1, hK1, hD1⟩ := hB
          rw [ht] at hP1
          obtain ⟨hP, hD⟩ := va_join (wr := []) (w1 := []) hP hD [] [] rfl rfl (by decide) (by decide) hk1 hFc hP1 hD1
          have hP := hP.sub (ws' := []) [] rfl
          have hD := hD.sub (ws' := []) [] (by decide) rfl
          generalize H1 = H at hP hS ⊢
          refine lv_istore (lv' := [(5, .int v_18.1), (1, .int z1), (2, .int z2), (3, .int z3), (4, .int z4)]) hx hb d_H_withVariableForZ_21 hl (by decide) rfl (fun ls hl => ?_)
          refine lv_iload hx hb d_H_withVariableForZ_23 (lv_at hl 0 rfl) ?_
          have hPc := hP.sub (ws' := []) [] rfl
          have hDc := hD.sub (ws' := []) [] (by decide) rfl
          have hKc := hK.sub (tys' := []) [] rfl
          have hFc := va_free (wc := []) hD hS hA [] rfl
          obtain ⟨v_25, hc_25, h⟩ := of_bind h
          refine va_calli (va_runS (As := [.int v_18.1]) (rest := []) ⟨hx, hb, hml, hown, hts⟩ (c_H_firstVariableOf l dC dI H.size v_18.1 v_25.1 v_25.2 hc_25) (va_cwS 1 hts (gS mlk_H_177 sta_H_firstVariableOf ini_H cod_H_firstVariableOf) rfl rfl rfl (by decide +kernel) ⟨Nat.le_of_ble_eq_true rfl, Nat.le_of_ble_eq_true rfl⟩) ⟨fun a U g mk q => by obtain ⟨q0, q1, qP, qK, qD⟩ := q; exact ⟨q0, q1, qP, va_K.moved (u := U) (U := U.calling g mk a) (Vm.Alike.refl U.vm) qK, qD⟩, fun U hU hW => ⟨rfl, by rw [hU], by rw [hU]; exact hPc, va_K.moved hW.alike hKc, hDc.weaken (fun _ _ _ _ => trivial)⟩⟩ rfl rfl hl.1 rfl (lv_room (Nat.le_of_ble_eq_true rfl)) d_H_withVariableForZ_25 ⟨Nat.le_of_ble_eq_true rfl, Nat.le_of_ble_eq_true rfl⟩) hS (fun q _ h9 => hFc q h9) hFc (fun r_25 u t H1 locs ht hvm hw hB hz1 hk1 hS => ?_)
          obtain ⟨rfl, rfl⟩ := hw
          obtain ⟨hP1, hK1, hD1⟩ := hB
          rw [ht] at hP1
          obtain ⟨hP, hD⟩ := va_join (wr := []) (w1 := []) hP hD [] [] rfl rfl (by decide) (by decide) hk1 hFc hP1 hD1
          have hP := hP.sub (ws' := []) [] rfl
          have hD := hD.sub (ws' := []) [] (by decide) rfl
          generalize H1 = H at hP hS ⊢
          refine lv_istore (lv' := [(6, .int v_25.1), (5, .int v_18.1), (1, .int z1), (2, .int z2), (3, .int z3), (4, .int z4)]) hx hb d_H_withVariableForZ_28 hl (by decide) rfl (fun ls hl => ?_)
          refine lv_iload hx hb d_H_withVariableForZ_30 (lv_at hl 1 rfl) ?_
          have hPc := hP.sub (ws' := []) [] rfl
          have hDc := hD.sub (ws' := []) [] (by decide) rfl
          have hKc := hK.sub (tys' := []) [] rfl
          have hFc := va_free (wc := []) hD hS hA [] rfl
          obtain ⟨v_32, hc_32, h⟩ := of_bind h
          refine va_calli (va_runS (As := [.int v_18.1]) (rest := []) ⟨hx, hb, hml, hown, hts⟩ (c_H_secondVariableOf l dC dI H.size v_18.1 v_32.1 v_32.2 hc_32) (va_cwS 1 hts (gS mlk_H_180 sta_H_secondVariableOf ini_H cod_H_secondVariableOf) rfl rfl rfl (by decide +kernel) ⟨Nat.le_of_ble_eq_true rfl, Nat.le_of_ble_eq_true rfl⟩) ⟨fun a U g mk q => by obtain ⟨q0, q1, qP, qK, qD⟩ := q; exact ⟨q0, q1, qP, va_K.moved (u := U) (U := U.calling g mk a) (Vm.Alike.refl U.vm) qK, qD⟩, fun U hU hW => ⟨rfl, by rw [hU], by rw [hU]; exact hPc, va_K.moved hW.alike hKc, hDc.weaken (fun _ _ _ _ => trivial)⟩⟩ rfl rfl hl.1 rfl (lv_room (Nat.le_of_ble_eq_true rfl)) d_H_withVariableForZ_32 ⟨Nat.le_of_ble_eq_true rfl, Nat.le_of_ble_eq_true rfl⟩) hS (fun q _ h9 => hFc q h9) hFc (fun r_32 u t H1 locs ht hvm hw hB hz1 hk1 hS => ?_)
          obtain ⟨rfl, rfl⟩ := hw
          obtain ⟨hP1, hK1, hD1⟩ := hB
          rw [ht] at hP1
          obtain ⟨hP, hD⟩ := va_join (wr := []) (w1 := []) hP hD [] [] rfl rfl (by decide) (by decide) hk1 hFc hP1 hD1
          have hP := hP.sub (ws' := []) [] rfl
          have hD := hD.sub (ws' := []) [] (by decide) rfl
          generalize H1 = H at hP hS ⊢
          refine lv_istore (lv' := [(7, .int v_32.1), (6, .int v_25.1), (5, .int v_18.1), (1, .int z1), (2, .int z2), (3, .int z3), (4, .int z4)]) hx hb d_H_withVariableForZ_35 hl (by decide) rfl (fun ls hl => ?_)
          refine lv_iload_n hx hb d_H_withVariableForZ_37 rfl (lv_at hl 4 rfl) ?_
          refine lv_iconst (v := (nI 1)) hx hb d_H_withVariableForZ_38 (by decide) ?_
          refine lv_iload hx hb d_H_withVariableForZ_39 (lv_at hl 2 rfl) ?_
          have hPc := hP.sub (ws' := []) [] rfl
          have hDc := hD.sub (ws' := []) [] (by decide) rfl
          have hKc := hK.sub (tys' := []) [] rfl
          have hFc := va_free (wc := []) hD hS hA [] rfl
          obtain ⟨v_41, hc_41, h⟩ := of_bind h
          refine va_calli (va_runS (As := [.int v_18.1]) (rest := [.int (nI 1), .int z2]) ⟨hx, hb, hml, hown, hts⟩ (c_H_relationOf l dC dI H.size v_18.1 v_41.1 v_41.2 hc_41) (va_cwS 1 hts (gS mlk_H_183 sta_H_relationOf ini_H cod_H_relationOf) rfl rfl rfl (by decide +kernel) ⟨Nat.le_of_ble_eq_true rfl, Nat.le_of_ble_eq_true rfl⟩) ⟨fun a U g mk q => by obtain ⟨q0, q1, qP, qK, qD⟩ := q; exact ⟨q0, q1, qP, va_K.moved (u := U) (U := U.calling g mk a) (Vm.Alike.refl U.vm) qK, qD⟩, fun U hU hW => ⟨rfl, by rw [hU], by rw [hU]; exact hPc, va_K.moved hW.alike hKc, hDc.weaken (fun _ _ _ _ => trivial)⟩⟩ rfl rfl hl.1 rfl (lv_room (Nat.le_of_ble_eq_true rfl)) d_H_withVariableForZ_41 ⟨Nat.le_of_ble_eq_true rfl, Nat.le_of_ble_eq_true rfl⟩) hS (fun q _ h9 => hFc q h9) hFc (fun r_41 u t H1 locs ht hvm hw hB hz1 hk1 hS => ?_)
          obtain ⟨rfl, rfl⟩ := hw
          obtain ⟨hP1, hK1, hD1⟩ := hB
          rw [ht] at hP1
          obtain ⟨hP, hD⟩ := va_join (wr := []) (w1 := []) hP hD [] [] rfl rfl (by decide) (by decide) hk1 hFc hP1 hD1
          have hP := hP.sub (ws' := []) [] rfl
          have hD := hD.sub (ws' := []) [] (by decide) rfl
          generalize H1 = H at hP hS ⊢
          refine lv_iload hx hb d_H_withVariableForZ_44 (lv_at hl 1 rfl) ?_
          refine lv_iconst (v := (nI 2)) hx hb d_H_withVariableForZ_46 (by decide) ?_
          refine lv_icmp_ne (tgt := 54) hx hb d_H_withVariableForZ_47 (by decide) (fun c_47 => ?_) (fun c_47 => ?_)
          · have h := of_neg h c_47
            refine lv_iload hx hb d_H_withVariableForZ_54 (lv_at hl 1 rfl) ?_
            exact J_56 (m_H_withVariableForZ_7 n) ih z1 z3 z4 v_32.1 v_25.1 v_41.1 (nI 1) z2 h _ _ hP hD hS ls (lv_sub hl [3, 5, 6, 0] rfl)
          · have h := of_pos h c_47
            refine lv_iload_n hx hb d_H_withVariableForZ_50 rfl (lv_at hl 3 rfl) ?_
            refine lv_goto (tgt := 56) hx hb d_H_withVariableForZ_51 (by decide) ?_
            exact J_56 (m_H_withVariableForZ_7 n) ih z1 z3 z4 v_32.1 z1 v_41.1 (nI 1) z2 h _ _ hP hD hS ls (lv_sub hl [3, 5, 6, 0] rfl)
  unfold m_H_withVariableForZ at h
  refine lv_iconst (v := (nI 0)) hx hb d_H_withVariableForZ_0 (by decide) ?_
  refine lv_istore_n (lv' := [(2, .int (nI 0)), (0, .int x0), (1, .int x1)]) hx hb d_H_withVariableForZ_1 rfl hl (by decide) rfl (fun ls hl => ?_)
  refine lv_iload_n hx hb d_H_withVariableForZ_2 rfl (lv_at hl 1 rfl) ?_
  refine lv_istore_n (lv' := [(3, .int x0), (2, .int (nI 0)), (0, .int x0), (1, .int x1)]) hx hb d_H_withVariableForZ_3 rfl hl (by decide) rfl (fun ls hl => ?_)
  refine lv_iconst (v := (nI 0)) hx hb d_H_withVariableForZ_4 (by decide) ?_
  refine lv_istore (lv' := [(4, .int (nI 0)), (3, .int x0), (2, .int (nI 0)), (0, .int x0), (1, .int x1)]) hx hb d_H_withVariableForZ_5 hl (by decide) rfl (fun ls hl => ?_)
  exact J_7 40 x1 (nI 0) x0 (nI 0) h _ _ hP hD hS ls (lv_sub hl [4, 2, 1, 0] rfl)
