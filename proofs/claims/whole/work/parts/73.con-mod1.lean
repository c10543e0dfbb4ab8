theorem d_M_isConstant_0 : decode b_M_isConstant 0 = .ok (.iload_n 0, 1) := by decide +kernel
theorem d_M_isConstant_1 : decode b_M_isConstant 1 = .ok (.bipush 48, 2) := by decide +kernel
theorem d_M_isConstant_3 : decode b_M_isConstant 3 = .ok (.if_icmp .lt 13, 3) := by decide +kernel
theorem d_M_isConstant_6 : decode b_M_isConstant 6 = .ok (.iload_n 0, 1) := by decide +kernel
theorem d_M_isConstant_7 : decode b_M_isConstant 7 = .ok (.bipush 51, 2) := by decide +kernel
theorem d_M_isConstant_9 : decode b_M_isConstant 9 = .ok (.if_icmp .gt 7, 3) := by decide +kernel
theorem d_M_isConstant_12 : decode b_M_isConstant 12 = .ok (.iconst 1, 1) := by decide +kernel
theorem d_M_isConstant_13 : decode b_M_isConstant 13 = .ok (.goto 4, 3) := by decide +kernel
theorem d_M_isConstant_16 : decode b_M_isConstant 16 = .ok (.iconst 0, 1) := by decide +kernel
theorem d_M_isConstant_17 : decode b_M_isConstant 17 = .ok (.ireturn, 1) := by decide +kernel
theorem d_M_isVariable_0 : decode b_M_isVariable 0 = .ok (.iload_n 0, 1) := by decide +kernel
theorem d_M_isVariable_1 : decode b_M_isVariable 1 = .ok (.bipush 88, 2) := by decide +kernel
theorem d_M_isVariable_3 : decode b_M_isVariable 3 = .ok (.if_icmp .lt 13, 3) := by decide +kernel
theorem d_M_isVariable_6 : decode b_M_isVariable 6 = .ok (.iload_n 0, 1) := by decide +kernel
theorem d_M_isVariable_7 : decode b_M_isVariable 7 = .ok (.bipush 90, 2) := by decide +kernel
theorem d_M_isVariable_9 : decode b_M_isVariable 9 = .ok (.if_icmp .gt 7, 3) := by decide +kernel
theorem d_M_isVariable_12 : decode b_M_isVariable 12 = .ok (.iconst 1, 1) := by decide +kernel
theorem d_M_isVariable_13 : decode b_M_isVariable 13 = .ok (.goto 4, 3) := by decide +kernel
theorem d_M_isVariable_16 : decode b_M_isVariable 16 = .ok (.iconst 0, 1) := by decide +kernel
theorem d_M_isVariable_17 : decode b_M_isVariable 17 = .ok (.ireturn, 1) := by decide +kernel
theorem d_M_isRelation_0 : decode b_M_isRelation 0 = .ok (.iload_n 0, 1) := by decide +kernel
theorem d_M_isRelation_1 : decode b_M_isRelation 1 = .ok (.bipush 97, 2) := by decide +kernel
theorem d_M_isRelation_3 : decode b_M_isRelation 3 = .ok (.if_icmp .eq 15, 3) := by decide +kernel
theorem d_M_isRelation_6 : decode b_M_isRelation 6 = .ok (.iload_n 0, 1) := by decide +kernel
theorem d_M_isRelation_7 : decode b_M_isRelation 7 = .ok (.bipush 98, 2) := by decide +kernel
theorem d_M_isRelation_9 : decode b_M_isRelation 9 = .ok (.if_icmp .eq 9, 3) := by decide +kernel
theorem d_M_isRelation_12 : decode b_M_isRelation 12 = .ok (.iload_n 0, 1) := by decide +kernel
theorem d_M_isRelation_13 : decode b_M_isRelation 13 = .ok (.bipush 116, 2) := by decide +kernel
theorem d_M_isRelation_15 : decode b_M_isRelation 15 = .ok (.if_icmp .ne 7, 3) := by decide +kernel
theorem d_M_isRelation_18 : decode b_M_isRelation 18 = .ok (.iconst 1, 1) := by decide +kernel
theorem d_M_isRelation_19 : decode b_M_isRelation 19 = .ok (.goto 4, 3) := by decide +kernel
theorem d_M_isRelation_22 : decode b_M_isRelation 22 = .ok (.iconst 0, 1) := by decide +kernel
theorem d_M_isRelation_23 : decode b_M_isRelation 23 = .ok (.ireturn, 1) := by decide +kernel
theorem d_M_head_0 : decode b_M_head 0 = .ok (.iload_n 0, 1) := by decide +kernel
theorem d_M_head_1 : decode b_M_head 1 = .ok (.tableswitch 64 0 6 #[43, 46, 49, 52, 55, 58, 61], 43) := by decide +kernel
theorem d_M_head_44 : decode b_M_head 44 = .ok (.bipush 116, 2) := by decide +kernel
theorem d_M_head_46 : decode b_M_head 46 = .ok (.ireturn, 1) := by decide +kernel
theorem d_M_head_47 : decode b_M_head 47 = .ok (.bipush 40, 2) := by decide +kernel
theorem d_M_head_49 : decode b_M_head 49 = .ok (.ireturn, 1) := by decide +kernel
theorem d_M_head_50 : decode b_M_head 50 = .ok (.bipush 88, 2) := by decide +kernel
theorem d_M_head_52 : decode b_M_head 52 = .ok (.ireturn, 1) := by decide +kernel
theorem d_M_head_53 : decode b_M_head 53 = .ok (.bipush 44, 2) := by decide +kernel
theorem d_M_head_55 : decode b_M_head 55 = .ok (.ireturn, 1) := by decide +kernel
theorem d_M_head_56 : decode b_M_head 56 = .ok (.bipush 89, 2) := by decide +kernel
theorem d_M_head_58 : decode b_M_head 58 = .ok (.ireturn, 1) := by decide +kernel
theorem d_M_head_59 : decode b_M_head 59 = .ok (.bipush 41, 2) := by decide +kernel
theorem d_M_head_61 : decode b_M_head 61 = .ok (.ireturn, 1) := by decide +kernel
theorem d_M_head_62 : decode b_M_head 62 = .ok (.bipush 58, 2) := by decide +kernel
theorem d_M_head_64 : decode b_M_head 64 = .ok (.ireturn, 1) := by decide +kernel
theorem d_M_head_65 : decode b_M_head 65 = .ok (.bipush 45, 2) := by decide +kernel
theorem d_M_head_67 : decode b_M_head 67 = .ok (.ireturn, 1) := by decide +kernel
theorem d_M_argument_0 : decode b_M_argument 0 = .ok (.iload_n 0, 1) := by decide +kernel
theorem d_M_argument_1 : decode b_M_argument 1 = .ok (.ifCond .ne 9, 3) := by decide +kernel
theorem d_M_argument_4 : decode b_M_argument 4 = .ok (.iload_n 1, 1) := by decide +kernel
theorem d_M_argument_5 : decode b_M_argument 5 = .ok (.bipush 40, 2) := by decide +kernel
theorem d_M_argument_7 : decode b_M_argument 7 = .ok (.if_icmp .eq 49, 3) := by decide +kernel
theorem d_M_argument_10 : decode b_M_argument 10 = .ok (.iload_n 0, 1) := by decide +kernel
theorem d_M_argument_11 : decode b_M_argument 11 = .ok (.iconst 1, 1) := by decide +kernel
theorem d_M_argument_12 : decode b_M_argument 12 = .ok (.if_icmp .ne 10, 3) := by decide +kernel
theorem d_M_argument_15 : decode b_M_argument 15 = .ok (.iload_n 1, 1) := by decide +kernel
theorem d_M_argument_16 : decode b_M_argument 16 = .ok (.invokestatic 45, 3) := by decide +kernel
theorem d_M_argument_19 : decode b_M_argument 19 = .ok (.ifCond .ne 37, 3) := by decide +kernel
theorem d_M_argument_22 : decode b_M_argument 22 = .ok (.iload_n 0, 1) := by decide +kernel
theorem d_M_argument_23 : decode b_M_argument 23 = .ok (.iconst 2, 1) := by decide +kernel
theorem d_M_argument_24 : decode b_M_argument 24 = .ok (.if_icmp .ne 9, 3) := by decide +kernel
theorem d_M_argument_27 : decode b_M_argument 27 = .ok (.iload_n 1, 1) := by decide +kernel
theorem d_M_argument_28 : decode b_M_argument 28 = .ok (.bipush 44, 2) := by decide +kernel
theorem d_M_argument_30 : decode b_M_argument 30 = .ok (.if_icmp .eq 26, 3) := by decide +kernel
theorem d_M_argument_33 : decode b_M_argument 33 = .ok (.iload_n 0, 1) := by decide +kernel
theorem d_M_argument_34 : decode b_M_argument 34 = .ok (.iconst 3, 1) := by decide +kernel
theorem d_M_argument_35 : decode b_M_argument 35 = .ok (.if_icmp .ne 10, 3) := by decide +kernel
theorem d_M_argument_38 : decode b_M_argument 38 = .ok (.iload_n 1, 1) := by decide +kernel
theorem d_M_argument_39 : decode b_M_argument 39 = .ok (.invokestatic 45, 3) := by decide +kernel
theorem d_M_argument_42 : decode b_M_argument 42 = .ok (.ifCond .ne 14, 3) := by decide +kernel
theorem d_M_argument_45 : decode b_M_argument 45 = .ok (.iload_n 0, 1) := by decide +kernel
theorem d_M_argument_46 : decode b_M_argument 46 = .ok (.iconst 4, 1) := by decide +kernel
theorem d_M_argument_47 : decode b_M_argument 47 = .ok (.if_icmp .ne 13, 3) := by decide +kernel
theorem d_M_argument_50 : decode b_M_argument 50 = .ok (.iload_n 1, 1) := by decide +kernel
theorem d_M_argument_51 : decode b_M_argument 51 = .ok (.bipush 41, 2) := by decide +kernel
theorem d_M_argument_53 : decode b_M_argument 53 = .ok (.if_icmp .ne 7, 3) := by decide +kernel
theorem d_M_argument_56 : decode b_M_argument 56 = .ok (.iconst 1, 1) := by decide +kernel
theorem d_M_argument_57 : decode b_M_argument 57 = .ok (.goto 4, 3) := by decide +kernel
theorem d_M_argument_60 : decode b_M_argument 60 = .ok (.iconst 0, 1) := by decide +kernel
theorem d_M_argument_61 : decode b_M_argument 61 = .ok (.ireturn, 1) := by decide +kernel
theorem d_M_inBody_0 : decode b_M_inBody 0 = .ok (.iload_n 0, 1) := by decide +kernel
theorem d_M_inBody_1 : decode b_M_inBody 1 = .ok (.bipush 7, 2) := by decide +kernel
theorem d_M_inBody_3 : decode b_M_inBody 3 = .ok (.irem, 1) := by decide +kernel
theorem d_M_inBody_4 : decode b_M_inBody 4 = .ok (.istore_n 2, 1) := by decide +kernel
theorem d_M_inBody_5 : decode b_M_inBody 5 = .ok (.iload_n 0, 1) := by decide +kernel
theorem d_M_inBody_6 : decode b_M_inBody 6 = .ok (.bipush 20, 2) := by decide +kernel
theorem d_M_inBody_8 : decode b_M_inBody 8 = .ok (.if_icmp .lt 5, 3) := by decide +kernel
theorem d_M_inBody_11 : decode b_M_inBody 11 = .ok (.iconst 0, 1) := by decide +kernel
theorem d_M_inBody_12 : decode b_M_inBody 12 = .ok (.ireturn, 1) := by decide +kernel
theorem d_M_inBody_13 : decode b_M_inBody 13 = .ok (.iload_n 2, 1) := by decide +kernel
theorem d_M_inBody_14 : decode b_M_inBody 14 = .ok (.ifCond .ne 10, 3) := by decide +kernel
theorem d_M_inBody_17 : decode b_M_inBody 17 = .ok (.iload_n 1, 1) := by decide +kernel
theorem d_M_inBody_18 : decode b_M_inBody 18 = .ok (.invokestatic 49, 3) := by decide +kernel
theorem d_M_inBody_21 : decode b_M_inBody 21 = .ok (.ifCond .ne 59, 3) := by decide +kernel
theorem d_M_inBody_24 : decode b_M_inBody 24 = .ok (.iload_n 2, 1) := by decide +kernel
theorem d_M_inBody_25 : decode b_M_inBody 25 = .ok (.iconst 1, 1) := by decide +kernel
theorem d_M_inBody_26 : decode b_M_inBody 26 = .ok (.if_icmp .ne 9, 3) := by decide +kernel
theorem d_M_inBody_29 : decode b_M_inBody 29 = .ok (.iload_n 1, 1) := by decide +kernel
theorem d_M_inBody_30 : decode b_M_inBody 30 = .ok (.bipush 40, 2) := by decide +kernel
theorem d_M_inBody_32 : decode b_M_inBody 32 = .ok (.if_icmp .eq 48, 3) := by decide +kernel
theorem d_M_inBody_35 : decode b_M_inBody 35 = .ok (.iload_n 2, 1) := by decide +kernel
theorem d_M_inBody_36 : decode b_M_inBody 36 = .ok (.iconst 2, 1) := by decide +kernel
theorem d_M_inBody_37 : decode b_M_inBody 37 = .ok (.if_icmp .eq 8, 3) := by decide +kernel
theorem d_M_inBody_40 : decode b_M_inBody 40 = .ok (.iload_n 2, 1) := by decide +kernel
theorem d_M_inBody_41 : decode b_M_inBody 41 = .ok (.iconst 4, 1) := by decide +kernel
theorem d_M_inBody_42 : decode b_M_inBody 42 = .ok (.if_icmp .ne 10, 3) := by decide +kernel
theorem d_M_inBody_45 : decode b_M_inBody 45 = .ok (.iload_n 1, 1) := by decide +kernel
theorem d_M_inBody_46 : decode b_M_inBody 46 = .ok (.invokestatic 52, 3) := by decide +kernel
theorem d_M_inBody_49 : decode b_M_inBody 49 = .ok (.ifCond .ne 31, 3) := by decide +kernel
theorem d_M_inBody_52 : decode b_M_inBody 52 = .ok (.iload_n 2, 1) := by decide +kernel
theorem d_M_inBody_53 : decode b_M_inBody 53 = .ok (.iconst 3, 1) := by decide +kernel
theorem d_M_inBody_54 : decode b_M_inBody 54 = .ok (.if_icmp .eq 9, 3) := by decide +kernel
theorem d_M_inBody_57 : decode b_M_inBody 57 = .ok (.iload_n 2, 1) := by decide +kernel
theorem d_M_inBody_58 : decode b_M_inBody 58 = .ok (.bipush 6, 2) := by decide +kernel
theorem d_M_inBody_60 : decode b_M_inBody 60 = .ok (.if_icmp .ne 9, 3) := by decide +kernel
theorem d_M_inBody_63 : decode b_M_inBody 63 = .ok (.iload_n 1, 1) := by decide +kernel
theorem d_M_inBody_64 : decode b_M_inBody 64 = .ok (.bipush 44, 2) := by decide +kernel
theorem d_M_inBody_66 : decode b_M_inBody 66 = .ok (.if_icmp .eq 14, 3) := by decide +kernel
theorem d_M_inBody_69 : decode b_M_inBody 69 = .ok (.iload_n 2, 1) := by decide +kernel
theorem d_M_inBody_70 : decode b_M_inBody 70 = .ok (.iconst 5, 1) := by decide +kernel
theorem d_M_inBody_71 : decode b_M_inBody 71 = .ok (.if_icmp .ne 13, 3) := by decide +kernel
theorem d_M_inBody_74 : decode b_M_inBody 74 = .ok (.iload_n 1, 1) := by decide +kernel
theorem d_M_inBody_75 : decode b_M_inBody 75 = .ok (.bipush 41, 2) := by decide +kernel
theorem d_M_inBody_77 : decode b_M_inBody 77 = .ok (.if_icmp .ne 7, 3) := by decide +kernel
theorem d_M_inBody_80 : decode b_M_inBody 80 = .ok (.iconst 1, 1) := by decide +kernel
theorem d_M_inBody_81 : decode b_M_inBody 81 = .ok (.goto 4, 3) := by decide +kernel
theorem d_M_inBody_84 : decode b_M_inBody 84 = .ok (.iconst 0, 1) := by decide +kernel
theorem d_M_inBody_85 : decode b_M_inBody 85 = .ok (.ireturn, 1) := by decide +kernel
theorem d_M_goesOn_0 : decode b_M_goesOn 0 = .ok (.aload_n 0, 1) := by decide +kernel
theorem d_M_goesOn_1 : decode b_M_goesOn 1 = .ok (.getfield 7, 3) := by decide +kernel
theorem d_M_goesOn_4 : decode b_M_goesOn 4 = .ok (.iload_n 1, 1) := by decide +kernel
theorem d_M_goesOn_5 : decode b_M_goesOn 5 = .ok (.iaload, 1) := by decide +kernel
theorem d_M_goesOn_6 : decode b_M_goesOn 6 = .ok (.istore_n 2, 1) := by decide +kernel
theorem d_M_goesOn_7 : decode b_M_goesOn 7 = .ok (.aload_n 0, 1) := by decide +kernel
theorem d_M_goesOn_8 : decode b_M_goesOn 8 = .ok (.getfield 7, 3) := by decide +kernel
theorem d_M_goesOn_11 : decode b_M_goesOn 11 = .ok (.iconst 0, 1) := by decide +kernel
theorem d_M_goesOn_12 : decode b_M_goesOn 12 = .ok (.iaload, 1) := by decide +kernel
theorem d_M_goesOn_13 : decode b_M_goesOn 13 = .ok (.istore_n 3, 1) := by decide +kernel
theorem d_M_goesOn_14 : decode b_M_goesOn 14 = .ok (.iload_n 1, 1) := by decide +kernel
theorem d_M_goesOn_15 : decode b_M_goesOn 15 = .ok (.ifCond .ne 34, 3) := by decide +kernel
theorem d_M_goesOn_18 : decode b_M_goesOn 18 = .ok (.iload_n 2, 1) := by decide +kernel
theorem d_M_goesOn_19 : decode b_M_goesOn 19 = .ok (.invokestatic 49, 3) := by decide +kernel
theorem d_M_goesOn_22 : decode b_M_goesOn 22 = .ok (.ifCond .ne 21, 3) := by decide +kernel
theorem d_M_goesOn_25 : decode b_M_goesOn 25 = .ok (.iload_n 2, 1) := by decide +kernel
theorem d_M_goesOn_26 : decode b_M_goesOn 26 = .ok (.bipush 126, 2) := by decide +kernel
theorem d_M_goesOn_28 : decode b_M_goesOn 28 = .ok (.if_icmp .eq 15, 3) := by decide +kernel
theorem d_M_goesOn_31 : decode b_M_goesOn 31 = .ok (.iload_n 2, 1) := by decide +kernel
theorem d_M_goesOn_32 : decode b_M_goesOn 32 = .ok (.bipush 43, 2) := by decide +kernel
theorem d_M_goesOn_34 : decode b_M_goesOn 34 = .ok (.if_icmp .eq 9, 3) := by decide +kernel
theorem d_M_goesOn_37 : decode b_M_goesOn 37 = .ok (.iload_n 2, 1) := by decide +kernel
theorem d_M_goesOn_38 : decode b_M_goesOn 38 = .ok (.bipush 45, 2) := by decide +kernel
theorem d_M_goesOn_40 : decode b_M_goesOn 40 = .ok (.if_icmp .ne 7, 3) := by decide +kernel
theorem d_M_goesOn_43 : decode b_M_goesOn 43 = .ok (.iconst 1, 1) := by decide +kernel
theorem d_M_goesOn_44 : decode b_M_goesOn 44 = .ok (.goto 4, 3) := by decide +kernel
theorem d_M_goesOn_47 : decode b_M_goesOn 47 = .ok (.iconst 0, 1) := by decide +kernel
theorem d_M_goesOn_48 : decode b_M_goesOn 48 = .ok (.ireturn, 1) := by decide +kernel
theorem d_M_goesOn_49 : decode b_M_goesOn 49 = .ok (.iload_n 3, 1) := by decide +kernel
theorem d_M_goesOn_50 : decode b_M_goesOn 50 = .ok (.bipush 116, 2) := by decide +kernel
theorem d_M_goesOn_52 : decode b_M_goesOn 52 = .ok (.if_icmp .ne 34, 3) := by decide +kernel
theorem d_M_goesOn_55 : decode b_M_goesOn 55 = .ok (.iload_n 1, 1) := by decide +kernel
theorem d_M_goesOn_56 : decode b_M_goesOn 56 = .ok (.bipush 8, 2) := by decide +kernel
theorem d_M_goesOn_58 : decode b_M_goesOn 58 = .ok (.if_icmp .ge 19, 3) := by decide +kernel
theorem d_M_goesOn_61 : decode b_M_goesOn 61 = .ok (.iload_n 2, 1) := by decide +kernel
theorem d_M_goesOn_62 : decode b_M_goesOn 62 = .ok (.iload_n 1, 1) := by decide +kernel
theorem d_M_goesOn_63 : decode b_M_goesOn 63 = .ok (.invokestatic 55, 3) := by decide +kernel
theorem d_M_goesOn_66 : decode b_M_goesOn 66 = .ok (.if_icmp .ne 7, 3) := by decide +kernel
theorem d_M_goesOn_69 : decode b_M_goesOn 69 = .ok (.iconst 1, 1) := by decide +kernel
theorem d_M_goesOn_70 : decode b_M_goesOn 70 = .ok (.goto 15, 3) := by decide +kernel
theorem d_M_goesOn_73 : decode b_M_goesOn 73 = .ok (.iconst 0, 1) := by decide +kernel
theorem d_M_goesOn_74 : decode b_M_goesOn 74 = .ok (.goto 11, 3) := by decide +kernel
theorem d_M_goesOn_77 : decode b_M_goesOn 77 = .ok (.iload_n 1, 1) := by decide +kernel
theorem d_M_goesOn_78 : decode b_M_goesOn 78 = .ok (.bipush 8, 2) := by decide +kernel
theorem d_M_goesOn_80 : decode b_M_goesOn 80 = .ok (.isub, 1) := by decide +kernel
theorem d_M_goesOn_81 : decode b_M_goesOn 81 = .ok (.iload_n 2, 1) := by decide +kernel
theorem d_M_goesOn_82 : decode b_M_goesOn 82 = .ok (.invokestatic 59, 3) := by decide +kernel
theorem d_M_goesOn_85 : decode b_M_goesOn 85 = .ok (.ireturn, 1) := by decide +kernel
theorem d_M_goesOn_86 : decode b_M_goesOn 86 = .ok (.iload_n 3, 1) := by decide +kernel
theorem d_M_goesOn_87 : decode b_M_goesOn 87 = .ok (.bipush 97, 2) := by decide +kernel
theorem d_M_goesOn_89 : decode b_M_goesOn 89 = .ok (.if_icmp .eq 9, 3) := by decide +kernel
theorem d_M_goesOn_92 : decode b_M_goesOn 92 = .ok (.iload_n 3, 1) := by decide +kernel
theorem d_M_goesOn_93 : decode b_M_goesOn 93 = .ok (.bipush 98, 2) := by decide +kernel
theorem d_M_goesOn_95 : decode b_M_goesOn 95 = .ok (.if_icmp .ne 11, 3) := by decide +kernel
theorem d_M_goesOn_98 : decode b_M_goesOn 98 = .ok (.iload_n 1, 1) := by decide +kernel
theorem d_M_goesOn_99 : decode b_M_goesOn 99 = .ok (.iconst 1, 1) := by decide +kernel
theorem d_M_goesOn_100 : decode b_M_goesOn 100 = .ok (.isub, 1) := by decide +kernel
theorem d_M_goesOn_101 : decode b_M_goesOn 101 = .ok (.iload_n 2, 1) := by decide +kernel
theorem d_M_goesOn_102 : decode b_M_goesOn 102 = .ok (.invokestatic 63, 3) := by decide +kernel
theorem d_M_goesOn_105 : decode b_M_goesOn 105 = .ok (.ireturn, 1) := by decide +kernel
theorem d_M_goesOn_106 : decode b_M_goesOn 106 = .ok (.iload_n 1, 1) := by decide +kernel
theorem d_M_goesOn_107 : decode b_M_goesOn 107 = .ok (.iconst 1, 1) := by decide +kernel
theorem d_M_goesOn_108 : decode b_M_goesOn 108 = .ok (.if_icmp .ne 30, 3) := by decide +kernel
theorem d_M_goesOn_111 : decode b_M_goesOn 111 = .ok (.iload_n 2, 1) := by decide +kernel
theorem d_M_goesOn_112 : decode b_M_goesOn 112 = .ok (.bipush 116, 2) := by decide +kernel
theorem d_M_goesOn_114 : decode b_M_goesOn 114 = .ok (.if_icmp .eq 16, 3) := by decide +kernel
theorem d_M_goesOn_117 : decode b_M_goesOn 117 = .ok (.iload_n 3, 1) := by decide +kernel
theorem d_M_goesOn_118 : decode b_M_goesOn 118 = .ok (.bipush 126, 2) := by decide +kernel
theorem d_M_goesOn_120 : decode b_M_goesOn 120 = .ok (.if_icmp .ne 14, 3) := by decide +kernel
theorem d_M_goesOn_123 : decode b_M_goesOn 123 = .ok (.iload_n 2, 1) := by decide +kernel
theorem d_M_goesOn_124 : decode b_M_goesOn 124 = .ok (.invokestatic 49, 3) := by decide +kernel
theorem d_M_goesOn_127 : decode b_M_goesOn 127 = .ok (.ifCond .eq 7, 3) := by decide +kernel
theorem d_M_goesOn_130 : decode b_M_goesOn 130 = .ok (.iconst 1, 1) := by decide +kernel
theorem d_M_goesOn_131 : decode b_M_goesOn 131 = .ok (.goto 14, 3) := by decide +kernel
theorem d_M_goesOn_134 : decode b_M_goesOn 134 = .ok (.iconst 0, 1) := by decide +kernel
theorem d_M_goesOn_135 : decode b_M_goesOn 135 = .ok (.goto 10, 3) := by decide +kernel
theorem d_M_goesOn_138 : decode b_M_goesOn 138 = .ok (.iload_n 1, 1) := by decide +kernel
theorem d_M_goesOn_139 : decode b_M_goesOn 139 = .ok (.iconst 2, 1) := by decide +kernel
theorem d_M_goesOn_140 : decode b_M_goesOn 140 = .ok (.isub, 1) := by decide +kernel
theorem d_M_goesOn_141 : decode b_M_goesOn 141 = .ok (.iload_n 2, 1) := by decide +kernel
theorem d_M_goesOn_142 : decode b_M_goesOn 142 = .ok (.invokestatic 63, 3) := by decide +kernel
theorem d_M_goesOn_145 : decode b_M_goesOn 145 = .ok (.ireturn, 1) := by decide +kernel
theorem d_M_whole_0 : decode b_M_whole 0 = .ok (.aload_n 0, 1) := by decide +kernel
theorem d_M_whole_1 : decode b_M_whole 1 = .ok (.getfield 41, 3) := by decide +kernel
theorem d_M_whole_4 : decode b_M_whole 4 = .ok (.ifCond .ne 5, 3) := by decide +kernel
theorem d_M_whole_7 : decode b_M_whole 7 = .ok (.iconst 0, 1) := by decide +kernel
theorem d_M_whole_8 : decode b_M_whole 8 = .ok (.ireturn, 1) := by decide +kernel
theorem d_M_whole_9 : decode b_M_whole 9 = .ok (.aload_n 0, 1) := by decide +kernel
theorem d_M_whole_10 : decode b_M_whole 10 = .ok (.getfield 7, 3) := by decide +kernel
theorem d_M_whole_13 : decode b_M_whole 13 = .ok (.iconst 0, 1) := by decide +kernel
theorem d_M_whole_14 : decode b_M_whole 14 = .ok (.iaload, 1) := by decide +kernel
theorem d_M_whole_15 : decode b_M_whole 15 = .ok (.istore_n 1, 1) := by decide +kernel
theorem d_M_whole_16 : decode b_M_whole 16 = .ok (.iload_n 1, 1) := by decide +kernel
theorem d_M_whole_17 : decode b_M_whole 17 = .ok (.bipush 116, 2) := by decide +kernel
theorem d_M_whole_19 : decode b_M_whole 19 = .ok (.if_icmp .ne 33, 3) := by decide +kernel
theorem d_M_whole_22 : decode b_M_whole 22 = .ok (.aload_n 0, 1) := by decide +kernel
theorem d_M_whole_23 : decode b_M_whole 23 = .ok (.getfield 41, 3) := by decide +kernel
theorem d_M_whole_26 : decode b_M_whole 26 = .ok (.bipush 8, 2) := by decide +kernel
theorem d_M_whole_28 : decode b_M_whole 28 = .ok (.if_icmp .le 22, 3) := by decide +kernel
theorem d_M_whole_31 : decode b_M_whole 31 = .ok (.aload_n 0, 1) := by decide +kernel
theorem d_M_whole_32 : decode b_M_whole 32 = .ok (.getfield 41, 3) := by decide +kernel
theorem d_M_whole_35 : decode b_M_whole 35 = .ok (.bipush 8, 2) := by decide +kernel
theorem d_M_whole_37 : decode b_M_whole 37 = .ok (.isub, 1) := by decide +kernel
theorem d_M_whole_38 : decode b_M_whole 38 = .ok (.bipush 7, 2) := by decide +kernel
theorem d_M_whole_40 : decode b_M_whole 40 = .ok (.irem, 1) := by decide +kernel
theorem d_M_whole_41 : decode b_M_whole 41 = .ok (.bipush 6, 2) := by decide +kernel
theorem d_M_whole_43 : decode b_M_whole 43 = .ok (.if_icmp .ne 7, 3) := by decide +kernel
theorem d_M_whole_46 : decode b_M_whole 46 = .ok (.iconst 1, 1) := by decide +kernel
theorem d_M_whole_47 : decode b_M_whole 47 = .ok (.goto 4, 3) := by decide +kernel
theorem d_M_whole_50 : decode b_M_whole 50 = .ok (.iconst 0, 1) := by decide +kernel
theorem d_M_whole_51 : decode b_M_whole 51 = .ok (.ireturn, 1) := by decide +kernel
theorem d_M_whole_52 : decode b_M_whole 52 = .ok (.aload_n 0, 1) := by decide +kernel
theorem d_M_whole_53 : decode b_M_whole 53 = .ok (.getfield 41, 3) := by decide +kernel
theorem d_M_whole_56 : decode b_M_whole 56 = .ok (.iload_n 1, 1) := by decide +kernel
theorem d_M_whole_57 : decode b_M_whole 57 = .ok (.bipush 97, 2) := by decide +kernel
theorem d_M_whole_59 : decode b_M_whole 59 = .ok (.if_icmp .eq 9, 3) := by decide +kernel
theorem d_M_whole_62 : decode b_M_whole 62 = .ok (.iload_n 1, 1) := by decide +kernel
theorem d_M_whole_63 : decode b_M_whole 63 = .ok (.bipush 98, 2) := by decide +kernel
theorem d_M_whole_65 : decode b_M_whole 65 = .ok (.if_icmp .ne 8, 3) := by decide +kernel
theorem d_M_whole_68 : decode b_M_whole 68 = .ok (.bipush 6, 2) := by decide +kernel
theorem d_M_whole_70 : decode b_M_whole 70 = .ok (.goto 5, 3) := by decide +kernel
theorem d_M_whole_73 : decode b_M_whole 73 = .ok (.bipush 7, 2) := by decide +kernel
theorem d_M_whole_75 : decode b_M_whole 75 = .ok (.if_icmp .ne 7, 3) := by decide +kernel
theorem d_M_whole_78 : decode b_M_whole 78 = .ok (.iconst 1, 1) := by decide +kernel
theorem d_M_whole_79 : decode b_M_whole 79 = .ok (.goto 4, 3) := by decide +kernel
theorem d_M_whole_82 : decode b_M_whole 82 = .ok (.iconst 0, 1) := by decide +kernel
theorem d_M_whole_83 : decode b_M_whole 83 = .ok (.ireturn, 1) := by decide +kernel
theorem d_M_fault_0 : decode b_M_fault 0 = .ok (.iconst 0, 1) := by decide +kernel
theorem d_M_fault_1 : decode b_M_fault 1 = .ok (.istore_n 1, 1) := by decide +kernel
theorem d_M_fault_2 : decode b_M_fault 2 = .ok (.iload_n 1, 1) := by decide +kernel
theorem d_M_fault_3 : decode b_M_fault 3 = .ok (.aload_n 0, 1) := by decide +kernel
theorem d_M_fault_4 : decode b_M_fault 4 = .ok (.getfield 41, 3) := by decide +kernel
theorem d_M_fault_7 : decode b_M_fault 7 = .ok (.if_icmp .ge 19, 3) := by decide +kernel
theorem d_M_fault_10 : decode b_M_fault 10 = .ok (.aload_n 0, 1) := by decide +kernel
theorem d_M_fault_11 : decode b_M_fault 11 = .ok (.iload_n 1, 1) := by decide +kernel
theorem d_M_fault_12 : decode b_M_fault 12 = .ok (.invokevirtual 66, 3) := by decide +kernel
theorem d_M_fault_15 : decode b_M_fault 15 = .ok (.ifCond .ne 5, 3) := by decide +kernel
theorem d_M_fault_18 : decode b_M_fault 18 = .ok (.iload_n 1, 1) := by decide +kernel
theorem d_M_fault_19 : decode b_M_fault 19 = .ok (.ireturn, 1) := by decide +kernel
theorem d_M_fault_20 : decode b_M_fault 20 = .ok (.iinc 1 1, 3) := by decide +kernel
theorem d_M_fault_23 : decode b_M_fault 23 = .ok (.goto (-21), 3) := by decide +kernel
theorem d_M_fault_26 : decode b_M_fault 26 = .ok (.aload_n 0, 1) := by decide +kernel
theorem d_M_fault_27 : decode b_M_fault 27 = .ok (.invokevirtual 69, 3) := by decide +kernel
theorem d_M_fault_30 : decode b_M_fault 30 = .ok (.ifCond .eq 7, 3) := by decide +kernel
theorem d_M_fault_33 : decode b_M_fault 33 = .ok (.iconst (-1), 1) := by decide +kernel
theorem d_M_fault_34 : decode b_M_fault 34 = .ok (.goto 7, 3) := by decide +kernel
theorem d_M_fault_37 : decode b_M_fault 37 = .ok (.aload_n 0, 1) := by decide +kernel
theorem d_M_fault_38 : decode b_M_fault 38 = .ok (.getfield 41, 3) := by decide +kernel
theorem d_M_fault_41 : decode b_M_fault 41 = .ok (.ireturn, 1) := by decide +kernel
set_option maxHeartbeats 1000000 in
set_option maxRecDepth 100000 in
theorem c_M_isConstant (l : Launch) (dC : Nat → ClassId) (dI : Nat → Nat → Nat) (sz : Nat)  (x0 : Int32) (r0 : Int32) (u0 : Unit) (h : m_M_isConstant x0 = some (r0, u0)) : Met l y_M_isConstant w_M_isConstant ({ frames := 0, cells := 0, slots := 0, locals := 0 } : Room) (va_Pc [.int x0] (fun U => U.heap.size = sz ∧ va_P (dC, dI) classes [] U.heap ∧ va_K (dC, dI) classes [] U ∧ va_D (fun _ => True) [])) (va_Qi (fun (r : Int32) (u : Unit) => r = r0 ∧ u = u0) (fun (u : Unit) (t : State) => va_P (dC, dI) classes [] t.heap ∧ va_K (dC, dI) classes [] t ∧ va_D (va_A [] sz) []) (va_A [] sz)) 0 0 (va_A [] sz) := by
  refine Met.ofW (cc := b_M_isConstant) (maxL := 1) (ret := (some .boolean)) (by decide) rfl ?_
  intro p e s m args below meth c s₁ B hml hv
  obtain ⟨rfl, hsz, hP, hK, hD0⟩ := hv
  have hx := B.exec
  have hb := B.bytes
  have hr := B.returns
  have hts0 := atoms_spec (ws := w_M_isConstant) B.pre
  have hts : ∀ w ∈ lw_gd, w.before ([.int x0] : List Value).toArray s = true := fun w h9 => hts0 w (List.mem_cons_of_mem _ h9)
  have hown : s.vm.findClass R_M = some m.cls := findClass_of_methodNamed B.named
  have hlocks := B.notSynchronized
  subst hsz
  have hD := hD0.self (sz := s.heap.size)
  generalize hAe : va_A [] s.heap.size = A at hD ⊢
  have hA : ∀ q : Nat, s.heap.size ≤ q → A q := fun q h9 => by rw [← hAe]; exact Or.inr h9
  obtain ⟨H, eH⟩ : ∃ H : Heap, H = s.heap := ⟨_, rfl⟩
  have hS : va_S A s.heap H [] := by rw [eH]; exact va_S.rf
  have hP : va_P (dC, dI) classes [] H := by rw [eH]; exact hP
  refine W_gen (fun Q hQ => ?_)
  refine W_heap eH ?_
  clear eH
  have hl := lv_entry ([.int x0]) (n := 1) (Nat.le_of_ble_eq_true rfl)
  rw [lg_entry_eq]
  generalize (lg_sl ([.int x0]) ++ List.replicate (1 - (lg_sl ([.int x0])).length) Slot.unset).toArray = ls at hl ⊢
  have hl : lv_has ls 1 [(0, .int x0)] := hl
  unfold m_M_isConstant at h
  refine lv_iload_n hx hb d_M_isConstant_0 rfl (lv_at hl 0 rfl) ?_
  refine lv_bipush (v := (nI 48)) hx hb d_M_isConstant_1 (by decide) ?_
  refine lv_icmp_lt (tgt := 16) hx hb d_M_isConstant_3 (by decide) (fun c_3 => ?_) (fun c_3 => ?_)
  · have h := of_pos h c_3
    refine lv_iconst (v := (nI 0)) hx hb d_M_isConstant_16 (by decide) ?_
    rw [hQ]
    exact W.zret (v := (nI 0)) hx hb hr rfl (fun t ht hW => ⟨⟨(nI 0), (), rfl, Prod.mk.inj (Option.some.inj h), by rw [ht]; exact hP, va_K.moved hW.alike hK, hD⟩, hS.F ht⟩) hS.2.2 d_M_isConstant_17
  · have h := of_neg h c_3
    refine lv_iload_n hx hb d_M_isConstant_6 rfl (lv_at hl 0 rfl) ?_
    refine lv_bipush (v := (nI 51)) hx hb d_M_isConstant_7 (by decide) ?_
    refine lv_icmp_gt (tgt := 16) hx hb d_M_isConstant_9 (by decide) (fun c_9 => ?_) (fun c_9 => ?_)
    · have h := of_pos h c_9
      refine lv_iconst (v := (nI 0)) hx hb d_M_isConstant_16 (by decide) ?_
      rw [hQ]
      exact W.zret (v := (nI 0)) hx hb hr rfl (fun t ht hW => ⟨⟨(nI 0), (), rfl, Prod.mk.inj (Option.some.inj h), by rw [ht]; exact hP, va_K.moved hW.alike hK, hD⟩, hS.F ht⟩) hS.2.2 d_M_isConstant_17
    · have h := of_neg h c_9
      refine lv_iconst (v := (nI 1)) hx hb d_M_isConstant_12 (by decide) ?_
      refine lv_goto (tgt := 17) hx hb d_M_isConstant_13 (by decide) ?_
      rw [hQ]
      exact W.zret (v := (nI 1)) hx hb hr rfl (fun t ht hW => ⟨⟨(nI 1), (), rfl, Prod.mk.inj (Option.some.inj h), by rw [ht]; exact hP, va_K.moved hW.alike hK, hD⟩, hS.F ht⟩) hS.2.2 d_M_isConstant_17
set_option maxHeartbeats 1000000 in
set_option maxRecDepth 100000 in
theorem c_M_isVariable (l : Launch) (dC : Nat → ClassId) (dI : Nat → Nat → Nat) (sz : Nat)  (x0 : Int32) (r0 : Int32) (u0 : Unit) (h : m_M_isVariable x0 = some (r0, u0)) : Met l y_M_isVariable w_M_isVariable ({ frames := 0, cells := 0, slots := 0, locals := 0 } : Room) (va_Pc [.int x0] (fun U => U.heap.size = sz ∧ va_P (dC, dI) classes [] U.heap ∧ va_K (dC, dI) classes [] U ∧ va_D (fun _ => True) [])) (va_Qi (fun (r : Int32) (u : Unit) => r = r0 ∧ u = u0) (fun (u : Unit) (t : State) => va_P (dC, dI) classes [] t.heap ∧ va_K (dC, dI) classes [] t ∧ va_D (va_A [] sz) []) (va_A [] sz)) 0 0 (va_A [] sz) := by
  refine Met.ofW (cc := b_M_isVariable) (maxL := 1) (ret := (some .boolean)) (by decide) rfl ?_
  intro p e s m args below meth c s₁ B hml hv
  obtain ⟨rfl, hsz, hP, hK, hD0⟩ := hv
  have hx := B.exec
  have hb := B.bytes
  have hr := B.returns
  have hts0 := atoms_spec (ws := w_M_isVariable) B.pre
  have hts : ∀ w ∈ lw_gd, w.before ([.int x0] : List Value).toArray s = true := fun w h9 => hts0 w (List.mem_cons_of_mem _ h9)
  have hown : s.vm.findClass R_M = some m.cls := findClass_of_methodNamed B.named
  have hlocks := B.notSynchronized
  subst hsz
  have hD := hD0.self (sz := s.heap.size)
  generalize hAe : va_A [] s.heap.size = A at hD ⊢
  have hA : ∀ q : Nat, s.heap.size ≤ q → A q := fun q h9 => by rw [← hAe]; exact Or.inr h9
  obtain ⟨H, eH⟩ : ∃ H : Heap, H = s.heap := ⟨_, rfl⟩
  have hS : va_S A s.heap H [] := by rw [eH]; exact va_S.rf
  have hP : va_P (dC, dI) classes [] H := by rw [eH]; exact hP
  refine W_gen (fun Q hQ => ?_)
  refine W_heap eH ?_
  clear eH
  have hl := lv_entry ([.int x0]) (n := 1) (Nat.le_of_ble_eq_true rfl)
  rw [lg_entry_eq]
  generalize (lg_sl ([.int x0]) ++ List.replicate (1 - (lg_sl ([.int x0])).length) Slot.unset).toArray = ls at hl ⊢
  have hl : lv_has ls 1 [(0, .int x0)] := hl
  unfold m_M_isVariable at h
  refine lv_iload_n hx hb d_M_isVariable_0 rfl (lv_at hl 0 rfl) ?_
  refine lv_bipush (v := (nI 88)) hx hb d_M_isVariable_1 (by decide) ?_
  refine lv_icmp_lt (tgt := 16) hx hb d_M_isVariable_3 (by decide) (fun c_3 => ?_) (fun c_3 => ?_)
  · have h := of_pos h c_3
    refine lv_iconst (v := (nI 0)) hx hb d_M_isVariable_16 (by decide) ?_
    rw [hQ]
    exact W.zret (v := (nI 0)) hx hb hr rfl (fun t ht hW => ⟨⟨(nI 0), (), rfl, Prod.mk.inj (Option.some.inj h), by rw [ht]; exact hP, va_K.moved hW.alike hK, hD⟩, hS.F ht⟩) hS.2.2 d_M_isVariable_17
  · have h := of_neg h c_3
    refine lv_iload_n hx hb d_M_isVariable_6 rfl (lv_at hl 0 rfl) ?_
    refine lv_bipush (v := (nI 90)) hx hb d_M_isVariable_7 (by decide) ?_
    refine lv_icmp_gt (tgt := 16) hx hb d_M_isVariable_9 (by decide) (fun c_9 => ?_) (fun c_9 => ?_)
    · have h := of_pos h c_9
      refine lv_iconst (v := (nI 0)) hx hb d_M_isVariable_16 (by decide) ?_
      rw [hQ]
      exact W.zret (v := (nI 0)) hx hb hr rfl (fun t ht hW => ⟨⟨(nI 0), (), rfl, Prod.mk.inj (Option.some.inj h), by rw [ht]; exact hP, va_K.moved hW.alike hK, hD⟩, hS.F ht⟩) hS.2.2 d_M_isVariable_17
    · have h := of_neg h c_9
      refine lv_iconst (v := (nI 1)) hx hb d_M_isVariable_12 (by decide) ?_
      refine lv_goto (tgt := 17) hx hb d_M_isVariable_13 (by decide) ?_
      rw [hQ]
      exact W.zret (v := (nI 1)) hx hb hr rfl (fun t ht hW => ⟨⟨(nI 1), (), rfl, Prod.mk.inj (Option.some.inj h), by rw [ht]; exact hP, va_K.moved hW.alike hK, hD⟩, hS.F ht⟩) hS.2.2 d_M_isVariable_17
set_option maxHeartbeats 1000000 in
set_option maxRecDepth 100000 in
theorem c_M_isRelation (l : Launch) (dC : Nat → ClassId) (dI : Nat → Nat → Nat) (sz : Nat)  (x0 : Int32) (r0 : Int32) (u0 : Unit) (h : m_M_isRelation x0 = some (r0, u0)) : Met l y_M_isRelation w_M_isRelation ({ frames := 0, cells := 0, slots := 0, locals := 0 } : Room) (va_Pc [.int x0] (fun U => U.heap.size = sz ∧ va_P (dC, dI) classes [] U.heap ∧ va_K (dC, dI) classes [] U ∧ va_D (fun _ => True) [])) (va_Qi (fun (r : Int32) (u : Unit) => r = r0 ∧ u = u0) (fun (u : Unit) (t : State) => va_P (dC, dI) classes [] t.heap ∧ va_K (dC, dI) classes [] t ∧ va_D (va_A [] sz) []) (va_A [] sz)) 0 0 (va_A [] sz) := by
  refine Met.ofW (cc := b_M_isRelation) (maxL := 1) (ret := (some .boolean)) (by decide) rfl ?_
  intro p e s m args below meth c s₁ B hml hv
  obtain ⟨rfl, hsz, hP, hK, hD0⟩ := hv
  have hx := B.exec
  have hb := B.bytes
  have hr := B.returns
  have hts0 := atoms_spec (ws := w_M_isRelation) B.pre
  have hts : ∀ w ∈ lw_gd, w.before ([.int x0] : List Value).toArray s = true := fun w h9 => hts0 w (List.mem_cons_of_mem _ h9)
  have hown : s.vm.findClass R_M = some m.cls := findClass_of_methodNamed B.named
  have hlocks := B.notSynchronized
  subst hsz
  have hD := hD0.self (sz := s.heap.size)
  generalize hAe : va_A [] s.heap.size = A at hD ⊢
  have hA : ∀ q : Nat, s.heap.size ≤ q → A q := fun q h9 => by rw [← hAe]; exact Or.inr h9
  obtain ⟨H, eH⟩ : ∃ H : Heap, H = s.heap := ⟨_, rfl⟩
  have hS : va_S A s.heap H [] := by rw [eH]; exact va_S.rf
  have hP : va_P (dC, dI) classes [] H := by rw [eH]; exact hP
  refine W_gen (fun Q hQ => ?_)
  refine W_heap eH ?_
  clear eH
  have hl := lv_entry ([.int x0]) (n := 1) (Nat.le_of_ble_eq_true rfl)
  rw [lg_entry_eq]
  generalize (lg_sl ([.int x0]) ++ List.replicate (1 - (lg_sl ([.int x0])).length) Slot.unset).toArray = ls at hl ⊢
  have hl : lv_has ls 1 [(0, .int x0)] := hl
  unfold m_M_isRelation at h
  refine lv_iload_n hx hb d_M_isRelation_0 rfl (lv_at hl 0 rfl) ?_
  refine lv_bipush (v := (nI 97)) hx hb d_M_isRelation_1 (by decide) ?_
  refine lv_icmp_eq (tgt := 18) hx hb d_M_isRelation_3 (by decide) (fun c_3 => ?_) (fun c_3 => ?_)
  · have h := of_pos h c_3
    refine lv_iconst (v := (nI 1)) hx hb d_M_isRelation_18 (by decide) ?_
    refine lv_goto (tgt := 23) hx hb d_M_isRelation_19 (by decide) ?_
    rw [hQ]
    exact W.zret (v := (nI 1)) hx hb hr rfl (fun t ht hW => ⟨⟨(nI 1), (), rfl, Prod.mk.inj (Option.some.inj h), by rw [ht]; exact hP, va_K.moved hW.alike hK, hD⟩, hS.F ht⟩) hS.2.2 d_M_isRelation_23
  · have h := of_neg h c_3
    refine lv_iload_n hx hb d_M_isRelation_6 rfl (lv_at hl 0 rfl) ?_
    refine lv_bipush (v := (nI 98)) hx hb d_M_isRelation_7 (by decide) ?_
    refine lv_icmp_eq (tgt := 18) hx hb d_M_isRelation_9 (by decide) (fun c_9 => ?_) (fun c_9 => ?_)
    · have h := of_pos h c_9
      refine lv_iconst (v := (nI 1)) hx hb d_M_isRelation_18 (by decide) ?_
      refine lv_goto (tgt := 23) hx hb d_M_isRelation_19 (by decide) ?_
      rw [hQ]
      exact W.zret (v := (nI 1)) hx hb hr rfl (fun t ht hW => ⟨⟨(nI 1), (), rfl, Prod.mk.inj (Option.some.inj h), by rw [ht]; exact hP, va_K.moved hW.alike hK, hD⟩, hS.F ht⟩) hS.2.2 d_M_isRelation_23
    · have h := of_neg h c_9
      refine lv_iload_n hx hb d_M_isRelation_12 rfl (lv_at hl 0 rfl) ?_
      refine lv_bipush (v := (nI 116)) hx hb d_M_isRelation_13 (by decide) ?_
      refine lv_icmp_ne (tgt := 22) hx hb d_M_isRelation_15 (by decide) (fun c_15 => ?_) (fun c_15 => ?_)
      · have h := of_neg h c_15
        refine lv_iconst (v := (nI 0)) hx hb d_M_isRelation_22 (by decide) ?_
        rw [hQ]
        exact W.zret (v := (nI 0)) hx hb hr rfl (fun t ht hW => ⟨⟨(nI 0), (), rfl, Prod.mk.inj (Option.some.inj h), by rw [ht]; exact hP, va_K.moved hW.alike hK, hD⟩, hS.F ht⟩) hS.2.2 d_M_isRelation_23
      · have h := of_pos h c_15
        refine lv_iconst (v := (nI 1)) hx hb d_M_isRelation_18 (by decide) ?_
        refine lv_goto (tgt := 23) hx hb d_M_isRelation_19 (by decide) ?_
        rw [hQ]
        exact W.zret (v := (nI 1)) hx hb hr rfl (fun t ht hW => ⟨⟨(nI 1), (), rfl, Prod.mk.inj (Option.some.inj h), by rw [ht]; exact hP, va_K.moved hW.alike hK, hD⟩, hS.F ht⟩) hS.2.2 d_M_isRelation_23
set_option maxHeartbeats 1000000 in
set_option maxRecDepth 100000 in
theorem c_M_head (l : Launch) (dC : Nat → ClassId) (dI : Nat → Nat → Nat) (sz : Nat)  (x0 : Int32) (r0 : Int32) (u0 : Unit) (h : m_M_head x0 = some (r0, u0)) : Met l y_M_head w_M_head ({ frames := 0, cells := 0, slots := 0, locals := 0 } : Room) (va_Pc [.int x0] (fun U => U.heap.size = sz ∧ va_P (dC, dI) classes [] U.heap ∧ va_K (dC, dI) classes [] U ∧ va_D (fun _ => True) [])) (va_Qi (fun (r : Int32) (u : Unit) => r = r0 ∧ u = u0) (fun (u : Unit) (t : State) => va_P (dC, dI) classes [] t.heap ∧ va_K (dC, dI) classes [] t ∧ va_D (va_A [] sz) []) (va_A [] sz)) 0 0 (va_A [] sz) := by
  refine Met.ofW (cc := b_M_head) (maxL := 1) (ret := (some .int)) (by decide) rfl ?_
  intro p e s m args below meth c s₁ B hml hv
  obtain ⟨rfl, hsz, hP, hK, hD0⟩ := hv
  have hx := B.exec
  have hb := B.bytes
  have hr := B.returns
  have hts0 := atoms_spec (ws := w_M_head) B.pre
  have hts : ∀ w ∈ lw_gd, w.before ([.int x0] : List Value).toArray s = true := fun w h9 => hts0 w (List.mem_cons_of_mem _ h9)
  have hown : s.vm.findClass R_M = some m.cls := findClass_of_methodNamed B.named
  have hlocks := B.notSynchronized
  subst hsz
  have hD := hD0.self (sz := s.heap.size)
  generalize hAe : va_A [] s.heap.size = A at hD ⊢
  have hA : ∀ q : Nat, s.heap.size ≤ q → A q := fun q h9 => by rw [← hAe]; exact Or.inr h9
  obtain ⟨H, eH⟩ : ∃ H : Heap, H = s.heap := ⟨_, rfl⟩
  have hS : va_S A s.heap H [] := by rw [eH]; exact va_S.rf
  have hP : va_P (dC, dI) classes [] H := by rw [eH]; exact hP
  refine W_gen (fun Q hQ => ?_)
  refine W_heap eH ?_
  clear eH
  have hl := lv_entry ([.int x0]) (n := 1) (Nat.le_of_ble_eq_true rfl)
  rw [lg_entry_eq]
  generalize (lg_sl ([.int x0]) ++ List.replicate (1 - (lg_sl ([.int x0])).length) Slot.unset).toArray = ls at hl ⊢
  have hl : lv_has ls 1 [(0, .int x0)] := hl
  unfold m_M_head at h
  refine lv_iload_n hx hb d_M_head_0 rfl (lv_at hl 0 rfl) ?_
  by_cases c_1_0 : x0 = (nI 0)
  · have h := of_pos h c_1_0
    refine lv_tableIn (tgt := 44) (off := 43) hx hb d_M_head_1 (by rw [c_1_0]; decide) (by rw [c_1_0]; decide) (by rw [c_1_0]; rfl) (by decide) ?_
    refine lv_bipush (v := (nI 116)) hx hb d_M_head_44 (by decide) ?_
    rw [hQ]
    exact W.iret (v := (nI 116)) hx hb hr (fun t ht hW => ⟨⟨(nI 116), (), rfl, Prod.mk.inj (Option.some.inj h), by rw [ht]; exact hP, va_K.moved hW.alike hK, hD⟩, hS.F ht⟩) hS.2.2 d_M_head_46
  have h := of_neg h c_1_0
  by_cases c_1_1 : x0 = (nI 1)
  · have h := of_pos h c_1_1
    refine lv_tableIn (tgt := 47) (off := 46) hx hb d_M_head_1 (by rw [c_1_1]; decide) (by rw [c_1_1]; decide) (by rw [c_1_1]; rfl) (by decide) ?_
    refine lv_bipush (v := (nI 40)) hx hb d_M_head_47 (by decide) ?_
    rw [hQ]
    exact W.iret (v := (nI 40)) hx hb hr (fun t ht hW => ⟨⟨(nI 40), (), rfl, Prod.mk.inj (Option.some.inj h), by rw [ht]; exact hP, va_K.moved hW.alike hK, hD⟩, hS.F ht⟩) hS.2.2 d_M_head_49
  have h := of_neg h c_1_1
  by_cases c_1_2 : x0 = (nI 2)
  · have h := of_pos h c_1_2
    refine lv_tableIn (tgt := 50) (off := 49) hx hb d_M_head_1 (by rw [c_1_2]; decide) (by rw [c_1_2]; decide) (by rw [c_1_2]; rfl) (by decide) ?_
    refine lv_bipush (v := (nI 88)) hx hb d_M_head_50 (by decide) ?_
    rw [hQ]
    exact W.iret (v := (nI 88)) hx hb hr (fun t ht hW => ⟨⟨(nI 88), (), rfl, Prod.mk.inj (Option.some.inj h), by rw [ht]; exact hP, va_K.moved hW.alike hK, hD⟩, hS.F ht⟩) hS.2.2 d_M_head_52
  have h := of_neg h c_1_2
  by_cases c_1_3 : x0 = (nI 3)
  · have h := of_pos h c_1_3
    refine lv_tableIn (tgt := 53) (off := 52) hx hb d_M_head_1 (by rw [c_1_3]; decide) (by rw [c_1_3]; decide) (by rw [c_1_3]; rfl) (by decide) ?_
    refine lv_bipush (v := (nI 44)) hx hb d_M_head_53 (by decide) ?_
    rw [hQ]
    exact W.iret (v := (nI 44)) hx hb hr (fun t ht hW => ⟨⟨(nI 44), (), rfl, Prod.mk.inj (Option.some.inj h), by rw [ht]; exact hP, va_K.moved hW.alike hK, hD⟩, hS.F ht⟩) hS.2.2 d_M_head_55
  have h := of_neg h c_1_3
  by_cases c_1_4 : x0 = (nI 4)
  · have h := of_pos h c_1_4
    refine lv_tableIn (tgt := 56) (off := 55) hx hb d_M_head_1 (by rw [c_1_4]; decide) (by rw [c_1_4]; decide) (by rw [c_1_4]; rfl) (by decide) ?_
    refine lv_bipush (v := (nI 89)) hx hb d_M_head_56 (by decide) ?_
    rw [hQ]
    exact W.iret (v := (nI 89)) hx hb hr (fun t ht hW => ⟨⟨(nI 89), (), rfl, Prod.mk.inj (Option.some.inj h), by rw [ht]; exact hP, va_K.moved hW.alike hK, hD⟩, hS.F ht⟩) hS.2.2 d_M_head_58
  have h := of_neg h c_1_4
  by_cases c_1_5 : x0 = (nI 5)
  · have h := of_pos h c_1_5
    refine lv_tableIn (tgt := 59) (off := 58) hx hb d_M_head_1 (by rw [c_1_5]; decide) (by rw [c_1_5]; decide) (by rw [c_1_5]; rfl) (by decide) ?_
    refine lv_bipush (v := (nI 41)) hx hb d_M_head_59 (by decide) ?_
    rw [hQ]
    exact W.iret (v := (nI 41)) hx hb hr (fun t ht hW => ⟨⟨(nI 41), (), rfl, Prod.mk.inj (Option.some.inj h), by rw [ht]; exact hP, va_K.moved hW.alike hK, hD⟩, hS.F ht⟩) hS.2.2 d_M_head_61
  have h := of_neg h c_1_5
  by_cases c_1_6 : x0 = (nI 6)
  · have h := of_pos h c_1_6
    refine lv_tableIn (tgt := 62) (off := 61) hx hb d_M_head_1 (by rw [c_1_6]; decide) (by rw [c_1_6]; decide) (by rw [c_1_6]; rfl) (by decide) ?_
    refine lv_bipush (v := (nI 58)) hx hb d_M_head_62 (by decide) ?_
    rw [hQ]
    exact W.iret (v := (nI 58)) hx hb hr (fun t ht hW => ⟨⟨(nI 58), (), rfl, Prod.mk.inj (Option.some.inj h), by rw [ht]; exact hP, va_K.moved hW.alike hK, hD⟩, hS.F ht⟩) hS.2.2 d_M_head_64
  have h := of_neg h c_1_6
  refine lv_tableOut (tgt := 65) hx hb d_M_head_1 (by have := lv_neT (a := 0) c_1_0 (by decide); have := lv_neT (a := 1) c_1_1 (by decide); have := lv_neT (a := 2) c_1_2 (by decide); have := lv_neT (a := 3) c_1_3 (by decide); have := lv_neT (a := 4) c_1_4 (by decide); have := lv_neT (a := 5) c_1_5 (by decide); have := lv_neT (a := 6) c_1_6 (by decide); omega) (by decide) ?_
  refine lv_bipush (v := (nI 45)) hx hb d_M_head_65 (by decide) ?_
  rw [hQ]
  exact W.iret (v := (nI 45)) hx hb hr (fun t ht hW => ⟨⟨(nI 45), (), rfl, Prod.mk.inj (Option.some.inj h), by rw [ht]; exact hP, va_K.moved hW.alike hK, hD⟩, hS.F ht⟩) hS.2.2 d_M_head_67
set_option maxHeartbeats 1000000 in
set_option maxRecDepth 100000 in
theorem c_M_argument (l : Launch) (dC : Nat → ClassId) (dI : Nat → Nat → Nat) (sz : Nat)  (x0 : Int32) (x1 : Int32) (r0 : Int32) (u0 : Unit) (h : m_M_argument x0 x1 = some (r0, u0)) : Met l y_M_argument w_M_argument ({ frames := 1, cells := 0, slots := 0, locals := 20 } : Room) (va_Pc [.int x0, .int x1] (fun U => U.heap.size = sz ∧ va_P (dC, dI) classes [] U.heap ∧ va_K (dC, dI) classes [] U ∧ va_D (fun _ => True) [])) (va_Qi (fun (r : Int32) (u : Unit) => r = r0 ∧ u = u0) (fun (u : Unit) (t : State) => va_P (dC, dI) classes [] t.heap ∧ va_K (dC, dI) classes [] t ∧ va_D (va_A [] sz) []) (va_A [] sz)) 0 0 (va_A [] sz) := by
  refine Met.ofW (cc := b_M_argument) (maxL := 2) (ret := (some .boolean)) (by decide) rfl ?_
  intro p e s m args below meth c s₁ B hml hv
  obtain ⟨rfl, hsz, hP, hK, hD0⟩ := hv
  have hx := B.exec
  have hb := B.bytes
  have hr := B.returns
  have hts0 := atoms_spec (ws := w_M_argument) B.pre
  have hts : ∀ w ∈ lw_gd, w.before ([.int x0, .int x1] : List Value).toArray s = true := fun w h9 => hts0 w (List.mem_cons_of_mem _ h9)
  have hown : s.vm.findClass R_M = some m.cls := findClass_of_methodNamed B.named
  have hlocks := B.notSynchronized
  subst hsz
  have hD := hD0.self (sz := s.heap.size)
  generalize hAe : va_A [] s.heap.size = A at hD ⊢
  have hA : ∀ q : Nat, s.heap.size ≤ q → A q := fun q h9 => by rw [← hAe]; exact Or.inr h9
  obtain ⟨H, eH⟩ : ∃ H : Heap, H = s.heap := ⟨_, rfl⟩
  have hS : va_S A s.heap H [] := by rw [eH]; exact va_S.rf
  have hP : va_P (dC, dI) classes [] H := by rw [eH]; exact hP
  refine W_gen (fun Q hQ => ?_)
  refine W_heap eH ?_
  clear eH
  have hl := lv_entry ([.int x0, .int x1]) (n := 2) (Nat.le_of_ble_eq_true rfl)
  rw [lg_entry_eq]
  generalize (lg_sl ([.int x0, .int x1]) ++ List.replicate (2 - (lg_sl ([.int x0, .int x1])).length) Slot.unset).toArray = ls at hl ⊢
  have hl : lv_has ls 2 [(0, .int x0), (1, .int x1)] := hl
  have J_45 : ∀ (z0 : Int32) (z1 : Int32), m_M_argument_45 z0 z1 = some (r0, u0) → ∀ (H : Heap) (locs : List Loc), va_P (dC, dI) classes [] H → va_D A [] → va_S A s.heap H locs → ∀ (ls : Array Slot), lv_has ls 2 [(0, .int z0), (1, .int z1)] → W p l e (headSpec w_M_argument ({ frames := 1, cells := 0, slots := 0, locals := 20 } : Room)).room s m ([.int x0, .int x1] : List Value).toArray below meth c H locs 0 0 Q (F0 m 45 ls []) := by
    intro z0 z1 h H locs hP hD hS ls hl
    unfold m_M_argument_45 at h
    refine lv_iload_n hx hb d_M_argument_45 rfl (lv_at hl 0 rfl) ?_
    refine lv_iconst (v := (nI 4)) hx hb d_M_argument_46 (by decide) ?_
    refine lv_icmp_ne (tgt := 60) hx hb d_M_argument_47 (by decide) (fun c_47 => ?_) (fun c_47 => ?_)
    · have h := of_neg h c_47
      refine lv_iconst (v := (nI 0)) hx hb d_M_argument_60 (by decide) ?_
      rw [hQ]
      exact W.zret (v := (nI 0)) hx hb hr rfl (fun t ht hW => ⟨⟨(nI 0), (), rfl, Prod.mk.inj (Option.some.inj h), by rw [ht]; exact hP, va_K.moved hW.alike hK, hD⟩, hS.F ht⟩) hS.2.2 d_M_argument_61
    · have h := of_pos h c_47
      refine lv_iload_n hx hb d_M_argument_50 rfl (lv_at hl 1 rfl) ?_
      refine lv_bipush (v := (nI 41)) hx hb d_M_argument_51 (by decide) ?_
      refine lv_icmp_ne (tgt := 60) hx hb d_M_argument_53 (by decide) (fun c_53 => ?_) (fun c_53 => ?_)
      · have h := of_neg h c_53
        refine lv_iconst (v := (nI 0)) hx hb d_M_argument_60 (by decide) ?_
        rw [hQ]
        exact W.zret (v := (nI 0)) hx hb hr rfl (fun t ht hW => ⟨⟨(nI 0), (), rfl, Prod.mk.inj (Option.some.inj h), by rw [ht]; exact hP, va_K.moved hW.alike hK, hD⟩, hS.F ht⟩) hS.2.2 d_M_argument_61
      · have h := of_pos h c_53
        refine lv_iconst (v := (nI 1)) hx hb d_M_argument_56 (by decide) ?_
        refine lv_goto (tgt := 61) hx hb d_M_argument_57 (by decide) ?_
        rw [hQ]
        exact W.zret (v := (nI 1)) hx hb hr rfl (fun t ht hW => ⟨⟨(nI 1), (), rfl, Prod.mk.inj (Option.some.inj h), by rw [ht]; exact hP, va_K.moved hW.alike hK, hD⟩, hS.F ht⟩) hS.2.2 d_M_argument_61
  have J_33 : ∀ (z0 : Int32) (z1 : Int32), m_M_argument_33 z0 z1 = some (r0, u0) → ∀ (H : Heap) (locs : List Loc), va_P (dC, dI) classes [] H → va_D A [] → va_S A s.heap H locs → ∀ (ls : Array Slot), lv_has ls 2 [(0, .int z0), (1, .int z1)] → W p l e (headSpec w_M_argument ({ frames := 1, cells := 0, slots := 0, locals := 20 } : Room)).room s m ([.int x0, .int x1] : List Value).toArray below meth c H locs 0 0 Q (F0 m 33 ls []) := by
    intro z0 z1 h H locs hP hD hS ls hl
    unfold m_M_argument_33 at h
    refine lv_iload_n hx hb d_M_argument_33 rfl (lv_at hl 0 rfl) ?_
    refine lv_iconst (v := (nI 3)) hx hb d_M_argument_34 (by decide) ?_
    refine lv_icmp_ne (tgt := 45) hx hb d_M_argument_35 (by decide) (fun c_35 => ?_) (fun c_35 => ?_)
    · have h := of_neg h c_35
      exact J_45 z0 z1 h _ _ hP hD hS ls (lv_sub hl [0, 1] rfl)
    · have h := of_pos h c_35
      refine lv_iload_n hx hb d_M_argument_38 rfl (lv_at hl 1 rfl) ?_
      have hPc := hP.sub (ws' := []) [] rfl
      have hDc := hD.sub (ws' := []) [] (by decide) rfl
      have hKc := hK.sub (tys' := []) [] rfl
      have hFc := va_free (wc := []) hD hS hA [] rfl
      obtain ⟨v_39, hc_39, h⟩ := of_bind h
      refine va_calli (va_runS (As := [.int z1]) (rest := []) ⟨hx, hb, hml, hown, hts⟩ (c_M_isConstant l dC dI H.size z1 v_39.1 v_39.2 hc_39) (va_cwS 1 hts (gS mlk_M_45 sta_M_isConstant ini_M cod_M_isConstant) rfl rfl rfl (by decide +kernel) ⟨Nat.le_of_ble_eq_true rfl, Nat.le_of_ble_eq_true rfl⟩) ⟨fun a U g mk q => by obtain ⟨q0, q1, qP, qK, qD⟩ := q; exact ⟨q0, q1, qP, va_K.moved (u := U) (U := U.calling g mk a) (Vm.Alike.refl U.vm) qK, qD⟩, fun U hU hW => ⟨rfl, by rw [hU], by rw [hU]; exact hPc, va_K.moved hW.alike hKc, hDc.weaken (fun _ _ _ _ => trivial)⟩⟩ rfl rfl hl.1 rfl (lv_room (Nat.le_of_ble_eq_true rfl)) d_M_argument_39 ⟨Nat.le_of_ble_eq_true rfl, Nat.le_of_ble_eq_true rfl⟩) hS (fun q _ h9 => hFc q h9) hFc (fun r_39 u t H1 locs ht hvm hw hB hz1 hk1 hS => ?_)
      obtain ⟨rfl, rfl⟩ := hw
      obtain ⟨hP1, hK1, hD1⟩ := hB
      rw [ht] at hP1
      obtain ⟨hP, hD⟩ := va_join (wr := []) (w1 := []) hP hD [] [] rfl rfl (by decide) (by decide) hk1 hFc hP1 hD1
      have hP := hP.sub (ws' := []) [] rfl
      have hD := hD.sub (ws' := []) [] (by decide) rfl
      generalize H1 = H at hP hS ⊢
      refine lv_if_ne (tgt := 56) hx hb d_M_argument_42 (by decide) (fun c_42 => ?_) (fun c_42 => ?_)
      · have h := of_neg h c_42
        refine lv_iconst (v := (nI 1)) hx hb d_M_argument_56 (by decide) ?_
        refine lv_goto (tgt := 61) hx hb d_M_argument_57 (by decide) ?_
        rw [hQ]
        exact W.zret (v := (nI 1)) hx hb hr rfl (fun t ht hW => ⟨⟨(nI 1), (), rfl, Prod.mk.inj (Option.some.inj h), by rw [ht]; exact hP, va_K.moved hW.alike hK, hD⟩, hS.F ht⟩) hS.2.2 d_M_argument_61
      · have h := of_pos h c_42
        exact J_45 z0 z1 h _ _ hP hD hS ls (lv_sub hl [0, 1] rfl)
  have J_22 : ∀ (z0 : Int32) (z1 : Int32), m_M_argument_22 z0 z1 = some (r0, u0) → ∀ (H : Heap) (locs : List Loc), va_P (dC, dI) classes [] H → va_D A [] → va_S A s.heap H locs → ∀ (ls : Array Slot), lv_has ls 2 [(0, .int z0), (1, .int z1)] → W p l e (headSpec w_M_argument ({ frames := 1, cells := 0, slots := 0, locals := 20 } : Room)).room s m ([.int x0, .int x1] : List Value).toArray below meth c H locs 0 0 Q (F0 m 22 ls []) := by
    intro z0 z1 h H locs hP hD hS ls hl
    unfold m_M_argument_22 at h
    refine lv_iload_n hx hb d_M_argument_22 rfl (lv_at hl 0 rfl) ?_
    refine lv_iconst (v := (nI 2)) hx hb d_M_argument_23 (by decide) ?_
    refine lv_icmp_ne (tgt := 33) hx hb d_M_argument_24 (by decide) (fun c_24 => ?_) (fun c_24 => ?_)
    · have h := of_neg h c_24
      exact J_33 z0 z1 h _ _ hP hD hS ls (lv_sub hl [0, 1] rfl)
    · have h := of_pos h c_24
      refine lv_iload_n hx hb d_M_argument_27 rfl (lv_at hl 1 rfl) ?_
      refine lv_bipush (v := (nI 44)) hx hb d_M_argument_28 (by decide) ?_
      refine lv_icmp_eq (tgt := 56) hx hb d_M_argument_30 (by decide) (fun c_30 => ?_) (fun c_30 => ?_)
      · have h := of_pos h c_30
        refine lv_iconst (v := (nI 1)) hx hb d_M_argument_56 (by decide) ?_
        refine lv_goto (tgt := 61) hx hb d_M_argument_57 (by decide) ?_
        rw [hQ]
        exact W.zret (v := (nI 1)) hx hb hr rfl (fun t ht hW => ⟨⟨(nI 1), (), rfl, Prod.mk.inj (Option.some.inj h), by rw [ht]; exact hP, va_K.moved hW.alike hK, hD⟩, hS.F ht⟩) hS.2.2 d_M_argument_61
      · have h := of_neg h c_30
        exact J_33 z0 z1 h _ _ hP hD hS ls (lv_sub hl [0, 1] rfl)
  have J_10 : ∀ (z0 : Int32) (z1 : Int32), m_M_argument_10 z0 z1 = some (r0, u0) → ∀ (H : Heap) (locs : List Loc), va_P (dC, dI) classes [] H → va_D A [] → va_S A s.heap H locs → ∀ (ls : Array Slot), lv_has ls 2 [(0, .int z0), (1, .int z1)] → W p l e (headSpec w_M_argument ({ frames := 1, cells := 0, slots := 0, locals := 20 } : Room)).room s m ([.int x0, .int x1] : List Value).toArray below meth c H locs 0 0 Q (F0 m 10 ls []) := by
    intro z0 z1 h H locs hP hD hS ls hl
    unfold m_M_argument_10 at h
    refine lv_iload_n hx hb d_M_argument_10 rfl (lv_at hl 0 rfl) ?_
    refine lv_iconst (v := (nI 1)) hx hb d_M_argument_11 (by decide) ?_
    refine lv_icmp_ne (tgt := 22) hx hb d_M_argument_12 (by decide) (fun c_12 => ?_) (fun c_12 => ?_)
    · have h := of_neg h c_12
      exact J_22 z0 z1 h _ _ hP hD hS ls (lv_sub hl [0, 1] rfl)
    · have h := of_pos h c_12
      refine lv_iload_n hx hb d_M_argument_15 rfl (lv_at hl 1 rfl) ?_
      have hPc := hP.sub (ws' := []) [] rfl
      have hDc := hD.sub (ws' := []) [] (by decide) rfl
      have hKc := hK.sub (tys' := []) [] rfl
      have hFc := va_free (wc := []) hD hS hA [] rfl
      obtain ⟨v_16, hc_16, h⟩ := of_bind h
      refine va_calli (va_runS (As := [.int z1]) (rest := []) ⟨hx, hb, hml, hown, hts⟩ (c_M_isConstant l dC dI H.size z1 v_16.1 v_16.2 hc_16) (va_cwS 1 hts (gS mlk_M_45 sta_M_isConstant ini_M cod_M_isConstant) rfl rfl rfl (by decide +kernel) ⟨Nat.le_of_ble_eq_true rfl, Nat.le_of_ble_eq_true rfl⟩) ⟨fun a U g mk q => by obtain ⟨q0, q1, qP, qK, qD⟩ := q; exact ⟨q0, q1, qP, va_K.moved (u := U) (U := U.calling g mk a) (Vm.Alike.refl U.vm) qK, qD⟩, fun U hU hW => ⟨rfl, by rw [hU], by rw [hU]; exact hPc, va_K.moved hW.alike hKc, hDc.weaken (fun _ _ _ _ => trivial)⟩⟩ rfl rfl hl.1 rfl (lv_room (Nat.le_of_ble_eq_true rfl)) d_M_argument_16 ⟨Nat.le_of_ble_eq_true rfl, Nat.le_of_ble_eq_true rfl⟩) hS (fun q _ h9 => hFc q h9) hFc (fun r_16 u t H1 locs ht hvm hw hB hz1 hk1 hS => ?_)
      obtain ⟨rfl, rfl⟩ := hw
      obtain ⟨hP1, hK1, hD1⟩ := hB
      rw [ht] at hP1
      obtain ⟨hP, hD⟩ := va_join (wr := []) (w1 := []) hP hD [] [] rfl rfl (by decide) (by decide) hk1 hFc hP1 hD1
      have hP := hP.sub (ws' := []) [] rfl
      have hD := hD.sub (ws' := []) [] (by decide) rfl
      generalize H1 = H at hP hS ⊢
      refine lv_if_ne (tgt := 56) hx hb d_M_argument_19 (by decide) (fun c_19 => ?_) (fun c_19 => ?_)
      · have h := of_neg h c_19
        refine lv_iconst (v := (nI 1)) hx hb d_M_argument_56 (by decide) ?_
        refine lv_goto (tgt := 61) hx hb d_M_argument_57 (by decide) ?_
        rw [hQ]
        exact W.zret (v := (nI 1)) hx hb hr rfl (fun t ht hW => ⟨⟨(nI 1), (), rfl, Prod.mk.inj (Option.some.inj h), by rw [ht]; exact hP, va_K.moved hW.alike hK, hD⟩, hS.F ht⟩) hS.2.2 d_M_argument_61
      · have h := of_pos h c_19
        exact J_22 z0 z1 h _ _ hP hD hS ls (lv_sub hl [0, 1] rfl)
  unfold m_M_argument at h
  refine lv_iload_n hx hb d_M_argument_0 rfl (lv_at hl 0 rfl) ?_
  refine lv_if_ne (tgt := 10) hx hb d_M_argument_1 (by decide) (fun c_1 => ?_) (fun c_1 => ?_)
  · have h := of_neg h c_1
    exact J_10 x0 x1 h _ _ hP hD hS ls (lv_sub hl [0, 1] rfl)
  · have h := of_pos h c_1
    refine lv_iload_n hx hb d_M_argument_4 rfl (lv_at hl 1 rfl) ?_
    refine lv_bipush (v := (nI 40)) hx hb d_M_argument_5 (by decide) ?_
    refine lv_icmp_eq (tgt := 56) hx hb d_M_argument_7 (by decide) (fun c_7 => ?_) (fun c_7 => ?_)
    · have h := of_pos h c_7
      refine lv_iconst (v := (nI 1)) hx hb d_M_argument_56 (by decide) ?_
      refine lv_goto (tgt := 61) hx hb d_M_argument_57 (by decide) ?_
      rw [hQ]
      exact W.zret (v := (nI 1)) hx hb hr rfl (fun t ht hW => ⟨⟨(nI 1), (), rfl, Prod.mk.inj (Option.some.inj h), by rw [ht]; exact hP, va_K.moved hW.alike hK, hD⟩, hS.F ht⟩) hS.2.2 d_M_argument_61
    · have h := of_neg h c_7
      exact J_10 x0 x1 h _ _ hP hD hS ls (lv_sub hl [0, 1] rfl)
set_option maxHeartbeats 1000000 in
set_option maxRecDepth 100000 in
theorem c_M_inBody (l : Launch) (dC : Nat → ClassId) (dI : Nat → Nat → Nat) (sz : Nat)  (x0 : Int32) (x1 : Int32) (r0 : Int32) (u0 : Unit) (h : m_M_inBody x0 x1 = some (r0, u0)) : Met l y_M_inBody w_M_inBody ({ frames := 1, cells := 0, slots := 0, locals := 20 } : Room) (va_Pc [.int x0, .int x1] (fun U => U.heap.size = sz ∧ va_P (dC, dI) classes [] U.heap ∧ va_K (dC, dI) classes [] U ∧ va_D (fun _ => True) [])) (va_Qi (fun (r : Int32) (u : Unit) => r = r0 ∧ u = u0) (fun (u : Unit) (t : State) => va_P (dC, dI) classes [] t.heap ∧ va_K (dC, dI) classes [] t ∧ va_D (va_A [] sz) []) (va_A [] sz)) 0 0 (va_A [] sz) := by
  refine Met.ofW (cc := b_M_inBody) (maxL := 3) (ret := (some .boolean)) (by decide) rfl ?_
  intro p e s m args below meth c s₁ B hml hv
  obtain ⟨rfl, hsz, hP, hK, hD0⟩ := hv
  have hx := B.exec
  have hb := B.bytes
  have hr := B.returns
  have hts0 := atoms_spec (ws := w_M_inBody) B.pre
  have hts : ∀ w ∈ lw_gd, w.before ([.int x0, .int x1] : List Value).toArray s = true := fun w h9 => hts0 w (List.mem_cons_of_mem _ h9)
  have hown : s.vm.findClass R_M = some m.cls := findClass_of_methodNamed B.named
  have hlocks := B.notSynchronized
  subst hsz
  have hD := hD0.self (sz := s.heap.size)
  generalize hAe : va_A [] s.heap.size = A at hD ⊢
  have hA : ∀ q : Nat, s.heap.size ≤ q → A q := fun q h9 => by rw [← hAe]; exact Or.inr h9
  obtain ⟨H, eH⟩ : ∃ H : Heap, H = s.heap := ⟨_, rfl⟩
  have hS : va_S A s.heap H [] := by rw [eH]; exact va_S.rf
  have hP : va_P (dC, dI) classes [] H := by rw [eH]; exact hP
  refine W_gen (fun Q hQ => ?_)
  refine W_heap eH ?_
  clear eH
  have hl := lv_entry ([.int x0, .int x1]) (n := 3) (Nat.le_of_ble_eq_true rfl)
  rw [lg_entry_eq]
  generalize (lg_sl ([.int x0, .int x1]) ++ List.replicate (3 - (lg_sl ([.int x0, .int x1])).length) Slot.unset).toArray = ls at hl ⊢
  have hl : lv_has ls 3 [(0, .int x0), (1, .int x1)] := hl
  have J_69 : ∀ (z1 : Int32) (z2 : Int32), m_M_inBody_69 z1 z2 = some (r0, u0) → ∀ (H : Heap) (locs : List Loc), va_P (dC, dI) classes [] H → va_D A [] → va_S A s.heap H locs → ∀ (ls : Array Slot), lv_has ls 3 [(1, .int z1), (2, .int z2)] → W p l e (headSpec w_M_inBody ({ frames := 1, cells := 0, slots := 0, locals := 20 } : Room)).room s m ([.int x0, .int x1] : List Value).toArray below meth c H locs 0 0 Q (F0 m 69 ls []) := by
    intro z1 z2 h H locs hP hD hS ls hl
    unfold m_M_inBody_69 at h
    refine lv_iload_n hx hb d_M_inBody_69 rfl (lv_at hl 1 rfl) ?_
    refine lv_iconst (v := (nI 5)) hx hb d_M_inBody_70 (by decide) ?_
    refine lv_icmp_ne (tgt := 84) hx hb d_M_inBody_71 (by decide) (fun c_71 => ?_) (fun c_71 => ?_)
    · have h := of_neg h c_71
      refine lv_iconst (v := (nI 0)) hx hb d_M_inBody_84 (by decide) ?_
      rw [hQ]
      exact W.zret (v := (nI 0)) hx hb hr rfl (fun t ht hW => ⟨⟨(nI 0), (), rfl, Prod.mk.inj (Option.some.inj h), by rw [ht]; exact hP, va_K.moved hW.alike hK, hD⟩, hS.F ht⟩) hS.2.2 d_M_inBody_85
    · have h := of_pos h c_71
      refine lv_iload_n hx hb d_M_inBody_74 rfl (lv_at hl 0 rfl) ?_
      refine lv_bipush (v := (nI 41)) hx hb d_M_inBody_75 (by decide) ?_
      refine lv_icmp_ne (tgt := 84) hx hb d_M_inBody_77 (by decide) (fun c_77 => ?_) (fun c_77 => ?_)
      · have h := of_neg h c_77
        refine lv_iconst (v := (nI 0)) hx hb d_M_inBody_84 (by decide) ?_
        rw [hQ]
        exact W.zret (v := (nI 0)) hx hb hr rfl (fun t ht hW => ⟨⟨(nI 0), (), rfl, Prod.mk.inj (Option.some.inj h), by rw [ht]; exact hP, va_K.moved hW.alike hK, hD⟩, hS.F ht⟩) hS.2.2 d_M_inBody_85
      · have h := of_pos h c_77
        refine lv_iconst (v := (nI 1)) hx hb d_M_inBody_80 (by decide) ?_
        refine lv_goto (tgt := 85) hx hb d_M_inBody_81 (by decide) ?_
        rw [hQ]
        exact W.zret (v := (nI 1)) hx hb hr rfl (fun t ht hW => ⟨⟨(nI 1), (), rfl, Prod.mk.inj (Option.some.inj h), by rw [ht]; exact hP, va_K.moved hW.alike hK, hD⟩, hS.F ht⟩) hS.2.2 d_M_inBody_85
  have J_63 : ∀ (z1 : Int32) (z2 : Int32), m_M_inBody_63 z1 z2 = some (r0, u0) → ∀ (H : Heap) (locs : List Loc), va_P (dC, dI) classes [] H → va_D A [] → va_S A s.heap H locs → ∀ (ls : Array Slot), lv_has ls 3 [(1, .int z1), (2, .int z2)] → W p l e (headSpec w_M_inBody ({ frames := 1, cells := 0, slots := 0, locals := 20 } : Room)).room s m ([.int x0, .int x1] : List Value).toArray below meth c H locs 0 0 Q (F0 m 63 ls []) := by
    intro z1 z2 h H locs hP hD hS ls hl
    unfold m_M_inBody_63 at h
    refine lv_iload_n hx hb d_M_inBody_63 rfl (lv_at hl 0 rfl) ?_
    refine lv_bipush (v := (nI 44)) hx hb d_M_inBody_64 (by decide) ?_
    refine lv_icmp_eq (tgt := 80) hx hb d_M_inBody_66 (by decide) (fun c_66 => ?_) (fun c_66 => ?_)
    · have h := of_pos h c_66
      refine lv_iconst (v := (nI 1)) hx hb d_M_inBody_80 (by decide) ?_
      refine lv_goto (tgt := 85) hx hb d_M_inBody_81 (by decide) ?_
      rw [hQ]
      exact W.zret (v := (nI 1)) hx hb hr rfl (fun t ht hW => ⟨⟨(nI 1), (), rfl, Prod.mk.inj (Option.some.inj h), by rw [ht]; exact hP, va_K.moved hW.alike hK, hD⟩, hS.F ht⟩) hS.2.2 d_M_inBody_85
    · have h := of_neg h c_66
      exact J_69 z1 z2 h _ _ hP hD hS ls (lv_sub hl [0, 1] rfl)
  have J_52 : ∀ (z1 : Int32) (z2 : Int32), m_M_inBody_52 z1 z2 = some (r0, u0) → ∀ (H : Heap) (locs : List Loc), va_P (dC, dI) classes [] H → va_D A [] → va_S A s.heap H locs → ∀ (ls : Array Slot), lv_has ls 3 [(1, .int z1), (2, .int z2)] → W p l e (headSpec w_M_inBody ({ frames := 1, cells := 0, slots := 0, locals := 20 } : Room)).room s m ([.int x0, .int x1] : List Value).toArray below meth c H locs 0 0 Q (F0 m 52 ls []) := by
    intro z1 z2 h H locs hP hD hS ls hl
    unfold m_M_inBody_52 at h
    refine lv_iload_n hx hb d_M_inBody_52 rfl (lv_at hl 1 rfl) ?_
    refine lv_iconst (v := (nI 3)) hx hb d_M_inBody_53 (by decide) ?_
    refine lv_icmp_eq (tgt := 63) hx hb d_M_inBody_54 (by decide) (fun c_54 => ?_) (fun c_54 => ?_)
    · have h := of_pos h c_54
      exact J_63 z1 z2 h _ _ hP hD hS ls (lv_sub hl [0, 1] rfl)
    · have h := of_neg h c_54
      refine lv_iload_n hx hb d_M_inBody_57 rfl (lv_at hl 1 rfl) ?_
      refine lv_bipush (v := (nI 6)) hx hb d_M_inBody_58 (by decide) ?_
      refine lv_icmp_ne (tgt := 69) hx hb d_M_inBody_60 (by decide) (fun c_60 => ?_) (fun c_60 => ?_)
      · have h := of_neg h c_60
        exact J_69 z1 z2 h _ _ hP hD hS ls (lv_sub hl [0, 1] rfl)
      · have h := of_pos h c_60
        exact J_63 z1 z2 h _ _ hP hD hS ls (lv_sub hl [0, 1] rfl)
  have J_45 : ∀ (z1 : Int32) (z2 : Int32), m_M_inBody_45 z1 z2 = some (r0, u0) → ∀ (H : Heap) (locs : List Loc), va_P (dC, dI) classes [] H → va_D A [] → va_S A s.heap H locs → ∀ (ls : Array Slot), lv_has ls 3 [(1, .int z1), (2, .int z2)] → W p l e (headSpec w_M_inBody ({ frames := 1, cells := 0, slots := 0, locals := 20 } : Room)).room s m ([.int x0, .int x1] : List Value).toArray below meth c H locs 0 0 Q (F0 m 45 ls []) := by
    intro z1 z2 h H locs hP hD hS ls hl
    unfold m_M_inBody_45 at h
    refine lv_iload_n hx hb d_M_inBody_45 rfl (lv_at hl 0 rfl) ?_
    have hPc := hP.sub (ws' := []) [] rfl
    have hDc := hD.sub (ws' := []) [] (by decide) rfl
    have hKc := hK.sub (tys' := []) [] rfl
    have hFc := va_free (wc := []) hD hS hA [] rfl
    obtain ⟨v_46, hc_46, h⟩ := of_bind h
    refine va_calli (va_runS (As := [.int z1]) (rest := []) ⟨hx, hb, hml, hown, hts⟩ (c_M_isVariable l dC dI H.size z1 v_46.1 v_46.2 hc_46) (va_cwS 1 hts (gS mlk_M_52 sta_M_isVariable ini_M cod_M_isVariable) rfl rfl rfl (by decide +kernel) ⟨Nat.le_of_ble_eq_true rfl, Nat.le_of_ble_eq_true rfl⟩) ⟨fun a U g mk q => by obtain ⟨q0, q1, qP, qK, qD⟩ := q; exact ⟨q0, q1, qP, va_K.moved (u := U) (U := U.calling g mk a) (Vm.Alike.refl U.vm) qK, qD⟩, fun U hU hW => ⟨rfl, by rw [hU], by rw [hU]; exact hPc, va_K.moved hW.alike hKc, hDc.weaken (fun _ _ _ _ => trivial)⟩⟩ rfl rfl hl.1 rfl (lv_room (Nat.le_of_ble_eq_true rfl)) d_M_inBody_46 ⟨Nat.le_of_ble_eq_true rfl, Nat.le_of_ble_eq_true rfl⟩) hS (fun q _ h9 => hFc q h9) hFc (fun r_46 u t H1 locs ht hvm hw hB hz1 hk1 hS => ?_)
    obtain ⟨rfl, rfl⟩ := hw
    obtain ⟨hP1, hK1, hD1⟩ := hB
    rw [ht] at hP1
    obtain ⟨hP, hD⟩ := va_join (wr := []) (w1 := []) hP hD [] [] rfl rfl (by decide) (by decide) hk1 hFc hP1 hD1
    have hP := hP.sub (ws' := []) [] rfl
    have hD := hD.sub (ws' := []) [] (by decide) rfl
    generalize H1 = H at hP hS ⊢
    refine lv_if_ne (tgt := 80) hx hb d_M_inBody_49 (by decide) (fun c_49 => ?_) (fun c_49 => ?_)
    · have h := of_neg h c_49
      refine lv_iconst (v := (nI 1)) hx hb d_M_inBody_80 (by decide) ?_
      refine lv_goto (tgt := 85) hx hb d_M_inBody_81 (by decide) ?_
      rw [hQ]
      exact W.zret (v := (nI 1)) hx hb hr rfl (fun t ht hW => ⟨⟨(nI 1), (), rfl, Prod.mk.inj (Option.some.inj h), by rw [ht]; exact hP, va_K.moved hW.alike hK, hD⟩, hS.F ht⟩) hS.2.2 d_M_inBody_85
    · have h := of_pos h c_49
      exact J_52 z1 z2 h _ _ hP hD hS ls (lv_sub hl [0, 1] rfl)
  have J_35 : ∀ (z1 : Int32) (z2 : Int32), m_M_inBody_35 z1 z2 = some (r0, u0) → ∀ (H : Heap) (locs : List Loc), va_P (dC, dI) classes [] H → va_D A [] → va_S A s.heap H locs → ∀ (ls : Array Slot), lv_has ls 3 [(1, .int z1), (2, .int z2)] → W p l e (headSpec w_M_inBody ({ frames := 1, cells := 0, slots := 0, locals := 20 } : Room)).room s m ([.int x0, .int x1] : List Value).toArray below meth c H locs 0 0 Q (F0 m 35 ls []) := by
    intro z1 z2 h H locs hP hD hS ls hl
    unfold m_M_inBody_35 at h
    refine lv_iload_n hx hb d_M_inBody_35 rfl (lv_at hl 1 rfl) ?_
    refine lv_iconst (v := (nI 2)) hx hb d_M_inBody_36 (by decide) ?_
    refine lv_icmp_eq (tgt := 45) hx hb d_M_inBody_37 (by decide) (fun c_37 => ?_) (fun c_37 => ?_)
    · have h := of_pos h c_37
      exact J_45 z1 z2 h _ _ hP hD hS ls (lv_sub hl [0, 1] rfl)
    · have h := of_neg h c_37
      refine lv_iload_n hx hb d_M_inBody_40 rfl (lv_at hl 1 rfl) ?_
      refine lv_iconst (v := (nI 4)) hx hb d_M_inBody_41 (by decide) ?_
      refine lv_icmp_ne (tgt := 52) hx hb d_M_inBody_42 (by decide) (fun c_42 => ?_) (fun c_42 => ?_)
      · have h := of_neg h c_42
        exact J_52 z1 z2 h _ _ hP hD hS ls (lv_sub hl [0, 1] rfl)
      · have h := of_pos h c_42
        exact J_45 z1 z2 h _ _ hP hD hS ls (lv_sub hl [0, 1] rfl)
  have J_24 : ∀ (z1 : Int32) (z2 : Int32), m_M_inBody_24 z1 z2 = some (r0, u0) → ∀ (H : Heap) (locs : List Loc), va_P (dC, dI) classes [] H → va_D A [] → va_S A s.heap H locs → ∀ (ls : Array Slot), lv_has ls 3 [(1, .int z1), (2, .int z2)] → W p l e (headSpec w_M_inBody ({ frames := 1, cells := 0, slots := 0, locals := 20 } : Room)).room s m ([.int x0, .int x1] : List Value).toArray below meth c H locs 0 0 Q (F0 m 24 ls []) := by
    intro z1 z2 h H locs hP hD hS ls hl
    unfold m_M_inBody_24 at h
    refine lv_iload_n hx hb d_M_inBody_24 rfl (lv_at hl 1 rfl) ?_
    refine lv_iconst (v := (nI 1)) hx hb d_M_inBody_25 (by decide) ?_
    refine lv_icmp_ne (tgt := 35) hx hb d_M_inBody_26 (by decide) (fun c_26 => ?_) (fun c_26 => ?_)
    · have h := of_neg h c_26
      exact J_35 z1 z2 h _ _ hP hD hS ls (lv_sub hl [0, 1] rfl)
    · have h := of_pos h c_26
      refine lv_iload_n hx hb d_M_inBody_29 rfl (lv_at hl 0 rfl) ?_
      refine lv_bipush (v := (nI 40)) hx hb d_M_inBody_30 (by decide) ?_
      refine lv_icmp_eq (tgt := 80) hx hb d_M_inBody_32 (by decide) (fun c_32 => ?_) (fun c_32 => ?_)
      · have h := of_pos h c_32
        refine lv_iconst (v := (nI 1)) hx hb d_M_inBody_80 (by decide) ?_
        refine lv_goto (tgt := 85) hx hb d_M_inBody_81 (by decide) ?_
        rw [hQ]
        exact W.zret (v := (nI 1)) hx hb hr rfl (fun t ht hW => ⟨⟨(nI 1), (), rfl, Prod.mk.inj (Option.some.inj h), by rw [ht]; exact hP, va_K.moved hW.alike hK, hD⟩, hS.F ht⟩) hS.2.2 d_M_inBody_85
      · have h := of_neg h c_32
        exact J_35 z1 z2 h _ _ hP hD hS ls (lv_sub hl [0, 1] rfl)
  unfold m_M_inBody at h
  refine lv_iload_n hx hb d_M_inBody_0 rfl (lv_at hl 0 rfl) ?_
  refine lv_bipush (v := (nI 7)) hx hb d_M_inBody_1 (by decide) ?_
  refine lv_irem hx hb d_M_inBody_3 (by decide) ?_
  refine lv_istore_n (lv' := [(2, .int (irm x0 (nI 7))), (0, .int x0), (1, .int x1)]) hx hb d_M_inBody_4 rfl hl (by decide) rfl (fun ls hl => ?_)
  refine lv_iload_n hx hb d_M_inBody_5 rfl (lv_at hl 1 rfl) ?_
  refine lv_bipush (v := (nI 20)) hx hb d_M_inBody_6 (by decide) ?_
  refine lv_icmp_lt (tgt := 13) hx hb d_M_inBody_8 (by decide) (fun c_8 => ?_) (fun c_8 => ?_)
  · have h := of_pos h c_8
    refine lv_iload_n hx hb d_M_inBody_13 rfl (lv_at hl 0 rfl) ?_
    refine lv_if_ne (tgt := 24) hx hb d_M_inBody_14 (by decide) (fun c_14 => ?_) (fun c_14 => ?_)
    · have h := of_neg h c_14
      exact J_24 x1 (irm x0 (nI 7)) h _ _ hP hD hS ls (lv_sub hl [2, 0] rfl)
    · have h := of_pos h c_14
      refine lv_iload_n hx hb d_M_inBody_17 rfl (lv_at hl 2 rfl) ?_
      have hPc := hP.sub (ws' := []) [] rfl
      have hDc := hD.sub (ws' := []) [] (by decide) rfl
      have hKc := hK.sub (tys' := []) [] rfl
      have hFc := va_free (wc := []) hD hS hA [] rfl
      obtain ⟨v_18, hc_18, h⟩ := of_bind h
      refine va_calli (va_runS (As := [.int x1]) (rest := []) ⟨hx, hb, hml, hown, hts⟩ (c_M_isRelation l dC dI H.size x1 v_18.1 v_18.2 hc_18) (va_cwS 1 hts (gS mlk_M_49 sta_M_isRelation ini_M cod_M_isRelation) rfl rfl rfl (by decide +kernel) ⟨Nat.le_of_ble_eq_true rfl, Nat.le_of_ble_eq_true rfl⟩) ⟨fun a U g mk q => by obtain ⟨q0, q1, qP, qK, qD⟩ := q; exact ⟨q0, q1, qP, va_K.moved (u := U) (U := U.calling g mk a) (Vm.Alike.refl U.vm) qK, qD⟩, fun U hU hW => ⟨rfl, by rw [hU], by rw [hU]; exact hPc, va_K.moved hW.alike hKc, hDc.weaken (fun _ _ _ _ => trivial)⟩⟩ rfl rfl hl.1 rfl (lv_room (Nat.le_of_ble_eq_true rfl)) d_M_inBody_18 ⟨Nat.le_of_ble_eq_true rfl, Nat.le_of_ble_eq_true rfl⟩) hS (fun q _ h9 => hFc q h9) hFc (fun r_18 u t H1 locs ht hvm hw hB hz1 hk1 hS => ?_)
      obtain ⟨rfl, rfl⟩ := hw
      obtain ⟨hP1, hK1, hD1⟩ := hB
      rw [ht] at hP1
      obtain ⟨hP, hD⟩ := va_join (wr := []) (w1 := []) hP hD [] [] rfl rfl (by decide) (by decide) hk1 hFc hP1 hD1
      have hP := hP.sub (ws' := []) [] rfl
      have hD := hD.sub (ws' := []) [] (by decide) rfl
      generalize H1 = H at hP hS ⊢
      refine lv_if_ne (tgt := 80) hx hb d_M_inBody_21 (by decide) (fun c_21 => ?_) (fun c_21 => ?_)
      · have h := of_neg h c_21
        refine lv_iconst (v := (nI 1)) hx hb d_M_inBody_80 (by decide) ?_
        refine lv_goto (tgt := 85) hx hb d_M_inBody_81 (by decide) ?_
        rw [hQ]
        exact W.zret (v := (nI 1)) hx hb hr rfl (fun t ht hW => ⟨⟨(nI 1), (), rfl, Prod.mk.inj (Option.some.inj h), by rw [ht]; exact hP, va_K.moved hW.alike hK, hD⟩, hS.F ht⟩) hS.2.2 d_M_inBody_85
      · have h := of_pos h c_21
        exact J_24 x1 (irm x0 (nI 7)) h _ _ hP hD hS ls (lv_sub hl [2, 0] rfl)
  · have h := of_neg h c_8
    refine lv_iconst (v := (nI 0)) hx hb d_M_inBody_11 (by decide) ?_
    rw [hQ]
    exact W.zret (v := (nI 0)) hx hb hr rfl (fun t ht hW => ⟨⟨(nI 0), (), rfl, Prod.mk.inj (Option.some.inj h), by rw [ht]; exact hP, va_K.moved hW.alike hK, hD⟩, hS.F ht⟩) hS.2.2 d_M_inBody_12
set_option maxHeartbeats 1000000 in
set_option maxRecDepth 100000 in
theorem c_M_goesOn (l : Launch) (dC : Nat → ClassId) (dI : Nat → Nat → Nat) (h_o h_line h_fact h_marked h_many h_codes h_oldMany h_oldCodes h_body h_roundOf h_fresh : Nat) (k_line : ClassId) (sz : Nat) (v_typed : Int32) (v_count : Int32) (v_oldCount : Int32) (v_read : Int32) (v_last : Int32) (v_line : Nat → Int32) (x1 : Int32) (r0 : Int32) (u0 : Unit) (h : m_M_goesOn v_line x1 = some (r0, u0)) : Met l y_M_goesOn w_M_goesOn ({ frames := 2, cells := 0, slots := 0, locals := 42 } : Room) (va_Pc [.ref h_o, .int x1] (fun U => U.heap.size = sz ∧ va_P (dC, dI) classes [(h_o, .inr (4, [.ref h_line, .int v_typed, .ref h_fact, .ref h_marked, .int v_count, .ref h_many, .ref h_codes, .int v_oldCount, .ref h_oldMany, .ref h_oldCodes, .int v_read, .ref h_body, .ref h_roundOf, .ref h_fresh, .int v_last])), (h_line, .inl (k_line, 32, .inl v_line))] U.heap ∧ va_K (dC, dI) classes [(k_line, .int)] U ∧ va_D (fun _ => True) [(h_o, .inr (4, [.ref h_line, .int v_typed, .ref h_fact, .ref h_marked, .int v_count, .ref h_many, .ref h_codes, .int v_oldCount, .ref h_oldMany, .ref h_oldCodes, .int v_read, .ref h_body, .ref h_roundOf, .ref h_fresh, .int v_last])), (h_line, .inl (k_line, 32, .inl v_line))])) (va_Qi (fun (r : Int32) (u : Unit) => r = r0 ∧ u = u0) (fun (u : Unit) (t : State) => va_P (dC, dI) classes [(h_o, .inr (4, [.ref h_line, .int v_typed, .ref h_fact, .ref h_marked, .int v_count, .ref h_many, .ref h_codes, .int v_oldCount, .ref h_oldMany, .ref h_oldCodes, .int v_read, .ref h_body, .ref h_roundOf, .ref h_fresh, .int v_last])), (h_line, .inl (k_line, 32, .inl v_line))] t.heap ∧ va_K (dC, dI) classes [(k_line, .int)] t ∧ va_D (va_A [(h_o, .inr (4, [.ref h_line, .int v_typed, .ref h_fact, .ref h_marked, .int v_count, .ref h_many, .ref h_codes, .int v_oldCount, .ref h_oldMany, .ref h_oldCodes, .int v_read, .ref h_body, .ref h_roundOf, .ref h_fresh, .int v_last])), (h_line, .inl (k_line, 32, .inl v_line))] sz) [(h_o, .inr (4, [.ref h_line, .int v_typed, .ref h_fact, .ref h_marked, .int v_count, .ref h_many, .ref h_codes, .int v_oldCount, .ref h_oldMany, .ref h_oldCodes, .int v_read, .ref h_body, .ref h_roundOf, .ref h_fresh, .int v_last])), (h_line, .inl (k_line, 32, .inl v_line))]) (va_A [(h_o, .inr (4, [.ref h_line, .int v_typed, .ref h_fact, .ref h_marked, .int v_count, .ref h_many, .ref h_codes, .int v_oldCount, .ref h_oldMany, .ref h_oldCodes, .int v_read, .ref h_body, .ref h_roundOf, .ref h_fresh, .int v_last])), (h_line, .inl (k_line, 32, .inl v_line))] sz)) 0 0 (va_A [(h_o, .inr (4, [.ref h_line, .int v_typed, .ref h_fact, .ref h_marked, .int v_count, .ref h_many, .ref h_codes, .int v_oldCount, .ref h_oldMany, .ref h_oldCodes, .int v_read, .ref h_body, .ref h_roundOf, .ref h_fresh, .int v_last])), (h_line, .inl (k_line, 32, .inl v_line))] sz) := by
  refine Met.ofW (cc := b_M_goesOn) (maxL := 4) (ret := (some .boolean)) (by decide) rfl ?_
  intro p e s m args below meth c s₁ B hml hv
  obtain ⟨rfl, hsz, hP, hK, hD0⟩ := hv
  have hx := B.exec
  have hb := B.bytes
  have hr := B.returns
  have hts0 := atoms_spec (ws := w_M_goesOn) B.pre
  have hts : ∀ w ∈ lw_gd, w.before ([.ref h_o, .int x1] : List Value).toArray s = true := fun w h9 => hts0 w (List.mem_cons_of_mem _ h9)
  have hown : s.vm.findClass R_M = some m.cls := findClass_of_methodNamed B.named
  have hlocks := B.notSynchronized
  subst hsz
  have hD := hD0.self (sz := s.heap.size)
  generalize hAe : va_A [(h_o, .inr (4, [.ref h_line, .int v_typed, .ref h_fact, .ref h_marked, .int v_count, .ref h_many, .ref h_codes, .int v_oldCount, .ref h_oldMany, .ref h_oldCodes, .int v_read, .ref h_body, .ref h_roundOf, .ref h_fresh, .int v_last])), (h_line, .inl (k_line, 32, .inl v_line))] s.heap.size = A at hD ⊢
  have hA : ∀ q : Nat, s.heap.size ≤ q → A q := fun q h9 => by rw [← hAe]; exact Or.inr h9
  obtain ⟨H, eH⟩ : ∃ H : Heap, H = s.heap := ⟨_, rfl⟩
  have hS : va_S A s.heap H [] := by rw [eH]; exact va_S.rf
  have hP : va_P (dC, dI) classes [(h_o, .inr (4, [.ref h_line, .int v_typed, .ref h_fact, .ref h_marked, .int v_count, .ref h_many, .ref h_codes, .int v_oldCount, .ref h_oldMany, .ref h_oldCodes, .int v_read, .ref h_body, .ref h_roundOf, .ref h_fresh, .int v_last])), (h_line, .inl (k_line, 32, .inl v_line))] H := by rw [eH]; exact hP
  refine W_gen (fun Q hQ => ?_)
  refine W_heap eH ?_
  clear eH
  have hl := lv_entry ([.ref h_o, .int x1]) (n := 4) (Nat.le_of_ble_eq_true rfl)
  rw [lg_entry_eq]
  generalize (lg_sl ([.ref h_o, .int x1]) ++ List.replicate (4 - (lg_sl ([.ref h_o, .int x1])).length) Slot.unset).toArray = ls at hl ⊢
  have hl : lv_has ls 4 [(0, .ref h_o), (1, .int x1)] := hl
  have J_98 : ∀ (z1 : Int32) (z2 : Int32), m_M_goesOn_98 v_line z1 z2 = some (r0, u0) → ∀ (H : Heap) (locs : List Loc), va_P (dC, dI) classes [(h_o, .inr (4, [.ref h_line, .int v_typed, .ref h_fact, .ref h_marked, .int v_count, .ref h_many, .ref h_codes, .int v_oldCount, .ref h_oldMany, .ref h_oldCodes, .int v_read, .ref h_body, .ref h_roundOf, .ref h_fresh, .int v_last])), (h_line, .inl (k_line, 32, .inl v_line))] H → va_D A [(h_o, .inr (4, [.ref h_line, .int v_typed, .ref h_fact, .ref h_marked, .int v_count, .ref h_many, .ref h_codes, .int v_oldCount, .ref h_oldMany, .ref h_oldCodes, .int v_read, .ref h_body, .ref h_roundOf, .ref h_fresh, .int v_last])), (h_line, .inl (k_line, 32, .inl v_line))] → va_S A s.heap H locs → ∀ (ls : Array Slot), lv_has ls 4 [(1, .int z1), (2, .int z2)] → W p l e (headSpec w_M_goesOn ({ frames := 2, cells := 0, slots := 0, locals := 42 } : Room)).room s m ([.ref h_o, .int x1] : List Value).toArray below meth c H locs 0 0 Q (F0 m 98 ls []) := by
    intro z1 z2 h H locs hP hD hS ls hl
    unfold m_M_goesOn_98 at h
    refine lv_iload_n hx hb d_M_goesOn_98 rfl (lv_at hl 0 rfl) ?_
    refine lv_iconst (v := (nI 1)) hx hb d_M_goesOn_99 (by decide) ?_
    refine lv_isub hx hb d_M_goesOn_100 ?_
    refine lv_iload_n hx hb d_M_goesOn_101 rfl (lv_at hl 1 rfl) ?_
    have hPc := hP.sub (ws' := []) [] rfl
    have hDc := hD.sub (ws' := []) [] (by decide) rfl
    have hKc := hK.sub (tys' := []) [] rfl
    have hFc := va_free (wc := []) hD hS hA [] rfl
    obtain ⟨v_102, hc_102, h⟩ := of_bind h
    refine va_calli (va_runS (As := [.int (z1 - (nI 1)), .int z2]) (rest := []) ⟨hx, hb, hml, hown, hts⟩ (c_M_argument l dC dI H.size (z1 - (nI 1)) z2 v_102.1 v_102.2 hc_102) (va_cwS 2 hts (gS mlk_M_63 sta_M_argument ini_M cod_M_argument) rfl rfl rfl (by decide +kernel) ⟨Nat.le_of_ble_eq_true rfl, Nat.le_of_ble_eq_true rfl⟩) ⟨fun a U g mk q => by obtain ⟨q0, q1, qP, qK, qD⟩ := q; exact ⟨q0, q1, qP, va_K.moved (u := U) (U := U.calling g mk a) (Vm.Alike.refl U.vm) qK, qD⟩, fun U hU hW => ⟨rfl, by rw [hU], by rw [hU]; exact hPc, va_K.moved hW.alike hKc, hDc.weaken (fun _ _ _ _ => trivial)⟩⟩ rfl rfl hl.1 rfl (lv_room (Nat.le_of_ble_eq_true rfl)) d_M_goesOn_102 ⟨Nat.le_of_ble_eq_true rfl, Nat.le_of_ble_eq_true rfl⟩) hS (fun q _ h9 => hFc q h9) hFc (fun r_102 u t H1 locs ht hvm hw hB hz1 hk1 hS => ?_)
    obtain ⟨rfl, rfl⟩ := hw
    obtain ⟨hP1, hK1, hD1⟩ := hB
    rw [ht] at hP1
    obtain ⟨hP, hD⟩ := va_join (wr := [(h_o, .inr (4, [.ref h_line, .int v_typed, .ref h_fact, .ref h_marked, .int v_count, .ref h_many, .ref h_codes, .int v_oldCount, .ref h_oldMany, .ref h_oldCodes, .int v_read, .ref h_body, .ref h_roundOf, .ref h_fresh, .int v_last])), (h_line, .inl (k_line, 32, .inl v_line))]) (w1 := []) hP hD [] [0, 1] rfl rfl (by decide) (by decide) hk1 hFc hP1 hD1
    have hP := hP.sub (ws' := [(h_o, .inr (4, [.ref h_line, .int v_typed, .ref h_fact, .ref h_marked, .int v_count, .ref h_many, .ref h_codes, .int v_oldCount, .ref h_oldMany, .ref h_oldCodes, .int v_read, .ref h_body, .ref h_roundOf, .ref h_fresh, .int v_last])), (h_line, .inl (k_line, 32, .inl v_line))]) [0, 1] rfl
    have hD := hD.sub (ws' := [(h_o, .inr (4, [.ref h_line, .int v_typed, .ref h_fact, .ref h_marked, .int v_count, .ref h_many, .ref h_codes, .int v_oldCount, .ref h_oldMany, .ref h_oldCodes, .int v_read, .ref h_body, .ref h_roundOf, .ref h_fresh, .int v_last])), (h_line, .inl (k_line, 32, .inl v_line))]) [0, 1] (by decide) rfl
    generalize H1 = H at hP hS ⊢
    obtain ⟨g_105, h⟩ := of_guard h
    rw [hQ]
    exact W.zret (v := v_102.1) hx hb hr (nrz g_105) (fun t ht hW => ⟨⟨v_102.1, (), rfl, Prod.mk.inj (Option.some.inj h), by rw [ht]; exact hP, va_K.moved hW.alike hK, hD⟩, hS.F ht⟩) hS.2.2 d_M_goesOn_105
  unfold m_M_goesOn at h
  refine lv_aload_n hx hb d_M_goesOn_0 rfl (lv_at hl 0 rfl) ?_
  refine va_get (D := (dC, dI)) (ci := 4) (v := .ref h_line) (C := R_M) (T := F_M) (N := 15) hx hb hts lay_M hown hK hP 0 rfl rfl 0 (by decide) (hts _ flk_M_7) (fun _ h9 => h9) rfl d_M_goesOn_1 ?_
  refine lv_iload_n hx hb d_M_goesOn_4 rfl (lv_at hl 1 rfl) ?_
  obtain ⟨g_5, h⟩ := of_guard h
  refine va_iald hx hb hK hP 1 0 rfl rfl (inR_in g_5) d_M_goesOn_5 ?_
  refine lv_istore_n (lv' := [(2, .int (v_line x1.toNatClampNeg)), (0, .ref h_o), (1, .int x1)]) hx hb d_M_goesOn_6 rfl hl (by decide) rfl (fun ls hl => ?_)
  refine lv_aload_n hx hb d_M_goesOn_7 rfl (lv_at hl 1 rfl) ?_
  refine va_get (D := (dC, dI)) (ci := 4) (v := .ref h_line) (C := R_M) (T := F_M) (N := 15) hx hb hts lay_M hown hK hP 0 rfl rfl 0 (by decide) (hts _ flk_M_7) (fun _ h9 => h9) rfl d_M_goesOn_8 ?_
  refine lv_iconst (v := (nI 0)) hx hb d_M_goesOn_11 (by decide) ?_
  obtain ⟨g_12, h⟩ := of_guard h
  refine va_iald hx hb hK hP 1 0 rfl rfl (inR_in g_12) d_M_goesOn_12 ?_
  refine lv_istore_n (lv' := [(3, .int (v_line (nI 0).toNatClampNeg)), (2, .int (v_line x1.toNatClampNeg)), (0, .ref h_o), (1, .int x1)]) hx hb d_M_goesOn_13 rfl hl (by decide) rfl (fun ls hl => ?_)
  refine lv_iload_n hx hb d_M_goesOn_14 rfl (lv_at hl 3 rfl) ?_
  refine lv_if_ne (tgt := 49) hx hb d_M_goesOn_15 (by decide) (fun c_15 => ?_) (fun c_15 => ?_)
  · have h := of_neg h c_15
    refine lv_iload_n hx hb d_M_goesOn_49 rfl (lv_at hl 0 rfl) ?_
    refine lv_bipush (v := (nI 116)) hx hb d_M_goesOn_50 (by decide) ?_
    refine lv_icmp_ne (tgt := 86) hx hb d_M_goesOn_52 (by decide) (fun c_52 => ?_) (fun c_52 => ?_)
    · have h := of_neg h c_52
      refine lv_iload_n hx hb d_M_goesOn_86 rfl (lv_at hl 0 rfl) ?_
      refine lv_bipush (v := (nI 97)) hx hb d_M_goesOn_87 (by decide) ?_
      refine lv_icmp_eq (tgt := 98) hx hb d_M_goesOn_89 (by decide) (fun c_89 => ?_) (fun c_89 => ?_)
      · have h := of_pos h c_89
        exact J_98 x1 (v_line x1.toNatClampNeg) h _ _ hP hD hS ls (lv_sub hl [3, 1] rfl)
      · have h := of_neg h c_89
        refine lv_iload_n hx hb d_M_goesOn_92 rfl (lv_at hl 0 rfl) ?_
        refine lv_bipush (v := (nI 98)) hx hb d_M_goesOn_93 (by decide) ?_
        refine lv_icmp_ne (tgt := 106) hx hb d_M_goesOn_95 (by decide) (fun c_95 => ?_) (fun c_95 => ?_)
        · have h := of_neg h c_95
          refine lv_iload_n hx hb d_M_goesOn_106 rfl (lv_at hl 3 rfl) ?_
          refine lv_iconst (v := (nI 1)) hx hb d_M_goesOn_107 (by decide) ?_
          refine lv_icmp_ne (tgt := 138) hx hb d_M_goesOn_108 (by decide) (fun c_108 => ?_) (fun c_108 => ?_)
          · have h := of_neg h c_108
            refine lv_iload_n hx hb d_M_goesOn_138 rfl (lv_at hl 3 rfl) ?_
            refine lv_iconst (v := (nI 2)) hx hb d_M_goesOn_139 (by decide) ?_
            refine lv_isub hx hb d_M_goesOn_140 ?_
            refine lv_iload_n hx hb d_M_goesOn_141 rfl (lv_at hl 1 rfl) ?_
            have hPc := hP.sub (ws' := []) [] rfl
            have hDc := hD.sub (ws' := []) [] (by decide) rfl
            have hKc := hK.sub (tys' := []) [] rfl
            have hFc := va_free (wc := []) hD hS hA [] rfl
            obtain ⟨v_142, hc_142, h⟩ := of_bind h
            refine va_calli (va_runS (As := [.int (x1 - (nI 2)), .int (v_line x1.toNatClampNeg)]) (rest := []) ⟨hx, hb, hml, hown, hts⟩ (c_M_argument l dC dI H.size (x1 - (nI 2)) (v_line x1.toNatClampNeg) v_142.1 v_142.2 hc_142) (va_cwS 2 hts (gS mlk_M_63 sta_M_argument ini_M cod_M_argument) rfl rfl rfl (by decide +kernel) ⟨Nat.le_of_ble_eq_true rfl, Nat.le_of_ble_eq_true rfl⟩) ⟨fun a U g mk q => by obtain ⟨q0, q1, qP, qK, qD⟩ := q; exact ⟨q0, q1, qP, va_K.moved (u := U) (U := U.calling g mk a) (Vm.Alike.refl U.vm) qK, qD⟩, fun U hU hW => ⟨rfl, by rw [hU], by rw [hU]; exact hPc, va_K.moved hW.alike hKc, hDc.weaken (fun _ _ _ _ => trivial)⟩⟩ rfl rfl hl.1 rfl (lv_room (Nat.le_of_ble_eq_true rfl)) d_M_goesOn_142 ⟨Nat.le_of_ble_eq_true rfl, Nat.le_of_ble_eq_true rfl⟩) hS (fun q _ h9 => hFc q h9) hFc (fun r_142 u t H1 locs ht hvm hw hB hz1 hk1 hS => ?_)
            obtain ⟨rfl, rfl⟩ := hw
            obtain ⟨hP1, hK1, hD1⟩ := hB
            rw [ht] at hP1
            obtain ⟨hP, hD⟩ := va_join (wr := [(h_o, .inr (4, [.ref h_line, .int v_typed, .ref h_fact, .ref h_marked, .int v_count, .ref h_many, .ref h_codes, .int v_oldCount, .ref h_oldMany, .ref h_oldCodes, .int v_read, .ref h_body, .ref h_roundOf, .ref h_fresh, .int v_last])), (h_line, .inl (k_line, 32, .inl v_line))]) (w1 := []) hP hD [] [0, 1] rfl rfl (by decide) (by decide) hk1 hFc hP1 hD1
            have hP := hP.sub (ws' := [(h_o, .inr (4, [.ref h_line, .int v_typed, .ref h_fact, .ref h_marked, .int v_count, .ref h_many, .ref h_codes, .int v_oldCount, .ref h_oldMany, .ref h_oldCodes, .int v_read, .ref h_body, .ref h_roundOf, .ref h_fresh, .int v_last])), (h_line, .inl (k_line, 32, .inl v_line))]) [0, 1] rfl
            have hD := hD.sub (ws' := [(h_o, .inr (4, [.ref h_line, .int v_typed, .ref h_fact, .ref h_marked, .int v_count, .ref h_many, .ref h_codes, .int v_oldCount, .ref h_oldMany, .ref h_oldCodes, .int v_read, .ref h_body, .ref h_roundOf, .ref h_fresh, .int v_last])), (h_line, .inl (k_line, 32, .inl v_line))]) [0, 1] (by decide) rfl
            generalize H1 = H at hP hS ⊢
            obtain ⟨g_145, h⟩ := of_guard h
            rw [hQ]
            exact W.zret (v := v_142.1) hx hb hr (nrz g_145) (fun t ht hW => ⟨⟨v_142.1, (), rfl, Prod.mk.inj (Option.some.inj h), by rw [ht]; exact hP, va_K.moved hW.alike hK, hD⟩, hS.F ht⟩) hS.2.2 d_M_goesOn_145
          · have h := of_pos h c_108
            refine lv_iload_n hx hb d_M_goesOn_111 rfl (lv_at hl 1 rfl) ?_
            refine lv_bipush (v := (nI 116)) hx hb d_M_goesOn_112 (by decide) ?_
            refine lv_icmp_eq (tgt := 130) hx hb d_M_goesOn_114 (by decide) (fun c_114 => ?_) (fun c_114 => ?_)
            · have h := of_pos h c_114
              refine lv_iconst (v := (nI 1)) hx hb d_M_goesOn_130 (by decide) ?_
              refine lv_goto (tgt := 145) hx hb d_M_goesOn_131 (by decide) ?_
              rw [hQ]
              exact W.zret (v := (nI 1)) hx hb hr rfl (fun t ht hW => ⟨⟨(nI 1), (), rfl, Prod.mk.inj (Option.some.inj h), by rw [ht]; exact hP, va_K.moved hW.alike hK, hD⟩, hS.F ht⟩) hS.2.2 d_M_goesOn_145
            · have h := of_neg h c_114
              refine lv_iload_n hx hb d_M_goesOn_117 rfl (lv_at hl 0 rfl) ?_
              refine lv_bipush (v := (nI 126)) hx hb d_M_goesOn_118 (by decide) ?_
              refine lv_icmp_ne (tgt := 134) hx hb d_M_goesOn_120 (by decide) (fun c_120 => ?_) (fun c_120 => ?_)
              · have h := of_neg h c_120
                refine lv_iconst (v := (nI 0)) hx hb d_M_goesOn_134 (by decide) ?_
                refine lv_goto (tgt := 145) hx hb d_M_goesOn_135 (by decide) ?_
                rw [hQ]
                exact W.zret (v := (nI 0)) hx hb hr rfl (fun t ht hW => ⟨⟨(nI 0), (), rfl, Prod.mk.inj (Option.some.inj h), by rw [ht]; exact hP, va_K.moved hW.alike hK, hD⟩, hS.F ht⟩) hS.2.2 d_M_goesOn_145
              · have h := of_pos h c_120
                refine lv_iload_n hx hb d_M_goesOn_123 rfl (lv_at hl 1 rfl) ?_
                have hPc := hP.sub (ws' := []) [] rfl
                have hDc := hD.sub (ws' := []) [] (by decide) rfl
                have hKc := hK.sub (tys' := []) [] rfl
                have hFc := va_free (wc := []) hD hS hA [] rfl
                obtain ⟨v_124, hc_124, h⟩ := of_bind h
                refine va_calli (va_runS (As := [.int (v_line x1.toNatClampNeg)]) (rest := []) ⟨hx, hb, hml, hown, hts⟩ (c_M_isRelation l dC dI H.size (v_line x1.toNatClampNeg) v_124.1 v_124.2 hc_124) (va_cwS 1 hts (gS mlk_M_49 sta_M_isRelation ini_M cod_M_isRelation) rfl rfl rfl (by decide +kernel) ⟨Nat.le_of_ble_eq_true rfl, Nat.le_of_ble_eq_true rfl⟩) ⟨fun a U g mk q => by obtain ⟨q0, q1, qP, qK, qD⟩ := q; exact ⟨q0, q1, qP, va_K.moved (u := U) (U := U.calling g mk a) (Vm.Alike.refl U.vm) qK, qD⟩, fun U hU hW => ⟨rfl, by rw [hU], by rw [hU]; exact hPc, va_K.moved hW.alike hKc, hDc.weaken (fun _ _ _ _ => trivial)⟩⟩ rfl rfl hl.1 rfl (lv_room (Nat.le_of_ble_eq_true rfl)) d_M_goesOn_124 ⟨Nat.le_of_ble_eq_true rfl, Nat.le_of_ble_eq_true rfl⟩) hS (fun q _ h9 => hFc q h9) hFc (fun r_124 u t H1 locs ht hvm hw hB hz1 hk1 hS => ?_)
                obtain ⟨rfl, rfl⟩ := hw
                obtain ⟨hP1, hK1, hD1⟩ := hB
                rw [ht] at hP1
                obtain ⟨hP, hD⟩ := va_join (wr := [(h_o, .inr (4, [.ref h_line, .int v_typed, .ref h_fact, .ref h_marked, .int v_count, .ref h_many, .ref h_codes, .int v_oldCount, .ref h_oldMany, .ref h_oldCodes, .int v_read, .ref h_body, .ref h_roundOf, .ref h_fresh, .int v_last])), (h_line, .inl (k_line, 32, .inl v_line))]) (w1 := []) hP hD [] [0, 1] rfl rfl (by decide) (by decide) hk1 hFc hP1 hD1
                have hP := hP.sub (ws' := [(h_o, .inr (4, [.ref h_line, .int v_typed, .ref h_fact, .ref h_marked, .int v_count, .ref h_many, .ref h_codes, .int v_oldCount, .ref h_oldMany, .ref h_oldCodes, .int v_read, .ref h_body, .ref h_roundOf, .ref h_fresh, .int v_last])), (h_line, .inl (k_line, 32, .inl v_line))]) [0, 1] rfl
                have hD := hD.sub (ws' := [(h_o, .inr (4, [.ref h_line, .int v_typed, .ref h_fact, .ref h_marked, .int v_count, .ref h_many, .ref h_codes, .int v_oldCount, .ref h_oldMany, .ref h_oldCodes, .int v_read, .ref h_body, .ref h_roundOf, .ref h_fresh, .int v_last])), (h_line, .inl (k_line, 32, .inl v_line))]) [0, 1] (by decide) rfl
                generalize H1 = H at hP hS ⊢
                refine lv_if_eq (tgt := 134) hx hb d_M_goesOn_127 (by decide) (fun c_127 => ?_) (fun c_127 => ?_)
                · have h := of_pos h c_127
                  refine lv_iconst (v := (nI 0)) hx hb d_M_goesOn_134 (by decide) ?_
                  refine lv_goto (tgt := 145) hx hb d_M_goesOn_135 (by decide) ?_
                  rw [hQ]
                  exact W.zret (v := (nI 0)) hx hb hr rfl (fun t ht hW => ⟨⟨(nI 0), (), rfl, Prod.mk.inj (Option.some.inj h), by rw [ht]; exact hP, va_K.moved hW.alike hK, hD⟩, hS.F ht⟩) hS.2.2 d_M_goesOn_145
                · have h := of_neg h c_127
                  refine lv_iconst (v := (nI 1)) hx hb d_M_goesOn_130 (by decide) ?_
                  refine lv_goto (tgt := 145) hx hb d_M_goesOn_131 (by decide) ?_
                  rw [hQ]
                  exact W.zret (v := (nI 1)) hx hb hr rfl (fun t ht hW => ⟨⟨(nI 1), (), rfl, Prod.mk.inj (Option.some.inj h), by rw [ht]; exact hP, va_K.moved hW.alike hK, hD⟩, hS.F ht⟩) hS.2.2 d_M_goesOn_145
        · have h := of_pos h c_95
          exact J_98 x1 (v_line x1.toNatClampNeg) h _ _ hP hD hS ls (lv_sub hl [3, 1] rfl)
    · have h := of_pos h c_52
      refine lv_iload_n hx hb d_M_goesOn_55 rfl (lv_at hl 3 rfl) ?_
      refine lv_bipush (v := (nI 8)) hx hb d_M_goesOn_56 (by decide) ?_
      refine lv_icmp_ge (tgt := 77) hx hb d_M_goesOn_58 (by decide) (fun c_58 => ?_) (fun c_58 => ?_)
      · have h := of_pos h c_58
        refine lv_iload_n hx hb d_M_goesOn_77 rfl (lv_at hl 3 rfl) ?_
        refine lv_bipush (v := (nI 8)) hx hb d_M_goesOn_78 (by decide) ?_
        refine lv_isub hx hb d_M_goesOn_80 ?_
        refine lv_iload_n hx hb d_M_goesOn_81 rfl (lv_at hl 1 rfl) ?_
        have hPc := hP.sub (ws' := []) [] rfl
        have hDc := hD.sub (ws' := []) [] (by decide) rfl
        have hKc := hK.sub (tys' := []) [] rfl
        have hFc := va_free (wc := []) hD hS hA [] rfl
        obtain ⟨v_82, hc_82, h⟩ := of_bind h
        refine va_calli (va_runS (As := [.int (x1 - (nI 8)), .int (v_line x1.toNatClampNeg)]) (rest := []) ⟨hx, hb, hml, hown, hts⟩ (c_M_inBody l dC dI H.size (x1 - (nI 8)) (v_line x1.toNatClampNeg) v_82.1 v_82.2 hc_82) (va_cwS 2 hts (gS mlk_M_59 sta_M_inBody ini_M cod_M_inBody) rfl rfl rfl (by decide +kernel) ⟨Nat.le_of_ble_eq_true rfl, Nat.le_of_ble_eq_true rfl⟩) ⟨fun a U g mk q => by obtain ⟨q0, q1, qP, qK, qD⟩ := q; exact ⟨q0, q1, qP, va_K.moved (u := U) (U := U.calling g mk a) (Vm.Alike.refl U.vm) qK, qD⟩, fun U hU hW => ⟨rfl, by rw [hU], by rw [hU]; exact hPc, va_K.moved hW.alike hKc, hDc.weaken (fun _ _ _ _ => trivial)⟩⟩ rfl rfl hl.1 rfl (lv_room (Nat.le_of_ble_eq_true rfl)) d_M_goesOn_82 ⟨Nat.le_of_ble_eq_true rfl, Nat.le_of_ble_eq_true rfl⟩) hS (fun q _ h9 => hFc q h9) hFc (fun r_82 u t H1 locs ht hvm hw hB hz1 hk1 hS => ?_)
        obtain ⟨rfl, rfl⟩ := hw
        obtain ⟨hP1, hK1, hD1⟩ := hB
        rw [ht] at hP1
        obtain ⟨hP, hD⟩ := va_join (wr := [(h_o, .inr (4, [.ref h_line, .int v_typed, .ref h_fact, .ref h_marked, .int v_count, .ref h_many, .ref h_codes, .int v_oldCount, .ref h_oldMany, .ref h_oldCodes, .int v_read, .ref h_body, .ref h_roundOf, .ref h_fresh, .int v_last])), (h_line, .inl (k_line, 32, .inl v_line))]) (w1 := []) hP hD [] [0, 1] rfl rfl (by decide) (by decide) hk1 hFc hP1 hD1
        have hP := hP.sub (ws' := [(h_o, .inr (4, [.ref h_line, .int v_typed, .ref h_fact, .ref h_marked, .int v_count, .ref h_many, .ref h_codes, .int v_oldCount, .ref h_oldMany, .ref h_oldCodes, .int v_read, .ref h_body, .ref h_roundOf, .ref h_fresh, .int v_last])), (h_line, .inl (k_line, 32, .inl v_line))]) [0, 1] rfl
        have hD := hD.sub (ws' := [(h_o, .inr (4, [.ref h_line, .int v_typed, .ref h_fact, .ref h_marked, .int v_count, .ref h_many, .ref h_codes, .int v_oldCount, .ref h_oldMany, .ref h_oldCodes, .int v_read, .ref h_body, .ref h_roundOf, .ref h_fresh, .int v_last])), (h_line, .inl (k_line, 32, .inl v_line))]) [0, 1] (by decide) rfl
        generalize H1 = H at hP hS ⊢
        obtain ⟨g_85, h⟩ := of_guard h
        rw [hQ]
        exact W.zret (v := v_82.1) hx hb hr (nrz g_85) (fun t ht hW => ⟨⟨v_82.1, (), rfl, Prod.mk.inj (Option.some.inj h), by rw [ht]; exact hP, va_K.moved hW.alike hK, hD⟩, hS.F ht⟩) hS.2.2 d_M_goesOn_85
      · have h := of_neg h c_58
        refine lv_iload_n hx hb d_M_goesOn_61 rfl (lv_at hl 1 rfl) ?_
        refine lv_iload_n hx hb d_M_goesOn_62 rfl (lv_at hl 3 rfl) ?_
        have hPc := hP.sub (ws' := []) [] rfl
        have hDc := hD.sub (ws' := []) [] (by decide) rfl
        have hKc := hK.sub (tys' := []) [] rfl
        have hFc := va_free (wc := []) hD hS hA [] rfl
        obtain ⟨v_63, hc_63, h⟩ := of_bind h
        refine va_calli (va_runS (As := [.int x1]) (rest := [.int (v_line x1.toNatClampNeg)]) ⟨hx, hb, hml, hown, hts⟩ (c_M_head l dC dI H.size x1 v_63.1 v_63.2 hc_63) (va_cwS 1 hts (gS mlk_M_55 sta_M_head ini_M cod_M_head) rfl rfl rfl (by decide +kernel) ⟨Nat.le_of_ble_eq_true rfl, Nat.le_of_ble_eq_true rfl⟩) ⟨fun a U g mk q => by obtain ⟨q0, q1, qP, qK, qD⟩ := q; exact ⟨q0, q1, qP, va_K.moved (u := U) (U := U.calling g mk a) (Vm.Alike.refl U.vm) qK, qD⟩, fun U hU hW => ⟨rfl, by rw [hU], by rw [hU]; exact hPc, va_K.moved hW.alike hKc, hDc.weaken (fun _ _ _ _ => trivial)⟩⟩ rfl rfl hl.1 rfl (lv_room (Nat.le_of_ble_eq_true rfl)) d_M_goesOn_63 ⟨Nat.le_of_ble_eq_true rfl, Nat.le_of_ble_eq_true rfl⟩) hS (fun q _ h9 => hFc q h9) hFc (fun r_63 u t H1 locs ht hvm hw hB hz1 hk1 hS => ?_)
        obtain ⟨rfl, rfl⟩ := hw
        obtain ⟨hP1, hK1, hD1⟩ := hB
        rw [ht] at hP1
        obtain ⟨hP, hD⟩ := va_join (wr := [(h_o, .inr (4, [.ref h_line, .int v_typed, .ref h_fact, .ref h_marked, .int v_count, .ref h_many, .ref h_codes, .int v_oldCount, .ref h_oldMany, .ref h_oldCodes, .int v_read, .ref h_body, .ref h_roundOf, .ref h_fresh, .int v_last])), (h_line, .inl (k_line, 32, .inl v_line))]) (w1 := []) hP hD [] [0, 1] rfl rfl (by decide) (by decide) hk1 hFc hP1 hD1
        have hP := hP.sub (ws' := [(h_o, .inr (4, [.ref h_line, .int v_typed, .ref h_fact, .ref h_marked, .int v_count, .ref h_many, .ref h_codes, .int v_oldCount, .ref h_oldMany, .ref h_oldCodes, .int v_read, .ref h_body, .ref h_roundOf, .ref h_fresh, .int v_last])), (h_line, .inl (k_line, 32, .inl v_line))]) [0, 1] rfl
        have hD := hD.sub (ws' := [(h_o, .inr (4, [.ref h_line, .int v_typed, .ref h_fact, .ref h_marked, .int v_count, .ref h_many, .ref h_codes, .int v_oldCount, .ref h_oldMany, .ref h_oldCodes, .int v_read, .ref h_body, .ref h_roundOf, .ref h_fresh, .int v_last])), (h_line, .inl (k_line, 32, .inl v_line))]) [0, 1] (by decide) rfl
        generalize H1 = H at hP hS ⊢
        refine lv_icmp_ne (tgt := 73) hx hb d_M_goesOn_66 (by decide) (fun c_66 => ?_) (fun c_66 => ?_)
        · have h := of_neg h c_66
          refine lv_iconst (v := (nI 0)) hx hb d_M_goesOn_73 (by decide) ?_
          refine lv_goto (tgt := 85) hx hb d_M_goesOn_74 (by decide) ?_
          rw [hQ]
          exact W.zret (v := (nI 0)) hx hb hr rfl (fun t ht hW => ⟨⟨(nI 0), (), rfl, Prod.mk.inj (Option.some.inj h), by rw [ht]; exact hP, va_K.moved hW.alike hK, hD⟩, hS.F ht⟩) hS.2.2 d_M_goesOn_85
        · have h := of_pos h c_66
          refine lv_iconst (v := (nI 1)) hx hb d_M_goesOn_69 (by decide) ?_
          refine lv_goto (tgt := 85) hx hb d_M_goesOn_70 (by decide) ?_
          rw [hQ]
          exact W.zret (v := (nI 1)) hx hb hr rfl (fun t ht hW => ⟨⟨(nI 1), (), rfl, Prod.mk.inj (Option.some.inj h), by rw [ht]; exact hP, va_K.moved hW.alike hK, hD⟩, hS.F ht⟩) hS.2.2 d_M_goesOn_85
  · have h := of_pos h c_15
    refine lv_iload_n hx hb d_M_goesOn_18 rfl (lv_at hl 1 rfl) ?_
    have hPc := hP.sub (ws' := []) [] rfl
    have hDc := hD.sub (ws' := []) [] (by decide) rfl
    have hKc := hK.sub (tys' := []) [] rfl
    have hFc := va_free (wc := []) hD hS hA [] rfl
    obtain ⟨v_19, hc_19, h⟩ := of_bind h
    refine va_calli (va_runS (As := [.int (v_line x1.toNatClampNeg)]) (rest := []) ⟨hx, hb, hml, hown, hts⟩ (c_M_isRelation l dC dI H.size (v_line x1.toNatClampNeg) v_19.1 v_19.2 hc_19) (va_cwS 1 hts (gS mlk_M_49 sta_M_isRelation ini_M cod_M_isRelation) rfl rfl rfl (by decide +kernel) ⟨Nat.le_of_ble_eq_true rfl, Nat.le_of_ble_eq_true rfl⟩) ⟨fun a U g mk q => by obtain ⟨q0, q1, qP, qK, qD⟩ := q; exact ⟨q0, q1, qP, va_K.moved (u := U) (U := U.calling g mk a) (Vm.Alike.refl U.vm) qK, qD⟩, fun U hU hW => ⟨rfl, by rw [hU], by rw [hU]; exact hPc, va_K.moved hW.alike hKc, hDc.weaken (fun _ _ _ _ => trivial)⟩⟩ rfl rfl hl.1 rfl (lv_room (Nat.le_of_ble_eq_true rfl)) d_M_goesOn_19 ⟨Nat.le_of_ble_eq_true rfl, Nat.le_of_ble_eq_true rfl⟩) hS (fun q _ h9 => hFc q h9) hFc (fun r_19 u t H1 locs ht hvm hw hB hz1 hk1 hS => ?_)
    obtain ⟨rfl, rfl⟩ := hw
    obtain ⟨hP1, hK1, hD1⟩ := hB
    rw [ht] at hP1
    obtain ⟨hP, hD⟩ := va_join (wr := [(h_o, .inr (4, [.ref h_line, .int v_typed, .ref h_fact, .ref h_marked, .int v_count, .ref h_many, .ref h_codes, .int v_oldCount, .ref h_oldMany, .ref h_oldCodes, .int v_read, .ref h_body, .ref h_roundOf, .ref h_fresh, .int v_last])), (h_line, .inl (k_line, 32, .inl v_line))]) (w1 := []) hP hD [] [0, 1] rfl rfl (by decide) (by decide) hk1 hFc hP1 hD1
    have hP := hP.sub (ws' := [(h_o, .inr (4, [.ref h_line, .int v_typed, .ref h_fact, .ref h_marked, .int v_count, .ref h_many, .ref h_codes, .int v_oldCount, .ref h_oldMany, .ref h_oldCodes, .int v_read, .ref h_body, .ref h_roundOf, .ref h_fresh, .int v_last])), (h_line, .inl (k_line, 32, .inl v_line))]) [0, 1] rfl
    have hD := hD.sub (ws' := [(h_o, .inr (4, [.ref h_line, .int v_typed, .ref h_fact, .ref h_marked, .int v_count, .ref h_many, .ref h_codes, .int v_oldCount, .ref h_oldMany, .ref h_oldCodes, .int v_read, .ref h_body, .ref h_roundOf, .ref h_fresh, .int v_last])), (h_line, .inl (k_line, 32, .inl v_line))]) [0, 1] (by decide) rfl
    generalize H1 = H at hP hS ⊢
    refine lv_if_ne (tgt := 43) hx hb d_M_goesOn_22 (by decide) (fun c_22 => ?_) (fun c_22 => ?_)
    · have h := of_neg h c_22
      refine lv_iconst (v := (nI 1)) hx hb d_M_goesOn_43 (by decide) ?_
      refine lv_goto (tgt := 48) hx hb d_M_goesOn_44 (by decide) ?_
      rw [hQ]
      exact W.zret (v := (nI 1)) hx hb hr rfl (fun t ht hW => ⟨⟨(nI 1), (), rfl, Prod.mk.inj (Option.some.inj h), by rw [ht]; exact hP, va_K.moved hW.alike hK, hD⟩, hS.F ht⟩) hS.2.2 d_M_goesOn_48
    · have h := of_pos h c_22
      refine lv_iload_n hx hb d_M_goesOn_25 rfl (lv_at hl 1 rfl) ?_
      refine lv_bipush (v := (nI 126)) hx hb d_M_goesOn_26 (by decide) ?_
      refine lv_icmp_eq (tgt := 43) hx hb d_M_goesOn_28 (by decide) (fun c_28 => ?_) (fun c_28 => ?_)
      · have h := of_pos h c_28
        refine lv_iconst (v := (nI 1)) hx hb d_M_goesOn_43 (by decide) ?_
        refine lv_goto (tgt := 48) hx hb d_M_goesOn_44 (by decide) ?_
        rw [hQ]
        exact W.zret (v := (nI 1)) hx hb hr rfl (fun t ht hW => ⟨⟨(nI 1), (), rfl, Prod.mk.inj (Option.some.inj h), by rw [ht]; exact hP, va_K.moved hW.alike hK, hD⟩, hS.F ht⟩) hS.2.2 d_M_goesOn_48
      · have h := of_neg h c_28
        refine lv_iload_n hx hb d_M_goesOn_31 rfl (lv_at hl 1 rfl) ?_
        refine lv_bipush (v := (nI 43)) hx hb d_M_goesOn_32 (by decide) ?_
        refine lv_icmp_eq (tgt := 43) hx hb d_M_goesOn_34 (by decide) (fun c_34 => ?_) (fun c_34 => ?_)
        · have h := of_pos h c_34
          refine lv_iconst (v := (nI 1)) hx hb d_M_goesOn_43 (by decide) ?_
          refine lv_goto (tgt := 48) hx hb d_M_goesOn_44 (by decide) ?_
          rw [hQ]
          exact W.zret (v := (nI 1)) hx hb hr rfl (fun t ht hW => ⟨⟨(nI 1), (), rfl, Prod.mk.inj (Option.some.inj h), by rw [ht]; exact hP, va_K.moved hW.alike hK, hD⟩, hS.F ht⟩) hS.2.2 d_M_goesOn_48
        · have h := of_neg h c_34
          refine lv_iload_n hx hb d_M_goesOn_37 rfl (lv_at hl 1 rfl) ?_
          refine lv_bipush (v := (nI 45)) hx hb d_M_goesOn_38 (by decide) ?_
          refine lv_icmp_ne (tgt := 47) hx hb d_M_goesOn_40 (by decide) (fun c_40 => ?_) (fun c_40 => ?_)
          · have h := of_neg h c_40
            refine lv_iconst (v := (nI 0)) hx hb d_M_goesOn_47 (by decide) ?_
            rw [hQ]
            exact W.zret (v := (nI 0)) hx hb hr rfl (fun t ht hW => ⟨⟨(nI 0), (), rfl, Prod.mk.inj (Option.some.inj h), by rw [ht]; exact hP, va_K.moved hW.alike hK, hD⟩, hS.F ht⟩) hS.2.2 d_M_goesOn_48
          · have h := of_pos h c_40
            refine lv_iconst (v := (nI 1)) hx hb d_M_goesOn_43 (by decide) ?_
            refine lv_goto (tgt := 48) hx hb d_M_goesOn_44 (by decide) ?_
            rw [hQ]
            exact W.zret (v := (nI 1)) hx hb hr rfl (fun t ht hW => ⟨⟨(nI 1), (), rfl, Prod.mk.inj (Option.some.inj h), by rw [ht]; exact hP, va_K.moved hW.alike hK, hD⟩, hS.F ht⟩) hS.2.2 d_M_goesOn_48
set_option maxHeartbeats 1000000 in
set_option maxRecDepth 100000 in
theorem c_M_whole (l : Launch) (dC : Nat → ClassId) (dI : Nat → Nat → Nat) (h_o h_line h_fact h_marked h_many h_codes h_oldMany h_oldCodes h_body h_roundOf h_fresh : Nat) (k_line : ClassId) (sz : Nat) (v_typed : Int32) (v_count : Int32) (v_oldCount : Int32) (v_read : Int32) (v_last : Int32) (v_line : Nat → Int32) (r0 : Int32) (u0 : Unit) (h : m_M_whole v_typed v_line = some (r0, u0)) : Met l y_M_whole w_M_whole ({ frames := 0, cells := 0, slots := 0, locals := 0 } : Room) (va_Pc [.ref h_o] (fun U => U.heap.size = sz ∧ va_P (dC, dI) classes [(h_o, .inr (4, [.ref h_line, .int v_typed, .ref h_fact, .ref h_marked, .int v_count, .ref h_many, .ref h_codes, .int v_oldCount, .ref h_oldMany, .ref h_oldCodes, .int v_read, .ref h_body, .ref h_roundOf, .ref h_fresh, .int v_last])), (h_line, .inl (k_line, 32, .inl v_line))] U.heap ∧ va_K (dC, dI) classes [(k_line, .int)] U ∧ va_D (fun _ => True) [(h_o, .inr (4, [.ref h_line, .int v_typed, .ref h_fact, .ref h_marked, .int v_count, .ref h_many, .ref h_codes, .int v_oldCount, .ref h_oldMany, .ref h_oldCodes, .int v_read, .ref h_body, .ref h_roundOf, .ref h_fresh, .int v_last])), (h_line, .inl (k_line, 32, .inl v_line))])) (va_Qi (fun (r : Int32) (u : Unit) => r = r0 ∧ u = u0) (fun (u : Unit) (t : State) => va_P (dC, dI) classes [(h_o, .inr (4, [.ref h_line, .int v_typed, .ref h_fact, .ref h_marked, .int v_count, .ref h_many, .ref h_codes, .int v_oldCount, .ref h_oldMany, .ref h_oldCodes, .int v_read, .ref h_body, .ref h_roundOf, .ref h_fresh, .int v_last])), (h_line, .inl (k_line, 32, .inl v_line))] t.heap ∧ va_K (dC, dI) classes [(k_line, .int)] t ∧ va_D (va_A [(h_o, .inr (4, [.ref h_line, .int v_typed, .ref h_fact, .ref h_marked, .int v_count, .ref h_many, .ref h_codes, .int v_oldCount, .ref h_oldMany, .ref h_oldCodes, .int v_read, .ref h_body, .ref h_roundOf, .ref h_fresh, .int v_last])), (h_line, .inl (k_line, 32, .inl v_line))] sz) [(h_o, .inr (4, [.ref h_line, .int v_typed, .ref h_fact, .ref h_marked, .int v_count, .ref h_many, .ref h_codes, .int v_oldCount, .ref h_oldMany, .ref h_oldCodes, .int v_read, .ref h_body, .ref h_roundOf, .ref h_fresh, .int v_last])), (h_line, .inl (k_line, 32, .inl v_line))]) (va_A [(h_o, .inr (4, [.ref h_line, .int v_typed, .ref h_fact, .ref h_marked, .int v_count, .ref h_many, .ref h_codes, .int v_oldCount, .ref h_oldMany, .ref h_oldCodes, .int v_read, .ref h_body, .ref h_roundOf, .ref h_fresh, .int v_last])), (h_line, .inl (k_line, 32, .inl v_line))] sz)) 0 0 (va_A [(h_o, .inr (4, [.ref h_line, .int v_typed, .ref h_fact, .ref h_marked, .int v_count, .ref h_many, .ref h_codes, .int v_oldCount, .ref h_oldMany, .ref h_oldCodes, .int v_read, .ref h_body, .ref h_roundOf, .ref h_fresh, .int v_last])), (h_line, .inl (k_line, 32, .inl v_line))] sz) := by
  refine Met.ofW (cc := b_M_whole) (maxL := 2) (ret := (some .boolean)) (by decide) rfl ?_
  intro p e s m args below meth c s₁ B hml hv
  obtain ⟨rfl, hsz, hP, hK, hD0⟩ := hv
  have hx := B.exec
  have hb := B.bytes
  have hr := B.returns
  have hts0 := atoms_spec (ws := w_M_whole) B.pre
  have hts : ∀ w ∈ lw_gd, w.before ([.ref h_o] : List Value).toArray s = true := fun w h9 => hts0 w (List.mem_cons_of_mem _ h9)
  have hown : s.vm.findClass R_M = some m.cls := findClass_of_methodNamed B.named
  have hlocks := B.notSynchronized
  subst hsz
  have hD := hD0.self (sz := s.heap.size)
  generalize hAe : va_A [(h_o, .inr (4, [.ref h_line, .int v_typed, .ref h_fact, .ref h_marked, .int v_count, .ref h_many, .ref h_codes, .int v_oldCount, .ref h_oldMany, .ref h_oldCodes, .int v_read, .ref h_body, .ref h_roundOf, .ref h_fresh, .int v_last])), (h_line, .inl (k_line, 32, .inl v_line))] s.heap.size = A at hD ⊢
  have hA : ∀ q : Nat, s.heap.size ≤ q → A q := fun q h9 => by rw [← hAe]; exact Or.inr h9
  obtain ⟨H, eH⟩ : ∃ H : Heap, H = s.heap := ⟨_, rfl⟩
  have hS : va_S A s.heap H [] := by rw [eH]; exact va_S.rf
  have hP : va_P (dC, dI) classes [(h_o, .inr (4, [.ref h_line, .int v_typed, .ref h_fact, .ref h_marked, .int v_count, .ref h_many, .ref h_codes, .int v_oldCount, .ref h_oldMany, .ref h_oldCodes, .int v_read, .ref h_body, .ref h_roundOf, .ref h_fresh, .int v_last])), (h_line, .inl (k_line, 32, .inl v_line))] H := by rw [eH]; exact hP
  refine W_gen (fun Q hQ => ?_)
  refine W_heap eH ?_
  clear eH
  have hl := lv_entry ([.ref h_o]) (n := 2) (Nat.le_of_ble_eq_true rfl)
  rw [lg_entry_eq]
  generalize (lg_sl ([.ref h_o]) ++ List.replicate (2 - (lg_sl ([.ref h_o])).length) Slot.unset).toArray = ls at hl ⊢
  have hl : lv_has ls 2 [(0, .ref h_o)] := hl
  have J_75 : ∀ (y0 : Int32) (y1 : Int32), m_M_whole_75 v_typed v_line y0 y1 = some (r0, u0) → ∀ (H : Heap) (locs : List Loc), va_P (dC, dI) classes [(h_o, .inr (4, [.ref h_line, .int v_typed, .ref h_fact, .ref h_marked, .int v_count, .ref h_many, .ref h_codes, .int v_oldCount, .ref h_oldMany, .ref h_oldCodes, .int v_read, .ref h_body, .ref h_roundOf, .ref h_fresh, .int v_last])), (h_line, .inl (k_line, 32, .inl v_line))] H → va_D A [(h_o, .inr (4, [.ref h_line, .int v_typed, .ref h_fact, .ref h_marked, .int v_count, .ref h_many, .ref h_codes, .int v_oldCount, .ref h_oldMany, .ref h_oldCodes, .int v_read, .ref h_body, .ref h_roundOf, .ref h_fresh, .int v_last])), (h_line, .inl (k_line, 32, .inl v_line))] → va_S A s.heap H locs → ∀ (ls : Array Slot), lv_has ls 2 [] → W p l e (headSpec w_M_whole ({ frames := 0, cells := 0, slots := 0, locals := 0 } : Room)).room s m ([.ref h_o] : List Value).toArray below meth c H locs 0 0 Q (F0 m 75 ls [.int y0, .int y1]) := by
    intro y0 y1 h H locs hP hD hS ls hl
    unfold m_M_whole_75 at h
    refine lv_icmp_ne (tgt := 82) hx hb d_M_whole_75 (by decide) (fun c_75 => ?_) (fun c_75 => ?_)
    · have h := of_neg h c_75
      refine lv_iconst (v := (nI 0)) hx hb d_M_whole_82 (by decide) ?_
      rw [hQ]
      exact W.zret (v := (nI 0)) hx hb hr rfl (fun t ht hW => ⟨⟨(nI 0), (), rfl, Prod.mk.inj (Option.some.inj h), by rw [ht]; exact hP, va_K.moved hW.alike hK, hD⟩, hS.F ht⟩) hS.2.2 d_M_whole_83
    · have h := of_pos h c_75
      refine lv_iconst (v := (nI 1)) hx hb d_M_whole_78 (by decide) ?_
      refine lv_goto (tgt := 83) hx hb d_M_whole_79 (by decide) ?_
      rw [hQ]
      exact W.zret (v := (nI 1)) hx hb hr rfl (fun t ht hW => ⟨⟨(nI 1), (), rfl, Prod.mk.inj (Option.some.inj h), by rw [ht]; exact hP, va_K.moved hW.alike hK, hD⟩, hS.F ht⟩) hS.2.2 d_M_whole_83
  have J_68 : ∀ (y0 : Int32), m_M_whole_68 v_typed v_line y0 = some (r0, u0) → ∀ (H : Heap) (locs : List Loc), va_P (dC, dI) classes [(h_o, .inr (4, [.ref h_line, .int v_typed, .ref h_fact, .ref h_marked, .int v_count, .ref h_many, .ref h_codes, .int v_oldCount, .ref h_oldMany, .ref h_oldCodes, .int v_read, .ref h_body, .ref h_roundOf, .ref h_fresh, .int v_last])), (h_line, .inl (k_line, 32, .inl v_line))] H → va_D A [(h_o, .inr (4, [.ref h_line, .int v_typed, .ref h_fact, .ref h_marked, .int v_count, .ref h_many, .ref h_codes, .int v_oldCount, .ref h_oldMany, .ref h_oldCodes, .int v_read, .ref h_body, .ref h_roundOf, .ref h_fresh, .int v_last])), (h_line, .inl (k_line, 32, .inl v_line))] → va_S A s.heap H locs → ∀ (ls : Array Slot), lv_has ls 2 [] → W p l e (headSpec w_M_whole ({ frames := 0, cells := 0, slots := 0, locals := 0 } : Room)).room s m ([.ref h_o] : List Value).toArray below meth c H locs 0 0 Q (F0 m 68 ls [.int y0]) := by
    intro y0 h H locs hP hD hS ls hl
    unfold m_M_whole_68 at h
    refine lv_bipush (v := (nI 6)) hx hb d_M_whole_68 (by decide) ?_
    refine lv_goto (tgt := 75) hx hb d_M_whole_70 (by decide) ?_
    exact J_75 (nI 6) y0 h _ _ hP hD hS ls (lv_sub hl [] rfl)
  unfold m_M_whole at h
  refine lv_aload_n hx hb d_M_whole_0 rfl (lv_at hl 0 rfl) ?_
  refine va_get (D := (dC, dI)) (ci := 4) (v := .int v_typed) (C := R_M) (T := F_M) (N := 15) hx hb hts lay_M hown hK hP 0 rfl rfl 1 (by decide) (hts _ flk_M_41) (fun _ h9 => h9) rfl d_M_whole_1 ?_
  refine lv_if_ne (tgt := 9) hx hb d_M_whole_4 (by decide) (fun c_4 => ?_) (fun c_4 => ?_)
  · have h := of_neg h c_4
    refine lv_aload_n hx hb d_M_whole_9 rfl (lv_at hl 0 rfl) ?_
    refine va_get (D := (dC, dI)) (ci := 4) (v := .ref h_line) (C := R_M) (T := F_M) (N := 15) hx hb hts lay_M hown hK hP 0 rfl rfl 0 (by decide) (hts _ flk_M_7) (fun _ h9 => h9) rfl d_M_whole_10 ?_
    refine lv_iconst (v := (nI 0)) hx hb d_M_whole_13 (by decide) ?_
    obtain ⟨g_14, h⟩ := of_guard h
    refine va_iald hx hb hK hP 1 0 rfl rfl (inR_in g_14) d_M_whole_14 ?_
    refine lv_istore_n (lv' := [(1, .int (v_line (nI 0).toNatClampNeg)), (0, .ref h_o)]) hx hb d_M_whole_15 rfl hl (by decide) rfl (fun ls hl => ?_)
    refine lv_iload_n hx hb d_M_whole_16 rfl (lv_at hl 0 rfl) ?_
    refine lv_bipush (v := (nI 116)) hx hb d_M_whole_17 (by decide) ?_
    refine lv_icmp_ne (tgt := 52) hx hb d_M_whole_19 (by decide) (fun c_19 => ?_) (fun c_19 => ?_)
    · have h := of_neg h c_19
      refine lv_aload_n hx hb d_M_whole_52 rfl (lv_at hl 1 rfl) ?_
      refine va_get (D := (dC, dI)) (ci := 4) (v := .int v_typed) (C := R_M) (T := F_M) (N := 15) hx hb hts lay_M hown hK hP 0 rfl rfl 1 (by decide) (hts _ flk_M_41) (fun _ h9 => h9) rfl d_M_whole_53 ?_
      refine lv_iload_n hx hb d_M_whole_56 rfl (lv_at hl 0 rfl) ?_
      refine lv_bipush (v := (nI 97)) hx hb d_M_whole_57 (by decide) ?_
      refine lv_icmp_eq (tgt := 68) hx hb d_M_whole_59 (by decide) (fun c_59 => ?_) (fun c_59 => ?_)
      · have h := of_pos h c_59
        exact J_68 v_typed h _ _ hP hD hS ls (lv_sub hl [] rfl)
      · have h := of_neg h c_59
        refine lv_iload_n hx hb d_M_whole_62 rfl (lv_at hl 0 rfl) ?_
        refine lv_bipush (v := (nI 98)) hx hb d_M_whole_63 (by decide) ?_
        refine lv_icmp_ne (tgt := 73) hx hb d_M_whole_65 (by decide) (fun c_65 => ?_) (fun c_65 => ?_)
        · have h := of_neg h c_65
          refine lv_bipush (v := (nI 7)) hx hb d_M_whole_73 (by decide) ?_
          exact J_75 (nI 7) v_typed h _ _ hP hD hS ls (lv_sub hl [] rfl)
        · have h := of_pos h c_65
          exact J_68 v_typed h _ _ hP hD hS ls (lv_sub hl [] rfl)
    · have h := of_pos h c_19
      refine lv_aload_n hx hb d_M_whole_22 rfl (lv_at hl 1 rfl) ?_
      refine va_get (D := (dC, dI)) (ci := 4) (v := .int v_typed) (C := R_M) (T := F_M) (N := 15) hx hb hts lay_M hown hK hP 0 rfl rfl 1 (by decide) (hts _ flk_M_41) (fun _ h9 => h9) rfl d_M_whole_23 ?_
      refine lv_bipush (v := (nI 8)) hx hb d_M_whole_26 (by decide) ?_
      refine lv_icmp_le (tgt := 50) hx hb d_M_whole_28 (by decide) (fun c_28 => ?_) (fun c_28 => ?_)
      · have h := of_pos h c_28
        refine lv_iconst (v := (nI 0)) hx hb d_M_whole_50 (by decide) ?_
        rw [hQ]
        exact W.zret (v := (nI 0)) hx hb hr rfl (fun t ht hW => ⟨⟨(nI 0), (), rfl, Prod.mk.inj (Option.some.inj h), by rw [ht]; exact hP, va_K.moved hW.alike hK, hD⟩, hS.F ht⟩) hS.2.2 d_M_whole_51
      · have h := of_neg h c_28
        refine lv_aload_n hx hb d_M_whole_31 rfl (lv_at hl 1 rfl) ?_
        refine va_get (D := (dC, dI)) (ci := 4) (v := .int v_typed) (C := R_M) (T := F_M) (N := 15) hx hb hts lay_M hown hK hP 0 rfl rfl 1 (by decide) (hts _ flk_M_41) (fun _ h9 => h9) rfl d_M_whole_32 ?_
        refine lv_bipush (v := (nI 8)) hx hb d_M_whole_35 (by decide) ?_
        refine lv_isub hx hb d_M_whole_37 ?_
        refine lv_bipush (v := (nI 7)) hx hb d_M_whole_38 (by decide) ?_
        refine lv_irem hx hb d_M_whole_40 (by decide) ?_
        refine lv_bipush (v := (nI 6)) hx hb d_M_whole_41 (by decide) ?_
        refine lv_icmp_ne (tgt := 50) hx hb d_M_whole_43 (by decide) (fun c_43 => ?_) (fun c_43 => ?_)
        · have h := of_neg h c_43
          refine lv_iconst (v := (nI 0)) hx hb d_M_whole_50 (by decide) ?_
          rw [hQ]
          exact W.zret (v := (nI 0)) hx hb hr rfl (fun t ht hW => ⟨⟨(nI 0), (), rfl, Prod.mk.inj (Option.some.inj h), by rw [ht]; exact hP, va_K.moved hW.alike hK, hD⟩, hS.F ht⟩) hS.2.2 d_M_whole_51
        · have h := of_pos h c_43
          refine lv_iconst (v := (nI 1)) hx hb d_M_whole_46 (by decide) ?_
          refine lv_goto (tgt := 51) hx hb d_M_whole_47 (by decide) ?_
          rw [hQ]
          exact W.zret (v := (nI 1)) hx hb hr rfl (fun t ht hW => ⟨⟨(nI 1), (), rfl, Prod.mk.inj (Option.some.inj h), by rw [ht]; exact hP, va_K.moved hW.alike hK, hD⟩, hS.F ht⟩) hS.2.2 d_M_whole_51
  · have h := of_pos h c_4
    refine lv_iconst (v := (nI 0)) hx hb d_M_whole_7 (by decide) ?_
    rw [hQ]
    exact W.zret (v := (nI 0)) hx hb hr rfl (fun t ht hW => ⟨⟨(nI 0), (), rfl, Prod.mk.inj (Option.some.inj h), by rw [ht]; exact hP, va_K.moved hW.alike hK, hD⟩, hS.F ht⟩) hS.2.2 d_M_whole_8
set_option maxHeartbeats 1000000 in
set_option maxRecDepth 100000 in
theorem c_M_fault (l : Launch) (dC : Nat → ClassId) (dI : Nat → Nat → Nat) (h_o h_line h_fact h_marked h_many h_codes h_oldMany h_oldCodes h_body h_roundOf h_fresh : Nat) (k_line : ClassId) (sz : Nat) (v_typed : Int32) (v_count : Int32) (v_oldCount : Int32) (v_read : Int32) (v_last : Int32) (v_line : Nat → Int32) (r0 : Int32) (u0 : Unit) (h : m_M_fault v_typed v_line = some (r0, u0)) : Met l y_M_fault w_M_fault ({ frames := 3, cells := 0, slots := 0, locals := 65 } : Room) (va_Pc [.ref h_o] (fun U => U.heap.size = sz ∧ va_P (dC, dI) classes [(h_o, .inr (4, [.ref h_line, .int v_typed, .ref h_fact, .ref h_marked, .int v_count, .ref h_many, .ref h_codes, .int v_oldCount, .ref h_oldMany, .ref h_oldCodes, .int v_read, .ref h_body, .ref h_roundOf, .ref h_fresh, .int v_last])), (h_line, .inl (k_line, 32, .inl v_line))] U.heap ∧ va_K (dC, dI) classes [(k_line, .int)] U ∧ va_D (fun _ => True) [(h_o, .inr (4, [.ref h_line, .int v_typed, .ref h_fact, .ref h_marked, .int v_count, .ref h_many, .ref h_codes, .int v_oldCount, .ref h_oldMany, .ref h_oldCodes, .int v_read, .ref h_body, .ref h_roundOf, .ref h_fresh, .int v_last])), (h_line, .inl (k_line, 32, .inl v_line))])) (va_Qi (fun (r : Int32) (u : Unit) => r = r0 ∧ u = u0) (fun (u : Unit) (t : State) => va_P (dC, dI) classes [(h_o, .inr (4, [.ref h_line, .int v_typed, .ref h_fact, .ref h_marked, .int v_count, .ref h_many, .ref h_codes, .int v_oldCount, .ref h_oldMany, .ref h_oldCodes, .int v_read, .ref h_body, .ref h_roundOf, .ref h_fresh, .int v_last])), (h_line, .inl (k_line, 32, .inl v_line))] t.heap ∧ va_K (dC, dI) classes [(k_line, .int)] t ∧ va_D (va_A [(h_o, .inr (4, [.ref h_line, .int v_typed, .ref h_fact, .ref h_marked, .int v_count, .ref h_many, .ref h_codes, .int v_oldCount, .ref h_oldMany, .ref h_oldCodes, .int v_read, .ref h_body, .ref h_roundOf, .ref h_fresh, .int v_last])), (h_line, .inl (k_line, 32, .inl v_line))] sz) [(h_o, .inr (4, [.ref h_line, .int v_typed, .ref h_fact, .ref h_marked, .int v_count, .ref h_many, .ref h_codes, .int v_oldCount, .ref h_oldMany, .ref h_oldCodes, .int v_read, .ref h_body, .ref h_roundOf, .ref h_fresh, .int v_last])), (h_line, .inl (k_line, 32, .inl v_line))]) (va_A [(h_o, .inr (4, [.ref h_line, .int v_typed, .ref h_fact, .ref h_marked, .int v_count, .ref h_many, .ref h_codes, .int v_oldCount, .ref h_oldMany, .ref h_oldCodes, .int v_read, .ref h_body, .ref h_roundOf, .ref h_fresh, .int v_last])), (h_line, .inl (k_line, 32, .inl v_line))] sz)) 0 0 (va_A [(h_o, .inr (4, [.ref h_line, .int v_typed, .ref h_fact, .ref h_marked, .int v_count, .ref h_many, .ref h_codes, .int v_oldCount, .ref h_oldMany, .ref h_oldCodes, .int v_read, .ref h_body, .ref h_roundOf, .ref h_fresh, .int v_last])), (h_line, .inl (k_line, 32, .inl v_line))] sz) := by
  refine Met.ofW (cc := b_M_fault) (maxL := 2) (ret := (some .int)) (by decide) rfl ?_
  intro p e s m args below meth c s₁ B hml hv
  obtain ⟨rfl, hsz, hP, hK, hD0⟩ := hv
  have hx := B.exec
  have hb := B.bytes
  have hr := B.returns
  have hts0 := atoms_spec (ws := w_M_fault) B.pre
  have hts : ∀ w ∈ lw_gd, w.before ([.ref h_o] : List Value).toArray s = true := fun w h9 => hts0 w (List.mem_cons_of_mem _ h9)
  have hown : s.vm.findClass R_M = some m.cls := findClass_of_methodNamed B.named
  have hlocks := B.notSynchronized
  subst hsz
  have hD := hD0.self (sz := s.heap.size)
  generalize hAe : va_A [(h_o, .inr (4, [.ref h_line, .int v_typed, .ref h_fact, .ref h_marked, .int v_count, .ref h_many, .ref h_codes, .int v_oldCount, .ref h_oldMany, .ref h_oldCodes, .int v_read, .ref h_body, .ref h_roundOf, .ref h_fresh, .int v_last])), (h_line, .inl (k_line, 32, .inl v_line))] s.heap.size = A at hD ⊢
  have hA : ∀ q : Nat, s.heap.size ≤ q → A q := fun q h9 => by rw [← hAe]; exact Or.inr h9
  obtain ⟨H, eH⟩ : ∃ H : Heap, H = s.heap := ⟨_, rfl⟩
  have hS : va_S A s.heap H [] := by rw [eH]; exact va_S.rf
  have hP : va_P (dC, dI) classes [(h_o, .inr (4, [.ref h_line, .int v_typed, .ref h_fact, .ref h_marked, .int v_count, .ref h_many, .ref h_codes, .int v_oldCount, .ref h_oldMany, .ref h_oldCodes, .int v_read, .ref h_body, .ref h_roundOf, .ref h_fresh, .int v_last])), (h_line, .inl (k_line, 32, .inl v_line))] H := by rw [eH]; exact hP
  refine W_gen (fun Q hQ => ?_)
  refine W_heap eH ?_
  clear eH
  have hl := lv_entry ([.ref h_o]) (n := 2) (Nat.le_of_ble_eq_true rfl)
  rw [lg_entry_eq]
  generalize (lg_sl ([.ref h_o]) ++ List.replicate (2 - (lg_sl ([.ref h_o])).length) Slot.unset).toArray = ls at hl ⊢
  have hl : lv_has ls 2 [(0, .ref h_o)] := hl
  have J_2 : ∀ (n : Nat) (z1 : Int32), m_M_fault_2 v_typed v_line n z1 = some (r0, u0) → ∀ (H : Heap) (locs : List Loc), va_P (dC, dI) classes [(h_o, .inr (4, [.ref h_line, .int v_typed, .ref h_fact, .ref h_marked, .int v_count, .ref h_many, .ref h_codes, .int v_oldCount, .ref h_oldMany, .ref h_oldCodes, .int v_read, .ref h_body, .ref h_roundOf, .ref h_fresh, .int v_last])), (h_line, .inl (k_line, 32, .inl v_line))] H → va_D A [(h_o, .inr (4, [.ref h_line, .int v_typed, .ref h_fact, .ref h_marked, .int v_count, .ref h_many, .ref h_codes, .int v_oldCount, .ref h_oldMany, .ref h_oldCodes, .int v_read, .ref h_body, .ref h_roundOf, .ref h_fresh, .int v_last])), (h_line, .inl (k_line, 32, .inl v_line))] → va_S A s.heap H locs → ∀ (ls : Array Slot), lv_has ls 2 [(0, .ref h_o), (1, .int z1)] → W p l e (headSpec w_M_fault ({ frames := 3, cells := 0, slots := 0, locals := 65 } : Room)).room s m ([.ref h_o] : List Value).toArray below meth c H locs 0 0 Q (F0 m 2 ls []) := by
    intro n
    induction n with
    | zero => intro z1 h; exact absurd h (by unfold m_M_fault_2; exact fun h9 => nomatch h9)
    | succ n ih =>
      intro z1 h H locs hP hD hS ls hl
      unfold m_M_fault_2 at h
      refine lv_iload_n hx hb d_M_fault_2 rfl (lv_at hl 1 rfl) ?_
      refine lv_aload_n hx hb d_M_fault_3 rfl (lv_at hl 0 rfl) ?_
      refine va_get (D := (dC, dI)) (ci := 4) (v := .int v_typed) (C := R_M) (T := F_M) (N := 15) hx hb hts lay_M hown hK hP 0 rfl rfl 1 (by decide) (hts _ flk_M_41) (fun _ h9 => h9) rfl d_M_fault_4 ?_
      refine lv_icmp_ge (tgt := 26) hx hb d_M_fault_7 (by decide) (fun c_7 => ?_) (fun c_7 => ?_)
      · have h := of_pos h c_7
        refine lv_aload_n hx hb d_M_fault_26 rfl (lv_at hl 0 rfl) ?_
        have hPc := hP.sub (ws' := [(h_o, .inr (4, [.ref h_line, .int v_typed, .ref h_fact, .ref h_marked, .int v_count, .ref h_many, .ref h_codes, .int v_oldCount, .ref h_oldMany, .ref h_oldCodes, .int v_read, .ref h_body, .ref h_roundOf, .ref h_fresh, .int v_last])), (h_line, .inl (k_line, 32, .inl v_line))]) [0, 1] rfl
        have hDc := hD.sub (ws' := [(h_o, .inr (4, [.ref h_line, .int v_typed, .ref h_fact, .ref h_marked, .int v_count, .ref h_many, .ref h_codes, .int v_oldCount, .ref h_oldMany, .ref h_oldCodes, .int v_read, .ref h_body, .ref h_roundOf, .ref h_fresh, .int v_last])), (h_line, .inl (k_line, 32, .inl v_line))]) [0, 1] (by decide) rfl
        have hKc := hK.sub (tys' := [(k_line, .int)]) [0] rfl
        have hFc := va_free (wc := [(h_o, .inr (4, [.ref h_line, .int v_typed, .ref h_fact, .ref h_marked, .int v_count, .ref h_many, .ref h_codes, .int v_oldCount, .ref h_oldMany, .ref h_oldCodes, .int v_read, .ref h_body, .ref h_roundOf, .ref h_fresh, .int v_last])), (h_line, .inl (k_line, 32, .inl v_line))]) hD hS hA [0, 1] rfl
        obtain ⟨v_27, hc_27, h⟩ := of_bind h
        refine va_calli (va_runV (As := []) (rest := []) ⟨hx, hb, hml, hown, hts⟩ (c_M_whole l dC dI h_o h_line h_fact h_marked h_many h_codes h_oldMany h_oldCodes h_body h_roundOf h_fresh k_line H.size v_typed v_count v_oldCount v_read v_last v_line v_27.1 v_27.2 hc_27) (cwV 0 hts (gV mlk_M_69 ins_M_whole sel_M_whole ini_M cod_M_whole) rfl rfl rfl (by decide +kernel) ⟨Nat.le_of_ble_eq_true rfl, Nat.le_of_ble_eq_true rfl⟩) ⟨fun a U g mk q => by obtain ⟨q0, q1, qP, qK, qD⟩ := q; exact ⟨q0, q1, qP, va_K.moved (u := U) (U := U.calling g mk a) (Vm.Alike.refl U.vm) qK, qD⟩, va_recv hKc hPc (ci := 4) (q0 := 0) rfl rfl, fun U hU hW => ⟨rfl, by rw [hU], by rw [hU]; exact hPc, va_K.moved hW.alike hKc, hDc.weaken (fun _ _ _ _ => trivial)⟩⟩ rfl rfl hl.1 rfl (lv_room (Nat.le_of_ble_eq_true rfl)) d_M_fault_27 ⟨Nat.le_of_ble_eq_true rfl, Nat.le_of_ble_eq_true rfl⟩) hS (fun q _ h9 => hFc q h9) hFc (fun r_27 u t H1 locs ht hvm hw hB hz1 hk1 hS => ?_)
        obtain ⟨rfl, rfl⟩ := hw
        obtain ⟨hP1, hK1, hD1⟩ := hB
        rw [ht] at hP1
        obtain ⟨hP, hD⟩ := va_join (wr := []) (w1 := [(h_o, .inr (4, [.ref h_line, .int v_typed, .ref h_fact, .ref h_marked, .int v_count, .ref h_many, .ref h_codes, .int v_oldCount, .ref h_oldMany, .ref h_oldCodes, .int v_read, .ref h_body, .ref h_roundOf, .ref h_fresh, .int v_last])), (h_line, .inl (k_line, 32, .inl v_line))]) hP hD [0, 1] [] rfl rfl (by decide) (by decide) hk1 hFc hP1 hD1
        have hP := hP.sub (ws' := [(h_o, .inr (4, [.ref h_line, .int v_typed, .ref h_fact, .ref h_marked, .int v_count, .ref h_many, .ref h_codes, .int v_oldCount, .ref h_oldMany, .ref h_oldCodes, .int v_read, .ref h_body, .ref h_roundOf, .ref h_fresh, .int v_last])), (h_line, .inl (k_line, 32, .inl v_line))]) [0, 1] rfl
        have hD := hD.sub (ws' := [(h_o, .inr (4, [.ref h_line, .int v_typed, .ref h_fact, .ref h_marked, .int v_count, .ref h_many, .ref h_codes, .int v_oldCount, .ref h_oldMany, .ref h_oldCodes, .int v_read, .ref h_body, .ref h_roundOf, .ref h_fresh, .int v_last])), (h_line, .inl (k_line, 32, .inl v_line))]) [0, 1] (by decide) rfl
        generalize H1 = H at hP hS ⊢
        refine lv_if_eq (tgt := 37) hx hb d_M_fault_30 (by decide) (fun c_30 => ?_) (fun c_30 => ?_)
        · have h := of_pos h c_30
          refine lv_aload_n hx hb d_M_fault_37 rfl (lv_at hl 0 rfl) ?_
          refine va_get (D := (dC, dI)) (ci := 4) (v := .int v_typed) (C := R_M) (T := F_M) (N := 15) hx hb hts lay_M hown hK hP 0 rfl rfl 1 (by decide) (hts _ flk_M_41) (fun _ h9 => h9) rfl d_M_fault_38 ?_
          rw [hQ]
          exact W.iret (v := v_typed) hx hb hr (fun t ht hW => ⟨⟨v_typed, (), rfl, Prod.mk.inj (Option.some.inj h), by rw [ht]; exact hP, va_K.moved hW.alike hK, hD⟩, hS.F ht⟩) hS.2.2 d_M_fault_41
        · have h := of_neg h c_30
          refine lv_iconst (v := (-1 : Int32)) hx hb d_M_fault_33 (by decide) ?_
          refine lv_goto (tgt := 41) hx hb d_M_fault_34 (by decide) ?_
          rw [hQ]
          exact W.iret (v := (-1 : Int32)) hx hb hr (fun t ht hW => ⟨⟨(-1 : Int32), (), rfl, Prod.mk.inj (Option.some.inj h), by rw [ht]; exact hP, va_K.moved hW.alike hK, hD⟩, hS.F ht⟩) hS.2.2 d_M_fault_41
      · have h := of_neg h c_7
        refine lv_aload_n hx hb d_M_fault_10 rfl (lv_at hl 0 rfl) ?_
        refine lv_iload_n hx hb d_M_fault_11 rfl (lv_at hl 1 rfl) ?_
        have hPc := hP.sub (ws' := [(h_o, .inr (4, [.ref h_line, .int v_typed, .ref h_fact, .ref h_marked, .int v_count, .ref h_many, .ref h_codes, .int v_oldCount, .ref h_oldMany, .ref h_oldCodes, .int v_read, .ref h_body, .ref h_roundOf, .ref h_fresh, .int v_last])), (h_line, .inl (k_line, 32, .inl v_line))]) [0, 1] rfl
        have hDc := hD.sub (ws' := [(h_o, .inr (4, [.ref h_line, .int v_typed, .ref h_fact, .ref h_marked, .int v_count, .ref h_many, .ref h_codes, .int v_oldCount, .ref h_oldMany, .ref h_oldCodes, .int v_read, .ref h_body, .ref h_roundOf, .ref h_fresh, .int v_last])), (h_line, .inl (k_line, 32, .inl v_line))]) [0, 1] (by decide) rfl
        have hKc := hK.sub (tys' := [(k_line, .int)]) [0] rfl
        have hFc := va_free (wc := [(h_o, .inr (4, [.ref h_line, .int v_typed, .ref h_fact, .ref h_marked, .int v_count, .ref h_many, .ref h_codes, .int v_oldCount, .ref h_oldMany, .ref h_oldCodes, .int v_read, .ref h_body, .ref h_roundOf, .ref h_fresh, .int v_last])), (h_line, .inl (k_line, 32, .inl v_line))]) hD hS hA [0, 1] rfl
        obtain ⟨v_12, hc_12, h⟩ := of_bind h
        refine va_calli (va_runV (As := [.int z1]) (rest := []) ⟨hx, hb, hml, hown, hts⟩ (c_M_goesOn l dC dI h_o h_line h_fact h_marked h_many h_codes h_oldMany h_oldCodes h_body h_roundOf h_fresh k_line H.size v_typed v_count v_oldCount v_read v_last v_line z1 v_12.1 v_12.2 hc_12) (cwV 1 hts (gV mlk_M_66 ins_M_goesOn sel_M_goesOn ini_M cod_M_goesOn) rfl rfl rfl (by decide +kernel) ⟨Nat.le_of_ble_eq_true rfl, Nat.le_of_ble_eq_true rfl⟩) ⟨fun a U g mk q => by obtain ⟨q0, q1, qP, qK, qD⟩ := q; exact ⟨q0, q1, qP, va_K.moved (u := U) (U := U.calling g mk a) (Vm.Alike.refl U.vm) qK, qD⟩, va_recv hKc hPc (ci := 4) (q0 := 0) rfl rfl, fun U hU hW => ⟨rfl, by rw [hU], by rw [hU]; exact hPc, va_K.moved hW.alike hKc, hDc.weaken (fun _ _ _ _ => trivial)⟩⟩ rfl rfl hl.1 rfl (lv_room (Nat.le_of_ble_eq_true rfl)) d_M_fault_12 ⟨Nat.le_of_ble_eq_true rfl, Nat.le_of_ble_eq_true rfl⟩) hS (fun q _ h9 => hFc q h9) hFc (fun r_12 u t H1 locs ht hvm hw hB hz1 hk1 hS => ?_)
        obtain ⟨rfl, rfl⟩ := hw
        obtain ⟨hP1, hK1, hD1⟩ := hB
        rw [ht] at hP1
        obtain ⟨hP, hD⟩ := va_join (wr := []) (w1 := [(h_o, .inr (4, [.ref h_line, .int v_typed, .ref h_fact, .ref h_marked, .int v_count, .ref h_many, .ref h_codes, .int v_oldCount, .ref h_oldMany, .ref h_oldCodes, .int v_read, .ref h_body, .ref h_roundOf, .ref h_fresh, .int v_last])), (h_line, .inl (k_line, 32, .inl v_line))]) hP hD [0, 1] [] rfl rfl (by decide) (by decide) hk1 hFc hP1 hD1
        have hP := hP.sub (ws' := [(h_o, .inr (4, [.ref h_line, .int v_typed, .ref h_fact, .ref h_marked, .int v_count, .ref h_many, .ref h_codes, .int v_oldCount, .ref h_oldMany, .ref h_oldCodes, .int v_read, .ref h_body, .ref h_roundOf, .ref h_fresh, .int v_last])), (h_line, .inl (k_line, 32, .inl v_line))]) [0, 1] rfl
        have hD := hD.sub (ws' := [(h_o, .inr (4, [.ref h_line, .int v_typed, .ref h_fact, .ref h_marked, .int v_count, .ref h_many, .ref h_codes, .int v_oldCount, .ref h_oldMany, .ref h_oldCodes, .int v_read, .ref h_body, .ref h_roundOf, .ref h_fresh, .int v_last])), (h_line, .inl (k_line, 32, .inl v_line))]) [0, 1] (by decide) rfl
        generalize H1 = H at hP hS ⊢
        refine lv_if_ne (tgt := 20) hx hb d_M_fault_15 (by decide) (fun c_15 => ?_) (fun c_15 => ?_)
        · have h := of_neg h c_15
          refine lv_iinc (v := z1 + (nI 1)) (lv' := [(1, .int (z1 + (nI 1))), (0, .ref h_o)]) hx hb d_M_fault_20 hl (k := 1) rfl rfl (by decide) rfl (fun ls hl => ?_)
          refine lv_goto (tgt := 2) hx hb d_M_fault_23 (by decide) ?_
          exact ih (z1 + (nI 1)) h _ _ hP hD hS ls (lv_sub hl [1, 0] rfl)
        · have h := of_pos h c_15
          refine lv_iload_n hx hb d_M_fault_18 rfl (lv_at hl 1 rfl) ?_
          rw [hQ]
          exact W.iret (v := z1) hx hb hr (fun t ht hW => ⟨⟨z1, (), rfl, Prod.mk.inj (Option.some.inj h), by rw [ht]; exact hP, va_K.moved hW.alike hK, hD⟩, hS.F ht⟩) hS.2.2 d_M_fault_19
  unfold m_M_fault at h
  refine lv_iconst (v := (nI 0)) hx hb d_M_fault_0 (by decide) ?_
  refine lv_istore_n (lv' := [(1, .int (nI 0)), (0, .ref h_o)]) hx hb d_M_fault_1 rfl hl (by decide) rfl (fun ls hl => ?_)
  exact J_2 40 (nI 0) h _ _ hP hD hS ls (lv_sub hl [1, 0] rfl)
