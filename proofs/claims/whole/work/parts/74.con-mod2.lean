theorem d_M_relationOf_0 : decode b_M_relationOf 0 = .ok (.iload_n 0, 1) := by decide +kernel
theorem d_M_relationOf_1 : decode b_M_relationOf 1 = .ok (.bipush 97, 2) := by decide +kernel
theorem d_M_relationOf_3 : decode b_M_relationOf 3 = .ok (.if_icmp .ne 7, 3) := by decide +kernel
theorem d_M_relationOf_6 : decode b_M_relationOf 6 = .ok (.iconst 0, 1) := by decide +kernel
theorem d_M_relationOf_7 : decode b_M_relationOf 7 = .ok (.goto 14, 3) := by decide +kernel
theorem d_M_relationOf_10 : decode b_M_relationOf 10 = .ok (.iload_n 0, 1) := by decide +kernel
theorem d_M_relationOf_11 : decode b_M_relationOf 11 = .ok (.bipush 98, 2) := by decide +kernel
theorem d_M_relationOf_13 : decode b_M_relationOf 13 = .ok (.if_icmp .ne 7, 3) := by decide +kernel
theorem d_M_relationOf_16 : decode b_M_relationOf 16 = .ok (.iconst 1, 1) := by decide +kernel
theorem d_M_relationOf_17 : decode b_M_relationOf 17 = .ok (.goto 4, 3) := by decide +kernel
theorem d_M_relationOf_20 : decode b_M_relationOf 20 = .ok (.iconst 2, 1) := by decide +kernel
theorem d_M_relationOf_21 : decode b_M_relationOf 21 = .ok (.ireturn, 1) := by decide +kernel
theorem d_M_readBody_0 : decode b_M_readBody 0 = .ok (.aload_n 0, 1) := by decide +kernel
theorem d_M_readBody_1 : decode b_M_readBody 1 = .ok (.iconst 0, 1) := by decide +kernel
theorem d_M_readBody_2 : decode b_M_readBody 2 = .ok (.putfield 73, 3) := by decide +kernel
theorem d_M_readBody_5 : decode b_M_readBody 5 = .ok (.bipush 8, 2) := by decide +kernel
theorem d_M_readBody_7 : decode b_M_readBody 7 = .ok (.istore_n 1, 1) := by decide +kernel
theorem d_M_readBody_8 : decode b_M_readBody 8 = .ok (.iload_n 1, 1) := by decide +kernel
theorem d_M_readBody_9 : decode b_M_readBody 9 = .ok (.aload_n 0, 1) := by decide +kernel
theorem d_M_readBody_10 : decode b_M_readBody 10 = .ok (.getfield 41, 3) := by decide +kernel
theorem d_M_readBody_13 : decode b_M_readBody 13 = .ok (.if_icmp .ge 106, 3) := by decide +kernel
theorem d_M_readBody_16 : decode b_M_readBody 16 = .ok (.bipush 9, 2) := by decide +kernel
theorem d_M_readBody_18 : decode b_M_readBody 18 = .ok (.aload_n 0, 1) := by decide +kernel
theorem d_M_readBody_19 : decode b_M_readBody 19 = .ok (.getfield 7, 3) := by decide +kernel
theorem d_M_readBody_22 : decode b_M_readBody 22 = .ok (.iload_n 1, 1) := by decide +kernel
theorem d_M_readBody_23 : decode b_M_readBody 23 = .ok (.iaload, 1) := by decide +kernel
theorem d_M_readBody_24 : decode b_M_readBody 24 = .ok (.invokestatic 76, 3) := by decide +kernel
theorem d_M_readBody_27 : decode b_M_readBody 27 = .ok (.imul, 1) := by decide +kernel
theorem d_M_readBody_28 : decode b_M_readBody 28 = .ok (.iconst 3, 1) := by decide +kernel
theorem d_M_readBody_29 : decode b_M_readBody 29 = .ok (.aload_n 0, 1) := by decide +kernel
theorem d_M_readBody_30 : decode b_M_readBody 30 = .ok (.getfield 7, 3) := by decide +kernel
theorem d_M_readBody_33 : decode b_M_readBody 33 = .ok (.iload_n 1, 1) := by decide +kernel
theorem d_M_readBody_34 : decode b_M_readBody 34 = .ok (.iconst 2, 1) := by decide +kernel
theorem d_M_readBody_35 : decode b_M_readBody 35 = .ok (.iadd, 1) := by decide +kernel
theorem d_M_readBody_36 : decode b_M_readBody 36 = .ok (.iaload, 1) := by decide +kernel
theorem d_M_readBody_37 : decode b_M_readBody 37 = .ok (.bipush 88, 2) := by decide +kernel
theorem d_M_readBody_39 : decode b_M_readBody 39 = .ok (.isub, 1) := by decide +kernel
theorem d_M_readBody_40 : decode b_M_readBody 40 = .ok (.imul, 1) := by decide +kernel
theorem d_M_readBody_41 : decode b_M_readBody 41 = .ok (.iadd, 1) := by decide +kernel
theorem d_M_readBody_42 : decode b_M_readBody 42 = .ok (.aload_n 0, 1) := by decide +kernel
theorem d_M_readBody_43 : decode b_M_readBody 43 = .ok (.getfield 7, 3) := by decide +kernel
theorem d_M_readBody_46 : decode b_M_readBody 46 = .ok (.iload_n 1, 1) := by decide +kernel
theorem d_M_readBody_47 : decode b_M_readBody 47 = .ok (.iconst 4, 1) := by decide +kernel
theorem d_M_readBody_48 : decode b_M_readBody 48 = .ok (.iadd, 1) := by decide +kernel
theorem d_M_readBody_49 : decode b_M_readBody 49 = .ok (.iaload, 1) := by decide +kernel
theorem d_M_readBody_50 : decode b_M_readBody 50 = .ok (.iadd, 1) := by decide +kernel
theorem d_M_readBody_51 : decode b_M_readBody 51 = .ok (.bipush 88, 2) := by decide +kernel
theorem d_M_readBody_53 : decode b_M_readBody 53 = .ok (.isub, 1) := by decide +kernel
theorem d_M_readBody_54 : decode b_M_readBody 54 = .ok (.istore_n 2, 1) := by decide +kernel
theorem d_M_readBody_55 : decode b_M_readBody 55 = .ok (.aload_n 0, 1) := by decide +kernel
theorem d_M_readBody_56 : decode b_M_readBody 56 = .ok (.getfield 73, 3) := by decide +kernel
theorem d_M_readBody_59 : decode b_M_readBody 59 = .ok (.istore_n 3, 1) := by decide +kernel
theorem d_M_readBody_60 : decode b_M_readBody 60 = .ok (.iload_n 3, 1) := by decide +kernel
theorem d_M_readBody_61 : decode b_M_readBody 61 = .ok (.ifCond .le 35, 3) := by decide +kernel
theorem d_M_readBody_64 : decode b_M_readBody 64 = .ok (.aload_n 0, 1) := by decide +kernel
theorem d_M_readBody_65 : decode b_M_readBody 65 = .ok (.getfield 32, 3) := by decide +kernel
theorem d_M_readBody_68 : decode b_M_readBody 68 = .ok (.iload_n 3, 1) := by decide +kernel
theorem d_M_readBody_69 : decode b_M_readBody 69 = .ok (.iconst 1, 1) := by decide +kernel
theorem d_M_readBody_70 : decode b_M_readBody 70 = .ok (.isub, 1) := by decide +kernel
theorem d_M_readBody_71 : decode b_M_readBody 71 = .ok (.iaload, 1) := by decide +kernel
theorem d_M_readBody_72 : decode b_M_readBody 72 = .ok (.iload_n 2, 1) := by decide +kernel
theorem d_M_readBody_73 : decode b_M_readBody 73 = .ok (.if_icmp .le 23, 3) := by decide +kernel
theorem d_M_readBody_76 : decode b_M_readBody 76 = .ok (.aload_n 0, 1) := by decide +kernel
theorem d_M_readBody_77 : decode b_M_readBody 77 = .ok (.getfield 32, 3) := by decide +kernel
theorem d_M_readBody_80 : decode b_M_readBody 80 = .ok (.iload_n 3, 1) := by decide +kernel
theorem d_M_readBody_81 : decode b_M_readBody 81 = .ok (.aload_n 0, 1) := by decide +kernel
theorem d_M_readBody_82 : decode b_M_readBody 82 = .ok (.getfield 32, 3) := by decide +kernel
theorem d_M_readBody_85 : decode b_M_readBody 85 = .ok (.iload_n 3, 1) := by decide +kernel
theorem d_M_readBody_86 : decode b_M_readBody 86 = .ok (.iconst 1, 1) := by decide +kernel
theorem d_M_readBody_87 : decode b_M_readBody 87 = .ok (.isub, 1) := by decide +kernel
theorem d_M_readBody_88 : decode b_M_readBody 88 = .ok (.iaload, 1) := by decide +kernel
theorem d_M_readBody_89 : decode b_M_readBody 89 = .ok (.iastore, 1) := by decide +kernel
theorem d_M_readBody_90 : decode b_M_readBody 90 = .ok (.iinc 3 (-1), 3) := by decide +kernel
theorem d_M_readBody_93 : decode b_M_readBody 93 = .ok (.goto (-33), 3) := by decide +kernel
theorem d_M_readBody_96 : decode b_M_readBody 96 = .ok (.aload_n 0, 1) := by decide +kernel
theorem d_M_readBody_97 : decode b_M_readBody 97 = .ok (.getfield 32, 3) := by decide +kernel
theorem d_M_readBody_100 : decode b_M_readBody 100 = .ok (.iload_n 3, 1) := by decide +kernel
theorem d_M_readBody_101 : decode b_M_readBody 101 = .ok (.iload_n 2, 1) := by decide +kernel
theorem d_M_readBody_102 : decode b_M_readBody 102 = .ok (.iastore, 1) := by decide +kernel
theorem d_M_readBody_103 : decode b_M_readBody 103 = .ok (.aload_n 0, 1) := by decide +kernel
theorem d_M_readBody_104 : decode b_M_readBody 104 = .ok (.dup, 1) := by decide +kernel
theorem d_M_readBody_105 : decode b_M_readBody 105 = .ok (.getfield 73, 3) := by decide +kernel
theorem d_M_readBody_108 : decode b_M_readBody 108 = .ok (.iconst 1, 1) := by decide +kernel
theorem d_M_readBody_109 : decode b_M_readBody 109 = .ok (.iadd, 1) := by decide +kernel
theorem d_M_readBody_110 : decode b_M_readBody 110 = .ok (.putfield 73, 3) := by decide +kernel
theorem d_M_readBody_113 : decode b_M_readBody 113 = .ok (.iinc 1 7, 3) := by decide +kernel
theorem d_M_readBody_116 : decode b_M_readBody 116 = .ok (.goto (-108), 3) := by decide +kernel
theorem d_M_readBody_119 : decode b_M_readBody 119 = .ok (.return_, 1) := by decide +kernel
theorem d_M_variables_0 : decode b_M_variables 0 = .ok (.iconst 1, 1) := by decide +kernel
theorem d_M_variables_1 : decode b_M_variables 1 = .ok (.iload_n 0, 1) := by decide +kernel
theorem d_M_variables_2 : decode b_M_variables 2 = .ok (.iconst 3, 1) := by decide +kernel
theorem d_M_variables_3 : decode b_M_variables 3 = .ok (.idiv, 1) := by decide +kernel
theorem d_M_variables_4 : decode b_M_variables 4 = .ok (.iconst 3, 1) := by decide +kernel
theorem d_M_variables_5 : decode b_M_variables 5 = .ok (.irem, 1) := by decide +kernel
theorem d_M_variables_6 : decode b_M_variables 6 = .ok (.ishl, 1) := by decide +kernel
theorem d_M_variables_7 : decode b_M_variables 7 = .ok (.iconst 1, 1) := by decide +kernel
theorem d_M_variables_8 : decode b_M_variables 8 = .ok (.iload_n 0, 1) := by decide +kernel
theorem d_M_variables_9 : decode b_M_variables 9 = .ok (.iconst 3, 1) := by decide +kernel
theorem d_M_variables_10 : decode b_M_variables 10 = .ok (.irem, 1) := by decide +kernel
theorem d_M_variables_11 : decode b_M_variables 11 = .ok (.ishl, 1) := by decide +kernel
theorem d_M_variables_12 : decode b_M_variables 12 = .ok (.ior, 1) := by decide +kernel
theorem d_M_variables_13 : decode b_M_variables 13 = .ok (.ireturn, 1) := by decide +kernel
theorem d_M_known_0 : decode b_M_known 0 = .ok (.aload_n 0, 1) := by decide +kernel
theorem d_M_known_1 : decode b_M_known 1 = .ok (.getfield 20, 3) := by decide +kernel
theorem d_M_known_4 : decode b_M_known 4 = .ok (.iload_n 1, 1) := by decide +kernel
theorem d_M_known_5 : decode b_M_known 5 = .ok (.iaload, 1) := by decide +kernel
theorem d_M_known_6 : decode b_M_known 6 = .ok (.aload_n 0, 1) := by decide +kernel
theorem d_M_known_7 : decode b_M_known 7 = .ok (.getfield 73, 3) := by decide +kernel
theorem d_M_known_10 : decode b_M_known 10 = .ok (.if_icmp .ne 7, 3) := by decide +kernel
theorem d_M_known_13 : decode b_M_known 13 = .ok (.iconst 1, 1) := by decide +kernel
theorem d_M_known_14 : decode b_M_known 14 = .ok (.goto 4, 3) := by decide +kernel
theorem d_M_known_17 : decode b_M_known 17 = .ok (.iconst 0, 1) := by decide +kernel
theorem d_M_known_18 : decode b_M_known 18 = .ok (.istore_n 2, 1) := by decide +kernel
theorem d_M_known_19 : decode b_M_known 19 = .ok (.iconst 0, 1) := by decide +kernel
theorem d_M_known_20 : decode b_M_known 20 = .ok (.istore_n 3, 1) := by decide +kernel
theorem d_M_known_21 : decode b_M_known 21 = .ok (.iload_n 3, 1) := by decide +kernel
theorem d_M_known_22 : decode b_M_known 22 = .ok (.aload_n 0, 1) := by decide +kernel
theorem d_M_known_23 : decode b_M_known 23 = .ok (.getfield 73, 3) := by decide +kernel
theorem d_M_known_26 : decode b_M_known 26 = .ok (.if_icmp .ge 38, 3) := by decide +kernel
theorem d_M_known_29 : decode b_M_known 29 = .ok (.iload_n 2, 1) := by decide +kernel
theorem d_M_known_30 : decode b_M_known 30 = .ok (.ifCond .eq 34, 3) := by decide +kernel
theorem d_M_known_33 : decode b_M_known 33 = .ok (.aload_n 0, 1) := by decide +kernel
theorem d_M_known_34 : decode b_M_known 34 = .ok (.getfield 23, 3) := by decide +kernel
theorem d_M_known_37 : decode b_M_known 37 = .ok (.iconst 3, 1) := by decide +kernel
theorem d_M_known_38 : decode b_M_known 38 = .ok (.iload_n 1, 1) := by decide +kernel
theorem d_M_known_39 : decode b_M_known 39 = .ok (.imul, 1) := by decide +kernel
theorem d_M_known_40 : decode b_M_known 40 = .ok (.iload_n 3, 1) := by decide +kernel
theorem d_M_known_41 : decode b_M_known 41 = .ok (.iadd, 1) := by decide +kernel
theorem d_M_known_42 : decode b_M_known 42 = .ok (.iaload, 1) := by decide +kernel
theorem d_M_known_43 : decode b_M_known 43 = .ok (.aload_n 0, 1) := by decide +kernel
theorem d_M_known_44 : decode b_M_known 44 = .ok (.getfield 32, 3) := by decide +kernel
theorem d_M_known_47 : decode b_M_known 47 = .ok (.iload_n 3, 1) := by decide +kernel
theorem d_M_known_48 : decode b_M_known 48 = .ok (.iaload, 1) := by decide +kernel
theorem d_M_known_49 : decode b_M_known 49 = .ok (.if_icmp .ne 7, 3) := by decide +kernel
theorem d_M_known_52 : decode b_M_known 52 = .ok (.iconst 1, 1) := by decide +kernel
theorem d_M_known_53 : decode b_M_known 53 = .ok (.goto 4, 3) := by decide +kernel
theorem d_M_known_56 : decode b_M_known 56 = .ok (.iconst 0, 1) := by decide +kernel
theorem d_M_known_57 : decode b_M_known 57 = .ok (.istore_n 2, 1) := by decide +kernel
theorem d_M_known_58 : decode b_M_known 58 = .ok (.iinc 3 1, 3) := by decide +kernel
theorem d_M_known_61 : decode b_M_known 61 = .ok (.goto (-40), 3) := by decide +kernel
theorem d_M_known_64 : decode b_M_known 64 = .ok (.iload_n 2, 1) := by decide +kernel
theorem d_M_known_65 : decode b_M_known 65 = .ok (.ireturn, 1) := by decide +kernel
theorem d_M_enterClause_0 : decode b_M_enterClause 0 = .ok (.aload_n 0, 1) := by decide +kernel
theorem d_M_enterClause_1 : decode b_M_enterClause 1 = .ok (.invokevirtual 79, 3) := by decide +kernel
theorem d_M_enterClause_4 : decode b_M_enterClause 4 = .ok (.iconst 0, 1) := by decide +kernel
theorem d_M_enterClause_5 : decode b_M_enterClause 5 = .ok (.istore_n 1, 1) := by decide +kernel
theorem d_M_enterClause_6 : decode b_M_enterClause 6 = .ok (.iconst 0, 1) := by decide +kernel
theorem d_M_enterClause_7 : decode b_M_enterClause 7 = .ok (.istore_n 2, 1) := by decide +kernel
theorem d_M_enterClause_8 : decode b_M_enterClause 8 = .ok (.iconst 0, 1) := by decide +kernel
theorem d_M_enterClause_9 : decode b_M_enterClause 9 = .ok (.istore_n 3, 1) := by decide +kernel
theorem d_M_enterClause_10 : decode b_M_enterClause 10 = .ok (.iload_n 3, 1) := by decide +kernel
theorem d_M_enterClause_11 : decode b_M_enterClause 11 = .ok (.aload_n 0, 1) := by decide +kernel
theorem d_M_enterClause_12 : decode b_M_enterClause 12 = .ok (.getfield 73, 3) := by decide +kernel
theorem d_M_enterClause_15 : decode b_M_enterClause 15 = .ok (.if_icmp .ge 52, 3) := by decide +kernel
theorem d_M_enterClause_18 : decode b_M_enterClause 18 = .ok (.iload_n 1, 1) := by decide +kernel
theorem d_M_enterClause_19 : decode b_M_enterClause 19 = .ok (.aload_n 0, 1) := by decide +kernel
theorem d_M_enterClause_20 : decode b_M_enterClause 20 = .ok (.getfield 32, 3) := by decide +kernel
theorem d_M_enterClause_23 : decode b_M_enterClause 23 = .ok (.iload_n 3, 1) := by decide +kernel
theorem d_M_enterClause_24 : decode b_M_enterClause 24 = .ok (.iaload, 1) := by decide +kernel
theorem d_M_enterClause_25 : decode b_M_enterClause 25 = .ok (.invokestatic 82, 3) := by decide +kernel
theorem d_M_enterClause_28 : decode b_M_enterClause 28 = .ok (.ior, 1) := by decide +kernel
theorem d_M_enterClause_29 : decode b_M_enterClause 29 = .ok (.istore_n 1, 1) := by decide +kernel
theorem d_M_enterClause_30 : decode b_M_enterClause 30 = .ok (.iload_n 2, 1) := by decide +kernel
theorem d_M_enterClause_31 : decode b_M_enterClause 31 = .ok (.ifCond .ne 24, 3) := by decide +kernel
theorem d_M_enterClause_34 : decode b_M_enterClause 34 = .ok (.iload_n 3, 1) := by decide +kernel
theorem d_M_enterClause_35 : decode b_M_enterClause 35 = .ok (.ifCond .le 24, 3) := by decide +kernel
theorem d_M_enterClause_38 : decode b_M_enterClause 38 = .ok (.aload_n 0, 1) := by decide +kernel
theorem d_M_enterClause_39 : decode b_M_enterClause 39 = .ok (.getfield 32, 3) := by decide +kernel
theorem d_M_enterClause_42 : decode b_M_enterClause 42 = .ok (.iload_n 3, 1) := by decide +kernel
theorem d_M_enterClause_43 : decode b_M_enterClause 43 = .ok (.iconst 1, 1) := by decide +kernel
theorem d_M_enterClause_44 : decode b_M_enterClause 44 = .ok (.isub, 1) := by decide +kernel
theorem d_M_enterClause_45 : decode b_M_enterClause 45 = .ok (.iaload, 1) := by decide +kernel
theorem d_M_enterClause_46 : decode b_M_enterClause 46 = .ok (.aload_n 0, 1) := by decide +kernel
theorem d_M_enterClause_47 : decode b_M_enterClause 47 = .ok (.getfield 32, 3) := by decide +kernel
theorem d_M_enterClause_50 : decode b_M_enterClause 50 = .ok (.iload_n 3, 1) := by decide +kernel
theorem d_M_enterClause_51 : decode b_M_enterClause 51 = .ok (.iaload, 1) := by decide +kernel
theorem d_M_enterClause_52 : decode b_M_enterClause 52 = .ok (.if_icmp .ne 7, 3) := by decide +kernel
theorem d_M_enterClause_55 : decode b_M_enterClause 55 = .ok (.iconst 1, 1) := by decide +kernel
theorem d_M_enterClause_56 : decode b_M_enterClause 56 = .ok (.goto 4, 3) := by decide +kernel
theorem d_M_enterClause_59 : decode b_M_enterClause 59 = .ok (.iconst 0, 1) := by decide +kernel
theorem d_M_enterClause_60 : decode b_M_enterClause 60 = .ok (.istore_n 2, 1) := by decide +kernel
theorem d_M_enterClause_61 : decode b_M_enterClause 61 = .ok (.iinc 3 1, 3) := by decide +kernel
theorem d_M_enterClause_64 : decode b_M_enterClause 64 = .ok (.goto (-54), 3) := by decide +kernel
theorem d_M_enterClause_67 : decode b_M_enterClause 67 = .ok (.iload_n 2, 1) := by decide +kernel
theorem d_M_enterClause_68 : decode b_M_enterClause 68 = .ok (.ifCond .eq 6, 3) := by decide +kernel
theorem d_M_enterClause_71 : decode b_M_enterClause 71 = .ok (.bipush (-100), 2) := by decide +kernel
theorem d_M_enterClause_73 : decode b_M_enterClause 73 = .ok (.ireturn, 1) := by decide +kernel
theorem d_M_enterClause_74 : decode b_M_enterClause 74 = .ok (.iload_n 1, 1) := by decide +kernel
theorem d_M_enterClause_75 : decode b_M_enterClause 75 = .ok (.iconst 3, 1) := by decide +kernel
theorem d_M_enterClause_76 : decode b_M_enterClause 76 = .ok (.iand, 1) := by decide +kernel
theorem d_M_enterClause_77 : decode b_M_enterClause 77 = .ok (.iconst 3, 1) := by decide +kernel
theorem d_M_enterClause_78 : decode b_M_enterClause 78 = .ok (.if_icmp .eq 6, 3) := by decide +kernel
theorem d_M_enterClause_81 : decode b_M_enterClause 81 = .ok (.bipush (-101), 2) := by decide +kernel
theorem d_M_enterClause_83 : decode b_M_enterClause 83 = .ok (.ireturn, 1) := by decide +kernel
theorem d_M_enterClause_84 : decode b_M_enterClause 84 = .ok (.iconst 0, 1) := by decide +kernel
theorem d_M_enterClause_85 : decode b_M_enterClause 85 = .ok (.istore_n 3, 1) := by decide +kernel
theorem d_M_enterClause_86 : decode b_M_enterClause 86 = .ok (.iload_n 3, 1) := by decide +kernel
theorem d_M_enterClause_87 : decode b_M_enterClause 87 = .ok (.aload_n 0, 1) := by decide +kernel
theorem d_M_enterClause_88 : decode b_M_enterClause 88 = .ok (.getfield 85, 3) := by decide +kernel
theorem d_M_enterClause_91 : decode b_M_enterClause 91 = .ok (.if_icmp .ge 20, 3) := by decide +kernel
theorem d_M_enterClause_94 : decode b_M_enterClause 94 = .ok (.aload_n 0, 1) := by decide +kernel
theorem d_M_enterClause_95 : decode b_M_enterClause 95 = .ok (.iload_n 3, 1) := by decide +kernel
theorem d_M_enterClause_96 : decode b_M_enterClause 96 = .ok (.invokevirtual 88, 3) := by decide +kernel
theorem d_M_enterClause_99 : decode b_M_enterClause 99 = .ok (.ifCond .eq 6, 3) := by decide +kernel
theorem d_M_enterClause_102 : decode b_M_enterClause 102 = .ok (.bipush (-102), 2) := by decide +kernel
theorem d_M_enterClause_104 : decode b_M_enterClause 104 = .ok (.ireturn, 1) := by decide +kernel
theorem d_M_enterClause_105 : decode b_M_enterClause 105 = .ok (.iinc 3 1, 3) := by decide +kernel
theorem d_M_enterClause_108 : decode b_M_enterClause 108 = .ok (.goto (-22), 3) := by decide +kernel
theorem d_M_enterClause_111 : decode b_M_enterClause 111 = .ok (.aload_n 0, 1) := by decide +kernel
theorem d_M_enterClause_112 : decode b_M_enterClause 112 = .ok (.getfield 85, 3) := by decide +kernel
theorem d_M_enterClause_115 : decode b_M_enterClause 115 = .ok (.iconst 2, 1) := by decide +kernel
theorem d_M_enterClause_116 : decode b_M_enterClause 116 = .ok (.if_icmp .ne 6, 3) := by decide +kernel
theorem d_M_enterClause_119 : decode b_M_enterClause 119 = .ok (.bipush (-103), 2) := by decide +kernel
theorem d_M_enterClause_121 : decode b_M_enterClause 121 = .ok (.ireturn, 1) := by decide +kernel
theorem d_M_enterClause_122 : decode b_M_enterClause 122 = .ok (.aload_n 0, 1) := by decide +kernel
theorem d_M_enterClause_123 : decode b_M_enterClause 123 = .ok (.getfield 20, 3) := by decide +kernel
theorem d_M_enterClause_126 : decode b_M_enterClause 126 = .ok (.aload_n 0, 1) := by decide +kernel
theorem d_M_enterClause_127 : decode b_M_enterClause 127 = .ok (.getfield 85, 3) := by decide +kernel
theorem d_M_enterClause_130 : decode b_M_enterClause 130 = .ok (.aload_n 0, 1) := by decide +kernel
theorem d_M_enterClause_131 : decode b_M_enterClause 131 = .ok (.getfield 73, 3) := by decide +kernel
theorem d_M_enterClause_134 : decode b_M_enterClause 134 = .ok (.iastore, 1) := by decide +kernel
theorem d_M_enterClause_135 : decode b_M_enterClause 135 = .ok (.iconst 0, 1) := by decide +kernel
theorem d_M_enterClause_136 : decode b_M_enterClause 136 = .ok (.istore_n 3, 1) := by decide +kernel
theorem d_M_enterClause_137 : decode b_M_enterClause 137 = .ok (.iload_n 3, 1) := by decide +kernel
theorem d_M_enterClause_138 : decode b_M_enterClause 138 = .ok (.aload_n 0, 1) := by decide +kernel
theorem d_M_enterClause_139 : decode b_M_enterClause 139 = .ok (.getfield 73, 3) := by decide +kernel
theorem d_M_enterClause_142 : decode b_M_enterClause 142 = .ok (.if_icmp .ge 28, 3) := by decide +kernel
theorem d_M_enterClause_145 : decode b_M_enterClause 145 = .ok (.aload_n 0, 1) := by decide +kernel
theorem d_M_enterClause_146 : decode b_M_enterClause 146 = .ok (.getfield 23, 3) := by decide +kernel
theorem d_M_enterClause_149 : decode b_M_enterClause 149 = .ok (.iconst 3, 1) := by decide +kernel
theorem d_M_enterClause_150 : decode b_M_enterClause 150 = .ok (.aload_n 0, 1) := by decide +kernel
theorem d_M_enterClause_151 : decode b_M_enterClause 151 = .ok (.getfield 85, 3) := by decide +kernel
theorem d_M_enterClause_154 : decode b_M_enterClause 154 = .ok (.imul, 1) := by decide +kernel
theorem d_M_enterClause_155 : decode b_M_enterClause 155 = .ok (.iload_n 3, 1) := by decide +kernel
theorem d_M_enterClause_156 : decode b_M_enterClause 156 = .ok (.iadd, 1) := by decide +kernel
theorem d_M_enterClause_157 : decode b_M_enterClause 157 = .ok (.aload_n 0, 1) := by decide +kernel
theorem d_M_enterClause_158 : decode b_M_enterClause 158 = .ok (.getfield 32, 3) := by decide +kernel
theorem d_M_enterClause_161 : decode b_M_enterClause 161 = .ok (.iload_n 3, 1) := by decide +kernel
theorem d_M_enterClause_162 : decode b_M_enterClause 162 = .ok (.iaload, 1) := by decide +kernel
theorem d_M_enterClause_163 : decode b_M_enterClause 163 = .ok (.iastore, 1) := by decide +kernel
theorem d_M_enterClause_164 : decode b_M_enterClause 164 = .ok (.iinc 3 1, 3) := by decide +kernel
theorem d_M_enterClause_167 : decode b_M_enterClause 167 = .ok (.goto (-30), 3) := by decide +kernel
theorem d_M_enterClause_170 : decode b_M_enterClause 170 = .ok (.aload_n 0, 1) := by decide +kernel
theorem d_M_enterClause_171 : decode b_M_enterClause 171 = .ok (.dup, 1) := by decide +kernel
theorem d_M_enterClause_172 : decode b_M_enterClause 172 = .ok (.getfield 85, 3) := by decide +kernel
theorem d_M_enterClause_175 : decode b_M_enterClause 175 = .ok (.iconst 1, 1) := by decide +kernel
theorem d_M_enterClause_176 : decode b_M_enterClause 176 = .ok (.iadd, 1) := by decide +kernel
theorem d_M_enterClause_177 : decode b_M_enterClause 177 = .ok (.putfield 85, 3) := by decide +kernel
theorem d_M_enterClause_180 : decode b_M_enterClause 180 = .ok (.bipush 9, 2) := by decide +kernel
theorem d_M_enterClause_182 : decode b_M_enterClause 182 = .ok (.aload_n 0, 1) := by decide +kernel
theorem d_M_enterClause_183 : decode b_M_enterClause 183 = .ok (.getfield 85, 3) := by decide +kernel
theorem d_M_enterClause_186 : decode b_M_enterClause 186 = .ok (.iadd, 1) := by decide +kernel
theorem d_M_enterClause_187 : decode b_M_enterClause 187 = .ok (.ireturn, 1) := by decide +kernel
theorem d_M_enterMark_0 : decode b_M_enterMark 0 = .ok (.aload_n 0, 1) := by decide +kernel
theorem d_M_enterMark_1 : decode b_M_enterMark 1 = .ok (.getfield 17, 3) := by decide +kernel
theorem d_M_enterMark_4 : decode b_M_enterMark 4 = .ok (.iload_n 1, 1) := by decide +kernel
theorem d_M_enterMark_5 : decode b_M_enterMark 5 = .ok (.iaload, 1) := by decide +kernel
theorem d_M_enterMark_6 : decode b_M_enterMark 6 = .ok (.iload_n 2, 1) := by decide +kernel
theorem d_M_enterMark_7 : decode b_M_enterMark 7 = .ok (.if_icmp .eq 7, 3) := by decide +kernel
theorem d_M_enterMark_10 : decode b_M_enterMark 10 = .ok (.iconst 1, 1) := by decide +kernel
theorem d_M_enterMark_11 : decode b_M_enterMark 11 = .ok (.goto 4, 3) := by decide +kernel
theorem d_M_enterMark_14 : decode b_M_enterMark 14 = .ok (.iconst 0, 1) := by decide +kernel
theorem d_M_enterMark_15 : decode b_M_enterMark 15 = .ok (.istore_n 3, 1) := by decide +kernel
theorem d_M_enterMark_16 : decode b_M_enterMark 16 = .ok (.aload_n 0, 1) := by decide +kernel
theorem d_M_enterMark_17 : decode b_M_enterMark 17 = .ok (.getfield 17, 3) := by decide +kernel
theorem d_M_enterMark_20 : decode b_M_enterMark 20 = .ok (.iload_n 1, 1) := by decide +kernel
theorem d_M_enterMark_21 : decode b_M_enterMark 21 = .ok (.iload_n 2, 1) := by decide +kernel
theorem d_M_enterMark_22 : decode b_M_enterMark 22 = .ok (.iastore, 1) := by decide +kernel
theorem d_M_enterMark_23 : decode b_M_enterMark 23 = .ok (.iload_n 3, 1) := by decide +kernel
theorem d_M_enterMark_24 : decode b_M_enterMark 24 = .ok (.ifCond .eq 7, 3) := by decide +kernel
theorem d_M_enterMark_27 : decode b_M_enterMark 27 = .ok (.iconst 1, 1) := by decide +kernel
theorem d_M_enterMark_28 : decode b_M_enterMark 28 = .ok (.goto 4, 3) := by decide +kernel
theorem d_M_enterMark_31 : decode b_M_enterMark 31 = .ok (.iconst 0, 1) := by decide +kernel
theorem d_M_enterMark_32 : decode b_M_enterMark 32 = .ok (.ireturn, 1) := by decide +kernel
theorem d_M_enterFact_0 : decode b_M_enterFact 0 = .ok (.aload_n 0, 1) := by decide +kernel
theorem d_M_enterFact_1 : decode b_M_enterFact 1 = .ok (.getfield 13, 3) := by decide +kernel
theorem d_M_enterFact_4 : decode b_M_enterFact 4 = .ok (.iload_n 1, 1) := by decide +kernel
theorem d_M_enterFact_5 : decode b_M_enterFact 5 = .ok (.baload, 1) := by decide +kernel
theorem d_M_enterFact_6 : decode b_M_enterFact 6 = .ok (.iload_n 2, 1) := by decide +kernel
theorem d_M_enterFact_7 : decode b_M_enterFact 7 = .ok (.if_icmp .eq 7, 3) := by decide +kernel
theorem d_M_enterFact_10 : decode b_M_enterFact 10 = .ok (.iconst 1, 1) := by decide +kernel
theorem d_M_enterFact_11 : decode b_M_enterFact 11 = .ok (.goto 4, 3) := by decide +kernel
theorem d_M_enterFact_14 : decode b_M_enterFact 14 = .ok (.iconst 0, 1) := by decide +kernel
theorem d_M_enterFact_15 : decode b_M_enterFact 15 = .ok (.istore_n 3, 1) := by decide +kernel
theorem d_M_enterFact_16 : decode b_M_enterFact 16 = .ok (.aload_n 0, 1) := by decide +kernel
theorem d_M_enterFact_17 : decode b_M_enterFact 17 = .ok (.getfield 13, 3) := by decide +kernel
theorem d_M_enterFact_20 : decode b_M_enterFact 20 = .ok (.iload_n 1, 1) := by decide +kernel
theorem d_M_enterFact_21 : decode b_M_enterFact 21 = .ok (.iload_n 2, 1) := by decide +kernel
theorem d_M_enterFact_22 : decode b_M_enterFact 22 = .ok (.bastore, 1) := by decide +kernel
theorem d_M_enterFact_23 : decode b_M_enterFact 23 = .ok (.iload_n 3, 1) := by decide +kernel
theorem d_M_enterFact_24 : decode b_M_enterFact 24 = .ok (.ifCond .eq 7, 3) := by decide +kernel
theorem d_M_enterFact_27 : decode b_M_enterFact 27 = .ok (.iconst 1, 1) := by decide +kernel
theorem d_M_enterFact_28 : decode b_M_enterFact 28 = .ok (.goto 4, 3) := by decide +kernel
theorem d_M_enterFact_31 : decode b_M_enterFact 31 = .ok (.iconst 0, 1) := by decide +kernel
theorem d_M_enterFact_32 : decode b_M_enterFact 32 = .ok (.ireturn, 1) := by decide +kernel
theorem d_M_enter_0 : decode b_M_enter 0 = .ok (.aload_n 0, 1) := by decide +kernel
theorem d_M_enter_1 : decode b_M_enter 1 = .ok (.invokevirtual 91, 3) := by decide +kernel
theorem d_M_enter_4 : decode b_M_enter 4 = .ok (.istore_n 1, 1) := by decide +kernel
theorem d_M_enter_5 : decode b_M_enter 5 = .ok (.aload_n 0, 1) := by decide +kernel
theorem d_M_enter_6 : decode b_M_enter 6 = .ok (.getfield 41, 3) := by decide +kernel
theorem d_M_enter_9 : decode b_M_enter 9 = .ok (.istore_n 2, 1) := by decide +kernel
theorem d_M_enter_10 : decode b_M_enter 10 = .ok (.iload_n 1, 1) := by decide +kernel
theorem d_M_enter_11 : decode b_M_enter 11 = .ok (.ifCond .lt 12, 3) := by decide +kernel
theorem d_M_enter_14 : decode b_M_enter 14 = .ok (.aload_n 0, 1) := by decide +kernel
theorem d_M_enter_15 : decode b_M_enter 15 = .ok (.iconst 0, 1) := by decide +kernel
theorem d_M_enter_16 : decode b_M_enter 16 = .ok (.putfield 41, 3) := by decide +kernel
theorem d_M_enter_19 : decode b_M_enter 19 = .ok (.iconst (-1), 1) := by decide +kernel
theorem d_M_enter_20 : decode b_M_enter 20 = .ok (.iload_n 1, 1) := by decide +kernel
theorem d_M_enter_21 : decode b_M_enter 21 = .ok (.isub, 1) := by decide +kernel
theorem d_M_enter_22 : decode b_M_enter 22 = .ok (.ireturn, 1) := by decide +kernel
theorem d_M_enter_23 : decode b_M_enter 23 = .ok (.aload_n 0, 1) := by decide +kernel
theorem d_M_enter_24 : decode b_M_enter 24 = .ok (.getfield 7, 3) := by decide +kernel
theorem d_M_enter_27 : decode b_M_enter 27 = .ok (.iconst 0, 1) := by decide +kernel
theorem d_M_enter_28 : decode b_M_enter 28 = .ok (.iaload, 1) := by decide +kernel
theorem d_M_enter_29 : decode b_M_enter 29 = .ok (.bipush 116, 2) := by decide +kernel
theorem d_M_enter_31 : decode b_M_enter 31 = .ok (.if_icmp .ne 15, 3) := by decide +kernel
theorem d_M_enter_34 : decode b_M_enter 34 = .ok (.aload_n 0, 1) := by decide +kernel
theorem d_M_enter_35 : decode b_M_enter 35 = .ok (.invokevirtual 95, 3) := by decide +kernel
theorem d_M_enter_38 : decode b_M_enter 38 = .ok (.istore_n 3, 1) := by decide +kernel
theorem d_M_enter_39 : decode b_M_enter 39 = .ok (.aload_n 0, 1) := by decide +kernel
theorem d_M_enter_40 : decode b_M_enter 40 = .ok (.iconst 0, 1) := by decide +kernel
theorem d_M_enter_41 : decode b_M_enter 41 = .ok (.putfield 41, 3) := by decide +kernel
theorem d_M_enter_44 : decode b_M_enter 44 = .ok (.iload_n 3, 1) := by decide +kernel
theorem d_M_enter_45 : decode b_M_enter 45 = .ok (.ireturn, 1) := by decide +kernel
theorem d_M_enter_46 : decode b_M_enter 46 = .ok (.aload_n 0, 1) := by decide +kernel
theorem d_M_enter_47 : decode b_M_enter 47 = .ok (.iconst 0, 1) := by decide +kernel
theorem d_M_enter_48 : decode b_M_enter 48 = .ok (.putfield 41, 3) := by decide +kernel
theorem d_M_enter_51 : decode b_M_enter 51 = .ok (.iconst 4, 1) := by decide +kernel
theorem d_M_enter_52 : decode b_M_enter 52 = .ok (.aload_n 0, 1) := by decide +kernel
theorem d_M_enter_53 : decode b_M_enter 53 = .ok (.getfield 7, 3) := by decide +kernel
theorem d_M_enter_56 : decode b_M_enter 56 = .ok (.iload_n 2, 1) := by decide +kernel
theorem d_M_enter_57 : decode b_M_enter 57 = .ok (.iconst 4, 1) := by decide +kernel
theorem d_M_enter_58 : decode b_M_enter 58 = .ok (.isub, 1) := by decide +kernel
theorem d_M_enter_59 : decode b_M_enter 59 = .ok (.iaload, 1) := by decide +kernel
theorem d_M_enter_60 : decode b_M_enter 60 = .ok (.bipush 48, 2) := by decide +kernel
theorem d_M_enter_62 : decode b_M_enter 62 = .ok (.isub, 1) := by decide +kernel
theorem d_M_enter_63 : decode b_M_enter 63 = .ok (.imul, 1) := by decide +kernel
theorem d_M_enter_64 : decode b_M_enter 64 = .ok (.aload_n 0, 1) := by decide +kernel
theorem d_M_enter_65 : decode b_M_enter 65 = .ok (.getfield 7, 3) := by decide +kernel
theorem d_M_enter_68 : decode b_M_enter 68 = .ok (.iload_n 2, 1) := by decide +kernel
theorem d_M_enter_69 : decode b_M_enter 69 = .ok (.iconst 2, 1) := by decide +kernel
theorem d_M_enter_70 : decode b_M_enter 70 = .ok (.isub, 1) := by decide +kernel
theorem d_M_enter_71 : decode b_M_enter 71 = .ok (.iaload, 1) := by decide +kernel
theorem d_M_enter_72 : decode b_M_enter 72 = .ok (.iadd, 1) := by decide +kernel
theorem d_M_enter_73 : decode b_M_enter 73 = .ok (.bipush 48, 2) := by decide +kernel
theorem d_M_enter_75 : decode b_M_enter 75 = .ok (.isub, 1) := by decide +kernel
theorem d_M_enter_76 : decode b_M_enter 76 = .ok (.istore_n 3, 1) := by decide +kernel
theorem d_M_enter_77 : decode b_M_enter 77 = .ok (.aload_n 0, 1) := by decide +kernel
theorem d_M_enter_78 : decode b_M_enter 78 = .ok (.getfield 7, 3) := by decide +kernel
theorem d_M_enter_81 : decode b_M_enter 81 = .ok (.iload_n 2, 1) := by decide +kernel
theorem d_M_enter_82 : decode b_M_enter 82 = .ok (.bipush 6, 2) := by decide +kernel
theorem d_M_enter_84 : decode b_M_enter 84 = .ok (.isub, 1) := by decide +kernel
theorem d_M_enter_85 : decode b_M_enter 85 = .ok (.iaload, 1) := by decide +kernel
theorem d_M_enter_86 : decode b_M_enter 86 = .ok (.istore 4, 2) := by decide +kernel
theorem d_M_enter_88 : decode b_M_enter 88 = .ok (.iload 4, 2) := by decide +kernel
theorem d_M_enter_90 : decode b_M_enter 90 = .ok (.bipush 116, 2) := by decide +kernel
theorem d_M_enter_92 : decode b_M_enter 92 = .ok (.if_icmp .ne 40, 3) := by decide +kernel
theorem d_M_enter_95 : decode b_M_enter 95 = .ok (.aload_n 0, 1) := by decide +kernel
theorem d_M_enter_96 : decode b_M_enter 96 = .ok (.iload_n 3, 1) := by decide +kernel
theorem d_M_enter_97 : decode b_M_enter 97 = .ok (.aload_n 0, 1) := by decide +kernel
theorem d_M_enter_98 : decode b_M_enter 98 = .ok (.getfield 7, 3) := by decide +kernel
theorem d_M_enter_101 : decode b_M_enter 101 = .ok (.iconst 0, 1) := by decide +kernel
theorem d_M_enter_102 : decode b_M_enter 102 = .ok (.iaload, 1) := by decide +kernel
theorem d_M_enter_103 : decode b_M_enter 103 = .ok (.bipush 43, 2) := by decide +kernel
theorem d_M_enter_105 : decode b_M_enter 105 = .ok (.if_icmp .ne 7, 3) := by decide +kernel
theorem d_M_enter_108 : decode b_M_enter 108 = .ok (.iconst 1, 1) := by decide +kernel
theorem d_M_enter_109 : decode b_M_enter 109 = .ok (.goto 19, 3) := by decide +kernel
theorem d_M_enter_112 : decode b_M_enter 112 = .ok (.aload_n 0, 1) := by decide +kernel
theorem d_M_enter_113 : decode b_M_enter 113 = .ok (.getfield 7, 3) := by decide +kernel
theorem d_M_enter_116 : decode b_M_enter 116 = .ok (.iconst 0, 1) := by decide +kernel
theorem d_M_enter_117 : decode b_M_enter 117 = .ok (.iaload, 1) := by decide +kernel
theorem d_M_enter_118 : decode b_M_enter 118 = .ok (.bipush 45, 2) := by decide +kernel
theorem d_M_enter_120 : decode b_M_enter 120 = .ok (.if_icmp .ne 7, 3) := by decide +kernel
theorem d_M_enter_123 : decode b_M_enter 123 = .ok (.iconst (-1), 1) := by decide +kernel
theorem d_M_enter_124 : decode b_M_enter 124 = .ok (.goto 4, 3) := by decide +kernel
theorem d_M_enter_127 : decode b_M_enter 127 = .ok (.iconst 0, 1) := by decide +kernel
theorem d_M_enter_128 : decode b_M_enter 128 = .ok (.invokevirtual 98, 3) := by decide +kernel
theorem d_M_enter_131 : decode b_M_enter 131 = .ok (.ireturn, 1) := by decide +kernel
theorem d_M_enter_132 : decode b_M_enter 132 = .ok (.aload_n 0, 1) := by decide +kernel
theorem d_M_enter_133 : decode b_M_enter 133 = .ok (.bipush 16, 2) := by decide +kernel
theorem d_M_enter_135 : decode b_M_enter 135 = .ok (.iload 4, 2) := by decide +kernel
theorem d_M_enter_137 : decode b_M_enter 137 = .ok (.invokestatic 76, 3) := by decide +kernel
theorem d_M_enter_140 : decode b_M_enter 140 = .ok (.imul, 1) := by decide +kernel
theorem d_M_enter_141 : decode b_M_enter 141 = .ok (.iload_n 3, 1) := by decide +kernel
theorem d_M_enter_142 : decode b_M_enter 142 = .ok (.iadd, 1) := by decide +kernel
theorem d_M_enter_143 : decode b_M_enter 143 = .ok (.iload_n 2, 1) := by decide +kernel
theorem d_M_enter_144 : decode b_M_enter 144 = .ok (.bipush 6, 2) := by decide +kernel
theorem d_M_enter_146 : decode b_M_enter 146 = .ok (.if_icmp .ne 7, 3) := by decide +kernel
theorem d_M_enter_149 : decode b_M_enter 149 = .ok (.iconst 1, 1) := by decide +kernel
theorem d_M_enter_150 : decode b_M_enter 150 = .ok (.goto 4, 3) := by decide +kernel
theorem d_M_enter_153 : decode b_M_enter 153 = .ok (.iconst 0, 1) := by decide +kernel
theorem d_M_enter_154 : decode b_M_enter 154 = .ok (.invokevirtual 102, 3) := by decide +kernel
theorem d_M_enter_157 : decode b_M_enter 157 = .ok (.ireturn, 1) := by decide +kernel
set_option maxHeartbeats 1000000 in
set_option maxRecDepth 100000 in
theorem c_M_relationOf (l : Launch) (dC : Nat → ClassId) (dI : Nat → Nat → Nat) (sz : Nat)  (x0 : Int32) (r0 : Int32) (u0 : Unit) (h : m_M_relationOf x0 = some (r0, u0)) : Met l y_M_relationOf w_M_relationOf ({ frames := 0, cells := 0, slots := 0, locals := 0 } : Room) (va_Pc [.int x0] (fun U => U.heap.size = sz ∧ va_P (dC, dI) classes [] U.heap ∧ va_K (dC, dI) classes [] U ∧ va_D (fun _ => True) [])) (va_Qi (fun (r : Int32) (u : Unit) => r = r0 ∧ u = u0) (fun (u : Unit) (t : State) => va_P (dC, dI) classes [] t.heap ∧ va_K (dC, dI) classes [] t ∧ va_D (va_A [] sz) []) (va_A [] sz)) 0 0 (va_A [] sz) := by
  refine Met.ofW (cc := b_M_relationOf) (maxL := 1) (ret := (some .int)) (by decide) rfl ?_
  intro p e s m args below meth c s₁ B hml hv
  obtain ⟨rfl, hsz, hP, hK, hD0⟩ := hv
  have hx := B.exec
  have hb := B.bytes
  have hr := B.returns
  have hts0 := atoms_spec (ws := w_M_relationOf) B.pre
  have hts : ∀ w ∈ lw_gd, w.before ([.int x0] : List Value).toArray s = true := fun w h9 => hts0 w (List.mem_cons_of_mem _ h9)
  have hown : s.vm.findClass R_M = some m.cls := findClass_of_methodNamed B.named
  have hlocks := B.notSynchronized
  subst hsz
  have hD := hD0.self (sz := s.heap.size)
  generalize hAe : va_A [] s.heap.size = A at hD ⊢
  have hA : ∀ q : Nat, s.heap.size ≤ q → A q := fun q h9 => by rw [← hAe]; exact Or.inr h9
  obtain ⟨H, eH⟩ : ∃ H : Heap, H = s.heap := ⟨_, rfl⟩
  have hS : va_S A s.heap H [] := by rw [eH]; exact va_S.rf
  have hP : va_P (dC, dI) classes [] H := by rw [eH]; exact hP
  refine W_gen (fun Q hQ => ?_)
  refine W_heap eH ?_
  clear eH
  have hl := lv_entry ([.int x0]) (n := 1) (Nat.le_of_ble_eq_true rfl)
  rw [lg_entry_eq]
  generalize (lg_sl ([.int x0]) ++ List.replicate (1 - (lg_sl ([.int x0])).length) Slot.unset).toArray = ls at hl ⊢
  have hl : lv_has ls 1 [(0, .int x0)] := hl
  unfold m_M_relationOf at h
  refine lv_iload_n hx hb d_M_relationOf_0 rfl (lv_at hl 0 rfl) ?_
  refine lv_bipush (v := (nI 97)) hx hb d_M_relationOf_1 (by decide) ?_
  refine lv_icmp_ne (tgt := 10) hx hb d_M_relationOf_3 (by decide) (fun c_3 => ?_) (fun c_3 => ?_)
  · have h := of_neg h c_3
    refine lv_iload_n hx hb d_M_relationOf_10 rfl (lv_at hl 0 rfl) ?_
    refine lv_bipush (v := (nI 98)) hx hb d_M_relationOf_11 (by decide) ?_
    refine lv_icmp_ne (tgt := 20) hx hb d_M_relationOf_13 (by decide) (fun c_13 => ?_) (fun c_13 => ?_)
    · have h := of_neg h c_13
      refine lv_iconst (v := (nI 2)) hx hb d_M_relationOf_20 (by decide) ?_
      rw [hQ]
      exact W.iret (v := (nI 2)) hx hb hr (fun t ht hW => ⟨⟨(nI 2), (), rfl, Prod.mk.inj (Option.some.inj h), by rw [ht]; exact hP, va_K.moved hW.alike hK, hD⟩, hS.F ht⟩) hS.2.2 d_M_relationOf_21
    · have h := of_pos h c_13
      refine lv_iconst (v := (nI 1)) hx hb d_M_relationOf_16 (by decide) ?_
      refine lv_goto (tgt := 21) hx hb d_M_relationOf_17 (by decide) ?_
      rw [hQ]
      exact W.iret (v := (nI 1)) hx hb hr (fun t ht hW => ⟨⟨(nI 1), (), rfl, Prod.mk.inj (Option.some.inj h), by rw [ht]; exact hP, va_K.moved hW.alike hK, hD⟩, hS.F ht⟩) hS.2.2 d_M_relationOf_21
  · have h := of_pos h c_3
    refine lv_iconst (v := (nI 0)) hx hb d_M_relationOf_6 (by decide) ?_
    refine lv_goto (tgt := 21) hx hb d_M_relationOf_7 (by decide) ?_
    rw [hQ]
    exact W.iret (v := (nI 0)) hx hb hr (fun t ht hW => ⟨⟨(nI 0), (), rfl, Prod.mk.inj (Option.some.inj h), by rw [ht]; exact hP, va_K.moved hW.alike hK, hD⟩, hS.F ht⟩) hS.2.2 d_M_relationOf_21
set_option maxHeartbeats 1000000 in
set_option maxRecDepth 100000 in
theorem c_M_readBody (l : Launch) (dC : Nat → ClassId) (dI : Nat → Nat → Nat) (h_o h_line h_fact h_marked h_many h_codes h_oldMany h_oldCodes h_body h_roundOf h_fresh : Nat) (k_line k_body : ClassId) (sz : Nat) (v_typed : Int32) (v_count : Int32) (v_oldCount : Int32) (v_read : Int32) (v_last : Int32) (v_line : Nat → Int32) (v_body : Nat → Int32) (u0 : Int32 × (Nat → Int32)) (h : m_M_readBody v_typed v_read v_line v_body = some u0) : Met l y_M_readBody w_M_readBody ({ frames := 1, cells := 0, slots := 0, locals := 20 } : Room) (va_Pc [.ref h_o] (fun U => U.heap.size = sz ∧ va_P (dC, dI) classes [(h_o, .inr (4, [.ref h_line, .int v_typed, .ref h_fact, .ref h_marked, .int v_count, .ref h_many, .ref h_codes, .int v_oldCount, .ref h_oldMany, .ref h_oldCodes, .int v_read, .ref h_body, .ref h_roundOf, .ref h_fresh, .int v_last])), (h_line, .inl (k_line, 32, .inl v_line)), (h_body, .inl (k_body, 3, .inl v_body))] U.heap ∧ va_K (dC, dI) classes [(k_line, .int), (k_body, .int)] U ∧ va_D (fun _ => True) [(h_o, .inr (4, [.ref h_line, .int v_typed, .ref h_fact, .ref h_marked, .int v_count, .ref h_many, .ref h_codes, .int v_oldCount, .ref h_oldMany, .ref h_oldCodes, .int v_read, .ref h_body, .ref h_roundOf, .ref h_fresh, .int v_last])), (h_line, .inl (k_line, 32, .inl v_line)), (h_body, .inl (k_body, 3, .inl v_body))])) (va_Qv (fun (u : Int32 × (Nat → Int32)) => u = u0) (fun (u : Int32 × (Nat → Int32)) (t : State) => va_P (dC, dI) classes [(h_o, .inr (4, [.ref h_line, .int v_typed, .ref h_fact, .ref h_marked, .int v_count, .ref h_many, .ref h_codes, .int v_oldCount, .ref h_oldMany, .ref h_oldCodes, .int u.1, .ref h_body, .ref h_roundOf, .ref h_fresh, .int v_last])), (h_line, .inl (k_line, 32, .inl v_line)), (h_body, .inl (k_body, 3, .inl u.2))] t.heap ∧ va_K (dC, dI) classes [(k_line, .int), (k_body, .int)] t ∧ va_D (va_A [(h_o, .inr (4, [.ref h_line, .int v_typed, .ref h_fact, .ref h_marked, .int v_count, .ref h_many, .ref h_codes, .int v_oldCount, .ref h_oldMany, .ref h_oldCodes, .int v_read, .ref h_body, .ref h_roundOf, .ref h_fresh, .int v_last])), (h_line, .inl (k_line, 32, .inl v_line)), (h_body, .inl (k_body, 3, .inl v_body))] sz) [(h_o, .inr (4, [.ref h_line, .int v_typed, .ref h_fact, .ref h_marked, .int v_count, .ref h_many, .ref h_codes, .int v_oldCount, .ref h_oldMany, .ref h_oldCodes, .int u.1, .ref h_body, .ref h_roundOf, .ref h_fresh, .int v_last])), (h_line, .inl (k_line, 32, .inl v_line)), (h_body, .inl (k_body, 3, .inl u.2))]) (va_A [(h_o, .inr (4, [.ref h_line, .int v_typed, .ref h_fact, .ref h_marked, .int v_count, .ref h_many, .ref h_codes, .int v_oldCount, .ref h_oldMany, .ref h_oldCodes, .int v_read, .ref h_body, .ref h_roundOf, .ref h_fresh, .int v_last])), (h_line, .inl (k_line, 32, .inl v_line)), (h_body, .inl (k_body, 3, .inl v_body))] sz)) 0 0 (va_A [(h_o, .inr (4, [.ref h_line, .int v_typed, .ref h_fact, .ref h_marked, .int v_count, .ref h_many, .ref h_codes, .int v_oldCount, .ref h_oldMany, .ref h_oldCodes, .int v_read, .ref h_body, .ref h_roundOf, .ref h_fresh, .int v_last])), (h_line, .inl (k_line, 32, .inl v_line)), (h_body, .inl (k_body, 3, .inl v_body))] sz) := by
  refine Met.ofW (cc := b_M_readBody) (maxL := 4) (ret := none) (by decide) rfl ?_
  intro p e s m args below meth c s₁ B hml hv
  obtain ⟨rfl, hsz, hP, hK, hD0⟩ := hv
  have hx := B.exec
  have hb := B.bytes
  have hr := B.returns
  have hts0 := atoms_spec (ws := w_M_readBody) B.pre
  have hts : ∀ w ∈ lw_gd, w.before ([.ref h_o] : List Value).toArray s = true := fun w h9 => hts0 w (List.mem_cons_of_mem _ h9)
  have hown : s.vm.findClass R_M = some m.cls := findClass_of_methodNamed B.named
  have hlocks := B.notSynchronized
  subst hsz
  have hD := hD0.self (sz := s.heap.size)
  generalize hAe : va_A [(h_o, .inr (4, [.ref h_line, .int v_typed, .ref h_fact, .ref h_marked, .int v_count, .ref h_many, .ref h_codes, .int v_oldCount, .ref h_oldMany, .ref h_oldCodes, .int v_read, .ref h_body, .ref h_roundOf, .ref h_fresh, .int v_last])), (h_line, .inl (k_line, 32, .inl v_line)), (h_body, .inl (k_body, 3, .inl v_body))] s.heap.size = A at hD ⊢
  have hA : ∀ q : Nat, s.heap.size ≤ q → A q := fun q h9 => by rw [← hAe]; exact Or.inr h9
  obtain ⟨H, eH⟩ : ∃ H : Heap, H = s.heap := ⟨_, rfl⟩
  have hS : va_S A s.heap H [] := by rw [eH]; exact va_S.rf
  have hP : va_P (dC, dI) classes [(h_o, .inr (4, [.ref h_line, .int v_typed, .ref h_fact, .ref h_marked, .int v_count, .ref h_many, .ref h_codes, .int v_oldCount, .ref h_oldMany, .ref h_oldCodes, .int v_read, .ref h_body, .ref h_roundOf, .ref h_fresh, .int v_last])), (h_line, .inl (k_line, 32, .inl v_line)), (h_body, .inl (k_body, 3, .inl v_body))] H := by rw [eH]; exact hP
  refine W_gen (fun Q hQ => ?_)
  refine W_heap eH ?_
  clear eH
  have hl := lv_entry ([.ref h_o]) (n := 4) (Nat.le_of_ble_eq_true rfl)
  rw [lg_entry_eq]
  generalize (lg_sl ([.ref h_o]) ++ List.replicate (4 - (lg_sl ([.ref h_o])).length) Slot.unset).toArray = ls at hl ⊢
  have hl : lv_has ls 4 [(0, .ref h_o)] := hl
  have J_96 : ∀ (k_8 : Int32 → (Nat → Int32) → Int32 → Option (Int32 × (Nat → Int32))) (hk_8 : ∀ (v_read : Int32) (v_body : Nat → Int32) (z1 : Int32), k_8 v_read v_body z1 = some u0 → ∀ (H : Heap) (locs : List Loc), va_P (dC, dI) classes [(h_o, .inr (4, [.ref h_line, .int v_typed, .ref h_fact, .ref h_marked, .int v_count, .ref h_many, .ref h_codes, .int v_oldCount, .ref h_oldMany, .ref h_oldCodes, .int v_read, .ref h_body, .ref h_roundOf, .ref h_fresh, .int v_last])), (h_line, .inl (k_line, 32, .inl v_line)), (h_body, .inl (k_body, 3, .inl v_body))] H → va_D A [(h_o, .inr (4, [.ref h_line, .int v_typed, .ref h_fact, .ref h_marked, .int v_count, .ref h_many, .ref h_codes, .int v_oldCount, .ref h_oldMany, .ref h_oldCodes, .int v_read, .ref h_body, .ref h_roundOf, .ref h_fresh, .int v_last])), (h_line, .inl (k_line, 32, .inl v_line)), (h_body, .inl (k_body, 3, .inl v_body))] → va_S A s.heap H locs → ∀ (ls : Array Slot), lv_has ls 4 [(0, .ref h_o), (1, .int z1)] → W p l e (headSpec w_M_readBody ({ frames := 1, cells := 0, slots := 0, locals := 20 } : Room)).room s m ([.ref h_o] : List Value).toArray below meth c H locs 0 0 Q (F0 m 8 ls [])) (v_read : Int32) (v_body : Nat → Int32) (z1 : Int32) (z2 : Int32) (z3 : Int32), m_M_readBody_96 v_typed v_line k_8 v_read v_body z1 z2 z3 = some u0 → ∀ (H : Heap) (locs : List Loc), va_P (dC, dI) classes [(h_o, .inr (4, [.ref h_line, .int v_typed, .ref h_fact, .ref h_marked, .int v_count, .ref h_many, .ref h_codes, .int v_oldCount, .ref h_oldMany, .ref h_oldCodes, .int v_read, .ref h_body, .ref h_roundOf, .ref h_fresh, .int v_last])), (h_line, .inl (k_line, 32, .inl v_line)), (h_body, .inl (k_body, 3, .inl v_body))] H → va_D A [(h_o, .inr (4, [.ref h_line, .int v_typed, .ref h_fact, .ref h_marked, .int v_count, .ref h_many, .ref h_codes, .int v_oldCount, .ref h_oldMany, .ref h_oldCodes, .int v_read, .ref h_body, .ref h_roundOf, .ref h_fresh, .int v_last])), (h_line, .inl (k_line, 32, .inl v_line)), (h_body, .inl (k_body, 3, .inl v_body))] → va_S A s.heap H locs → ∀ (ls : Array Slot), lv_has ls 4 [(0, .ref h_o), (1, .int z1), (2, .int z2), (3, .int z3)] → W p l e (headSpec w_M_readBody ({ frames := 1, cells := 0, slots := 0, locals := 20 } : Room)).room s m ([.ref h_o] : List Value).toArray below meth c H locs 0 0 Q (F0 m 96 ls []) := by
    intro k_8 hk_8 v_read v_body z1 z2 z3 h H locs hP hD hS ls hl
    unfold m_M_readBody_96 at h
    refine lv_aload_n hx hb d_M_readBody_96 rfl (lv_at hl 0 rfl) ?_
    refine va_get (D := (dC, dI)) (ci := 4) (v := .ref h_body) (C := R_M) (T := F_M) (N := 15) hx hb hts lay_M hown hK hP 0 rfl rfl 11 (by decide) (hts _ flk_M_32) (fun _ h9 => h9) rfl d_M_readBody_97 ?_
    refine lv_iload_n hx hb d_M_readBody_100 rfl (lv_at hl 3 rfl) ?_
    refine lv_iload_n hx hb d_M_readBody_101 rfl (lv_at hl 2 rfl) ?_
    obtain ⟨g_102, h⟩ := of_guard h
    refine va_iast hx hb hK hP hD hS 2 1 rfl rfl (inR_in g_102) d_M_readBody_102 (fun H locs hP hD hS => ?_)
    have hP : va_P (dC, dI) classes [(h_o, .inr (4, [.ref h_line, .int v_typed, .ref h_fact, .ref h_marked, .int v_count, .ref h_many, .ref h_codes, .int v_oldCount, .ref h_oldMany, .ref h_oldCodes, .int v_read, .ref h_body, .ref h_roundOf, .ref h_fresh, .int v_last])), (h_line, .inl (k_line, 32, .inl v_line)), (h_body, .inl (k_body, 3, .inl (upd v_body z3.toNatClampNeg z2)))] H := hP
    have hD : va_D A [(h_o, .inr (4, [.ref h_line, .int v_typed, .ref h_fact, .ref h_marked, .int v_count, .ref h_many, .ref h_codes, .int v_oldCount, .ref h_oldMany, .ref h_oldCodes, .int v_read, .ref h_body, .ref h_roundOf, .ref h_fresh, .int v_last])), (h_line, .inl (k_line, 32, .inl v_line)), (h_body, .inl (k_body, 3, .inl (upd v_body z3.toNatClampNeg z2)))] := hD
    refine lv_aload_n hx hb d_M_readBody_103 rfl (lv_at hl 0 rfl) ?_
    refine lv_dup hx hb d_M_readBody_104 rfl ?_
    refine va_get (D := (dC, dI)) (ci := 4) (v := .int v_read) (C := R_M) (T := F_M) (N := 15) hx hb hts lay_M hown hK hP 0 rfl rfl 10 (by decide) (hts _ flk_M_73) (fun _ h9 => h9) rfl d_M_readBody_105 ?_
    refine lv_iconst (v := (nI 1)) hx hb d_M_readBody_108 (by decide) ?_
    refine lv_iadd hx hb d_M_readBody_109 ?_
    refine va_put (D := (dC, dI)) (ci := 4) (v := .int (v_read + (nI 1))) (ty := .int) (C := R_M) (T := F_M) (N := 15) hx hb hts lay_M t_M t_M_ok n_M hown hK hP hD hS 0 rfl rfl 10 (by decide) (hts _ flk_M_73) (fun _ h9 => h9) rfl (by decide +kernel) rfl rfl (Nat.le_of_ble_eq_true rfl) d_M_readBody_110 (fun H locs hP hD hS => ?_)
    have hP : va_P (dC, dI) classes [(h_o, .inr (4, [.ref h_line, .int v_typed, .ref h_fact, .ref h_marked, .int v_count, .ref h_many, .ref h_codes, .int v_oldCount, .ref h_oldMany, .ref h_oldCodes, .int (v_read + (nI 1)), .ref h_body, .ref h_roundOf, .ref h_fresh, .int v_last])), (h_line, .inl (k_line, 32, .inl v_line)), (h_body, .inl (k_body, 3, .inl (upd v_body z3.toNatClampNeg z2)))] H := hP
    have hD : va_D A [(h_o, .inr (4, [.ref h_line, .int v_typed, .ref h_fact, .ref h_marked, .int v_count, .ref h_many, .ref h_codes, .int v_oldCount, .ref h_oldMany, .ref h_oldCodes, .int (v_read + (nI 1)), .ref h_body, .ref h_roundOf, .ref h_fresh, .int v_last])), (h_line, .inl (k_line, 32, .inl v_line)), (h_body, .inl (k_body, 3, .inl (upd v_body z3.toNatClampNeg z2)))] := hD
    refine lv_iinc (v := z1 + (nI 7)) (lv' := [(1, .int (z1 + (nI 7))), (0, .ref h_o), (2, .int z2), (3, .int z3)]) hx hb d_M_readBody_113 hl (k := 1) rfl rfl (by decide) rfl (fun ls hl => ?_)
    refine lv_goto (tgt := 8) hx hb d_M_readBody_116 (by decide) ?_
    exact hk_8 (v_read + (nI 1)) (upd v_body z3.toNatClampNeg z2) (z1 + (nI 7)) h _ _ hP hD hS ls (lv_sub hl [1, 0] rfl)
  have J_60 : ∀ (k_8 : Int32 → (Nat → Int32) → Int32 → Option (Int32 × (Nat → Int32))) (hk_8 : ∀ (v_read : Int32) (v_body : Nat → Int32) (z1 : Int32), k_8 v_read v_body z1 = some u0 → ∀ (H : Heap) (locs : List Loc), va_P (dC, dI) classes [(h_o, .inr (4, [.ref h_line, .int v_typed, .ref h_fact, .ref h_marked, .int v_count, .ref h_many, .ref h_codes, .int v_oldCount, .ref h_oldMany, .ref h_oldCodes, .int v_read, .ref h_body, .ref h_roundOf, .ref h_fresh, .int v_last])), (h_line, .inl (k_line, 32, .inl v_line)), (h_body, .inl (k_body, 3, .inl v_body))] H → va_D A [(h_o, .inr (4, [.ref h_line, .int v_typed, .ref h_fact, .ref h_marked, .int v_count, .ref h_many, .ref h_codes, .int v_oldCount, .ref h_oldMany, .ref h_oldCodes, .int v_read, .ref h_body, .ref h_roundOf, .ref h_fresh, .int v_last])), (h_line, .inl (k_line, 32, .inl v_line)), (h_body, .inl (k_body, 3, .inl v_body))] → va_S A s.heap H locs → ∀ (ls : Array Slot), lv_has ls 4 [(0, .ref h_o), (1, .int z1)] → W p l e (headSpec w_M_readBody ({ frames := 1, cells := 0, slots := 0, locals := 20 } : Room)).room s m ([.ref h_o] : List Value).toArray below meth c H locs 0 0 Q (F0 m 8 ls [])) (n : Nat) (v_read : Int32) (v_body : Nat → Int32) (z1 : Int32) (z2 : Int32) (z3 : Int32), m_M_readBody_60 v_typed v_line k_8 n v_read v_body z1 z2 z3 = some u0 → ∀ (H : Heap) (locs : List Loc), va_P (dC, dI) classes [(h_o, .inr (4, [.ref h_line, .int v_typed, .ref h_fact, .ref h_marked, .int v_count, .ref h_many, .ref h_codes, .int v_oldCount, .ref h_oldMany, .ref h_oldCodes, .int v_read, .ref h_body, .ref h_roundOf, .ref h_fresh, .int v_last])), (h_line, .inl (k_line, 32, .inl v_line)), (h_body, .inl (k_body, 3, .inl v_body))] H → va_D A [(h_o, .inr (4, [.ref h_line, .int v_typed, .ref h_fact, .ref h_marked, .int v_count, .ref h_many, .ref h_codes, .int v_oldCount, .ref h_oldMany, .ref h_oldCodes, .int v_read, .ref h_body, .ref h_roundOf, .ref h_fresh, .int v_last])), (h_line, .inl (k_line, 32, .inl v_line)), (h_body, .inl (k_body, 3, .inl v_body))] → va_S A s.heap H locs → ∀ (ls : Array Slot), lv_has ls 4 [(0, .ref h_o), (1, .int z1), (2, .int z2), (3, .int z3)] → W p l e (headSpec w_M_readBody ({ frames := 1, cells := 0, slots := 0, locals := 20 } : Room)).room s m ([.ref h_o] : List Value).toArray below meth c H locs 0 0 Q (F0 m 60 ls []) := by
    intro k_8 hk_8 n
    induction n with
    | zero => intro v_read v_body z1 z2 z3 h; exact absurd h (by unfold m_M_readBody_60; exact fun h9 => nomatch h9)
    | succ n ih =>
      intro v_read v_body z1 z2 z3 h H locs hP hD hS ls hl
      unfold m_M_readBody_60 at h
      refine lv_iload_n hx hb d_M_readBody_60 rfl (lv_at hl 3 rfl) ?_
      refine lv_if_le (tgt := 96) hx hb d_M_readBody_61 (by decide) (fun c_61 => ?_) (fun c_61 => ?_)
      · have h := of_pos h c_61
        exact J_96 k_8 hk_8 v_read v_body z1 z2 z3 h _ _ hP hD hS ls (lv_sub hl [0, 1, 2, 3] rfl)
      · have h := of_neg h c_61
        refine lv_aload_n hx hb d_M_readBody_64 rfl (lv_at hl 0 rfl) ?_
        refine va_get (D := (dC, dI)) (ci := 4) (v := .ref h_body) (C := R_M) (T := F_M) (N := 15) hx hb hts lay_M hown hK hP 0 rfl rfl 11 (by decide) (hts _ flk_M_32) (fun _ h9 => h9) rfl d_M_readBody_65 ?_
        refine lv_iload_n hx hb d_M_readBody_68 rfl (lv_at hl 3 rfl) ?_
        refine lv_iconst (v := (nI 1)) hx hb d_M_readBody_69 (by decide) ?_
        refine lv_isub hx hb d_M_readBody_70 ?_
        obtain ⟨g_71, h⟩ := of_guard h
        refine va_iald hx hb hK hP 2 1 rfl rfl (inR_in g_71) d_M_readBody_71 ?_
        refine lv_iload_n hx hb d_M_readBody_72 rfl (lv_at hl 2 rfl) ?_
        refine lv_icmp_le (tgt := 96) hx hb d_M_readBody_73 (by decide) (fun c_73 => ?_) (fun c_73 => ?_)
        · have h := of_pos h c_73
          exact J_96 k_8 hk_8 v_read v_body z1 z2 z3 h _ _ hP hD hS ls (lv_sub hl [0, 1, 2, 3] rfl)
        · have h := of_neg h c_73
          refine lv_aload_n hx hb d_M_readBody_76 rfl (lv_at hl 0 rfl) ?_
          refine va_get (D := (dC, dI)) (ci := 4) (v := .ref h_body) (C := R_M) (T := F_M) (N := 15) hx hb hts lay_M hown hK hP 0 rfl rfl 11 (by decide) (hts _ flk_M_32) (fun _ h9 => h9) rfl d_M_readBody_77 ?_
          refine lv_iload_n hx hb d_M_readBody_80 rfl (lv_at hl 3 rfl) ?_
          refine lv_aload_n hx hb d_M_readBody_81 rfl (lv_at hl 0 rfl) ?_
          refine va_get (D := (dC, dI)) (ci := 4) (v := .ref h_body) (C := R_M) (T := F_M) (N := 15) hx hb hts lay_M hown hK hP 0 rfl rfl 11 (by decide) (hts _ flk_M_32) (fun _ h9 => h9) rfl d_M_readBody_82 ?_
          refine lv_iload_n hx hb d_M_readBody_85 rfl (lv_at hl 3 rfl) ?_
          refine lv_iconst (v := (nI 1)) hx hb d_M_readBody_86 (by decide) ?_
          refine lv_isub hx hb d_M_readBody_87 ?_
          obtain ⟨g_88, h⟩ := of_guard h
          refine va_iald hx hb hK hP 2 1 rfl rfl (inR_in g_88) d_M_readBody_88 ?_
          obtain ⟨g_89, h⟩ := of_guard h
          refine va_iast hx hb hK hP hD hS 2 1 rfl rfl (inR_in g_89) d_M_readBody_89 (fun H locs hP hD hS => ?_)
          have hP : va_P (dC, dI) classes [(h_o, .inr (4, [.ref h_line, .int v_typed, .ref h_fact, .ref h_marked, .int v_count, .ref h_many, .ref h_codes, .int v_oldCount, .ref h_oldMany, .ref h_oldCodes, .int v_read, .ref h_body, .ref h_roundOf, .ref h_fresh, .int v_last])), (h_line, .inl (k_line, 32, .inl v_line)), (h_body, .inl (k_body, 3, .inl (upd v_body z3.toNatClampNeg (v_body (z3 - (nI 1)).toNatClampNeg))))] H := hP
          have hD : va_D A [(h_o, .inr (4, [.ref h_line, .int v_typed, .ref h_fact, .ref h_marked, .int v_count, .ref h_many, .ref h_codes, .int v_oldCount, .ref h_oldMany, .ref h_oldCodes, .int v_read, .ref h_body, .ref h_roundOf, .ref h_fresh, .int v_last])), (h_line, .inl (k_line, 32, .inl v_line)), (h_body, .inl (k_body, 3, .inl (upd v_body z3.toNatClampNeg (v_body (z3 - (nI 1)).toNatClampNeg))))] := hD
          refine lv_iinc (v := z3 + (-1 : Int32)) (lv' := [(3, .int (z3 + (-1 : Int32))), (0, .ref h_o), (1, .int z1), (2, .int z2)]) hx hb d_M_readBody_90 hl (k := 3) rfl rfl (by decide) rfl (fun ls hl => ?_)
          refine lv_goto (tgt := 60) hx hb d_M_readBody_93 (by decide) ?_
          exact ih v_read (upd v_body z3.toNatClampNeg (v_body (z3 - (nI 1)).toNatClampNeg)) z1 z2 (z3 + (-1 : Int32)) h _ _ hP hD hS ls (lv_sub hl [1, 2, 3, 0] rfl)
  have J_8 : ∀ (n : Nat) (v_read : Int32) (v_body : Nat → Int32) (z1 : Int32), m_M_readBody_8 v_typed v_line n v_read v_body z1 = some u0 → ∀ (H : Heap) (locs : List Loc), va_P (dC, dI) classes [(h_o, .inr (4, [.ref h_line, .int v_typed, .ref h_fact, .ref h_marked, .int v_count, .ref h_many, .ref h_codes, .int v_oldCount, .ref h_oldMany, .ref h_oldCodes, .int v_read, .ref h_body, .ref h_roundOf, .ref h_fresh, .int v_last])), (h_line, .inl (k_line, 32, .inl v_line)), (h_body, .inl (k_body, 3, .inl v_body))] H → va_D A [(h_o, .inr (4, [.ref h_line, .int v_typed, .ref h_fact, .ref h_marked, .int v_count, .ref h_many, .ref h_codes, .int v_oldCount, .ref h_oldMany, .ref h_oldCodes, .int v_read, .ref h_body, .ref h_roundOf, .ref h_fresh, .int v_last])), (h_line, .inl (k_line, 32, .inl v_line)), (h_body, .inl (k_body, 3, .inl v_body))] → va_S A s.heap H locs → ∀ (ls : Array Slot), lv_has ls 4 [(0, .ref h_o), (1, .int z1)] → W p l e (headSpec w_M_readBody ({ frames := 1, cells := 0, slots := 0, locals := 20 } : Room)).room s m ([.ref h_o] : List Value).toArray below meth c H locs 0 0 Q (F0 m 8 ls []) := by
    intro n
    induction n with
    | zero => intro v_read v_body z1 h; exact absurd h (by unfold m_M_readBody_8; exact fun h9 => nomatch h9)
    | succ n ih =>
      intro v_read v_body z1 h H locs hP hD hS ls hl
      unfold m_M_readBody_8 at h
      refine lv_iload_n hx hb d_M_readBody_8 rfl (lv_at hl 1 rfl) ?_
      refine lv_aload_n hx hb d_M_readBody_9 rfl (lv_at hl 0 rfl) ?_
      refine va_get (D := (dC, dI)) (ci := 4) (v := .int v_typed) (C := R_M) (T := F_M) (N := 15) hx hb hts lay_M hown hK hP 0 rfl rfl 1 (by decide) (hts _ flk_M_41) (fun _ h9 => h9) rfl d_M_readBody_10 ?_
      refine lv_icmp_ge (tgt := 119) hx hb d_M_readBody_13 (by decide) (fun c_13 => ?_) (fun c_13 => ?_)
      · have h := of_pos h c_13
        rw [hQ]
        exact W.vret hx hb hr (fun t ht hW => ⟨⟨(v_read, v_body), rfl, Option.some.inj h, by rw [ht]; exact hP, va_K.moved hW.alike hK, hD⟩, hS.F ht⟩) hS.2.2 d_M_readBody_119
      · have h := of_neg h c_13
        refine lv_bipush (v := (nI 9)) hx hb d_M_readBody_16 (by decide) ?_
        refine lv_aload_n hx hb d_M_readBody_18 rfl (lv_at hl 0 rfl) ?_
        refine va_get (D := (dC, dI)) (ci := 4) (v := .ref h_line) (C := R_M) (T := F_M) (N := 15) hx hb hts lay_M hown hK hP 0 rfl rfl 0 (by decide) (hts _ flk_M_7) (fun _ h9 => h9) rfl d_M_readBody_19 ?_
        refine lv_iload_n hx hb d_M_readBody_22 rfl (lv_at hl 1 rfl) ?_
        obtain ⟨g_23, h⟩ := of_guard h
        refine va_iald hx hb hK hP 1 0 rfl rfl (inR_in g_23) d_M_readBody_23 ?_
        have hPc := hP.sub (ws' := []) [] rfl
        have hDc := hD.sub (ws' := []) [] (by decide) rfl
        have hKc := hK.sub (tys' := []) [] rfl
        have hFc := va_free (wc := []) hD hS hA [] rfl
        obtain ⟨v_24, hc_24, h⟩ := of_bind h
        refine va_calli (va_runS (As := [.int (v_line z1.toNatClampNeg)]) (rest := [.int (nI 9)]) ⟨hx, hb, hml, hown, hts⟩ (c_M_relationOf l dC dI H.size (v_line z1.toNatClampNeg) v_24.1 v_24.2 hc_24) (va_cwS 1 hts (gS mlk_M_76 sta_M_relationOf ini_M cod_M_relationOf) rfl rfl rfl (by decide +kernel) ⟨Nat.le_of_ble_eq_true rfl, Nat.le_of_ble_eq_true rfl⟩) ⟨fun a U g mk q => by obtain ⟨q0, q1, qP, qK, qD⟩ := q; exact ⟨q0, q1, qP, va_K.moved (u := U) (U := U.calling g mk a) (Vm.Alike.refl U.vm) qK, qD⟩, fun U hU hW => ⟨rfl, by rw [hU], by rw [hU]; exact hPc, va_K.moved hW.alike hKc, hDc.weaken (fun _ _ _ _ => trivial)⟩⟩ rfl rfl hl.1 rfl (lv_room (Nat.le_of_ble_eq_true rfl)) d_M_readBody_24 ⟨Nat.le_of_ble_eq_true rfl, Nat.le_of_ble_eq_true rfl⟩) hS (fun q _ h9 => hFc q h9) hFc (fun r_24 u t H1 locs ht hvm hw hB hz1 hk1 hS => ?_)
        obtain ⟨rfl, rfl⟩ := hw
        obtain ⟨hP1, hK1, hD1⟩ := hB
        rw [ht] at hP1
        obtain ⟨hP, hD⟩ := va_join (wr := [(h_o, .inr (4, [.ref h_line, .int v_typed, .ref h_fact, .ref h_marked, .int v_count, .ref h_many, .ref h_codes, .int v_oldCount, .ref h_oldMany, .ref h_oldCodes, .int v_read, .ref h_body, .ref h_roundOf, .ref h_fresh, .int v_last])), (h_line, .inl (k_line, 32, .inl v_line)), (h_body, .inl (k_body, 3, .inl v_body))]) (w1 := []) hP hD [] [0, 1, 2] rfl rfl (by decide) (by decide) hk1 hFc hP1 hD1
        have hP := hP.sub (ws' := [(h_o, .inr (4, [.ref h_line, .int v_typed, .ref h_fact, .ref h_marked, .int v_count, .ref h_many, .ref h_codes, .int v_oldCount, .ref h_oldMany, .ref h_oldCodes, .int v_read, .ref h_body, .ref h_roundOf, .ref h_fresh, .int v_last])), (h_line, .inl (k_line, 32, .inl v_line)), (h_body, .inl (k_body, 3, .inl v_body))]) [0, 1, 2] rfl
        have hD := hD.sub (ws' := [(h_o, .inr (4, [.ref h_line, .int v_typed, .ref h_fact, .ref h_marked, .int v_count, .ref h_many, .ref h_codes, .int v_oldCount, .ref h_oldMany, .ref h_oldCodes, .int v_read, .ref h_body, .ref h_roundOf, .ref h_fresh, .int v_last])), (h_line, .inl (k_line, 32, .inl v_line)), (h_body, .inl (k_body, 3, .inl v_body))]) [0, 1, 2] (by decide) rfl
        generalize H1 = H at hP hS ⊢
        refine lv_imul hx hb d_M_readBody_27 ?_
        refine lv_iconst (v := (nI 3)) hx hb d_M_readBody_28 (by decide) ?_
        refine lv_aload_n hx hb d_M_readBody_29 rfl (lv_at hl 0 rfl) ?_
        refine va_get (D := (dC, dI)) (ci := 4) (v := .ref h_line) (C := R_M) (T := F_M) (N := 15) hx hb hts lay_M hown hK hP 0 rfl rfl 0 (by decide) (hts _ flk_M_7) (fun _ h9 => h9) rfl d_M_readBody_30 ?_
        refine lv_iload_n hx hb d_M_readBody_33 rfl (lv_at hl 1 rfl) ?_
        refine lv_iconst (v := (nI 2)) hx hb d_M_readBody_34 (by decide) ?_
        refine lv_iadd hx hb d_M_readBody_35 ?_
        obtain ⟨g_36, h⟩ := of_guard h
        refine va_iald hx hb hK hP 1 0 rfl rfl (inR_in g_36) d_M_readBody_36 ?_
        refine lv_bipush (v := (nI 88)) hx hb d_M_readBody_37 (by decide) ?_
        refine lv_isub hx hb d_M_readBody_39 ?_
        refine lv_imul hx hb d_M_readBody_40 ?_
        refine lv_iadd hx hb d_M_readBody_41 ?_
        refine lv_aload_n hx hb d_M_readBody_42 rfl (lv_at hl 0 rfl) ?_
        refine va_get (D := (dC, dI)) (ci := 4) (v := .ref h_line) (C := R_M) (T := F_M) (N := 15) hx hb hts lay_M hown hK hP 0 rfl rfl 0 (by decide) (hts _ flk_M_7) (fun _ h9 => h9) rfl d_M_readBody_43 ?_
        refine lv_iload_n hx hb d_M_readBody_46 rfl (lv_at hl 1 rfl) ?_
        refine lv_iconst (v := (nI 4)) hx hb d_M_readBody_47 (by decide) ?_
        refine lv_iadd hx hb d_M_readBody_48 ?_
        obtain ⟨g_49, h⟩ := of_guard h
        refine va_iald hx hb hK hP 1 0 rfl rfl (inR_in g_49) d_M_readBody_49 ?_
        refine lv_iadd hx hb d_M_readBody_50 ?_
        refine lv_bipush (v := (nI 88)) hx hb d_M_readBody_51 (by decide) ?_
        refine lv_isub hx hb d_M_readBody_53 ?_
        refine lv_topi (fun w_54 ew_54 => ?_)
        have h := of_let h ew_54
        refine lv_istore_n (lv' := [(2, .int w_54), (0, .ref h_o), (1, .int z1)]) hx hb d_M_readBody_54 rfl hl (by decide) rfl (fun ls hl => ?_)
        refine lv_aload_n hx hb d_M_readBody_55 rfl (lv_at hl 1 rfl) ?_
        refine va_get (D := (dC, dI)) (ci := 4) (v := .int v_read) (C := R_M) (T := F_M) (N := 15) hx hb hts lay_M hown hK hP 0 rfl rfl 10 (by decide) (hts _ flk_M_73) (fun _ h9 => h9) rfl d_M_readBody_56 ?_
        refine lv_istore_n (lv' := [(3, .int v_read), (2, .int w_54), (0, .ref h_o), (1, .int z1)]) hx hb d_M_readBody_59 rfl hl (by decide) rfl (fun ls hl => ?_)
        exact J_60 (m_M_readBody_8 v_typed v_line n) ih 40 v_read v_body z1 w_54 v_read h _ _ hP hD hS ls (lv_sub hl [2, 3, 1, 0] rfl)
  unfold m_M_readBody at h
  refine lv_aload_n hx hb d_M_readBody_0 rfl (lv_at hl 0 rfl) ?_
  refine lv_iconst (v := (nI 0)) hx hb d_M_readBody_1 (by decide) ?_
  refine va_put (D := (dC, dI)) (ci := 4) (v := .int (nI 0)) (ty := .int) (C := R_M) (T := F_M) (N := 15) hx hb hts lay_M t_M t_M_ok n_M hown hK hP hD hS 0 rfl rfl 10 (by decide) (hts _ flk_M_73) (fun _ h9 => h9) rfl (by decide +kernel) rfl rfl (Nat.le_of_ble_eq_true rfl) d_M_readBody_2 (fun H locs hP hD hS => ?_)
  have hP : va_P (dC, dI) classes [(h_o, .inr (4, [.ref h_line, .int v_typed, .ref h_fact, .ref h_marked, .int v_count, .ref h_many, .ref h_codes, .int v_oldCount, .ref h_oldMany, .ref h_oldCodes, .int (nI 0), .ref h_body, .ref h_roundOf, .ref h_fresh, .int v_last])), (h_line, .inl (k_line, 32, .inl v_line)), (h_body, .inl (k_body, 3, .inl v_body))] H := hP
  have hD : va_D A [(h_o, .inr (4, [.ref h_line, .int v_typed, .ref h_fact, .ref h_marked, .int v_count, .ref h_many, .ref h_codes, .int v_oldCount, .ref h_oldMany, .ref h_oldCodes, .int (nI 0), .ref h_body, .ref h_roundOf, .ref h_fresh, .int v_last])), (h_line, .inl (k_line, 32, .inl v_line)), (h_body, .inl (k_body, 3, .inl v_body))] := hD
  refine lv_bipush (v := (nI 8)) hx hb d_M_readBody_5 (by decide) ?_
  refine lv_istore_n (lv' := [(1, .int (nI 8)), (0, .ref h_o)]) hx hb d_M_readBody_7 rfl hl (by decide) rfl (fun ls hl => ?_)
  exact J_8 40 (nI 0) v_body (nI 8) h _ _ hP hD hS ls (lv_sub hl [1, 0] rfl)
set_option maxHeartbeats 1000000 in
set_option maxRecDepth 100000 in
theorem c_M_variables (l : Launch) (dC : Nat → ClassId) (dI : Nat → Nat → Nat) (sz : Nat)  (x0 : Int32) (r0 : Int32) (u0 : Unit) (h : m_M_variables x0 = some (r0, u0)) : Met l y_M_variables w_M_variables ({ frames := 0, cells := 0, slots := 0, locals := 0 } : Room) (va_Pc [.int x0] (fun U => U.heap.size = sz ∧ va_P (dC, dI) classes [] U.heap ∧ va_K (dC, dI) classes [] U ∧ va_D (fun _ => True) [])) (va_Qi (fun (r : Int32) (u : Unit) => r = r0 ∧ u = u0) (fun (u : Unit) (t : State) => va_P (dC, dI) classes [] t.heap ∧ va_K (dC, dI) classes [] t ∧ va_D (va_A [] sz) []) (va_A [] sz)) 0 0 (va_A [] sz) := by
  refine Met.ofW (cc := b_M_variables) (maxL := 1) (ret := (some .int)) (by decide) rfl ?_
  intro p e s m args below meth c s₁ B hml hv
  obtain ⟨rfl, hsz, hP, hK, hD0⟩ := hv
  have hx := B.exec
  have hb := B.bytes
  have hr := B.returns
  have hts0 := atoms_spec (ws := w_M_variables) B.pre
  have hts : ∀ w ∈ lw_gd, w.before ([.int x0] : List Value).toArray s = true := fun w h9 => hts0 w (List.mem_cons_of_mem _ h9)
  have hown : s.vm.findClass R_M = some m.cls := findClass_of_methodNamed B.named
  have hlocks := B.notSynchronized
  subst hsz
  have hD := hD0.self (sz := s.heap.size)
  generalize hAe : va_A [] s.heap.size = A at hD ⊢
  have hA : ∀ q : Nat, s.heap.size ≤ q → A q := fun q h9 => by rw [← hAe]; exact Or.inr h9
  obtain ⟨H, eH⟩ : ∃ H : Heap, H = s.heap := ⟨_, rfl⟩
  have hS : va_S A s.heap H [] := by rw [eH]; exact va_S.rf
  have hP : va_P (dC, dI) classes [] H := by rw [eH]; exact hP
  refine W_gen (fun Q hQ => ?_)
  refine W_heap eH ?_
  clear eH
  have hl := lv_entry ([.int x0]) (n := 1) (Nat.le_of_ble_eq_true rfl)
  rw [lg_entry_eq]
  generalize (lg_sl ([.int x0]) ++ List.replicate (1 - (lg_sl ([.int x0])).length) Slot.unset).toArray = ls at hl ⊢
  have hl : lv_has ls 1 [(0, .int x0)] := hl
  unfold m_M_variables at h
  refine lv_iconst (v := (nI 1)) hx hb d_M_variables_0 (by decide) ?_
  refine lv_iload_n hx hb d_M_variables_1 rfl (lv_at hl 0 rfl) ?_
  refine lv_iconst (v := (nI 3)) hx hb d_M_variables_2 (by decide) ?_
  refine lv_idiv hx hb d_M_variables_3 (by decide) ?_
  refine lv_iconst (v := (nI 3)) hx hb d_M_variables_4 (by decide) ?_
  refine lv_irem hx hb d_M_variables_5 (by decide) ?_
  refine lv_ishl hx hb d_M_variables_6 ?_
  refine lv_iconst (v := (nI 1)) hx hb d_M_variables_7 (by decide) ?_
  refine lv_iload_n hx hb d_M_variables_8 rfl (lv_at hl 0 rfl) ?_
  refine lv_iconst (v := (nI 3)) hx hb d_M_variables_9 (by decide) ?_
  refine lv_irem hx hb d_M_variables_10 (by decide) ?_
  refine lv_ishl hx hb d_M_variables_11 ?_
  refine lv_ior hx hb d_M_variables_12 ?_
  rw [hQ]
  exact W.iret (v := ((nI 1) <<< ((irm (x0 / (nI 3)) (nI 3)) &&& 31)) ||| ((nI 1) <<< ((irm x0 (nI 3)) &&& 31))) hx hb hr (fun t ht hW => ⟨⟨((nI 1) <<< ((irm (x0 / (nI 3)) (nI 3)) &&& 31)) ||| ((nI 1) <<< ((irm x0 (nI 3)) &&& 31)), (), rfl, Prod.mk.inj (Option.some.inj h), by rw [ht]; exact hP, va_K.moved hW.alike hK, hD⟩, hS.F ht⟩) hS.2.2 d_M_variables_13
set_option maxHeartbeats 1000000 in
set_option maxRecDepth 100000 in
theorem c_M_known (l : Launch) (dC : Nat → ClassId) (dI : Nat → Nat → Nat) (h_o h_line h_fact h_marked h_many h_codes h_oldMany h_oldCodes h_body h_roundOf h_fresh : Nat) (k_many k_codes k_body : ClassId) (sz : Nat) (v_typed : Int32) (v_count : Int32) (v_oldCount : Int32) (v_read : Int32) (v_last : Int32) (v_many : Nat → Int32) (v_codes : Nat → Int32) (v_body : Nat → Int32) (x1 : Int32) (r0 : Int32) (u0 : Unit) (h : m_M_known v_read v_many v_codes v_body x1 = some (r0, u0)) : Met l y_M_known w_M_known ({ frames := 0, cells := 0, slots := 0, locals := 0 } : Room) (va_Pc [.ref h_o, .int x1] (fun U => U.heap.size = sz ∧ va_P (dC, dI) classes [(h_o, .inr (4, [.ref h_line, .int v_typed, .ref h_fact, .ref h_marked, .int v_count, .ref h_many, .ref h_codes, .int v_oldCount, .ref h_oldMany, .ref h_oldCodes, .int v_read, .ref h_body, .ref h_roundOf, .ref h_fresh, .int v_last])), (h_many, .inl (k_many, 2, .inl v_many)), (h_codes, .inl (k_codes, 6, .inl v_codes)), (h_body, .inl (k_body, 3, .inl v_body))] U.heap ∧ va_K (dC, dI) classes [(k_many, .int), (k_codes, .int), (k_body, .int)] U ∧ va_D (fun _ => True) [(h_o, .inr (4, [.ref h_line, .int v_typed, .ref h_fact, .ref h_marked, .int v_count, .ref h_many, .ref h_codes, .int v_oldCount, .ref h_oldMany, .ref h_oldCodes, .int v_read, .ref h_body, .ref h_roundOf, .ref h_fresh, .int v_last])), (h_many, .inl (k_many, 2, .inl v_many)), (h_codes, .inl (k_codes, 6, .inl v_codes)), (h_body, .inl (k_body, 3, .inl v_body))])) (va_Qi (fun (r : Int32) (u : Unit) => r = r0 ∧ u = u0) (fun (u : Unit) (t : State) => va_P (dC, dI) classes [(h_o, .inr (4, [.ref h_line, .int v_typed, .ref h_fact, .ref h_marked, .int v_count, .ref h_many, .ref h_codes, .int v_oldCount, .ref h_oldMany, .ref h_oldCodes, .int v_read, .ref h_body, .ref h_roundOf, .ref h_fresh, .int v_last])), (h_many, .inl (k_many, 2, .inl v_many)), (h_codes, .inl (k_codes, 6, .inl v_codes)), (h_body, .inl (k_body, 3, .inl v_body))] t.heap ∧ va_K (dC, dI) classes [(k_many, .int), (k_codes, .int), (k_body, .int)] t ∧ va_D (va_A [(h_o, .inr (4, [.ref h_line, .int v_typed, .ref h_fact, .ref h_marked, .int v_count, .ref h_many, .ref h_codes, .int v_oldCount, .ref h_oldMany, .ref h_oldCodes, .int v_read, .ref h_body, .ref h_roundOf, .ref h_fresh, .int v_last])), (h_many, .inl (k_many, 2, .inl v_many)), (h_codes, .inl (k_codes, 6, .inl v_codes)), (h_body, .inl (k_body, 3, .inl v_body))] sz) [(h_o, .inr (4, [.ref h_line, .int v_typed, .ref h_fact, .ref h_marked, .int v_count, .ref h_many, .ref h_codes, .int v_oldCount, .ref h_oldMany, .ref h_oldCodes, .int v_read, .ref h_body, .ref h_roundOf, .ref h_fresh, .int v_last])), (h_many, .inl (k_many, 2, .inl v_many)), (h_codes, .inl (k_codes, 6, .inl v_codes)), (h_body, .inl (k_body, 3, .inl v_body))]) (va_A [(h_o, .inr (4, [.ref h_line, .int v_typed, .ref h_fact, .ref h_marked, .int v_count, .ref h_many, .ref h_codes, .int v_oldCount, .ref h_oldMany, .ref h_oldCodes, .int v_read, .ref h_body, .ref h_roundOf, .ref h_fresh, .int v_last])), (h_many, .inl (k_many, 2, .inl v_many)), (h_codes, .inl (k_codes, 6, .inl v_codes)), (h_body, .inl (k_body, 3, .inl v_body))] sz)) 0 0 (va_A [(h_o, .inr (4, [.ref h_line, .int v_typed, .ref h_fact, .ref h_marked, .int v_count, .ref h_many, .ref h_codes, .int v_oldCount, .ref h_oldMany, .ref h_oldCodes, .int v_read, .ref h_body, .ref h_roundOf, .ref h_fresh, .int v_last])), (h_many, .inl (k_many, 2, .inl v_many)), (h_codes, .inl (k_codes, 6, .inl v_codes)), (h_body, .inl (k_body, 3, .inl v_body))] sz) := by
  refine Met.ofW (cc := b_M_known) (maxL := 4) (ret := (some .boolean)) (by decide) rfl ?_
  intro p e s m args below meth c s₁ B hml hv
  obtain ⟨rfl, hsz, hP, hK, hD0⟩ := hv
  have hx := B.exec
  have hb := B.bytes
  have hr := B.returns
  have hts0 := atoms_spec (ws := w_M_known) B.pre
  have hts : ∀ w ∈ lw_gd, w.before ([.ref h_o, .int x1] : List Value).toArray s = true := fun w h9 => hts0 w (List.mem_cons_of_mem _ h9)
  have hown : s.vm.findClass R_M = some m.cls := findClass_of_methodNamed B.named
  have hlocks := B.notSynchronized
  subst hsz
  have hD := hD0.self (sz := s.heap.size)
  generalize hAe : va_A [(h_o, .inr (4, [.ref h_line, .int v_typed, .ref h_fact, .ref h_marked, .int v_count, .ref h_many, .ref h_codes, .int v_oldCount, .ref h_oldMany, .ref h_oldCodes, .int v_read, .ref h_body, .ref h_roundOf, .ref h_fresh, .int v_last])), (h_many, .inl (k_many, 2, .inl v_many)), (h_codes, .inl (k_codes, 6, .inl v_codes)), (h_body, .inl (k_body, 3, .inl v_body))] s.heap.size = A at hD ⊢
  have hA : ∀ q : Nat, s.heap.size ≤ q → A q := fun q h9 => by rw [← hAe]; exact Or.inr h9
  obtain ⟨H, eH⟩ : ∃ H : Heap, H = s.heap := ⟨_, rfl⟩
  have hS : va_S A s.heap H [] := by rw [eH]; exact va_S.rf
  have hP : va_P (dC, dI) classes [(h_o, .inr (4, [.ref h_line, .int v_typed, .ref h_fact, .ref h_marked, .int v_count, .ref h_many, .ref h_codes, .int v_oldCount, .ref h_oldMany, .ref h_oldCodes, .int v_read, .ref h_body, .ref h_roundOf, .ref h_fresh, .int v_last])), (h_many, .inl (k_many, 2, .inl v_many)), (h_codes, .inl (k_codes, 6, .inl v_codes)), (h_body, .inl (k_body, 3, .inl v_body))] H := by rw [eH]; exact hP
  refine W_gen (fun Q hQ => ?_)
  refine W_heap eH ?_
  clear eH
  have hl := lv_entry ([.ref h_o, .int x1]) (n := 4) (Nat.le_of_ble_eq_true rfl)
  rw [lg_entry_eq]
  generalize (lg_sl ([.ref h_o, .int x1]) ++ List.replicate (4 - (lg_sl ([.ref h_o, .int x1])).length) Slot.unset).toArray = ls at hl ⊢
  have hl : lv_has ls 4 [(0, .ref h_o), (1, .int x1)] := hl
  have J_57 : ∀ (k_21 : Int32 → Int32 → Int32 → Option (Int32 × Unit)) (hk_21 : ∀ (z1 : Int32) (z2 : Int32) (z3 : Int32), k_21 z1 z2 z3 = some (r0, u0) → ∀ (H : Heap) (locs : List Loc), va_P (dC, dI) classes [(h_o, .inr (4, [.ref h_line, .int v_typed, .ref h_fact, .ref h_marked, .int v_count, .ref h_many, .ref h_codes, .int v_oldCount, .ref h_oldMany, .ref h_oldCodes, .int v_read, .ref h_body, .ref h_roundOf, .ref h_fresh, .int v_last])), (h_many, .inl (k_many, 2, .inl v_many)), (h_codes, .inl (k_codes, 6, .inl v_codes)), (h_body, .inl (k_body, 3, .inl v_body))] H → va_D A [(h_o, .inr (4, [.ref h_line, .int v_typed, .ref h_fact, .ref h_marked, .int v_count, .ref h_many, .ref h_codes, .int v_oldCount, .ref h_oldMany, .ref h_oldCodes, .int v_read, .ref h_body, .ref h_roundOf, .ref h_fresh, .int v_last])), (h_many, .inl (k_many, 2, .inl v_many)), (h_codes, .inl (k_codes, 6, .inl v_codes)), (h_body, .inl (k_body, 3, .inl v_body))] → va_S A s.heap H locs → ∀ (ls : Array Slot), lv_has ls 4 [(0, .ref h_o), (1, .int z1), (2, .int z2), (3, .int z3)] → W p l e (headSpec w_M_known ({ frames := 0, cells := 0, slots := 0, locals := 0 } : Room)).room s m ([.ref h_o, .int x1] : List Value).toArray below meth c H locs 0 0 Q (F0 m 21 ls [])) (z1 : Int32) (z3 : Int32) (y0 : Int32), m_M_known_57 v_read v_many v_codes v_body k_21 z1 z3 y0 = some (r0, u0) → ∀ (H : Heap) (locs : List Loc), va_P (dC, dI) classes [(h_o, .inr (4, [.ref h_line, .int v_typed, .ref h_fact, .ref h_marked, .int v_count, .ref h_many, .ref h_codes, .int v_oldCount, .ref h_oldMany, .ref h_oldCodes, .int v_read, .ref h_body, .ref h_roundOf, .ref h_fresh, .int v_last])), (h_many, .inl (k_many, 2, .inl v_many)), (h_codes, .inl (k_codes, 6, .inl v_codes)), (h_body, .inl (k_body, 3, .inl v_body))] H → va_D A [(h_o, .inr (4, [.ref h_line, .int v_typed, .ref h_fact, .ref h_marked, .int v_count, .ref h_many, .ref h_codes, .int v_oldCount, .ref h_oldMany, .ref h_oldCodes, .int v_read, .ref h_body, .ref h_roundOf, .ref h_fresh, .int v_last])), (h_many, .inl (k_many, 2, .inl v_many)), (h_codes, .inl (k_codes, 6, .inl v_codes)), (h_body, .inl (k_body, 3, .inl v_body))] → va_S A s.heap H locs → ∀ (ls : Array Slot), lv_has ls 4 [(0, .ref h_o), (1, .int z1), (3, .int z3)] → W p l e (headSpec w_M_known ({ frames := 0, cells := 0, slots := 0, locals := 0 } : Room)).room s m ([.ref h_o, .int x1] : List Value).toArray below meth c H locs 0 0 Q (F0 m 57 ls [.int y0]) := by
    intro k_21 hk_21 z1 z3 y0 h H locs hP hD hS ls hl
    unfold m_M_known_57 at h
    refine lv_istore_n (lv' := [(2, .int y0), (0, .ref h_o), (1, .int z1), (3, .int z3)]) hx hb d_M_known_57 rfl hl (by decide) rfl (fun ls hl => ?_)
    refine lv_iinc (v := z3 + (nI 1)) (lv' := [(3, .int (z3 + (nI 1))), (2, .int y0), (0, .ref h_o), (1, .int z1)]) hx hb d_M_known_58 hl (k := 3) rfl rfl (by decide) rfl (fun ls hl => ?_)
    refine lv_goto (tgt := 21) hx hb d_M_known_61 (by decide) ?_
    exact hk_21 z1 y0 (z3 + (nI 1)) h _ _ hP hD hS ls (lv_sub hl [2, 3, 1, 0] rfl)
  have J_21 : ∀ (n : Nat) (z1 : Int32) (z2 : Int32) (z3 : Int32), m_M_known_21 v_read v_many v_codes v_body n z1 z2 z3 = some (r0, u0) → ∀ (H : Heap) (locs : List Loc), va_P (dC, dI) classes [(h_o, .inr (4, [.ref h_line, .int v_typed, .ref h_fact, .ref h_marked, .int v_count, .ref h_many, .ref h_codes, .int v_oldCount, .ref h_oldMany, .ref h_oldCodes, .int v_read, .ref h_body, .ref h_roundOf, .ref h_fresh, .int v_last])), (h_many, .inl (k_many, 2, .inl v_many)), (h_codes, .inl (k_codes, 6, .inl v_codes)), (h_body, .inl (k_body, 3, .inl v_body))] H → va_D A [(h_o, .inr (4, [.ref h_line, .int v_typed, .ref h_fact, .ref h_marked, .int v_count, .ref h_many, .ref h_codes, .int v_oldCount, .ref h_oldMany, .ref h_oldCodes, .int v_read, .ref h_body, .ref h_roundOf, .ref h_fresh, .int v_last])), (h_many, .inl (k_many, 2, .inl v_many)), (h_codes, .inl (k_codes, 6, .inl v_codes)), (h_body, .inl (k_body, 3, .inl v_body))] → va_S A s.heap H locs → ∀ (ls : Array Slot), lv_has ls 4 [(0, .ref h_o), (1, .int z1), (2, .int z2), (3, .int z3)] → W p l e (headSpec w_M_known ({ frames := 0, cells := 0, slots := 0, locals := 0 } : Room)).room s m ([.ref h_o, .int x1] : List Value).toArray below meth c H locs 0 0 Q (F0 m 21 ls []) := by
    intro n
    induction n with
    | zero => intro z1 z2 z3 h; exact absurd h (by unfold m_M_known_21; exact fun h9 => nomatch h9)
    | succ n ih =>
      intro z1 z2 z3 h H locs hP hD hS ls hl
      unfold m_M_known_21 at h
      refine lv_iload_n hx hb d_M_known_21 rfl (lv_at hl 3 rfl) ?_
      refine lv_aload_n hx hb d_M_known_22 rfl (lv_at hl 0 rfl) ?_
      refine va_get (D := (dC, dI)) (ci := 4) (v := .int v_read) (C := R_M) (T := F_M) (N := 15) hx hb hts lay_M hown hK hP 0 rfl rfl 10 (by decide) (hts _ flk_M_73) (fun _ h9 => h9) rfl d_M_known_23 ?_
      refine lv_icmp_ge (tgt := 64) hx hb d_M_known_26 (by decide) (fun c_26 => ?_) (fun c_26 => ?_)
      · have h := of_pos h c_26
        refine lv_iload_n hx hb d_M_known_64 rfl (lv_at hl 2 rfl) ?_
        obtain ⟨g_65, h⟩ := of_guard h
        rw [hQ]
        exact W.zret (v := z2) hx hb hr (nrz g_65) (fun t ht hW => ⟨⟨z2, (), rfl, Prod.mk.inj (Option.some.inj h), by rw [ht]; exact hP, va_K.moved hW.alike hK, hD⟩, hS.F ht⟩) hS.2.2 d_M_known_65
      · have h := of_neg h c_26
        refine lv_iload_n hx hb d_M_known_29 rfl (lv_at hl 2 rfl) ?_
        refine lv_if_eq (tgt := 64) hx hb d_M_known_30 (by decide) (fun c_30 => ?_) (fun c_30 => ?_)
        · have h := of_pos h c_30
          refine lv_iload_n hx hb d_M_known_64 rfl (lv_at hl 2 rfl) ?_
          obtain ⟨g_65, h⟩ := of_guard h
          rw [hQ]
          exact W.zret (v := z2) hx hb hr (nrz g_65) (fun t ht hW => ⟨⟨z2, (), rfl, Prod.mk.inj (Option.some.inj h), by rw [ht]; exact hP, va_K.moved hW.alike hK, hD⟩, hS.F ht⟩) hS.2.2 d_M_known_65
        · have h := of_neg h c_30
          refine lv_aload_n hx hb d_M_known_33 rfl (lv_at hl 0 rfl) ?_
          refine va_get (D := (dC, dI)) (ci := 4) (v := .ref h_codes) (C := R_M) (T := F_M) (N := 15) hx hb hts lay_M hown hK hP 0 rfl rfl 6 (by decide) (hts _ flk_M_23) (fun _ h9 => h9) rfl d_M_known_34 ?_
          refine lv_iconst (v := (nI 3)) hx hb d_M_known_37 (by decide) ?_
          refine lv_iload_n hx hb d_M_known_38 rfl (lv_at hl 1 rfl) ?_
          refine lv_imul hx hb d_M_known_39 ?_
          refine lv_iload_n hx hb d_M_known_40 rfl (lv_at hl 3 rfl) ?_
          refine lv_iadd hx hb d_M_known_41 ?_
          obtain ⟨g_42, h⟩ := of_guard h
          refine va_iald hx hb hK hP 2 1 rfl rfl (inR_in g_42) d_M_known_42 ?_
          refine lv_aload_n hx hb d_M_known_43 rfl (lv_at hl 0 rfl) ?_
          refine va_get (D := (dC, dI)) (ci := 4) (v := .ref h_body) (C := R_M) (T := F_M) (N := 15) hx hb hts lay_M hown hK hP 0 rfl rfl 11 (by decide) (hts _ flk_M_32) (fun _ h9 => h9) rfl d_M_known_44 ?_
          refine lv_iload_n hx hb d_M_known_47 rfl (lv_at hl 3 rfl) ?_
          obtain ⟨g_48, h⟩ := of_guard h
          refine va_iald hx hb hK hP 3 2 rfl rfl (inR_in g_48) d_M_known_48 ?_
          refine lv_icmp_ne (tgt := 56) hx hb d_M_known_49 (by decide) (fun c_49 => ?_) (fun c_49 => ?_)
          · have h := of_neg h c_49
            refine lv_iconst (v := (nI 0)) hx hb d_M_known_56 (by decide) ?_
            exact J_57 (m_M_known_21 v_read v_many v_codes v_body n) ih z1 z3 (nI 0) h _ _ hP hD hS ls (lv_sub hl [0, 1, 3] rfl)
          · have h := of_pos h c_49
            refine lv_iconst (v := (nI 1)) hx hb d_M_known_52 (by decide) ?_
            refine lv_goto (tgt := 57) hx hb d_M_known_53 (by decide) ?_
            exact J_57 (m_M_known_21 v_read v_many v_codes v_body n) ih z1 z3 (nI 1) h _ _ hP hD hS ls (lv_sub hl [0, 1, 3] rfl)
  have J_18 : ∀ (z1 : Int32) (y0 : Int32), m_M_known_18 v_read v_many v_codes v_body z1 y0 = some (r0, u0) → ∀ (H : Heap) (locs : List Loc), va_P (dC, dI) classes [(h_o, .inr (4, [.ref h_line, .int v_typed, .ref h_fact, .ref h_marked, .int v_count, .ref h_many, .ref h_codes, .int v_oldCount, .ref h_oldMany, .ref h_oldCodes, .int v_read, .ref h_body, .ref h_roundOf, .ref h_fresh, .int v_last])), (h_many, .inl (k_many, 2, .inl v_many)), (h_codes, .inl (k_codes, 6, .inl v_codes)), (h_body, .inl (k_body, 3, .inl v_body))] H → va_D A [(h_o, .inr (4, [.ref h_line, .int v_typed, .ref h_fact, .ref h_marked, .int v_count, .ref h_many, .ref h_codes, .int v_oldCount, .ref h_oldMany, .ref h_oldCodes, .int v_read, .ref h_body, .ref h_roundOf, .ref h_fresh, .int v_last])), (h_many, .inl (k_many, 2, .inl v_many)), (h_codes, .inl (k_codes, 6, .inl v_codes)), (h_body, .inl (k_body, 3, .inl v_body))] → va_S A s.heap H locs → ∀ (ls : Array Slot), lv_has ls 4 [(0, .ref h_o), (1, .int z1)] → W p l e (headSpec w_M_known ({ frames := 0, cells := 0, slots := 0, locals := 0 } : Room)).room s m ([.ref h_o, .int x1] : List Value).toArray below meth c H locs 0 0 Q (F0 m 18 ls [.int y0]) := by
    intro z1 y0 h H locs hP hD hS ls hl
    unfold m_M_known_18 at h
    refine lv_istore_n (lv' := [(2, .int y0), (0, .ref h_o), (1, .int z1)]) hx hb d_M_known_18 rfl hl (by decide) rfl (fun ls hl => ?_)
    refine lv_iconst (v := (nI 0)) hx hb d_M_known_19 (by decide) ?_
    refine lv_istore_n (lv' := [(3, .int (nI 0)), (2, .int y0), (0, .ref h_o), (1, .int z1)]) hx hb d_M_known_20 rfl hl (by decide) rfl (fun ls hl => ?_)
    exact J_21 40 z1 y0 (nI 0) h _ _ hP hD hS ls (lv_sub hl [2, 3, 1, 0] rfl)
  unfold m_M_known at h
  refine lv_aload_n hx hb d_M_known_0 rfl (lv_at hl 0 rfl) ?_
  refine va_get (D := (dC, dI)) (ci := 4) (v := .ref h_many) (C := R_M) (T := F_M) (N := 15) hx hb hts lay_M hown hK hP 0 rfl rfl 5 (by decide) (hts _ flk_M_20) (fun _ h9 => h9) rfl d_M_known_1 ?_
  refine lv_iload_n hx hb d_M_known_4 rfl (lv_at hl 1 rfl) ?_
  obtain ⟨g_5, h⟩ := of_guard h
  refine va_iald hx hb hK hP 1 0 rfl rfl (inR_in g_5) d_M_known_5 ?_
  refine lv_aload_n hx hb d_M_known_6 rfl (lv_at hl 0 rfl) ?_
  refine va_get (D := (dC, dI)) (ci := 4) (v := .int v_read) (C := R_M) (T := F_M) (N := 15) hx hb hts lay_M hown hK hP 0 rfl rfl 10 (by decide) (hts _ flk_M_73) (fun _ h9 => h9) rfl d_M_known_7 ?_
  refine lv_icmp_ne (tgt := 17) hx hb d_M_known_10 (by decide) (fun c_10 => ?_) (fun c_10 => ?_)
  · have h := of_neg h c_10
    refine lv_iconst (v := (nI 0)) hx hb d_M_known_17 (by decide) ?_
    exact J_18 x1 (nI 0) h _ _ hP hD hS ls (lv_sub hl [0, 1] rfl)
  · have h := of_pos h c_10
    refine lv_iconst (v := (nI 1)) hx hb d_M_known_13 (by decide) ?_
    refine lv_goto (tgt := 18) hx hb d_M_known_14 (by decide) ?_
    exact J_18 x1 (nI 1) h _ _ hP hD hS ls (lv_sub hl [0, 1] rfl)
set_option maxHeartbeats 1000000 in
set_option maxRecDepth 100000 in
theorem c_M_enterClause (l : Launch) (dC : Nat → ClassId) (dI : Nat → Nat → Nat) (h_o h_line h_fact h_marked h_many h_codes h_oldMany h_oldCodes h_body h_roundOf h_fresh : Nat) (k_line k_many k_codes k_body : ClassId) (sz : Nat) (v_typed : Int32) (v_count : Int32) (v_oldCount : Int32) (v_read : Int32) (v_last : Int32) (v_line : Nat → Int32) (v_many : Nat → Int32) (v_codes : Nat → Int32) (v_body : Nat → Int32) (r0 : Int32) (u0 : Int32 × Int32 × (Nat → Int32) × (Nat → Int32) × (Nat → Int32)) (h : m_M_enterClause v_typed v_count v_read v_line v_many v_codes v_body = some (r0, u0)) : Met l y_M_enterClause w_M_enterClause ({ frames := 2, cells := 0, slots := 0, locals := 43 } : Room) (va_Pc [.ref h_o] (fun U => U.heap.size = sz ∧ va_P (dC, dI) classes [(h_o, .inr (4, [.ref h_line, .int v_typed, .ref h_fact, .ref h_marked, .int v_count, .ref h_many, .ref h_codes, .int v_oldCount, .ref h_oldMany, .ref h_oldCodes, .int v_read, .ref h_body, .ref h_roundOf, .ref h_fresh, .int v_last])), (h_line, .inl (k_line, 32, .inl v_line)), (h_many, .inl (k_many, 2, .inl v_many)), (h_codes, .inl (k_codes, 6, .inl v_codes)), (h_body, .inl (k_body, 3, .inl v_body))] U.heap ∧ va_K (dC, dI) classes [(k_line, .int), (k_many, .int), (k_codes, .int), (k_body, .int)] U ∧ va_D (fun _ => True) [(h_o, .inr (4, [.ref h_line, .int v_typed, .ref h_fact, .ref h_marked, .int v_count, .ref h_many, .ref h_codes, .int v_oldCount, .ref h_oldMany, .ref h_oldCodes, .int v_read, .ref h_body, .ref h_roundOf, .ref h_fresh, .int v_last])), (h_line, .inl (k_line, 32, .inl v_line)), (h_many, .inl (k_many, 2, .inl v_many)), (h_codes, .inl (k_codes, 6, .inl v_codes)), (h_body, .inl (k_body, 3, .inl v_body))])) (va_Qi (fun (r : Int32) (u : Int32 × Int32 × (Nat → Int32) × (Nat → Int32) × (Nat → Int32)) => r = r0 ∧ u = u0) (fun (u : Int32 × Int32 × (Nat → Int32) × (Nat → Int32) × (Nat → Int32)) (t : State) => va_P (dC, dI) classes [(h_o, .inr (4, [.ref h_line, .int v_typed, .ref h_fact, .ref h_marked, .int u.1, .ref h_many, .ref h_codes, .int v_oldCount, .ref h_oldMany, .ref h_oldCodes, .int u.2.1, .ref h_body, .ref h_roundOf, .ref h_fresh, .int v_last])), (h_line, .inl (k_line, 32, .inl v_line)), (h_many, .inl (k_many, 2, .inl u.2.2.1)), (h_codes, .inl (k_codes, 6, .inl u.2.2.2.1)), (h_body, .inl (k_body, 3, .inl u.2.2.2.2))] t.heap ∧ va_K (dC, dI) classes [(k_line, .int), (k_many, .int), (k_codes, .int), (k_body, .int)] t ∧ va_D (va_A [(h_o, .inr (4, [.ref h_line, .int v_typed, .ref h_fact, .ref h_marked, .int v_count, .ref h_many, .ref h_codes, .int v_oldCount, .ref h_oldMany, .ref h_oldCodes, .int v_read, .ref h_body, .ref h_roundOf, .ref h_fresh, .int v_last])), (h_line, .inl (k_line, 32, .inl v_line)), (h_many, .inl (k_many, 2, .inl v_many)), (h_codes, .inl (k_codes, 6, .inl v_codes)), (h_body, .inl (k_body, 3, .inl v_body))] sz) [(h_o, .inr (4, [.ref h_line, .int v_typed, .ref h_fact, .ref h_marked, .int u.1, .ref h_many, .ref h_codes, .int v_oldCount, .ref h_oldMany, .ref h_oldCodes, .int u.2.1, .ref h_body, .ref h_roundOf, .ref h_fresh, .int v_last])), (h_line, .inl (k_line, 32, .inl v_line)), (h_many, .inl (k_many, 2, .inl u.2.2.1)), (h_codes, .inl (k_codes, 6, .inl u.2.2.2.1)), (h_body, .inl (k_body, 3, .inl u.2.2.2.2))]) (va_A [(h_o, .inr (4, [.ref h_line, .int v_typed, .ref h_fact, .ref h_marked, .int v_count, .ref h_many, .ref h_codes, .int v_oldCount, .ref h_oldMany, .ref h_oldCodes, .int v_read, .ref h_body, .ref h_roundOf, .ref h_fresh, .int v_last])), (h_line, .inl (k_line, 32, .inl v_line)), (h_many, .inl (k_many, 2, .inl v_many)), (h_codes, .inl (k_codes, 6, .inl v_codes)), (h_body, .inl (k_body, 3, .inl v_body))] sz)) 0 0 (va_A [(h_o, .inr (4, [.ref h_line, .int v_typed, .ref h_fact, .ref h_marked, .int v_count, .ref h_many, .ref h_codes, .int v_oldCount, .ref h_oldMany, .ref h_oldCodes, .int v_read, .ref h_body, .ref h_roundOf, .ref h_fresh, .int v_last])), (h_line, .inl (k_line, 32, .inl v_line)), (h_many, .inl (k_many, 2, .inl v_many)), (h_codes, .inl (k_codes, 6, .inl v_codes)), (h_body, .inl (k_body, 3, .inl v_body))] sz) := by
  refine Met.ofW (cc := b_M_enterClause) (maxL := 4) (ret := (some .int)) (by decide) rfl ?_
  intro p e s m args below meth c s₁ B hml hv
  obtain ⟨rfl, hsz, hP, hK, hD0⟩ := hv
  have hx := B.exec
  have hb := B.bytes
  have hr := B.returns
  have hts0 := atoms_spec (ws := w_M_enterClause) B.pre
  have hts : ∀ w ∈ lw_gd, w.before ([.ref h_o] : List Value).toArray s = true := fun w h9 => hts0 w (List.mem_cons_of_mem _ h9)
  have hown : s.vm.findClass R_M = some m.cls := findClass_of_methodNamed B.named
  have hlocks := B.notSynchronized
  subst hsz
  have hD := hD0.self (sz := s.heap.size)
  generalize hAe : va_A [(h_o, .inr (4, [.ref h_line, .int v_typed, .ref h_fact, .ref h_marked, .int v_count, .ref h_many, .ref h_codes, .int v_oldCount, .ref h_oldMany, .ref h_oldCodes, .int v_read, .ref h_body, .ref h_roundOf, .ref h_fresh, .int v_last])), (h_line, .inl (k_line, 32, .inl v_line)), (h_many, .inl (k_many, 2, .inl v_many)), (h_codes, .inl (k_codes, 6, .inl v_codes)), (h_body, .inl (k_body, 3, .inl v_body))] s.heap.size = A at hD ⊢
  have hA : ∀ q : Nat, s.heap.size ≤ q → A q := fun q h9 => by rw [← hAe]; exact Or.inr h9
  obtain ⟨H, eH⟩ : ∃ H : Heap, H = s.heap := ⟨_, rfl⟩
  have hS : va_S A s.heap H [] := by rw [eH]; exact va_S.rf
  have hP : va_P (dC, dI) classes [(h_o, .inr (4, [.ref h_line, .int v_typed, .ref h_fact, .ref h_marked, .int v_count, .ref h_many, .ref h_codes, .int v_oldCount, .ref h_oldMany, .ref h_oldCodes, .int v_read, .ref h_body, .ref h_roundOf, .ref h_fresh, .int v_last])), (h_line, .inl (k_line, 32, .inl v_line)), (h_many, .inl (k_many, 2, .inl v_many)), (h_codes, .inl (k_codes, 6, .inl v_codes)), (h_body, .inl (k_body, 3, .inl v_body))] H := by rw [eH]; exact hP
  refine W_gen (fun Q hQ => ?_)
  refine W_heap eH ?_
  clear eH
  have hl := lv_entry ([.ref h_o]) (n := 4) (Nat.le_of_ble_eq_true rfl)
  rw [lg_entry_eq]
  generalize (lg_sl ([.ref h_o]) ++ List.replicate (4 - (lg_sl ([.ref h_o])).length) Slot.unset).toArray = ls at hl ⊢
  have hl : lv_has ls 4 [(0, .ref h_o)] := hl
  have J_137 : ∀ (n : Nat) (v_count : Int32) (v_read : Int32) (v_many : Nat → Int32) (v_codes : Nat → Int32) (v_body : Nat → Int32) (z3 : Int32), m_M_enterClause_137 v_typed v_line n v_count v_read v_many v_codes v_body z3 = some (r0, u0) → ∀ (H : Heap) (locs : List Loc), va_P (dC, dI) classes [(h_o, .inr (4, [.ref h_line, .int v_typed, .ref h_fact, .ref h_marked, .int v_count, .ref h_many, .ref h_codes, .int v_oldCount, .ref h_oldMany, .ref h_oldCodes, .int v_read, .ref h_body, .ref h_roundOf, .ref h_fresh, .int v_last])), (h_line, .inl (k_line, 32, .inl v_line)), (h_many, .inl (k_many, 2, .inl v_many)), (h_codes, .inl (k_codes, 6, .inl v_codes)), (h_body, .inl (k_body, 3, .inl v_body))] H → va_D A [(h_o, .inr (4, [.ref h_line, .int v_typed, .ref h_fact, .ref h_marked, .int v_count, .ref h_many, .ref h_codes, .int v_oldCount, .ref h_oldMany, .ref h_oldCodes, .int v_read, .ref h_body, .ref h_roundOf, .ref h_fresh, .int v_last])), (h_line, .inl (k_line, 32, .inl v_line)), (h_many, .inl (k_many, 2, .inl v_many)), (h_codes, .inl (k_codes, 6, .inl v_codes)), (h_body, .inl (k_body, 3, .inl v_body))] → va_S A s.heap H locs → ∀ (ls : Array Slot), lv_has ls 4 [(0, .ref h_o), (3, .int z3)] → W p l e (headSpec w_M_enterClause ({ frames := 2, cells := 0, slots := 0, locals := 43 } : Room)).room s m ([.ref h_o] : List Value).toArray below meth c H locs 0 0 Q (F0 m 137 ls []) := by
    intro n
    induction n with
    | zero => intro v_count v_read v_many v_codes v_body z3 h; exact absurd h (by unfold m_M_enterClause_137; exact fun h9 => nomatch h9)
    | succ n ih =>
      intro v_count v_read v_many v_codes v_body z3 h H locs hP hD hS ls hl
      unfold m_M_enterClause_137 at h
      refine lv_iload_n hx hb d_M_enterClause_137 rfl (lv_at hl 1 rfl) ?_
      refine lv_aload_n hx hb d_M_enterClause_138 rfl (lv_at hl 0 rfl) ?_
      refine va_get (D := (dC, dI)) (ci := 4) (v := .int v_read) (C := R_M) (T := F_M) (N := 15) hx hb hts lay_M hown hK hP 0 rfl rfl 10 (by decide) (hts _ flk_M_73) (fun _ h9 => h9) rfl d_M_enterClause_139 ?_
      refine lv_icmp_ge (tgt := 170) hx hb d_M_enterClause_142 (by decide) (fun c_142 => ?_) (fun c_142 => ?_)
      · have h := of_pos h c_142
        refine lv_aload_n hx hb d_M_enterClause_170 rfl (lv_at hl 0 rfl) ?_
        refine lv_dup hx hb d_M_enterClause_171 rfl ?_
        refine va_get (D := (dC, dI)) (ci := 4) (v := .int v_count) (C := R_M) (T := F_M) (N := 15) hx hb hts lay_M hown hK hP 0 rfl rfl 4 (by decide) (hts _ flk_M_85) (fun _ h9 => h9) rfl d_M_enterClause_172 ?_
        refine lv_iconst (v := (nI 1)) hx hb d_M_enterClause_175 (by decide) ?_
        refine lv_iadd hx hb d_M_enterClause_176 ?_
        refine va_put (D := (dC, dI)) (ci := 4) (v := .int (v_count + (nI 1))) (ty := .int) (C := R_M) (T := F_M) (N := 15) hx hb hts lay_M t_M t_M_ok n_M hown hK hP hD hS 0 rfl rfl 4 (by decide) (hts _ flk_M_85) (fun _ h9 => h9) rfl (by decide +kernel) rfl rfl (Nat.le_of_ble_eq_true rfl) d_M_enterClause_177 (fun H locs hP hD hS => ?_)
        have hP : va_P (dC, dI) classes [(h_o, .inr (4, [.ref h_line, .int v_typed, .ref h_fact, .ref h_marked, .int (v_count + (nI 1)), .ref h_many, .ref h_codes, .int v_oldCount, .ref h_oldMany, .ref h_oldCodes, .int v_read, .ref h_body, .ref h_roundOf, .ref h_fresh, .int v_last])), (h_line, .inl (k_line, 32, .inl v_line)), (h_many, .inl (k_many, 2, .inl v_many)), (h_codes, .inl (k_codes, 6, .inl v_codes)), (h_body, .inl (k_body, 3, .inl v_body))] H := hP
        have hD : va_D A [(h_o, .inr (4, [.ref h_line, .int v_typed, .ref h_fact, .ref h_marked, .int (v_count + (nI 1)), .ref h_many, .ref h_codes, .int v_oldCount, .ref h_oldMany, .ref h_oldCodes, .int v_read, .ref h_body, .ref h_roundOf, .ref h_fresh, .int v_last])), (h_line, .inl (k_line, 32, .inl v_line)), (h_many, .inl (k_many, 2, .inl v_many)), (h_codes, .inl (k_codes, 6, .inl v_codes)), (h_body, .inl (k_body, 3, .inl v_body))] := hD
        refine lv_bipush (v := (nI 9)) hx hb d_M_enterClause_180 (by decide) ?_
        refine lv_aload_n hx hb d_M_enterClause_182 rfl (lv_at hl 0 rfl) ?_
        refine va_get (D := (dC, dI)) (ci := 4) (v := .int (v_count + (nI 1))) (C := R_M) (T := F_M) (N := 15) hx hb hts lay_M hown hK hP 0 rfl rfl 4 (by decide) (hts _ flk_M_85) (fun _ h9 => h9) rfl d_M_enterClause_183 ?_
        refine lv_iadd hx hb d_M_enterClause_186 ?_
        rw [hQ]
        exact W.iret (v := (nI 9) + (v_count + (nI 1))) hx hb hr (fun t ht hW => ⟨⟨(nI 9) + (v_count + (nI 1)), (v_count + (nI 1), v_read, v_many, v_codes, v_body), rfl, Prod.mk.inj (Option.some.inj h), by rw [ht]; exact hP, va_K.moved hW.alike hK, hD⟩, hS.F ht⟩) hS.2.2 d_M_enterClause_187
      · have h := of_neg h c_142
        refine lv_aload_n hx hb d_M_enterClause_145 rfl (lv_at hl 0 rfl) ?_
        refine va_get (D := (dC, dI)) (ci := 4) (v := .ref h_codes) (C := R_M) (T := F_M) (N := 15) hx hb hts lay_M hown hK hP 0 rfl rfl 6 (by decide) (hts _ flk_M_23) (fun _ h9 => h9) rfl d_M_enterClause_146 ?_
        refine lv_iconst (v := (nI 3)) hx hb d_M_enterClause_149 (by decide) ?_
        refine lv_aload_n hx hb d_M_enterClause_150 rfl (lv_at hl 0 rfl) ?_
        refine va_get (D := (dC, dI)) (ci := 4) (v := .int v_count) (C := R_M) (T := F_M) (N := 15) hx hb hts lay_M hown hK hP 0 rfl rfl 4 (by decide) (hts _ flk_M_85) (fun _ h9 => h9) rfl d_M_enterClause_151 ?_
        refine lv_imul hx hb d_M_enterClause_154 ?_
        refine lv_iload_n hx hb d_M_enterClause_155 rfl (lv_at hl 1 rfl) ?_
        refine lv_iadd hx hb d_M_enterClause_156 ?_
        refine lv_aload_n hx hb d_M_enterClause_157 rfl (lv_at hl 0 rfl) ?_
        refine va_get (D := (dC, dI)) (ci := 4) (v := .ref h_body) (C := R_M) (T := F_M) (N := 15) hx hb hts lay_M hown hK hP 0 rfl rfl 11 (by decide) (hts _ flk_M_32) (fun _ h9 => h9) rfl d_M_enterClause_158 ?_
        refine lv_iload_n hx hb d_M_enterClause_161 rfl (lv_at hl 1 rfl) ?_
        obtain ⟨g_162, h⟩ := of_guard h
        refine va_iald hx hb hK hP 4 3 rfl rfl (inR_in g_162) d_M_enterClause_162 ?_
        obtain ⟨g_163, h⟩ := of_guard h
        refine va_iast hx hb hK hP hD hS 3 2 rfl rfl (inR_in g_163) d_M_enterClause_163 (fun H locs hP hD hS => ?_)
        have hP : va_P (dC, dI) classes [(h_o, .inr (4, [.ref h_line, .int v_typed, .ref h_fact, .ref h_marked, .int v_count, .ref h_many, .ref h_codes, .int v_oldCount, .ref h_oldMany, .ref h_oldCodes, .int v_read, .ref h_body, .ref h_roundOf, .ref h_fresh, .int v_last])), (h_line, .inl (k_line, 32, .inl v_line)), (h_many, .inl (k_many, 2, .inl v_many)), (h_codes, .inl (k_codes, 6, .inl (upd v_codes (((nI 3) * v_count) + z3).toNatClampNeg (v_body z3.toNatClampNeg)))), (h_body, .inl (k_body, 3, .inl v_body))] H := hP
        have hD : va_D A [(h_o, .inr (4, [.ref h_line, .int v_typed, .ref h_fact, .ref h_marked, .int v_count, .ref h_many, .ref h_codes, .int v_oldCount, .ref h_oldMany, .ref h_oldCodes, .int v_read, .ref h_body, .ref h_roundOf, .ref h_fresh, .int v_last])), (h_line, .inl (k_line, 32, .inl v_line)), (h_many, .inl (k_many, 2, .inl v_many)), (h_codes, .inl (k_codes, 6, .inl (upd v_codes (((nI 3) * v_count) + z3).toNatClampNeg (v_body z3.toNatClampNeg)))), (h_body, .inl (k_body, 3, .inl v_body))] := hD
        refine lv_iinc (v := z3 + (nI 1)) (lv' := [(3, .int (z3 + (nI 1))), (0, .ref h_o)]) hx hb d_M_enterClause_164 hl (k := 1) rfl rfl (by decide) rfl (fun ls hl => ?_)
        refine lv_goto (tgt := 137) hx hb d_M_enterClause_167 (by decide) ?_
        exact ih v_count v_read v_many (upd v_codes (((nI 3) * v_count) + z3).toNatClampNeg (v_body z3.toNatClampNeg)) v_body (z3 + (nI 1)) h _ _ hP hD hS ls (lv_sub hl [1, 0] rfl)
  have J_86 : ∀ (n : Nat) (v_count : Int32) (v_read : Int32) (v_many : Nat → Int32) (v_codes : Nat → Int32) (v_body : Nat → Int32) (z3 : Int32), m_M_enterClause_86 v_typed v_line n v_count v_read v_many v_codes v_body z3 = some (r0, u0) → ∀ (H : Heap) (locs : List Loc), va_P (dC, dI) classes [(h_o, .inr (4, [.ref h_line, .int v_typed, .ref h_fact, .ref h_marked, .int v_count, .ref h_many, .ref h_codes, .int v_oldCount, .ref h_oldMany, .ref h_oldCodes, .int v_read, .ref h_body, .ref h_roundOf, .ref h_fresh, .int v_last])), (h_line, .inl (k_line, 32, .inl v_line)), (h_many, .inl (k_many, 2, .inl v_many)), (h_codes, .inl (k_codes, 6, .inl v_codes)), (h_body, .inl (k_body, 3, .inl v_body))] H → va_D A [(h_o, .inr (4, [.ref h_line, .int v_typed, .ref h_fact, .ref h_marked, .int v_count, .ref h_many, .ref h_codes, .int v_oldCount, .ref h_oldMany, .ref h_oldCodes, .int v_read, .ref h_body, .ref h_roundOf, .ref h_fresh, .int v_last])), (h_line, .inl (k_line, 32, .inl v_line)), (h_many, .inl (k_many, 2, .inl v_many)), (h_codes, .inl (k_codes, 6, .inl v_codes)), (h_body, .inl (k_body, 3, .inl v_body))] → va_S A s.heap H locs → ∀ (ls : Array Slot), lv_has ls 4 [(0, .ref h_o), (3, .int z3)] → W p l e (headSpec w_M_enterClause ({ frames := 2, cells := 0, slots := 0, locals := 43 } : Room)).room s m ([.ref h_o] : List Value).toArray below meth c H locs 0 0 Q (F0 m 86 ls []) := by
    intro n
    induction n with
    | zero => intro v_count v_read v_many v_codes v_body z3 h; exact absurd h (by unfold m_M_enterClause_86; exact fun h9 => nomatch h9)
    | succ n ih =>
      intro v_count v_read v_many v_codes v_body z3 h H locs hP hD hS ls hl
      unfold m_M_enterClause_86 at h
      refine lv_iload_n hx hb d_M_enterClause_86 rfl (lv_at hl 1 rfl) ?_
      refine lv_aload_n hx hb d_M_enterClause_87 rfl (lv_at hl 0 rfl) ?_
      refine va_get (D := (dC, dI)) (ci := 4) (v := .int v_count) (C := R_M) (T := F_M) (N := 15) hx hb hts lay_M hown hK hP 0 rfl rfl 4 (by decide) (hts _ flk_M_85) (fun _ h9 => h9) rfl d_M_enterClause_88 ?_
      refine lv_icmp_ge (tgt := 111) hx hb d_M_enterClause_91 (by decide) (fun c_91 => ?_) (fun c_91 => ?_)
      · have h := of_pos h c_91
        refine lv_aload_n hx hb d_M_enterClause_111 rfl (lv_at hl 0 rfl) ?_
        refine va_get (D := (dC, dI)) (ci := 4) (v := .int v_count) (C := R_M) (T := F_M) (N := 15) hx hb hts lay_M hown hK hP 0 rfl rfl 4 (by decide) (hts _ flk_M_85) (fun _ h9 => h9) rfl d_M_enterClause_112 ?_
        refine lv_iconst (v := (nI 2)) hx hb d_M_enterClause_115 (by decide) ?_
        refine lv_icmp_ne (tgt := 122) hx hb d_M_enterClause_116 (by decide) (fun c_116 => ?_) (fun c_116 => ?_)
        · have h := of_neg h c_116
          refine lv_aload_n hx hb d_M_enterClause_122 rfl (lv_at hl 0 rfl) ?_
          refine va_get (D := (dC, dI)) (ci := 4) (v := .ref h_many) (C := R_M) (T := F_M) (N := 15) hx hb hts lay_M hown hK hP 0 rfl rfl 5 (by decide) (hts _ flk_M_20) (fun _ h9 => h9) rfl d_M_enterClause_123 ?_
          refine lv_aload_n hx hb d_M_enterClause_126 rfl (lv_at hl 0 rfl) ?_
          refine va_get (D := (dC, dI)) (ci := 4) (v := .int v_count) (C := R_M) (T := F_M) (N := 15) hx hb hts lay_M hown hK hP 0 rfl rfl 4 (by decide) (hts _ flk_M_85) (fun _ h9 => h9) rfl d_M_enterClause_127 ?_
          refine lv_aload_n hx hb d_M_enterClause_130 rfl (lv_at hl 0 rfl) ?_
          refine va_get (D := (dC, dI)) (ci := 4) (v := .int v_read) (C := R_M) (T := F_M) (N := 15) hx hb hts lay_M hown hK hP 0 rfl rfl 10 (by decide) (hts _ flk_M_73) (fun _ h9 => h9) rfl d_M_enterClause_131 ?_
          obtain ⟨g_134, h⟩ := of_guard h
          refine va_iast hx hb hK hP hD hS 2 1 rfl rfl (inR_in g_134) d_M_enterClause_134 (fun H locs hP hD hS => ?_)
          have hP : va_P (dC, dI) classes [(h_o, .inr (4, [.ref h_line, .int v_typed, .ref h_fact, .ref h_marked, .int v_count, .ref h_many, .ref h_codes, .int v_oldCount, .ref h_oldMany, .ref h_oldCodes, .int v_read, .ref h_body, .ref h_roundOf, .ref h_fresh, .int v_last])), (h_line, .inl (k_line, 32, .inl v_line)), (h_many, .inl (k_many, 2, .inl (upd v_many v_count.toNatClampNeg v_read))), (h_codes, .inl (k_codes, 6, .inl v_codes)), (h_body, .inl (k_body, 3, .inl v_body))] H := hP
          have hD : va_D A [(h_o, .inr (4, [.ref h_line, .int v_typed, .ref h_fact, .ref h_marked, .int v_count, .ref h_many, .ref h_codes, .int v_oldCount, .ref h_oldMany, .ref h_oldCodes, .int v_read, .ref h_body, .ref h_roundOf, .ref h_fresh, .int v_last])), (h_line, .inl (k_line, 32, .inl v_line)), (h_many, .inl (k_many, 2, .inl (upd v_many v_count.toNatClampNeg v_read))), (h_codes, .inl (k_codes, 6, .inl v_codes)), (h_body, .inl (k_body, 3, .inl v_body))] := hD
          refine lv_iconst (v := (nI 0)) hx hb d_M_enterClause_135 (by decide) ?_
          refine lv_istore_n (lv' := [(3, .int (nI 0)), (0, .ref h_o)]) hx hb d_M_enterClause_136 rfl hl (by decide) rfl (fun ls hl => ?_)
          exact J_137 40 v_count v_read (upd v_many v_count.toNatClampNeg v_read) v_codes v_body (nI 0) h _ _ hP hD hS ls (lv_sub hl [1, 0] rfl)
        · have h := of_pos h c_116
          refine lv_bipush (v := (-103 : Int32)) hx hb d_M_enterClause_119 (by decide) ?_
          rw [hQ]
          exact W.iret (v := (-103 : Int32)) hx hb hr (fun t ht hW => ⟨⟨(-103 : Int32), (v_count, v_read, v_many, v_codes, v_body), rfl, Prod.mk.inj (Option.some.inj h), by rw [ht]; exact hP, va_K.moved hW.alike hK, hD⟩, hS.F ht⟩) hS.2.2 d_M_enterClause_121
      · have h := of_neg h c_91
        refine lv_aload_n hx hb d_M_enterClause_94 rfl (lv_at hl 0 rfl) ?_
        refine lv_iload_n hx hb d_M_enterClause_95 rfl (lv_at hl 1 rfl) ?_
        have hPc := hP.sub (ws' := [(h_o, .inr (4, [.ref h_line, .int v_typed, .ref h_fact, .ref h_marked, .int v_count, .ref h_many, .ref h_codes, .int v_oldCount, .ref h_oldMany, .ref h_oldCodes, .int v_read, .ref h_body, .ref h_roundOf, .ref h_fresh, .int v_last])), (h_many, .inl (k_many, 2, .inl v_many)), (h_codes, .inl (k_codes, 6, .inl v_codes)), (h_body, .inl (k_body, 3, .inl v_body))]) [0, 2, 3, 4] rfl
        have hDc := hD.sub (ws' := [(h_o, .inr (4, [.ref h_line, .int v_typed, .ref h_fact, .ref h_marked, .int v_count, .ref h_many, .ref h_codes, .int v_oldCount, .ref h_oldMany, .ref h_oldCodes, .int v_read, .ref h_body, .ref h_roundOf, .ref h_fresh, .int v_last])), (h_many, .inl (k_many, 2, .inl v_many)), (h_codes, .inl (k_codes, 6, .inl v_codes)), (h_body, .inl (k_body, 3, .inl v_body))]) [0, 2, 3, 4] (by decide) rfl
        have hKc := hK.sub (tys' := [(k_many, .int), (k_codes, .int), (k_body, .int)]) [1, 2, 3] rfl
        have hFc := va_free (wc := [(h_o, .inr (4, [.ref h_line, .int v_typed, .ref h_fact, .ref h_marked, .int v_count, .ref h_many, .ref h_codes, .int v_oldCount, .ref h_oldMany, .ref h_oldCodes, .int v_read, .ref h_body, .ref h_roundOf, .ref h_fresh, .int v_last])), (h_many, .inl (k_many, 2, .inl v_many)), (h_codes, .inl (k_codes, 6, .inl v_codes)), (h_body, .inl (k_body, 3, .inl v_body))]) hD hS hA [0, 2, 3, 4] rfl
        obtain ⟨v_96, hc_96, h⟩ := of_bind h
        refine va_calli (va_runV (As := [.int z3]) (rest := []) ⟨hx, hb, hml, hown, hts⟩ (c_M_known l dC dI h_o h_line h_fact h_marked h_many h_codes h_oldMany h_oldCodes h_body h_roundOf h_fresh k_many k_codes k_body H.size v_typed v_count v_oldCount v_read v_last v_many v_codes v_body z3 v_96.1 v_96.2 hc_96) (cwV 1 hts (gV mlk_M_88 ins_M_known sel_M_known ini_M cod_M_known) rfl rfl rfl (by decide +kernel) ⟨Nat.le_of_ble_eq_true rfl, Nat.le_of_ble_eq_true rfl⟩) ⟨fun a U g mk q => by obtain ⟨q0, q1, qP, qK, qD⟩ := q; exact ⟨q0, q1, qP, va_K.moved (u := U) (U := U.calling g mk a) (Vm.Alike.refl U.vm) qK, qD⟩, va_recv hKc hPc (ci := 4) (q0 := 0) rfl rfl, fun U hU hW => ⟨rfl, by rw [hU], by rw [hU]; exact hPc, va_K.moved hW.alike hKc, hDc.weaken (fun _ _ _ _ => trivial)⟩⟩ rfl rfl hl.1 rfl (lv_room (Nat.le_of_ble_eq_true rfl)) d_M_enterClause_96 ⟨Nat.le_of_ble_eq_true rfl, Nat.le_of_ble_eq_true rfl⟩) hS (fun q _ h9 => hFc q h9) hFc (fun r_96 u t H1 locs ht hvm hw hB hz1 hk1 hS => ?_)
        obtain ⟨rfl, rfl⟩ := hw
        obtain ⟨hP1, hK1, hD1⟩ := hB
        rw [ht] at hP1
        obtain ⟨hP, hD⟩ := va_join (wr := [(h_line, .inl (k_line, 32, .inl v_line))]) (w1 := [(h_o, .inr (4, [.ref h_line, .int v_typed, .ref h_fact, .ref h_marked, .int v_count, .ref h_many, .ref h_codes, .int v_oldCount, .ref h_oldMany, .ref h_oldCodes, .int v_read, .ref h_body, .ref h_roundOf, .ref h_fresh, .int v_last])), (h_many, .inl (k_many, 2, .inl v_many)), (h_codes, .inl (k_codes, 6, .inl v_codes)), (h_body, .inl (k_body, 3, .inl v_body))]) hP hD [0, 2, 3, 4] [1] rfl rfl (by decide) (by decide) hk1 hFc hP1 hD1
        have hP := hP.sub (ws' := [(h_o, .inr (4, [.ref h_line, .int v_typed, .ref h_fact, .ref h_marked, .int v_count, .ref h_many, .ref h_codes, .int v_oldCount, .ref h_oldMany, .ref h_oldCodes, .int v_read, .ref h_body, .ref h_roundOf, .ref h_fresh, .int v_last])), (h_line, .inl (k_line, 32, .inl v_line)), (h_many, .inl (k_many, 2, .inl v_many)), (h_codes, .inl (k_codes, 6, .inl v_codes)), (h_body, .inl (k_body, 3, .inl v_body))]) [1, 0, 2, 3, 4] rfl
        have hD := hD.sub (ws' := [(h_o, .inr (4, [.ref h_line, .int v_typed, .ref h_fact, .ref h_marked, .int v_count, .ref h_many, .ref h_codes, .int v_oldCount, .ref h_oldMany, .ref h_oldCodes, .int v_read, .ref h_body, .ref h_roundOf, .ref h_fresh, .int v_last])), (h_line, .inl (k_line, 32, .inl v_line)), (h_many, .inl (k_many, 2, .inl v_many)), (h_codes, .inl (k_codes, 6, .inl v_codes)), (h_body, .inl (k_body, 3, .inl v_body))]) [1, 0, 2, 3, 4] (by decide) rfl
        generalize H1 = H at hP hS ⊢
        refine lv_if_eq (tgt := 105) hx hb d_M_enterClause_99 (by decide) (fun c_99 => ?_) (fun c_99 => ?_)
        · have h := of_pos h c_99
          refine lv_iinc (v := z3 + (nI 1)) (lv' := [(3, .int (z3 + (nI 1))), (0, .ref h_o)]) hx hb d_M_enterClause_105 hl (k := 1) rfl rfl (by decide) rfl (fun ls hl => ?_)
          refine lv_goto (tgt := 86) hx hb d_M_enterClause_108 (by decide) ?_
          exact ih v_count v_read v_many v_codes v_body (z3 + (nI 1)) h _ _ hP hD hS ls (lv_sub hl [1, 0] rfl)
        · have h := of_neg h c_99
          refine lv_bipush (v := (-102 : Int32)) hx hb d_M_enterClause_102 (by decide) ?_
          rw [hQ]
          exact W.iret (v := (-102 : Int32)) hx hb hr (fun t ht hW => ⟨⟨(-102 : Int32), (v_count, v_read, v_many, v_codes, v_body), rfl, Prod.mk.inj (Option.some.inj h), by rw [ht]; exact hP, va_K.moved hW.alike hK, hD⟩, hS.F ht⟩) hS.2.2 d_M_enterClause_104
  have J_60 : ∀ (k_10 : Int32 → Int32 → (Nat → Int32) → (Nat → Int32) → (Nat → Int32) → Int32 → Int32 → Int32 → Option (Int32 × Int32 × Int32 × (Nat → Int32) × (Nat → Int32) × (Nat → Int32))) (hk_10 : ∀ (v_count : Int32) (v_read : Int32) (v_many : Nat → Int32) (v_codes : Nat → Int32) (v_body : Nat → Int32) (z1 : Int32) (z2 : Int32) (z3 : Int32), k_10 v_count v_read v_many v_codes v_body z1 z2 z3 = some (r0, u0) → ∀ (H : Heap) (locs : List Loc), va_P (dC, dI) classes [(h_o, .inr (4, [.ref h_line, .int v_typed, .ref h_fact, .ref h_marked, .int v_count, .ref h_many, .ref h_codes, .int v_oldCount, .ref h_oldMany, .ref h_oldCodes, .int v_read, .ref h_body, .ref h_roundOf, .ref h_fresh, .int v_last])), (h_line, .inl (k_line, 32, .inl v_line)), (h_many, .inl (k_many, 2, .inl v_many)), (h_codes, .inl (k_codes, 6, .inl v_codes)), (h_body, .inl (k_body, 3, .inl v_body))] H → va_D A [(h_o, .inr (4, [.ref h_line, .int v_typed, .ref h_fact, .ref h_marked, .int v_count, .ref h_many, .ref h_codes, .int v_oldCount, .ref h_oldMany, .ref h_oldCodes, .int v_read, .ref h_body, .ref h_roundOf, .ref h_fresh, .int v_last])), (h_line, .inl (k_line, 32, .inl v_line)), (h_many, .inl (k_many, 2, .inl v_many)), (h_codes, .inl (k_codes, 6, .inl v_codes)), (h_body, .inl (k_body, 3, .inl v_body))] → va_S A s.heap H locs → ∀ (ls : Array Slot), lv_has ls 4 [(0, .ref h_o), (1, .int z1), (2, .int z2), (3, .int z3)] → W p l e (headSpec w_M_enterClause ({ frames := 2, cells := 0, slots := 0, locals := 43 } : Room)).room s m ([.ref h_o] : List Value).toArray below meth c H locs 0 0 Q (F0 m 10 ls [])) (v_count : Int32) (v_read : Int32) (v_many : Nat → Int32) (v_codes : Nat → Int32) (v_body : Nat → Int32) (z1 : Int32) (z3 : Int32) (y0 : Int32), m_M_enterClause_60 v_typed v_line k_10 v_count v_read v_many v_codes v_body z1 z3 y0 = some (r0, u0) → ∀ (H : Heap) (locs : List Loc), va_P (dC, dI) classes [(h_o, .inr (4, [.ref h_line, .int v_typed, .ref h_fact, .ref h_marked, .int v_count, .ref h_many, .ref h_codes, .int v_oldCount, .ref h_oldMany, .ref h_oldCodes, .int v_read, .ref h_body, .ref h_roundOf, .ref h_fresh, .int v_last])), (h_line, .inl (k_line, 32, .inl v_line)), (h_many, .inl (k_many, 2, .inl v_many)), (h_codes, .inl (k_codes, 6, .inl v_codes)), (h_body, .inl (k_body, 3, .inl v_body))] H → va_D A [(h_o, .inr (4, [.ref h_line, .int v_typed, .ref h_fact, .ref h_marked, .int v_count, .ref h_many, .ref h_codes, .int v_oldCount, .ref h_oldMany, .ref h_oldCodes, .int v_read, .ref h_body, .ref h_roundOf, .ref h_fresh, .int v_last])), (h_line, .inl (k_line, 32, .inl v_line)), (h_many, .inl (k_many, 2, .inl v_many)), (h_codes, .inl (k_codes, 6, .inl v_codes)), (h_body, .inl (k_body, 3, .inl v_body))] → va_S A s.heap H locs → ∀ (ls : Array Slot), lv_has ls 4 [(0, .ref h_o), (1, .int z1), (3, .int z3)] → W p l e (headSpec w_M_enterClause ({ frames := 2, cells := 0, slots := 0, locals := 43 } : Room)).room s m ([.ref h_o] : List Value).toArray below meth c H locs 0 0 Q (F0 m 60 ls [.int y0]) := by
    intro k_10 hk_10 v_count v_read v_many v_codes v_body z1 z3 y0 h H locs hP hD hS ls hl
    unfold m_M_enterClause_60 at h
    refine lv_istore_n (lv' := [(2, .int y0), (0, .ref h_o), (1, .int z1), (3, .int z3)]) hx hb d_M_enterClause_60 rfl hl (by decide) rfl (fun ls hl => ?_)
    refine lv_iinc (v := z3 + (nI 1)) (lv' := [(3, .int (z3 + (nI 1))), (2, .int y0), (0, .ref h_o), (1, .int z1)]) hx hb d_M_enterClause_61 hl (k := 3) rfl rfl (by decide) rfl (fun ls hl => ?_)
    refine lv_goto (tgt := 10) hx hb d_M_enterClause_64 (by decide) ?_
    exact hk_10 v_count v_read v_many v_codes v_body z1 y0 (z3 + (nI 1)) h _ _ hP hD hS ls (lv_sub hl [2, 3, 1, 0] rfl)
  have J_55 : ∀ (k_10 : Int32 → Int32 → (Nat → Int32) → (Nat → Int32) → (Nat → Int32) → Int32 → Int32 → Int32 → Option (Int32 × Int32 × Int32 × (Nat → Int32) × (Nat → Int32) × (Nat → Int32))) (hk_10 : ∀ (v_count : Int32) (v_read : Int32) (v_many : Nat → Int32) (v_codes : Nat → Int32) (v_body : Nat → Int32) (z1 : Int32) (z2 : Int32) (z3 : Int32), k_10 v_count v_read v_many v_codes v_body z1 z2 z3 = some (r0, u0) → ∀ (H : Heap) (locs : List Loc), va_P (dC, dI) classes [(h_o, .inr (4, [.ref h_line, .int v_typed, .ref h_fact, .ref h_marked, .int v_count, .ref h_many, .ref h_codes, .int v_oldCount, .ref h_oldMany, .ref h_oldCodes, .int v_read, .ref h_body, .ref h_roundOf, .ref h_fresh, .int v_last])), (h_line, .inl (k_line, 32, .inl v_line)), (h_many, .inl (k_many, 2, .inl v_many)), (h_codes, .inl (k_codes, 6, .inl v_codes)), (h_body, .inl (k_body, 3, .inl v_body))] H → va_D A [(h_o, .inr (4, [.ref h_line, .int v_typed, .ref h_fact, .ref h_marked, .int v_count, .ref h_many, .ref h_codes, .int v_oldCount, .ref h_oldMany, .ref h_oldCodes, .int v_read, .ref h_body, .ref h_roundOf, .ref h_fresh, .int v_last])), (h_line, .inl (k_line, 32, .inl v_line)), (h_many, .inl (k_many, 2, .inl v_many)), (h_codes, .inl (k_codes, 6, .inl v_codes)), (h_body, .inl (k_body, 3, .inl v_body))] → va_S A s.heap H locs → ∀ (ls : Array Slot), lv_has ls 4 [(0, .ref h_o), (1, .int z1), (2, .int z2), (3, .int z3)] → W p l e (headSpec w_M_enterClause ({ frames := 2, cells := 0, slots := 0, locals := 43 } : Room)).room s m ([.ref h_o] : List Value).toArray below meth c H locs 0 0 Q (F0 m 10 ls [])) (v_count : Int32) (v_read : Int32) (v_many : Nat → Int32) (v_codes : Nat → Int32) (v_body : Nat → Int32) (z1 : Int32) (z3 : Int32), m_M_enterClause_55 v_typed v_line k_10 v_count v_read v_many v_codes v_body z1 z3 = some (r0, u0) → ∀ (H : Heap) (locs : List Loc), va_P (dC, dI) classes [(h_o, .inr (4, [.ref h_line, .int v_typed, .ref h_fact, .ref h_marked, .int v_count, .ref h_many, .ref h_codes, .int v_oldCount, .ref h_oldMany, .ref h_oldCodes, .int v_read, .ref h_body, .ref h_roundOf, .ref h_fresh, .int v_last])), (h_line, .inl (k_line, 32, .inl v_line)), (h_many, .inl (k_many, 2, .inl v_many)), (h_codes, .inl (k_codes, 6, .inl v_codes)), (h_body, .inl (k_body, 3, .inl v_body))] H → va_D A [(h_o, .inr (4, [.ref h_line, .int v_typed, .ref h_fact, .ref h_marked, .int v_count, .ref h_many, .ref h_codes, .int v_oldCount, .ref h_oldMany, .ref h_oldCodes, .int v_read, .ref h_body, .ref h_roundOf, .ref h_fresh, .int v_last])), (h_line, .inl (k_line, 32, .inl v_line)), (h_many, .inl (k_many, 2, .inl v_many)), (h_codes, .inl (k_codes, 6, .inl v_codes)), (h_body, .inl (k_body, 3, .inl v_body))] → va_S A s.heap H locs → ∀ (ls : Array Slot), lv_has ls 4 [(0, .ref h_o), (1, .int z1), (3, .int z3)] → W p l e (headSpec w_M_enterClause ({ frames := 2, cells := 0, slots := 0, locals := 43 } : Room)).room s m ([.ref h_o] : List Value).toArray below meth c H locs 0 0 Q (F0 m 55 ls []) := by
    intro k_10 hk_10 v_count v_read v_many v_codes v_body z1 z3 h H locs hP hD hS ls hl
    unfold m_M_enterClause_55 at h
    refine lv_iconst (v := (nI 1)) hx hb d_M_enterClause_55 (by decide) ?_
    refine lv_goto (tgt := 60) hx hb d_M_enterClause_56 (by decide) ?_
    exact J_60 k_10 hk_10 v_count v_read v_many v_codes v_body z1 z3 (nI 1) h _ _ hP hD hS ls (lv_sub hl [0, 1, 2] rfl)
  have J_59 : ∀ (k_10 : Int32 → Int32 → (Nat → Int32) → (Nat → Int32) → (Nat → Int32) → Int32 → Int32 → Int32 → Option (Int32 × Int32 × Int32 × (Nat → Int32) × (Nat → Int32) × (Nat → Int32))) (hk_10 : ∀ (v_count : Int32) (v_read : Int32) (v_many : Nat → Int32) (v_codes : Nat → Int32) (v_body : Nat → Int32) (z1 : Int32) (z2 : Int32) (z3 : Int32), k_10 v_count v_read v_many v_codes v_body z1 z2 z3 = some (r0, u0) → ∀ (H : Heap) (locs : List Loc), va_P (dC, dI) classes [(h_o, .inr (4, [.ref h_line, .int v_typed, .ref h_fact, .ref h_marked, .int v_count, .ref h_many, .ref h_codes, .int v_oldCount, .ref h_oldMany, .ref h_oldCodes, .int v_read, .ref h_body, .ref h_roundOf, .ref h_fresh, .int v_last])), (h_line, .inl (k_line, 32, .inl v_line)), (h_many, .inl (k_many, 2, .inl v_many)), (h_codes, .inl (k_codes, 6, .inl v_codes)), (h_body, .inl (k_body, 3, .inl v_body))] H → va_D A [(h_o, .inr (4, [.ref h_line, .int v_typed, .ref h_fact, .ref h_marked, .int v_count, .ref h_many, .ref h_codes, .int v_oldCount, .ref h_oldMany, .ref h_oldCodes, .int v_read, .ref h_body, .ref h_roundOf, .ref h_fresh, .int v_last])), (h_line, .inl (k_line, 32, .inl v_line)), (h_many, .inl (k_many, 2, .inl v_many)), (h_codes, .inl (k_codes, 6, .inl v_codes)), (h_body, .inl (k_body, 3, .inl v_body))] → va_S A s.heap H locs → ∀ (ls : Array Slot), lv_has ls 4 [(0, .ref h_o), (1, .int z1), (2, .int z2), (3, .int z3)] → W p l e (headSpec w_M_enterClause ({ frames := 2, cells := 0, slots := 0, locals := 43 } : Room)).room s m ([.ref h_o] : List Value).toArray below meth c H locs 0 0 Q (F0 m 10 ls [])) (v_count : Int32) (v_read : Int32) (v_many : Nat → Int32) (v_codes : Nat → Int32) (v_body : Nat → Int32) (z1 : Int32) (z3 : Int32), m_M_enterClause_59 v_typed v_line k_10 v_count v_read v_many v_codes v_body z1 z3 = some (r0, u0) → ∀ (H : Heap) (locs : List Loc), va_P (dC, dI) classes [(h_o, .inr (4, [.ref h_line, .int v_typed, .ref h_fact, .ref h_marked, .int v_count, .ref h_many, .ref h_codes, .int v_oldCount, .ref h_oldMany, .ref h_oldCodes, .int v_read, .ref h_body, .ref h_roundOf, .ref h_fresh, .int v_last])), (h_line, .inl (k_line, 32, .inl v_line)), (h_many, .inl (k_many, 2, .inl v_many)), (h_codes, .inl (k_codes, 6, .inl v_codes)), (h_body, .inl (k_body, 3, .inl v_body))] H → va_D A [(h_o, .inr (4, [.ref h_line, .int v_typed, .ref h_fact, .ref h_marked, .int v_count, .ref h_many, .ref h_codes, .int v_oldCount, .ref h_oldMany, .ref h_oldCodes, .int v_read, .ref h_body, .ref h_roundOf, .ref h_fresh, .int v_last])), (h_line, .inl (k_line, 32, .inl v_line)), (h_many, .inl (k_many, 2, .inl v_many)), (h_codes, .inl (k_codes, 6, .inl v_codes)), (h_body, .inl (k_body, 3, .inl v_body))] → va_S A s.heap H locs → ∀ (ls : Array Slot), lv_has ls 4 [(0, .ref h_o), (1, .int z1), (3, .int z3)] → W p l e (headSpec w_M_enterClause ({ frames := 2, cells := 0, slots := 0, locals := 43 } : Room)).room s m ([.ref h_o] : List Value).toArray below meth c H locs 0 0 Q (F0 m 59 ls []) := by
    intro k_10 hk_10 v_count v_read v_many v_codes v_body z1 z3 h H locs hP hD hS ls hl
    unfold m_M_enterClause_59 at h
    refine lv_iconst (v := (nI 0)) hx hb d_M_enterClause_59 (by decide) ?_
    exact J_60 k_10 hk_10 v_count v_read v_many v_codes v_body z1 z3 (nI 0) h _ _ hP hD hS ls (lv_sub hl [0, 1, 2] rfl)
  have J_10 : ∀ (n : Nat) (v_count : Int32) (v_read : Int32) (v_many : Nat → Int32) (v_codes : Nat → Int32) (v_body : Nat → Int32) (z1 : Int32) (z2 : Int32) (z3 : Int32), m_M_enterClause_10 v_typed v_line n v_count v_read v_many v_codes v_body z1 z2 z3 = some (r0, u0) → ∀ (H : Heap) (locs : List Loc), va_P (dC, dI) classes [(h_o, .inr (4, [.ref h_line, .int v_typed, .ref h_fact, .ref h_marked, .int v_count, .ref h_many, .ref h_codes, .int v_oldCount, .ref h_oldMany, .ref h_oldCodes, .int v_read, .ref h_body, .ref h_roundOf, .ref h_fresh, .int v_last])), (h_line, .inl (k_line, 32, .inl v_line)), (h_many, .inl (k_many, 2, .inl v_many)), (h_codes, .inl (k_codes, 6, .inl v_codes)), (h_body, .inl (k_body, 3, .inl v_body))] H → va_D A [(h_o, .inr (4, [.ref h_line, .int v_typed, .ref h_fact, .ref h_marked, .int v_count, .ref h_many, .ref h_codes, .int v_oldCount, .ref h_oldMany, .ref h_oldCodes, .int v_read, .ref h_body, .ref h_roundOf, .ref h_fresh, .int v_last])), (h_line, .inl (k_line, 32, .inl v_line)), (h_many, .inl (k_many, 2, .inl v_many)), (h_codes, .inl (k_codes, 6, .inl v_codes)), (h_body, .inl (k_body, 3, .inl v_body))] → va_S A s.heap H locs → ∀ (ls : Array Slot), lv_has ls 4 [(0, .ref h_o), (1, .int z1), (2, .int z2), (3, .int z3)] → W p l e (headSpec w_M_enterClause ({ frames := 2, cells := 0, slots := 0, locals := 43 } : Room)).room s m ([.ref h_o] : List Value).toArray below meth c H locs 0 0 Q (F0 m 10 ls []) := by
    intro n
    induction n with
    | zero => intro v_count v_read v_many v_codes v_body z1 z2 z3 h; exact absurd h (by unfold m_M_enterClause_10; exact fun h9 => nomatch h9)
    | succ n ih =>
      intro v_count v_read v_many v_codes v_body z1 z2 z3 h H locs hP hD hS ls hl
      unfold m_M_enterClause_10 at h
      refine lv_iload_n hx hb d_M_enterClause_10 rfl (lv_at hl 3 rfl) ?_
      refine lv_aload_n hx hb d_M_enterClause_11 rfl (lv_at hl 0 rfl) ?_
      refine va_get (D := (dC, dI)) (ci := 4) (v := .int v_read) (C := R_M) (T := F_M) (N := 15) hx hb hts lay_M hown hK hP 0 rfl rfl 10 (by decide) (hts _ flk_M_73) (fun _ h9 => h9) rfl d_M_enterClause_12 ?_
      refine lv_icmp_ge (tgt := 67) hx hb d_M_enterClause_15 (by decide) (fun c_15 => ?_) (fun c_15 => ?_)
      · have h := of_pos h c_15
        refine lv_iload_n hx hb d_M_enterClause_67 rfl (lv_at hl 2 rfl) ?_
        refine lv_if_eq (tgt := 74) hx hb d_M_enterClause_68 (by decide) (fun c_68 => ?_) (fun c_68 => ?_)
        · have h := of_pos h c_68
          refine lv_iload_n hx hb d_M_enterClause_74 rfl (lv_at hl 1 rfl) ?_
          refine lv_iconst (v := (nI 3)) hx hb d_M_enterClause_75 (by decide) ?_
          refine lv_iand hx hb d_M_enterClause_76 ?_
          refine lv_iconst (v := (nI 3)) hx hb d_M_enterClause_77 (by decide) ?_
          refine lv_icmp_eq (tgt := 84) hx hb d_M_enterClause_78 (by decide) (fun c_78 => ?_) (fun c_78 => ?_)
          · have h := of_pos h c_78
            refine lv_iconst (v := (nI 0)) hx hb d_M_enterClause_84 (by decide) ?_
            refine lv_istore_n (lv' := [(3, .int (nI 0)), (0, .ref h_o), (1, .int z1), (2, .int z2)]) hx hb d_M_enterClause_85 rfl hl (by decide) rfl (fun ls hl => ?_)
            exact J_86 40 v_count v_read v_many v_codes v_body (nI 0) h _ _ hP hD hS ls (lv_sub hl [1, 0] rfl)
          · have h := of_neg h c_78
            refine lv_bipush (v := (-101 : Int32)) hx hb d_M_enterClause_81 (by decide) ?_
            rw [hQ]
            exact W.iret (v := (-101 : Int32)) hx hb hr (fun t ht hW => ⟨⟨(-101 : Int32), (v_count, v_read, v_many, v_codes, v_body), rfl, Prod.mk.inj (Option.some.inj h), by rw [ht]; exact hP, va_K.moved hW.alike hK, hD⟩, hS.F ht⟩) hS.2.2 d_M_enterClause_83
        · have h := of_neg h c_68
          refine lv_bipush (v := (-100 : Int32)) hx hb d_M_enterClause_71 (by decide) ?_
          rw [hQ]
          exact W.iret (v := (-100 : Int32)) hx hb hr (fun t ht hW => ⟨⟨(-100 : Int32), (v_count, v_read, v_many, v_codes, v_body), rfl, Prod.mk.inj (Option.some.inj h), by rw [ht]; exact hP, va_K.moved hW.alike hK, hD⟩, hS.F ht⟩) hS.2.2 d_M_enterClause_73
      · have h := of_neg h c_15
        refine lv_iload_n hx hb d_M_enterClause_18 rfl (lv_at hl 1 rfl) ?_
        refine lv_aload_n hx hb d_M_enterClause_19 rfl (lv_at hl 0 rfl) ?_
        refine va_get (D := (dC, dI)) (ci := 4) (v := .ref h_body) (C := R_M) (T := F_M) (N := 15) hx hb hts lay_M hown hK hP 0 rfl rfl 11 (by decide) (hts _ flk_M_32) (fun _ h9 => h9) rfl d_M_enterClause_20 ?_
        refine lv_iload_n hx hb d_M_enterClause_23 rfl (lv_at hl 3 rfl) ?_
        obtain ⟨g_24, h⟩ := of_guard h
        refine va_iald hx hb hK hP 4 3 rfl rfl (inR_in g_24) d_M_enterClause_24 ?_
        have hPc := hP.sub (ws' := []) [] rfl
        have hDc := hD.sub (ws' := []) [] (by decide) rfl
        have hKc := hK.sub (tys' := []) [] rfl
        have hFc := va_free (wc := []) hD hS hA [] rfl
        obtain ⟨v_25, hc_25, h⟩ := of_bind h
        refine va_calli (va_runS (As := [.int (v_body z3.toNatClampNeg)]) (rest := [.int z1]) ⟨hx, hb, hml, hown, hts⟩ (c_M_variables l dC dI H.size (v_body z3.toNatClampNeg) v_25.1 v_25.2 hc_25) (va_cwS 1 hts (gS mlk_M_82 sta_M_variables ini_M cod_M_variables) rfl rfl rfl (by decide +kernel) ⟨Nat.le_of_ble_eq_true rfl, Nat.le_of_ble_eq_true rfl⟩) ⟨fun a U g mk q => by obtain ⟨q0, q1, qP, qK, qD⟩ := q; exact ⟨q0, q1, qP, va_K.moved (u := U) (U := U.calling g mk a) (Vm.Alike.refl U.vm) qK, qD⟩, fun U hU hW => ⟨rfl, by rw [hU], by rw [hU]; exact hPc, va_K.moved hW.alike hKc, hDc.weaken (fun _ _ _ _ => trivial)⟩⟩ rfl rfl hl.1 rfl (lv_room (Nat.le_of_ble_eq_true rfl)) d_M_enterClause_25 ⟨Nat.le_of_ble_eq_true rfl, Nat.le_of_ble_eq_true rfl⟩) hS (fun q _ h9 => hFc q h9) hFc (fun r_25 u t H1 locs ht hvm hw hB hz1 hk1 hS => ?_)
        obtain ⟨rfl, rfl⟩ := hw
        obtain ⟨hP1, hK1, hD1⟩ := hB
        rw [ht] at hP1
        obtain ⟨hP, hD⟩ := va_join (wr := [(h_o, .inr (4, [.ref h_line, .int v_typed, .ref h_fact, .ref h_marked, .int v_count, .ref h_many, .ref h_codes, .int v_oldCount, .ref h_oldMany, .ref h_oldCodes, .int v_read, .ref h_body, .ref h_roundOf, .ref h_fresh, .int v_last])), (h_line, .inl (k_line, 32, .inl v_line)), (h_many, .inl (k_many, 2, .inl v_many)), (h_codes, .inl (k_codes, 6, .inl v_codes)), (h_body, .inl (k_body, 3, .inl v_body))]) (w1 := []) hP hD [] [0, 1, 2, 3, 4] rfl rfl (by decide) (by decide) hk1 hFc hP1 hD1
        have hP := hP.sub (ws' := [(h_o, .inr (4, [.ref h_line, .int v_typed, .ref h_fact, .ref h_marked, .int v_count, .ref h_many, .ref h_codes, .int v_oldCount, .ref h_oldMany, .ref h_oldCodes, .int v_read, .ref h_body, .ref h_roundOf, .ref h_fresh, .int v_last])), (h_line, .inl (k_line, 32, .inl v_line)), (h_many, .inl (k_many, 2, .inl v_many)), (h_codes, .inl (k_codes, 6, .inl v_codes)), (h_body, .inl (k_body, 3, .inl v_body))]) [0, 1, 2, 3, 4] rfl
        have hD := hD.sub (ws' := [(h_o, .inr (4, [.ref h_line, .int v_typed, .ref h_fact, .ref h_marked, .int v_count, .ref h_many, .ref h_codes, .int v_oldCount, .ref h_oldMany, .ref h_oldCodes, .int v_read, .ref h_body, .ref h_roundOf, .ref h_fresh, .int v_last])), (h_line, .inl (k_line, 32, .inl v_line)), (h_many, .inl (k_many, 2, .inl v_many)), (h_codes, .inl (k_codes, 6, .inl v_codes)), (h_body, .inl (k_body, 3, .inl v_body))]) [0, 1, 2, 3, 4] (by decide) rfl
        generalize H1 = H at hP hS ⊢
        refine lv_ior hx hb d_M_enterClause_28 ?_
        refine lv_istore_n (lv' := [(1, .int (z1 ||| v_25.1)), (0, .ref h_o), (2, .int z2), (3, .int z3)]) hx hb d_M_enterClause_29 rfl hl (by decide) rfl (fun ls hl => ?_)
        refine lv_iload_n hx hb d_M_enterClause_30 rfl (lv_at hl 2 rfl) ?_
        refine lv_if_ne (tgt := 55) hx hb d_M_enterClause_31 (by decide) (fun c_31 => ?_) (fun c_31 => ?_)
        · have h := of_neg h c_31
          exact J_55 (m_M_enterClause_10 v_typed v_line n) ih v_count v_read v_many v_codes v_body (z1 ||| v_25.1) z3 h _ _ hP hD hS ls (lv_sub hl [1, 0, 3] rfl)
        · have h := of_pos h c_31
          refine lv_iload_n hx hb d_M_enterClause_34 rfl (lv_at hl 3 rfl) ?_
          refine lv_if_le (tgt := 59) hx hb d_M_enterClause_35 (by decide) (fun c_35 => ?_) (fun c_35 => ?_)
          · have h := of_pos h c_35
            exact J_59 (m_M_enterClause_10 v_typed v_line n) ih v_count v_read v_many v_codes v_body (z1 ||| v_25.1) z3 h _ _ hP hD hS ls (lv_sub hl [1, 0, 3] rfl)
          · have h := of_neg h c_35
            refine lv_aload_n hx hb d_M_enterClause_38 rfl (lv_at hl 1 rfl) ?_
            refine va_get (D := (dC, dI)) (ci := 4) (v := .ref h_body) (C := R_M) (T := F_M) (N := 15) hx hb hts lay_M hown hK hP 0 rfl rfl 11 (by decide) (hts _ flk_M_32) (fun _ h9 => h9) rfl d_M_enterClause_39 ?_
            refine lv_iload_n hx hb d_M_enterClause_42 rfl (lv_at hl 3 rfl) ?_
            refine lv_iconst (v := (nI 1)) hx hb d_M_enterClause_43 (by decide) ?_
            refine lv_isub hx hb d_M_enterClause_44 ?_
            obtain ⟨g_45, h⟩ := of_guard h
            refine va_iald hx hb hK hP 4 3 rfl rfl (inR_in g_45) d_M_enterClause_45 ?_
            refine lv_aload_n hx hb d_M_enterClause_46 rfl (lv_at hl 1 rfl) ?_
            refine va_get (D := (dC, dI)) (ci := 4) (v := .ref h_body) (C := R_M) (T := F_M) (N := 15) hx hb hts lay_M hown hK hP 0 rfl rfl 11 (by decide) (hts _ flk_M_32) (fun _ h9 => h9) rfl d_M_enterClause_47 ?_
            refine lv_iload_n hx hb d_M_enterClause_50 rfl (lv_at hl 3 rfl) ?_
            obtain ⟨g_51, h⟩ := of_guard h
            refine va_iald hx hb hK hP 4 3 rfl rfl (inR_in g_51) d_M_enterClause_51 ?_
            refine lv_icmp_ne (tgt := 59) hx hb d_M_enterClause_52 (by decide) (fun c_52 => ?_) (fun c_52 => ?_)
            · have h := of_neg h c_52
              exact J_59 (m_M_enterClause_10 v_typed v_line n) ih v_count v_read v_many v_codes v_body (z1 ||| v_25.1) z3 h _ _ hP hD hS ls (lv_sub hl [1, 0, 3] rfl)
            · have h := of_pos h c_52
              exact J_55 (m_M_enterClause_10 v_typed v_line n) ih v_count v_read v_many v_codes v_body (z1 ||| v_25.1) z3 h _ _ hP hD hS ls (lv_sub hl [1, 0, 3] rfl)
  unfold m_M_enterClause at h
  refine lv_aload_n hx hb d_M_enterClause_0 rfl (lv_at hl 0 rfl) ?_
  have hPc := hP.sub (ws' := [(h_o, .inr (4, [.ref h_line, .int v_typed, .ref h_fact, .ref h_marked, .int v_count, .ref h_many, .ref h_codes, .int v_oldCount, .ref h_oldMany, .ref h_oldCodes, .int v_read, .ref h_body, .ref h_roundOf, .ref h_fresh, .int v_last])), (h_line, .inl (k_line, 32, .inl v_line)), (h_body, .inl (k_body, 3, .inl v_body))]) [0, 1, 4] rfl
  have hDc := hD.sub (ws' := [(h_o, .inr (4, [.ref h_line, .int v_typed, .ref h_fact, .ref h_marked, .int v_count, .ref h_many, .ref h_codes, .int v_oldCount, .ref h_oldMany, .ref h_oldCodes, .int v_read, .ref h_body, .ref h_roundOf, .ref h_fresh, .int v_last])), (h_line, .inl (k_line, 32, .inl v_line)), (h_body, .inl (k_body, 3, .inl v_body))]) [0, 1, 4] (by decide) rfl
  have hKc := hK.sub (tys' := [(k_line, .int), (k_body, .int)]) [0, 3] rfl
  have hFc := va_free (wc := [(h_o, .inr (4, [.ref h_line, .int v_typed, .ref h_fact, .ref h_marked, .int v_count, .ref h_many, .ref h_codes, .int v_oldCount, .ref h_oldMany, .ref h_oldCodes, .int v_read, .ref h_body, .ref h_roundOf, .ref h_fresh, .int v_last])), (h_line, .inl (k_line, 32, .inl v_line)), (h_body, .inl (k_body, 3, .inl v_body))]) hD hS hA [0, 1, 4] rfl
  obtain ⟨v_1, hc_1, h⟩ := of_bind h
  refine va_callv (va_runV (As := []) (rest := []) ⟨hx, hb, hml, hown, hts⟩ (c_M_readBody l dC dI h_o h_line h_fact h_marked h_many h_codes h_oldMany h_oldCodes h_body h_roundOf h_fresh k_line k_body H.size v_typed v_count v_oldCount v_read v_last v_line v_body  v_1 hc_1) (cwV 0 hts (gV mlk_M_79 ins_M_readBody sel_M_readBody ini_M cod_M_readBody) rfl rfl rfl (by decide +kernel) ⟨Nat.le_of_ble_eq_true rfl, Nat.le_of_ble_eq_true rfl⟩) ⟨fun a U g mk q => by obtain ⟨q0, q1, qP, qK, qD⟩ := q; exact ⟨q0, q1, qP, va_K.moved (u := U) (U := U.calling g mk a) (Vm.Alike.refl U.vm) qK, qD⟩, va_recv hKc hPc (ci := 4) (q0 := 0) rfl rfl, fun U hU hW => ⟨rfl, by rw [hU], by rw [hU]; exact hPc, va_K.moved hW.alike hKc, hDc.weaken (fun _ _ _ _ => trivial)⟩⟩ rfl rfl hl.1 rfl (lv_room (Nat.le_of_ble_eq_true rfl)) d_M_enterClause_1 ⟨Nat.le_of_ble_eq_true rfl, Nat.le_of_ble_eq_true rfl⟩) hS (fun q _ h9 => hFc q h9) hFc (fun u t H1 locs ht hvm hw hB hz1 hk1 hS => ?_)
  obtain rfl := (Eq.symm hw)
  obtain ⟨hP1, hK1, hD1⟩ := hB
  rw [ht] at hP1
  obtain ⟨hP, hD⟩ := va_join (wr := [(h_many, .inl (k_many, 2, .inl v_many)), (h_codes, .inl (k_codes, 6, .inl v_codes))]) (w1 := [(h_o, .inr (4, [.ref h_line, .int v_typed, .ref h_fact, .ref h_marked, .int v_count, .ref h_many, .ref h_codes, .int v_oldCount, .ref h_oldMany, .ref h_oldCodes, .int v_1.1, .ref h_body, .ref h_roundOf, .ref h_fresh, .int v_last])), (h_line, .inl (k_line, 32, .inl v_line)), (h_body, .inl (k_body, 3, .inl v_1.2))]) hP hD [0, 1, 4] [2, 3] rfl rfl (by decide) (by decide) hk1 hFc hP1 hD1
  have hP := hP.sub (ws' := [(h_o, .inr (4, [.ref h_line, .int v_typed, .ref h_fact, .ref h_marked, .int v_count, .ref h_many, .ref h_codes, .int v_oldCount, .ref h_oldMany, .ref h_oldCodes, .int v_1.1, .ref h_body, .ref h_roundOf, .ref h_fresh, .int v_last])), (h_line, .inl (k_line, 32, .inl v_line)), (h_many, .inl (k_many, 2, .inl v_many)), (h_codes, .inl (k_codes, 6, .inl v_codes)), (h_body, .inl (k_body, 3, .inl v_1.2))]) [2, 3, 0, 1, 4] rfl
  have hD := hD.sub (ws' := [(h_o, .inr (4, [.ref h_line, .int v_typed, .ref h_fact, .ref h_marked, .int v_count, .ref h_many, .ref h_codes, .int v_oldCount, .ref h_oldMany, .ref h_oldCodes, .int v_1.1, .ref h_body, .ref h_roundOf, .ref h_fresh, .int v_last])), (h_line, .inl (k_line, 32, .inl v_line)), (h_many, .inl (k_many, 2, .inl v_many)), (h_codes, .inl (k_codes, 6, .inl v_codes)), (h_body, .inl (k_body, 3, .inl v_1.2))]) [2, 3, 0, 1, 4] (by decide) rfl
  generalize H1 = H at hP hS ⊢
  refine lv_iconst (v := (nI 0)) hx hb d_M_enterClause_4 (by decide) ?_
  refine lv_istore_n (lv' := [(1, .int (nI 0)), (0, .ref h_o)]) hx hb d_M_enterClause_5 rfl hl (by decide) rfl (fun ls hl => ?_)
  refine lv_iconst (v := (nI 0)) hx hb d_M_enterClause_6 (by decide) ?_
  refine lv_istore_n (lv' := [(2, .int (nI 0)), (1, .int (nI 0)), (0, .ref h_o)]) hx hb d_M_enterClause_7 rfl hl (by decide) rfl (fun ls hl => ?_)
  refine lv_iconst (v := (nI 0)) hx hb d_M_enterClause_8 (by decide) ?_
  refine lv_istore_n (lv' := [(3, .int (nI 0)), (2, .int (nI 0)), (1, .int (nI 0)), (0, .ref h_o)]) hx hb d_M_enterClause_9 rfl hl (by decide) rfl (fun ls hl => ?_)
  exact J_10 40 v_count v_1.1 v_many v_codes v_1.2 (nI 0) (nI 0) (nI 0) h _ _ hP hD hS ls (lv_sub hl [3, 2, 1, 0] rfl)
set_option maxHeartbeats 1000000 in
set_option maxRecDepth 100000 in
theorem c_M_enterMark (l : Launch) (dC : Nat → ClassId) (dI : Nat → Nat → Nat) (h_o h_line h_fact h_marked h_many h_codes h_oldMany h_oldCodes h_body h_roundOf h_fresh : Nat) (k_marked : ClassId) (sz : Nat) (v_typed : Int32) (v_count : Int32) (v_oldCount : Int32) (v_read : Int32) (v_last : Int32) (v_marked : Nat → Int32) (x1 : Int32) (x2 : Int32) (r0 : Int32) (u0 : (Nat → Int32)) (h : m_M_enterMark v_marked x1 x2 = some (r0, u0)) : Met l y_M_enterMark w_M_enterMark ({ frames := 0, cells := 0, slots := 0, locals := 0 } : Room) (va_Pc [.ref h_o, .int x1, .int x2] (fun U => U.heap.size = sz ∧ va_P (dC, dI) classes [(h_o, .inr (4, [.ref h_line, .int v_typed, .ref h_fact, .ref h_marked, .int v_count, .ref h_many, .ref h_codes, .int v_oldCount, .ref h_oldMany, .ref h_oldCodes, .int v_read, .ref h_body, .ref h_roundOf, .ref h_fresh, .int v_last])), (h_marked, .inl (k_marked, 16, .inl v_marked))] U.heap ∧ va_K (dC, dI) classes [(k_marked, .int)] U ∧ va_D (fun _ => True) [(h_o, .inr (4, [.ref h_line, .int v_typed, .ref h_fact, .ref h_marked, .int v_count, .ref h_many, .ref h_codes, .int v_oldCount, .ref h_oldMany, .ref h_oldCodes, .int v_read, .ref h_body, .ref h_roundOf, .ref h_fresh, .int v_last])), (h_marked, .inl (k_marked, 16, .inl v_marked))])) (va_Qi (fun (r : Int32) (u : (Nat → Int32)) => r = r0 ∧ u = u0) (fun (u : (Nat → Int32)) (t : State) => va_P (dC, dI) classes [(h_o, .inr (4, [.ref h_line, .int v_typed, .ref h_fact, .ref h_marked, .int v_count, .ref h_many, .ref h_codes, .int v_oldCount, .ref h_oldMany, .ref h_oldCodes, .int v_read, .ref h_body, .ref h_roundOf, .ref h_fresh, .int v_last])), (h_marked, .inl (k_marked, 16, .inl u))] t.heap ∧ va_K (dC, dI) classes [(k_marked, .int)] t ∧ va_D (va_A [(h_o, .inr (4, [.ref h_line, .int v_typed, .ref h_fact, .ref h_marked, .int v_count, .ref h_many, .ref h_codes, .int v_oldCount, .ref h_oldMany, .ref h_oldCodes, .int v_read, .ref h_body, .ref h_roundOf, .ref h_fresh, .int v_last])), (h_marked, .inl (k_marked, 16, .inl v_marked))] sz) [(h_o, .inr (4, [.ref h_line, .int v_typed, .ref h_fact, .ref h_marked, .int v_count, .ref h_many, .ref h_codes, .int v_oldCount, .ref h_oldMany, .ref h_oldCodes, .int v_read, .ref h_body, .ref h_roundOf, .ref h_fresh, .int v_last])), (h_marked, .inl (k_marked, 16, .inl u))]) (va_A [(h_o, .inr (4, [.ref h_line, .int v_typed, .ref h_fact, .ref h_marked, .int v_count, .ref h_many, .ref h_codes, .int v_oldCount, .ref h_oldMany, .ref h_oldCodes, .int v_read, .ref h_body, .ref h_roundOf, .ref h_fresh, .int v_last])), (h_marked, .inl (k_marked, 16, .inl v_marked))] sz)) 0 0 (va_A [(h_o, .inr (4, [.ref h_line, .int v_typed, .ref h_fact, .ref h_marked, .int v_count, .ref h_many, .ref h_codes, .int v_oldCount, .ref h_oldMany, .ref h_oldCodes, .int v_read, .ref h_body, .ref h_roundOf, .ref h_fresh, .int v_last])), (h_marked, .inl (k_marked, 16, .inl v_marked))] sz) := by
  refine Met.ofW (cc := b_M_enterMark) (maxL := 4) (ret := (some .int)) (by decide) rfl ?_
  intro p e s m args below meth c s₁ B hml hv
  obtain ⟨rfl, hsz, hP, hK, hD0⟩ := hv
  have hx := B.exec
  have hb := B.bytes
  have hr := B.returns
  have hts0 := atoms_spec (ws := w_M_enterMark) B.pre
  have hts : ∀ w ∈ lw_gd, w.before ([.ref h_o, .int x1, .int x2] : List Value).toArray s = true := fun w h9 => hts0 w (List.mem_cons_of_mem _ h9)
  have hown : s.vm.findClass R_M = some m.cls := findClass_of_methodNamed B.named
  have hlocks := B.notSynchronized
  subst hsz
  have hD := hD0.self (sz := s.heap.size)
  generalize hAe : va_A [(h_o, .inr (4, [.ref h_line, .int v_typed, .ref h_fact, .ref h_marked, .int v_count, .ref h_many, .ref h_codes, .int v_oldCount, .ref h_oldMany, .ref h_oldCodes, .int v_read, .ref h_body, .ref h_roundOf, .ref h_fresh, .int v_last])), (h_marked, .inl (k_marked, 16, .inl v_marked))] s.heap.size = A at hD ⊢
  have hA : ∀ q : Nat, s.heap.size ≤ q → A q := fun q h9 => by rw [← hAe]; exact Or.inr h9
  obtain ⟨H, eH⟩ : ∃ H : Heap, H = s.heap := ⟨_, rfl⟩
  have hS : va_S A s.heap H [] := by rw [eH]; exact va_S.rf
  have hP : va_P (dC, dI) classes [(h_o, .inr (4, [.ref h_line, .int v_typed, .ref h_fact, .ref h_marked, .int v_count, .ref h_many, .ref h_codes, .int v_oldCount, .ref h_oldMany, .ref h_oldCodes, .int v_read, .ref h_body, .ref h_roundOf, .ref h_fresh, .int v_last])), (h_marked, .inl (k_marked, 16, .inl v_marked))] H := by rw [eH]; exact hP
  refine W_gen (fun Q hQ => ?_)
  refine W_heap eH ?_
  clear eH
  have hl := lv_entry ([.ref h_o, .int x1, .int x2]) (n := 4) (Nat.le_of_ble_eq_true rfl)
  rw [lg_entry_eq]
  generalize (lg_sl ([.ref h_o, .int x1, .int x2]) ++ List.replicate (4 - (lg_sl ([.ref h_o, .int x1, .int x2])).length) Slot.unset).toArray = ls at hl ⊢
  have hl : lv_has ls 4 [(0, .ref h_o), (1, .int x1), (2, .int x2)] := hl
  have J_15 : ∀ (v_marked : Nat → Int32) (z1 : Int32) (z2 : Int32) (y0 : Int32), m_M_enterMark_15 v_marked z1 z2 y0 = some (r0, u0) → ∀ (H : Heap) (locs : List Loc), va_P (dC, dI) classes [(h_o, .inr (4, [.ref h_line, .int v_typed, .ref h_fact, .ref h_marked, .int v_count, .ref h_many, .ref h_codes, .int v_oldCount, .ref h_oldMany, .ref h_oldCodes, .int v_read, .ref h_body, .ref h_roundOf, .ref h_fresh, .int v_last])), (h_marked, .inl (k_marked, 16, .inl v_marked))] H → va_D A [(h_o, .inr (4, [.ref h_line, .int v_typed, .ref h_fact, .ref h_marked, .int v_count, .ref h_many, .ref h_codes, .int v_oldCount, .ref h_oldMany, .ref h_oldCodes, .int v_read, .ref h_body, .ref h_roundOf, .ref h_fresh, .int v_last])), (h_marked, .inl (k_marked, 16, .inl v_marked))] → va_S A s.heap H locs → ∀ (ls : Array Slot), lv_has ls 4 [(0, .ref h_o), (1, .int z1), (2, .int z2)] → W p l e (headSpec w_M_enterMark ({ frames := 0, cells := 0, slots := 0, locals := 0 } : Room)).room s m ([.ref h_o, .int x1, .int x2] : List Value).toArray below meth c H locs 0 0 Q (F0 m 15 ls [.int y0]) := by
    intro v_marked z1 z2 y0 h H locs hP hD hS ls hl
    unfold m_M_enterMark_15 at h
    refine lv_istore_n (lv' := [(3, .int y0), (0, .ref h_o), (1, .int z1), (2, .int z2)]) hx hb d_M_enterMark_15 rfl hl (by decide) rfl (fun ls hl => ?_)
    refine lv_aload_n hx hb d_M_enterMark_16 rfl (lv_at hl 1 rfl) ?_
    refine va_get (D := (dC, dI)) (ci := 4) (v := .ref h_marked) (C := R_M) (T := F_M) (N := 15) hx hb hts lay_M hown hK hP 0 rfl rfl 3 (by decide) (hts _ flk_M_17) (fun _ h9 => h9) rfl d_M_enterMark_17 ?_
    refine lv_iload_n hx hb d_M_enterMark_20 rfl (lv_at hl 2 rfl) ?_
    refine lv_iload_n hx hb d_M_enterMark_21 rfl (lv_at hl 3 rfl) ?_
    obtain ⟨g_22, h⟩ := of_guard h
    refine va_iast hx hb hK hP hD hS 1 0 rfl rfl (inR_in g_22) d_M_enterMark_22 (fun H locs hP hD hS => ?_)
    have hP : va_P (dC, dI) classes [(h_o, .inr (4, [.ref h_line, .int v_typed, .ref h_fact, .ref h_marked, .int v_count, .ref h_many, .ref h_codes, .int v_oldCount, .ref h_oldMany, .ref h_oldCodes, .int v_read, .ref h_body, .ref h_roundOf, .ref h_fresh, .int v_last])), (h_marked, .inl (k_marked, 16, .inl (upd v_marked z1.toNatClampNeg z2)))] H := hP
    have hD : va_D A [(h_o, .inr (4, [.ref h_line, .int v_typed, .ref h_fact, .ref h_marked, .int v_count, .ref h_many, .ref h_codes, .int v_oldCount, .ref h_oldMany, .ref h_oldCodes, .int v_read, .ref h_body, .ref h_roundOf, .ref h_fresh, .int v_last])), (h_marked, .inl (k_marked, 16, .inl (upd v_marked z1.toNatClampNeg z2)))] := hD
    refine lv_iload_n hx hb d_M_enterMark_23 rfl (lv_at hl 0 rfl) ?_
    refine lv_if_eq (tgt := 31) hx hb d_M_enterMark_24 (by decide) (fun c_24 => ?_) (fun c_24 => ?_)
    · have h := of_pos h c_24
      refine lv_iconst (v := (nI 0)) hx hb d_M_enterMark_31 (by decide) ?_
      rw [hQ]
      exact W.iret (v := (nI 0)) hx hb hr (fun t ht hW => ⟨⟨(nI 0), upd v_marked z1.toNatClampNeg z2, rfl, Prod.mk.inj (Option.some.inj h), by rw [ht]; exact hP, va_K.moved hW.alike hK, hD⟩, hS.F ht⟩) hS.2.2 d_M_enterMark_32
    · have h := of_neg h c_24
      refine lv_iconst (v := (nI 1)) hx hb d_M_enterMark_27 (by decide) ?_
      refine lv_goto (tgt := 32) hx hb d_M_enterMark_28 (by decide) ?_
      rw [hQ]
      exact W.iret (v := (nI 1)) hx hb hr (fun t ht hW => ⟨⟨(nI 1), upd v_marked z1.toNatClampNeg z2, rfl, Prod.mk.inj (Option.some.inj h), by rw [ht]; exact hP, va_K.moved hW.alike hK, hD⟩, hS.F ht⟩) hS.2.2 d_M_enterMark_32
  unfold m_M_enterMark at h
  refine lv_aload_n hx hb d_M_enterMark_0 rfl (lv_at hl 0 rfl) ?_
  refine va_get (D := (dC, dI)) (ci := 4) (v := .ref h_marked) (C := R_M) (T := F_M) (N := 15) hx hb hts lay_M hown hK hP 0 rfl rfl 3 (by decide) (hts _ flk_M_17) (fun _ h9 => h9) rfl d_M_enterMark_1 ?_
  refine lv_iload_n hx hb d_M_enterMark_4 rfl (lv_at hl 1 rfl) ?_
  obtain ⟨g_5, h⟩ := of_guard h
  refine va_iald hx hb hK hP 1 0 rfl rfl (inR_in g_5) d_M_enterMark_5 ?_
  refine lv_iload_n hx hb d_M_enterMark_6 rfl (lv_at hl 2 rfl) ?_
  refine lv_icmp_eq (tgt := 14) hx hb d_M_enterMark_7 (by decide) (fun c_7 => ?_) (fun c_7 => ?_)
  · have h := of_pos h c_7
    refine lv_iconst (v := (nI 0)) hx hb d_M_enterMark_14 (by decide) ?_
    exact J_15 v_marked x1 x2 (nI 0) h _ _ hP hD hS ls (lv_sub hl [0, 1, 2] rfl)
  · have h := of_neg h c_7
    refine lv_iconst (v := (nI 1)) hx hb d_M_enterMark_10 (by decide) ?_
    refine lv_goto (tgt := 15) hx hb d_M_enterMark_11 (by decide) ?_
    exact J_15 v_marked x1 x2 (nI 1) h _ _ hP hD hS ls (lv_sub hl [0, 1, 2] rfl)
set_option maxHeartbeats 1000000 in
set_option maxRecDepth 100000 in
theorem c_M_enterFact (l : Launch) (dC : Nat → ClassId) (dI : Nat → Nat → Nat) (h_o h_line h_fact h_marked h_many h_codes h_oldMany h_oldCodes h_body h_roundOf h_fresh : Nat) (k_fact : ClassId) (sz : Nat) (v_typed : Int32) (v_count : Int32) (v_oldCount : Int32) (v_read : Int32) (v_last : Int32) (v_fact : Nat → Int32) (x1 : Int32) (x2 : Int32) (r0 : Int32) (u0 : (Nat → Int32)) (h : m_M_enterFact v_fact x1 x2 = some (r0, u0)) : Met l y_M_enterFact w_M_enterFact ({ frames := 0, cells := 0, slots := 0, locals := 0 } : Room) (va_Pc [.ref h_o, .int x1, .int x2] (fun U => U.heap.size = sz ∧ va_P (dC, dI) classes [(h_o, .inr (4, [.ref h_line, .int v_typed, .ref h_fact, .ref h_marked, .int v_count, .ref h_many, .ref h_codes, .int v_oldCount, .ref h_oldMany, .ref h_oldCodes, .int v_read, .ref h_body, .ref h_roundOf, .ref h_fresh, .int v_last])), (h_fact, .inl (k_fact, 32, .inl v_fact))] U.heap ∧ va_K (dC, dI) classes [(k_fact, .boolean)] U ∧ va_D (fun _ => True) [(h_o, .inr (4, [.ref h_line, .int v_typed, .ref h_fact, .ref h_marked, .int v_count, .ref h_many, .ref h_codes, .int v_oldCount, .ref h_oldMany, .ref h_oldCodes, .int v_read, .ref h_body, .ref h_roundOf, .ref h_fresh, .int v_last])), (h_fact, .inl (k_fact, 32, .inl v_fact))])) (va_Qi (fun (r : Int32) (u : (Nat → Int32)) => r = r0 ∧ u = u0) (fun (u : (Nat → Int32)) (t : State) => va_P (dC, dI) classes [(h_o, .inr (4, [.ref h_line, .int v_typed, .ref h_fact, .ref h_marked, .int v_count, .ref h_many, .ref h_codes, .int v_oldCount, .ref h_oldMany, .ref h_oldCodes, .int v_read, .ref h_body, .ref h_roundOf, .ref h_fresh, .int v_last])), (h_fact, .inl (k_fact, 32, .inl u))] t.heap ∧ va_K (dC, dI) classes [(k_fact, .boolean)] t ∧ va_D (va_A [(h_o, .inr (4, [.ref h_line, .int v_typed, .ref h_fact, .ref h_marked, .int v_count, .ref h_many, .ref h_codes, .int v_oldCount, .ref h_oldMany, .ref h_oldCodes, .int v_read, .ref h_body, .ref h_roundOf, .ref h_fresh, .int v_last])), (h_fact, .inl (k_fact, 32, .inl v_fact))] sz) [(h_o, .inr (4, [.ref h_line, .int v_typed, .ref h_fact, .ref h_marked, .int v_count, .ref h_many, .ref h_codes, .int v_oldCount, .ref h_oldMany, .ref h_oldCodes, .int v_read, .ref h_body, .ref h_roundOf, .ref h_fresh, .int v_last])), (h_fact, .inl (k_fact, 32, .inl u))]) (va_A [(h_o, .inr (4, [.ref h_line, .int v_typed, .ref h_fact, .ref h_marked, .int v_count, .ref h_many, .ref h_codes, .int v_oldCount, .ref h_oldMany, .ref h_oldCodes, .int v_read, .ref h_body, .ref h_roundOf, .ref h_fresh, .int v_last])), (h_fact, .inl (k_fact, 32, .inl v_fact))] sz)) 0 0 (va_A [(h_o, .inr (4, [.ref h_line, .int v_typed, .ref h_fact, .ref h_marked, .int v_count, .ref h_many, .ref h_codes, .int v_oldCount, .ref h_oldMany, .ref h_oldCodes, .int v_read, .ref h_body, .ref h_roundOf, .ref h_fresh, .int v_last])), (h_fact, .inl (k_fact, 32, .inl v_fact))] sz) := by
  refine Met.ofW (cc := b_M_enterFact) (maxL := 4) (ret := (some .int)) (by decide) rfl ?_
  intro p e s m args below meth c s₁ B hml hv
  obtain ⟨rfl, hsz, hP, hK, hD0⟩ := hv
  have hx := B.exec
  have hb := B.bytes
  have hr := B.returns
  have hts0 := atoms_spec (ws := w_M_enterFact) B.pre
  have hts : ∀ w ∈ lw_gd, w.before ([.ref h_o, .int x1, .int x2] : List Value).toArray s = true := fun w h9 => hts0 w (List.mem_cons_of_mem _ h9)
  have hown : s.vm.findClass R_M = some m.cls := findClass_of_methodNamed B.named
  have hlocks := B.notSynchronized
  subst hsz
  have hD := hD0.self (sz := s.heap.size)
  generalize hAe : va_A [(h_o, .inr (4, [.ref h_line, .int v_typed, .ref h_fact, .ref h_marked, .int v_count, .ref h_many, .ref h_codes, .int v_oldCount, .ref h_oldMany, .ref h_oldCodes, .int v_read, .ref h_body, .ref h_roundOf, .ref h_fresh, .int v_last])), (h_fact, .inl (k_fact, 32, .inl v_fact))] s.heap.size = A at hD ⊢
  have hA : ∀ q : Nat, s.heap.size ≤ q → A q := fun q h9 => by rw [← hAe]; exact Or.inr h9
  obtain ⟨H, eH⟩ : ∃ H : Heap, H = s.heap := ⟨_, rfl⟩
  have hS : va_S A s.heap H [] := by rw [eH]; exact va_S.rf
  have hP : va_P (dC, dI) classes [(h_o, .inr (4, [.ref h_line, .int v_typed, .ref h_fact, .ref h_marked, .int v_count, .ref h_many, .ref h_codes, .int v_oldCount, .ref h_oldMany, .ref h_oldCodes, .int v_read, .ref h_body, .ref h_roundOf, .ref h_fresh, .int v_last])), (h_fact, .inl (k_fact, 32, .inl v_fact))] H := by rw [eH]; exact hP
  refine W_gen (fun Q hQ => ?_)
  refine W_heap eH ?_
  clear eH
  have hl := lv_entry ([.ref h_o, .int x1, .int x2]) (n := 4) (Nat.le_of_ble_eq_true rfl)
  rw [lg_entry_eq]
  generalize (lg_sl ([.ref h_o, .int x1, .int x2]) ++ List.replicate (4 - (lg_sl ([.ref h_o, .int x1, .int x2])).length) Slot.unset).toArray = ls at hl ⊢
  have hl : lv_has ls 4 [(0, .ref h_o), (1, .int x1), (2, .int x2)] := hl
  have J_15 : ∀ (v_fact : Nat → Int32) (z1 : Int32) (z2 : Int32) (y0 : Int32), m_M_enterFact_15 v_fact z1 z2 y0 = some (r0, u0) → ∀ (H : Heap) (locs : List Loc), va_P (dC, dI) classes [(h_o, .inr (4, [.ref h_line, .int v_typed, .ref h_fact, .ref h_marked, .int v_count, .ref h_many, .ref h_codes, .int v_oldCount, .ref h_oldMany, .ref h_oldCodes, .int v_read, .ref h_body, .ref h_roundOf, .ref h_fresh, .int v_last])), (h_fact, .inl (k_fact, 32, .inl v_fact))] H → va_D A [(h_o, .inr (4, [.ref h_line, .int v_typed, .ref h_fact, .ref h_marked, .int v_count, .ref h_many, .ref h_codes, .int v_oldCount, .ref h_oldMany, .ref h_oldCodes, .int v_read, .ref h_body, .ref h_roundOf, .ref h_fresh, .int v_last])), (h_fact, .inl (k_fact, 32, .inl v_fact))] → va_S A s.heap H locs → ∀ (ls : Array Slot), lv_has ls 4 [(0, .ref h_o), (1, .int z1), (2, .int z2)] → W p l e (headSpec w_M_enterFact ({ frames := 0, cells := 0, slots := 0, locals := 0 } : Room)).room s m ([.ref h_o, .int x1, .int x2] : List Value).toArray below meth c H locs 0 0 Q (F0 m 15 ls [.int y0]) := by
    intro v_fact z1 z2 y0 h H locs hP hD hS ls hl
    unfold m_M_enterFact_15 at h
    refine lv_istore_n (lv' := [(3, .int y0), (0, .ref h_o), (1, .int z1), (2, .int z2)]) hx hb d_M_enterFact_15 rfl hl (by decide) rfl (fun ls hl => ?_)
    refine lv_aload_n hx hb d_M_enterFact_16 rfl (lv_at hl 1 rfl) ?_
    refine va_get (D := (dC, dI)) (ci := 4) (v := .ref h_fact) (C := R_M) (T := F_M) (N := 15) hx hb hts lay_M hown hK hP 0 rfl rfl 2 (by decide) (hts _ flk_M_13) (fun _ h9 => h9) rfl d_M_enterFact_17 ?_
    refine lv_iload_n hx hb d_M_enterFact_20 rfl (lv_at hl 2 rfl) ?_
    refine lv_iload_n hx hb d_M_enterFact_21 rfl (lv_at hl 3 rfl) ?_
    obtain ⟨g_22, h⟩ := of_guard h
    obtain ⟨gn_22, h⟩ := of_guard h
    refine va_zast hx hb hK hP hD hS 1 0 rfl rfl (inR_in g_22) d_M_enterFact_22 (fun H locs hP hD hS => ?_)
    have hP : va_P (dC, dI) classes [(h_o, .inr (4, [.ref h_line, .int v_typed, .ref h_fact, .ref h_marked, .int v_count, .ref h_many, .ref h_codes, .int v_oldCount, .ref h_oldMany, .ref h_oldCodes, .int v_read, .ref h_body, .ref h_roundOf, .ref h_fresh, .int v_last])), (h_fact, .inl (k_fact, 32, .inl (upd v_fact z1.toNatClampNeg (vp_nar .boolean z2))))] H := hP
    have hD : va_D A [(h_o, .inr (4, [.ref h_line, .int v_typed, .ref h_fact, .ref h_marked, .int v_count, .ref h_many, .ref h_codes, .int v_oldCount, .ref h_oldMany, .ref h_oldCodes, .int v_read, .ref h_body, .ref h_roundOf, .ref h_fresh, .int v_last])), (h_fact, .inl (k_fact, 32, .inl (upd v_fact z1.toNatClampNeg (vp_nar .boolean z2))))] := hD
    rw [nar_z gn_22] at hP hD
    have hP : va_P (dC, dI) classes [(h_o, .inr (4, [.ref h_line, .int v_typed, .ref h_fact, .ref h_marked, .int v_count, .ref h_many, .ref h_codes, .int v_oldCount, .ref h_oldMany, .ref h_oldCodes, .int v_read, .ref h_body, .ref h_roundOf, .ref h_fresh, .int v_last])), (h_fact, .inl (k_fact, 32, .inl (upd v_fact z1.toNatClampNeg z2)))] H := hP
    have hD : va_D A [(h_o, .inr (4, [.ref h_line, .int v_typed, .ref h_fact, .ref h_marked, .int v_count, .ref h_many, .ref h_codes, .int v_oldCount, .ref h_oldMany, .ref h_oldCodes, .int v_read, .ref h_body, .ref h_roundOf, .ref h_fresh, .int v_last])), (h_fact, .inl (k_fact, 32, .inl (upd v_fact z1.toNatClampNeg z2)))] := hD
    refine lv_iload_n hx hb d_M_enterFact_23 rfl (lv_at hl 0 rfl) ?_
    refine lv_if_eq (tgt := 31) hx hb d_M_enterFact_24 (by decide) (fun c_24 => ?_) (fun c_24 => ?_)
    · have h := of_pos h c_24
      refine lv_iconst (v := (nI 0)) hx hb d_M_enterFact_31 (by decide) ?_
      rw [hQ]
      exact W.iret (v := (nI 0)) hx hb hr (fun t ht hW => ⟨⟨(nI 0), upd v_fact z1.toNatClampNeg z2, rfl, Prod.mk.inj (Option.some.inj h), by rw [ht]; exact hP, va_K.moved hW.alike hK, hD⟩, hS.F ht⟩) hS.2.2 d_M_enterFact_32
    · have h := of_neg h c_24
      refine lv_iconst (v := (nI 1)) hx hb d_M_enterFact_27 (by decide) ?_
      refine lv_goto (tgt := 32) hx hb d_M_enterFact_28 (by decide) ?_
      rw [hQ]
      exact W.iret (v := (nI 1)) hx hb hr (fun t ht hW => ⟨⟨(nI 1), upd v_fact z1.toNatClampNeg z2, rfl, Prod.mk.inj (Option.some.inj h), by rw [ht]; exact hP, va_K.moved hW.alike hK, hD⟩, hS.F ht⟩) hS.2.2 d_M_enterFact_32
  unfold m_M_enterFact at h
  refine lv_aload_n hx hb d_M_enterFact_0 rfl (lv_at hl 0 rfl) ?_
  refine va_get (D := (dC, dI)) (ci := 4) (v := .ref h_fact) (C := R_M) (T := F_M) (N := 15) hx hb hts lay_M hown hK hP 0 rfl rfl 2 (by decide) (hts _ flk_M_13) (fun _ h9 => h9) rfl d_M_enterFact_1 ?_
  refine lv_iload_n hx hb d_M_enterFact_4 rfl (lv_at hl 1 rfl) ?_
  obtain ⟨g_5, h⟩ := of_guard h
  refine va_zald hx hb hK hP 1 0 rfl rfl (inR_in g_5) d_M_enterFact_5 ?_
  refine lv_iload_n hx hb d_M_enterFact_6 rfl (lv_at hl 2 rfl) ?_
  refine lv_icmp_eq (tgt := 14) hx hb d_M_enterFact_7 (by decide) (fun c_7 => ?_) (fun c_7 => ?_)
  · have h := of_pos h c_7
    refine lv_iconst (v := (nI 0)) hx hb d_M_enterFact_14 (by decide) ?_
    exact J_15 v_fact x1 x2 (nI 0) h _ _ hP hD hS ls (lv_sub hl [0, 1, 2] rfl)
  · have h := of_neg h c_7
    refine lv_iconst (v := (nI 1)) hx hb d_M_enterFact_10 (by decide) ?_
    refine lv_goto (tgt := 15) hx hb d_M_enterFact_11 (by decide) ?_
    exact J_15 v_fact x1 x2 (nI 1) h _ _ hP hD hS ls (lv_sub hl [0, 1, 2] rfl)
set_option maxHeartbeats 1000000 in
set_option maxRecDepth 100000 in
theorem c_M_enter (l : Launch) (dC : Nat → ClassId) (dI : Nat → Nat → Nat) (h_o h_line h_fact h_marked h_many h_codes h_oldMany h_oldCodes h_body h_roundOf h_fresh : Nat) (k_line k_fact k_marked k_many k_codes k_body : ClassId) (sz : Nat) (v_typed : Int32) (v_count : Int32) (v_oldCount : Int32) (v_read : Int32) (v_last : Int32) (v_line : Nat → Int32) (v_fact : Nat → Int32) (v_marked : Nat → Int32) (v_many : Nat → Int32) (v_codes : Nat → Int32) (v_body : Nat → Int32) (r0 : Int32) (u0 : Int32 × Int32 × Int32 × (Nat → Int32) × (Nat → Int32) × (Nat → Int32) × (Nat → Int32) × (Nat → Int32)) (h : m_M_enter v_typed v_count v_read v_line v_fact v_marked v_many v_codes v_body = some (r0, u0)) : Met l y_M_enter w_M_enter ({ frames := 4, cells := 0, slots := 0, locals := 86 } : Room) (va_Pc [.ref h_o] (fun U => U.heap.size = sz ∧ va_P (dC, dI) classes [(h_o, .inr (4, [.ref h_line, .int v_typed, .ref h_fact, .ref h_marked, .int v_count, .ref h_many, .ref h_codes, .int v_oldCount, .ref h_oldMany, .ref h_oldCodes, .int v_read, .ref h_body, .ref h_roundOf, .ref h_fresh, .int v_last])), (h_line, .inl (k_line, 32, .inl v_line)), (h_fact, .inl (k_fact, 32, .inl v_fact)), (h_marked, .inl (k_marked, 16, .inl v_marked)), (h_many, .inl (k_many, 2, .inl v_many)), (h_codes, .inl (k_codes, 6, .inl v_codes)), (h_body, .inl (k_body, 3, .inl v_body))] U.heap ∧ va_K (dC, dI) classes [(k_line, .int), (k_fact, .boolean), (k_marked, .int), (k_many, .int), (k_codes, .int), (k_body, .int)] U ∧ va_D (fun _ => True) [(h_o, .inr (4, [.ref h_line, .int v_typed, .ref h_fact, .ref h_marked, .int v_count, .ref h_many, .ref h_codes, .int v_oldCount, .ref h_oldMany, .ref h_oldCodes, .int v_read, .ref h_body, .ref h_roundOf, .ref h_fresh, .int v_last])), (h_line, .inl (k_line, 32, .inl v_line)), (h_fact, .inl (k_fact, 32, .inl v_fact)), (h_marked, .inl (k_marked, 16, .inl v_marked)), (h_many, .inl (k_many, 2, .inl v_many)), (h_codes, .inl (k_codes, 6, .inl v_codes)), (h_body, .inl (k_body, 3, .inl v_body))])) (va_Qi (fun (r : Int32) (u : Int32 × Int32 × Int32 × (Nat → Int32) × (Nat → Int32) × (Nat → Int32) × (Nat → Int32) × (Nat → Int32)) => r = r0 ∧ u = u0) (fun (u : Int32 × Int32 × Int32 × (Nat → Int32) × (Nat → Int32) × (Nat → Int32) × (Nat → Int32) × (Nat → Int32)) (t : State) => va_P (dC, dI) classes [(h_o, .inr (4, [.ref h_line, .int u.1, .ref h_fact, .ref h_marked, .int u.2.1, .ref h_many, .ref h_codes, .int v_oldCount, .ref h_oldMany, .ref h_oldCodes, .int u.2.2.1, .ref h_body, .ref h_roundOf, .ref h_fresh, .int v_last])), (h_line, .inl (k_line, 32, .inl v_line)), (h_fact, .inl (k_fact, 32, .inl u.2.2.2.1)), (h_marked, .inl (k_marked, 16, .inl u.2.2.2.2.1)), (h_many, .inl (k_many, 2, .inl u.2.2.2.2.2.1)), (h_codes, .inl (k_codes, 6, .inl u.2.2.2.2.2.2.1)), (h_body, .inl (k_body, 3, .inl u.2.2.2.2.2.2.2))] t.heap ∧ va_K (dC, dI) classes [(k_line, .int), (k_fact, .boolean), (k_marked, .int), (k_many, .int), (k_codes, .int), (k_body, .int)] t ∧ va_D (va_A [(h_o, .inr (4, [.ref h_line, .int v_typed, .ref h_fact, .ref h_marked, .int v_count, .ref h_many, .ref h_codes, .int v_oldCount, .ref h_oldMany, .ref h_oldCodes, .int v_read, .ref h_body, .ref h_roundOf, .ref h_fresh, .int v_last])), (h_line, .inl (k_line, 32, .inl v_line)), (h_fact, .inl (k_fact, 32, .inl v_fact)), (h_marked, .inl (k_marked, 16, .inl v_marked)), (h_many, .inl (k_many, 2, .inl v_many)), (h_codes, .inl (k_codes, 6, .inl v_codes)), (h_body, .inl (k_body, 3, .inl v_body))] sz) [(h_o, .inr (4, [.ref h_line, .int u.1, .ref h_fact, .ref h_marked, .int u.2.1, .ref h_many, .ref h_codes, .int v_oldCount, .ref h_oldMany, .ref h_oldCodes, .int u.2.2.1, .ref h_body, .ref h_roundOf, .ref h_fresh, .int v_last])), (h_line, .inl (k_line, 32, .inl v_line)), (h_fact, .inl (k_fact, 32, .inl u.2.2.2.1)), (h_marked, .inl (k_marked, 16, .inl u.2.2.2.2.1)), (h_many, .inl (k_many, 2, .inl u.2.2.2.2.2.1)), (h_codes, .inl (k_codes, 6, .inl u.2.2.2.2.2.2.1)), (h_body, .inl (k_body, 3, .inl u.2.2.2.2.2.2.2))]) (va_A [(h_o, .inr (4, [.ref h_line, .int v_typed, .ref h_fact, .ref h_marked, .int v_count, .ref h_many, .ref h_codes, .int v_oldCount, .ref h_oldMany, .ref h_oldCodes, .int v_read, .ref h_body, .ref h_roundOf, .ref h_fresh, .int v_last])), (h_line, .inl (k_line, 32, .inl v_line)), (h_fact, .inl (k_fact, 32, .inl v_fact)), (h_marked, .inl (k_marked, 16, .inl v_marked)), (h_many, .inl (k_many, 2, .inl v_many)), (h_codes, .inl (k_codes, 6, .inl v_codes)), (h_body, .inl (k_body, 3, .inl v_body))] sz)) 0 0 (va_A [(h_o, .inr (4, [.ref h_line, .int v_typed, .ref h_fact, .ref h_marked, .int v_count, .ref h_many, .ref h_codes, .int v_oldCount, .ref h_oldMany, .ref h_oldCodes, .int v_read, .ref h_body, .ref h_roundOf, .ref h_fresh, .int v_last])), (h_line, .inl (k_line, 32, .inl v_line)), (h_fact, .inl (k_fact, 32, .inl v_fact)), (h_marked, .inl (k_marked, 16, .inl v_marked)), (h_many, .inl (k_many, 2, .inl v_many)), (h_codes, .inl (k_codes, 6, .inl v_codes)), (h_body, .inl (k_body, 3, .inl v_body))] sz) := by
  refine Met.ofW (cc := b_M_enter) (maxL := 5) (ret := (some .int)) (by decide) rfl ?_
  intro p e s m args below meth c s₁ B hml hv
  obtain ⟨rfl, hsz, hP, hK, hD0⟩ := hv
  have hx := B.exec
  have hb := B.bytes
  have hr := B.returns
  have hts0 := atoms_spec (ws := w_M_enter) B.pre
  have hts : ∀ w ∈ lw_gd, w.before ([.ref h_o] : List Value).toArray s = true := fun w h9 => hts0 w (List.mem_cons_of_mem _ h9)
  have hown : s.vm.findClass R_M = some m.cls := findClass_of_methodNamed B.named
  have hlocks := B.notSynchronized
  subst hsz
  have hD := hD0.self (sz := s.heap.size)
  generalize hAe : va_A [(h_o, .inr (4, [.ref h_line, .int v_typed, .ref h_fact, .ref h_marked, .int v_count, .ref h_many, .ref h_codes, .int v_oldCount, .ref h_oldMany, .ref h_oldCodes, .int v_read, .ref h_body, .ref h_roundOf, .ref h_fresh, .int v_last])), (h_line, .inl (k_line, 32, .inl v_line)), (h_fact, .inl (k_fact, 32, .inl v_fact)), (h_marked, .inl (k_marked, 16, .inl v_marked)), (h_many, .inl (k_many, 2, .inl v_many)), (h_codes, .inl (k_codes, 6, .inl v_codes)), (h_body, .inl (k_body, 3, .inl v_body))] s.heap.size = A at hD ⊢
  have hA : ∀ q : Nat, s.heap.size ≤ q → A q := fun q h9 => by rw [← hAe]; exact Or.inr h9
  obtain ⟨H, eH⟩ : ∃ H : Heap, H = s.heap := ⟨_, rfl⟩
  have hS : va_S A s.heap H [] := by rw [eH]; exact va_S.rf
  have hP : va_P (dC, dI) classes [(h_o, .inr (4, [.ref h_line, .int v_typed, .ref h_fact, .ref h_marked, .int v_count, .ref h_many, .ref h_codes, .int v_oldCount, .ref h_oldMany, .ref h_oldCodes, .int v_read, .ref h_body, .ref h_roundOf, .ref h_fresh, .int v_last])), (h_line, .inl (k_line, 32, .inl v_line)), (h_fact, .inl (k_fact, 32, .inl v_fact)), (h_marked, .inl (k_marked, 16, .inl v_marked)), (h_many, .inl (k_many, 2, .inl v_many)), (h_codes, .inl (k_codes, 6, .inl v_codes)), (h_body, .inl (k_body, 3, .inl v_body))] H := by rw [eH]; exact hP
  refine W_gen (fun Q hQ => ?_)
  refine W_heap eH ?_
  clear eH
  have hl := lv_entry ([.ref h_o]) (n := 5) (Nat.le_of_ble_eq_true rfl)
  rw [lg_entry_eq]
  generalize (lg_sl ([.ref h_o]) ++ List.replicate (5 - (lg_sl ([.ref h_o])).length) Slot.unset).toArray = ls at hl ⊢
  have hl : lv_has ls 5 [(0, .ref h_o)] := hl
  have J_154 : ∀ (v_typed : Int32) (v_count : Int32) (v_read : Int32) (v_fact : Nat → Int32) (v_marked : Nat → Int32) (v_many : Nat → Int32) (v_codes : Nat → Int32) (v_body : Nat → Int32) (y0 : Int32) (y1 : Int32), m_M_enter_154 v_line v_typed v_count v_read v_fact v_marked v_many v_codes v_body y0 y1 = some (r0, u0) → ∀ (H : Heap) (locs : List Loc), va_P (dC, dI) classes [(h_o, .inr (4, [.ref h_line, .int v_typed, .ref h_fact, .ref h_marked, .int v_count, .ref h_many, .ref h_codes, .int v_oldCount, .ref h_oldMany, .ref h_oldCodes, .int v_read, .ref h_body, .ref h_roundOf, .ref h_fresh, .int v_last])), (h_line, .inl (k_line, 32, .inl v_line)), (h_fact, .inl (k_fact, 32, .inl v_fact)), (h_marked, .inl (k_marked, 16, .inl v_marked)), (h_many, .inl (k_many, 2, .inl v_many)), (h_codes, .inl (k_codes, 6, .inl v_codes)), (h_body, .inl (k_body, 3, .inl v_body))] H → va_D A [(h_o, .inr (4, [.ref h_line, .int v_typed, .ref h_fact, .ref h_marked, .int v_count, .ref h_many, .ref h_codes, .int v_oldCount, .ref h_oldMany, .ref h_oldCodes, .int v_read, .ref h_body, .ref h_roundOf, .ref h_fresh, .int v_last])), (h_line, .inl (k_line, 32, .inl v_line)), (h_fact, .inl (k_fact, 32, .inl v_fact)), (h_marked, .inl (k_marked, 16, .inl v_marked)), (h_many, .inl (k_many, 2, .inl v_many)), (h_codes, .inl (k_codes, 6, .inl v_codes)), (h_body, .inl (k_body, 3, .inl v_body))] → va_S A s.heap H locs → ∀ (ls : Array Slot), lv_has ls 5 [] → W p l e (headSpec w_M_enter ({ frames := 4, cells := 0, slots := 0, locals := 86 } : Room)).room s m ([.ref h_o] : List Value).toArray below meth c H locs 0 0 Q (F0 m 154 ls [.int y0, .int y1, .ref h_o]) := by
    intro v_typed v_count v_read v_fact v_marked v_many v_codes v_body y0 y1 h H locs hP hD hS ls hl
    unfold m_M_enter_154 at h
    have hPc := hP.sub (ws' := [(h_o, .inr (4, [.ref h_line, .int v_typed, .ref h_fact, .ref h_marked, .int v_count, .ref h_many, .ref h_codes, .int v_oldCount, .ref h_oldMany, .ref h_oldCodes, .int v_read, .ref h_body, .ref h_roundOf, .ref h_fresh, .int v_last])), (h_fact, .inl (k_fact, 32, .inl v_fact))]) [0, 2] rfl
    have hDc := hD.sub (ws' := [(h_o, .inr (4, [.ref h_line, .int v_typed, .ref h_fact, .ref h_marked, .int v_count, .ref h_many, .ref h_codes, .int v_oldCount, .ref h_oldMany, .ref h_oldCodes, .int v_read, .ref h_body, .ref h_roundOf, .ref h_fresh, .int v_last])), (h_fact, .inl (k_fact, 32, .inl v_fact))]) [0, 2] (by decide) rfl
    have hKc := hK.sub (tys' := [(k_fact, .boolean)]) [1] rfl
    have hFc := va_free (wc := [(h_o, .inr (4, [.ref h_line, .int v_typed, .ref h_fact, .ref h_marked, .int v_count, .ref h_many, .ref h_codes, .int v_oldCount, .ref h_oldMany, .ref h_oldCodes, .int v_read, .ref h_body, .ref h_roundOf, .ref h_fresh, .int v_last])), (h_fact, .inl (k_fact, 32, .inl v_fact))]) hD hS hA [0, 2] rfl
    obtain ⟨v_154, hc_154, h⟩ := of_bind h
    refine va_calli (va_runV (As := [.int y1, .int y0]) (rest := []) ⟨hx, hb, hml, hown, hts⟩ (c_M_enterFact l dC dI h_o h_line h_fact h_marked h_many h_codes h_oldMany h_oldCodes h_body h_roundOf h_fresh k_fact H.size v_typed v_count v_oldCount v_read v_last v_fact y1 y0 v_154.1 v_154.2 hc_154) (cwV 2 hts (gV mlk_M_102 ins_M_enterFact sel_M_enterFact ini_M cod_M_enterFact) rfl rfl rfl (by decide +kernel) ⟨Nat.le_of_ble_eq_true rfl, Nat.le_of_ble_eq_true rfl⟩) ⟨fun a U g mk q => by obtain ⟨q0, q1, qP, qK, qD⟩ := q; exact ⟨q0, q1, qP, va_K.moved (u := U) (U := U.calling g mk a) (Vm.Alike.refl U.vm) qK, qD⟩, va_recv hKc hPc (ci := 4) (q0 := 0) rfl rfl, fun U hU hW => ⟨rfl, by rw [hU], by rw [hU]; exact hPc, va_K.moved hW.alike hKc, hDc.weaken (fun _ _ _ _ => trivial)⟩⟩ rfl rfl hl.1 rfl (lv_room (Nat.le_of_ble_eq_true rfl)) d_M_enter_154 ⟨Nat.le_of_ble_eq_true rfl, Nat.le_of_ble_eq_true rfl⟩) hS (fun q _ h9 => hFc q h9) hFc (fun r_154 u t H1 locs ht hvm hw hB hz1 hk1 hS => ?_)
    obtain ⟨rfl, rfl⟩ := hw
    obtain ⟨hP1, hK1, hD1⟩ := hB
    rw [ht] at hP1
    obtain ⟨hP, hD⟩ := va_join (wr := [(h_line, .inl (k_line, 32, .inl v_line)), (h_marked, .inl (k_marked, 16, .inl v_marked)), (h_many, .inl (k_many, 2, .inl v_many)), (h_codes, .inl (k_codes, 6, .inl v_codes)), (h_body, .inl (k_body, 3, .inl v_body))]) (w1 := [(h_o, .inr (4, [.ref h_line, .int v_typed, .ref h_fact, .ref h_marked, .int v_count, .ref h_many, .ref h_codes, .int v_oldCount, .ref h_oldMany, .ref h_oldCodes, .int v_read, .ref h_body, .ref h_roundOf, .ref h_fresh, .int v_last])), (h_fact, .inl (k_fact, 32, .inl v_154.2))]) hP hD [0, 2] [1, 3, 4, 5, 6] rfl rfl (by decide) (by decide) hk1 hFc hP1 hD1
    have hP := hP.sub (ws' := [(h_o, .inr (4, [.ref h_line, .int v_typed, .ref h_fact, .ref h_marked, .int v_count, .ref h_many, .ref h_codes, .int v_oldCount, .ref h_oldMany, .ref h_oldCodes, .int v_read, .ref h_body, .ref h_roundOf, .ref h_fresh, .int v_last])), (h_line, .inl (k_line, 32, .inl v_line)), (h_fact, .inl (k_fact, 32, .inl v_154.2)), (h_marked, .inl (k_marked, 16, .inl v_marked)), (h_many, .inl (k_many, 2, .inl v_many)), (h_codes, .inl (k_codes, 6, .inl v_codes)), (h_body, .inl (k_body, 3, .inl v_body))]) [5, 0, 6, 1, 2, 3, 4] rfl
    have hD := hD.sub (ws' := [(h_o, .inr (4, [.ref h_line, .int v_typed, .ref h_fact, .ref h_marked, .int v_count, .ref h_many, .ref h_codes, .int v_oldCount, .ref h_oldMany, .ref h_oldCodes, .int v_read, .ref h_body, .ref h_roundOf, .ref h_fresh, .int v_last])), (h_line, .inl (k_line, 32, .inl v_line)), (h_fact, .inl (k_fact, 32, .inl v_154.2)), (h_marked, .inl (k_marked, 16, .inl v_marked)), (h_many, .inl (k_many, 2, .inl v_many)), (h_codes, .inl (k_codes, 6, .inl v_codes)), (h_body, .inl (k_body, 3, .inl v_body))]) [5, 0, 6, 1, 2, 3, 4] (by decide) rfl
    generalize H1 = H at hP hS ⊢
    rw [hQ]
    exact W.iret (v := v_154.1) hx hb hr (fun t ht hW => ⟨⟨v_154.1, (v_typed, v_count, v_read, v_154.2, v_marked, v_many, v_codes, v_body), rfl, Prod.mk.inj (Option.some.inj h), by rw [ht]; exact hP, va_K.moved hW.alike hK, hD⟩, hS.F ht⟩) hS.2.2 d_M_enter_157
  have J_128 : ∀ (v_typed : Int32) (v_count : Int32) (v_read : Int32) (v_fact : Nat → Int32) (v_marked : Nat → Int32) (v_many : Nat → Int32) (v_codes : Nat → Int32) (v_body : Nat → Int32) (y0 : Int32) (y1 : Int32), m_M_enter_128 v_line v_typed v_count v_read v_fact v_marked v_many v_codes v_body y0 y1 = some (r0, u0) → ∀ (H : Heap) (locs : List Loc), va_P (dC, dI) classes [(h_o, .inr (4, [.ref h_line, .int v_typed, .ref h_fact, .ref h_marked, .int v_count, .ref h_many, .ref h_codes, .int v_oldCount, .ref h_oldMany, .ref h_oldCodes, .int v_read, .ref h_body, .ref h_roundOf, .ref h_fresh, .int v_last])), (h_line, .inl (k_line, 32, .inl v_line)), (h_fact, .inl (k_fact, 32, .inl v_fact)), (h_marked, .inl (k_marked, 16, .inl v_marked)), (h_many, .inl (k_many, 2, .inl v_many)), (h_codes, .inl (k_codes, 6, .inl v_codes)), (h_body, .inl (k_body, 3, .inl v_body))] H → va_D A [(h_o, .inr (4, [.ref h_line, .int v_typed, .ref h_fact, .ref h_marked, .int v_count, .ref h_many, .ref h_codes, .int v_oldCount, .ref h_oldMany, .ref h_oldCodes, .int v_read, .ref h_body, .ref h_roundOf, .ref h_fresh, .int v_last])), (h_line, .inl (k_line, 32, .inl v_line)), (h_fact, .inl (k_fact, 32, .inl v_fact)), (h_marked, .inl (k_marked, 16, .inl v_marked)), (h_many, .inl (k_many, 2, .inl v_many)), (h_codes, .inl (k_codes, 6, .inl v_codes)), (h_body, .inl (k_body, 3, .inl v_body))] → va_S A s.heap H locs → ∀ (ls : Array Slot), lv_has ls 5 [] → W p l e (headSpec w_M_enter ({ frames := 4, cells := 0, slots := 0, locals := 86 } : Room)).room s m ([.ref h_o] : List Value).toArray below meth c H locs 0 0 Q (F0 m 128 ls [.int y0, .int y1, .ref h_o]) := by
    intro v_typed v_count v_read v_fact v_marked v_many v_codes v_body y0 y1 h H locs hP hD hS ls hl
    unfold m_M_enter_128 at h
    have hPc := hP.sub (ws' := [(h_o, .inr (4, [.ref h_line, .int v_typed, .ref h_fact, .ref h_marked, .int v_count, .ref h_many, .ref h_codes, .int v_oldCount, .ref h_oldMany, .ref h_oldCodes, .int v_read, .ref h_body, .ref h_roundOf, .ref h_fresh, .int v_last])), (h_marked, .inl (k_marked, 16, .inl v_marked))]) [0, 3] rfl
    have hDc := hD.sub (ws' := [(h_o, .inr (4, [.ref h_line, .int v_typed, .ref h_fact, .ref h_marked, .int v_count, .ref h_many, .ref h_codes, .int v_oldCount, .ref h_oldMany, .ref h_oldCodes, .int v_read, .ref h_body, .ref h_roundOf, .ref h_fresh, .int v_last])), (h_marked, .inl (k_marked, 16, .inl v_marked))]) [0, 3] (by decide) rfl
    have hKc := hK.sub (tys' := [(k_marked, .int)]) [2] rfl
    have hFc := va_free (wc := [(h_o, .inr (4, [.ref h_line, .int v_typed, .ref h_fact, .ref h_marked, .int v_count, .ref h_many, .ref h_codes, .int v_oldCount, .ref h_oldMany, .ref h_oldCodes, .int v_read, .ref h_body, .ref h_roundOf, .ref h_fresh, .int v_last])), (h_marked, .inl (k_marked, 16, .inl v_marked))]) hD hS hA [0, 3] rfl
    obtain ⟨v_128, hc_128, h⟩ := of_bind h
    refine va_calli (va_runV (As := [.int y1, .int y0]) (rest := []) ⟨hx, hb, hml, hown, hts⟩ (c_M_enterMark l dC dI h_o h_line h_fact h_marked h_many h_codes h_oldMany h_oldCodes h_body h_roundOf h_fresh k_marked H.size v_typed v_count v_oldCount v_read v_last v_marked y1 y0 v_128.1 v_128.2 hc_128) (cwV 2 hts (gV mlk_M_98 ins_M_enterMark sel_M_enterMark ini_M cod_M_enterMark) rfl rfl rfl (by decide +kernel) ⟨Nat.le_of_ble_eq_true rfl, Nat.le_of_ble_eq_true rfl⟩) ⟨fun a U g mk q => by obtain ⟨q0, q1, qP, qK, qD⟩ := q; exact ⟨q0, q1, qP, va_K.moved (u := U) (U := U.calling g mk a) (Vm.Alike.refl U.vm) qK, qD⟩, va_recv hKc hPc (ci := 4) (q0 := 0) rfl rfl, fun U hU hW => ⟨rfl, by rw [hU], by rw [hU]; exact hPc, va_K.moved hW.alike hKc, hDc.weaken (fun _ _ _ _ => trivial)⟩⟩ rfl rfl hl.1 rfl (lv_room (Nat.le_of_ble_eq_true rfl)) d_M_enter_128 ⟨Nat.le_of_ble_eq_true rfl, Nat.le_of_ble_eq_true rfl⟩) hS (fun q _ h9 => hFc q h9) hFc (fun r_128 u t H1 locs ht hvm hw hB hz1 hk1 hS => ?_)
    obtain ⟨rfl, rfl⟩ := hw
    obtain ⟨hP1, hK1, hD1⟩ := hB
    rw [ht] at hP1
    obtain ⟨hP, hD⟩ := va_join (wr := [(h_line, .inl (k_line, 32, .inl v_line)), (h_fact, .inl (k_fact, 32, .inl v_fact)), (h_many, .inl (k_many, 2, .inl v_many)), (h_codes, .inl (k_codes, 6, .inl v_codes)), (h_body, .inl (k_body, 3, .inl v_body))]) (w1 := [(h_o, .inr (4, [.ref h_line, .int v_typed, .ref h_fact, .ref h_marked, .int v_count, .ref h_many, .ref h_codes, .int v_oldCount, .ref h_oldMany, .ref h_oldCodes, .int v_read, .ref h_body, .ref h_roundOf, .ref h_fresh, .int v_last])), (h_marked, .inl (k_marked, 16, .inl v_128.2))]) hP hD [0, 3] [1, 2, 4, 5, 6] rfl rfl (by decide) (by decide) hk1 hFc hP1 hD1
    have hP := hP.sub (ws' := [(h_o, .inr (4, [.ref h_line, .int v_typed, .ref h_fact, .ref h_marked, .int v_count, .ref h_many, .ref h_codes, .int v_oldCount, .ref h_oldMany, .ref h_oldCodes, .int v_read, .ref h_body, .ref h_roundOf, .ref h_fresh, .int v_last])), (h_line, .inl (k_line, 32, .inl v_line)), (h_fact, .inl (k_fact, 32, .inl v_fact)), (h_marked, .inl (k_marked, 16, .inl v_128.2)), (h_many, .inl (k_many, 2, .inl v_many)), (h_codes, .inl (k_codes, 6, .inl v_codes)), (h_body, .inl (k_body, 3, .inl v_body))]) [5, 0, 1, 6, 2, 3, 4] rfl
    have hD := hD.sub (ws' := [(h_o, .inr (4, [.ref h_line, .int v_typed, .ref h_fact, .ref h_marked, .int v_count, .ref h_many, .ref h_codes, .int v_oldCount, .ref h_oldMany, .ref h_oldCodes, .int v_read, .ref h_body, .ref h_roundOf, .ref h_fresh, .int v_last])), (h_line, .inl (k_line, 32, .inl v_line)), (h_fact, .inl (k_fact, 32, .inl v_fact)), (h_marked, .inl (k_marked, 16, .inl v_128.2)), (h_many, .inl (k_many, 2, .inl v_many)), (h_codes, .inl (k_codes, 6, .inl v_codes)), (h_body, .inl (k_body, 3, .inl v_body))]) [5, 0, 1, 6, 2, 3, 4] (by decide) rfl
    generalize H1 = H at hP hS ⊢
    rw [hQ]
    exact W.iret (v := v_128.1) hx hb hr (fun t ht hW => ⟨⟨v_128.1, (v_typed, v_count, v_read, v_fact, v_128.2, v_many, v_codes, v_body), rfl, Prod.mk.inj (Option.some.inj h), by rw [ht]; exact hP, va_K.moved hW.alike hK, hD⟩, hS.F ht⟩) hS.2.2 d_M_enter_131
  unfold m_M_enter at h
  refine lv_aload_n hx hb d_M_enter_0 rfl (lv_at hl 0 rfl) ?_
  have hPc := hP.sub (ws' := [(h_o, .inr (4, [.ref h_line, .int v_typed, .ref h_fact, .ref h_marked, .int v_count, .ref h_many, .ref h_codes, .int v_oldCount, .ref h_oldMany, .ref h_oldCodes, .int v_read, .ref h_body, .ref h_roundOf, .ref h_fresh, .int v_last])), (h_line, .inl (k_line, 32, .inl v_line))]) [0, 1] rfl
  have hDc := hD.sub (ws' := [(h_o, .inr (4, [.ref h_line, .int v_typed, .ref h_fact, .ref h_marked, .int v_count, .ref h_many, .ref h_codes, .int v_oldCount, .ref h_oldMany, .ref h_oldCodes, .int v_read, .ref h_body, .ref h_roundOf, .ref h_fresh, .int v_last])), (h_line, .inl (k_line, 32, .inl v_line))]) [0, 1] (by decide) rfl
  have hKc := hK.sub (tys' := [(k_line, .int)]) [0] rfl
  have hFc := va_free (wc := [(h_o, .inr (4, [.ref h_line, .int v_typed, .ref h_fact, .ref h_marked, .int v_count, .ref h_many, .ref h_codes, .int v_oldCount, .ref h_oldMany, .ref h_oldCodes, .int v_read, .ref h_body, .ref h_roundOf, .ref h_fresh, .int v_last])), (h_line, .inl (k_line, 32, .inl v_line))]) hD hS hA [0, 1] rfl
  obtain ⟨v_1, hc_1, h⟩ := of_bind h
  refine va_calli (va_runV (As := []) (rest := []) ⟨hx, hb, hml, hown, hts⟩ (c_M_fault l dC dI h_o h_line h_fact h_marked h_many h_codes h_oldMany h_oldCodes h_body h_roundOf h_fresh k_line H.size v_typed v_count v_oldCount v_read v_last v_line v_1.1 v_1.2 hc_1) (cwV 0 hts (gV mlk_M_91 ins_M_fault sel_M_fault ini_M cod_M_fault) rfl rfl rfl (by decide +kernel) ⟨Nat.le_of_ble_eq_true rfl, Nat.le_of_ble_eq_true rfl⟩) ⟨fun a U g mk q => by obtain ⟨q0, q1, qP, qK, qD⟩ := q; exact ⟨q0, q1, qP, va_K.moved (u := U) (U := U.calling g mk a) (Vm.Alike.refl U.vm) qK, qD⟩, va_recv hKc hPc (ci := 4) (q0 := 0) rfl rfl, fun U hU hW => ⟨rfl, by rw [hU], by rw [hU]; exact hPc, va_K.moved hW.alike hKc, hDc.weaken (fun _ _ _ _ => trivial)⟩⟩ rfl rfl hl.1 rfl (lv_room (Nat.le_of_ble_eq_true rfl)) d_M_enter_1 ⟨Nat.le_of_ble_eq_true rfl, Nat.le_of_ble_eq_true rfl⟩) hS (fun q _ h9 => hFc q h9) hFc (fun r_1 u t H1 locs ht hvm hw hB hz1 hk1 hS => ?_)
  obtain ⟨rfl, rfl⟩ := hw
  obtain ⟨hP1, hK1, hD1⟩ := hB
  rw [ht] at hP1
  obtain ⟨hP, hD⟩ := va_join (wr := [(h_fact, .inl (k_fact, 32, .inl v_fact)), (h_marked, .inl (k_marked, 16, .inl v_marked)), (h_many, .inl (k_many, 2, .inl v_many)), (h_codes, .inl (k_codes, 6, .inl v_codes)), (h_body, .inl (k_body, 3, .inl v_body))]) (w1 := [(h_o, .inr (4, [.ref h_line, .int v_typed, .ref h_fact, .ref h_marked, .int v_count, .ref h_many, .ref h_codes, .int v_oldCount, .ref h_oldMany, .ref h_oldCodes, .int v_read, .ref h_body, .ref h_roundOf, .ref h_fresh, .int v_last])), (h_line, .inl (k_line, 32, .inl v_line))]) hP hD [0, 1] [2, 3, 4, 5, 6] rfl rfl (by decide) (by decide) hk1 hFc hP1 hD1
  have hP := hP.sub (ws' := [(h_o, .inr (4, [.ref h_line, .int v_typed, .ref h_fact, .ref h_marked, .int v_count, .ref h_many, .ref h_codes, .int v_oldCount, .ref h_oldMany, .ref h_oldCodes, .int v_read, .ref h_body, .ref h_roundOf, .ref h_fresh, .int v_last])), (h_line, .inl (k_line, 32, .inl v_line)), (h_fact, .inl (k_fact, 32, .inl v_fact)), (h_marked, .inl (k_marked, 16, .inl v_marked)), (h_many, .inl (k_many, 2, .inl v_many)), (h_codes, .inl (k_codes, 6, .inl v_codes)), (h_body, .inl (k_body, 3, .inl v_body))]) [5, 6, 0, 1, 2, 3, 4] rfl
  have hD := hD.sub (ws' := [(h_o, .inr (4, [.ref h_line, .int v_typed, .ref h_fact, .ref h_marked, .int v_count, .ref h_many, .ref h_codes, .int v_oldCount, .ref h_oldMany, .ref h_oldCodes, .int v_read, .ref h_body, .ref h_roundOf, .ref h_fresh, .int v_last])), (h_line, .inl (k_line, 32, .inl v_line)), (h_fact, .inl (k_fact, 32, .inl v_fact)), (h_marked, .inl (k_marked, 16, .inl v_marked)), (h_many, .inl (k_many, 2, .inl v_many)), (h_codes, .inl (k_codes, 6, .inl v_codes)), (h_body, .inl (k_body, 3, .inl v_body))]) [5, 6, 0, 1, 2, 3, 4] (by decide) rfl
  generalize H1 = H at hP hS ⊢
  refine lv_istore_n (lv' := [(1, .int v_1.1), (0, .ref h_o)]) hx hb d_M_enter_4 rfl hl (by decide) rfl (fun ls hl => ?_)
  refine lv_aload_n hx hb d_M_enter_5 rfl (lv_at hl 1 rfl) ?_
  refine va_get (D := (dC, dI)) (ci := 4) (v := .int v_typed) (C := R_M) (T := F_M) (N := 15) hx hb hts lay_M hown hK hP 0 rfl rfl 1 (by decide) (hts _ flk_M_41) (fun _ h9 => h9) rfl d_M_enter_6 ?_
  refine lv_istore_n (lv' := [(2, .int v_typed), (1, .int v_1.1), (0, .ref h_o)]) hx hb d_M_enter_9 rfl hl (by decide) rfl (fun ls hl => ?_)
  refine lv_iload_n hx hb d_M_enter_10 rfl (lv_at hl 1 rfl) ?_
  refine lv_if_lt (tgt := 23) hx hb d_M_enter_11 (by decide) (fun c_11 => ?_) (fun c_11 => ?_)
  · have h := of_pos h c_11
    refine lv_aload_n hx hb d_M_enter_23 rfl (lv_at hl 2 rfl) ?_
    refine va_get (D := (dC, dI)) (ci := 4) (v := .ref h_line) (C := R_M) (T := F_M) (N := 15) hx hb hts lay_M hown hK hP 0 rfl rfl 0 (by decide) (hts _ flk_M_7) (fun _ h9 => h9) rfl d_M_enter_24 ?_
    refine lv_iconst (v := (nI 0)) hx hb d_M_enter_27 (by decide) ?_
    obtain ⟨g_28, h⟩ := of_guard h
    refine va_iald hx hb hK hP 1 0 rfl rfl (inR_in g_28) d_M_enter_28 ?_
    refine lv_bipush (v := (nI 116)) hx hb d_M_enter_29 (by decide) ?_
    refine lv_icmp_ne (tgt := 46) hx hb d_M_enter_31 (by decide) (fun c_31 => ?_) (fun c_31 => ?_)
    · have h := of_neg h c_31
      refine lv_aload_n hx hb d_M_enter_46 rfl (lv_at hl 2 rfl) ?_
      refine lv_iconst (v := (nI 0)) hx hb d_M_enter_47 (by decide) ?_
      refine va_put (D := (dC, dI)) (ci := 4) (v := .int (nI 0)) (ty := .int) (C := R_M) (T := F_M) (N := 15) hx hb hts lay_M t_M t_M_ok n_M hown hK hP hD hS 0 rfl rfl 1 (by decide) (hts _ flk_M_41) (fun _ h9 => h9) rfl (by decide +kernel) rfl rfl (Nat.le_of_ble_eq_true rfl) d_M_enter_48 (fun H locs hP hD hS => ?_)
      have hP : va_P (dC, dI) classes [(h_o, .inr (4, [.ref h_line, .int (nI 0), .ref h_fact, .ref h_marked, .int v_count, .ref h_many, .ref h_codes, .int v_oldCount, .ref h_oldMany, .ref h_oldCodes, .int v_read, .ref h_body, .ref h_roundOf, .ref h_fresh, .int v_last])), (h_line, .inl (k_line, 32, .inl v_line)), (h_fact, .inl (k_fact, 32, .inl v_fact)), (h_marked, .inl (k_marked, 16, .inl v_marked)), (h_many, .inl (k_many, 2, .inl v_many)), (h_codes, .inl (k_codes, 6, .inl v_codes)), (h_body, .inl (k_body, 3, .inl v_body))] H := hP
      have hD : va_D A [(h_o, .inr (4, [.ref h_line, .int (nI 0), .ref h_fact, .ref h_marked, .int v_count, .ref h_many, .ref h_codes, .int v_oldCount, .ref h_oldMany, .ref h_oldCodes, .int v_read, .ref h_body, .ref h_roundOf, .ref h_fresh, .int v_last])), (h_line, .inl (k_line, 32, .inl v_line)), (h_fact, .inl (k_fact, 32, .inl v_fact)), (h_marked, .inl (k_marked, 16, .inl v_marked)), (h_many, .inl (k_many, 2, .inl v_many)), (h_codes, .inl (k_codes, 6, .inl v_codes)), (h_body, .inl (k_body, 3, .inl v_body))] := hD
      refine lv_iconst (v := (nI 4)) hx hb d_M_enter_51 (by decide) ?_
      refine lv_aload_n hx hb d_M_enter_52 rfl (lv_at hl 2 rfl) ?_
      refine va_get (D := (dC, dI)) (ci := 4) (v := .ref h_line) (C := R_M) (T := F_M) (N := 15) hx hb hts lay_M hown hK hP 0 rfl rfl 0 (by decide) (hts _ flk_M_7) (fun _ h9 => h9) rfl d_M_enter_53 ?_
      refine lv_iload_n hx hb d_M_enter_56 rfl (lv_at hl 0 rfl) ?_
      refine lv_iconst (v := (nI 4)) hx hb d_M_enter_57 (by decide) ?_
      refine lv_isub hx hb d_M_enter_58 ?_
      obtain ⟨g_59, h⟩ := of_guard h
      refine va_iald hx hb hK hP 1 0 rfl rfl (inR_in g_59) d_M_enter_59 ?_
      refine lv_bipush (v := (nI 48)) hx hb d_M_enter_60 (by decide) ?_
      refine lv_isub hx hb d_M_enter_62 ?_
      refine lv_imul hx hb d_M_enter_63 ?_
      refine lv_aload_n hx hb d_M_enter_64 rfl (lv_at hl 2 rfl) ?_
      refine va_get (D := (dC, dI)) (ci := 4) (v := .ref h_line) (C := R_M) (T := F_M) (N := 15) hx hb hts lay_M hown hK hP 0 rfl rfl 0 (by decide) (hts _ flk_M_7) (fun _ h9 => h9) rfl d_M_enter_65 ?_
      refine lv_iload_n hx hb d_M_enter_68 rfl (lv_at hl 0 rfl) ?_
      refine lv_iconst (v := (nI 2)) hx hb d_M_enter_69 (by decide) ?_
      refine lv_isub hx hb d_M_enter_70 ?_
      obtain ⟨g_71, h⟩ := of_guard h
      refine va_iald hx hb hK hP 1 0 rfl rfl (inR_in g_71) d_M_enter_71 ?_
      refine lv_iadd hx hb d_M_enter_72 ?_
      refine lv_bipush (v := (nI 48)) hx hb d_M_enter_73 (by decide) ?_
      refine lv_isub hx hb d_M_enter_75 ?_
      refine lv_topi (fun w_76 ew_76 => ?_)
      have h := of_let h ew_76
      refine lv_istore_n (lv' := [(3, .int w_76), (2, .int v_typed), (1, .int v_1.1), (0, .ref h_o)]) hx hb d_M_enter_76 rfl hl (by decide) rfl (fun ls hl => ?_)
      refine lv_aload_n hx hb d_M_enter_77 rfl (lv_at hl 3 rfl) ?_
      refine va_get (D := (dC, dI)) (ci := 4) (v := .ref h_line) (C := R_M) (T := F_M) (N := 15) hx hb hts lay_M hown hK hP 0 rfl rfl 0 (by decide) (hts _ flk_M_7) (fun _ h9 => h9) rfl d_M_enter_78 ?_
      refine lv_iload_n hx hb d_M_enter_81 rfl (lv_at hl 1 rfl) ?_
      refine lv_bipush (v := (nI 6)) hx hb d_M_enter_82 (by decide) ?_
      refine lv_isub hx hb d_M_enter_84 ?_
      obtain ⟨g_85, h⟩ := of_guard h
      refine va_iald hx hb hK hP 1 0 rfl rfl (inR_in g_85) d_M_enter_85 ?_
      refine lv_istore (lv' := [(4, .int (v_line (v_typed - (nI 6)).toNatClampNeg)), (3, .int w_76), (2, .int v_typed), (1, .int v_1.1), (0, .ref h_o)]) hx hb d_M_enter_86 hl (by decide) rfl (fun ls hl => ?_)
      refine lv_iload hx hb d_M_enter_88 (lv_at hl 0 rfl) ?_
      refine lv_bipush (v := (nI 116)) hx hb d_M_enter_90 (by decide) ?_
      refine lv_icmp_ne (tgt := 132) hx hb d_M_enter_92 (by decide) (fun c_92 => ?_) (fun c_92 => ?_)
      · have h := of_neg h c_92
        refine lv_aload_n hx hb d_M_enter_132 rfl (lv_at hl 4 rfl) ?_
        refine lv_bipush (v := (nI 16)) hx hb d_M_enter_133 (by decide) ?_
        refine lv_iload hx hb d_M_enter_135 (lv_at hl 0 rfl) ?_
        have hPc := hP.sub (ws' := []) [] rfl
        have hDc := hD.sub (ws' := []) [] (by decide) rfl
        have hKc := hK.sub (tys' := []) [] rfl
        have hFc := va_free (wc := []) hD hS hA [] rfl
        obtain ⟨v_137, hc_137, h⟩ := of_bind h
        refine va_calli (va_runS (As := [.int (v_line (v_typed - (nI 6)).toNatClampNeg)]) (rest := [.int (nI 16), .ref h_o]) ⟨hx, hb, hml, hown, hts⟩ (c_M_relationOf l dC dI H.size (v_line (v_typed - (nI 6)).toNatClampNeg) v_137.1 v_137.2 hc_137) (va_cwS 1 hts (gS mlk_M_76 sta_M_relationOf ini_M cod_M_relationOf) rfl rfl rfl (by decide +kernel) ⟨Nat.le_of_ble_eq_true rfl, Nat.le_of_ble_eq_true rfl⟩) ⟨fun a U g mk q => by obtain ⟨q0, q1, qP, qK, qD⟩ := q; exact ⟨q0, q1, qP, va_K.moved (u := U) (U := U.calling g mk a) (Vm.Alike.refl U.vm) qK, qD⟩, fun U hU hW => ⟨rfl, by rw [hU], by rw [hU]; exact hPc, va_K.moved hW.alike hKc, hDc.weaken (fun _ _ _ _ => trivial)⟩⟩ rfl rfl hl.1 rfl (lv_room (Nat.le_of_ble_eq_true rfl)) d_M_enter_137 ⟨Nat.le_of_ble_eq_true rfl, Nat.le_of_ble_eq_true rfl⟩) hS (fun q _ h9 => hFc q h9) hFc (fun r_137 u t H1 locs ht hvm hw hB hz1 hk1 hS => ?_)
        obtain ⟨rfl, rfl⟩ := hw
        obtain ⟨hP1, hK1, hD1⟩ := hB
        rw [ht] at hP1
        obtain ⟨hP, hD⟩ := va_join (wr := [(h_o, .inr (4, [.ref h_line, .int (nI 0), .ref h_fact, .ref h_marked, .int v_count, .ref h_many, .ref h_codes, .int v_oldCount, .ref h_oldMany, .ref h_oldCodes, .int v_read, .ref h_body, .ref h_roundOf, .ref h_fresh, .int v_last])), (h_line, .inl (k_line, 32, .inl v_line)), (h_fact, .inl (k_fact, 32, .inl v_fact)), (h_marked, .inl (k_marked, 16, .inl v_marked)), (h_many, .inl (k_many, 2, .inl v_many)), (h_codes, .inl (k_codes, 6, .inl v_codes)), (h_body, .inl (k_body, 3, .inl v_body))]) (w1 := []) hP hD [] [0, 1, 2, 3, 4, 5, 6] rfl rfl (by decide) (by decide) hk1 hFc hP1 hD1
        have hP := hP.sub (ws' := [(h_o, .inr (4, [.ref h_line, .int (nI 0), .ref h_fact, .ref h_marked, .int v_count, .ref h_many, .ref h_codes, .int v_oldCount, .ref h_oldMany, .ref h_oldCodes, .int v_read, .ref h_body, .ref h_roundOf, .ref h_fresh, .int v_last])), (h_line, .inl (k_line, 32, .inl v_line)), (h_fact, .inl (k_fact, 32, .inl v_fact)), (h_marked, .inl (k_marked, 16, .inl v_marked)), (h_many, .inl (k_many, 2, .inl v_many)), (h_codes, .inl (k_codes, 6, .inl v_codes)), (h_body, .inl (k_body, 3, .inl v_body))]) [0, 1, 2, 3, 4, 5, 6] rfl
        have hD := hD.sub (ws' := [(h_o, .inr (4, [.ref h_line, .int (nI 0), .ref h_fact, .ref h_marked, .int v_count, .ref h_many, .ref h_codes, .int v_oldCount, .ref h_oldMany, .ref h_oldCodes, .int v_read, .ref h_body, .ref h_roundOf, .ref h_fresh, .int v_last])), (h_line, .inl (k_line, 32, .inl v_line)), (h_fact, .inl (k_fact, 32, .inl v_fact)), (h_marked, .inl (k_marked, 16, .inl v_marked)), (h_many, .inl (k_many, 2, .inl v_many)), (h_codes, .inl (k_codes, 6, .inl v_codes)), (h_body, .inl (k_body, 3, .inl v_body))]) [0, 1, 2, 3, 4, 5, 6] (by decide) rfl
        generalize H1 = H at hP hS ⊢
        refine lv_imul hx hb d_M_enter_140 ?_
        refine lv_iload_n hx hb d_M_enter_141 rfl (lv_at hl 1 rfl) ?_
        refine lv_iadd hx hb d_M_enter_142 ?_
        refine lv_iload_n hx hb d_M_enter_143 rfl (lv_at hl 2 rfl) ?_
        refine lv_bipush (v := (nI 6)) hx hb d_M_enter_144 (by decide) ?_
        refine lv_icmp_ne (tgt := 153) hx hb d_M_enter_146 (by decide) (fun c_146 => ?_) (fun c_146 => ?_)
        · have h := of_neg h c_146
          refine lv_iconst (v := (nI 0)) hx hb d_M_enter_153 (by decide) ?_
          exact J_154 (nI 0) v_count v_read v_fact v_marked v_many v_codes v_body (nI 0) (((nI 16) * v_137.1) + w_76) h _ _ hP hD hS ls (lv_sub hl [] rfl)
        · have h := of_pos h c_146
          refine lv_iconst (v := (nI 1)) hx hb d_M_enter_149 (by decide) ?_
          refine lv_goto (tgt := 154) hx hb d_M_enter_150 (by decide) ?_
          exact J_154 (nI 0) v_count v_read v_fact v_marked v_many v_codes v_body (nI 1) (((nI 16) * v_137.1) + w_76) h _ _ hP hD hS ls (lv_sub hl [] rfl)
      · have h := of_pos h c_92
        refine lv_aload_n hx hb d_M_enter_95 rfl (lv_at hl 4 rfl) ?_
        refine lv_iload_n hx hb d_M_enter_96 rfl (lv_at hl 1 rfl) ?_
        refine lv_aload_n hx hb d_M_enter_97 rfl (lv_at hl 4 rfl) ?_
        refine va_get (D := (dC, dI)) (ci := 4) (v := .ref h_line) (C := R_M) (T := F_M) (N := 15) hx hb hts lay_M hown hK hP 0 rfl rfl 0 (by decide) (hts _ flk_M_7) (fun _ h9 => h9) rfl d_M_enter_98 ?_
        refine lv_iconst (v := (nI 0)) hx hb d_M_enter_101 (by decide) ?_
        obtain ⟨g_102, h⟩ := of_guard h
        refine va_iald hx hb hK hP 1 0 rfl rfl (inR_in g_102) d_M_enter_102 ?_
        refine lv_bipush (v := (nI 43)) hx hb d_M_enter_103 (by decide) ?_
        refine lv_icmp_ne (tgt := 112) hx hb d_M_enter_105 (by decide) (fun c_105 => ?_) (fun c_105 => ?_)
        · have h := of_neg h c_105
          refine lv_aload_n hx hb d_M_enter_112 rfl (lv_at hl 4 rfl) ?_
          refine va_get (D := (dC, dI)) (ci := 4) (v := .ref h_line) (C := R_M) (T := F_M) (N := 15) hx hb hts lay_M hown hK hP 0 rfl rfl 0 (by decide) (hts _ flk_M_7) (fun _ h9 => h9) rfl d_M_enter_113 ?_
          refine lv_iconst (v := (nI 0)) hx hb d_M_enter_116 (by decide) ?_
          obtain ⟨g_117, h⟩ := of_guard h
          refine va_iald hx hb hK hP 1 0 rfl rfl (inR_in g_117) d_M_enter_117 ?_
          refine lv_bipush (v := (nI 45)) hx hb d_M_enter_118 (by decide) ?_
          refine lv_icmp_ne (tgt := 127) hx hb d_M_enter_120 (by decide) (fun c_120 => ?_) (fun c_120 => ?_)
          · have h := of_neg h c_120
            refine lv_iconst (v := (nI 0)) hx hb d_M_enter_127 (by decide) ?_
            exact J_128 (nI 0) v_count v_read v_fact v_marked v_many v_codes v_body (nI 0) w_76 h _ _ hP hD hS ls (lv_sub hl [] rfl)
          · have h := of_pos h c_120
            refine lv_iconst (v := (-1 : Int32)) hx hb d_M_enter_123 (by decide) ?_
            refine lv_goto (tgt := 128) hx hb d_M_enter_124 (by decide) ?_
            exact J_128 (nI 0) v_count v_read v_fact v_marked v_many v_codes v_body (-1 : Int32) w_76 h _ _ hP hD hS ls (lv_sub hl [] rfl)
        · have h := of_pos h c_105
          refine lv_iconst (v := (nI 1)) hx hb d_M_enter_108 (by decide) ?_
          refine lv_goto (tgt := 128) hx hb d_M_enter_109 (by decide) ?_
          exact J_128 (nI 0) v_count v_read v_fact v_marked v_many v_codes v_body (nI 1) w_76 h _ _ hP hD hS ls (lv_sub hl [] rfl)
    · have h := of_pos h c_31
      refine lv_aload_n hx hb d_M_enter_34 rfl (lv_at hl 2 rfl) ?_
      have hPc := hP.sub (ws' := [(h_o, .inr (4, [.ref h_line, .int v_typed, .ref h_fact, .ref h_marked, .int v_count, .ref h_many, .ref h_codes, .int v_oldCount, .ref h_oldMany, .ref h_oldCodes, .int v_read, .ref h_body, .ref h_roundOf, .ref h_fresh, .int v_last])), (h_line, .inl (k_line, 32, .inl v_line)), (h_many, .inl (k_many, 2, .inl v_many)), (h_codes, .inl (k_codes, 6, .inl v_codes)), (h_body, .inl (k_body, 3, .inl v_body))]) [0, 1, 4, 5, 6] rfl
      have hDc := hD.sub (ws' := [(h_o, .inr (4, [.ref h_line, .int v_typed, .ref h_fact, .ref h_marked, .int v_count, .ref h_many, .ref h_codes, .int v_oldCount, .ref h_oldMany, .ref h_oldCodes, .int v_read, .ref h_body, .ref h_roundOf, .ref h_fresh, .int v_last])), (h_line, .inl (k_line, 32, .inl v_line)), (h_many, .inl (k_many, 2, .inl v_many)), (h_codes, .inl (k_codes, 6, .inl v_codes)), (h_body, .inl (k_body, 3, .inl v_body))]) [0, 1, 4, 5, 6] (by decide) rfl
      have hKc := hK.sub (tys' := [(k_line, .int), (k_many, .int), (k_codes, .int), (k_body, .int)]) [0, 3, 4, 5] rfl
      have hFc := va_free (wc := [(h_o, .inr (4, [.ref h_line, .int v_typed, .ref h_fact, .ref h_marked, .int v_count, .ref h_many, .ref h_codes, .int v_oldCount, .ref h_oldMany, .ref h_oldCodes, .int v_read, .ref h_body, .ref h_roundOf, .ref h_fresh, .int v_last])), (h_line, .inl (k_line, 32, .inl v_line)), (h_many, .inl (k_many, 2, .inl v_many)), (h_codes, .inl (k_codes, 6, .inl v_codes)), (h_body, .inl (k_body, 3, .inl v_body))]) hD hS hA [0, 1, 4, 5, 6] rfl
      obtain ⟨v_35, hc_35, h⟩ := of_bind h
      refine va_calli (va_runV (As := []) (rest := []) ⟨hx, hb, hml, hown, hts⟩ (c_M_enterClause l dC dI h_o h_line h_fact h_marked h_many h_codes h_oldMany h_oldCodes h_body h_roundOf h_fresh k_line k_many k_codes k_body H.size v_typed v_count v_oldCount v_read v_last v_line v_many v_codes v_body v_35.1 v_35.2 hc_35) (cwV 0 hts (gV mlk_M_95 ins_M_enterClause sel_M_enterClause ini_M cod_M_enterClause) rfl rfl rfl (by decide +kernel) ⟨Nat.le_of_ble_eq_true rfl, Nat.le_of_ble_eq_true rfl⟩) ⟨fun a U g mk q => by obtain ⟨q0, q1, qP, qK, qD⟩ := q; exact ⟨q0, q1, qP, va_K.moved (u := U) (U := U.calling g mk a) (Vm.Alike.refl U.vm) qK, qD⟩, va_recv hKc hPc (ci := 4) (q0 := 0) rfl rfl, fun U hU hW => ⟨rfl, by rw [hU], by rw [hU]; exact hPc, va_K.moved hW.alike hKc, hDc.weaken (fun _ _ _ _ => trivial)⟩⟩ rfl rfl hl.1 rfl (lv_room (Nat.le_of_ble_eq_true rfl)) d_M_enter_35 ⟨Nat.le_of_ble_eq_true rfl, Nat.le_of_ble_eq_true rfl⟩) hS (fun q _ h9 => hFc q h9) hFc (fun r_35 u t H1 locs ht hvm hw hB hz1 hk1 hS => ?_)
      obtain ⟨rfl, rfl⟩ := hw
      obtain ⟨hP1, hK1, hD1⟩ := hB
      rw [ht] at hP1
      obtain ⟨hP, hD⟩ := va_join (wr := [(h_fact, .inl (k_fact, 32, .inl v_fact)), (h_marked, .inl (k_marked, 16, .inl v_marked))]) (w1 := [(h_o, .inr (4, [.ref h_line, .int v_typed, .ref h_fact, .ref h_marked, .int v_35.2.1, .ref h_many, .ref h_codes, .int v_oldCount, .ref h_oldMany, .ref h_oldCodes, .int v_35.2.2.1, .ref h_body, .ref h_roundOf, .ref h_fresh, .int v_last])), (h_line, .inl (k_line, 32, .inl v_line)), (h_many, .inl (k_many, 2, .inl v_35.2.2.2.1)), (h_codes, .inl (k_codes, 6, .inl v_35.2.2.2.2.1)), (h_body, .inl (k_body, 3, .inl v_35.2.2.2.2.2))]) hP hD [0, 1, 4, 5, 6] [2, 3] rfl rfl (by decide) (by decide) hk1 hFc hP1 hD1
      have hP := hP.sub (ws' := [(h_o, .inr (4, [.ref h_line, .int v_typed, .ref h_fact, .ref h_marked, .int v_35.2.1, .ref h_many, .ref h_codes, .int v_oldCount, .ref h_oldMany, .ref h_oldCodes, .int v_35.2.2.1, .ref h_body, .ref h_roundOf, .ref h_fresh, .int v_last])), (h_line, .inl (k_line, 32, .inl v_line)), (h_fact, .inl (k_fact, 32, .inl v_fact)), (h_marked, .inl (k_marked, 16, .inl v_marked)), (h_many, .inl (k_many, 2, .inl v_35.2.2.2.1)), (h_codes, .inl (k_codes, 6, .inl v_35.2.2.2.2.1)), (h_body, .inl (k_body, 3, .inl v_35.2.2.2.2.2))]) [2, 3, 0, 1, 4, 5, 6] rfl
      have hD := hD.sub (ws' := [(h_o, .inr (4, [.ref h_line, .int v_typed, .ref h_fact, .ref h_marked, .int v_35.2.1, .ref h_many, .ref h_codes, .int v_oldCount, .ref h_oldMany, .ref h_oldCodes, .int v_35.2.2.1, .ref h_body, .ref h_roundOf, .ref h_fresh, .int v_last])), (h_line, .inl (k_line, 32, .inl v_line)), (h_fact, .inl (k_fact, 32, .inl v_fact)), (h_marked, .inl (k_marked, 16, .inl v_marked)), (h_many, .inl (k_many, 2, .inl v_35.2.2.2.1)), (h_codes, .inl (k_codes, 6, .inl v_35.2.2.2.2.1)), (h_body, .inl (k_body, 3, .inl v_35.2.2.2.2.2))]) [2, 3, 0, 1, 4, 5, 6] (by decide) rfl
      generalize H1 = H at hP hS ⊢
      refine lv_istore_n (lv' := [(3, .int v_35.1), (2, .int v_typed), (1, .int v_1.1), (0, .ref h_o)]) hx hb d_M_enter_38 rfl hl (by decide) rfl (fun ls hl => ?_)
      refine lv_aload_n hx hb d_M_enter_39 rfl (lv_at hl 3 rfl) ?_
      refine lv_iconst (v := (nI 0)) hx hb d_M_enter_40 (by decide) ?_
      refine va_put (D := (dC, dI)) (ci := 4) (v := .int (nI 0)) (ty := .int) (C := R_M) (T := F_M) (N := 15) hx hb hts lay_M t_M t_M_ok n_M hown hK hP hD hS 0 rfl rfl 1 (by decide) (hts _ flk_M_41) (fun _ h9 => h9) rfl (by decide +kernel) rfl rfl (Nat.le_of_ble_eq_true rfl) d_M_enter_41 (fun H locs hP hD hS => ?_)
      have hP : va_P (dC, dI) classes [(h_o, .inr (4, [.ref h_line, .int (nI 0), .ref h_fact, .ref h_marked, .int v_35.2.1, .ref h_many, .ref h_codes, .int v_oldCount, .ref h_oldMany, .ref h_oldCodes, .int v_35.2.2.1, .ref h_body, .ref h_roundOf, .ref h_fresh, .int v_last])), (h_line, .inl (k_line, 32, .inl v_line)), (h_fact, .inl (k_fact, 32, .inl v_fact)), (h_marked, .inl (k_marked, 16, .inl v_marked)), (h_many, .inl (k_many, 2, .inl v_35.2.2.2.1)), (h_codes, .inl (k_codes, 6, .inl v_35.2.2.2.2.1)), (h_body, .inl (k_body, 3, .inl v_35.2.2.2.2.2))] H := hP
      have hD : va_D A [(h_o, .inr (4, [.ref h_line, .int (nI 0), .ref h_fact, .ref h_marked, .int v_35.2.1, .ref h_many, .ref h_codes, .int v_oldCount, .ref h_oldMany, .ref h_oldCodes, .int v_35.2.2.1, .ref h_body, .ref h_roundOf, .ref h_fresh, .int v_last])), (h_line, .inl (k_line, 32, .inl v_line)), (h_fact, .inl (k_fact, 32, .inl v_fact)), (h_marked, .inl (k_marked, 16, .inl v_marked)), (h_many, .inl (k_many, 2, .inl v_35.2.2.2.1)), (h_codes, .inl (k_codes, 6, .inl v_35.2.2.2.2.1)), (h_body, .inl (k_body, 3, .inl v_35.2.2.2.2.2))] := hD
      refine lv_iload_n hx hb d_M_enter_44 rfl (lv_at hl 0 rfl) ?_
      rw [hQ]
      exact W.iret (v := v_35.1) hx hb hr (fun t ht hW => ⟨⟨v_35.1, ((nI 0), v_35.2.1, v_35.2.2.1, v_fact, v_marked, v_35.2.2.2.1, v_35.2.2.2.2.1, v_35.2.2.2.2.2), rfl, Prod.mk.inj (Option.some.inj h), by rw [ht]; exact hP, va_K.moved hW.alike hK, hD⟩, hS.F ht⟩) hS.2.2 d_M_enter_45
  · have h := of_neg h c_11
    refine lv_aload_n hx hb d_M_enter_14 rfl (lv_at hl 2 rfl) ?_
    refine lv_iconst (v := (nI 0)) hx hb d_M_enter_15 (by decide) ?_
    refine va_put (D := (dC, dI)) (ci := 4) (v := .int (nI 0)) (ty := .int) (C := R_M) (T := F_M) (N := 15) hx hb hts lay_M t_M t_M_ok n_M hown hK hP hD hS 0 rfl rfl 1 (by decide) (hts _ flk_M_41) (fun _ h9 => h9) rfl (by decide +kernel) rfl rfl (Nat.le_of_ble_eq_true rfl) d_M_enter_16 (fun H locs hP hD hS => ?_)
    have hP : va_P (dC, dI) classes [(h_o, .inr (4, [.ref h_line, .int (nI 0), .ref h_fact, .ref h_marked, .int v_count, .ref h_many, .ref h_codes, .int v_oldCount, .ref h_oldMany, .ref h_oldCodes, .int v_read, .ref h_body, .ref h_roundOf, .ref h_fresh, .int v_last])), (h_line, .inl (k_line, 32, .inl v_line)), (h_fact, .inl (k_fact, 32, .inl v_fact)), (h_marked, .inl (k_marked, 16, .inl v_marked)), (h_many, .inl (k_many, 2, .inl v_many)), (h_codes, .inl (k_codes, 6, .inl v_codes)), (h_body, .inl (k_body, 3, .inl v_body))] H := hP
    have hD : va_D A [(h_o, .inr (4, [.ref h_line, .int (nI 0), .ref h_fact, .ref h_marked, .int v_count, .ref h_many, .ref h_codes, .int v_oldCount, .ref h_oldMany, .ref h_oldCodes, .int v_read, .ref h_body, .ref h_roundOf, .ref h_fresh, .int v_last])), (h_line, .inl (k_line, 32, .inl v_line)), (h_fact, .inl (k_fact, 32, .inl v_fact)), (h_marked, .inl (k_marked, 16, .inl v_marked)), (h_many, .inl (k_many, 2, .inl v_many)), (h_codes, .inl (k_codes, 6, .inl v_codes)), (h_body, .inl (k_body, 3, .inl v_body))] := hD
    refine lv_iconst (v := (-1 : Int32)) hx hb d_M_enter_19 (by decide) ?_
    refine lv_iload_n hx hb d_M_enter_20 rfl (lv_at hl 1 rfl) ?_
    refine lv_isub hx hb d_M_enter_21 ?_
    rw [hQ]
    exact W.iret (v := (-1 : Int32) - v_1.1) hx hb hr (fun t ht hW => ⟨⟨(-1 : Int32) - v_1.1, ((nI 0), v_count, v_read, v_fact, v_marked, v_many, v_codes, v_body), rfl, Prod.mk.inj (Option.some.inj h), by rw [ht]; exact hP, va_K.moved hW.alike hK, hD⟩, hS.F ht⟩) hS.2.2 d_M_enter_22
