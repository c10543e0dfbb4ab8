theorem d_H_fits_0 : decode b_H_fits 0 = .ok (.aload_n 0, 1) := by decide +kernel
theorem d_H_fits_1 : decode b_H_fits 1 = .ok (.invokevirtual 94, 3) := by decide +kernel
theorem d_H_fits_4 : decode b_H_fits 4 = .ok (.aload_n 0, 1) := by decide +kernel
theorem d_H_fits_5 : decode b_H_fits 5 = .ok (.invokevirtual 103, 3) := by decide +kernel
theorem d_H_fits_8 : decode b_H_fits 8 = .ok (.ireturn, 1) := by decide +kernel
theorem d_H_changeFacts_0 : decode b_H_changeFacts 0 = .ok (.iload_n 1, 1) := by decide +kernel
theorem d_H_changeFacts_1 : decode b_H_changeFacts 1 = .ok (.invokestatic 63, 3) := by decide +kernel
theorem d_H_changeFacts_4 : decode b_H_changeFacts 4 = .ok (.ifCond .ne 5, 3) := by decide +kernel
theorem d_H_changeFacts_7 : decode b_H_changeFacts 7 = .ok (.iconst 0, 1) := by decide +kernel
theorem d_H_changeFacts_8 : decode b_H_changeFacts 8 = .ok (.ireturn, 1) := by decide +kernel
theorem d_H_changeFacts_9 : decode b_H_changeFacts 9 = .ok (.aload_n 0, 1) := by decide +kernel
theorem d_H_changeFacts_10 : decode b_H_changeFacts 10 = .ok (.getfield 16, 3) := by decide +kernel
theorem d_H_changeFacts_13 : decode b_H_changeFacts 13 = .ok (.iload_n 1, 1) := by decide +kernel
theorem d_H_changeFacts_14 : decode b_H_changeFacts 14 = .ok (.iaload, 1) := by decide +kernel
theorem d_H_changeFacts_15 : decode b_H_changeFacts 15 = .ok (.istore 4, 2) := by decide +kernel
theorem d_H_changeFacts_17 : decode b_H_changeFacts 17 = .ok (.aload_n 0, 1) := by decide +kernel
theorem d_H_changeFacts_18 : decode b_H_changeFacts 18 = .ok (.getfield 16, 3) := by decide +kernel
theorem d_H_changeFacts_21 : decode b_H_changeFacts 21 = .ok (.iload_n 1, 1) := by decide +kernel
theorem d_H_changeFacts_22 : decode b_H_changeFacts 22 = .ok (.iload_n 3, 1) := by decide +kernel
theorem d_H_changeFacts_23 : decode b_H_changeFacts 23 = .ok (.ifCond .eq 10, 3) := by decide +kernel
theorem d_H_changeFacts_26 : decode b_H_changeFacts 26 = .ok (.iload 4, 2) := by decide +kernel
theorem d_H_changeFacts_28 : decode b_H_changeFacts 28 = .ok (.iload_n 2, 1) := by decide +kernel
theorem d_H_changeFacts_29 : decode b_H_changeFacts 29 = .ok (.ior, 1) := by decide +kernel
theorem d_H_changeFacts_30 : decode b_H_changeFacts 30 = .ok (.goto 9, 3) := by decide +kernel
theorem d_H_changeFacts_33 : decode b_H_changeFacts 33 = .ok (.iload 4, 2) := by decide +kernel
theorem d_H_changeFacts_35 : decode b_H_changeFacts 35 = .ok (.iload_n 2, 1) := by decide +kernel
theorem d_H_changeFacts_36 : decode b_H_changeFacts 36 = .ok (.iconst (-1), 1) := by decide +kernel
theorem d_H_changeFacts_37 : decode b_H_changeFacts 37 = .ok (.ixor, 1) := by decide +kernel
theorem d_H_changeFacts_38 : decode b_H_changeFacts 38 = .ok (.iand, 1) := by decide +kernel
theorem d_H_changeFacts_39 : decode b_H_changeFacts 39 = .ok (.iastore, 1) := by decide +kernel
theorem d_H_changeFacts_40 : decode b_H_changeFacts 40 = .ok (.aload_n 0, 1) := by decide +kernel
theorem d_H_changeFacts_41 : decode b_H_changeFacts 41 = .ok (.getfield 16, 3) := by decide +kernel
theorem d_H_changeFacts_44 : decode b_H_changeFacts 44 = .ok (.iload_n 1, 1) := by decide +kernel
theorem d_H_changeFacts_45 : decode b_H_changeFacts 45 = .ok (.iaload, 1) := by decide +kernel
theorem d_H_changeFacts_46 : decode b_H_changeFacts 46 = .ok (.iload 4, 2) := by decide +kernel
theorem d_H_changeFacts_48 : decode b_H_changeFacts 48 = .ok (.if_icmp .ne 7, 3) := by decide +kernel
theorem d_H_changeFacts_51 : decode b_H_changeFacts 51 = .ok (.iconst 0, 1) := by decide +kernel
theorem d_H_changeFacts_52 : decode b_H_changeFacts 52 = .ok (.goto 4, 3) := by decide +kernel
theorem d_H_changeFacts_55 : decode b_H_changeFacts 55 = .ok (.iconst 1, 1) := by decide +kernel
theorem d_H_changeFacts_56 : decode b_H_changeFacts 56 = .ok (.ireturn, 1) := by decide +kernel
theorem d_H_changeMarks_0 : decode b_H_changeMarks 0 = .ok (.iload_n 1, 1) := by decide +kernel
theorem d_H_changeMarks_1 : decode b_H_changeMarks 1 = .ok (.aload_n 0, 1) := by decide +kernel
theorem d_H_changeMarks_2 : decode b_H_changeMarks 2 = .ok (.getfield 20, 3) := by decide +kernel
theorem d_H_changeMarks_5 : decode b_H_changeMarks 5 = .ok (.if_icmp .ne 15, 3) := by decide +kernel
theorem d_H_changeMarks_8 : decode b_H_changeMarks 8 = .ok (.iload_n 2, 1) := by decide +kernel
theorem d_H_changeMarks_9 : decode b_H_changeMarks 9 = .ok (.aload_n 0, 1) := by decide +kernel
theorem d_H_changeMarks_10 : decode b_H_changeMarks 10 = .ok (.getfield 24, 3) := by decide +kernel
theorem d_H_changeMarks_13 : decode b_H_changeMarks 13 = .ok (.if_icmp .ne 7, 3) := by decide +kernel
theorem d_H_changeMarks_16 : decode b_H_changeMarks 16 = .ok (.iconst 1, 1) := by decide +kernel
theorem d_H_changeMarks_17 : decode b_H_changeMarks 17 = .ok (.goto 4, 3) := by decide +kernel
theorem d_H_changeMarks_20 : decode b_H_changeMarks 20 = .ok (.iconst 0, 1) := by decide +kernel
theorem d_H_changeMarks_21 : decode b_H_changeMarks 21 = .ok (.istore_n 3, 1) := by decide +kernel
theorem d_H_changeMarks_22 : decode b_H_changeMarks 22 = .ok (.aload_n 0, 1) := by decide +kernel
theorem d_H_changeMarks_23 : decode b_H_changeMarks 23 = .ok (.iload_n 1, 1) := by decide +kernel
theorem d_H_changeMarks_24 : decode b_H_changeMarks 24 = .ok (.putfield 20, 3) := by decide +kernel
theorem d_H_changeMarks_27 : decode b_H_changeMarks 27 = .ok (.aload_n 0, 1) := by decide +kernel
theorem d_H_changeMarks_28 : decode b_H_changeMarks 28 = .ok (.iload_n 2, 1) := by decide +kernel
theorem d_H_changeMarks_29 : decode b_H_changeMarks 29 = .ok (.putfield 24, 3) := by decide +kernel
theorem d_H_changeMarks_32 : decode b_H_changeMarks 32 = .ok (.iload_n 3, 1) := by decide +kernel
theorem d_H_changeMarks_33 : decode b_H_changeMarks 33 = .ok (.ifCond .eq 7, 3) := by decide +kernel
theorem d_H_changeMarks_36 : decode b_H_changeMarks 36 = .ok (.iconst 0, 1) := by decide +kernel
theorem d_H_changeMarks_37 : decode b_H_changeMarks 37 = .ok (.goto 4, 3) := by decide +kernel
theorem d_H_changeMarks_40 : decode b_H_changeMarks 40 = .ok (.iconst 1, 1) := by decide +kernel
theorem d_H_changeMarks_41 : decode b_H_changeMarks 41 = .ok (.ireturn, 1) := by decide +kernel
theorem d_H_addClause_0 : decode b_H_addClause 0 = .ok (.iload_n 1, 1) := by decide +kernel
theorem d_H_addClause_1 : decode b_H_addClause 1 = .ok (.invokestatic 66, 3) := by decide +kernel
theorem d_H_addClause_4 : decode b_H_addClause 4 = .ok (.iload_n 2, 1) := by decide +kernel
theorem d_H_addClause_5 : decode b_H_addClause 5 = .ok (.if_icmp .ge 6, 3) := by decide +kernel
theorem d_H_addClause_8 : decode b_H_addClause 8 = .ok (.bipush (-100), 2) := by decide +kernel
theorem d_H_addClause_10 : decode b_H_addClause 10 = .ok (.ireturn, 1) := by decide +kernel
theorem d_H_addClause_11 : decode b_H_addClause 11 = .ok (.iload_n 1, 1) := by decide +kernel
theorem d_H_addClause_12 : decode b_H_addClause 12 = .ok (.invokestatic 147, 3) := by decide +kernel
theorem d_H_addClause_15 : decode b_H_addClause 15 = .ok (.ifCond .ne 6, 3) := by decide +kernel
theorem d_H_addClause_18 : decode b_H_addClause 18 = .ok (.bipush (-101), 2) := by decide +kernel
theorem d_H_addClause_20 : decode b_H_addClause 20 = .ok (.ireturn, 1) := by decide +kernel
theorem d_H_addClause_21 : decode b_H_addClause 21 = .ok (.aload_n 0, 1) := by decide +kernel
theorem d_H_addClause_22 : decode b_H_addClause 22 = .ok (.getfield 30, 3) := by decide +kernel
theorem d_H_addClause_25 : decode b_H_addClause 25 = .ok (.iload_n 1, 1) := by decide +kernel
theorem d_H_addClause_26 : decode b_H_addClause 26 = .ok (.invokevirtual 150, 3) := by decide +kernel
theorem d_H_addClause_29 : decode b_H_addClause 29 = .ok (.ifCond .eq 6, 3) := by decide +kernel
theorem d_H_addClause_32 : decode b_H_addClause 32 = .ok (.bipush (-102), 2) := by decide +kernel
theorem d_H_addClause_34 : decode b_H_addClause 34 = .ok (.ireturn, 1) := by decide +kernel
theorem d_H_addClause_35 : decode b_H_addClause 35 = .ok (.aload_n 0, 1) := by decide +kernel
theorem d_H_addClause_36 : decode b_H_addClause 36 = .ok (.getfield 30, 3) := by decide +kernel
theorem d_H_addClause_39 : decode b_H_addClause 39 = .ok (.getfield 79, 3) := by decide +kernel
theorem d_H_addClause_42 : decode b_H_addClause 42 = .ok (.iconst 2, 1) := by decide +kernel
theorem d_H_addClause_43 : decode b_H_addClause 43 = .ok (.if_icmp .lt 6, 3) := by decide +kernel
theorem d_H_addClause_46 : decode b_H_addClause 46 = .ok (.bipush (-103), 2) := by decide +kernel
theorem d_H_addClause_48 : decode b_H_addClause 48 = .ok (.ireturn, 1) := by decide +kernel
theorem d_H_addClause_49 : decode b_H_addClause 49 = .ok (.bipush 10, 2) := by decide +kernel
theorem d_H_addClause_51 : decode b_H_addClause 51 = .ok (.aload_n 0, 1) := by decide +kernel
theorem d_H_addClause_52 : decode b_H_addClause 52 = .ok (.getfield 30, 3) := by decide +kernel
theorem d_H_addClause_55 : decode b_H_addClause 55 = .ok (.iload_n 1, 1) := by decide +kernel
theorem d_H_addClause_56 : decode b_H_addClause 56 = .ok (.invokevirtual 153, 3) := by decide +kernel
theorem d_H_addClause_59 : decode b_H_addClause 59 = .ok (.iadd, 1) := by decide +kernel
theorem d_H_addClause_60 : decode b_H_addClause 60 = .ok (.ireturn, 1) := by decide +kernel
theorem d_H_carryOutLine_0 : decode b_H_carryOutLine 0 = .ok (.aload_n 0, 1) := by decide +kernel
theorem d_H_carryOutLine_1 : decode b_H_carryOutLine 1 = .ok (.getfield 12, 3) := by decide +kernel
theorem d_H_carryOutLine_4 : decode b_H_carryOutLine 4 = .ok (.iconst 0, 1) := by decide +kernel
theorem d_H_carryOutLine_5 : decode b_H_carryOutLine 5 = .ok (.invokevirtual 117, 3) := by decide +kernel
theorem d_H_carryOutLine_8 : decode b_H_carryOutLine 8 = .ok (.istore_n 1, 1) := by decide +kernel
theorem d_H_carryOutLine_9 : decode b_H_carryOutLine 9 = .ok (.iload_n 1, 1) := by decide +kernel
theorem d_H_carryOutLine_10 : decode b_H_carryOutLine 10 = .ok (.bipush 116, 2) := by decide +kernel
theorem d_H_carryOutLine_12 : decode b_H_carryOutLine 12 = .ok (.if_icmp .ne 22, 3) := by decide +kernel
theorem d_H_carryOutLine_15 : decode b_H_carryOutLine 15 = .ok (.aload_n 0, 1) := by decide +kernel
theorem d_H_carryOutLine_16 : decode b_H_carryOutLine 16 = .ok (.aload_n 0, 1) := by decide +kernel
theorem d_H_carryOutLine_17 : decode b_H_carryOutLine 17 = .ok (.getfield 12, 3) := by decide +kernel
theorem d_H_carryOutLine_20 : decode b_H_carryOutLine 20 = .ok (.invokevirtual 121, 3) := by decide +kernel
theorem d_H_carryOutLine_23 : decode b_H_carryOutLine 23 = .ok (.aload_n 0, 1) := by decide +kernel
theorem d_H_carryOutLine_24 : decode b_H_carryOutLine 24 = .ok (.getfield 12, 3) := by decide +kernel
theorem d_H_carryOutLine_27 : decode b_H_carryOutLine 27 = .ok (.invokevirtual 124, 3) := by decide +kernel
theorem d_H_carryOutLine_30 : decode b_H_carryOutLine 30 = .ok (.invokevirtual 127, 3) := by decide +kernel
theorem d_H_carryOutLine_33 : decode b_H_carryOutLine 33 = .ok (.ireturn, 1) := by decide +kernel
theorem d_H_carryOutLine_34 : decode b_H_carryOutLine 34 = .ok (.aload_n 0, 1) := by decide +kernel
theorem d_H_carryOutLine_35 : decode b_H_carryOutLine 35 = .ok (.getfield 12, 3) := by decide +kernel
theorem d_H_carryOutLine_38 : decode b_H_carryOutLine 38 = .ok (.invokevirtual 130, 3) := by decide +kernel
theorem d_H_carryOutLine_41 : decode b_H_carryOutLine 41 = .ok (.istore_n 2, 1) := by decide +kernel
theorem d_H_carryOutLine_42 : decode b_H_carryOutLine 42 = .ok (.iload_n 1, 1) := by decide +kernel
theorem d_H_carryOutLine_43 : decode b_H_carryOutLine 43 = .ok (.bipush 43, 2) := by decide +kernel
theorem d_H_carryOutLine_45 : decode b_H_carryOutLine 45 = .ok (.if_icmp .ne 22, 3) := by decide +kernel
theorem d_H_carryOutLine_48 : decode b_H_carryOutLine 48 = .ok (.aload_n 0, 1) := by decide +kernel
theorem d_H_carryOutLine_49 : decode b_H_carryOutLine 49 = .ok (.aload_n 0, 1) := by decide +kernel
theorem d_H_carryOutLine_50 : decode b_H_carryOutLine 50 = .ok (.getfield 20, 3) := by decide +kernel
theorem d_H_carryOutLine_53 : decode b_H_carryOutLine 53 = .ok (.iload_n 2, 1) := by decide +kernel
theorem d_H_carryOutLine_54 : decode b_H_carryOutLine 54 = .ok (.ior, 1) := by decide +kernel
theorem d_H_carryOutLine_55 : decode b_H_carryOutLine 55 = .ok (.aload_n 0, 1) := by decide +kernel
theorem d_H_carryOutLine_56 : decode b_H_carryOutLine 56 = .ok (.getfield 24, 3) := by decide +kernel
theorem d_H_carryOutLine_59 : decode b_H_carryOutLine 59 = .ok (.iload_n 2, 1) := by decide +kernel
theorem d_H_carryOutLine_60 : decode b_H_carryOutLine 60 = .ok (.iconst (-1), 1) := by decide +kernel
theorem d_H_carryOutLine_61 : decode b_H_carryOutLine 61 = .ok (.ixor, 1) := by decide +kernel
theorem d_H_carryOutLine_62 : decode b_H_carryOutLine 62 = .ok (.iand, 1) := by decide +kernel
theorem d_H_carryOutLine_63 : decode b_H_carryOutLine 63 = .ok (.invokevirtual 133, 3) := by decide +kernel
theorem d_H_carryOutLine_66 : decode b_H_carryOutLine 66 = .ok (.ireturn, 1) := by decide +kernel
theorem d_H_carryOutLine_67 : decode b_H_carryOutLine 67 = .ok (.iload_n 1, 1) := by decide +kernel
theorem d_H_carryOutLine_68 : decode b_H_carryOutLine 68 = .ok (.bipush 45, 2) := by decide +kernel
theorem d_H_carryOutLine_70 : decode b_H_carryOutLine 70 = .ok (.if_icmp .ne 22, 3) := by decide +kernel
theorem d_H_carryOutLine_73 : decode b_H_carryOutLine 73 = .ok (.aload_n 0, 1) := by decide +kernel
theorem d_H_carryOutLine_74 : decode b_H_carryOutLine 74 = .ok (.aload_n 0, 1) := by decide +kernel
theorem d_H_carryOutLine_75 : decode b_H_carryOutLine 75 = .ok (.getfield 20, 3) := by decide +kernel
theorem d_H_carryOutLine_78 : decode b_H_carryOutLine 78 = .ok (.iload_n 2, 1) := by decide +kernel
theorem d_H_carryOutLine_79 : decode b_H_carryOutLine 79 = .ok (.iconst (-1), 1) := by decide +kernel
theorem d_H_carryOutLine_80 : decode b_H_carryOutLine 80 = .ok (.ixor, 1) := by decide +kernel
theorem d_H_carryOutLine_81 : decode b_H_carryOutLine 81 = .ok (.iand, 1) := by decide +kernel
theorem d_H_carryOutLine_82 : decode b_H_carryOutLine 82 = .ok (.aload_n 0, 1) := by decide +kernel
theorem d_H_carryOutLine_83 : decode b_H_carryOutLine 83 = .ok (.getfield 24, 3) := by decide +kernel
theorem d_H_carryOutLine_86 : decode b_H_carryOutLine 86 = .ok (.iload_n 2, 1) := by decide +kernel
theorem d_H_carryOutLine_87 : decode b_H_carryOutLine 87 = .ok (.ior, 1) := by decide +kernel
theorem d_H_carryOutLine_88 : decode b_H_carryOutLine 88 = .ok (.invokevirtual 133, 3) := by decide +kernel
theorem d_H_carryOutLine_91 : decode b_H_carryOutLine 91 = .ok (.ireturn, 1) := by decide +kernel
theorem d_H_carryOutLine_92 : decode b_H_carryOutLine 92 = .ok (.iload_n 1, 1) := by decide +kernel
theorem d_H_carryOutLine_93 : decode b_H_carryOutLine 93 = .ok (.bipush 126, 2) := by decide +kernel
theorem d_H_carryOutLine_95 : decode b_H_carryOutLine 95 = .ok (.if_icmp .eq 16, 3) := by decide +kernel
theorem d_H_carryOutLine_98 : decode b_H_carryOutLine 98 = .ok (.aload_n 0, 1) := by decide +kernel
theorem d_H_carryOutLine_99 : decode b_H_carryOutLine 99 = .ok (.ldc 136, 2) := by decide +kernel
theorem d_H_carryOutLine_101 : decode b_H_carryOutLine 101 = .ok (.iload_n 1, 1) := by decide +kernel
theorem d_H_carryOutLine_102 : decode b_H_carryOutLine 102 = .ok (.invokevirtual 138, 3) := by decide +kernel
theorem d_H_carryOutLine_105 : decode b_H_carryOutLine 105 = .ok (.iload_n 2, 1) := by decide +kernel
theorem d_H_carryOutLine_106 : decode b_H_carryOutLine 106 = .ok (.iconst 1, 1) := by decide +kernel
theorem d_H_carryOutLine_107 : decode b_H_carryOutLine 107 = .ok (.invokevirtual 143, 3) := by decide +kernel
theorem d_H_carryOutLine_110 : decode b_H_carryOutLine 110 = .ok (.ireturn, 1) := by decide +kernel
theorem d_H_carryOutLine_111 : decode b_H_carryOutLine 111 = .ok (.ldc 136, 2) := by decide +kernel
theorem d_H_carryOutLine_113 : decode b_H_carryOutLine 113 = .ok (.aload_n 0, 1) := by decide +kernel
theorem d_H_carryOutLine_114 : decode b_H_carryOutLine 114 = .ok (.getfield 12, 3) := by decide +kernel
theorem d_H_carryOutLine_117 : decode b_H_carryOutLine 117 = .ok (.iconst 1, 1) := by decide +kernel
theorem d_H_carryOutLine_118 : decode b_H_carryOutLine 118 = .ok (.invokevirtual 117, 3) := by decide +kernel
theorem d_H_carryOutLine_121 : decode b_H_carryOutLine 121 = .ok (.invokevirtual 138, 3) := by decide +kernel
theorem d_H_carryOutLine_124 : decode b_H_carryOutLine 124 = .ok (.istore_n 3, 1) := by decide +kernel
theorem d_H_carryOutLine_125 : decode b_H_carryOutLine 125 = .ok (.iload_n 3, 1) := by decide +kernel
theorem d_H_carryOutLine_126 : decode b_H_carryOutLine 126 = .ok (.iconst 2, 1) := by decide +kernel
theorem d_H_carryOutLine_127 : decode b_H_carryOutLine 127 = .ok (.if_icmp .ne 24, 3) := by decide +kernel
theorem d_H_carryOutLine_130 : decode b_H_carryOutLine 130 = .ok (.aload_n 0, 1) := by decide +kernel
theorem d_H_carryOutLine_131 : decode b_H_carryOutLine 131 = .ok (.aload_n 0, 1) := by decide +kernel
theorem d_H_carryOutLine_132 : decode b_H_carryOutLine 132 = .ok (.getfield 20, 3) := by decide +kernel
theorem d_H_carryOutLine_135 : decode b_H_carryOutLine 135 = .ok (.iload_n 2, 1) := by decide +kernel
theorem d_H_carryOutLine_136 : decode b_H_carryOutLine 136 = .ok (.iconst (-1), 1) := by decide +kernel
theorem d_H_carryOutLine_137 : decode b_H_carryOutLine 137 = .ok (.ixor, 1) := by decide +kernel
theorem d_H_carryOutLine_138 : decode b_H_carryOutLine 138 = .ok (.iand, 1) := by decide +kernel
theorem d_H_carryOutLine_139 : decode b_H_carryOutLine 139 = .ok (.aload_n 0, 1) := by decide +kernel
theorem d_H_carryOutLine_140 : decode b_H_carryOutLine 140 = .ok (.getfield 24, 3) := by decide +kernel
theorem d_H_carryOutLine_143 : decode b_H_carryOutLine 143 = .ok (.iload_n 2, 1) := by decide +kernel
theorem d_H_carryOutLine_144 : decode b_H_carryOutLine 144 = .ok (.iconst (-1), 1) := by decide +kernel
theorem d_H_carryOutLine_145 : decode b_H_carryOutLine 145 = .ok (.ixor, 1) := by decide +kernel
theorem d_H_carryOutLine_146 : decode b_H_carryOutLine 146 = .ok (.iand, 1) := by decide +kernel
theorem d_H_carryOutLine_147 : decode b_H_carryOutLine 147 = .ok (.invokevirtual 133, 3) := by decide +kernel
theorem d_H_carryOutLine_150 : decode b_H_carryOutLine 150 = .ok (.ireturn, 1) := by decide +kernel
theorem d_H_carryOutLine_151 : decode b_H_carryOutLine 151 = .ok (.aload_n 0, 1) := by decide +kernel
theorem d_H_carryOutLine_152 : decode b_H_carryOutLine 152 = .ok (.iload_n 3, 1) := by decide +kernel
theorem d_H_carryOutLine_153 : decode b_H_carryOutLine 153 = .ok (.iload_n 2, 1) := by decide +kernel
theorem d_H_carryOutLine_154 : decode b_H_carryOutLine 154 = .ok (.iconst 0, 1) := by decide +kernel
theorem d_H_carryOutLine_155 : decode b_H_carryOutLine 155 = .ok (.invokevirtual 143, 3) := by decide +kernel
theorem d_H_carryOutLine_158 : decode b_H_carryOutLine 158 = .ok (.ireturn, 1) := by decide +kernel
set_option maxHeartbeats 1000000 in
set_option maxRecDepth 100000 in
theorem c_H_fits (l : Launch) (dC : Nat → ClassId) (dI : Nat → Nat → Nat) (h_o h_line h_factSets h_program h_deduction h_program_bodies h_deduction_factChoices h_deduction_givenInRound : Nat) (k_factSets k_program_bodies k_deduction_factChoices k_deduction_givenInRound : ClassId) (tb : Nat) (ak av : Nat → Nat) (sz : Nat) (v_markedPlus : Int32) (v_markedMinus : Int32) (v_factSets : Nat → Int32) (v_program_count : Int32) (v_program_bodies : Nat → Int32) (v_deduction_givenPairs : Int32) (v_deduction_roundCount : Int32) (v_deduction_factChoices : Nat → Int64) (v_deduction_givenInRound : Nat → Int32) (r0 : Int32) (u0 : Int32 × Int32 × (Nat → Int64) × (Nat → Int32)) (h : m_H_fits v_markedPlus v_markedMinus v_factSets v_program_count v_program_bodies v_deduction_givenPairs v_deduction_roundCount v_deduction_factChoices v_deduction_givenInRound = some (r0, u0)) : Met l y_H_fits w_H_fits ({ frames := 5, cells := 0, slots := 0, locals := 110 } : Room) (va_Pc [.ref h_o] (fun U => U.heap.size = sz ∧ va_P (dC, dI) classes [(h_o, .inr (3, [.ref h_line, .ref h_factSets, .int v_markedPlus, .int v_markedMinus, .ref h_program, .ref h_deduction])), (h_factSets, .inl (k_factSets, 2, .inl v_factSets)), (h_program, .inr (2, [.ref h_program_bodies, .int v_program_count])), (h_program_bodies, .inl (k_program_bodies, 2, .inl v_program_bodies)), (h_deduction, .inr (0, [.ref h_deduction_factChoices, .ref h_deduction_givenInRound, .int v_deduction_givenPairs, .int v_deduction_roundCount])), (h_deduction_factChoices, .inl (k_deduction_factChoices, 18, .inr (.inl v_deduction_factChoices))), (h_deduction_givenInRound, .inl (k_deduction_givenInRound, 17, .inl v_deduction_givenInRound))] U.heap ∧ va_K (dC, dI) classes [(k_factSets, .int), (k_program_bodies, .int), (k_deduction_factChoices, .long), (k_deduction_givenInRound, .int)] U ∧ va_D (fun _ => True) [(h_o, .inr (3, [.ref h_line, .ref h_factSets, .int v_markedPlus, .int v_markedMinus, .ref h_program, .ref h_deduction])), (h_factSets, .inl (k_factSets, 2, .inl v_factSets)), (h_program, .inr (2, [.ref h_program_bodies, .int v_program_count])), (h_program_bodies, .inl (k_program_bodies, 2, .inl v_program_bodies)), (h_deduction, .inr (0, [.ref h_deduction_factChoices, .ref h_deduction_givenInRound, .int v_deduction_givenPairs, .int v_deduction_roundCount])), (h_deduction_factChoices, .inl (k_deduction_factChoices, 18, .inr (.inl v_deduction_factChoices))), (h_deduction_givenInRound, .inl (k_deduction_givenInRound, 17, .inl v_deduction_givenInRound))] ∧ kw tb ak av (va_A [(h_o, .inr (3, [.ref h_line, .ref h_factSets, .int v_markedPlus, .int v_markedMinus, .ref h_program, .ref h_deduction])), (h_factSets, .inl (k_factSets, 2, .inl v_factSets)), (h_program, .inr (2, [.ref h_program_bodies, .int v_program_count])), (h_program_bodies, .inl (k_program_bodies, 2, .inl v_program_bodies)), (h_deduction, .inr (0, [.ref h_deduction_factChoices, .ref h_deduction_givenInRound, .int v_deduction_givenPairs, .int v_deduction_roundCount])), (h_deduction_factChoices, .inl (k_deduction_factChoices, 18, .inr (.inl v_deduction_factChoices))), (h_deduction_givenInRound, .inl (k_deduction_givenInRound, 17, .inl v_deduction_givenInRound))] sz) U)) (va_Qi (fun (r : Int32) (u : Int32 × Int32 × (Nat → Int64) × (Nat → Int32)) => r = r0 ∧ u = u0) (fun (u : Int32 × Int32 × (Nat → Int64) × (Nat → Int32)) (t : State) => va_P (dC, dI) classes [(h_o, .inr (3, [.ref h_line, .ref h_factSets, .int v_markedPlus, .int v_markedMinus, .ref h_program, .ref h_deduction])), (h_factSets, .inl (k_factSets, 2, .inl v_factSets)), (h_program, .inr (2, [.ref h_program_bodies, .int v_program_count])), (h_program_bodies, .inl (k_program_bodies, 2, .inl v_program_bodies)), (h_deduction, .inr (0, [.ref h_deduction_factChoices, .ref h_deduction_givenInRound, .int u.1, .int u.2.1])), (h_deduction_factChoices, .inl (k_deduction_factChoices, 18, .inr (.inl u.2.2.1))), (h_deduction_givenInRound, .inl (k_deduction_givenInRound, 17, .inl u.2.2.2))] t.heap ∧ va_K (dC, dI) classes [(k_factSets, .int), (k_program_bodies, .int), (k_deduction_factChoices, .long), (k_deduction_givenInRound, .int)] t ∧ va_D (va_A [(h_o, .inr (3, [.ref h_line, .ref h_factSets, .int v_markedPlus, .int v_markedMinus, .ref h_program, .ref h_deduction])), (h_factSets, .inl (k_factSets, 2, .inl v_factSets)), (h_program, .inr (2, [.ref h_program_bodies, .int v_program_count])), (h_program_bodies, .inl (k_program_bodies, 2, .inl v_program_bodies)), (h_deduction, .inr (0, [.ref h_deduction_factChoices, .ref h_deduction_givenInRound, .int v_deduction_givenPairs, .int v_deduction_roundCount])), (h_deduction_factChoices, .inl (k_deduction_factChoices, 18, .inr (.inl v_deduction_factChoices))), (h_deduction_givenInRound, .inl (k_deduction_givenInRound, 17, .inl v_deduction_givenInRound))] sz) [(h_o, .inr (3, [.ref h_line, .ref h_factSets, .int v_markedPlus, .int v_markedMinus, .ref h_program, .ref h_deduction])), (h_factSets, .inl (k_factSets, 2, .inl v_factSets)), (h_program, .inr (2, [.ref h_program_bodies, .int v_program_count])), (h_program_bodies, .inl (k_program_bodies, 2, .inl v_program_bodies)), (h_deduction, .inr (0, [.ref h_deduction_factChoices, .ref h_deduction_givenInRound, .int u.1, .int u.2.1])), (h_deduction_factChoices, .inl (k_deduction_factChoices, 18, .inr (.inl u.2.2.1))), (h_deduction_givenInRound, .inl (k_deduction_givenInRound, 17, .inl u.2.2.2))]) (va_A [(h_o, .inr (3, [.ref h_line, .ref h_factSets, .int v_markedPlus, .int v_markedMinus, .ref h_program, .ref h_deduction])), (h_factSets, .inl (k_factSets, 2, .inl v_factSets)), (h_program, .inr (2, [.ref h_program_bodies, .int v_program_count])), (h_program_bodies, .inl (k_program_bodies, 2, .inl v_program_bodies)), (h_deduction, .inr (0, [.ref h_deduction_factChoices, .ref h_deduction_givenInRound, .int v_deduction_givenPairs, .int v_deduction_roundCount])), (h_deduction_factChoices, .inl (k_deduction_factChoices, 18, .inr (.inl v_deduction_factChoices))), (h_deduction_givenInRound, .inl (k_deduction_givenInRound, 17, .inl v_deduction_givenInRound))] sz)) 0 0 (va_A [(h_o, .inr (3, [.ref h_line, .ref h_factSets, .int v_markedPlus, .int v_markedMinus, .ref h_program, .ref h_deduction])), (h_factSets, .inl (k_factSets, 2, .inl v_factSets)), (h_program, .inr (2, [.ref h_program_bodies, .int v_program_count])), (h_program_bodies, .inl (k_program_bodies, 2, .inl v_program_bodies)), (h_deduction, .inr (0, [.ref h_deduction_factChoices, .ref h_deduction_givenInRound, .int v_deduction_givenPairs, .int v_deduction_roundCount])), (h_deduction_factChoices, .inl (k_deduction_factChoices, 18, .inr (.inl v_deduction_factChoices))), (h_deduction_givenInRound, .inl (k_deduction_givenInRound, 17, .inl v_deduction_givenInRound))] sz) := by
  refine Met.ofW (cc := b_H_fits) (maxL := 1) (ret := (some .boolean)) (by decide) rfl ?_
  intro p e s m args below meth c s₁ B hml hv
  obtain ⟨rfl, hsz, hP, hK, hD0, hC⟩ := hv
  have hx := B.exec
  have hb := B.bytes
  have hr := B.returns
  have hts0 := atoms_spec (ws := w_H_fits) B.pre
  have hts : ∀ w ∈ lw_gd, w.before ([.ref h_o] : List Value).toArray s = true := fun w h9 => hts0 w (List.mem_cons_of_mem _ h9)
  have hown : s.vm.findClass R_H = some m.cls := findClass_of_methodNamed B.named
  have hlocks := B.notSynchronized
  subst hsz
  have hD := hD0.self (sz := s.heap.size)
  generalize hAe : va_A [(h_o, .inr (3, [.ref h_line, .ref h_factSets, .int v_markedPlus, .int v_markedMinus, .ref h_program, .ref h_deduction])), (h_factSets, .inl (k_factSets, 2, .inl v_factSets)), (h_program, .inr (2, [.ref h_program_bodies, .int v_program_count])), (h_program_bodies, .inl (k_program_bodies, 2, .inl v_program_bodies)), (h_deduction, .inr (0, [.ref h_deduction_factChoices, .ref h_deduction_givenInRound, .int v_deduction_givenPairs, .int v_deduction_roundCount])), (h_deduction_factChoices, .inl (k_deduction_factChoices, 18, .inr (.inl v_deduction_factChoices))), (h_deduction_givenInRound, .inl (k_deduction_givenInRound, 17, .inl v_deduction_givenInRound))] s.heap.size = A at hD hC ⊢
  have hA : ∀ q : Nat, s.heap.size ≤ q → A q := fun q h9 => by rw [← hAe]; exact Or.inr h9
  obtain ⟨H, eH⟩ : ∃ H : Heap, H = s.heap := ⟨_, rfl⟩
  have hS : va_S A s.heap H [] := by rw [eH]; exact va_S.rf
  have hP : va_P (dC, dI) classes [(h_o, .inr (3, [.ref h_line, .ref h_factSets, .int v_markedPlus, .int v_markedMinus, .ref h_program, .ref h_deduction])), (h_factSets, .inl (k_factSets, 2, .inl v_factSets)), (h_program, .inr (2, [.ref h_program_bodies, .int v_program_count])), (h_program_bodies, .inl (k_program_bodies, 2, .inl v_program_bodies)), (h_deduction, .inr (0, [.ref h_deduction_factChoices, .ref h_deduction_givenInRound, .int v_deduction_givenPairs, .int v_deduction_roundCount])), (h_deduction_factChoices, .inl (k_deduction_factChoices, 18, .inr (.inl v_deduction_factChoices))), (h_deduction_givenInRound, .inl (k_deduction_givenInRound, 17, .inl v_deduction_givenInRound))] H := by rw [eH]; exact hP
  refine W_gen (fun Q hQ => ?_)
  refine W_heap eH ?_
  clear eH
  have hl := lv_entry ([.ref h_o]) (n := 1) (Nat.le_of_ble_eq_true rfl)
  rw [lg_entry_eq]
  generalize (lg_sl ([.ref h_o]) ++ List.replicate (1 - (lg_sl ([.ref h_o])).length) Slot.unset).toArray = ls at hl ⊢
  have hl : lv_has ls 1 [(0, .ref h_o)] := hl
  unfold m_H_fits at h
  refine lv_aload_n hx hb d_H_fits_0 rfl (lv_at hl 0 rfl) ?_
  have hPc := hP.sub (ws' := [(h_o, .inr (3, [.ref h_line, .ref h_factSets, .int v_markedPlus, .int v_markedMinus, .ref h_program, .ref h_deduction])), (h_factSets, .inl (k_factSets, 2, .inl v_factSets)), (h_program, .inr (2, [.ref h_program_bodies, .int v_program_count])), (h_program_bodies, .inl (k_program_bodies, 2, .inl v_program_bodies)), (h_deduction, .inr (0, [.ref h_deduction_factChoices, .ref h_deduction_givenInRound, .int v_deduction_givenPairs, .int v_deduction_roundCount])), (h_deduction_factChoices, .inl (k_deduction_factChoices, 18, .inr (.inl v_deduction_factChoices))), (h_deduction_givenInRound, .inl (k_deduction_givenInRound, 17, .inl v_deduction_givenInRound))]) [0, 1, 2, 3, 4, 5, 6] rfl
  have hDc := hD.sub (ws' := [(h_o, .inr (3, [.ref h_line, .ref h_factSets, .int v_markedPlus, .int v_markedMinus, .ref h_program, .ref h_deduction])), (h_factSets, .inl (k_factSets, 2, .inl v_factSets)), (h_program, .inr (2, [.ref h_program_bodies, .int v_program_count])), (h_program_bodies, .inl (k_program_bodies, 2, .inl v_program_bodies)), (h_deduction, .inr (0, [.ref h_deduction_factChoices, .ref h_deduction_givenInRound, .int v_deduction_givenPairs, .int v_deduction_roundCount])), (h_deduction_factChoices, .inl (k_deduction_factChoices, 18, .inr (.inl v_deduction_factChoices))), (h_deduction_givenInRound, .inl (k_deduction_givenInRound, 17, .inl v_deduction_givenInRound))]) [0, 1, 2, 3, 4, 5, 6] (by decide) rfl
  have hKc := hK.sub (tys' := [(k_factSets, .int), (k_program_bodies, .int), (k_deduction_factChoices, .long), (k_deduction_givenInRound, .int)]) [0, 1, 2, 3] rfl
  have hFc := va_free (wc := [(h_o, .inr (3, [.ref h_line, .ref h_factSets, .int v_markedPlus, .int v_markedMinus, .ref h_program, .ref h_deduction])), (h_factSets, .inl (k_factSets, 2, .inl v_factSets)), (h_program, .inr (2, [.ref h_program_bodies, .int v_program_count])), (h_program_bodies, .inl (k_program_bodies, 2, .inl v_program_bodies)), (h_deduction, .inr (0, [.ref h_deduction_factChoices, .ref h_deduction_givenInRound, .int v_deduction_givenPairs, .int v_deduction_roundCount])), (h_deduction_factChoices, .inl (k_deduction_factChoices, 18, .inr (.inl v_deduction_factChoices))), (h_deduction_givenInRound, .inl (k_deduction_givenInRound, 17, .inl v_deduction_givenInRound))]) hD hS hA [0, 1, 2, 3, 4, 5, 6] rfl
  obtain ⟨v_1, hc_1, h⟩ := of_bind h
  refine va_callv (va_runV (As := []) (rest := []) ⟨hx, hb, hml, hown, hts⟩ (c_H_deduceProgram l dC dI h_o h_line h_factSets h_program h_deduction h_program_bodies h_deduction_factChoices h_deduction_givenInRound k_factSets k_program_bodies k_deduction_factChoices k_deduction_givenInRound tb ak av H.size v_markedPlus v_markedMinus v_factSets v_program_count v_program_bodies v_deduction_givenPairs v_deduction_roundCount v_deduction_factChoices v_deduction_givenInRound  v_1 hc_1) (cwV 0 hts (gV mlk_H_94 ins_H_deduceProgram sel_H_deduceProgram ini_H cod_H_deduceProgram) rfl rfl rfl (by decide +kernel) ⟨Nat.le_of_ble_eq_true rfl, Nat.le_of_ble_eq_true rfl⟩) ⟨fun a U g mk q => by obtain ⟨q0, q1, qP, qK, qD, qC⟩ := q; exact ⟨q0, q1, qP, va_K.moved (u := U) (U := U.calling g mk a) (Vm.Alike.refl U.vm) qK, qD, kw_blind qC⟩, va_recv hKc hPc (ci := 3) (q0 := 0) rfl rfl, fun U hU hW => ⟨rfl, by rw [hU], by rw [hU]; exact hPc, va_K.moved hW.alike hKc, hDc.weaken (fun _ _ _ _ => trivial), kw_call hC hS hFc hU hW⟩⟩ rfl rfl hl.1 rfl (lv_room (Nat.le_of_ble_eq_true rfl)) d_H_fits_1 ⟨Nat.le_of_ble_eq_true rfl, Nat.le_of_ble_eq_true rfl⟩) hS (fun q _ h9 => hFc q h9) hFc (fun u t H1 locs ht hvm hw hB hz1 hk1 hS => ?_)
  obtain rfl := (Eq.symm hw)
  obtain ⟨hP1, hK1, hD1⟩ := hB
  rw [ht] at hP1
  obtain ⟨hP, hD⟩ := va_join (wr := []) (w1 := [(h_o, .inr (3, [.ref h_line, .ref h_factSets, .int v_markedPlus, .int v_markedMinus, .ref h_program, .ref h_deduction])), (h_factSets, .inl (k_factSets, 2, .inl v_factSets)), (h_program, .inr (2, [.ref h_program_bodies, .int v_program_count])), (h_program_bodies, .inl (k_program_bodies, 2, .inl v_program_bodies)), (h_deduction, .inr (0, [.ref h_deduction_factChoices, .ref h_deduction_givenInRound, .int v_1.1, .int v_1.2.1])), (h_deduction_factChoices, .inl (k_deduction_factChoices, 18, .inr (.inl v_1.2.2.1))), (h_deduction_givenInRound, .inl (k_deduction_givenInRound, 17, .inl v_1.2.2.2))]) hP hD [0, 1, 2, 3, 4, 5, 6] [] rfl rfl (by decide) (by decide) hk1 hFc hP1 hD1
  have hP := hP.sub (ws' := [(h_o, .inr (3, [.ref h_line, .ref h_factSets, .int v_markedPlus, .int v_markedMinus, .ref h_program, .ref h_deduction])), (h_factSets, .inl (k_factSets, 2, .inl v_factSets)), (h_program, .inr (2, [.ref h_program_bodies, .int v_program_count])), (h_program_bodies, .inl (k_program_bodies, 2, .inl v_program_bodies)), (h_deduction, .inr (0, [.ref h_deduction_factChoices, .ref h_deduction_givenInRound, .int v_1.1, .int v_1.2.1])), (h_deduction_factChoices, .inl (k_deduction_factChoices, 18, .inr (.inl v_1.2.2.1))), (h_deduction_givenInRound, .inl (k_deduction_givenInRound, 17, .inl v_1.2.2.2))]) [0, 1, 2, 3, 4, 5, 6] rfl
  have hD := hD.sub (ws' := [(h_o, .inr (3, [.ref h_line, .ref h_factSets, .int v_markedPlus, .int v_markedMinus, .ref h_program, .ref h_deduction])), (h_factSets, .inl (k_factSets, 2, .inl v_factSets)), (h_program, .inr (2, [.ref h_program_bodies, .int v_program_count])), (h_program_bodies, .inl (k_program_bodies, 2, .inl v_program_bodies)), (h_deduction, .inr (0, [.ref h_deduction_factChoices, .ref h_deduction_givenInRound, .int v_1.1, .int v_1.2.1])), (h_deduction_factChoices, .inl (k_deduction_factChoices, 18, .inr (.inl v_1.2.2.1))), (h_deduction_givenInRound, .inl (k_deduction_givenInRound, 17, .inl v_1.2.2.2))]) [0, 1, 2, 3, 4, 5, 6] (by decide) rfl
  generalize H1 = H at hP hS ⊢
  refine lv_aload_n hx hb d_H_fits_4 rfl (lv_at hl 0 rfl) ?_
  have hPc := hP.sub (ws' := [(h_o, .inr (3, [.ref h_line, .ref h_factSets, .int v_markedPlus, .int v_markedMinus, .ref h_program, .ref h_deduction])), (h_deduction, .inr (0, [.ref h_deduction_factChoices, .ref h_deduction_givenInRound, .int v_1.1, .int v_1.2.1]))]) [0, 4] rfl
  have hDc := hD.sub (ws' := [(h_o, .inr (3, [.ref h_line, .ref h_factSets, .int v_markedPlus, .int v_markedMinus, .ref h_program, .ref h_deduction])), (h_deduction, .inr (0, [.ref h_deduction_factChoices, .ref h_deduction_givenInRound, .int v_1.1, .int v_1.2.1]))]) [0, 4] (by decide) rfl
  have hKc := hK.sub (tys' := []) [] rfl
  have hFc := va_free (wc := [(h_o, .inr (3, [.ref h_line, .ref h_factSets, .int v_markedPlus, .int v_markedMinus, .ref h_program, .ref h_deduction])), (h_deduction, .inr (0, [.ref h_deduction_factChoices, .ref h_deduction_givenInRound, .int v_1.1, .int v_1.2.1]))]) hD hS hA [0, 4] rfl
  obtain ⟨v_5, hc_5, h⟩ := of_bind h
  refine va_calli (va_runV (As := []) (rest := []) ⟨hx, hb, hml, hown, hts⟩ (c_H_deductionFits l dC dI h_o h_line h_factSets h_program h_deduction h_deduction_factChoices h_deduction_givenInRound H.size v_markedPlus v_markedMinus v_1.1 v_1.2.1 v_5.1 v_5.2 hc_5) (cwV 0 hts (gV mlk_H_103 ins_H_deductionFits sel_H_deductionFits ini_H cod_H_deductionFits) rfl rfl rfl (by decide +kernel) ⟨Nat.le_of_ble_eq_true rfl, Nat.le_of_ble_eq_true rfl⟩) ⟨fun a U g mk q => by obtain ⟨q0, q1, qP, qK, qD⟩ := q; exact ⟨q0, q1, qP, va_K.moved (u := U) (U := U.calling g mk a) (Vm.Alike.refl U.vm) qK, qD⟩, va_recv hKc hPc (ci := 3) (q0 := 0) rfl rfl, fun U hU hW => ⟨rfl, by rw [hU], by rw [hU]; exact hPc, va_K.moved hW.alike hKc, hDc.weaken (fun _ _ _ _ => trivial)⟩⟩ rfl rfl hl.1 rfl (lv_room (Nat.le_of_ble_eq_true rfl)) d_H_fits_5 ⟨Nat.le_of_ble_eq_true rfl, Nat.le_of_ble_eq_true rfl⟩) hS (fun q _ h9 => hFc q h9) hFc (fun r_5 u t H1 locs ht hvm hw hB hz1 hk1 hS => ?_)
  obtain ⟨rfl, rfl⟩ := hw
  obtain ⟨hP1, hK1, hD1⟩ := hB
  rw [ht] at hP1
  obtain ⟨hP, hD⟩ := va_join (wr := [(h_factSets, .inl (k_factSets, 2, .inl v_factSets)), (h_program, .inr (2, [.ref h_program_bodies, .int v_program_count])), (h_program_bodies, .inl (k_program_bodies, 2, .inl v_program_bodies)), (h_deduction_factChoices, .inl (k_deduction_factChoices, 18, .inr (.inl v_1.2.2.1))), (h_deduction_givenInRound, .inl (k_deduction_givenInRound, 17, .inl v_1.2.2.2))]) (w1 := [(h_o, .inr (3, [.ref h_line, .ref h_factSets, .int v_markedPlus, .int v_markedMinus, .ref h_program, .ref h_deduction])), (h_deduction, .inr (0, [.ref h_deduction_factChoices, .ref h_deduction_givenInRound, .int v_1.1, .int v_1.2.1]))]) hP hD [0, 4] [1, 2, 3, 5, 6] rfl rfl (by decide) (by decide) hk1 hFc hP1 hD1
  have hP := hP.sub (ws' := [(h_o, .inr (3, [.ref h_line, .ref h_factSets, .int v_markedPlus, .int v_markedMinus, .ref h_program, .ref h_deduction])), (h_factSets, .inl (k_factSets, 2, .inl v_factSets)), (h_program, .inr (2, [.ref h_program_bodies, .int v_program_count])), (h_program_bodies, .inl (k_program_bodies, 2, .inl v_program_bodies)), (h_deduction, .inr (0, [.ref h_deduction_factChoices, .ref h_deduction_givenInRound, .int v_1.1, .int v_1.2.1])), (h_deduction_factChoices, .inl (k_deduction_factChoices, 18, .inr (.inl v_1.2.2.1))), (h_deduction_givenInRound, .inl (k_deduction_givenInRound, 17, .inl v_1.2.2.2))]) [5, 0, 1, 2, 6, 3, 4] rfl
  have hD := hD.sub (ws' := [(h_o, .inr (3, [.ref h_line, .ref h_factSets, .int v_markedPlus, .int v_markedMinus, .ref h_program, .ref h_deduction])), (h_factSets, .inl (k_factSets, 2, .inl v_factSets)), (h_program, .inr (2, [.ref h_program_bodies, .int v_program_count])), (h_program_bodies, .inl (k_program_bodies, 2, .inl v_program_bodies)), (h_deduction, .inr (0, [.ref h_deduction_factChoices, .ref h_deduction_givenInRound, .int v_1.1, .int v_1.2.1])), (h_deduction_factChoices, .inl (k_deduction_factChoices, 18, .inr (.inl v_1.2.2.1))), (h_deduction_givenInRound, .inl (k_deduction_givenInRound, 17, .inl v_1.2.2.2))]) [5, 0, 1, 2, 6, 3, 4] (by decide) rfl
  generalize H1 = H at hP hS ⊢
  obtain ⟨g_8, h⟩ := of_guard h
  rw [hQ]
  exact W.zret (v := v_5.1) hx hb hr (nrz g_8) (fun t ht hW => ⟨⟨v_5.1, (v_1.1, v_1.2.1, v_1.2.2.1, v_1.2.2.2), rfl, Prod.mk.inj (Option.some.inj h), by rw [ht]; exact hP, va_K.moved hW.alike hK, hD⟩, hS.F ht⟩) hS.2.2 d_H_fits_8
set_option maxHeartbeats 1000000 in
set_option maxRecDepth 100000 in
theorem c_H_changeFacts (l : Launch) (dC : Nat → ClassId) (dI : Nat → Nat → Nat) (h_o h_line h_factSets h_program h_deduction : Nat) (k_factSets : ClassId) (sz : Nat) (v_markedPlus : Int32) (v_markedMinus : Int32) (v_factSets : Nat → Int32) (x1 : Int32) (x2 : Int32) (x3 : Int32) (r0 : Int32) (u0 : (Nat → Int32)) (h : m_H_changeFacts v_factSets x1 x2 x3 = some (r0, u0)) : Met l y_H_changeFacts w_H_changeFacts ({ frames := 1, cells := 0, slots := 0, locals := 20 } : Room) (va_Pc [.ref h_o, .int x1, .int x2, .int x3] (fun U => U.heap.size = sz ∧ va_P (dC, dI) classes [(h_o, .inr (3, [.ref h_line, .ref h_factSets, .int v_markedPlus, .int v_markedMinus, .ref h_program, .ref h_deduction])), (h_factSets, .inl (k_factSets, 2, .inl v_factSets))] U.heap ∧ va_K (dC, dI) classes [(k_factSets, .int)] U ∧ va_D (fun _ => True) [(h_o, .inr (3, [.ref h_line, .ref h_factSets, .int v_markedPlus, .int v_markedMinus, .ref h_program, .ref h_deduction])), (h_factSets, .inl (k_factSets, 2, .inl v_factSets))])) (va_Qi (fun (r : Int32) (u : (Nat → Int32)) => r = r0 ∧ u = u0) (fun (u : (Nat → Int32)) (t : State) => va_P (dC, dI) classes [(h_o, .inr (3, [.ref h_line, .ref h_factSets, .int v_markedPlus, .int v_markedMinus, .ref h_program, .ref h_deduction])), (h_factSets, .inl (k_factSets, 2, .inl u))] t.heap ∧ va_K (dC, dI) classes [(k_factSets, .int)] t ∧ va_D (va_A [(h_o, .inr (3, [.ref h_line, .ref h_factSets, .int v_markedPlus, .int v_markedMinus, .ref h_program, .ref h_deduction])), (h_factSets, .inl (k_factSets, 2, .inl v_factSets))] sz) [(h_o, .inr (3, [.ref h_line, .ref h_factSets, .int v_markedPlus, .int v_markedMinus, .ref h_program, .ref h_deduction])), (h_factSets, .inl (k_factSets, 2, .inl u))]) (va_A [(h_o, .inr (3, [.ref h_line, .ref h_factSets, .int v_markedPlus, .int v_markedMinus, .ref h_program, .ref h_deduction])), (h_factSets, .inl (k_factSets, 2, .inl v_factSets))] sz)) 0 0 (va_A [(h_o, .inr (3, [.ref h_line, .ref h_factSets, .int v_markedPlus, .int v_markedMinus, .ref h_program, .ref h_deduction])), (h_factSets, .inl (k_factSets, 2, .inl v_factSets))] sz) := by
  refine Met.ofW (cc := b_H_changeFacts) (maxL := 5) (ret := (some .int)) (by decide) rfl ?_
  intro p e s m args below meth c s₁ B hml hv
  obtain ⟨rfl, hsz, hP, hK, hD0⟩ := hv
  have hx := B.exec
  have hb := B.bytes
  have hr := B.returns
  have hts0 := atoms_spec (ws := w_H_changeFacts) B.pre
  have hts : ∀ w ∈ lw_gd, w.before ([.ref h_o, .int x1, .int x2, .int x3] : List Value).toArray s = true := fun w h9 => hts0 w (List.mem_cons_of_mem _ h9)
  have hown : s.vm.findClass R_H = some m.cls := findClass_of_methodNamed B.named
  have hlocks := B.notSynchronized
  subst hsz
  have hD := hD0.self (sz := s.heap.size)
  generalize hAe : va_A [(h_o, .inr (3, [.ref h_line, .ref h_factSets, .int v_markedPlus, .int v_markedMinus, .ref h_program, .ref h_deduction])), (h_factSets, .inl (k_factSets, 2, .inl v_factSets))] s.heap.size = A at hD ⊢
  have hA : ∀ q : Nat, s.heap.size ≤ q → A q := fun q h9 => by rw [← hAe]; exact Or.inr h9
  obtain ⟨H, eH⟩ : ∃ H : Heap, H = s.heap := ⟨_, rfl⟩
  have hS : va_S A s.heap H [] := by rw [eH]; exact va_S.rf
  have hP : va_P (dC, dI) classes [(h_o, .inr (3, [.ref h_line, .ref h_factSets, .int v_markedPlus, .int v_markedMinus, .ref h_program, .ref h_deduction])), (h_factSets, .inl (k_factSets, 2, .inl v_factSets))] H := by rw [eH]; exact hP
  refine W_gen (fun Q hQ => ?_)
  refine W_heap eH ?_
  clear eH
  have hl := lv_entry ([.ref h_o, .int x1, .int x2, .int x3]) (n := 5) (Nat.le_of_ble_eq_true rfl)
  rw [lg_entry_eq]
  generalize (lg_sl ([.ref h_o, .int x1, .int x2, .int x3]) ++ List.replicate (5 - (lg_sl ([.ref h_o, .int x1, .int x2, .int x3])).length) Slot.unset).toArray = ls at hl ⊢
  have hl : lv_has ls 5 [(0, .ref h_o), (1, .int x1), (2, .int x2), (3, .int x3)] := hl
  have J_39 : ∀ (v_factSets : Nat → Int32) (z1 : Int32) (z4 : Int32) (y0 : Int32) (y1 : Int32), m_H_changeFacts_39 v_factSets z1 z4 y0 y1 = some (r0, u0) → ∀ (H : Heap) (locs : List Loc), va_P (dC, dI) classes [(h_o, .inr (3, [.ref h_line, .ref h_factSets, .int v_markedPlus, .int v_markedMinus, .ref h_program, .ref h_deduction])), (h_factSets, .inl (k_factSets, 2, .inl v_factSets))] H → va_D A [(h_o, .inr (3, [.ref h_line, .ref h_factSets, .int v_markedPlus, .int v_markedMinus, .ref h_program, .ref h_deduction])), (h_factSets, .inl (k_factSets, 2, .inl v_factSets))] → va_S A s.heap H locs → ∀ (ls : Array Slot), lv_has ls 5 [(0, .ref h_o), (1, .int z1), (4, .int z4)] → W p l e (headSpec w_H_changeFacts ({ frames := 1, cells := 0, slots := 0, locals := 20 } : Room)).room s m ([.ref h_o, .int x1, .int x2, .int x3] : List Value).toArray below meth c H locs 0 0 Q (F0 m 39 ls [.int y0, .int y1, .ref h_factSets]) := by
    intro v_factSets z1 z4 y0 y1 h H locs hP hD hS ls hl
    unfold m_H_changeFacts_39 at h
    obtain ⟨g_39, h⟩ := of_guard h
    refine va_iast hx hb hK hP hD hS 1 0 rfl rfl (inR_in g_39) d_H_changeFacts_39 (fun H locs hP hD hS => ?_)
    have hP : va_P (dC, dI) classes [(h_o, .inr (3, [.ref h_line, .ref h_factSets, .int v_markedPlus, .int v_markedMinus, .ref h_program, .ref h_deduction])), (h_factSets, .inl (k_factSets, 2, .inl (upd v_factSets y1.toNatClampNeg y0)))] H := hP
    have hD : va_D A [(h_o, .inr (3, [.ref h_line, .ref h_factSets, .int v_markedPlus, .int v_markedMinus, .ref h_program, .ref h_deduction])), (h_factSets, .inl (k_factSets, 2, .inl (upd v_factSets y1.toNatClampNeg y0)))] := hD
    refine lv_aload_n hx hb d_H_changeFacts_40 rfl (lv_at hl 0 rfl) ?_
    refine va_get (D := (dC, dI)) (ci := 3) (v := .ref h_factSets) (C := R_H) (T := F_H) (N := 6) hx hb hts lay_H hown hK hP 0 rfl rfl 1 (by decide) (hts _ flk_H_16) (fun _ h9 => h9) rfl d_H_changeFacts_41 ?_
    refine lv_iload_n hx hb d_H_changeFacts_44 rfl (lv_at hl 1 rfl) ?_
    obtain ⟨g_45, h⟩ := of_guard h
    refine va_iald hx hb hK hP 1 0 rfl rfl (inR_in g_45) d_H_changeFacts_45 ?_
    refine lv_iload hx hb d_H_changeFacts_46 (lv_at hl 2 rfl) ?_
    refine lv_icmp_ne (tgt := 55) hx hb d_H_changeFacts_48 (by decide) (fun c_48 => ?_) (fun c_48 => ?_)
    · have h := of_neg h c_48
      refine lv_iconst (v := (nI 1)) hx hb d_H_changeFacts_55 (by decide) ?_
      rw [hQ]
      exact W.iret (v := (nI 1)) hx hb hr (fun t ht hW => ⟨⟨(nI 1), upd v_factSets y1.toNatClampNeg y0, rfl, Prod.mk.inj (Option.some.inj h), by rw [ht]; exact hP, va_K.moved hW.alike hK, hD⟩, hS.F ht⟩) hS.2.2 d_H_changeFacts_56
    · have h := of_pos h c_48
      refine lv_iconst (v := (nI 0)) hx hb d_H_changeFacts_51 (by decide) ?_
      refine lv_goto (tgt := 56) hx hb d_H_changeFacts_52 (by decide) ?_
      rw [hQ]
      exact W.iret (v := (nI 0)) hx hb hr (fun t ht hW => ⟨⟨(nI 0), upd v_factSets y1.toNatClampNeg y0, rfl, Prod.mk.inj (Option.some.inj h), by rw [ht]; exact hP, va_K.moved hW.alike hK, hD⟩, hS.F ht⟩) hS.2.2 d_H_changeFacts_56
  unfold m_H_changeFacts at h
  refine lv_iload_n hx hb d_H_changeFacts_0 rfl (lv_at hl 1 rfl) ?_
  have hPc := hP.sub (ws' := []) [] rfl
  have hDc := hD.sub (ws' := []) [] (by decide) rfl
  have hKc := hK.sub (tys' := []) [] rfl
  have hFc := va_free (wc := []) hD hS hA [] rfl
  obtain ⟨v_1, hc_1, h⟩ := of_bind h
  refine va_calli (va_runS (As := [.int x1]) (rest := []) ⟨hx, hb, hml, hown, hts⟩ (c_H_isFactRelation l dC dI H.size x1 v_1.1 v_1.2 hc_1) (va_cwS 1 hts (gS mlk_H_63 sta_H_isFactRelation ini_H cod_H_isFactRelation) rfl rfl rfl (by decide +kernel) ⟨Nat.le_of_ble_eq_true rfl, Nat.le_of_ble_eq_true rfl⟩) ⟨fun a U g mk q => by obtain ⟨q0, q1, qP, qK, qD⟩ := q; exact ⟨q0, q1, qP, va_K.moved (u := U) (U := U.calling g mk a) (Vm.Alike.refl U.vm) qK, qD⟩, fun U hU hW => ⟨rfl, by rw [hU], by rw [hU]; exact hPc, va_K.moved hW.alike hKc, hDc.weaken (fun _ _ _ _ => trivial)⟩⟩ rfl rfl hl.1 rfl (lv_room (Nat.le_of_ble_eq_true rfl)) d_H_changeFacts_1 ⟨Nat.le_of_ble_eq_true rfl, Nat.le_of_ble_eq_true rfl⟩) hS (fun q _ h9 => hFc q h9) hFc (fun r_1 u t H1 locs ht hvm hw hB hz1 hk1 hS => ?_)
  obtain ⟨rfl, rfl⟩ := hw
  obtain ⟨hP1, hK1, hD1⟩ := hB
  rw [ht] at hP1
  obtain ⟨hP, hD⟩ := va_join (wr := [(h_o, .inr (3, [.ref h_line, .ref h_factSets, .int v_markedPlus, .int v_markedMinus, .ref h_program, .ref h_deduction])), (h_factSets, .inl (k_factSets, 2, .inl v_factSets))]) (w1 := []) hP hD [] [0, 1] rfl rfl (by decide) (by decide) hk1 hFc hP1 hD1
  have hP := hP.sub (ws' := [(h_o, .inr (3, [.ref h_line, .ref h_factSets, .int v_markedPlus, .int v_markedMinus, .ref h_program, .ref h_deduction])), (h_factSets, .inl (k_factSets, 2, .inl v_factSets))]) [0, 1] rfl
  have hD := hD.sub (ws' := [(h_o, .inr (3, [.ref h_line, .ref h_factSets, .int v_markedPlus, .int v_markedMinus, .ref h_program, .ref h_deduction])), (h_factSets, .inl (k_factSets, 2, .inl v_factSets))]) [0, 1] (by decide) rfl
  generalize H1 = H at hP hS ⊢
  refine lv_if_ne (tgt := 9) hx hb d_H_changeFacts_4 (by decide) (fun c_4 => ?_) (fun c_4 => ?_)
  · have h := of_neg h c_4
    refine lv_aload_n hx hb d_H_changeFacts_9 rfl (lv_at hl 0 rfl) ?_
    refine va_get (D := (dC, dI)) (ci := 3) (v := .ref h_factSets) (C := R_H) (T := F_H) (N := 6) hx hb hts lay_H hown hK hP 0 rfl rfl 1 (by decide) (hts _ flk_H_16) (fun _ h9 => h9) rfl d_H_changeFacts_10 ?_
    refine lv_iload_n hx hb d_H_changeFacts_13 rfl (lv_at hl 1 rfl) ?_
    obtain ⟨g_14, h⟩ := of_guard h
    refine va_iald hx hb hK hP 1 0 rfl rfl (inR_in g_14) d_H_changeFacts_14 ?_
    refine lv_istore (lv' := [(4, .int (v_factSets x1.toNatClampNeg)), (0, .ref h_o), (1, .int x1), (2, .int x2), (3, .int x3)]) hx hb d_H_changeFacts_15 hl (by decide) rfl (fun ls hl => ?_)
    refine lv_aload_n hx hb d_H_changeFacts_17 rfl (lv_at hl 1 rfl) ?_
    refine va_get (D := (dC, dI)) (ci := 3) (v := .ref h_factSets) (C := R_H) (T := F_H) (N := 6) hx hb hts lay_H hown hK hP 0 rfl rfl 1 (by decide) (hts _ flk_H_16) (fun _ h9 => h9) rfl d_H_changeFacts_18 ?_
    refine lv_iload_n hx hb d_H_changeFacts_21 rfl (lv_at hl 2 rfl) ?_
    refine lv_iload_n hx hb d_H_changeFacts_22 rfl (lv_at hl 4 rfl) ?_
    refine lv_if_eq (tgt := 33) hx hb d_H_changeFacts_23 (by decide) (fun c_23 => ?_) (fun c_23 => ?_)
    · have h := of_pos h c_23
      refine lv_iload hx hb d_H_changeFacts_33 (lv_at hl 0 rfl) ?_
      refine lv_iload_n hx hb d_H_changeFacts_35 rfl (lv_at hl 3 rfl) ?_
      refine lv_iconst (v := (-1 : Int32)) hx hb d_H_changeFacts_36 (by decide) ?_
      refine lv_ixor hx hb d_H_changeFacts_37 ?_
      refine lv_iand hx hb d_H_changeFacts_38 ?_
      exact J_39 v_factSets x1 (v_factSets x1.toNatClampNeg) ((v_factSets x1.toNatClampNeg) &&& (x2 ^^^ (-1 : Int32))) x1 h _ _ hP hD hS ls (lv_sub hl [1, 2, 0] rfl)
    · have h := of_neg h c_23
      refine lv_iload hx hb d_H_changeFacts_26 (lv_at hl 0 rfl) ?_
      refine lv_iload_n hx hb d_H_changeFacts_28 rfl (lv_at hl 3 rfl) ?_
      refine lv_ior hx hb d_H_changeFacts_29 ?_
      refine lv_goto (tgt := 39) hx hb d_H_changeFacts_30 (by decide) ?_
      exact J_39 v_factSets x1 (v_factSets x1.toNatClampNeg) ((v_factSets x1.toNatClampNeg) ||| x2) x1 h _ _ hP hD hS ls (lv_sub hl [1, 2, 0] rfl)
  · have h := of_pos h c_4
    refine lv_iconst (v := (nI 0)) hx hb d_H_changeFacts_7 (by decide) ?_
    rw [hQ]
    exact W.iret (v := (nI 0)) hx hb hr (fun t ht hW => ⟨⟨(nI 0), v_factSets, rfl, Prod.mk.inj (Option.some.inj h), by rw [ht]; exact hP, va_K.moved hW.alike hK, hD⟩, hS.F ht⟩) hS.2.2 d_H_changeFacts_8
set_option maxHeartbeats 1000000 in
set_option maxRecDepth 100000 in
theorem c_H_changeMarks (l : Launch) (dC : Nat → ClassId) (dI : Nat → Nat → Nat) (h_o h_line h_factSets h_program h_deduction : Nat) (sz : Nat) (v_markedPlus : Int32) (v_markedMinus : Int32) (x1 : Int32) (x2 : Int32) (r0 : Int32) (u0 : Int32 × Int32) (h : m_H_changeMarks v_markedPlus v_markedMinus x1 x2 = some (r0, u0)) : Met l y_H_changeMarks w_H_changeMarks ({ frames := 0, cells := 0, slots := 0, locals := 0 } : Room) (va_Pc [.ref h_o, .int x1, .int x2] (fun U => U.heap.size = sz ∧ va_P (dC, dI) classes [(h_o, .inr (3, [.ref h_line, .ref h_factSets, .int v_markedPlus, .int v_markedMinus, .ref h_program, .ref h_deduction]))] U.heap ∧ va_K (dC, dI) classes [] U ∧ va_D (fun _ => True) [(h_o, .inr (3, [.ref h_line, .ref h_factSets, .int v_markedPlus, .int v_markedMinus, .ref h_program, .ref h_deduction]))])) (va_Qi (fun (r : Int32) (u : Int32 × Int32) => r = r0 ∧ u = u0) (fun (u : Int32 × Int32) (t : State) => va_P (dC, dI) classes [(h_o, .inr (3, [.ref h_line, .ref h_factSets, .int u.1, .int u.2, .ref h_program, .ref h_deduction]))] t.heap ∧ va_K (dC, dI) classes [] t ∧ va_D (va_A [(h_o, .inr (3, [.ref h_line, .ref h_factSets, .int v_markedPlus, .int v_markedMinus, .ref h_program, .ref h_deduction]))] sz) [(h_o, .inr (3, [.ref h_line, .ref h_factSets, .int u.1, .int u.2, .ref h_program, .ref h_deduction]))]) (va_A [(h_o, .inr (3, [.ref h_line, .ref h_factSets, .int v_markedPlus, .int v_markedMinus, .ref h_program, .ref h_deduction]))] sz)) 0 0 (va_A [(h_o, .inr (3, [.ref h_line, .ref h_factSets, .int v_markedPlus, .int v_markedMinus, .ref h_program, .ref h_deduction]))] sz) := by
  refine Met.ofW (cc := b_H_changeMarks) (maxL := 4) (ret := (some .int)) (by decide) rfl ?_
  intro p e s m args below meth c s₁ B hml hv
  obtain ⟨rfl, hsz, hP, hK, hD0⟩ := hv
  have hx := B.exec
  have hb := B.bytes
  have hr := B.returns
  have hts0 := atoms_spec (ws := w_H_changeMarks) B.pre
  have hts : ∀ w ∈ lw_gd, w.before ([.ref h_o, .int x1, .int x2] : List Value).toArray s = true := fun w h9 => hts0 w (List.mem_cons_of_mem _ h9)
  have hown : s.vm.findClass R_H = some m.cls := findClass_of_methodNamed B.named
  have hlocks := B.notSynchronized
  subst hsz
  have hD := hD0.self (sz := s.heap.size)
  generalize hAe : va_A [(h_o, .inr (3, [.ref h_line, .ref h_factSets, .int v_markedPlus, .int v_markedMinus, .ref h_program, .ref h_deduction]))] s.heap.size = A at hD ⊢
  have hA : ∀ q : Nat, s.heap.size ≤ q → A q := fun q h9 => by rw [← hAe]; exact Or.inr h9
  obtain ⟨H, eH⟩ : ∃ H : Heap, H = s.heap := ⟨_, rfl⟩
  have hS : va_S A s.heap H [] := by rw [eH]; exact va_S.rf
  have hP : va_P (dC, dI) classes [(h_o, .inr (3, [.ref h_line, .ref h_factSets, .int v_markedPlus, .int v_markedMinus, .ref h_program, .ref h_deduction]))] H := by rw [eH]; exact hP
  refine W_gen (fun Q hQ => ?_)
  refine W_heap eH ?_
  clear eH
  have hl := lv_entry ([.ref h_o, .int x1, .int x2]) (n := 4) (Nat.le_of_ble_eq_true rfl)
  rw [lg_entry_eq]
  generalize (lg_sl ([.ref h_o, .int x1, .int x2]) ++ List.replicate (4 - (lg_sl ([.ref h_o, .int x1, .int x2])).length) Slot.unset).toArray = ls at hl ⊢
  have hl : lv_has ls 4 [(0, .ref h_o), (1, .int x1), (2, .int x2)] := hl
  have J_21 : ∀ (v_markedPlus : Int32) (v_markedMinus : Int32) (z1 : Int32) (z2 : Int32) (y0 : Int32), m_H_changeMarks_21 v_markedPlus v_markedMinus z1 z2 y0 = some (r0, u0) → ∀ (H : Heap) (locs : List Loc), va_P (dC, dI) classes [(h_o, .inr (3, [.ref h_line, .ref h_factSets, .int v_markedPlus, .int v_markedMinus, .ref h_program, .ref h_deduction]))] H → va_D A [(h_o, .inr (3, [.ref h_line, .ref h_factSets, .int v_markedPlus, .int v_markedMinus, .ref h_program, .ref h_deduction]))] → va_S A s.heap H locs → ∀ (ls : Array Slot), lv_has ls 4 [(0, .ref h_o), (1, .int z1), (2, .int z2)] → W p l e (headSpec w_H_changeMarks ({ frames := 0, cells := 0, slots := 0, locals := 0 } : Room)).room s m ([.ref h_o, .int x1, .int x2] : List Value).toArray below meth c H locs 0 0 Q (F0 m 21 ls [.int y0]) := by
    intro v_markedPlus v_markedMinus z1 z2 y0 h H locs hP hD hS ls hl
    unfold m_H_changeMarks_21 at h
    refine lv_istore_n (lv' := [(3, .int y0), (0, .ref h_o), (1, .int z1), (2, .int z2)]) hx hb d_H_changeMarks_21 rfl hl (by decide) rfl (fun ls hl => ?_)
    refine lv_aload_n hx hb d_H_changeMarks_22 rfl (lv_at hl 1 rfl) ?_
    refine lv_iload_n hx hb d_H_changeMarks_23 rfl (lv_at hl 2 rfl) ?_
    refine va_put (D := (dC, dI)) (ci := 3) (v := .int z1) (ty := .int) (C := R_H) (T := F_H) (N := 6) hx hb hts lay_H t_H t_H_ok n_H hown hK hP hD hS 0 rfl rfl 2 (by decide) (hts _ flk_H_20) (fun _ h9 => h9) rfl (by decide +kernel) rfl rfl (Nat.le_of_ble_eq_true rfl) d_H_changeMarks_24 (fun H locs hP hD hS => ?_)
    have hP : va_P (dC, dI) classes [(h_o, .inr (3, [.ref h_line, .ref h_factSets, .int z1, .int v_markedMinus, .ref h_program, .ref h_deduction]))] H := hP
    have hD : va_D A [(h_o, .inr (3, [.ref h_line, .ref h_factSets, .int z1, .int v_markedMinus, .ref h_program, .ref h_deduction]))] := hD
    refine lv_aload_n hx hb d_H_changeMarks_27 rfl (lv_at hl 1 rfl) ?_
    refine lv_iload_n hx hb d_H_changeMarks_28 rfl (lv_at hl 3 rfl) ?_
    refine va_put (D := (dC, dI)) (ci := 3) (v := .int z2) (ty := .int) (C := R_H) (T := F_H) (N := 6) hx hb hts lay_H t_H t_H_ok n_H hown hK hP hD hS 0 rfl rfl 3 (by decide) (hts _ flk_H_24) (fun _ h9 => h9) rfl (by decide +kernel) rfl rfl (Nat.le_of_ble_eq_true rfl) d_H_changeMarks_29 (fun H locs hP hD hS => ?_)
    have hP : va_P (dC, dI) classes [(h_o, .inr (3, [.ref h_line, .ref h_factSets, .int z1, .int z2, .ref h_program, .ref h_deduction]))] H := hP
    have hD : va_D A [(h_o, .inr (3, [.ref h_line, .ref h_factSets, .int z1, .int z2, .ref h_program, .ref h_deduction]))] := hD
    refine lv_iload_n hx hb d_H_changeMarks_32 rfl (lv_at hl 0 rfl) ?_
    refine lv_if_eq (tgt := 40) hx hb d_H_changeMarks_33 (by decide) (fun c_33 => ?_) (fun c_33 => ?_)
    · have h := of_pos h c_33
      refine lv_iconst (v := (nI 1)) hx hb d_H_changeMarks_40 (by decide) ?_
      rw [hQ]
      exact W.iret (v := (nI 1)) hx hb hr (fun t ht hW => ⟨⟨(nI 1), (z1, z2), rfl, Prod.mk.inj (Option.some.inj h), by rw [ht]; exact hP, va_K.moved hW.alike hK, hD⟩, hS.F ht⟩) hS.2.2 d_H_changeMarks_41
    · have h := of_neg h c_33
      refine lv_iconst (v := (nI 0)) hx hb d_H_changeMarks_36 (by decide) ?_
      refine lv_goto (tgt := 41) hx hb d_H_changeMarks_37 (by decide) ?_
      rw [hQ]
      exact W.iret (v := (nI 0)) hx hb hr (fun t ht hW => ⟨⟨(nI 0), (z1, z2), rfl, Prod.mk.inj (Option.some.inj h), by rw [ht]; exact hP, va_K.moved hW.alike hK, hD⟩, hS.F ht⟩) hS.2.2 d_H_changeMarks_41
  have J_20 : ∀ (v_markedPlus : Int32) (v_markedMinus : Int32) (z1 : Int32) (z2 : Int32), m_H_changeMarks_20 v_markedPlus v_markedMinus z1 z2 = some (r0, u0) → ∀ (H : Heap) (locs : List Loc), va_P (dC, dI) classes [(h_o, .inr (3, [.ref h_line, .ref h_factSets, .int v_markedPlus, .int v_markedMinus, .ref h_program, .ref h_deduction]))] H → va_D A [(h_o, .inr (3, [.ref h_line, .ref h_factSets, .int v_markedPlus, .int v_markedMinus, .ref h_program, .ref h_deduction]))] → va_S A s.heap H locs → ∀ (ls : Array Slot), lv_has ls 4 [(0, .ref h_o), (1, .int z1), (2, .int z2)] → W p l e (headSpec w_H_changeMarks ({ frames := 0, cells := 0, slots := 0, locals := 0 } : Room)).room s m ([.ref h_o, .int x1, .int x2] : List Value).toArray below meth c H locs 0 0 Q (F0 m 20 ls []) := by
    intro v_markedPlus v_markedMinus z1 z2 h H locs hP hD hS ls hl
    unfold m_H_changeMarks_20 at h
    refine lv_iconst (v := (nI 0)) hx hb d_H_changeMarks_20 (by decide) ?_
    exact J_21 v_markedPlus v_markedMinus z1 z2 (nI 0) h _ _ hP hD hS ls (lv_sub hl [0, 1, 2] rfl)
  unfold m_H_changeMarks at h
  refine lv_iload_n hx hb d_H_changeMarks_0 rfl (lv_at hl 1 rfl) ?_
  refine lv_aload_n hx hb d_H_changeMarks_1 rfl (lv_at hl 0 rfl) ?_
  refine va_get (D := (dC, dI)) (ci := 3) (v := .int v_markedPlus) (C := R_H) (T := F_H) (N := 6) hx hb hts lay_H hown hK hP 0 rfl rfl 2 (by decide) (hts _ flk_H_20) (fun _ h9 => h9) rfl d_H_changeMarks_2 ?_
  refine lv_icmp_ne (tgt := 20) hx hb d_H_changeMarks_5 (by decide) (fun c_5 => ?_) (fun c_5 => ?_)
  · have h := of_neg h c_5
    exact J_20 v_markedPlus v_markedMinus x1 x2 h _ _ hP hD hS ls (lv_sub hl [0, 1, 2] rfl)
  · have h := of_pos h c_5
    refine lv_iload_n hx hb d_H_changeMarks_8 rfl (lv_at hl 2 rfl) ?_
    refine lv_aload_n hx hb d_H_changeMarks_9 rfl (lv_at hl 0 rfl) ?_
    refine va_get (D := (dC, dI)) (ci := 3) (v := .int v_markedMinus) (C := R_H) (T := F_H) (N := 6) hx hb hts lay_H hown hK hP 0 rfl rfl 3 (by decide) (hts _ flk_H_24) (fun _ h9 => h9) rfl d_H_changeMarks_10 ?_
    refine lv_icmp_ne (tgt := 20) hx hb d_H_changeMarks_13 (by decide) (fun c_13 => ?_) (fun c_13 => ?_)
    · have h := of_neg h c_13
      exact J_20 v_markedPlus v_markedMinus x1 x2 h _ _ hP hD hS ls (lv_sub hl [0, 1, 2] rfl)
    · have h := of_pos h c_13
      refine lv_iconst (v := (nI 1)) hx hb d_H_changeMarks_16 (by decide) ?_
      refine lv_goto (tgt := 21) hx hb d_H_changeMarks_17 (by decide) ?_
      exact J_21 v_markedPlus v_markedMinus x1 x2 (nI 1) h _ _ hP hD hS ls (lv_sub hl [0, 1, 2] rfl)
set_option maxHeartbeats 1000000 in
set_option maxRecDepth 100000 in
theorem c_H_addClause (l : Launch) (dC : Nat → ClassId) (dI : Nat → Nat → Nat) (h_o h_line h_factSets h_program h_deduction h_program_bodies : Nat) (k_program_bodies : ClassId) (sz : Nat) (v_markedPlus : Int32) (v_markedMinus : Int32) (v_program_count : Int32) (v_program_bodies : Nat → Int32) (x1 : Int32) (x2 : Int32) (r0 : Int32) (u0 : Int32 × (Nat → Int32)) (h : m_H_addClause v_program_count v_program_bodies x1 x2 = some (r0, u0)) : Met l y_H_addClause w_H_addClause ({ frames := 2, cells := 0, slots := 0, locals := 42 } : Room) (va_Pc [.ref h_o, .int x1, .int x2] (fun U => U.heap.size = sz ∧ va_P (dC, dI) classes [(h_o, .inr (3, [.ref h_line, .ref h_factSets, .int v_markedPlus, .int v_markedMinus, .ref h_program, .ref h_deduction])), (h_program, .inr (2, [.ref h_program_bodies, .int v_program_count])), (h_program_bodies, .inl (k_program_bodies, 2, .inl v_program_bodies))] U.heap ∧ va_K (dC, dI) classes [(k_program_bodies, .int)] U ∧ va_D (fun _ => True) [(h_o, .inr (3, [.ref h_line, .ref h_factSets, .int v_markedPlus, .int v_markedMinus, .ref h_program, .ref h_deduction])), (h_program, .inr (2, [.ref h_program_bodies, .int v_program_count])), (h_program_bodies, .inl (k_program_bodies, 2, .inl v_program_bodies))])) (va_Qi (fun (r : Int32) (u : Int32 × (Nat → Int32)) => r = r0 ∧ u = u0) (fun (u : Int32 × (Nat → Int32)) (t : State) => va_P (dC, dI) classes [(h_o, .inr (3, [.ref h_line, .ref h_factSets, .int v_markedPlus, .int v_markedMinus, .ref h_program, .ref h_deduction])), (h_program, .inr (2, [.ref h_program_bodies, .int u.1])), (h_program_bodies, .inl (k_program_bodies, 2, .inl u.2))] t.heap ∧ va_K (dC, dI) classes [(k_program_bodies, .int)] t ∧ va_D (va_A [(h_o, .inr (3, [.ref h_line, .ref h_factSets, .int v_markedPlus, .int v_markedMinus, .ref h_program, .ref h_deduction])), (h_program, .inr (2, [.ref h_program_bodies, .int v_program_count])), (h_program_bodies, .inl (k_program_bodies, 2, .inl v_program_bodies))] sz) [(h_o, .inr (3, [.ref h_line, .ref h_factSets, .int v_markedPlus, .int v_markedMinus, .ref h_program, .ref h_deduction])), (h_program, .inr (2, [.ref h_program_bodies, .int u.1])), (h_program_bodies, .inl (k_program_bodies, 2, .inl u.2))]) (va_A [(h_o, .inr (3, [.ref h_line, .ref h_factSets, .int v_markedPlus, .int v_markedMinus, .ref h_program, .ref h_deduction])), (h_program, .inr (2, [.ref h_program_bodies, .int v_program_count])), (h_program_bodies, .inl (k_program_bodies, 2, .inl v_program_bodies))] sz)) 0 0 (va_A [(h_o, .inr (3, [.ref h_line, .ref h_factSets, .int v_markedPlus, .int v_markedMinus, .ref h_program, .ref h_deduction])), (h_program, .inr (2, [.ref h_program_bodies, .int v_program_count])), (h_program_bodies, .inl (k_program_bodies, 2, .inl v_program_bodies))] sz) := by
  refine Met.ofW (cc := b_H_addClause) (maxL := 3) (ret := (some .int)) (by decide) rfl ?_
  intro p e s m args below meth c s₁ B hml hv
  obtain ⟨rfl, hsz, hP, hK, hD0⟩ := hv
  have hx := B.exec
  have hb := B.bytes
  have hr := B.returns
  have hts0 := atoms_spec (ws := w_H_addClause) B.pre
  have hts : ∀ w ∈ lw_gd, w.before ([.ref h_o, .int x1, .int x2] : List Value).toArray s = true := fun w h9 => hts0 w (List.mem_cons_of_mem _ h9)
  have hown : s.vm.findClass R_H = some m.cls := findClass_of_methodNamed B.named
  have hlocks := B.notSynchronized
  subst hsz
  have hD := hD0.self (sz := s.heap.size)
  generalize hAe : va_A [(h_o, .inr (3, [.ref h_line, .ref h_factSets, .int v_markedPlus, .int v_markedMinus, .ref h_program, .ref h_deduction])), (h_program, .inr (2, [.ref h_program_bodies, .int v_program_count])), (h_program_bodies, .inl (k_program_bodies, 2, .inl v_program_bodies))] s.heap.size = A at hD ⊢
  have hA : ∀ q : Nat, s.heap.size ≤ q → A q := fun q h9 => by rw [← hAe]; exact Or.inr h9
  obtain ⟨H, eH⟩ : ∃ H : Heap, H = s.heap := ⟨_, rfl⟩
  have hS : va_S A s.heap H [] := by rw [eH]; exact va_S.rf
  have hP : va_P (dC, dI) classes [(h_o, .inr (3, [.ref h_line, .ref h_factSets, .int v_markedPlus, .int v_markedMinus, .ref h_program, .ref h_deduction])), (h_program, .inr (2, [.ref h_program_bodies, .int v_program_count])), (h_program_bodies, .inl (k_program_bodies, 2, .inl v_program_bodies))] H := by rw [eH]; exact hP
  refine W_gen (fun Q hQ => ?_)
  refine W_heap eH ?_
  clear eH
  have hl := lv_entry ([.ref h_o, .int x1, .int x2]) (n := 3) (Nat.le_of_ble_eq_true rfl)
  rw [lg_entry_eq]
  generalize (lg_sl ([.ref h_o, .int x1, .int x2]) ++ List.replicate (3 - (lg_sl ([.ref h_o, .int x1, .int x2])).length) Slot.unset).toArray = ls at hl ⊢
  have hl : lv_has ls 3 [(0, .ref h_o), (1, .int x1), (2, .int x2)] := hl
  unfold m_H_addClause at h
  refine lv_iload_n hx hb d_H_addClause_0 rfl (lv_at hl 1 rfl) ?_
  have hPc := hP.sub (ws' := []) [] rfl
  have hDc := hD.sub (ws' := []) [] (by decide) rfl
  have hKc := hK.sub (tys' := []) [] rfl
  have hFc := va_free (wc := []) hD hS hA [] rfl
  obtain ⟨v_1, hc_1, h⟩ := of_bind h
  refine va_calli (va_runS (As := [.int x1]) (rest := []) ⟨hx, hb, hml, hown, hts⟩ (c_I_bitCount l dC dI H.size x1 v_1.1 v_1.2 hc_1) (va_cwS 1 hts (gS mlk_H_66 sta_I_bitCount ini_I cod_I_bitCount) rfl rfl rfl (by decide +kernel) ⟨Nat.le_of_ble_eq_true rfl, Nat.le_of_ble_eq_true rfl⟩) ⟨fun a U g mk q => by obtain ⟨q0, q1, qP, qK, qD⟩ := q; exact ⟨q0, q1, qP, va_K.moved (u := U) (U := U.calling g mk a) (Vm.Alike.refl U.vm) qK, qD⟩, fun U hU hW => ⟨rfl, by rw [hU], by rw [hU]; exact hPc, va_K.moved hW.alike hKc, hDc.weaken (fun _ _ _ _ => trivial)⟩⟩ rfl rfl hl.1 rfl (lv_room (Nat.le_of_ble_eq_true rfl)) d_H_addClause_1 ⟨Nat.le_of_ble_eq_true rfl, Nat.le_of_ble_eq_true rfl⟩) hS (fun q _ h9 => hFc q h9) hFc (fun r_1 u t H1 locs ht hvm hw hB hz1 hk1 hS => ?_)
  obtain ⟨rfl, rfl⟩ := hw
  obtain ⟨hP1, hK1, hD1⟩ := hB
  rw [ht] at hP1
  obtain ⟨hP, hD⟩ := va_join (wr := [(h_o, .inr (3, [.ref h_line, .ref h_factSets, .int v_markedPlus, .int v_markedMinus, .ref h_program, .ref h_deduction])), (h_program, .inr (2, [.ref h_program_bodies, .int v_program_count])), (h_program_bodies, .inl (k_program_bodies, 2, .inl v_program_bodies))]) (w1 := []) hP hD [] [0, 1, 2] rfl rfl (by decide) (by decide) hk1 hFc hP1 hD1
  have hP := hP.sub (ws' := [(h_o, .inr (3, [.ref h_line, .ref h_factSets, .int v_markedPlus, .int v_markedMinus, .ref h_program, .ref h_deduction])), (h_program, .inr (2, [.ref h_program_bodies, .int v_program_count])), (h_program_bodies, .inl (k_program_bodies, 2, .inl v_program_bodies))]) [0, 1, 2] rfl
  have hD := hD.sub (ws' := [(h_o, .inr (3, [.ref h_line, .ref h_factSets, .int v_markedPlus, .int v_markedMinus, .ref h_program, .ref h_deduction])), (h_program, .inr (2, [.ref h_program_bodies, .int v_program_count])), (h_program_bodies, .inl (k_program_bodies, 2, .inl v_program_bodies))]) [0, 1, 2] (by decide) rfl
  generalize H1 = H at hP hS ⊢
  refine lv_iload_n hx hb d_H_addClause_4 rfl (lv_at hl 2 rfl) ?_
  refine lv_icmp_ge (tgt := 11) hx hb d_H_addClause_5 (by decide) (fun c_5 => ?_) (fun c_5 => ?_)
  · have h := of_pos h c_5
    refine lv_iload_n hx hb d_H_addClause_11 rfl (lv_at hl 1 rfl) ?_
    have hPc := hP.sub (ws' := []) [] rfl
    have hDc := hD.sub (ws' := []) [] (by decide) rfl
    have hKc := hK.sub (tys' := []) [] rfl
    have hFc := va_free (wc := []) hD hS hA [] rfl
    obtain ⟨v_12, hc_12, h⟩ := of_bind h
    refine va_calli (va_runS (As := [.int x1]) (rest := []) ⟨hx, hb, hml, hown, hts⟩ (c_H_hasHeadVariables l dC dI H.size x1 v_12.1 v_12.2 hc_12) (va_cwS 1 hts (gS mlk_H_147 sta_H_hasHeadVariables ini_H cod_H_hasHeadVariables) rfl rfl rfl (by decide +kernel) ⟨Nat.le_of_ble_eq_true rfl, Nat.le_of_ble_eq_true rfl⟩) ⟨fun a U g mk q => by obtain ⟨q0, q1, qP, qK, qD⟩ := q; exact ⟨q0, q1, qP, va_K.moved (u := U) (U := U.calling g mk a) (Vm.Alike.refl U.vm) qK, qD⟩, fun U hU hW => ⟨rfl, by rw [hU], by rw [hU]; exact hPc, va_K.moved hW.alike hKc, hDc.weaken (fun _ _ _ _ => trivial)⟩⟩ rfl rfl hl.1 rfl (lv_room (Nat.le_of_ble_eq_true rfl)) d_H_addClause_12 ⟨Nat.le_of_ble_eq_true rfl, Nat.le_of_ble_eq_true rfl⟩) hS (fun q _ h9 => hFc q h9) hFc (fun r_12 u t H1 locs ht hvm hw hB hz1 hk1 hS => ?_)
    obtain ⟨rfl, rfl⟩ := hw
    obtain ⟨hP1, hK1, hD1⟩ := hB
    rw [ht] at hP1
    obtain ⟨hP, hD⟩ := va_join (wr := [(h_o, .inr (3, [.ref h_line, .ref h_factSets, .int v_markedPlus, .int v_markedMinus, .ref h_program, .ref h_deduction])), (h_program, .inr (2, [.ref h_program_bodies, .int v_program_count])), (h_program_bodies, .inl (k_program_bodies, 2, .inl v_program_bodies))]) (w1 := []) hP hD [] [0, 1, 2] rfl rfl (by decide) (by decide) hk1 hFc hP1 hD1
    have hP := hP.sub (ws' := [(h_o, .inr (3, [.ref h_line, .ref h_factSets, .int v_markedPlus, .int v_markedMinus, .ref h_program, .ref h_deduction])), (h_program, .inr (2, [.ref h_program_bodies, .int v_program_count])), (h_program_bodies, .inl (k_program_bodies, 2, .inl v_program_bodies))]) [0, 1, 2] rfl
    have hD := hD.sub (ws' := [(h_o, .inr (3, [.ref h_line, .ref h_factSets, .int v_markedPlus, .int v_markedMinus, .ref h_program, .ref h_deduction])), (h_program, .inr (2, [.ref h_program_bodies, .int v_program_count])), (h_program_bodies, .inl (k_program_bodies, 2, .inl v_program_bodies))]) [0, 1, 2] (by decide) rfl
    generalize H1 = H at hP hS ⊢
    refine lv_if_ne (tgt := 21) hx hb d_H_addClause_15 (by decide) (fun c_15 => ?_) (fun c_15 => ?_)
    · have h := of_neg h c_15
      refine lv_aload_n hx hb d_H_addClause_21 rfl (lv_at hl 0 rfl) ?_
      refine va_get (D := (dC, dI)) (ci := 3) (v := .ref h_program) (C := R_H) (T := F_H) (N := 6) hx hb hts lay_H hown hK hP 0 rfl rfl 4 (by decide) (hts _ flk_H_30) (fun _ h9 => h9) rfl d_H_addClause_22 ?_
      refine lv_iload_n hx hb d_H_addClause_25 rfl (lv_at hl 1 rfl) ?_
      have hPc := hP.sub (ws' := [(h_program, .inr (2, [.ref h_program_bodies, .int v_program_count])), (h_program_bodies, .inl (k_program_bodies, 2, .inl v_program_bodies))]) [1, 2] rfl
      have hDc := hD.sub (ws' := [(h_program, .inr (2, [.ref h_program_bodies, .int v_program_count])), (h_program_bodies, .inl (k_program_bodies, 2, .inl v_program_bodies))]) [1, 2] (by decide) rfl
      have hKc := hK.sub (tys' := [(k_program_bodies, .int)]) [0] rfl
      have hFc := va_free (wc := [(h_program, .inr (2, [.ref h_program_bodies, .int v_program_count])), (h_program_bodies, .inl (k_program_bodies, 2, .inl v_program_bodies))]) hD hS hA [1, 2] rfl
      obtain ⟨v_26, hc_26, h⟩ := of_bind h
      refine va_calli (va_runV (As := [.int x1]) (rest := []) ⟨hx, hb, hml, hown, hts⟩ (c_P_contains l dC dI h_program h_program_bodies k_program_bodies H.size v_program_count v_program_bodies x1 v_26.1 v_26.2 hc_26) (cwV 1 hts (gV mlk_H_150 ins_P_contains sel_P_contains ini_P cod_P_contains) rfl rfl rfl (by decide +kernel) ⟨Nat.le_of_ble_eq_true rfl, Nat.le_of_ble_eq_true rfl⟩) ⟨fun a U g mk q => by obtain ⟨q0, q1, qP, qK, qD⟩ := q; exact ⟨q0, q1, qP, va_K.moved (u := U) (U := U.calling g mk a) (Vm.Alike.refl U.vm) qK, qD⟩, va_recv hKc hPc (ci := 2) (q0 := 0) rfl rfl, fun U hU hW => ⟨rfl, by rw [hU], by rw [hU]; exact hPc, va_K.moved hW.alike hKc, hDc.weaken (fun _ _ _ _ => trivial)⟩⟩ rfl rfl hl.1 rfl (lv_room (Nat.le_of_ble_eq_true rfl)) d_H_addClause_26 ⟨Nat.le_of_ble_eq_true rfl, Nat.le_of_ble_eq_true rfl⟩) hS (fun q _ h9 => hFc q h9) hFc (fun r_26 u t H1 locs ht hvm hw hB hz1 hk1 hS => ?_)
      obtain ⟨rfl, rfl⟩ := hw
      obtain ⟨hP1, hK1, hD1⟩ := hB
      rw [ht] at hP1
      obtain ⟨hP, hD⟩ := va_join (wr := [(h_o, .inr (3, [.ref h_line, .ref h_factSets, .int v_markedPlus, .int v_markedMinus, .ref h_program, .ref h_deduction]))]) (w1 := [(h_program, .inr (2, [.ref h_program_bodies, .int v_program_count])), (h_program_bodies, .inl (k_program_bodies, 2, .inl v_program_bodies))]) hP hD [1, 2] [0] rfl rfl (by decide) (by decide) hk1 hFc hP1 hD1
      have hP := hP.sub (ws' := [(h_o, .inr (3, [.ref h_line, .ref h_factSets, .int v_markedPlus, .int v_markedMinus, .ref h_program, .ref h_deduction])), (h_program, .inr (2, [.ref h_program_bodies, .int v_program_count])), (h_program_bodies, .inl (k_program_bodies, 2, .inl v_program_bodies))]) [0, 1, 2] rfl
      have hD := hD.sub (ws' := [(h_o, .inr (3, [.ref h_line, .ref h_factSets, .int v_markedPlus, .int v_markedMinus, .ref h_program, .ref h_deduction])), (h_program, .inr (2, [.ref h_program_bodies, .int v_program_count])), (h_program_bodies, .inl (k_program_bodies, 2, .inl v_program_bodies))]) [0, 1, 2] (by decide) rfl
      generalize H1 = H at hP hS ⊢
      refine lv_if_eq (tgt := 35) hx hb d_H_addClause_29 (by decide) (fun c_29 => ?_) (fun c_29 => ?_)
      · have h := of_pos h c_29
        refine lv_aload_n hx hb d_H_addClause_35 rfl (lv_at hl 0 rfl) ?_
        refine va_get (D := (dC, dI)) (ci := 3) (v := .ref h_program) (C := R_H) (T := F_H) (N := 6) hx hb hts lay_H hown hK hP 0 rfl rfl 4 (by decide) (hts _ flk_H_30) (fun _ h9 => h9) rfl d_H_addClause_36 ?_
        refine va_get (D := (dC, dI)) (ci := 2) (v := .int v_program_count) (C := R_P) (T := F_P) (N := 2) hx hb hts lay_P hown hK hP 1 rfl rfl 1 (by decide) (hts _ flk_H_79) (fun _ h9 => h9) rfl d_H_addClause_39 ?_
        refine lv_iconst (v := (nI 2)) hx hb d_H_addClause_42 (by decide) ?_
        refine lv_icmp_lt (tgt := 49) hx hb d_H_addClause_43 (by decide) (fun c_43 => ?_) (fun c_43 => ?_)
        · have h := of_pos h c_43
          refine lv_bipush (v := (nI 10)) hx hb d_H_addClause_49 (by decide) ?_
          refine lv_aload_n hx hb d_H_addClause_51 rfl (lv_at hl 0 rfl) ?_
          refine va_get (D := (dC, dI)) (ci := 3) (v := .ref h_program) (C := R_H) (T := F_H) (N := 6) hx hb hts lay_H hown hK hP 0 rfl rfl 4 (by decide) (hts _ flk_H_30) (fun _ h9 => h9) rfl d_H_addClause_52 ?_
          refine lv_iload_n hx hb d_H_addClause_55 rfl (lv_at hl 1 rfl) ?_
          have hPc := hP.sub (ws' := [(h_program, .inr (2, [.ref h_program_bodies, .int v_program_count])), (h_program_bodies, .inl (k_program_bodies, 2, .inl v_program_bodies))]) [1, 2] rfl
          have hDc := hD.sub (ws' := [(h_program, .inr (2, [.ref h_program_bodies, .int v_program_count])), (h_program_bodies, .inl (k_program_bodies, 2, .inl v_program_bodies))]) [1, 2] (by decide) rfl
          have hKc := hK.sub (tys' := [(k_program_bodies, .int)]) [0] rfl
          have hFc := va_free (wc := [(h_program, .inr (2, [.ref h_program_bodies, .int v_program_count])), (h_program_bodies, .inl (k_program_bodies, 2, .inl v_program_bodies))]) hD hS hA [1, 2] rfl
          obtain ⟨v_56, hc_56, h⟩ := of_bind h
          refine va_calli (va_runV (As := [.int x1]) (rest := [.int (nI 10)]) ⟨hx, hb, hml, hown, hts⟩ (c_P_append l dC dI h_program h_program_bodies k_program_bodies H.size v_program_count v_program_bodies x1 v_56.1 v_56.2 hc_56) (cwV 1 hts (gV mlk_H_153 ins_P_append sel_P_append ini_P cod_P_append) rfl rfl rfl (by decide +kernel) ⟨Nat.le_of_ble_eq_true rfl, Nat.le_of_ble_eq_true rfl⟩) ⟨fun a U g mk q => by obtain ⟨q0, q1, qP, qK, qD⟩ := q; exact ⟨q0, q1, qP, va_K.moved (u := U) (U := U.calling g mk a) (Vm.Alike.refl U.vm) qK, qD⟩, va_recv hKc hPc (ci := 2) (q0 := 0) rfl rfl, fun U hU hW => ⟨rfl, by rw [hU], by rw [hU]; exact hPc, va_K.moved hW.alike hKc, hDc.weaken (fun _ _ _ _ => trivial)⟩⟩ rfl rfl hl.1 rfl (lv_room (Nat.le_of_ble_eq_true rfl)) d_H_addClause_56 ⟨Nat.le_of_ble_eq_true rfl, Nat.le_of_ble_eq_true rfl⟩) hS (fun q _ h9 => hFc q h9) hFc (fun r_56 u t H1 locs ht hvm hw hB hz1 hk1 hS => ?_)
          obtain ⟨rfl, rfl⟩ := hw
          obtain ⟨hP1, hK1, hD1⟩ := hB
          rw [ht] at hP1
          obtain ⟨hP, hD⟩ := va_join (wr := [(h_o, .inr (3, [.ref h_line, .ref h_factSets, .int v_markedPlus, .int v_markedMinus, .ref h_program, .ref h_deduction]))]) (w1 := [(h_program, .inr (2, [.ref h_program_bodies, .int v_56.2.1])), (h_program_bodies, .inl (k_program_bodies, 2, .inl v_56.2.2))]) hP hD [1, 2] [0] rfl rfl (by decide) (by decide) hk1 hFc hP1 hD1
          have hP := hP.sub (ws' := [(h_o, .inr (3, [.ref h_line, .ref h_factSets, .int v_markedPlus, .int v_markedMinus, .ref h_program, .ref h_deduction])), (h_program, .inr (2, [.ref h_program_bodies, .int v_56.2.1])), (h_program_bodies, .inl (k_program_bodies, 2, .inl v_56.2.2))]) [0, 1, 2] rfl
          have hD := hD.sub (ws' := [(h_o, .inr (3, [.ref h_line, .ref h_factSets, .int v_markedPlus, .int v_markedMinus, .ref h_program, .ref h_deduction])), (h_program, .inr (2, [.ref h_program_bodies, .int v_56.2.1])), (h_program_bodies, .inl (k_program_bodies, 2, .inl v_56.2.2))]) [0, 1, 2] (by decide) rfl
          generalize H1 = H at hP hS ⊢
          refine lv_iadd hx hb d_H_addClause_59 ?_
          rw [hQ]
          exact W.iret (v := (nI 10) + v_56.1) hx hb hr (fun t ht hW => ⟨⟨(nI 10) + v_56.1, (v_56.2.1, v_56.2.2), rfl, Prod.mk.inj (Option.some.inj h), by rw [ht]; exact hP, va_K.moved hW.alike hK, hD⟩, hS.F ht⟩) hS.2.2 d_H_addClause_60
        · have h := of_neg h c_43
          refine lv_bipush (v := (-103 : Int32)) hx hb d_H_addClause_46 (by decide) ?_
          rw [hQ]
          exact W.iret (v := (-103 : Int32)) hx hb hr (fun t ht hW => ⟨⟨(-103 : Int32), (v_program_count, v_program_bodies), rfl, Prod.mk.inj (Option.some.inj h), by rw [ht]; exact hP, va_K.moved hW.alike hK, hD⟩, hS.F ht⟩) hS.2.2 d_H_addClause_48
      · have h := of_neg h c_29
        refine lv_bipush (v := (-102 : Int32)) hx hb d_H_addClause_32 (by decide) ?_
        rw [hQ]
        exact W.iret (v := (-102 : Int32)) hx hb hr (fun t ht hW => ⟨⟨(-102 : Int32), (v_program_count, v_program_bodies), rfl, Prod.mk.inj (Option.some.inj h), by rw [ht]; exact hP, va_K.moved hW.alike hK, hD⟩, hS.F ht⟩) hS.2.2 d_H_addClause_34
    · have h := of_pos h c_15
      refine lv_bipush (v := (-101 : Int32)) hx hb d_H_addClause_18 (by decide) ?_
      rw [hQ]
      exact W.iret (v := (-101 : Int32)) hx hb hr (fun t ht hW => ⟨⟨(-101 : Int32), (v_program_count, v_program_bodies), rfl, Prod.mk.inj (Option.some.inj h), by rw [ht]; exact hP, va_K.moved hW.alike hK, hD⟩, hS.F ht⟩) hS.2.2 d_H_addClause_20
  · have h := of_neg h c_5
    refine lv_bipush (v := (-100 : Int32)) hx hb d_H_addClause_8 (by decide) ?_
    rw [hQ]
    exact W.iret (v := (-100 : Int32)) hx hb hr (fun t ht hW => ⟨⟨(-100 : Int32), (v_program_count, v_program_bodies), rfl, Prod.mk.inj (Option.some.inj h), by rw [ht]; exact hP, va_K.moved hW.alike hK, hD⟩, hS.F ht⟩) hS.2.2 d_H_addClause_10
set_option maxHeartbeats 1000000 in
set_option maxRecDepth 100000 in
theorem c_H_carryOutLine (l : Launch) (dC : Nat → ClassId) (dI : Nat → Nat → Nat) (h_o h_line h_factSets h_program h_deduction h_line_typed h_program_bodies : Nat) (k_line_typed k_factSets k_program_bodies : ClassId) (tb : Nat) (ak av : Nat → Nat) (sz : Nat) (v_markedPlus : Int32) (v_markedMinus : Int32) (v_line_length : Int32) (v_line_typed : Nat → Int32) (v_factSets : Nat → Int32) (v_program_count : Int32) (v_program_bodies : Nat → Int32) (r0 : Int32) (u0 : Int32 × Int32 × (Nat → Int32) × Int32 × (Nat → Int32)) (h : m_H_carryOutLine v_markedPlus v_markedMinus v_line_length v_line_typed v_factSets v_program_count v_program_bodies = some (r0, u0)) : Met l y_H_carryOutLine w_H_carryOutLine ({ frames := 5, cells := 0, slots := 0, locals := 116 } : Room) (va_Pc [.ref h_o] (fun U => U.heap.size = sz ∧ va_P (dC, dI) classes [(h_o, .inr (3, [.ref h_line, .ref h_factSets, .int v_markedPlus, .int v_markedMinus, .ref h_program, .ref h_deduction])), (h_line, .inr (1, [.ref h_line_typed, .int v_line_length])), (h_line_typed, .inl (k_line_typed, 32, .inl v_line_typed)), (h_factSets, .inl (k_factSets, 2, .inl v_factSets)), (h_program, .inr (2, [.ref h_program_bodies, .int v_program_count])), (h_program_bodies, .inl (k_program_bodies, 2, .inl v_program_bodies))] U.heap ∧ va_K (dC, dI) classes [(k_line_typed, .char), (k_factSets, .int), (k_program_bodies, .int)] U ∧ va_D (fun _ => True) [(h_o, .inr (3, [.ref h_line, .ref h_factSets, .int v_markedPlus, .int v_markedMinus, .ref h_program, .ref h_deduction])), (h_line, .inr (1, [.ref h_line_typed, .int v_line_length])), (h_line_typed, .inl (k_line_typed, 32, .inl v_line_typed)), (h_factSets, .inl (k_factSets, 2, .inl v_factSets)), (h_program, .inr (2, [.ref h_program_bodies, .int v_program_count])), (h_program_bodies, .inl (k_program_bodies, 2, .inl v_program_bodies))] ∧ kw tb ak av (va_A [(h_o, .inr (3, [.ref h_line, .ref h_factSets, .int v_markedPlus, .int v_markedMinus, .ref h_program, .ref h_deduction])), (h_line, .inr (1, [.ref h_line_typed, .int v_line_length])), (h_line_typed, .inl (k_line_typed, 32, .inl v_line_typed)), (h_factSets, .inl (k_factSets, 2, .inl v_factSets)), (h_program, .inr (2, [.ref h_program_bodies, .int v_program_count])), (h_program_bodies, .inl (k_program_bodies, 2, .inl v_program_bodies))] sz) U)) (va_Qi (fun (r : Int32) (u : Int32 × Int32 × (Nat → Int32) × Int32 × (Nat → Int32)) => r = r0 ∧ u = u0) (fun (u : Int32 × Int32 × (Nat → Int32) × Int32 × (Nat → Int32)) (t : State) => va_P (dC, dI) classes [(h_o, .inr (3, [.ref h_line, .ref h_factSets, .int u.1, .int u.2.1, .ref h_program, .ref h_deduction])), (h_line, .inr (1, [.ref h_line_typed, .int v_line_length])), (h_line_typed, .inl (k_line_typed, 32, .inl v_line_typed)), (h_factSets, .inl (k_factSets, 2, .inl u.2.2.1)), (h_program, .inr (2, [.ref h_program_bodies, .int u.2.2.2.1])), (h_program_bodies, .inl (k_program_bodies, 2, .inl u.2.2.2.2))] t.heap ∧ va_K (dC, dI) classes [(k_line_typed, .char), (k_factSets, .int), (k_program_bodies, .int)] t ∧ va_D (va_A [(h_o, .inr (3, [.ref h_line, .ref h_factSets, .int v_markedPlus, .int v_markedMinus, .ref h_program, .ref h_deduction])), (h_line, .inr (1, [.ref h_line_typed, .int v_line_length])), (h_line_typed, .inl (k_line_typed, 32, .inl v_line_typed)), (h_factSets, .inl (k_factSets, 2, .inl v_factSets)), (h_program, .inr (2, [.ref h_program_bodies, .int v_program_count])), (h_program_bodies, .inl (k_program_bodies, 2, .inl v_program_bodies))] sz) [(h_o, .inr (3, [.ref h_line, .ref h_factSets, .int u.1, .int u.2.1, .ref h_program, .ref h_deduction])), (h_line, .inr (1, [.ref h_line_typed, .int v_line_length])), (h_line_typed, .inl (k_line_typed, 32, .inl v_line_typed)), (h_factSets, .inl (k_factSets, 2, .inl u.2.2.1)), (h_program, .inr (2, [.ref h_program_bodies, .int u.2.2.2.1])), (h_program_bodies, .inl (k_program_bodies, 2, .inl u.2.2.2.2))]) (va_A [(h_o, .inr (3, [.ref h_line, .ref h_factSets, .int v_markedPlus, .int v_markedMinus, .ref h_program, .ref h_deduction])), (h_line, .inr (1, [.ref h_line_typed, .int v_line_length])), (h_line_typed, .inl (k_line_typed, 32, .inl v_line_typed)), (h_factSets, .inl (k_factSets, 2, .inl v_factSets)), (h_program, .inr (2, [.ref h_program_bodies, .int v_program_count])), (h_program_bodies, .inl (k_program_bodies, 2, .inl v_program_bodies))] sz)) 0 0 (va_A [(h_o, .inr (3, [.ref h_line, .ref h_factSets, .int v_markedPlus, .int v_markedMinus, .ref h_program, .ref h_deduction])), (h_line, .inr (1, [.ref h_line_typed, .int v_line_length])), (h_line_typed, .inl (k_line_typed, 32, .inl v_line_typed)), (h_factSets, .inl (k_factSets, 2, .inl v_factSets)), (h_program, .inr (2, [.ref h_program_bodies, .int v_program_count])), (h_program_bodies, .inl (k_program_bodies, 2, .inl v_program_bodies))] sz) := by
  refine Met.ofW (cc := b_H_carryOutLine) (maxL := 4) (ret := (some .int)) (by decide) rfl ?_
  intro p e s m args below meth c s₁ B hml hv
  obtain ⟨rfl, hsz, hP, hK, hD0, hC⟩ := hv
  have hx := B.exec
  have hb := B.bytes
  have hr := B.returns
  have hts0 := atoms_spec (ws := w_H_carryOutLine) B.pre
  have hts : ∀ w ∈ lw_gd, w.before ([.ref h_o] : List Value).toArray s = true := fun w h9 => hts0 w (List.mem_cons_of_mem _ h9)
  have hown : s.vm.findClass R_H = some m.cls := findClass_of_methodNamed B.named
  have hlocks := B.notSynchronized
  subst hsz
  have hD := hD0.self (sz := s.heap.size)
  generalize hAe : va_A [(h_o, .inr (3, [.ref h_line, .ref h_factSets, .int v_markedPlus, .int v_markedMinus, .ref h_program, .ref h_deduction])), (h_line, .inr (1, [.ref h_line_typed, .int v_line_length])), (h_line_typed, .inl (k_line_typed, 32, .inl v_line_typed)), (h_factSets, .inl (k_factSets, 2, .inl v_factSets)), (h_program, .inr (2, [.ref h_program_bodies, .int v_program_count])), (h_program_bodies, .inl (k_program_bodies, 2, .inl v_program_bodies))] s.heap.size = A at hD hC ⊢
  have hA : ∀ q : Nat, s.heap.size ≤ q → A q := fun q h9 => by rw [← hAe]; exact Or.inr h9
  obtain ⟨H, eH⟩ : ∃ H : Heap, H = s.heap := ⟨_, rfl⟩
  have hS : va_S A s.heap H [] := by rw [eH]; exact va_S.rf
  have hP : va_P (dC, dI) classes [(h_o, .inr (3, [.ref h_line, .ref h_factSets, .int v_markedPlus, .int v_markedMinus, .ref h_program, .ref h_deduction])), (h_line, .inr (1, [.ref h_line_typed, .int v_line_length])), (h_line_typed, .inl (k_line_typed, 32, .inl v_line_typed)), (h_factSets, .inl (k_factSets, 2, .inl v_factSets)), (h_program, .inr (2, [.ref h_program_bodies, .int v_program_count])), (h_program_bodies, .inl (k_program_bodies, 2, .inl v_program_bodies))] H := by rw [eH]; exact hP
  refine W_gen (fun Q hQ => ?_)
  refine W_heap eH ?_
  clear eH
  have hl := lv_entry ([.ref h_o]) (n := 4) (Nat.le_of_ble_eq_true rfl)
  rw [lg_entry_eq]
  generalize (lg_sl ([.ref h_o]) ++ List.replicate (4 - (lg_sl ([.ref h_o])).length) Slot.unset).toArray = ls at hl ⊢
  have hl : lv_has ls 4 [(0, .ref h_o)] := hl
  unfold m_H_carryOutLine at h
  refine lv_aload_n hx hb d_H_carryOutLine_0 rfl (lv_at hl 0 rfl) ?_
  refine va_get (D := (dC, dI)) (ci := 3) (v := .ref h_line) (C := R_H) (T := F_H) (N := 6) hx hb hts lay_H hown hK hP 0 rfl rfl 0 (by decide) (hts _ flk_H_12) (fun _ h9 => h9) rfl d_H_carryOutLine_1 ?_
  refine lv_iconst (v := (nI 0)) hx hb d_H_carryOutLine_4 (by decide) ?_
  have hPc := hP.sub (ws' := [(h_line, .inr (1, [.ref h_line_typed, .int v_line_length])), (h_line_typed, .inl (k_line_typed, 32, .inl v_line_typed))]) [1, 2] rfl
  have hDc := hD.sub (ws' := [(h_line, .inr (1, [.ref h_line_typed, .int v_line_length])), (h_line_typed, .inl (k_line_typed, 32, .inl v_line_typed))]) [1, 2] (by decide) rfl
  have hKc := hK.sub (tys' := [(k_line_typed, .char)]) [0] rfl
  have hFc := va_free (wc := [(h_line, .inr (1, [.ref h_line_typed, .int v_line_length])), (h_line_typed, .inl (k_line_typed, 32, .inl v_line_typed))]) hD hS hA [1, 2] rfl
  obtain ⟨v_5, hc_5, h⟩ := of_bind h
  refine va_calli (va_runV (As := [.int (nI 0)]) (rest := []) ⟨hx, hb, hml, hown, hts⟩ (c_L_at l dC dI h_line h_line_typed k_line_typed H.size v_line_length v_line_typed (nI 0) v_5.1 v_5.2 hc_5) (cwV 1 hts (gV mlk_H_117 ins_L_at sel_L_at ini_L cod_L_at) rfl rfl rfl (by decide +kernel) ⟨Nat.le_of_ble_eq_true rfl, Nat.le_of_ble_eq_true rfl⟩) ⟨fun a U g mk q => by obtain ⟨q0, q1, qP, qK, qD⟩ := q; exact ⟨q0, q1, qP, va_K.moved (u := U) (U := U.calling g mk a) (Vm.Alike.refl U.vm) qK, qD⟩, va_recv hKc hPc (ci := 1) (q0 := 0) rfl rfl, fun U hU hW => ⟨rfl, by rw [hU], by rw [hU]; exact hPc, va_K.moved hW.alike hKc, hDc.weaken (fun _ _ _ _ => trivial)⟩⟩ rfl rfl hl.1 rfl (lv_room (Nat.le_of_ble_eq_true rfl)) d_H_carryOutLine_5 ⟨Nat.le_of_ble_eq_true rfl, Nat.le_of_ble_eq_true rfl⟩) hS (fun q _ h9 => hFc q h9) hFc (fun r_5 u t H1 locs ht hvm hw hB hz1 hk1 hS => ?_)
  obtain ⟨rfl, rfl⟩ := hw
  obtain ⟨hP1, hK1, hD1⟩ := hB
  rw [ht] at hP1
  obtain ⟨hP, hD⟩ := va_join (wr := [(h_o, .inr (3, [.ref h_line, .ref h_factSets, .int v_markedPlus, .int v_markedMinus, .ref h_program, .ref h_deduction])), (h_factSets, .inl (k_factSets, 2, .inl v_factSets)), (h_program, .inr (2, [.ref h_program_bodies, .int v_program_count])), (h_program_bodies, .inl (k_program_bodies, 2, .inl v_program_bodies))]) (w1 := [(h_line, .inr (1, [.ref h_line_typed, .int v_line_length])), (h_line_typed, .inl (k_line_typed, 32, .inl v_line_typed))]) hP hD [1, 2] [0, 3, 4, 5] rfl rfl (by decide) (by decide) hk1 hFc hP1 hD1
  have hP := hP.sub (ws' := [(h_o, .inr (3, [.ref h_line, .ref h_factSets, .int v_markedPlus, .int v_markedMinus, .ref h_program, .ref h_deduction])), (h_line, .inr (1, [.ref h_line_typed, .int v_line_length])), (h_line_typed, .inl (k_line_typed, 32, .inl v_line_typed)), (h_factSets, .inl (k_factSets, 2, .inl v_factSets)), (h_program, .inr (2, [.ref h_program_bodies, .int v_program_count])), (h_program_bodies, .inl (k_program_bodies, 2, .inl v_program_bodies))]) [0, 4, 5, 1, 2, 3] rfl
  have hD := hD.sub (ws' := [(h_o, .inr (3, [.ref h_line, .ref h_factSets, .int v_markedPlus, .int v_markedMinus, .ref h_program, .ref h_deduction])), (h_line, .inr (1, [.ref h_line_typed, .int v_line_length])), (h_line_typed, .inl (k_line_typed, 32, .inl v_line_typed)), (h_factSets, .inl (k_factSets, 2, .inl v_factSets)), (h_program, .inr (2, [.ref h_program_bodies, .int v_program_count])), (h_program_bodies, .inl (k_program_bodies, 2, .inl v_program_bodies))]) [0, 4, 5, 1, 2, 3] (by decide) rfl
  generalize H1 = H at hP hS ⊢
  refine lv_istore_n (lv' := [(1, .int v_5.1), (0, .ref h_o)]) hx hb d_H_carryOutLine_8 rfl hl (by decide) rfl (fun ls hl => ?_)
  refine lv_iload_n hx hb d_H_carryOutLine_9 rfl (lv_at hl 0 rfl) ?_
  refine lv_bipush (v := (nI 116)) hx hb d_H_carryOutLine_10 (by decide) ?_
  refine lv_icmp_ne (tgt := 34) hx hb d_H_carryOutLine_12 (by decide) (fun c_12 => ?_) (fun c_12 => ?_)
  · have h := of_neg h c_12
    refine lv_aload_n hx hb d_H_carryOutLine_34 rfl (lv_at hl 1 rfl) ?_
    refine va_get (D := (dC, dI)) (ci := 3) (v := .ref h_line) (C := R_H) (T := F_H) (N := 6) hx hb hts lay_H hown hK hP 0 rfl rfl 0 (by decide) (hts _ flk_H_12) (fun _ h9 => h9) rfl d_H_carryOutLine_35 ?_
    have hPc := hP.sub (ws' := [(h_line, .inr (1, [.ref h_line_typed, .int v_line_length])), (h_line_typed, .inl (k_line_typed, 32, .inl v_line_typed))]) [1, 2] rfl
    have hDc := hD.sub (ws' := [(h_line, .inr (1, [.ref h_line_typed, .int v_line_length])), (h_line_typed, .inl (k_line_typed, 32, .inl v_line_typed))]) [1, 2] (by decide) rfl
    have hKc := hK.sub (tys' := [(k_line_typed, .char)]) [0] rfl
    have hFc := va_free (wc := [(h_line, .inr (1, [.ref h_line_typed, .int v_line_length])), (h_line_typed, .inl (k_line_typed, 32, .inl v_line_typed))]) hD hS hA [1, 2] rfl
    obtain ⟨v_38, hc_38, h⟩ := of_bind h
    refine va_calli (va_runV (As := []) (rest := []) ⟨hx, hb, hml, hown, hts⟩ (c_L_typedPair l dC dI h_line h_line_typed k_line_typed tb ak av H.size v_line_length v_line_typed v_38.1 v_38.2 hc_38) (cwV 0 hts (gV mlk_H_130 ins_L_typedPair sel_L_typedPair ini_L cod_L_typedPair) rfl rfl rfl (by decide +kernel) ⟨Nat.le_of_ble_eq_true rfl, Nat.le_of_ble_eq_true rfl⟩) ⟨fun a U g mk q => by obtain ⟨q0, q1, qP, qK, qD, qC⟩ := q; exact ⟨q0, q1, qP, va_K.moved (u := U) (U := U.calling g mk a) (Vm.Alike.refl U.vm) qK, qD, kw_blind qC⟩, va_recv hKc hPc (ci := 1) (q0 := 0) rfl rfl, fun U hU hW => ⟨rfl, by rw [hU], by rw [hU]; exact hPc, va_K.moved hW.alike hKc, hDc.weaken (fun _ _ _ _ => trivial), kw_call hC hS hFc hU hW⟩⟩ rfl rfl hl.1 rfl (lv_room (Nat.le_of_ble_eq_true rfl)) d_H_carryOutLine_38 ⟨Nat.le_of_ble_eq_true rfl, Nat.le_of_ble_eq_true rfl⟩) hS (fun q _ h9 => hFc q h9) hFc (fun r_38 u t H1 locs ht hvm hw hB hz1 hk1 hS => ?_)
    obtain ⟨rfl, rfl⟩ := hw
    obtain ⟨hP1, hK1, hD1⟩ := hB
    rw [ht] at hP1
    obtain ⟨hP, hD⟩ := va_join (wr := [(h_o, .inr (3, [.ref h_line, .ref h_factSets, .int v_markedPlus, .int v_markedMinus, .ref h_program, .ref h_deduction])), (h_factSets, .inl (k_factSets, 2, .inl v_factSets)), (h_program, .inr (2, [.ref h_program_bodies, .int v_program_count])), (h_program_bodies, .inl (k_program_bodies, 2, .inl v_program_bodies))]) (w1 := [(h_line, .inr (1, [.ref h_line_typed, .int v_line_length])), (h_line_typed, .inl (k_line_typed, 32, .inl v_line_typed))]) hP hD [1, 2] [0, 3, 4, 5] rfl rfl (by decide) (by decide) hk1 hFc hP1 hD1
    have hP := hP.sub (ws' := [(h_o, .inr (3, [.ref h_line, .ref h_factSets, .int v_markedPlus, .int v_markedMinus, .ref h_program, .ref h_deduction])), (h_line, .inr (1, [.ref h_line_typed, .int v_line_length])), (h_line_typed, .inl (k_line_typed, 32, .inl v_line_typed)), (h_factSets, .inl (k_factSets, 2, .inl v_factSets)), (h_program, .inr (2, [.ref h_program_bodies, .int v_program_count])), (h_program_bodies, .inl (k_program_bodies, 2, .inl v_program_bodies))]) [0, 4, 5, 1, 2, 3] rfl
    have hD := hD.sub (ws' := [(h_o, .inr (3, [.ref h_line, .ref h_factSets, .int v_markedPlus, .int v_markedMinus, .ref h_program, .ref h_deduction])), (h_line, .inr (1, [.ref h_line_typed, .int v_line_length])), (h_line_typed, .inl (k_line_typed, 32, .inl v_line_typed)), (h_factSets, .inl (k_factSets, 2, .inl v_factSets)), (h_program, .inr (2, [.ref h_program_bodies, .int v_program_count])), (h_program_bodies, .inl (k_program_bodies, 2, .inl v_program_bodies))]) [0, 4, 5, 1, 2, 3] (by decide) rfl
    generalize H1 = H at hP hS ⊢
    refine lv_istore_n (lv' := [(2, .int v_38.1), (1, .int v_5.1), (0, .ref h_o)]) hx hb d_H_carryOutLine_41 rfl hl (by decide) rfl (fun ls hl => ?_)
    refine lv_iload_n hx hb d_H_carryOutLine_42 rfl (lv_at hl 1 rfl) ?_
    refine lv_bipush (v := (nI 43)) hx hb d_H_carryOutLine_43 (by decide) ?_
    refine lv_icmp_ne (tgt := 67) hx hb d_H_carryOutLine_45 (by decide) (fun c_45 => ?_) (fun c_45 => ?_)
    · have h := of_neg h c_45
      refine lv_iload_n hx hb d_H_carryOutLine_67 rfl (lv_at hl 1 rfl) ?_
      refine lv_bipush (v := (nI 45)) hx hb d_H_carryOutLine_68 (by decide) ?_
      refine lv_icmp_ne (tgt := 92) hx hb d_H_carryOutLine_70 (by decide) (fun c_70 => ?_) (fun c_70 => ?_)
      · have h := of_neg h c_70
        refine lv_iload_n hx hb d_H_carryOutLine_92 rfl (lv_at hl 1 rfl) ?_
        refine lv_bipush (v := (nI 126)) hx hb d_H_carryOutLine_93 (by decide) ?_
        refine lv_icmp_eq (tgt := 111) hx hb d_H_carryOutLine_95 (by decide) (fun c_95 => ?_) (fun c_95 => ?_)
        · have h := of_pos h c_95
          refine va_ldcS hx hb hown hC.str_H_136 d_H_carryOutLine_111 ?_
          refine lv_aload_n hx hb d_H_carryOutLine_113 rfl (lv_at hl 2 rfl) ?_
          refine va_get (D := (dC, dI)) (ci := 3) (v := .ref h_line) (C := R_H) (T := F_H) (N := 6) hx hb hts lay_H hown hK hP 0 rfl rfl 0 (by decide) (hts _ flk_H_12) (fun _ h9 => h9) rfl d_H_carryOutLine_114 ?_
          refine lv_iconst (v := (nI 1)) hx hb d_H_carryOutLine_117 (by decide) ?_
          have hPc := hP.sub (ws' := [(h_line, .inr (1, [.ref h_line_typed, .int v_line_length])), (h_line_typed, .inl (k_line_typed, 32, .inl v_line_typed))]) [1, 2] rfl
          have hDc := hD.sub (ws' := [(h_line, .inr (1, [.ref h_line_typed, .int v_line_length])), (h_line_typed, .inl (k_line_typed, 32, .inl v_line_typed))]) [1, 2] (by decide) rfl
          have hKc := hK.sub (tys' := [(k_line_typed, .char)]) [0] rfl
          have hFc := va_free (wc := [(h_line, .inr (1, [.ref h_line_typed, .int v_line_length])), (h_line_typed, .inl (k_line_typed, 32, .inl v_line_typed))]) hD hS hA [1, 2] rfl
          obtain ⟨v_118, hc_118, h⟩ := of_bind h
          refine va_calli (va_runV (As := [.int (nI 1)]) (rest := [.ref (ak 0)]) ⟨hx, hb, hml, hown, hts⟩ (c_L_at l dC dI h_line h_line_typed k_line_typed H.size v_line_length v_line_typed (nI 1) v_118.1 v_118.2 hc_118) (cwV 1 hts (gV mlk_H_117 ins_L_at sel_L_at ini_L cod_L_at) rfl rfl rfl (by decide +kernel) ⟨Nat.le_of_ble_eq_true rfl, Nat.le_of_ble_eq_true rfl⟩) ⟨fun a U g mk q => by obtain ⟨q0, q1, qP, qK, qD⟩ := q; exact ⟨q0, q1, qP, va_K.moved (u := U) (U := U.calling g mk a) (Vm.Alike.refl U.vm) qK, qD⟩, va_recv hKc hPc (ci := 1) (q0 := 0) rfl rfl, fun U hU hW => ⟨rfl, by rw [hU], by rw [hU]; exact hPc, va_K.moved hW.alike hKc, hDc.weaken (fun _ _ _ _ => trivial)⟩⟩ rfl rfl hl.1 rfl (lv_room (Nat.le_of_ble_eq_true rfl)) d_H_carryOutLine_118 ⟨Nat.le_of_ble_eq_true rfl, Nat.le_of_ble_eq_true rfl⟩) hS (fun q _ h9 => hFc q h9) hFc (fun r_118 u t H1 locs ht hvm hw hB hz1 hk1 hS => ?_)
          obtain ⟨rfl, rfl⟩ := hw
          obtain ⟨hP1, hK1, hD1⟩ := hB
          rw [ht] at hP1
          obtain ⟨hP, hD⟩ := va_join (wr := [(h_o, .inr (3, [.ref h_line, .ref h_factSets, .int v_markedPlus, .int v_markedMinus, .ref h_program, .ref h_deduction])), (h_factSets, .inl (k_factSets, 2, .inl v_factSets)), (h_program, .inr (2, [.ref h_program_bodies, .int v_program_count])), (h_program_bodies, .inl (k_program_bodies, 2, .inl v_program_bodies))]) (w1 := [(h_line, .inr (1, [.ref h_line_typed, .int v_line_length])), (h_line_typed, .inl (k_line_typed, 32, .inl v_line_typed))]) hP hD [1, 2] [0, 3, 4, 5] rfl rfl (by decide) (by decide) hk1 hFc hP1 hD1
          have hP := hP.sub (ws' := [(h_o, .inr (3, [.ref h_line, .ref h_factSets, .int v_markedPlus, .int v_markedMinus, .ref h_program, .ref h_deduction])), (h_line, .inr (1, [.ref h_line_typed, .int v_line_length])), (h_line_typed, .inl (k_line_typed, 32, .inl v_line_typed)), (h_factSets, .inl (k_factSets, 2, .inl v_factSets)), (h_program, .inr (2, [.ref h_program_bodies, .int v_program_count])), (h_program_bodies, .inl (k_program_bodies, 2, .inl v_program_bodies))]) [0, 4, 5, 1, 2, 3] rfl
          have hD := hD.sub (ws' := [(h_o, .inr (3, [.ref h_line, .ref h_factSets, .int v_markedPlus, .int v_markedMinus, .ref h_program, .ref h_deduction])), (h_line, .inr (1, [.ref h_line_typed, .int v_line_length])), (h_line_typed, .inl (k_line_typed, 32, .inl v_line_typed)), (h_factSets, .inl (k_factSets, 2, .inl v_factSets)), (h_program, .inr (2, [.ref h_program_bodies, .int v_program_count])), (h_program_bodies, .inl (k_program_bodies, 2, .inl v_program_bodies))]) [0, 4, 5, 1, 2, 3] (by decide) rfl
          generalize H1 = H at hP hS ⊢
          have hPc := hP.sub (ws' := []) [] rfl
          have hDc := hD.sub (ws' := []) [] (by decide) rfl
          have hKc := hK.sub (tys' := []) [] rfl
          have hFc := va_free (wc := []) hD hS hA [] rfl
          obtain ⟨gq_121, h⟩ := of_guard h
          obtain ⟨v_121, hc_121, h⟩ := of_bind h
          skip
          refine va_calli (va_runV (As := [.int v_118.1]) (rest := []) ⟨hx, hb, hml, hown, hts⟩ (c_S_indexOf1 l dC dI tb ak av H.size 0 v_118.1 v_121.1 v_121.2 hc_121) (cwV 1 hts (gV mlk_H_138 ins_S_indexOf1 sel_S_indexOf1 ini_S cod_S_indexOf1) rfl rfl rfl (by decide +kernel) ⟨Nat.le_of_ble_eq_true rfl, Nat.le_of_ble_eq_true rfl⟩) ⟨fun a U g mk q => by obtain ⟨q0, q1, qP, qK, qD, qC⟩ := q; exact ⟨q0, q1, qP, va_K.moved (u := U) (U := U.calling g mk a) (Vm.Alike.refl U.vm) qK, qD, kw_blind qC⟩, hC.rcv (inN_lt gq_121) hS, fun U hU hW => ⟨rfl, by rw [hU], by rw [hU]; exact hPc, va_K.moved hW.alike hKc, hDc.weaken (fun _ _ _ _ => trivial), kw_call hC hS hFc hU hW⟩⟩ rfl rfl hl.1 rfl (lv_room (Nat.le_of_ble_eq_true rfl)) d_H_carryOutLine_121 ⟨Nat.le_of_ble_eq_true rfl, Nat.le_of_ble_eq_true rfl⟩) hS (fun q _ h9 => hFc q h9) hFc (fun r_121 u t H1 locs ht hvm hw hB hz1 hk1 hS => ?_)
          obtain ⟨rfl, rfl⟩ := hw
          obtain ⟨hP1, hK1, hD1⟩ := hB
          rw [ht] at hP1
          obtain ⟨hP, hD⟩ := va_join (wr := [(h_o, .inr (3, [.ref h_line, .ref h_factSets, .int v_markedPlus, .int v_markedMinus, .ref h_program, .ref h_deduction])), (h_line, .inr (1, [.ref h_line_typed, .int v_line_length])), (h_line_typed, .inl (k_line_typed, 32, .inl v_line_typed)), (h_factSets, .inl (k_factSets, 2, .inl v_factSets)), (h_program, .inr (2, [.ref h_program_bodies, .int v_program_count])), (h_program_bodies, .inl (k_program_bodies, 2, .inl v_program_bodies))]) (w1 := []) hP hD [] [0, 1, 2, 3, 4, 5] rfl rfl (by decide) (by decide) hk1 hFc hP1 hD1
          have hP := hP.sub (ws' := [(h_o, .inr (3, [.ref h_line, .ref h_factSets, .int v_markedPlus, .int v_markedMinus, .ref h_program, .ref h_deduction])), (h_line, .inr (1, [.ref h_line_typed, .int v_line_length])), (h_line_typed, .inl (k_line_typed, 32, .inl v_line_typed)), (h_factSets, .inl (k_factSets, 2, .inl v_factSets)), (h_program, .inr (2, [.ref h_program_bodies, .int v_program_count])), (h_program_bodies, .inl (k_program_bodies, 2, .inl v_program_bodies))]) [0, 1, 2, 3, 4, 5] rfl
          have hD := hD.sub (ws' := [(h_o, .inr (3, [.ref h_line, .ref h_factSets, .int v_markedPlus, .int v_markedMinus, .ref h_program, .ref h_deduction])), (h_line, .inr (1, [.ref h_line_typed, .int v_line_length])), (h_line_typed, .inl (k_line_typed, 32, .inl v_line_typed)), (h_factSets, .inl (k_factSets, 2, .inl v_factSets)), (h_program, .inr (2, [.ref h_program_bodies, .int v_program_count])), (h_program_bodies, .inl (k_program_bodies, 2, .inl v_program_bodies))]) [0, 1, 2, 3, 4, 5] (by decide) rfl
          generalize H1 = H at hP hS ⊢
          refine lv_istore_n (lv' := [(3, .int v_121.1), (2, .int v_38.1), (1, .int v_5.1), (0, .ref h_o)]) hx hb d_H_carryOutLine_124 rfl hl (by decide) rfl (fun ls hl => ?_)
          refine lv_iload_n hx hb d_H_carryOutLine_125 rfl (lv_at hl 0 rfl) ?_
          refine lv_iconst (v := (nI 2)) hx hb d_H_carryOutLine_126 (by decide) ?_
          refine lv_icmp_ne (tgt := 151) hx hb d_H_carryOutLine_127 (by decide) (fun c_127 => ?_) (fun c_127 => ?_)
          · have h := of_neg h c_127
            refine lv_aload_n hx hb d_H_carryOutLine_151 rfl (lv_at hl 3 rfl) ?_
            refine lv_iload_n hx hb d_H_carryOutLine_152 rfl (lv_at hl 0 rfl) ?_
            refine lv_iload_n hx hb d_H_carryOutLine_153 rfl (lv_at hl 1 rfl) ?_
            refine lv_iconst (v := (nI 0)) hx hb d_H_carryOutLine_154 (by decide) ?_
            have hPc := hP.sub (ws' := [(h_o, .inr (3, [.ref h_line, .ref h_factSets, .int v_markedPlus, .int v_markedMinus, .ref h_program, .ref h_deduction])), (h_factSets, .inl (k_factSets, 2, .inl v_factSets))]) [0, 3] rfl
            have hDc := hD.sub (ws' := [(h_o, .inr (3, [.ref h_line, .ref h_factSets, .int v_markedPlus, .int v_markedMinus, .ref h_program, .ref h_deduction])), (h_factSets, .inl (k_factSets, 2, .inl v_factSets))]) [0, 3] (by decide) rfl
            have hKc := hK.sub (tys' := [(k_factSets, .int)]) [1] rfl
            have hFc := va_free (wc := [(h_o, .inr (3, [.ref h_line, .ref h_factSets, .int v_markedPlus, .int v_markedMinus, .ref h_program, .ref h_deduction])), (h_factSets, .inl (k_factSets, 2, .inl v_factSets))]) hD hS hA [0, 3] rfl
            obtain ⟨v_155, hc_155, h⟩ := of_bind h
            refine va_calli (va_runV (As := [.int v_121.1, .int v_38.1, .int (nI 0)]) (rest := []) ⟨hx, hb, hml, hown, hts⟩ (c_H_changeFacts l dC dI h_o h_line h_factSets h_program h_deduction k_factSets H.size v_markedPlus v_markedMinus v_factSets v_121.1 v_38.1 (nI 0) v_155.1 v_155.2 hc_155) (cwV 3 hts (gV mlk_H_143 ins_H_changeFacts sel_H_changeFacts ini_H cod_H_changeFacts) rfl rfl rfl (by decide +kernel) ⟨Nat.le_of_ble_eq_true rfl, Nat.le_of_ble_eq_true rfl⟩) ⟨fun a U g mk q => by obtain ⟨q0, q1, qP, qK, qD⟩ := q; exact ⟨q0, q1, qP, va_K.moved (u := U) (U := U.calling g mk a) (Vm.Alike.refl U.vm) qK, qD⟩, va_recv hKc hPc (ci := 3) (q0 := 0) rfl rfl, fun U hU hW => ⟨rfl, by rw [hU], by rw [hU]; exact hPc, va_K.moved hW.alike hKc, hDc.weaken (fun _ _ _ _ => trivial)⟩⟩ rfl rfl hl.1 rfl (lv_room (Nat.le_of_ble_eq_true rfl)) d_H_carryOutLine_155 ⟨Nat.le_of_ble_eq_true rfl, Nat.le_of_ble_eq_true rfl⟩) hS (fun q _ h9 => hFc q h9) hFc (fun r_155 u t H1 locs ht hvm hw hB hz1 hk1 hS => ?_)
            obtain ⟨rfl, rfl⟩ := hw
            obtain ⟨hP1, hK1, hD1⟩ := hB
            rw [ht] at hP1
            obtain ⟨hP, hD⟩ := va_join (wr := [(h_line, .inr (1, [.ref h_line_typed, .int v_line_length])), (h_line_typed, .inl (k_line_typed, 32, .inl v_line_typed)), (h_program, .inr (2, [.ref h_program_bodies, .int v_program_count])), (h_program_bodies, .inl (k_program_bodies, 2, .inl v_program_bodies))]) (w1 := [(h_o, .inr (3, [.ref h_line, .ref h_factSets, .int v_markedPlus, .int v_markedMinus, .ref h_program, .ref h_deduction])), (h_factSets, .inl (k_factSets, 2, .inl v_155.2))]) hP hD [0, 3] [1, 2, 4, 5] rfl rfl (by decide) (by decide) hk1 hFc hP1 hD1
            have hP := hP.sub (ws' := [(h_o, .inr (3, [.ref h_line, .ref h_factSets, .int v_markedPlus, .int v_markedMinus, .ref h_program, .ref h_deduction])), (h_line, .inr (1, [.ref h_line_typed, .int v_line_length])), (h_line_typed, .inl (k_line_typed, 32, .inl v_line_typed)), (h_factSets, .inl (k_factSets, 2, .inl v_155.2)), (h_program, .inr (2, [.ref h_program_bodies, .int v_program_count])), (h_program_bodies, .inl (k_program_bodies, 2, .inl v_program_bodies))]) [4, 0, 1, 5, 2, 3] rfl
            have hD := hD.sub (ws' := [(h_o, .inr (3, [.ref h_line, .ref h_factSets, .int v_markedPlus, .int v_markedMinus, .ref h_program, .ref h_deduction])), (h_line, .inr (1, [.ref h_line_typed, .int v_line_length])), (h_line_typed, .inl (k_line_typed, 32, .inl v_line_typed)), (h_factSets, .inl (k_factSets, 2, .inl v_155.2)), (h_program, .inr (2, [.ref h_program_bodies, .int v_program_count])), (h_program_bodies, .inl (k_program_bodies, 2, .inl v_program_bodies))]) [4, 0, 1, 5, 2, 3] (by decide) rfl
            generalize H1 = H at hP hS ⊢
            rw [hQ]
            exact W.iret (v := v_155.1) hx hb hr (fun t ht hW => ⟨⟨v_155.1, (v_markedPlus, v_markedMinus, v_155.2, v_program_count, v_program_bodies), rfl, Prod.mk.inj (Option.some.inj h), by rw [ht]; exact hP, va_K.moved hW.alike hK, hD⟩, hS.F ht⟩) hS.2.2 d_H_carryOutLine_158
          · have h := of_pos h c_127
            refine lv_aload_n hx hb d_H_carryOutLine_130 rfl (lv_at hl 3 rfl) ?_
            refine lv_aload_n hx hb d_H_carryOutLine_131 rfl (lv_at hl 3 rfl) ?_
            refine va_get (D := (dC, dI)) (ci := 3) (v := .int v_markedPlus) (C := R_H) (T := F_H) (N := 6) hx hb hts lay_H hown hK hP 0 rfl rfl 2 (by decide) (hts _ flk_H_20) (fun _ h9 => h9) rfl d_H_carryOutLine_132 ?_
            refine lv_iload_n hx hb d_H_carryOutLine_135 rfl (lv_at hl 1 rfl) ?_
            refine lv_iconst (v := (-1 : Int32)) hx hb d_H_carryOutLine_136 (by decide) ?_
            refine lv_ixor hx hb d_H_carryOutLine_137 ?_
            refine lv_iand hx hb d_H_carryOutLine_138 ?_
            refine lv_aload_n hx hb d_H_carryOutLine_139 rfl (lv_at hl 3 rfl) ?_
            refine va_get (D := (dC, dI)) (ci := 3) (v := .int v_markedMinus) (C := R_H) (T := F_H) (N := 6) hx hb hts lay_H hown hK hP 0 rfl rfl 3 (by decide) (hts _ flk_H_24) (fun _ h9 => h9) rfl d_H_carryOutLine_140 ?_
            refine lv_iload_n hx hb d_H_carryOutLine_143 rfl (lv_at hl 1 rfl) ?_
            refine lv_iconst (v := (-1 : Int32)) hx hb d_H_carryOutLine_144 (by decide) ?_
            refine lv_ixor hx hb d_H_carryOutLine_145 ?_
            refine lv_iand hx hb d_H_carryOutLine_146 ?_
            have hPc := hP.sub (ws' := [(h_o, .inr (3, [.ref h_line, .ref h_factSets, .int v_markedPlus, .int v_markedMinus, .ref h_program, .ref h_deduction]))]) [0] rfl
            have hDc := hD.sub (ws' := [(h_o, .inr (3, [.ref h_line, .ref h_factSets, .int v_markedPlus, .int v_markedMinus, .ref h_program, .ref h_deduction]))]) [0] (by decide) rfl
            have hKc := hK.sub (tys' := []) [] rfl
            have hFc := va_free (wc := [(h_o, .inr (3, [.ref h_line, .ref h_factSets, .int v_markedPlus, .int v_markedMinus, .ref h_program, .ref h_deduction]))]) hD hS hA [0] rfl
            obtain ⟨v_147, hc_147, h⟩ := of_bind h
            refine va_calli (va_runV (As := [.int (v_markedPlus &&& (v_38.1 ^^^ (-1 : Int32))), .int (v_markedMinus &&& (v_38.1 ^^^ (-1 : Int32)))]) (rest := []) ⟨hx, hb, hml, hown, hts⟩ (c_H_changeMarks l dC dI h_o h_line h_factSets h_program h_deduction H.size v_markedPlus v_markedMinus (v_markedPlus &&& (v_38.1 ^^^ (-1 : Int32))) (v_markedMinus &&& (v_38.1 ^^^ (-1 : Int32))) v_147.1 v_147.2 hc_147) (cwV 2 hts (gV mlk_H_133 ins_H_changeMarks sel_H_changeMarks ini_H cod_H_changeMarks) rfl rfl rfl (by decide +kernel) ⟨Nat.le_of_ble_eq_true rfl, Nat.le_of_ble_eq_true rfl⟩) ⟨fun a U g mk q => by obtain ⟨q0, q1, qP, qK, qD⟩ := q; exact ⟨q0, q1, qP, va_K.moved (u := U) (U := U.calling g mk a) (Vm.Alike.refl U.vm) qK, qD⟩, va_recv hKc hPc (ci := 3) (q0 := 0) rfl rfl, fun U hU hW => ⟨rfl, by rw [hU], by rw [hU]; exact hPc, va_K.moved hW.alike hKc, hDc.weaken (fun _ _ _ _ => trivial)⟩⟩ rfl rfl hl.1 rfl (lv_room (Nat.le_of_ble_eq_true rfl)) d_H_carryOutLine_147 ⟨Nat.le_of_ble_eq_true rfl, Nat.le_of_ble_eq_true rfl⟩) hS (fun q _ h9 => hFc q h9) hFc (fun r_147 u t H1 locs ht hvm hw hB hz1 hk1 hS => ?_)
            obtain ⟨rfl, rfl⟩ := hw
            obtain ⟨hP1, hK1, hD1⟩ := hB
            rw [ht] at hP1
            obtain ⟨hP, hD⟩ := va_join (wr := [(h_line, .inr (1, [.ref h_line_typed, .int v_line_length])), (h_line_typed, .inl (k_line_typed, 32, .inl v_line_typed)), (h_factSets, .inl (k_factSets, 2, .inl v_factSets)), (h_program, .inr (2, [.ref h_program_bodies, .int v_program_count])), (h_program_bodies, .inl (k_program_bodies, 2, .inl v_program_bodies))]) (w1 := [(h_o, .inr (3, [.ref h_line, .ref h_factSets, .int v_147.2.1, .int v_147.2.2, .ref h_program, .ref h_deduction]))]) hP hD [0] [1, 2, 3, 4, 5] rfl rfl (by decide) (by decide) hk1 hFc hP1 hD1
            have hP := hP.sub (ws' := [(h_o, .inr (3, [.ref h_line, .ref h_factSets, .int v_147.2.1, .int v_147.2.2, .ref h_program, .ref h_deduction])), (h_line, .inr (1, [.ref h_line_typed, .int v_line_length])), (h_line_typed, .inl (k_line_typed, 32, .inl v_line_typed)), (h_factSets, .inl (k_factSets, 2, .inl v_factSets)), (h_program, .inr (2, [.ref h_program_bodies, .int v_program_count])), (h_program_bodies, .inl (k_program_bodies, 2, .inl v_program_bodies))]) [5, 0, 1, 2, 3, 4] rfl
            have hD := hD.sub (ws' := [(h_o, .inr (3, [.ref h_line, .ref h_factSets, .int v_147.2.1, .int v_147.2.2, .ref h_program, .ref h_deduction])), (h_line, .inr (1, [.ref h_line_typed, .int v_line_length])), (h_line_typed, .inl (k_line_typed, 32, .inl v_line_typed)), (h_factSets, .inl (k_factSets, 2, .inl v_factSets)), (h_program, .inr (2, [.ref h_program_bodies, .int v_program_count])), (h_program_bodies, .inl (k_program_bodies, 2, .inl v_program_bodies))]) [5, 0, 1, 2, 3, 4] (by decide) rfl
            generalize H1 = H at hP hS ⊢
            rw [hQ]
            exact W.iret (v := v_147.1) hx hb hr (fun t ht hW => ⟨⟨v_147.1, (v_147.2.1, v_147.2.2, v_factSets, v_program_count, v_program_bodies), rfl, Prod.mk.inj (Option.some.inj h), by rw [ht]; exact hP, va_K.moved hW.alike hK, hD⟩, hS.F ht⟩) hS.2.2 d_H_carryOutLine_150
        · have h := of_neg h c_95
          refine lv_aload_n hx hb d_H_carryOutLine_98 rfl (lv_at hl 2 rfl) ?_
          refine va_ldcS hx hb hown hC.str_H_136 d_H_carryOutLine_99 ?_
          refine lv_iload_n hx hb d_H_carryOutLine_101 rfl (lv_at hl 1 rfl) ?_
          have hPc := hP.sub (ws' := []) [] rfl
          have hDc := hD.sub (ws' := []) [] (by decide) rfl
          have hKc := hK.sub (tys' := []) [] rfl
          have hFc := va_free (wc := []) hD hS hA [] rfl
          obtain ⟨gq_102, h⟩ := of_guard h
          obtain ⟨v_102, hc_102, h⟩ := of_bind h
          skip
          refine va_calli (va_runV (As := [.int v_5.1]) (rest := [.ref h_o]) ⟨hx, hb, hml, hown, hts⟩ (c_S_indexOf1 l dC dI tb ak av H.size 0 v_5.1 v_102.1 v_102.2 hc_102) (cwV 1 hts (gV mlk_H_138 ins_S_indexOf1 sel_S_indexOf1 ini_S cod_S_indexOf1) rfl rfl rfl (by decide +kernel) ⟨Nat.le_of_ble_eq_true rfl, Nat.le_of_ble_eq_true rfl⟩) ⟨fun a U g mk q => by obtain ⟨q0, q1, qP, qK, qD, qC⟩ := q; exact ⟨q0, q1, qP, va_K.moved (u := U) (U := U.calling g mk a) (Vm.Alike.refl U.vm) qK, qD, kw_blind qC⟩, hC.rcv (inN_lt gq_102) hS, fun U hU hW => ⟨rfl, by rw [hU], by rw [hU]; exact hPc, va_K.moved hW.alike hKc, hDc.weaken (fun _ _ _ _ => trivial), kw_call hC hS hFc hU hW⟩⟩ rfl rfl hl.1 rfl (lv_room (Nat.le_of_ble_eq_true rfl)) d_H_carryOutLine_102 ⟨Nat.le_of_ble_eq_true rfl, Nat.le_of_ble_eq_true rfl⟩) hS (fun q _ h9 => hFc q h9) hFc (fun r_102 u t H1 locs ht hvm hw hB hz1 hk1 hS => ?_)
          obtain ⟨rfl, rfl⟩ := hw
          obtain ⟨hP1, hK1, hD1⟩ := hB
          rw [ht] at hP1
          obtain ⟨hP, hD⟩ := va_join (wr := [(h_o, .inr (3, [.ref h_line, .ref h_factSets, .int v_markedPlus, .int v_markedMinus, .ref h_program, .ref h_deduction])), (h_line, .inr (1, [.ref h_line_typed, .int v_line_length])), (h_line_typed, .inl (k_line_typed, 32, .inl v_line_typed)), (h_factSets, .inl (k_factSets, 2, .inl v_factSets)), (h_program, .inr (2, [.ref h_program_bodies, .int v_program_count])), (h_program_bodies, .inl (k_program_bodies, 2, .inl v_program_bodies))]) (w1 := []) hP hD [] [0, 1, 2, 3, 4, 5] rfl rfl (by decide) (by decide) hk1 hFc hP1 hD1
          have hP := hP.sub (ws' := [(h_o, .inr (3, [.ref h_line, .ref h_factSets, .int v_markedPlus, .int v_markedMinus, .ref h_program, .ref h_deduction])), (h_line, .inr (1, [.ref h_line_typed, .int v_line_length])), (h_line_typed, .inl (k_line_typed, 32, .inl v_line_typed)), (h_factSets, .inl (k_factSets, 2, .inl v_factSets)), (h_program, .inr (2, [.ref h_program_bodies, .int v_program_count])), (h_program_bodies, .inl (k_program_bodies, 2, .inl v_program_bodies))]) [0, 1, 2, 3, 4, 5] rfl
          have hD := hD.sub (ws' := [(h_o, .inr (3, [.ref h_line, .ref h_factSets, .int v_markedPlus, .int v_markedMinus, .ref h_program, .ref h_deduction])), (h_line, .inr (1, [.ref h_line_typed, .int v_line_length])), (h_line_typed, .inl (k_line_typed, 32, .inl v_line_typed)), (h_factSets, .inl (k_factSets, 2, .inl v_factSets)), (h_program, .inr (2, [.ref h_program_bodies, .int v_program_count])), (h_program_bodies, .inl (k_program_bodies, 2, .inl v_program_bodies))]) [0, 1, 2, 3, 4, 5] (by decide) rfl
          generalize H1 = H at hP hS ⊢
          refine lv_iload_n hx hb d_H_carryOutLine_105 rfl (lv_at hl 0 rfl) ?_
          refine lv_iconst (v := (nI 1)) hx hb d_H_carryOutLine_106 (by decide) ?_
          have hPc := hP.sub (ws' := [(h_o, .inr (3, [.ref h_line, .ref h_factSets, .int v_markedPlus, .int v_markedMinus, .ref h_program, .ref h_deduction])), (h_factSets, .inl (k_factSets, 2, .inl v_factSets))]) [0, 3] rfl
          have hDc := hD.sub (ws' := [(h_o, .inr (3, [.ref h_line, .ref h_factSets, .int v_markedPlus, .int v_markedMinus, .ref h_program, .ref h_deduction])), (h_factSets, .inl (k_factSets, 2, .inl v_factSets))]) [0, 3] (by decide) rfl
          have hKc := hK.sub (tys' := [(k_factSets, .int)]) [1] rfl
          have hFc := va_free (wc := [(h_o, .inr (3, [.ref h_line, .ref h_factSets, .int v_markedPlus, .int v_markedMinus, .ref h_program, .ref h_deduction])), (h_factSets, .inl (k_factSets, 2, .inl v_factSets))]) hD hS hA [0, 3] rfl
          obtain ⟨v_107, hc_107, h⟩ := of_bind h
          refine va_calli (va_runV (As := [.int v_102.1, .int v_38.1, .int (nI 1)]) (rest := []) ⟨hx, hb, hml, hown, hts⟩ (c_H_changeFacts l dC dI h_o h_line h_factSets h_program h_deduction k_factSets H.size v_markedPlus v_markedMinus v_factSets v_102.1 v_38.1 (nI 1) v_107.1 v_107.2 hc_107) (cwV 3 hts (gV mlk_H_143 ins_H_changeFacts sel_H_changeFacts ini_H cod_H_changeFacts) rfl rfl rfl (by decide +kernel) ⟨Nat.le_of_ble_eq_true rfl, Nat.le_of_ble_eq_true rfl⟩) ⟨fun a U g mk q => by obtain ⟨q0, q1, qP, qK, qD⟩ := q; exact ⟨q0, q1, qP, va_K.moved (u := U) (U := U.calling g mk a) (Vm.Alike.refl U.vm) qK, qD⟩, va_recv hKc hPc (ci := 3) (q0 := 0) rfl rfl, fun U hU hW => ⟨rfl, by rw [hU], by rw [hU]; exact hPc, va_K.moved hW.alike hKc, hDc.weaken (fun _ _ _ _ => trivial)⟩⟩ rfl rfl hl.1 rfl (lv_room (Nat.le_of_ble_eq_true rfl)) d_H_carryOutLine_107 ⟨Nat.le_of_ble_eq_true rfl, Nat.le_of_ble_eq_true rfl⟩) hS (fun q _ h9 => hFc q h9) hFc (fun r_107 u t H1 locs ht hvm hw hB hz1 hk1 hS => ?_)
          obtain ⟨rfl, rfl⟩ := hw
          obtain ⟨hP1, hK1, hD1⟩ := hB
          rw [ht] at hP1
          obtain ⟨hP, hD⟩ := va_join (wr := [(h_line, .inr (1, [.ref h_line_typed, .int v_line_length])), (h_line_typed, .inl (k_line_typed, 32, .inl v_line_typed)), (h_program, .inr (2, [.ref h_program_bodies, .int v_program_count])), (h_program_bodies, .inl (k_program_bodies, 2, .inl v_program_bodies))]) (w1 := [(h_o, .inr (3, [.ref h_line, .ref h_factSets, .int v_markedPlus, .int v_markedMinus, .ref h_program, .ref h_deduction])), (h_factSets, .inl (k_factSets, 2, .inl v_107.2))]) hP hD [0, 3] [1, 2, 4, 5] rfl rfl (by decide) (by decide) hk1 hFc hP1 hD1
          have hP := hP.sub (ws' := [(h_o, .inr (3, [.ref h_line, .ref h_factSets, .int v_markedPlus, .int v_markedMinus, .ref h_program, .ref h_deduction])), (h_line, .inr (1, [.ref h_line_typed, .int v_line_length])), (h_line_typed, .inl (k_line_typed, 32, .inl v_line_typed)), (h_factSets, .inl (k_factSets, 2, .inl v_107.2)), (h_program, .inr (2, [.ref h_program_bodies, .int v_program_count])), (h_program_bodies, .inl (k_program_bodies, 2, .inl v_program_bodies))]) [4, 0, 1, 5, 2, 3] rfl
          have hD := hD.sub (ws' := [(h_o, .inr (3, [.ref h_line, .ref h_factSets, .int v_markedPlus, .int v_markedMinus, .ref h_program, .ref h_deduction])), (h_line, .inr (1, [.ref h_line_typed, .int v_line_length])), (h_line_typed, .inl (k_line_typed, 32, .inl v_line_typed)), (h_factSets, .inl (k_factSets, 2, .inl v_107.2)), (h_program, .inr (2, [.ref h_program_bodies, .int v_program_count])), (h_program_bodies, .inl (k_program_bodies, 2, .inl v_program_bodies))]) [4, 0, 1, 5, 2, 3] (by decide) rfl
          generalize H1 = H at hP hS ⊢
          rw [hQ]
          exact W.iret (v := v_107.1) hx hb hr (fun t ht hW => ⟨⟨v_107.1, (v_markedPlus, v_markedMinus, v_107.2, v_program_count, v_program_bodies), rfl, Prod.mk.inj (Option.some.inj h), by rw [ht]; exact hP, va_K.moved hW.alike hK, hD⟩, hS.F ht⟩) hS.2.2 d_H_carryOutLine_110
      · have h := of_pos h c_70
        refine lv_aload_n hx hb d_H_carryOutLine_73 rfl (lv_at hl 2 rfl) ?_
        refine lv_aload_n hx hb d_H_carryOutLine_74 rfl (lv_at hl 2 rfl) ?_
        refine va_get (D := (dC, dI)) (ci := 3) (v := .int v_markedPlus) (C := R_H) (T := F_H) (N := 6) hx hb hts lay_H hown hK hP 0 rfl rfl 2 (by decide) (hts _ flk_H_20) (fun _ h9 => h9) rfl d_H_carryOutLine_75 ?_
        refine lv_iload_n hx hb d_H_carryOutLine_78 rfl (lv_at hl 0 rfl) ?_
        refine lv_iconst (v := (-1 : Int32)) hx hb d_H_carryOutLine_79 (by decide) ?_
        refine lv_ixor hx hb d_H_carryOutLine_80 ?_
        refine lv_iand hx hb d_H_carryOutLine_81 ?_
        refine lv_aload_n hx hb d_H_carryOutLine_82 rfl (lv_at hl 2 rfl) ?_
        refine va_get (D := (dC, dI)) (ci := 3) (v := .int v_markedMinus) (C := R_H) (T := F_H) (N := 6) hx hb hts lay_H hown hK hP 0 rfl rfl 3 (by decide) (hts _ flk_H_24) (fun _ h9 => h9) rfl d_H_carryOutLine_83 ?_
        refine lv_iload_n hx hb d_H_carryOutLine_86 rfl (lv_at hl 0 rfl) ?_
        refine lv_ior hx hb d_H_carryOutLine_87 ?_
        have hPc := hP.sub (ws' := [(h_o, .inr (3, [.ref h_line, .ref h_factSets, .int v_markedPlus, .int v_markedMinus, .ref h_program, .ref h_deduction]))]) [0] rfl
        have hDc := hD.sub (ws' := [(h_o, .inr (3, [.ref h_line, .ref h_factSets, .int v_markedPlus, .int v_markedMinus, .ref h_program, .ref h_deduction]))]) [0] (by decide) rfl
        have hKc := hK.sub (tys' := []) [] rfl
        have hFc := va_free (wc := [(h_o, .inr (3, [.ref h_line, .ref h_factSets, .int v_markedPlus, .int v_markedMinus, .ref h_program, .ref h_deduction]))]) hD hS hA [0] rfl
        obtain ⟨v_88, hc_88, h⟩ := of_bind h
        refine va_calli (va_runV (As := [.int (v_markedPlus &&& (v_38.1 ^^^ (-1 : Int32))), .int (v_markedMinus ||| v_38.1)]) (rest := []) ⟨hx, hb, hml, hown, hts⟩ (c_H_changeMarks l dC dI h_o h_line h_factSets h_program h_deduction H.size v_markedPlus v_markedMinus (v_markedPlus &&& (v_38.1 ^^^ (-1 : Int32))) (v_markedMinus ||| v_38.1) v_88.1 v_88.2 hc_88) (cwV 2 hts (gV mlk_H_133 ins_H_changeMarks sel_H_changeMarks ini_H cod_H_changeMarks) rfl rfl rfl (by decide +kernel) ⟨Nat.le_of_ble_eq_true rfl, Nat.le_of_ble_eq_true rfl⟩) ⟨fun a U g mk q => by obtain ⟨q0, q1, qP, qK, qD⟩ := q; exact ⟨q0, q1, qP, va_K.moved (u := U) (U := U.calling g mk a) (Vm.Alike.refl U.vm) qK, qD⟩, va_recv hKc hPc (ci := 3) (q0 := 0) rfl rfl, fun U hU hW => ⟨rfl, by rw [hU], by rw [hU]; exact hPc, va_K.moved hW.alike hKc, hDc.weaken (fun _ _ _ _ => trivial)⟩⟩ rfl rfl hl.1 rfl (lv_room (Nat.le_of_ble_eq_true rfl)) d_H_carryOutLine_88 ⟨Nat.le_of_ble_eq_true rfl, Nat.le_of_ble_eq_true rfl⟩) hS (fun q _ h9 => hFc q h9) hFc (fun r_88 u t H1 locs ht hvm hw hB hz1 hk1 hS => ?_)
        obtain ⟨rfl, rfl⟩ := hw
        obtain ⟨hP1, hK1, hD1⟩ := hB
        rw [ht] at hP1
        obtain ⟨hP, hD⟩ := va_join (wr := [(h_line, .inr (1, [.ref h_line_typed, .int v_line_length])), (h_line_typed, .inl (k_line_typed, 32, .inl v_line_typed)), (h_factSets, .inl (k_factSets, 2, .inl v_factSets)), (h_program, .inr (2, [.ref h_program_bodies, .int v_program_count])), (h_program_bodies, .inl (k_program_bodies, 2, .inl v_program_bodies))]) (w1 := [(h_o, .inr (3, [.ref h_line, .ref h_factSets, .int v_88.2.1, .int v_88.2.2, .ref h_program, .ref h_deduction]))]) hP hD [0] [1, 2, 3, 4, 5] rfl rfl (by decide) (by decide) hk1 hFc hP1 hD1
        have hP := hP.sub (ws' := [(h_o, .inr (3, [.ref h_line, .ref h_factSets, .int v_88.2.1, .int v_88.2.2, .ref h_program, .ref h_deduction])), (h_line, .inr (1, [.ref h_line_typed, .int v_line_length])), (h_line_typed, .inl (k_line_typed, 32, .inl v_line_typed)), (h_factSets, .inl (k_factSets, 2, .inl v_factSets)), (h_program, .inr (2, [.ref h_program_bodies, .int v_program_count])), (h_program_bodies, .inl (k_program_bodies, 2, .inl v_program_bodies))]) [5, 0, 1, 2, 3, 4] rfl
        have hD := hD.sub (ws' := [(h_o, .inr (3, [.ref h_line, .ref h_factSets, .int v_88.2.1, .int v_88.2.2, .ref h_program, .ref h_deduction])), (h_line, .inr (1, [.ref h_line_typed, .int v_line_length])), (h_line_typed, .inl (k_line_typed, 32, .inl v_line_typed)), (h_factSets, .inl (k_factSets, 2, .inl v_factSets)), (h_program, .inr (2, [.ref h_program_bodies, .int v_program_count])), (h_program_bodies, .inl (k_program_bodies, 2, .inl v_program_bodies))]) [5, 0, 1, 2, 3, 4] (by decide) rfl
        generalize H1 = H at hP hS ⊢
        rw [hQ]
        exact W.iret (v := v_88.1) hx hb hr (fun t ht hW => ⟨⟨v_88.1, (v_88.2.1, v_88.2.2, v_factSets, v_program_count, v_program_bodies), rfl, Prod.mk.inj (Option.some.inj h), by rw [ht]; exact hP, va_K.moved hW.alike hK, hD⟩, hS.F ht⟩) hS.2.2 d_H_carryOutLine_91
    · have h := of_pos h c_45
      refine lv_aload_n hx hb d_H_carryOutLine_48 rfl (lv_at hl 2 rfl) ?_
      refine lv_aload_n hx hb d_H_carryOutLine_49 rfl (lv_at hl 2 rfl) ?_
      refine va_get (D := (dC, dI)) (ci := 3) (v := .int v_markedPlus) (C := R_H) (T := F_H) (N := 6) hx hb hts lay_H hown hK hP 0 rfl rfl 2 (by decide) (hts _ flk_H_20) (fun _ h9 => h9) rfl d_H_carryOutLine_50 ?_
      refine lv_iload_n hx hb d_H_carryOutLine_53 rfl (lv_at hl 0 rfl) ?_
      refine lv_ior hx hb d_H_carryOutLine_54 ?_
      refine lv_aload_n hx hb d_H_carryOutLine_55 rfl (lv_at hl 2 rfl) ?_
      refine va_get (D := (dC, dI)) (ci := 3) (v := .int v_markedMinus) (C := R_H) (T := F_H) (N := 6) hx hb hts lay_H hown hK hP 0 rfl rfl 3 (by decide) (hts _ flk_H_24) (fun _ h9 => h9) rfl d_H_carryOutLine_56 ?_
      refine lv_iload_n hx hb d_H_carryOutLine_59 rfl (lv_at hl 0 rfl) ?_
      refine lv_iconst (v := (-1 : Int32)) hx hb d_H_carryOutLine_60 (by decide) ?_
      refine lv_ixor hx hb d_H_carryOutLine_61 ?_
      refine lv_iand hx hb d_H_carryOutLine_62 ?_
      have hPc := hP.sub (ws' := [(h_o, .inr (3, [.ref h_line, .ref h_factSets, .int v_markedPlus, .int v_markedMinus, .ref h_program, .ref h_deduction]))]) [0] rfl
      have hDc := hD.sub (ws' := [(h_o, .inr (3, [.ref h_line, .ref h_factSets, .int v_markedPlus, .int v_markedMinus, .ref h_program, .ref h_deduction]))]) [0] (by decide) rfl
      have hKc := hK.sub (tys' := []) [] rfl
      have hFc := va_free (wc := [(h_o, .inr (3, [.ref h_line, .ref h_factSets, .int v_markedPlus, .int v_markedMinus, .ref h_program, .ref h_deduction]))]) hD hS hA [0] rfl
      obtain ⟨v_63, hc_63, h⟩ := of_bind h
      refine va_calli (va_runV (As := [.int (v_markedPlus ||| v_38.1), .int (v_markedMinus &&& (v_38.1 ^^^ (-1 : Int32)))]) (rest := []) ⟨hx, hb, hml, hown, hts⟩ (c_H_changeMarks l dC dI h_o h_line h_factSets h_program h_deduction H.size v_markedPlus v_markedMinus (v_markedPlus ||| v_38.1) (v_markedMinus &&& (v_38.1 ^^^ (-1 : Int32))) v_63.1 v_63.2 hc_63) (cwV 2 hts (gV mlk_H_133 ins_H_changeMarks sel_H_changeMarks ini_H cod_H_changeMarks) rfl rfl rfl (by decide +kernel) ⟨Nat.le_of_ble_eq_true rfl, Nat.le_of_ble_eq_true rfl⟩) ⟨fun a U g mk q => by obtain ⟨q0, q1, qP, qK, qD⟩ := q; exact ⟨q0, q1, qP, va_K.moved (u := U) (U := U.calling g mk a) (Vm.Alike.refl U.vm) qK, qD⟩, va_recv hKc hPc (ci := 3) (q0 := 0) rfl rfl, fun U hU hW => ⟨rfl, by rw [hU], by rw [hU]; exact hPc, va_K.moved hW.alike hKc, hDc.weaken (fun _ _ _ _ => trivial)⟩⟩ rfl rfl hl.1 rfl (lv_room (Nat.le_of_ble_eq_true rfl)) d_H_carryOutLine_63 ⟨Nat.le_of_ble_eq_true rfl, Nat.le_of_ble_eq_true rfl⟩) hS (fun q _ h9 => hFc q h9) hFc (fun r_63 u t H1 locs ht hvm hw hB hz1 hk1 hS => ?_)
      obtain ⟨rfl, rfl⟩ := hw
      obtain ⟨hP1, hK1, hD1⟩ := hB
      rw [ht] at hP1
      obtain ⟨hP, hD⟩ := va_join (wr := [(h_line, .inr (1, [.ref h_line_typed, .int v_line_length])), (h_line_typed, .inl (k_line_typed, 32, .inl v_line_typed)), (h_factSets, .inl (k_factSets, 2, .inl v_factSets)), (h_program, .inr (2, [.ref h_program_bodies, .int v_program_count])), (h_program_bodies, .inl (k_program_bodies, 2, .inl v_program_bodies))]) (w1 := [(h_o, .inr (3, [.ref h_line, .ref h_factSets, .int v_63.2.1, .int v_63.2.2, .ref h_program, .ref h_deduction]))]) hP hD [0] [1, 2, 3, 4, 5] rfl rfl (by decide) (by decide) hk1 hFc hP1 hD1
      have hP := hP.sub (ws' := [(h_o, .inr (3, [.ref h_line, .ref h_factSets, .int v_63.2.1, .int v_63.2.2, .ref h_program, .ref h_deduction])), (h_line, .inr (1, [.ref h_line_typed, .int v_line_length])), (h_line_typed, .inl (k_line_typed, 32, .inl v_line_typed)), (h_factSets, .inl (k_factSets, 2, .inl v_factSets)), (h_program, .inr (2, [.ref h_program_bodies, .int v_program_count])), (h_program_bodies, .inl (k_program_bodies, 2, .inl v_program_bodies))]) [5, 0, 1, 2, 3, 4] rfl
      have hD := hD.sub (ws' := [(h_o, .inr (3, [.ref h_line, .ref h_factSets, .int v_63.2.1, .int v_63.2.2, .ref h_program, .ref h_deduction])), (h_line, .inr (1, [.ref h_line_typed, .int v_line_length])), (h_line_typed, .inl (k_line_typed, 32, .inl v_line_typed)), (h_factSets, .inl (k_factSets, 2, .inl v_factSets)), (h_program, .inr (2, [.ref h_program_bodies, .int v_program_count])), (h_program_bodies, .inl (k_program_bodies, 2, .inl v_program_bodies))]) [5, 0, 1, 2, 3, 4] (by decide) rfl
      generalize H1 = H at hP hS ⊢
      rw [hQ]
      exact W.iret (v := v_63.1) hx hb hr (fun t ht hW => ⟨⟨v_63.1, (v_63.2.1, v_63.2.2, v_factSets, v_program_count, v_program_bodies), rfl, Prod.mk.inj (Option.some.inj h), by rw [ht]; exact hP, va_K.moved hW.alike hK, hD⟩, hS.F ht⟩) hS.2.2 d_H_carryOutLine_66
  · have h := of_pos h c_12
    refine lv_aload_n hx hb d_H_carryOutLine_15 rfl (lv_at hl 1 rfl) ?_
    refine lv_aload_n hx hb d_H_carryOutLine_16 rfl (lv_at hl 1 rfl) ?_
    refine va_get (D := (dC, dI)) (ci := 3) (v := .ref h_line) (C := R_H) (T := F_H) (N := 6) hx hb hts lay_H hown hK hP 0 rfl rfl 0 (by decide) (hts _ flk_H_12) (fun _ h9 => h9) rfl d_H_carryOutLine_17 ?_
    have hPc := hP.sub (ws' := [(h_line, .inr (1, [.ref h_line_typed, .int v_line_length])), (h_line_typed, .inl (k_line_typed, 32, .inl v_line_typed))]) [1, 2] rfl
    have hDc := hD.sub (ws' := [(h_line, .inr (1, [.ref h_line_typed, .int v_line_length])), (h_line_typed, .inl (k_line_typed, 32, .inl v_line_typed))]) [1, 2] (by decide) rfl
    have hKc := hK.sub (tys' := [(k_line_typed, .char)]) [0] rfl
    have hFc := va_free (wc := [(h_line, .inr (1, [.ref h_line_typed, .int v_line_length])), (h_line_typed, .inl (k_line_typed, 32, .inl v_line_typed))]) hD hS hA [1, 2] rfl
    obtain ⟨v_20, hc_20, h⟩ := of_bind h
    refine va_calli (va_runV (As := []) (rest := [.ref h_o]) ⟨hx, hb, hml, hown, hts⟩ (c_L_typedBody l dC dI h_line h_line_typed k_line_typed tb ak av H.size v_line_length v_line_typed v_20.1 v_20.2 hc_20) (cwV 0 hts (gV mlk_H_121 ins_L_typedBody sel_L_typedBody ini_L cod_L_typedBody) rfl rfl rfl (by decide +kernel) ⟨Nat.le_of_ble_eq_true rfl, Nat.le_of_ble_eq_true rfl⟩) ⟨fun a U g mk q => by obtain ⟨q0, q1, qP, qK, qD, qC⟩ := q; exact ⟨q0, q1, qP, va_K.moved (u := U) (U := U.calling g mk a) (Vm.Alike.refl U.vm) qK, qD, kw_blind qC⟩, va_recv hKc hPc (ci := 1) (q0 := 0) rfl rfl, fun U hU hW => ⟨rfl, by rw [hU], by rw [hU]; exact hPc, va_K.moved hW.alike hKc, hDc.weaken (fun _ _ _ _ => trivial), kw_call hC hS hFc hU hW⟩⟩ rfl rfl hl.1 rfl (lv_room (Nat.le_of_ble_eq_true rfl)) d_H_carryOutLine_20 ⟨Nat.le_of_ble_eq_true rfl, Nat.le_of_ble_eq_true rfl⟩) hS (fun q _ h9 => hFc q h9) hFc (fun r_20 u t H1 locs ht hvm hw hB hz1 hk1 hS => ?_)
    obtain ⟨rfl, rfl⟩ := hw
    obtain ⟨hP1, hK1, hD1⟩ := hB
    rw [ht] at hP1
    obtain ⟨hP, hD⟩ := va_join (wr := [(h_o, .inr (3, [.ref h_line, .ref h_factSets, .int v_markedPlus, .int v_markedMinus, .ref h_program, .ref h_deduction])), (h_factSets, .inl (k_factSets, 2, .inl v_factSets)), (h_program, .inr (2, [.ref h_program_bodies, .int v_program_count])), (h_program_bodies, .inl (k_program_bodies, 2, .inl v_program_bodies))]) (w1 := [(h_line, .inr (1, [.ref h_line_typed, .int v_line_length])), (h_line_typed, .inl (k_line_typed, 32, .inl v_line_typed))]) hP hD [1, 2] [0, 3, 4, 5] rfl rfl (by decide) (by decide) hk1 hFc hP1 hD1
    have hP := hP.sub (ws' := [(h_o, .inr (3, [.ref h_line, .ref h_factSets, .int v_markedPlus, .int v_markedMinus, .ref h_program, .ref h_deduction])), (h_line, .inr (1, [.ref h_line_typed, .int v_line_length])), (h_line_typed, .inl (k_line_typed, 32, .inl v_line_typed)), (h_factSets, .inl (k_factSets, 2, .inl v_factSets)), (h_program, .inr (2, [.ref h_program_bodies, .int v_program_count])), (h_program_bodies, .inl (k_program_bodies, 2, .inl v_program_bodies))]) [0, 4, 5, 1, 2, 3] rfl
    have hD := hD.sub (ws' := [(h_o, .inr (3, [.ref h_line, .ref h_factSets, .int v_markedPlus, .int v_markedMinus, .ref h_program, .ref h_deduction])), (h_line, .inr (1, [.ref h_line_typed, .int v_line_length])), (h_line_typed, .inl (k_line_typed, 32, .inl v_line_typed)), (h_factSets, .inl (k_factSets, 2, .inl v_factSets)), (h_program, .inr (2, [.ref h_program_bodies, .int v_program_count])), (h_program_bodies, .inl (k_program_bodies, 2, .inl v_program_bodies))]) [0, 4, 5, 1, 2, 3] (by decide) rfl
    generalize H1 = H at hP hS ⊢
    refine lv_aload_n hx hb d_H_carryOutLine_23 rfl (lv_at hl 1 rfl) ?_
    refine va_get (D := (dC, dI)) (ci := 3) (v := .ref h_line) (C := R_H) (T := F_H) (N := 6) hx hb hts lay_H hown hK hP 0 rfl rfl 0 (by decide) (hts _ flk_H_12) (fun _ h9 => h9) rfl d_H_carryOutLine_24 ?_
    have hPc := hP.sub (ws' := [(h_line, .inr (1, [.ref h_line_typed, .int v_line_length]))]) [1] rfl
    have hDc := hD.sub (ws' := [(h_line, .inr (1, [.ref h_line_typed, .int v_line_length]))]) [1] (by decide) rfl
    have hKc := hK.sub (tys' := []) [] rfl
    have hFc := va_free (wc := [(h_line, .inr (1, [.ref h_line_typed, .int v_line_length]))]) hD hS hA [1] rfl
    obtain ⟨v_27, hc_27, h⟩ := of_bind h
    refine va_calli (va_runV (As := []) (rest := [.int v_20.1, .ref h_o]) ⟨hx, hb, hml, hown, hts⟩ (c_L_typedLiterals l dC dI h_line h_line_typed H.size v_line_length v_27.1 v_27.2 hc_27) (cwV 0 hts (gV mlk_H_124 ins_L_typedLiterals sel_L_typedLiterals ini_L cod_L_typedLiterals) rfl rfl rfl (by decide +kernel) ⟨Nat.le_of_ble_eq_true rfl, Nat.le_of_ble_eq_true rfl⟩) ⟨fun a U g mk q => by obtain ⟨q0, q1, qP, qK, qD⟩ := q; exact ⟨q0, q1, qP, va_K.moved (u := U) (U := U.calling g mk a) (Vm.Alike.refl U.vm) qK, qD⟩, va_recv hKc hPc (ci := 1) (q0 := 0) rfl rfl, fun U hU hW => ⟨rfl, by rw [hU], by rw [hU]; exact hPc, va_K.moved hW.alike hKc, hDc.weaken (fun _ _ _ _ => trivial)⟩⟩ rfl rfl hl.1 rfl (lv_room (Nat.le_of_ble_eq_true rfl)) d_H_carryOutLine_27 ⟨Nat.le_of_ble_eq_true rfl, Nat.le_of_ble_eq_true rfl⟩) hS (fun q _ h9 => hFc q h9) hFc (fun r_27 u t H1 locs ht hvm hw hB hz1 hk1 hS => ?_)
    obtain ⟨rfl, rfl⟩ := hw
    obtain ⟨hP1, hK1, hD1⟩ := hB
    rw [ht] at hP1
    obtain ⟨hP, hD⟩ := va_join (wr := [(h_o, .inr (3, [.ref h_line, .ref h_factSets, .int v_markedPlus, .int v_markedMinus, .ref h_program, .ref h_deduction])), (h_line_typed, .inl (k_line_typed, 32, .inl v_line_typed)), (h_factSets, .inl (k_factSets, 2, .inl v_factSets)), (h_program, .inr (2, [.ref h_program_bodies, .int v_program_count])), (h_program_bodies, .inl (k_program_bodies, 2, .inl v_program_bodies))]) (w1 := [(h_line, .inr (1, [.ref h_line_typed, .int v_line_length]))]) hP hD [1] [0, 2, 3, 4, 5] rfl rfl (by decide) (by decide) hk1 hFc hP1 hD1
    have hP := hP.sub (ws' := [(h_o, .inr (3, [.ref h_line, .ref h_factSets, .int v_markedPlus, .int v_markedMinus, .ref h_program, .ref h_deduction])), (h_line, .inr (1, [.ref h_line_typed, .int v_line_length])), (h_line_typed, .inl (k_line_typed, 32, .inl v_line_typed)), (h_factSets, .inl (k_factSets, 2, .inl v_factSets)), (h_program, .inr (2, [.ref h_program_bodies, .int v_program_count])), (h_program_bodies, .inl (k_program_bodies, 2, .inl v_program_bodies))]) [0, 5, 1, 2, 3, 4] rfl
    have hD := hD.sub (ws' := [(h_o, .inr (3, [.ref h_line, .ref h_factSets, .int v_markedPlus, .int v_markedMinus, .ref h_program, .ref h_deduction])), (h_line, .inr (1, [.ref h_line_typed, .int v_line_length])), (h_line_typed, .inl (k_line_typed, 32, .inl v_line_typed)), (h_factSets, .inl (k_factSets, 2, .inl v_factSets)), (h_program, .inr (2, [.ref h_program_bodies, .int v_program_count])), (h_program_bodies, .inl (k_program_bodies, 2, .inl v_program_bodies))]) [0, 5, 1, 2, 3, 4] (by decide) rfl
    generalize H1 = H at hP hS ⊢
    have hPc := hP.sub (ws' := [(h_o, .inr (3, [.ref h_line, .ref h_factSets, .int v_markedPlus, .int v_markedMinus, .ref h_program, .ref h_deduction])), (h_program, .inr (2, [.ref h_program_bodies, .int v_program_count])), (h_program_bodies, .inl (k_program_bodies, 2, .inl v_program_bodies))]) [0, 4, 5] rfl
    have hDc := hD.sub (ws' := [(h_o, .inr (3, [.ref h_line, .ref h_factSets, .int v_markedPlus, .int v_markedMinus, .ref h_program, .ref h_deduction])), (h_program, .inr (2, [.ref h_program_bodies, .int v_program_count])), (h_program_bodies, .inl (k_program_bodies, 2, .inl v_program_bodies))]) [0, 4, 5] (by decide) rfl
    have hKc := hK.sub (tys' := [(k_program_bodies, .int)]) [2] rfl
    have hFc := va_free (wc := [(h_o, .inr (3, [.ref h_line, .ref h_factSets, .int v_markedPlus, .int v_markedMinus, .ref h_program, .ref h_deduction])), (h_program, .inr (2, [.ref h_program_bodies, .int v_program_count])), (h_program_bodies, .inl (k_program_bodies, 2, .inl v_program_bodies))]) hD hS hA [0, 4, 5] rfl
    obtain ⟨v_30, hc_30, h⟩ := of_bind h
    refine va_calli (va_runV (As := [.int v_20.1, .int v_27.1]) (rest := []) ⟨hx, hb, hml, hown, hts⟩ (c_H_addClause l dC dI h_o h_line h_factSets h_program h_deduction h_program_bodies k_program_bodies H.size v_markedPlus v_markedMinus v_program_count v_program_bodies v_20.1 v_27.1 v_30.1 v_30.2 hc_30) (cwV 2 hts (gV mlk_H_127 ins_H_addClause sel_H_addClause ini_H cod_H_addClause) rfl rfl rfl (by decide +kernel) ⟨Nat.le_of_ble_eq_true rfl, Nat.le_of_ble_eq_true rfl⟩) ⟨fun a U g mk q => by obtain ⟨q0, q1, qP, qK, qD⟩ := q; exact ⟨q0, q1, qP, va_K.moved (u := U) (U := U.calling g mk a) (Vm.Alike.refl U.vm) qK, qD⟩, va_recv hKc hPc (ci := 3) (q0 := 0) rfl rfl, fun U hU hW => ⟨rfl, by rw [hU], by rw [hU]; exact hPc, va_K.moved hW.alike hKc, hDc.weaken (fun _ _ _ _ => trivial)⟩⟩ rfl rfl hl.1 rfl (lv_room (Nat.le_of_ble_eq_true rfl)) d_H_carryOutLine_30 ⟨Nat.le_of_ble_eq_true rfl, Nat.le_of_ble_eq_true rfl⟩) hS (fun q _ h9 => hFc q h9) hFc (fun r_30 u t H1 locs ht hvm hw hB hz1 hk1 hS => ?_)
    obtain ⟨rfl, rfl⟩ := hw
    obtain ⟨hP1, hK1, hD1⟩ := hB
    rw [ht] at hP1
    obtain ⟨hP, hD⟩ := va_join (wr := [(h_line, .inr (1, [.ref h_line_typed, .int v_line_length])), (h_line_typed, .inl (k_line_typed, 32, .inl v_line_typed)), (h_factSets, .inl (k_factSets, 2, .inl v_factSets))]) (w1 := [(h_o, .inr (3, [.ref h_line, .ref h_factSets, .int v_markedPlus, .int v_markedMinus, .ref h_program, .ref h_deduction])), (h_program, .inr (2, [.ref h_program_bodies, .int v_30.2.1])), (h_program_bodies, .inl (k_program_bodies, 2, .inl v_30.2.2))]) hP hD [0, 4, 5] [1, 2, 3] rfl rfl (by decide) (by decide) hk1 hFc hP1 hD1
    have hP := hP.sub (ws' := [(h_o, .inr (3, [.ref h_line, .ref h_factSets, .int v_markedPlus, .int v_markedMinus, .ref h_program, .ref h_deduction])), (h_line, .inr (1, [.ref h_line_typed, .int v_line_length])), (h_line_typed, .inl (k_line_typed, 32, .inl v_line_typed)), (h_factSets, .inl (k_factSets, 2, .inl v_factSets)), (h_program, .inr (2, [.ref h_program_bodies, .int v_30.2.1])), (h_program_bodies, .inl (k_program_bodies, 2, .inl v_30.2.2))]) [3, 0, 1, 2, 4, 5] rfl
    have hD := hD.sub (ws' := [(h_o, .inr (3, [.ref h_line, .ref h_factSets, .int v_markedPlus, .int v_markedMinus, .ref h_program, .ref h_deduction])), (h_line, .inr (1, [.ref h_line_typed, .int v_line_length])), (h_line_typed, .inl (k_line_typed, 32, .inl v_line_typed)), (h_factSets, .inl (k_factSets, 2, .inl v_factSets)), (h_program, .inr (2, [.ref h_program_bodies, .int v_30.2.1])), (h_program_bodies, .inl (k_program_bodies, 2, .inl v_30.2.2))]) [3, 0, 1, 2, 4, 5] (by decide) rfl
    generalize H1 = H at hP hS ⊢
    rw [hQ]
    exact W.iret (v := v_30.1) hx hb hr (fun t ht hW => ⟨⟨v_30.1, (v_markedPlus, v_markedMinus, v_factSets, v_30.2.1, v_30.2.2), rfl, Prod.mk.inj (Option.some.inj h), by rw [ht]; exact hP, va_K.moved hW.alike hK, hD⟩, hS.F ht⟩) hS.2.2 d_H_carryOutLine_33
