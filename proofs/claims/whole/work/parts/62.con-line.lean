theorem d_L_add_0 : decode b_L_add 0 = .ok (.iload_n 1, 1) := by decide +kernel
theorem d_L_add_1 : decode b_L_add 1 = .ok (.bipush 32, 2) := by decide +kernel
theorem d_L_add_3 : decode b_L_add 3 = .ok (.if_icmp .lt 18, 3) := by decide +kernel
theorem d_L_add_6 : decode b_L_add 6 = .ok (.iload_n 1, 1) := by decide +kernel
theorem d_L_add_7 : decode b_L_add 7 = .ok (.bipush 126, 2) := by decide +kernel
theorem d_L_add_9 : decode b_L_add 9 = .ok (.if_icmp .gt 12, 3) := by decide +kernel
theorem d_L_add_12 : decode b_L_add 12 = .ok (.aload_n 0, 1) := by decide +kernel
theorem d_L_add_13 : decode b_L_add 13 = .ok (.getfield 15, 3) := by decide +kernel
theorem d_L_add_16 : decode b_L_add 16 = .ok (.bipush 32, 2) := by decide +kernel
theorem d_L_add_18 : decode b_L_add 18 = .ok (.if_icmp .lt 5, 3) := by decide +kernel
theorem d_L_add_21 : decode b_L_add 21 = .ok (.iconst 0, 1) := by decide +kernel
theorem d_L_add_22 : decode b_L_add 22 = .ok (.ireturn, 1) := by decide +kernel
theorem d_L_add_23 : decode b_L_add 23 = .ok (.aload_n 0, 1) := by decide +kernel
theorem d_L_add_24 : decode b_L_add 24 = .ok (.getfield 11, 3) := by decide +kernel
theorem d_L_add_27 : decode b_L_add 27 = .ok (.aload_n 0, 1) := by decide +kernel
theorem d_L_add_28 : decode b_L_add 28 = .ok (.getfield 15, 3) := by decide +kernel
theorem d_L_add_31 : decode b_L_add 31 = .ok (.iload_n 1, 1) := by decide +kernel
theorem d_L_add_32 : decode b_L_add 32 = .ok (.castore, 1) := by decide +kernel
theorem d_L_add_33 : decode b_L_add 33 = .ok (.aload_n 0, 1) := by decide +kernel
theorem d_L_add_34 : decode b_L_add 34 = .ok (.dup, 1) := by decide +kernel
theorem d_L_add_35 : decode b_L_add 35 = .ok (.getfield 15, 3) := by decide +kernel
theorem d_L_add_38 : decode b_L_add 38 = .ok (.iconst 1, 1) := by decide +kernel
theorem d_L_add_39 : decode b_L_add 39 = .ok (.iadd, 1) := by decide +kernel
theorem d_L_add_40 : decode b_L_add 40 = .ok (.putfield 15, 3) := by decide +kernel
theorem d_L_add_43 : decode b_L_add 43 = .ok (.iconst 1, 1) := by decide +kernel
theorem d_L_add_44 : decode b_L_add 44 = .ok (.ireturn, 1) := by decide +kernel
theorem d_L_removeLast_0 : decode b_L_removeLast 0 = .ok (.aload_n 0, 1) := by decide +kernel
theorem d_L_removeLast_1 : decode b_L_removeLast 1 = .ok (.getfield 15, 3) := by decide +kernel
theorem d_L_removeLast_4 : decode b_L_removeLast 4 = .ok (.ifCond .ne 5, 3) := by decide +kernel
theorem d_L_removeLast_7 : decode b_L_removeLast 7 = .ok (.iconst 0, 1) := by decide +kernel
theorem d_L_removeLast_8 : decode b_L_removeLast 8 = .ok (.ireturn, 1) := by decide +kernel
theorem d_L_removeLast_9 : decode b_L_removeLast 9 = .ok (.aload_n 0, 1) := by decide +kernel
theorem d_L_removeLast_10 : decode b_L_removeLast 10 = .ok (.dup, 1) := by decide +kernel
theorem d_L_removeLast_11 : decode b_L_removeLast 11 = .ok (.getfield 15, 3) := by decide +kernel
theorem d_L_removeLast_14 : decode b_L_removeLast 14 = .ok (.iconst 1, 1) := by decide +kernel
theorem d_L_removeLast_15 : decode b_L_removeLast 15 = .ok (.isub, 1) := by decide +kernel
theorem d_L_removeLast_16 : decode b_L_removeLast 16 = .ok (.putfield 15, 3) := by decide +kernel
theorem d_L_removeLast_19 : decode b_L_removeLast 19 = .ok (.iconst 1, 1) := by decide +kernel
theorem d_L_removeLast_20 : decode b_L_removeLast 20 = .ok (.ireturn, 1) := by decide +kernel
theorem d_L_clear_0 : decode b_L_clear 0 = .ok (.aload_n 0, 1) := by decide +kernel
theorem d_L_clear_1 : decode b_L_clear 1 = .ok (.iconst 0, 1) := by decide +kernel
theorem d_L_clear_2 : decode b_L_clear 2 = .ok (.putfield 15, 3) := by decide +kernel
theorem d_L_clear_5 : decode b_L_clear 5 = .ok (.return_, 1) := by decide +kernel
theorem d_L_at_0 : decode b_L_at 0 = .ok (.iload_n 1, 1) := by decide +kernel
theorem d_L_at_1 : decode b_L_at 1 = .ok (.ifCond .lt 20, 3) := by decide +kernel
theorem d_L_at_4 : decode b_L_at 4 = .ok (.iload_n 1, 1) := by decide +kernel
theorem d_L_at_5 : decode b_L_at 5 = .ok (.aload_n 0, 1) := by decide +kernel
theorem d_L_at_6 : decode b_L_at 6 = .ok (.getfield 15, 3) := by decide +kernel
theorem d_L_at_9 : decode b_L_at 9 = .ok (.if_icmp .ge 12, 3) := by decide +kernel
theorem d_L_at_12 : decode b_L_at 12 = .ok (.aload_n 0, 1) := by decide +kernel
theorem d_L_at_13 : decode b_L_at 13 = .ok (.getfield 11, 3) := by decide +kernel
theorem d_L_at_16 : decode b_L_at 16 = .ok (.iload_n 1, 1) := by decide +kernel
theorem d_L_at_17 : decode b_L_at 17 = .ok (.caload, 1) := by decide +kernel
theorem d_L_at_18 : decode b_L_at 18 = .ok (.goto 4, 3) := by decide +kernel
theorem d_L_at_21 : decode b_L_at 21 = .ok (.iconst 0, 1) := by decide +kernel
theorem d_L_at_22 : decode b_L_at 22 = .ok (.ireturn, 1) := by decide +kernel
theorem d_L_form_0 : decode b_L_form 0 = .ok (.aload_n 0, 1) := by decide +kernel
theorem d_L_form_1 : decode b_L_form 1 = .ok (.iconst 0, 1) := by decide +kernel
theorem d_L_form_2 : decode b_L_form 2 = .ok (.invokevirtual 39, 3) := by decide +kernel
theorem d_L_form_5 : decode b_L_form 5 = .ok (.lookupswitch 74 #[(43, 65), (45, 68), (97, 59), (98, 59), (116, 71), (126, 62)], 59) := by decide +kernel
theorem d_L_form_64 : decode b_L_form 64 = .ok (.ldc 58, 2) := by decide +kernel
theorem d_L_form_66 : decode b_L_form 66 = .ok (.areturn, 1) := by decide +kernel
theorem d_L_form_67 : decode b_L_form 67 = .ok (.ldc 60, 2) := by decide +kernel
theorem d_L_form_69 : decode b_L_form 69 = .ok (.areturn, 1) := by decide +kernel
theorem d_L_form_70 : decode b_L_form 70 = .ok (.ldc 62, 2) := by decide +kernel
theorem d_L_form_72 : decode b_L_form 72 = .ok (.areturn, 1) := by decide +kernel
theorem d_L_form_73 : decode b_L_form 73 = .ok (.ldc 64, 2) := by decide +kernel
theorem d_L_form_75 : decode b_L_form 75 = .ok (.areturn, 1) := by decide +kernel
theorem d_L_form_76 : decode b_L_form 76 = .ok (.ldc 66, 2) := by decide +kernel
theorem d_L_form_78 : decode b_L_form 78 = .ok (.areturn, 1) := by decide +kernel
theorem d_L_form_79 : decode b_L_form 79 = .ok (.ldc 68, 2) := by decide +kernel
theorem d_L_form_81 : decode b_L_form 81 = .ok (.areturn, 1) := by decide +kernel
theorem d_L_allows_0 : decode b_L_allows 0 = .ok (.iload_n 0, 1) := by decide +kernel
theorem d_L_allows_1 : decode b_L_allows 1 = .ok (.lookupswitch 127 #[(99, 85), (102, 43), (114, 61), (118, 103)], 43) := by decide +kernel
theorem d_L_allows_44 : decode b_L_allows 44 = .ok (.iload_n 1, 1) := by decide +kernel
theorem d_L_allows_45 : decode b_L_allows 45 = .ok (.bipush 97, 2) := by decide +kernel
theorem d_L_allows_47 : decode b_L_allows 47 = .ok (.if_icmp .eq 9, 3) := by decide +kernel
theorem d_L_allows_50 : decode b_L_allows 50 = .ok (.iload_n 1, 1) := by decide +kernel
theorem d_L_allows_51 : decode b_L_allows 51 = .ok (.bipush 98, 2) := by decide +kernel
theorem d_L_allows_53 : decode b_L_allows 53 = .ok (.if_icmp .ne 7, 3) := by decide +kernel
theorem d_L_allows_56 : decode b_L_allows 56 = .ok (.iconst 1, 1) := by decide +kernel
theorem d_L_allows_57 : decode b_L_allows 57 = .ok (.goto 4, 3) := by decide +kernel
theorem d_L_allows_60 : decode b_L_allows 60 = .ok (.iconst 0, 1) := by decide +kernel
theorem d_L_allows_61 : decode b_L_allows 61 = .ok (.ireturn, 1) := by decide +kernel
theorem d_L_allows_62 : decode b_L_allows 62 = .ok (.iload_n 1, 1) := by decide +kernel
theorem d_L_allows_63 : decode b_L_allows 63 = .ok (.bipush 97, 2) := by decide +kernel
theorem d_L_allows_65 : decode b_L_allows 65 = .ok (.if_icmp .eq 15, 3) := by decide +kernel
theorem d_L_allows_68 : decode b_L_allows 68 = .ok (.iload_n 1, 1) := by decide +kernel
theorem d_L_allows_69 : decode b_L_allows 69 = .ok (.bipush 98, 2) := by decide +kernel
theorem d_L_allows_71 : decode b_L_allows 71 = .ok (.if_icmp .eq 9, 3) := by decide +kernel
theorem d_L_allows_74 : decode b_L_allows 74 = .ok (.iload_n 1, 1) := by decide +kernel
theorem d_L_allows_75 : decode b_L_allows 75 = .ok (.bipush 116, 2) := by decide +kernel
theorem d_L_allows_77 : decode b_L_allows 77 = .ok (.if_icmp .ne 7, 3) := by decide +kernel
theorem d_L_allows_80 : decode b_L_allows 80 = .ok (.iconst 1, 1) := by decide +kernel
theorem d_L_allows_81 : decode b_L_allows 81 = .ok (.goto 4, 3) := by decide +kernel
theorem d_L_allows_84 : decode b_L_allows 84 = .ok (.iconst 0, 1) := by decide +kernel
theorem d_L_allows_85 : decode b_L_allows 85 = .ok (.ireturn, 1) := by decide +kernel
theorem d_L_allows_86 : decode b_L_allows 86 = .ok (.iload_n 1, 1) := by decide +kernel
theorem d_L_allows_87 : decode b_L_allows 87 = .ok (.bipush 48, 2) := by decide +kernel
theorem d_L_allows_89 : decode b_L_allows 89 = .ok (.if_icmp .lt 13, 3) := by decide +kernel
theorem d_L_allows_92 : decode b_L_allows 92 = .ok (.iload_n 1, 1) := by decide +kernel
theorem d_L_allows_93 : decode b_L_allows 93 = .ok (.bipush 51, 2) := by decide +kernel
theorem d_L_allows_95 : decode b_L_allows 95 = .ok (.if_icmp .gt 7, 3) := by decide +kernel
theorem d_L_allows_98 : decode b_L_allows 98 = .ok (.iconst 1, 1) := by decide +kernel
theorem d_L_allows_99 : decode b_L_allows 99 = .ok (.goto 4, 3) := by decide +kernel
theorem d_L_allows_102 : decode b_L_allows 102 = .ok (.iconst 0, 1) := by decide +kernel
theorem d_L_allows_103 : decode b_L_allows 103 = .ok (.ireturn, 1) := by decide +kernel
theorem d_L_allows_104 : decode b_L_allows 104 = .ok (.iload_n 1, 1) := by decide +kernel
theorem d_L_allows_105 : decode b_L_allows 105 = .ok (.bipush 88, 2) := by decide +kernel
theorem d_L_allows_107 : decode b_L_allows 107 = .ok (.if_icmp .eq 15, 3) := by decide +kernel
theorem d_L_allows_110 : decode b_L_allows 110 = .ok (.iload_n 1, 1) := by decide +kernel
theorem d_L_allows_111 : decode b_L_allows 111 = .ok (.bipush 89, 2) := by decide +kernel
theorem d_L_allows_113 : decode b_L_allows 113 = .ok (.if_icmp .eq 9, 3) := by decide +kernel
theorem d_L_allows_116 : decode b_L_allows 116 = .ok (.iload_n 1, 1) := by decide +kernel
theorem d_L_allows_117 : decode b_L_allows 117 = .ok (.bipush 90, 2) := by decide +kernel
theorem d_L_allows_119 : decode b_L_allows 119 = .ok (.if_icmp .ne 7, 3) := by decide +kernel
theorem d_L_allows_122 : decode b_L_allows 122 = .ok (.iconst 1, 1) := by decide +kernel
theorem d_L_allows_123 : decode b_L_allows 123 = .ok (.goto 4, 3) := by decide +kernel
theorem d_L_allows_126 : decode b_L_allows 126 = .ok (.iconst 0, 1) := by decide +kernel
theorem d_L_allows_127 : decode b_L_allows 127 = .ok (.ireturn, 1) := by decide +kernel
theorem d_L_allows_128 : decode b_L_allows 128 = .ok (.iload_n 1, 1) := by decide +kernel
theorem d_L_allows_129 : decode b_L_allows 129 = .ok (.iload_n 0, 1) := by decide +kernel
theorem d_L_allows_130 : decode b_L_allows 130 = .ok (.if_icmp .ne 7, 3) := by decide +kernel
theorem d_L_allows_133 : decode b_L_allows 133 = .ok (.iconst 1, 1) := by decide +kernel
theorem d_L_allows_134 : decode b_L_allows 134 = .ok (.goto 4, 3) := by decide +kernel
theorem d_L_allows_137 : decode b_L_allows 137 = .ok (.iconst 0, 1) := by decide +kernel
theorem d_L_allows_138 : decode b_L_allows 138 = .ok (.ireturn, 1) := by decide +kernel
theorem d_L_begunStatement_0 : decode b_L_begunStatement 0 = .ok (.aload_n 0, 1) := by decide +kernel
theorem d_L_begunStatement_1 : decode b_L_begunStatement 1 = .ok (.invokevirtual 19, 3) := by decide +kernel
theorem d_L_begunStatement_4 : decode b_L_begunStatement 4 = .ok (.astore_n 1, 1) := by decide +kernel
theorem d_L_begunStatement_5 : decode b_L_begunStatement 5 = .ok (.iconst 0, 1) := by decide +kernel
theorem d_L_begunStatement_6 : decode b_L_begunStatement 6 = .ok (.istore_n 2, 1) := by decide +kernel
theorem d_L_begunStatement_7 : decode b_L_begunStatement 7 = .ok (.iload_n 2, 1) := by decide +kernel
theorem d_L_begunStatement_8 : decode b_L_begunStatement 8 = .ok (.aload_n 0, 1) := by decide +kernel
theorem d_L_begunStatement_9 : decode b_L_begunStatement 9 = .ok (.getfield 15, 3) := by decide +kernel
theorem d_L_begunStatement_12 : decode b_L_begunStatement 12 = .ok (.if_icmp .ge 34, 3) := by decide +kernel
theorem d_L_begunStatement_15 : decode b_L_begunStatement 15 = .ok (.iload_n 2, 1) := by decide +kernel
theorem d_L_begunStatement_16 : decode b_L_begunStatement 16 = .ok (.aload_n 1, 1) := by decide +kernel
theorem d_L_begunStatement_17 : decode b_L_begunStatement 17 = .ok (.invokevirtual 23, 3) := by decide +kernel
theorem d_L_begunStatement_20 : decode b_L_begunStatement 20 = .ok (.if_icmp .ge 26, 3) := by decide +kernel
theorem d_L_begunStatement_23 : decode b_L_begunStatement 23 = .ok (.aload_n 1, 1) := by decide +kernel
theorem d_L_begunStatement_24 : decode b_L_begunStatement 24 = .ok (.iload_n 2, 1) := by decide +kernel
theorem d_L_begunStatement_25 : decode b_L_begunStatement 25 = .ok (.invokevirtual 28, 3) := by decide +kernel
theorem d_L_begunStatement_28 : decode b_L_begunStatement 28 = .ok (.aload_n 0, 1) := by decide +kernel
theorem d_L_begunStatement_29 : decode b_L_begunStatement 29 = .ok (.getfield 11, 3) := by decide +kernel
theorem d_L_begunStatement_32 : decode b_L_begunStatement 32 = .ok (.iload_n 2, 1) := by decide +kernel
theorem d_L_begunStatement_33 : decode b_L_begunStatement 33 = .ok (.caload, 1) := by decide +kernel
theorem d_L_begunStatement_34 : decode b_L_begunStatement 34 = .ok (.invokestatic 32, 3) := by decide +kernel
theorem d_L_begunStatement_37 : decode b_L_begunStatement 37 = .ok (.ifCond .eq 9, 3) := by decide +kernel
theorem d_L_begunStatement_40 : decode b_L_begunStatement 40 = .ok (.iinc 2 1, 3) := by decide +kernel
theorem d_L_begunStatement_43 : decode b_L_begunStatement 43 = .ok (.goto (-36), 3) := by decide +kernel
theorem d_L_begunStatement_46 : decode b_L_begunStatement 46 = .ok (.iload_n 2, 1) := by decide +kernel
theorem d_L_begunStatement_47 : decode b_L_begunStatement 47 = .ok (.ireturn, 1) := by decide +kernel
theorem d_L_typedPair_0 : decode b_L_typedPair 0 = .ok (.aload_n 0, 1) := by decide +kernel
theorem d_L_typedPair_1 : decode b_L_typedPair 1 = .ok (.aload_n 0, 1) := by decide +kernel
theorem d_L_typedPair_2 : decode b_L_typedPair 2 = .ok (.getfield 15, 3) := by decide +kernel
theorem d_L_typedPair_5 : decode b_L_typedPair 5 = .ok (.iconst 4, 1) := by decide +kernel
theorem d_L_typedPair_6 : decode b_L_typedPair 6 = .ok (.isub, 1) := by decide +kernel
theorem d_L_typedPair_7 : decode b_L_typedPair 7 = .ok (.invokevirtual 39, 3) := by decide +kernel
theorem d_L_typedPair_10 : decode b_L_typedPair 10 = .ok (.bipush 48, 2) := by decide +kernel
theorem d_L_typedPair_12 : decode b_L_typedPair 12 = .ok (.isub, 1) := by decide +kernel
theorem d_L_typedPair_13 : decode b_L_typedPair 13 = .ok (.aload_n 0, 1) := by decide +kernel
theorem d_L_typedPair_14 : decode b_L_typedPair 14 = .ok (.aload_n 0, 1) := by decide +kernel
theorem d_L_typedPair_15 : decode b_L_typedPair 15 = .ok (.getfield 15, 3) := by decide +kernel
theorem d_L_typedPair_18 : decode b_L_typedPair 18 = .ok (.iconst 2, 1) := by decide +kernel
theorem d_L_typedPair_19 : decode b_L_typedPair 19 = .ok (.isub, 1) := by decide +kernel
theorem d_L_typedPair_20 : decode b_L_typedPair 20 = .ok (.invokevirtual 39, 3) := by decide +kernel
theorem d_L_typedPair_23 : decode b_L_typedPair 23 = .ok (.bipush 48, 2) := by decide +kernel
theorem d_L_typedPair_25 : decode b_L_typedPair 25 = .ok (.isub, 1) := by decide +kernel
theorem d_L_typedPair_26 : decode b_L_typedPair 26 = .ok (.invokestatic 42, 3) := by decide +kernel
theorem d_L_typedPair_29 : decode b_L_typedPair 29 = .ok (.ireturn, 1) := by decide +kernel
theorem d_L_typedLiterals_0 : decode b_L_typedLiterals 0 = .ok (.aload_n 0, 1) := by decide +kernel
theorem d_L_typedLiterals_1 : decode b_L_typedLiterals 1 = .ok (.getfield 15, 3) := by decide +kernel
theorem d_L_typedLiterals_4 : decode b_L_typedLiterals 4 = .ok (.iconst 1, 1) := by decide +kernel
theorem d_L_typedLiterals_5 : decode b_L_typedLiterals 5 = .ok (.iadd, 1) := by decide +kernel
theorem d_L_typedLiterals_6 : decode b_L_typedLiterals 6 = .ok (.bipush 8, 2) := by decide +kernel
theorem d_L_typedLiterals_8 : decode b_L_typedLiterals 8 = .ok (.isub, 1) := by decide +kernel
theorem d_L_typedLiterals_9 : decode b_L_typedLiterals 9 = .ok (.bipush 7, 2) := by decide +kernel
theorem d_L_typedLiterals_11 : decode b_L_typedLiterals 11 = .ok (.idiv, 1) := by decide +kernel
theorem d_L_typedLiterals_12 : decode b_L_typedLiterals 12 = .ok (.ireturn, 1) := by decide +kernel
theorem d_L_endsStatement_0 : decode b_L_endsStatement 0 = .ok (.iload_n 1, 1) := by decide +kernel
theorem d_L_endsStatement_1 : decode b_L_endsStatement 1 = .ok (.ifCond .eq 11, 3) := by decide +kernel
theorem d_L_endsStatement_4 : decode b_L_endsStatement 4 = .ok (.iload_n 1, 1) := by decide +kernel
theorem d_L_endsStatement_5 : decode b_L_endsStatement 5 = .ok (.aload_n 0, 1) := by decide +kernel
theorem d_L_endsStatement_6 : decode b_L_endsStatement 6 = .ok (.getfield 15, 3) := by decide +kernel
theorem d_L_endsStatement_9 : decode b_L_endsStatement 9 = .ok (.if_icmp .ge 5, 3) := by decide +kernel
theorem d_L_endsStatement_12 : decode b_L_endsStatement 12 = .ok (.iconst 0, 1) := by decide +kernel
theorem d_L_endsStatement_13 : decode b_L_endsStatement 13 = .ok (.ireturn, 1) := by decide +kernel
theorem d_L_endsStatement_14 : decode b_L_endsStatement 14 = .ok (.aload_n 0, 1) := by decide +kernel
theorem d_L_endsStatement_15 : decode b_L_endsStatement 15 = .ok (.getfield 11, 3) := by decide +kernel
theorem d_L_endsStatement_18 : decode b_L_endsStatement 18 = .ok (.iconst 0, 1) := by decide +kernel
theorem d_L_endsStatement_19 : decode b_L_endsStatement 19 = .ok (.caload, 1) := by decide +kernel
theorem d_L_endsStatement_20 : decode b_L_endsStatement 20 = .ok (.bipush 116, 2) := by decide +kernel
theorem d_L_endsStatement_22 : decode b_L_endsStatement 22 = .ok (.if_icmp .ne 33, 3) := by decide +kernel
theorem d_L_endsStatement_25 : decode b_L_endsStatement 25 = .ok (.aload_n 0, 1) := by decide +kernel
theorem d_L_endsStatement_26 : decode b_L_endsStatement 26 = .ok (.getfield 15, 3) := by decide +kernel
theorem d_L_endsStatement_29 : decode b_L_endsStatement 29 = .ok (.bipush 7, 2) := by decide +kernel
theorem d_L_endsStatement_31 : decode b_L_endsStatement 31 = .ok (.bipush 7, 2) := by decide +kernel
theorem d_L_endsStatement_33 : decode b_L_endsStatement 33 = .ok (.aload_n 0, 1) := by decide +kernel
theorem d_L_endsStatement_34 : decode b_L_endsStatement 34 = .ok (.invokevirtual 36, 3) := by decide +kernel
theorem d_L_endsStatement_37 : decode b_L_endsStatement 37 = .ok (.imul, 1) := by decide +kernel
theorem d_L_endsStatement_38 : decode b_L_endsStatement 38 = .ok (.iadd, 1) := by decide +kernel
theorem d_L_endsStatement_39 : decode b_L_endsStatement 39 = .ok (.if_icmp .ne 14, 3) := by decide +kernel
theorem d_L_endsStatement_42 : decode b_L_endsStatement 42 = .ok (.aload_n 0, 1) := by decide +kernel
theorem d_L_endsStatement_43 : decode b_L_endsStatement 43 = .ok (.invokevirtual 36, 3) := by decide +kernel
theorem d_L_endsStatement_46 : decode b_L_endsStatement 46 = .ok (.ifCond .le 7, 3) := by decide +kernel
theorem d_L_endsStatement_49 : decode b_L_endsStatement 49 = .ok (.iconst 1, 1) := by decide +kernel
theorem d_L_endsStatement_50 : decode b_L_endsStatement 50 = .ok (.goto 4, 3) := by decide +kernel
theorem d_L_endsStatement_53 : decode b_L_endsStatement 53 = .ok (.iconst 0, 1) := by decide +kernel
theorem d_L_endsStatement_54 : decode b_L_endsStatement 54 = .ok (.ireturn, 1) := by decide +kernel
theorem d_L_endsStatement_55 : decode b_L_endsStatement 55 = .ok (.aload_n 0, 1) := by decide +kernel
theorem d_L_endsStatement_56 : decode b_L_endsStatement 56 = .ok (.getfield 15, 3) := by decide +kernel
theorem d_L_endsStatement_59 : decode b_L_endsStatement 59 = .ok (.aload_n 0, 1) := by decide +kernel
theorem d_L_endsStatement_60 : decode b_L_endsStatement 60 = .ok (.invokevirtual 19, 3) := by decide +kernel
theorem d_L_endsStatement_63 : decode b_L_endsStatement 63 = .ok (.invokevirtual 23, 3) := by decide +kernel
theorem d_L_endsStatement_66 : decode b_L_endsStatement 66 = .ok (.if_icmp .ne 7, 3) := by decide +kernel
theorem d_L_endsStatement_69 : decode b_L_endsStatement 69 = .ok (.iconst 1, 1) := by decide +kernel
theorem d_L_endsStatement_70 : decode b_L_endsStatement 70 = .ok (.goto 4, 3) := by decide +kernel
theorem d_L_endsStatement_73 : decode b_L_endsStatement 73 = .ok (.iconst 0, 1) := by decide +kernel
theorem d_L_endsStatement_74 : decode b_L_endsStatement 74 = .ok (.ireturn, 1) := by decide +kernel
theorem d_L_typedBody_0 : decode b_L_typedBody 0 = .ok (.iconst 0, 1) := by decide +kernel
theorem d_L_typedBody_1 : decode b_L_typedBody 1 = .ok (.istore_n 1, 1) := by decide +kernel
theorem d_L_typedBody_2 : decode b_L_typedBody 2 = .ok (.bipush 8, 2) := by decide +kernel
theorem d_L_typedBody_4 : decode b_L_typedBody 4 = .ok (.istore_n 2, 1) := by decide +kernel
theorem d_L_typedBody_5 : decode b_L_typedBody 5 = .ok (.iload_n 2, 1) := by decide +kernel
theorem d_L_typedBody_6 : decode b_L_typedBody 6 = .ok (.aload_n 0, 1) := by decide +kernel
theorem d_L_typedBody_7 : decode b_L_typedBody 7 = .ok (.getfield 15, 3) := by decide +kernel
theorem d_L_typedBody_10 : decode b_L_typedBody 10 = .ok (.if_icmp .ge 61, 3) := by decide +kernel
theorem d_L_typedBody_13 : decode b_L_typedBody 13 = .ok (.ldc 46, 2) := by decide +kernel
theorem d_L_typedBody_15 : decode b_L_typedBody 15 = .ok (.aload_n 0, 1) := by decide +kernel
theorem d_L_typedBody_16 : decode b_L_typedBody 16 = .ok (.iload_n 2, 1) := by decide +kernel
theorem d_L_typedBody_17 : decode b_L_typedBody 17 = .ok (.invokevirtual 39, 3) := by decide +kernel
theorem d_L_typedBody_20 : decode b_L_typedBody 20 = .ok (.invokevirtual 48, 3) := by decide +kernel
theorem d_L_typedBody_23 : decode b_L_typedBody 23 = .ok (.istore_n 3, 1) := by decide +kernel
theorem d_L_typedBody_24 : decode b_L_typedBody 24 = .ok (.ldc 52, 2) := by decide +kernel
theorem d_L_typedBody_26 : decode b_L_typedBody 26 = .ok (.aload_n 0, 1) := by decide +kernel
theorem d_L_typedBody_27 : decode b_L_typedBody 27 = .ok (.iload_n 2, 1) := by decide +kernel
theorem d_L_typedBody_28 : decode b_L_typedBody 28 = .ok (.iconst 2, 1) := by decide +kernel
theorem d_L_typedBody_29 : decode b_L_typedBody 29 = .ok (.iadd, 1) := by decide +kernel
theorem d_L_typedBody_30 : decode b_L_typedBody 30 = .ok (.invokevirtual 39, 3) := by decide +kernel
theorem d_L_typedBody_33 : decode b_L_typedBody 33 = .ok (.invokevirtual 48, 3) := by decide +kernel
theorem d_L_typedBody_36 : decode b_L_typedBody 36 = .ok (.istore 4, 2) := by decide +kernel
theorem d_L_typedBody_38 : decode b_L_typedBody 38 = .ok (.ldc 52, 2) := by decide +kernel
theorem d_L_typedBody_40 : decode b_L_typedBody 40 = .ok (.aload_n 0, 1) := by decide +kernel
theorem d_L_typedBody_41 : decode b_L_typedBody 41 = .ok (.iload_n 2, 1) := by decide +kernel
theorem d_L_typedBody_42 : decode b_L_typedBody 42 = .ok (.iconst 4, 1) := by decide +kernel
theorem d_L_typedBody_43 : decode b_L_typedBody 43 = .ok (.iadd, 1) := by decide +kernel
theorem d_L_typedBody_44 : decode b_L_typedBody 44 = .ok (.invokevirtual 39, 3) := by decide +kernel
theorem d_L_typedBody_47 : decode b_L_typedBody 47 = .ok (.invokevirtual 48, 3) := by decide +kernel
theorem d_L_typedBody_50 : decode b_L_typedBody 50 = .ok (.istore 5, 2) := by decide +kernel
theorem d_L_typedBody_52 : decode b_L_typedBody 52 = .ok (.iload_n 1, 1) := by decide +kernel
theorem d_L_typedBody_53 : decode b_L_typedBody 53 = .ok (.iconst 1, 1) := by decide +kernel
theorem d_L_typedBody_54 : decode b_L_typedBody 54 = .ok (.iload_n 3, 1) := by decide +kernel
theorem d_L_typedBody_55 : decode b_L_typedBody 55 = .ok (.iload 4, 2) := by decide +kernel
theorem d_L_typedBody_57 : decode b_L_typedBody 57 = .ok (.iload 5, 2) := by decide +kernel
theorem d_L_typedBody_59 : decode b_L_typedBody 59 = .ok (.invokestatic 54, 3) := by decide +kernel
theorem d_L_typedBody_62 : decode b_L_typedBody 62 = .ok (.ishl, 1) := by decide +kernel
theorem d_L_typedBody_63 : decode b_L_typedBody 63 = .ok (.ior, 1) := by decide +kernel
theorem d_L_typedBody_64 : decode b_L_typedBody 64 = .ok (.istore_n 1, 1) := by decide +kernel
theorem d_L_typedBody_65 : decode b_L_typedBody 65 = .ok (.iinc 2 7, 3) := by decide +kernel
theorem d_L_typedBody_68 : decode b_L_typedBody 68 = .ok (.goto (-63), 3) := by decide +kernel
theorem d_L_typedBody_71 : decode b_L_typedBody 71 = .ok (.iload_n 1, 1) := by decide +kernel
theorem d_L_typedBody_72 : decode b_L_typedBody 72 = .ok (.ireturn, 1) := by decide +kernel
set_option maxHeartbeats 1000000 in
set_option maxRecDepth 100000 in
theorem c_L_add (l : Launch) (dC : Nat → ClassId) (dI : Nat → Nat → Nat) (h_o h_typed : Nat) (k_typed : ClassId) (sz : Nat) (v_length : Int32) (v_typed : Nat → Int32) (x1 : Int32) (r0 : Int32) (u0 : Int32 × (Nat → Int32)) (h : m_L_add v_length v_typed x1 = some (r0, u0)) : Met l y_L_add w_L_add ({ frames := 0, cells := 0, slots := 0, locals := 0 } : Room) (va_Pc [.ref h_o, .int x1] (fun U => U.heap.size = sz ∧ va_P (dC, dI) classes [(h_o, .inr (1, [.ref h_typed, .int v_length])), (h_typed, .inl (k_typed, 32, .inl v_typed))] U.heap ∧ va_K (dC, dI) classes [(k_typed, .char)] U ∧ va_D (fun _ => True) [(h_o, .inr (1, [.ref h_typed, .int v_length])), (h_typed, .inl (k_typed, 32, .inl v_typed))])) (va_Qi (fun (r : Int32) (u : Int32 × (Nat → Int32)) => r = r0 ∧ u = u0) (fun (u : Int32 × (Nat → Int32)) (t : State) => va_P (dC, dI) classes [(h_o, .inr (1, [.ref h_typed, .int u.1])), (h_typed, .inl (k_typed, 32, .inl u.2))] t.heap ∧ va_K (dC, dI) classes [(k_typed, .char)] t ∧ va_D (va_A [(h_o, .inr (1, [.ref h_typed, .int v_length])), (h_typed, .inl (k_typed, 32, .inl v_typed))] sz) [(h_o, .inr (1, [.ref h_typed, .int u.1])), (h_typed, .inl (k_typed, 32, .inl u.2))]) (va_A [(h_o, .inr (1, [.ref h_typed, .int v_length])), (h_typed, .inl (k_typed, 32, .inl v_typed))] sz)) 0 0 (va_A [(h_o, .inr (1, [.ref h_typed, .int v_length])), (h_typed, .inl (k_typed, 32, .inl v_typed))] sz) := by
  refine Met.ofW (cc := b_L_add) (maxL := 2) (ret := (some .boolean)) (by decide) rfl ?_
  intro p e s m args below meth c s₁ B hml hv
  obtain ⟨rfl, hsz, hP, hK, hD0⟩ := hv
  have hx := B.exec
  have hb := B.bytes
  have hr := B.returns
  have hts0 := atoms_spec (ws := w_L_add) B.pre
  have hts : ∀ w ∈ lw_gd, w.before ([.ref h_o, .int x1] : List Value).toArray s = true := fun w h9 => hts0 w (List.mem_cons_of_mem _ h9)
  have hown : s.vm.findClass R_L = some m.cls := findClass_of_methodNamed B.named
  have hlocks := B.notSynchronized
  subst hsz
  have hD := hD0.self (sz := s.heap.size)
  generalize hAe : va_A [(h_o, .inr (1, [.ref h_typed, .int v_length])), (h_typed, .inl (k_typed, 32, .inl v_typed))] s.heap.size = A at hD ⊢
  have hA : ∀ q : Nat, s.heap.size ≤ q → A q := fun q h9 => by rw [← hAe]; exact Or.inr h9
  obtain ⟨H, eH⟩ : ∃ H : Heap, H = s.heap := ⟨_, rfl⟩
  have hS : va_S A s.heap H [] := by rw [eH]; exact va_S.rf
  have hP : va_P (dC, dI) classes [(h_o, .inr (1, [.ref h_typed, .int v_length])), (h_typed, .inl (k_typed, 32, .inl v_typed))] H := by rw [eH]; exact hP
  refine W_gen (fun Q hQ => ?_)
  refine W_heap eH ?_
  clear eH
  have hl := lv_entry ([.ref h_o, .int x1]) (n := 2) (Nat.le_of_ble_eq_true rfl)
  rw [lg_entry_eq]
  generalize (lg_sl ([.ref h_o, .int x1]) ++ List.replicate (2 - (lg_sl ([.ref h_o, .int x1])).length) Slot.unset).toArray = ls at hl ⊢
  have hl : lv_has ls 2 [(0, .ref h_o), (1, .int x1)] := hl
  unfold m_L_add at h
  refine lv_iload_n hx hb d_L_add_0 rfl (lv_at hl 1 rfl) ?_
  refine lv_bipush (v := (nI 32)) hx hb d_L_add_1 (by decide) ?_
  refine lv_icmp_lt (tgt := 21) hx hb d_L_add_3 (by decide) (fun c_3 => ?_) (fun c_3 => ?_)
  · have h := of_pos h c_3
    refine lv_iconst (v := (nI 0)) hx hb d_L_add_21 (by decide) ?_
    rw [hQ]
    exact W.zret (v := (nI 0)) hx hb hr rfl (fun t ht hW => ⟨⟨(nI 0), (v_length, v_typed), rfl, Prod.mk.inj (Option.some.inj h), by rw [ht]; exact hP, va_K.moved hW.alike hK, hD⟩, hS.F ht⟩) hS.2.2 d_L_add_22
  · have h := of_neg h c_3
    refine lv_iload_n hx hb d_L_add_6 rfl (lv_at hl 1 rfl) ?_
    refine lv_bipush (v := (nI 126)) hx hb d_L_add_7 (by decide) ?_
    refine lv_icmp_gt (tgt := 21) hx hb d_L_add_9 (by decide) (fun c_9 => ?_) (fun c_9 => ?_)
    · have h := of_pos h c_9
      refine lv_iconst (v := (nI 0)) hx hb d_L_add_21 (by decide) ?_
      rw [hQ]
      exact W.zret (v := (nI 0)) hx hb hr rfl (fun t ht hW => ⟨⟨(nI 0), (v_length, v_typed), rfl, Prod.mk.inj (Option.some.inj h), by rw [ht]; exact hP, va_K.moved hW.alike hK, hD⟩, hS.F ht⟩) hS.2.2 d_L_add_22
    · have h := of_neg h c_9
      refine lv_aload_n hx hb d_L_add_12 rfl (lv_at hl 0 rfl) ?_
      refine va_get (D := (dC, dI)) (ci := 1) (v := .int v_length) (C := R_L) (T := F_L) (N := 2) hx hb hts lay_L hown hK hP 0 rfl rfl 1 (by decide) (hts _ flk_L_15) (fun _ h9 => h9) rfl d_L_add_13 ?_
      refine lv_bipush (v := (nI 32)) hx hb d_L_add_16 (by decide) ?_
      refine lv_icmp_lt (tgt := 23) hx hb d_L_add_18 (by decide) (fun c_18 => ?_) (fun c_18 => ?_)
      · have h := of_pos h c_18
        refine lv_aload_n hx hb d_L_add_23 rfl (lv_at hl 0 rfl) ?_
        refine va_get (D := (dC, dI)) (ci := 1) (v := .ref h_typed) (C := R_L) (T := F_L) (N := 2) hx hb hts lay_L hown hK hP 0 rfl rfl 0 (by decide) (hts _ flk_L_11) (fun _ h9 => h9) rfl d_L_add_24 ?_
        refine lv_aload_n hx hb d_L_add_27 rfl (lv_at hl 0 rfl) ?_
        refine va_get (D := (dC, dI)) (ci := 1) (v := .int v_length) (C := R_L) (T := F_L) (N := 2) hx hb hts lay_L hown hK hP 0 rfl rfl 1 (by decide) (hts _ flk_L_15) (fun _ h9 => h9) rfl d_L_add_28 ?_
        refine lv_iload_n hx hb d_L_add_31 rfl (lv_at hl 1 rfl) ?_
        obtain ⟨g_32, h⟩ := of_guard h
        obtain ⟨gn_32, h⟩ := of_guard h
        refine va_cast hx hb hK hP hD hS 1 0 rfl rfl (inR_in g_32) d_L_add_32 (fun H locs hP hD hS => ?_)
        have hP : va_P (dC, dI) classes [(h_o, .inr (1, [.ref h_typed, .int v_length])), (h_typed, .inl (k_typed, 32, .inl (upd v_typed v_length.toNatClampNeg (vp_nar .char x1))))] H := hP
        have hD : va_D A [(h_o, .inr (1, [.ref h_typed, .int v_length])), (h_typed, .inl (k_typed, 32, .inl (upd v_typed v_length.toNatClampNeg (vp_nar .char x1))))] := hD
        rw [nar_c gn_32] at hP hD
        have hP : va_P (dC, dI) classes [(h_o, .inr (1, [.ref h_typed, .int v_length])), (h_typed, .inl (k_typed, 32, .inl (upd v_typed v_length.toNatClampNeg x1)))] H := hP
        have hD : va_D A [(h_o, .inr (1, [.ref h_typed, .int v_length])), (h_typed, .inl (k_typed, 32, .inl (upd v_typed v_length.toNatClampNeg x1)))] := hD
        refine lv_aload_n hx hb d_L_add_33 rfl (lv_at hl 0 rfl) ?_
        refine lv_dup hx hb d_L_add_34 rfl ?_
        refine va_get (D := (dC, dI)) (ci := 1) (v := .int v_length) (C := R_L) (T := F_L) (N := 2) hx hb hts lay_L hown hK hP 0 rfl rfl 1 (by decide) (hts _ flk_L_15) (fun _ h9 => h9) rfl d_L_add_35 ?_
        refine lv_iconst (v := (nI 1)) hx hb d_L_add_38 (by decide) ?_
        refine lv_iadd hx hb d_L_add_39 ?_
        refine va_put (D := (dC, dI)) (ci := 1) (v := .int (v_length + (nI 1))) (ty := .int) (C := R_L) (T := F_L) (N := 2) hx hb hts lay_L t_L t_L_ok n_L hown hK hP hD hS 0 rfl rfl 1 (by decide) (hts _ flk_L_15) (fun _ h9 => h9) rfl (by decide +kernel) rfl rfl (Nat.le_of_ble_eq_true rfl) d_L_add_40 (fun H locs hP hD hS => ?_)
        have hP : va_P (dC, dI) classes [(h_o, .inr (1, [.ref h_typed, .int (v_length + (nI 1))])), (h_typed, .inl (k_typed, 32, .inl (upd v_typed v_length.toNatClampNeg x1)))] H := hP
        have hD : va_D A [(h_o, .inr (1, [.ref h_typed, .int (v_length + (nI 1))])), (h_typed, .inl (k_typed, 32, .inl (upd v_typed v_length.toNatClampNeg x1)))] := hD
        refine lv_iconst (v := (nI 1)) hx hb d_L_add_43 (by decide) ?_
        rw [hQ]
        exact W.zret (v := (nI 1)) hx hb hr rfl (fun t ht hW => ⟨⟨(nI 1), (v_length + (nI 1), upd v_typed v_length.toNatClampNeg x1), rfl, Prod.mk.inj (Option.some.inj h), by rw [ht]; exact hP, va_K.moved hW.alike hK, hD⟩, hS.F ht⟩) hS.2.2 d_L_add_44
      · have h := of_neg h c_18
        refine lv_iconst (v := (nI 0)) hx hb d_L_add_21 (by decide) ?_
        rw [hQ]
        exact W.zret (v := (nI 0)) hx hb hr rfl (fun t ht hW => ⟨⟨(nI 0), (v_length, v_typed), rfl, Prod.mk.inj (Option.some.inj h), by rw [ht]; exact hP, va_K.moved hW.alike hK, hD⟩, hS.F ht⟩) hS.2.2 d_L_add_22
set_option maxHeartbeats 1000000 in
set_option maxRecDepth 100000 in
theorem c_L_removeLast (l : Launch) (dC : Nat → ClassId) (dI : Nat → Nat → Nat) (h_o h_typed : Nat) (sz : Nat) (v_length : Int32) (r0 : Int32) (u0 : Int32) (h : m_L_removeLast v_length = some (r0, u0)) : Met l y_L_removeLast w_L_removeLast ({ frames := 0, cells := 0, slots := 0, locals := 0 } : Room) (va_Pc [.ref h_o] (fun U => U.heap.size = sz ∧ va_P (dC, dI) classes [(h_o, .inr (1, [.ref h_typed, .int v_length]))] U.heap ∧ va_K (dC, dI) classes [] U ∧ va_D (fun _ => True) [(h_o, .inr (1, [.ref h_typed, .int v_length]))])) (va_Qi (fun (r : Int32) (u : Int32) => r = r0 ∧ u = u0) (fun (u : Int32) (t : State) => va_P (dC, dI) classes [(h_o, .inr (1, [.ref h_typed, .int u]))] t.heap ∧ va_K (dC, dI) classes [] t ∧ va_D (va_A [(h_o, .inr (1, [.ref h_typed, .int v_length]))] sz) [(h_o, .inr (1, [.ref h_typed, .int u]))]) (va_A [(h_o, .inr (1, [.ref h_typed, .int v_length]))] sz)) 0 0 (va_A [(h_o, .inr (1, [.ref h_typed, .int v_length]))] sz) := by
  refine Met.ofW (cc := b_L_removeLast) (maxL := 1) (ret := (some .boolean)) (by decide) rfl ?_
  intro p e s m args below meth c s₁ B hml hv
  obtain ⟨rfl, hsz, hP, hK, hD0⟩ := hv
  have hx := B.exec
  have hb := B.bytes
  have hr := B.returns
  have hts0 := atoms_spec (ws := w_L_removeLast) B.pre
  have hts : ∀ w ∈ lw_gd, w.before ([.ref h_o] : List Value).toArray s = true := fun w h9 => hts0 w (List.mem_cons_of_mem _ h9)
  have hown : s.vm.findClass R_L = some m.cls := findClass_of_methodNamed B.named
  have hlocks := B.notSynchronized
  subst hsz
  have hD := hD0.self (sz := s.heap.size)
  generalize hAe : va_A [(h_o, .inr (1, [.ref h_typed, .int v_length]))] s.heap.size = A at hD ⊢
  have hA : ∀ q : Nat, s.heap.size ≤ q → A q := fun q h9 => by rw [← hAe]; exact Or.inr h9
  obtain ⟨H, eH⟩ : ∃ H : Heap, H = s.heap := ⟨_, rfl⟩
  have hS : va_S A s.heap H [] := by rw [eH]; exact va_S.rf
  have hP : va_P (dC, dI) classes [(h_o, .inr (1, [.ref h_typed, .int v_length]))] H := by rw [eH]; exact hP
  refine W_gen (fun Q hQ => ?_)
  refine W_heap eH ?_
  clear eH
  have hl := lv_entry ([.ref h_o]) (n := 1) (Nat.le_of_ble_eq_true rfl)
  rw [lg_entry_eq]
  generalize (lg_sl ([.ref h_o]) ++ List.replicate (1 - (lg_sl ([.ref h_o])).length) Slot.unset).toArray = ls at hl ⊢
  have hl : lv_has ls 1 [(0, .ref h_o)] := hl
  unfold m_L_removeLast at h
  refine lv_aload_n hx hb d_L_removeLast_0 rfl (lv_at hl 0 rfl) ?_
  refine va_get (D := (dC, dI)) (ci := 1) (v := .int v_length) (C := R_L) (T := F_L) (N := 2) hx hb hts lay_L hown hK hP 0 rfl rfl 1 (by decide) (hts _ flk_L_15) (fun _ h9 => h9) rfl d_L_removeLast_1 ?_
  refine lv_if_ne (tgt := 9) hx hb d_L_removeLast_4 (by decide) (fun c_4 => ?_) (fun c_4 => ?_)
  · have h := of_neg h c_4
    refine lv_aload_n hx hb d_L_removeLast_9 rfl (lv_at hl 0 rfl) ?_
    refine lv_dup hx hb d_L_removeLast_10 rfl ?_
    refine va_get (D := (dC, dI)) (ci := 1) (v := .int v_length) (C := R_L) (T := F_L) (N := 2) hx hb hts lay_L hown hK hP 0 rfl rfl 1 (by decide) (hts _ flk_L_15) (fun _ h9 => h9) rfl d_L_removeLast_11 ?_
    refine lv_iconst (v := (nI 1)) hx hb d_L_removeLast_14 (by decide) ?_
    refine lv_isub hx hb d_L_removeLast_15 ?_
    refine va_put (D := (dC, dI)) (ci := 1) (v := .int (v_length - (nI 1))) (ty := .int) (C := R_L) (T := F_L) (N := 2) hx hb hts lay_L t_L t_L_ok n_L hown hK hP hD hS 0 rfl rfl 1 (by decide) (hts _ flk_L_15) (fun _ h9 => h9) rfl (by decide +kernel) rfl rfl (Nat.le_of_ble_eq_true rfl) d_L_removeLast_16 (fun H locs hP hD hS => ?_)
    have hP : va_P (dC, dI) classes [(h_o, .inr (1, [.ref h_typed, .int (v_length - (nI 1))]))] H := hP
    have hD : va_D A [(h_o, .inr (1, [.ref h_typed, .int (v_length - (nI 1))]))] := hD
    refine lv_iconst (v := (nI 1)) hx hb d_L_removeLast_19 (by decide) ?_
    rw [hQ]
    exact W.zret (v := (nI 1)) hx hb hr rfl (fun t ht hW => ⟨⟨(nI 1), v_length - (nI 1), rfl, Prod.mk.inj (Option.some.inj h), by rw [ht]; exact hP, va_K.moved hW.alike hK, hD⟩, hS.F ht⟩) hS.2.2 d_L_removeLast_20
  · have h := of_pos h c_4
    refine lv_iconst (v := (nI 0)) hx hb d_L_removeLast_7 (by decide) ?_
    rw [hQ]
    exact W.zret (v := (nI 0)) hx hb hr rfl (fun t ht hW => ⟨⟨(nI 0), v_length, rfl, Prod.mk.inj (Option.some.inj h), by rw [ht]; exact hP, va_K.moved hW.alike hK, hD⟩, hS.F ht⟩) hS.2.2 d_L_removeLast_8
set_option maxHeartbeats 1000000 in
set_option maxRecDepth 100000 in
theorem c_L_clear (l : Launch) (dC : Nat → ClassId) (dI : Nat → Nat → Nat) (h_o h_typed : Nat) (sz : Nat) (v_length : Int32) (u0 : Int32) (h : m_L_clear v_length = some u0) : Met l y_L_clear w_L_clear ({ frames := 0, cells := 0, slots := 0, locals := 0 } : Room) (va_Pc [.ref h_o] (fun U => U.heap.size = sz ∧ va_P (dC, dI) classes [(h_o, .inr (1, [.ref h_typed, .int v_length]))] U.heap ∧ va_K (dC, dI) classes [] U ∧ va_D (fun _ => True) [(h_o, .inr (1, [.ref h_typed, .int v_length]))])) (va_Qv (fun (u : Int32) => u = u0) (fun (u : Int32) (t : State) => va_P (dC, dI) classes [(h_o, .inr (1, [.ref h_typed, .int u]))] t.heap ∧ va_K (dC, dI) classes [] t ∧ va_D (va_A [(h_o, .inr (1, [.ref h_typed, .int v_length]))] sz) [(h_o, .inr (1, [.ref h_typed, .int u]))]) (va_A [(h_o, .inr (1, [.ref h_typed, .int v_length]))] sz)) 0 0 (va_A [(h_o, .inr (1, [.ref h_typed, .int v_length]))] sz) := by
  refine Met.ofW (cc := b_L_clear) (maxL := 1) (ret := none) (by decide) rfl ?_
  intro p e s m args below meth c s₁ B hml hv
  obtain ⟨rfl, hsz, hP, hK, hD0⟩ := hv
  have hx := B.exec
  have hb := B.bytes
  have hr := B.returns
  have hts0 := atoms_spec (ws := w_L_clear) B.pre
  have hts : ∀ w ∈ lw_gd, w.before ([.ref h_o] : List Value).toArray s = true := fun w h9 => hts0 w (List.mem_cons_of_mem _ h9)
  have hown : s.vm.findClass R_L = some m.cls := findClass_of_methodNamed B.named
  have hlocks := B.notSynchronized
  subst hsz
  have hD := hD0.self (sz := s.heap.size)
  generalize hAe : va_A [(h_o, .inr (1, [.ref h_typed, .int v_length]))] s.heap.size = A at hD ⊢
  have hA : ∀ q : Nat, s.heap.size ≤ q → A q := fun q h9 => by rw [← hAe]; exact Or.inr h9
  obtain ⟨H, eH⟩ : ∃ H : Heap, H = s.heap := ⟨_, rfl⟩
  have hS : va_S A s.heap H [] := by rw [eH]; exact va_S.rf
  have hP : va_P (dC, dI) classes [(h_o, .inr (1, [.ref h_typed, .int v_length]))] H := by rw [eH]; exact hP
  refine W_gen (fun Q hQ => ?_)
  refine W_heap eH ?_
  clear eH
  have hl := lv_entry ([.ref h_o]) (n := 1) (Nat.le_of_ble_eq_true rfl)
  rw [lg_entry_eq]
  generalize (lg_sl ([.ref h_o]) ++ List.replicate (1 - (lg_sl ([.ref h_o])).length) Slot.unset).toArray = ls at hl ⊢
  have hl : lv_has ls 1 [(0, .ref h_o)] := hl
  unfold m_L_clear at h
  refine lv_aload_n hx hb d_L_clear_0 rfl (lv_at hl 0 rfl) ?_
  refine lv_iconst (v := (nI 0)) hx hb d_L_clear_1 (by decide) ?_
  refine va_put (D := (dC, dI)) (ci := 1) (v := .int (nI 0)) (ty := .int) (C := R_L) (T := F_L) (N := 2) hx hb hts lay_L t_L t_L_ok n_L hown hK hP hD hS 0 rfl rfl 1 (by decide) (hts _ flk_L_15) (fun _ h9 => h9) rfl (by decide +kernel) rfl rfl (Nat.le_of_ble_eq_true rfl) d_L_clear_2 (fun H locs hP hD hS => ?_)
  have hP : va_P (dC, dI) classes [(h_o, .inr (1, [.ref h_typed, .int (nI 0)]))] H := hP
  have hD : va_D A [(h_o, .inr (1, [.ref h_typed, .int (nI 0)]))] := hD
  rw [hQ]
  exact W.vret hx hb hr (fun t ht hW => ⟨⟨(nI 0), rfl, Option.some.inj h, by rw [ht]; exact hP, va_K.moved hW.alike hK, hD⟩, hS.F ht⟩) hS.2.2 d_L_clear_5
set_option maxHeartbeats 1000000 in
set_option maxRecDepth 100000 in
theorem c_L_at (l : Launch) (dC : Nat → ClassId) (dI : Nat → Nat → Nat) (h_o h_typed : Nat) (k_typed : ClassId) (sz : Nat) (v_length : Int32) (v_typed : Nat → Int32) (x1 : Int32) (r0 : Int32) (u0 : Unit) (h : m_L_at v_length v_typed x1 = some (r0, u0)) : Met l y_L_at w_L_at ({ frames := 0, cells := 0, slots := 0, locals := 0 } : Room) (va_Pc [.ref h_o, .int x1] (fun U => U.heap.size = sz ∧ va_P (dC, dI) classes [(h_o, .inr (1, [.ref h_typed, .int v_length])), (h_typed, .inl (k_typed, 32, .inl v_typed))] U.heap ∧ va_K (dC, dI) classes [(k_typed, .char)] U ∧ va_D (fun _ => True) [(h_o, .inr (1, [.ref h_typed, .int v_length])), (h_typed, .inl (k_typed, 32, .inl v_typed))])) (va_Qi (fun (r : Int32) (u : Unit) => r = r0 ∧ u = u0) (fun (u : Unit) (t : State) => va_P (dC, dI) classes [(h_o, .inr (1, [.ref h_typed, .int v_length])), (h_typed, .inl (k_typed, 32, .inl v_typed))] t.heap ∧ va_K (dC, dI) classes [(k_typed, .char)] t ∧ va_D (va_A [(h_o, .inr (1, [.ref h_typed, .int v_length])), (h_typed, .inl (k_typed, 32, .inl v_typed))] sz) [(h_o, .inr (1, [.ref h_typed, .int v_length])), (h_typed, .inl (k_typed, 32, .inl v_typed))]) (va_A [(h_o, .inr (1, [.ref h_typed, .int v_length])), (h_typed, .inl (k_typed, 32, .inl v_typed))] sz)) 0 0 (va_A [(h_o, .inr (1, [.ref h_typed, .int v_length])), (h_typed, .inl (k_typed, 32, .inl v_typed))] sz) := by
  refine Met.ofW (cc := b_L_at) (maxL := 2) (ret := (some .char)) (by decide) rfl ?_
  intro p e s m args below meth c s₁ B hml hv
  obtain ⟨rfl, hsz, hP, hK, hD0⟩ := hv
  have hx := B.exec
  have hb := B.bytes
  have hr := B.returns
  have hts0 := atoms_spec (ws := w_L_at) B.pre
  have hts : ∀ w ∈ lw_gd, w.before ([.ref h_o, .int x1] : List Value).toArray s = true := fun w h9 => hts0 w (List.mem_cons_of_mem _ h9)
  have hown : s.vm.findClass R_L = some m.cls := findClass_of_methodNamed B.named
  have hlocks := B.notSynchronized
  subst hsz
  have hD := hD0.self (sz := s.heap.size)
  generalize hAe : va_A [(h_o, .inr (1, [.ref h_typed, .int v_length])), (h_typed, .inl (k_typed, 32, .inl v_typed))] s.heap.size = A at hD ⊢
  have hA : ∀ q : Nat, s.heap.size ≤ q → A q := fun q h9 => by rw [← hAe]; exact Or.inr h9
  obtain ⟨H, eH⟩ : ∃ H : Heap, H = s.heap := ⟨_, rfl⟩
  have hS : va_S A s.heap H [] := by rw [eH]; exact va_S.rf
  have hP : va_P (dC, dI) classes [(h_o, .inr (1, [.ref h_typed, .int v_length])), (h_typed, .inl (k_typed, 32, .inl v_typed))] H := by rw [eH]; exact hP
  refine W_gen (fun Q hQ => ?_)
  refine W_heap eH ?_
  clear eH
  have hl := lv_entry ([.ref h_o, .int x1]) (n := 2) (Nat.le_of_ble_eq_true rfl)
  rw [lg_entry_eq]
  generalize (lg_sl ([.ref h_o, .int x1]) ++ List.replicate (2 - (lg_sl ([.ref h_o, .int x1])).length) Slot.unset).toArray = ls at hl ⊢
  have hl : lv_has ls 2 [(0, .ref h_o), (1, .int x1)] := hl
  unfold m_L_at at h
  refine lv_iload_n hx hb d_L_at_0 rfl (lv_at hl 1 rfl) ?_
  refine lv_if_lt (tgt := 21) hx hb d_L_at_1 (by decide) (fun c_1 => ?_) (fun c_1 => ?_)
  · have h := of_pos h c_1
    refine lv_iconst (v := (nI 0)) hx hb d_L_at_21 (by decide) ?_
    rw [hQ]
    exact W.zret (v := (nI 0)) hx hb hr rfl (fun t ht hW => ⟨⟨(nI 0), (), rfl, Prod.mk.inj (Option.some.inj h), by rw [ht]; exact hP, va_K.moved hW.alike hK, hD⟩, hS.F ht⟩) hS.2.2 d_L_at_22
  · have h := of_neg h c_1
    refine lv_iload_n hx hb d_L_at_4 rfl (lv_at hl 1 rfl) ?_
    refine lv_aload_n hx hb d_L_at_5 rfl (lv_at hl 0 rfl) ?_
    refine va_get (D := (dC, dI)) (ci := 1) (v := .int v_length) (C := R_L) (T := F_L) (N := 2) hx hb hts lay_L hown hK hP 0 rfl rfl 1 (by decide) (hts _ flk_L_15) (fun _ h9 => h9) rfl d_L_at_6 ?_
    refine lv_icmp_ge (tgt := 21) hx hb d_L_at_9 (by decide) (fun c_9 => ?_) (fun c_9 => ?_)
    · have h := of_pos h c_9
      refine lv_iconst (v := (nI 0)) hx hb d_L_at_21 (by decide) ?_
      rw [hQ]
      exact W.zret (v := (nI 0)) hx hb hr rfl (fun t ht hW => ⟨⟨(nI 0), (), rfl, Prod.mk.inj (Option.some.inj h), by rw [ht]; exact hP, va_K.moved hW.alike hK, hD⟩, hS.F ht⟩) hS.2.2 d_L_at_22
    · have h := of_neg h c_9
      refine lv_aload_n hx hb d_L_at_12 rfl (lv_at hl 0 rfl) ?_
      refine va_get (D := (dC, dI)) (ci := 1) (v := .ref h_typed) (C := R_L) (T := F_L) (N := 2) hx hb hts lay_L hown hK hP 0 rfl rfl 0 (by decide) (hts _ flk_L_11) (fun _ h9 => h9) rfl d_L_at_13 ?_
      refine lv_iload_n hx hb d_L_at_16 rfl (lv_at hl 1 rfl) ?_
      obtain ⟨g_17, h⟩ := of_guard h
      refine va_cald hx hb hK hP 1 0 rfl rfl (inR_in g_17) d_L_at_17 ?_
      refine lv_goto (tgt := 22) hx hb d_L_at_18 (by decide) ?_
      obtain ⟨g_22, h⟩ := of_guard h
      rw [hQ]
      exact W.zret (v := v_typed x1.toNatClampNeg) hx hb hr (nrc g_22) (fun t ht hW => ⟨⟨v_typed x1.toNatClampNeg, (), rfl, Prod.mk.inj (Option.some.inj h), by rw [ht]; exact hP, va_K.moved hW.alike hK, hD⟩, hS.F ht⟩) hS.2.2 d_L_at_22
set_option maxHeartbeats 1000000 in
set_option maxRecDepth 100000 in
theorem c_L_form (l : Launch) (dC : Nat → ClassId) (dI : Nat → Nat → Nat) (h_o h_typed : Nat) (k_typed : ClassId) (tb : Nat) (ak av : Nat → Nat) (sz : Nat) (v_length : Int32) (v_typed : Nat → Int32) (r0 : Nat) (u0 : Unit) (h : m_L_form v_length v_typed = some (r0, u0)) : Met l y_L_form w_L_form ({ frames := 1, cells := 0, slots := 0, locals := 21 } : Room) (va_Pc [.ref h_o] (fun U => U.heap.size = sz ∧ va_P (dC, dI) classes [(h_o, .inr (1, [.ref h_typed, .int v_length])), (h_typed, .inl (k_typed, 32, .inl v_typed))] U.heap ∧ va_K (dC, dI) classes [(k_typed, .char)] U ∧ va_D (fun _ => True) [(h_o, .inr (1, [.ref h_typed, .int v_length])), (h_typed, .inl (k_typed, 32, .inl v_typed))] ∧ kw tb ak av (va_A [(h_o, .inr (1, [.ref h_typed, .int v_length])), (h_typed, .inl (k_typed, 32, .inl v_typed))] sz) U)) (va_Qr (fun (u : Unit) => u = u0) (fun (u : Unit) (a : Nat) (t : State) => a = ak r0 ∧ va_P (dC, dI) classes [(h_o, .inr (1, [.ref h_typed, .int v_length])), (h_typed, .inl (k_typed, 32, .inl v_typed))] t.heap ∧ va_K (dC, dI) classes [(k_typed, .char)] t ∧ va_D (va_A [(h_o, .inr (1, [.ref h_typed, .int v_length])), (h_typed, .inl (k_typed, 32, .inl v_typed))] sz) [(h_o, .inr (1, [.ref h_typed, .int v_length])), (h_typed, .inl (k_typed, 32, .inl v_typed))]) (va_A [(h_o, .inr (1, [.ref h_typed, .int v_length])), (h_typed, .inl (k_typed, 32, .inl v_typed))] sz)) 0 0 (va_A [(h_o, .inr (1, [.ref h_typed, .int v_length])), (h_typed, .inl (k_typed, 32, .inl v_typed))] sz) := by
  refine Met.ofW (cc := b_L_form) (maxL := 1) (ret := (some (.object "java/lang/String"))) (by decide) rfl ?_
  intro p e s m args below meth c s₁ B hml hv
  obtain ⟨rfl, hsz, hP, hK, hD0, hC⟩ := hv
  have hx := B.exec
  have hb := B.bytes
  have hr := B.returns
  have hts0 := atoms_spec (ws := w_L_form) B.pre
  have hts : ∀ w ∈ lw_gd, w.before ([.ref h_o] : List Value).toArray s = true := fun w h9 => hts0 w (List.mem_cons_of_mem _ h9)
  have hown : s.vm.findClass R_L = some m.cls := findClass_of_methodNamed B.named
  have hlocks := B.notSynchronized
  subst hsz
  have hD := hD0.self (sz := s.heap.size)
  generalize hAe : va_A [(h_o, .inr (1, [.ref h_typed, .int v_length])), (h_typed, .inl (k_typed, 32, .inl v_typed))] s.heap.size = A at hD hC ⊢
  have hA : ∀ q : Nat, s.heap.size ≤ q → A q := fun q h9 => by rw [← hAe]; exact Or.inr h9
  obtain ⟨H, eH⟩ : ∃ H : Heap, H = s.heap := ⟨_, rfl⟩
  have hS : va_S A s.heap H [] := by rw [eH]; exact va_S.rf
  have hP : va_P (dC, dI) classes [(h_o, .inr (1, [.ref h_typed, .int v_length])), (h_typed, .inl (k_typed, 32, .inl v_typed))] H := by rw [eH]; exact hP
  refine W_gen (fun Q hQ => ?_)
  refine W_heap eH ?_
  clear eH
  have hl := lv_entry ([.ref h_o]) (n := 1) (Nat.le_of_ble_eq_true rfl)
  rw [lg_entry_eq]
  generalize (lg_sl ([.ref h_o]) ++ List.replicate (1 - (lg_sl ([.ref h_o])).length) Slot.unset).toArray = ls at hl ⊢
  have hl : lv_has ls 1 [(0, .ref h_o)] := hl
  unfold m_L_form at h
  refine lv_aload_n hx hb d_L_form_0 rfl (lv_at hl 0 rfl) ?_
  refine lv_iconst (v := (nI 0)) hx hb d_L_form_1 (by decide) ?_
  have hPc := hP.sub (ws' := [(h_o, .inr (1, [.ref h_typed, .int v_length])), (h_typed, .inl (k_typed, 32, .inl v_typed))]) [0, 1] rfl
  have hDc := hD.sub (ws' := [(h_o, .inr (1, [.ref h_typed, .int v_length])), (h_typed, .inl (k_typed, 32, .inl v_typed))]) [0, 1] (by decide) rfl
  have hKc := hK.sub (tys' := [(k_typed, .char)]) [0] rfl
  have hFc := va_free (wc := [(h_o, .inr (1, [.ref h_typed, .int v_length])), (h_typed, .inl (k_typed, 32, .inl v_typed))]) hD hS hA [0, 1] rfl
  obtain ⟨v_2, hc_2, h⟩ := of_bind h
  refine va_calli (va_runV (As := [.int (nI 0)]) (rest := []) ⟨hx, hb, hml, hown, hts⟩ (c_L_at l dC dI h_o h_typed k_typed H.size v_length v_typed (nI 0) v_2.1 v_2.2 hc_2) (cwV 1 hts (gV mlk_L_39 ins_L_at sel_L_at ini_L cod_L_at) rfl rfl rfl (by decide +kernel) ⟨Nat.le_of_ble_eq_true rfl, Nat.le_of_ble_eq_true rfl⟩) ⟨fun a U g mk q => by obtain ⟨q0, q1, qP, qK, qD⟩ := q; exact ⟨q0, q1, qP, va_K.moved (u := U) (U := U.calling g mk a) (Vm.Alike.refl U.vm) qK, qD⟩, va_recv hKc hPc (ci := 1) (q0 := 0) rfl rfl, fun U hU hW => ⟨rfl, by rw [hU], by rw [hU]; exact hPc, va_K.moved hW.alike hKc, hDc.weaken (fun _ _ _ _ => trivial)⟩⟩ rfl rfl hl.1 rfl (lv_room (Nat.le_of_ble_eq_true rfl)) d_L_form_2 ⟨Nat.le_of_ble_eq_true rfl, Nat.le_of_ble_eq_true rfl⟩) hS (fun q _ h9 => hFc q h9) hFc (fun r_2 u t H1 locs ht hvm hw hB hz1 hk1 hS => ?_)
  obtain ⟨rfl, rfl⟩ := hw
  obtain ⟨hP1, hK1, hD1⟩ := hB
  rw [ht] at hP1
  obtain ⟨hP, hD⟩ := va_join (wr := []) (w1 := [(h_o, .inr (1, [.ref h_typed, .int v_length])), (h_typed, .inl (k_typed, 32, .inl v_typed))]) hP hD [0, 1] [] rfl rfl (by decide) (by decide) hk1 hFc hP1 hD1
  have hP := hP.sub (ws' := [(h_o, .inr (1, [.ref h_typed, .int v_length])), (h_typed, .inl (k_typed, 32, .inl v_typed))]) [0, 1] rfl
  have hD := hD.sub (ws' := [(h_o, .inr (1, [.ref h_typed, .int v_length])), (h_typed, .inl (k_typed, 32, .inl v_typed))]) [0, 1] (by decide) rfl
  generalize H1 = H at hP hS ⊢
  by_cases c_5_43 : v_2.1 = (nI 43)
  · have h := of_pos h c_5_43
    refine lv_lookup (tgt := 70) (off := 65) hx hb d_L_form_5 (by decide) (by rw [c_5_43]; decide) (by decide) ?_
    refine va_ldcS hx hb hown hC.str_L_62 d_L_form_70 ?_
    rw [hQ]
    exact W.aret hx hb hr (Or.inl ⟨_, rfl⟩) (Or.inr ⟨_, rfl⟩) (fun t ht hW => ⟨⟨(), _, rfl, (Prod.mk.inj (Option.some.inj h)).2, by rw [← (Prod.mk.inj (Option.some.inj h)).1], by rw [ht]; exact hP, va_K.moved hW.alike hK, hD⟩, hS.F ht⟩) hS.2.2 d_L_form_72
  have h := of_neg h c_5_43
  by_cases c_5_45 : v_2.1 = (nI 45)
  · have h := of_pos h c_5_45
    refine lv_lookup (tgt := 73) (off := 68) hx hb d_L_form_5 (by decide) (by rw [c_5_45]; decide) (by decide) ?_
    refine va_ldcS hx hb hown hC.str_L_64 d_L_form_73 ?_
    rw [hQ]
    exact W.aret hx hb hr (Or.inl ⟨_, rfl⟩) (Or.inr ⟨_, rfl⟩) (fun t ht hW => ⟨⟨(), _, rfl, (Prod.mk.inj (Option.some.inj h)).2, by rw [← (Prod.mk.inj (Option.some.inj h)).1], by rw [ht]; exact hP, va_K.moved hW.alike hK, hD⟩, hS.F ht⟩) hS.2.2 d_L_form_75
  have h := of_neg h c_5_45
  by_cases c_5_97 : v_2.1 = (nI 97)
  · have h := of_pos h c_5_97
    refine lv_lookup (tgt := 64) (off := 59) hx hb d_L_form_5 (by decide) (by rw [c_5_97]; decide) (by decide) ?_
    refine va_ldcS hx hb hown hC.str_L_58 d_L_form_64 ?_
    rw [hQ]
    exact W.aret hx hb hr (Or.inl ⟨_, rfl⟩) (Or.inr ⟨_, rfl⟩) (fun t ht hW => ⟨⟨(), _, rfl, (Prod.mk.inj (Option.some.inj h)).2, by rw [← (Prod.mk.inj (Option.some.inj h)).1], by rw [ht]; exact hP, va_K.moved hW.alike hK, hD⟩, hS.F ht⟩) hS.2.2 d_L_form_66
  have h := of_neg h c_5_97
  by_cases c_5_98 : v_2.1 = (nI 98)
  · have h := of_pos h c_5_98
    refine lv_lookup (tgt := 64) (off := 59) hx hb d_L_form_5 (by decide) (by rw [c_5_98]; decide) (by decide) ?_
    refine va_ldcS hx hb hown hC.str_L_58 d_L_form_64 ?_
    rw [hQ]
    exact W.aret hx hb hr (Or.inl ⟨_, rfl⟩) (Or.inr ⟨_, rfl⟩) (fun t ht hW => ⟨⟨(), _, rfl, (Prod.mk.inj (Option.some.inj h)).2, by rw [← (Prod.mk.inj (Option.some.inj h)).1], by rw [ht]; exact hP, va_K.moved hW.alike hK, hD⟩, hS.F ht⟩) hS.2.2 d_L_form_66
  have h := of_neg h c_5_98
  by_cases c_5_116 : v_2.1 = (nI 116)
  · have h := of_pos h c_5_116
    refine lv_lookup (tgt := 76) (off := 71) hx hb d_L_form_5 (by decide) (by rw [c_5_116]; decide) (by decide) ?_
    refine va_ldcS hx hb hown hC.str_L_66 d_L_form_76 ?_
    rw [hQ]
    exact W.aret hx hb hr (Or.inl ⟨_, rfl⟩) (Or.inr ⟨_, rfl⟩) (fun t ht hW => ⟨⟨(), _, rfl, (Prod.mk.inj (Option.some.inj h)).2, by rw [← (Prod.mk.inj (Option.some.inj h)).1], by rw [ht]; exact hP, va_K.moved hW.alike hK, hD⟩, hS.F ht⟩) hS.2.2 d_L_form_78
  have h := of_neg h c_5_116
  by_cases c_5_126 : v_2.1 = (nI 126)
  · have h := of_pos h c_5_126
    refine lv_lookup (tgt := 67) (off := 62) hx hb d_L_form_5 (by decide) (by rw [c_5_126]; decide) (by decide) ?_
    refine va_ldcS hx hb hown hC.str_L_60 d_L_form_67 ?_
    rw [hQ]
    exact W.aret hx hb hr (Or.inl ⟨_, rfl⟩) (Or.inr ⟨_, rfl⟩) (fun t ht hW => ⟨⟨(), _, rfl, (Prod.mk.inj (Option.some.inj h)).2, by rw [← (Prod.mk.inj (Option.some.inj h)).1], by rw [ht]; exact hP, va_K.moved hW.alike hK, hD⟩, hS.F ht⟩) hS.2.2 d_L_form_69
  have h := of_neg h c_5_126
  refine lv_lookup (tgt := 79) (off := 74) hx hb d_L_form_5 (by decide) (by refine (lv_osw c_5_43 (by decide)).trans ?_; refine (lv_osw c_5_45 (by decide)).trans ?_; refine (lv_osw c_5_97 (by decide)).trans ?_; refine (lv_osw c_5_98 (by decide)).trans ?_; refine (lv_osw c_5_116 (by decide)).trans ?_; refine (lv_osw c_5_126 (by decide)).trans ?_; rfl) (by decide) ?_
  refine va_ldcS hx hb hown hC.str_L_68 d_L_form_79 ?_
  rw [hQ]
  exact W.aret hx hb hr (Or.inl ⟨_, rfl⟩) (Or.inr ⟨_, rfl⟩) (fun t ht hW => ⟨⟨(), _, rfl, (Prod.mk.inj (Option.some.inj h)).2, by rw [← (Prod.mk.inj (Option.some.inj h)).1], by rw [ht]; exact hP, va_K.moved hW.alike hK, hD⟩, hS.F ht⟩) hS.2.2 d_L_form_81
set_option maxHeartbeats 1000000 in
set_option maxRecDepth 100000 in
theorem c_L_allows (l : Launch) (dC : Nat → ClassId) (dI : Nat → Nat → Nat) (sz : Nat)  (x0 : Int32) (x1 : Int32) (r0 : Int32) (u0 : Unit) (h : m_L_allows x0 x1 = some (r0, u0)) : Met l y_L_allows w_L_allows ({ frames := 0, cells := 0, slots := 0, locals := 0 } : Room) (va_Pc [.int x0, .int x1] (fun U => U.heap.size = sz ∧ va_P (dC, dI) classes [] U.heap ∧ va_K (dC, dI) classes [] U ∧ va_D (fun _ => True) [])) (va_Qi (fun (r : Int32) (u : Unit) => r = r0 ∧ u = u0) (fun (u : Unit) (t : State) => va_P (dC, dI) classes [] t.heap ∧ va_K (dC, dI) classes [] t ∧ va_D (va_A [] sz) []) (va_A [] sz)) 0 0 (va_A [] sz) := by
  refine Met.ofW (cc := b_L_allows) (maxL := 2) (ret := (some .boolean)) (by decide) rfl ?_
  intro p e s m args below meth c s₁ B hml hv
  obtain ⟨rfl, hsz, hP, hK, hD0⟩ := hv
  have hx := B.exec
  have hb := B.bytes
  have hr := B.returns
  have hts0 := atoms_spec (ws := w_L_allows) B.pre
  have hts : ∀ w ∈ lw_gd, w.before ([.int x0, .int x1] : List Value).toArray s = true := fun w h9 => hts0 w (List.mem_cons_of_mem _ h9)
  have hown : s.vm.findClass R_L = some m.cls := findClass_of_methodNamed B.named
  have hlocks := B.notSynchronized
  subst hsz
  have hD := hD0.self (sz := s.heap.size)
  generalize hAe : va_A [] s.heap.size = A at hD ⊢
  have hA : ∀ q : Nat, s.heap.size ≤ q → A q := fun q h9 => by rw [← hAe]; exact Or.inr h9
  obtain ⟨H, eH⟩ : ∃ H : Heap, H = s.heap := ⟨_, rfl⟩
  have hS : va_S A s.heap H [] := by rw [eH]; exact va_S.rf
  have hP : va_P (dC, dI) classes [] H := by rw [eH]; exact hP
  refine W_gen (fun Q hQ => ?_)
  refine W_heap eH ?_
  clear eH
  have hl := lv_entry ([.int x0, .int x1]) (n := 2) (Nat.le_of_ble_eq_true rfl)
  rw [lg_entry_eq]
  generalize (lg_sl ([.int x0, .int x1]) ++ List.replicate (2 - (lg_sl ([.int x0, .int x1])).length) Slot.unset).toArray = ls at hl ⊢
  have hl : lv_has ls 2 [(0, .int x0), (1, .int x1)] := hl
  unfold m_L_allows at h
  refine lv_iload_n hx hb d_L_allows_0 rfl (lv_at hl 0 rfl) ?_
  by_cases c_1_99 : x0 = (nI 99)
  · have h := of_pos h c_1_99
    refine lv_lookup (tgt := 86) (off := 85) hx hb d_L_allows_1 (by decide) (by rw [c_1_99]; decide) (by decide) ?_
    refine lv_iload_n hx hb d_L_allows_86 rfl (lv_at hl 1 rfl) ?_
    refine lv_bipush (v := (nI 48)) hx hb d_L_allows_87 (by decide) ?_
    refine lv_icmp_lt (tgt := 102) hx hb d_L_allows_89 (by decide) (fun c_89 => ?_) (fun c_89 => ?_)
    · have h := of_pos h c_89
      refine lv_iconst (v := (nI 0)) hx hb d_L_allows_102 (by decide) ?_
      rw [hQ]
      exact W.zret (v := (nI 0)) hx hb hr rfl (fun t ht hW => ⟨⟨(nI 0), (), rfl, Prod.mk.inj (Option.some.inj h), by rw [ht]; exact hP, va_K.moved hW.alike hK, hD⟩, hS.F ht⟩) hS.2.2 d_L_allows_103
    · have h := of_neg h c_89
      refine lv_iload_n hx hb d_L_allows_92 rfl (lv_at hl 1 rfl) ?_
      refine lv_bipush (v := (nI 51)) hx hb d_L_allows_93 (by decide) ?_
      refine lv_icmp_gt (tgt := 102) hx hb d_L_allows_95 (by decide) (fun c_95 => ?_) (fun c_95 => ?_)
      · have h := of_pos h c_95
        refine lv_iconst (v := (nI 0)) hx hb d_L_allows_102 (by decide) ?_
        rw [hQ]
        exact W.zret (v := (nI 0)) hx hb hr rfl (fun t ht hW => ⟨⟨(nI 0), (), rfl, Prod.mk.inj (Option.some.inj h), by rw [ht]; exact hP, va_K.moved hW.alike hK, hD⟩, hS.F ht⟩) hS.2.2 d_L_allows_103
      · have h := of_neg h c_95
        refine lv_iconst (v := (nI 1)) hx hb d_L_allows_98 (by decide) ?_
        refine lv_goto (tgt := 103) hx hb d_L_allows_99 (by decide) ?_
        rw [hQ]
        exact W.zret (v := (nI 1)) hx hb hr rfl (fun t ht hW => ⟨⟨(nI 1), (), rfl, Prod.mk.inj (Option.some.inj h), by rw [ht]; exact hP, va_K.moved hW.alike hK, hD⟩, hS.F ht⟩) hS.2.2 d_L_allows_103
  have h := of_neg h c_1_99
  by_cases c_1_102 : x0 = (nI 102)
  · have h := of_pos h c_1_102
    refine lv_lookup (tgt := 44) (off := 43) hx hb d_L_allows_1 (by decide) (by rw [c_1_102]; decide) (by decide) ?_
    refine lv_iload_n hx hb d_L_allows_44 rfl (lv_at hl 1 rfl) ?_
    refine lv_bipush (v := (nI 97)) hx hb d_L_allows_45 (by decide) ?_
    refine lv_icmp_eq (tgt := 56) hx hb d_L_allows_47 (by decide) (fun c_47 => ?_) (fun c_47 => ?_)
    · have h := of_pos h c_47
      refine lv_iconst (v := (nI 1)) hx hb d_L_allows_56 (by decide) ?_
      refine lv_goto (tgt := 61) hx hb d_L_allows_57 (by decide) ?_
      rw [hQ]
      exact W.zret (v := (nI 1)) hx hb hr rfl (fun t ht hW => ⟨⟨(nI 1), (), rfl, Prod.mk.inj (Option.some.inj h), by rw [ht]; exact hP, va_K.moved hW.alike hK, hD⟩, hS.F ht⟩) hS.2.2 d_L_allows_61
    · have h := of_neg h c_47
      refine lv_iload_n hx hb d_L_allows_50 rfl (lv_at hl 1 rfl) ?_
      refine lv_bipush (v := (nI 98)) hx hb d_L_allows_51 (by decide) ?_
      refine lv_icmp_ne (tgt := 60) hx hb d_L_allows_53 (by decide) (fun c_53 => ?_) (fun c_53 => ?_)
      · have h := of_neg h c_53
        refine lv_iconst (v := (nI 0)) hx hb d_L_allows_60 (by decide) ?_
        rw [hQ]
        exact W.zret (v := (nI 0)) hx hb hr rfl (fun t ht hW => ⟨⟨(nI 0), (), rfl, Prod.mk.inj (Option.some.inj h), by rw [ht]; exact hP, va_K.moved hW.alike hK, hD⟩, hS.F ht⟩) hS.2.2 d_L_allows_61
      · have h := of_pos h c_53
        refine lv_iconst (v := (nI 1)) hx hb d_L_allows_56 (by decide) ?_
        refine lv_goto (tgt := 61) hx hb d_L_allows_57 (by decide) ?_
        rw [hQ]
        exact W.zret (v := (nI 1)) hx hb hr rfl (fun t ht hW => ⟨⟨(nI 1), (), rfl, Prod.mk.inj (Option.some.inj h), by rw [ht]; exact hP, va_K.moved hW.alike hK, hD⟩, hS.F ht⟩) hS.2.2 d_L_allows_61
  have h := of_neg h c_1_102
  by_cases c_1_114 : x0 = (nI 114)
  · have h := of_pos h c_1_114
    refine lv_lookup (tgt := 62) (off := 61) hx hb d_L_allows_1 (by decide) (by rw [c_1_114]; decide) (by decide) ?_
    refine lv_iload_n hx hb d_L_allows_62 rfl (lv_at hl 1 rfl) ?_
    refine lv_bipush (v := (nI 97)) hx hb d_L_allows_63 (by decide) ?_
    refine lv_icmp_eq (tgt := 80) hx hb d_L_allows_65 (by decide) (fun c_65 => ?_) (fun c_65 => ?_)
    · have h := of_pos h c_65
      refine lv_iconst (v := (nI 1)) hx hb d_L_allows_80 (by decide) ?_
      refine lv_goto (tgt := 85) hx hb d_L_allows_81 (by decide) ?_
      rw [hQ]
      exact W.zret (v := (nI 1)) hx hb hr rfl (fun t ht hW => ⟨⟨(nI 1), (), rfl, Prod.mk.inj (Option.some.inj h), by rw [ht]; exact hP, va_K.moved hW.alike hK, hD⟩, hS.F ht⟩) hS.2.2 d_L_allows_85
    · have h := of_neg h c_65
      refine lv_iload_n hx hb d_L_allows_68 rfl (lv_at hl 1 rfl) ?_
      refine lv_bipush (v := (nI 98)) hx hb d_L_allows_69 (by decide) ?_
      refine lv_icmp_eq (tgt := 80) hx hb d_L_allows_71 (by decide) (fun c_71 => ?_) (fun c_71 => ?_)
      · have h := of_pos h c_71
        refine lv_iconst (v := (nI 1)) hx hb d_L_allows_80 (by decide) ?_
        refine lv_goto (tgt := 85) hx hb d_L_allows_81 (by decide) ?_
        rw [hQ]
        exact W.zret (v := (nI 1)) hx hb hr rfl (fun t ht hW => ⟨⟨(nI 1), (), rfl, Prod.mk.inj (Option.some.inj h), by rw [ht]; exact hP, va_K.moved hW.alike hK, hD⟩, hS.F ht⟩) hS.2.2 d_L_allows_85
      · have h := of_neg h c_71
        refine lv_iload_n hx hb d_L_allows_74 rfl (lv_at hl 1 rfl) ?_
        refine lv_bipush (v := (nI 116)) hx hb d_L_allows_75 (by decide) ?_
        refine lv_icmp_ne (tgt := 84) hx hb d_L_allows_77 (by decide) (fun c_77 => ?_) (fun c_77 => ?_)
        · have h := of_neg h c_77
          refine lv_iconst (v := (nI 0)) hx hb d_L_allows_84 (by decide) ?_
          rw [hQ]
          exact W.zret (v := (nI 0)) hx hb hr rfl (fun t ht hW => ⟨⟨(nI 0), (), rfl, Prod.mk.inj (Option.some.inj h), by rw [ht]; exact hP, va_K.moved hW.alike hK, hD⟩, hS.F ht⟩) hS.2.2 d_L_allows_85
        · have h := of_pos h c_77
          refine lv_iconst (v := (nI 1)) hx hb d_L_allows_80 (by decide) ?_
          refine lv_goto (tgt := 85) hx hb d_L_allows_81 (by decide) ?_
          rw [hQ]
          exact W.zret (v := (nI 1)) hx hb hr rfl (fun t ht hW => ⟨⟨(nI 1), (), rfl, Prod.mk.inj (Option.some.inj h), by rw [ht]; exact hP, va_K.moved hW.alike hK, hD⟩, hS.F ht⟩) hS.2.2 d_L_allows_85
  have h := of_neg h c_1_114
  by_cases c_1_118 : x0 = (nI 118)
  · have h := of_pos h c_1_118
    refine lv_lookup (tgt := 104) (off := 103) hx hb d_L_allows_1 (by decide) (by rw [c_1_118]; decide) (by decide) ?_
    refine lv_iload_n hx hb d_L_allows_104 rfl (lv_at hl 1 rfl) ?_
    refine lv_bipush (v := (nI 88)) hx hb d_L_allows_105 (by decide) ?_
    refine lv_icmp_eq (tgt := 122) hx hb d_L_allows_107 (by decide) (fun c_107 => ?_) (fun c_107 => ?_)
    · have h := of_pos h c_107
      refine lv_iconst (v := (nI 1)) hx hb d_L_allows_122 (by decide) ?_
      refine lv_goto (tgt := 127) hx hb d_L_allows_123 (by decide) ?_
      rw [hQ]
      exact W.zret (v := (nI 1)) hx hb hr rfl (fun t ht hW => ⟨⟨(nI 1), (), rfl, Prod.mk.inj (Option.some.inj h), by rw [ht]; exact hP, va_K.moved hW.alike hK, hD⟩, hS.F ht⟩) hS.2.2 d_L_allows_127
    · have h := of_neg h c_107
      refine lv_iload_n hx hb d_L_allows_110 rfl (lv_at hl 1 rfl) ?_
      refine lv_bipush (v := (nI 89)) hx hb d_L_allows_111 (by decide) ?_
      refine lv_icmp_eq (tgt := 122) hx hb d_L_allows_113 (by decide) (fun c_113 => ?_) (fun c_113 => ?_)
      · have h := of_pos h c_113
        refine lv_iconst (v := (nI 1)) hx hb d_L_allows_122 (by decide) ?_
        refine lv_goto (tgt := 127) hx hb d_L_allows_123 (by decide) ?_
        rw [hQ]
        exact W.zret (v := (nI 1)) hx hb hr rfl (fun t ht hW => ⟨⟨(nI 1), (), rfl, Prod.mk.inj (Option.some.inj h), by rw [ht]; exact hP, va_K.moved hW.alike hK, hD⟩, hS.F ht⟩) hS.2.2 d_L_allows_127
      · have h := of_neg h c_113
        refine lv_iload_n hx hb d_L_allows_116 rfl (lv_at hl 1 rfl) ?_
        refine lv_bipush (v := (nI 90)) hx hb d_L_allows_117 (by decide) ?_
        refine lv_icmp_ne (tgt := 126) hx hb d_L_allows_119 (by decide) (fun c_119 => ?_) (fun c_119 => ?_)
        · have h := of_neg h c_119
          refine lv_iconst (v := (nI 0)) hx hb d_L_allows_126 (by decide) ?_
          rw [hQ]
          exact W.zret (v := (nI 0)) hx hb hr rfl (fun t ht hW => ⟨⟨(nI 0), (), rfl, Prod.mk.inj (Option.some.inj h), by rw [ht]; exact hP, va_K.moved hW.alike hK, hD⟩, hS.F ht⟩) hS.2.2 d_L_allows_127
        · have h := of_pos h c_119
          refine lv_iconst (v := (nI 1)) hx hb d_L_allows_122 (by decide) ?_
          refine lv_goto (tgt := 127) hx hb d_L_allows_123 (by decide) ?_
          rw [hQ]
          exact W.zret (v := (nI 1)) hx hb hr rfl (fun t ht hW => ⟨⟨(nI 1), (), rfl, Prod.mk.inj (Option.some.inj h), by rw [ht]; exact hP, va_K.moved hW.alike hK, hD⟩, hS.F ht⟩) hS.2.2 d_L_allows_127
  have h := of_neg h c_1_118
  refine lv_lookup (tgt := 128) (off := 127) hx hb d_L_allows_1 (by decide) (by refine (lv_osw c_1_99 (by decide)).trans ?_; refine (lv_osw c_1_102 (by decide)).trans ?_; refine (lv_osw c_1_114 (by decide)).trans ?_; refine (lv_osw c_1_118 (by decide)).trans ?_; rfl) (by decide) ?_
  refine lv_iload_n hx hb d_L_allows_128 rfl (lv_at hl 1 rfl) ?_
  refine lv_iload_n hx hb d_L_allows_129 rfl (lv_at hl 0 rfl) ?_
  refine lv_icmp_ne (tgt := 137) hx hb d_L_allows_130 (by decide) (fun c_130 => ?_) (fun c_130 => ?_)
  · have h := of_neg h c_130
    refine lv_iconst (v := (nI 0)) hx hb d_L_allows_137 (by decide) ?_
    rw [hQ]
    exact W.zret (v := (nI 0)) hx hb hr rfl (fun t ht hW => ⟨⟨(nI 0), (), rfl, Prod.mk.inj (Option.some.inj h), by rw [ht]; exact hP, va_K.moved hW.alike hK, hD⟩, hS.F ht⟩) hS.2.2 d_L_allows_138
  · have h := of_pos h c_130
    refine lv_iconst (v := (nI 1)) hx hb d_L_allows_133 (by decide) ?_
    refine lv_goto (tgt := 138) hx hb d_L_allows_134 (by decide) ?_
    rw [hQ]
    exact W.zret (v := (nI 1)) hx hb hr rfl (fun t ht hW => ⟨⟨(nI 1), (), rfl, Prod.mk.inj (Option.some.inj h), by rw [ht]; exact hP, va_K.moved hW.alike hK, hD⟩, hS.F ht⟩) hS.2.2 d_L_allows_138
set_option maxHeartbeats 1000000 in
set_option maxRecDepth 100000 in
theorem c_L_begunStatement (l : Launch) (dC : Nat → ClassId) (dI : Nat → Nat → Nat) (h_o h_typed : Nat) (k_typed : ClassId) (tb : Nat) (ak av : Nat → Nat) (sz : Nat) (v_length : Int32) (v_typed : Nat → Int32) (r0 : Int32) (u0 : Unit) (h : m_L_begunStatement v_length v_typed = some (r0, u0)) : Met l y_L_begunStatement w_L_begunStatement ({ frames := 4, cells := 0, slots := 0, locals := 85 } : Room) (va_Pc [.ref h_o] (fun U => U.heap.size = sz ∧ va_P (dC, dI) classes [(h_o, .inr (1, [.ref h_typed, .int v_length])), (h_typed, .inl (k_typed, 32, .inl v_typed))] U.heap ∧ va_K (dC, dI) classes [(k_typed, .char)] U ∧ va_D (fun _ => True) [(h_o, .inr (1, [.ref h_typed, .int v_length])), (h_typed, .inl (k_typed, 32, .inl v_typed))] ∧ kw tb ak av (va_A [(h_o, .inr (1, [.ref h_typed, .int v_length])), (h_typed, .inl (k_typed, 32, .inl v_typed))] sz) U)) (va_Qi (fun (r : Int32) (u : Unit) => r = r0 ∧ u = u0) (fun (u : Unit) (t : State) => va_P (dC, dI) classes [(h_o, .inr (1, [.ref h_typed, .int v_length])), (h_typed, .inl (k_typed, 32, .inl v_typed))] t.heap ∧ va_K (dC, dI) classes [(k_typed, .char)] t ∧ va_D (va_A [(h_o, .inr (1, [.ref h_typed, .int v_length])), (h_typed, .inl (k_typed, 32, .inl v_typed))] sz) [(h_o, .inr (1, [.ref h_typed, .int v_length])), (h_typed, .inl (k_typed, 32, .inl v_typed))]) (va_A [(h_o, .inr (1, [.ref h_typed, .int v_length])), (h_typed, .inl (k_typed, 32, .inl v_typed))] sz)) 0 0 (va_A [(h_o, .inr (1, [.ref h_typed, .int v_length])), (h_typed, .inl (k_typed, 32, .inl v_typed))] sz) := by
  refine Met.ofW (cc := b_L_begunStatement) (maxL := 3) (ret := (some .int)) (by decide) rfl ?_
  intro p e s m args below meth c s₁ B hml hv
  obtain ⟨rfl, hsz, hP, hK, hD0, hC⟩ := hv
  have hx := B.exec
  have hb := B.bytes
  have hr := B.returns
  have hts0 := atoms_spec (ws := w_L_begunStatement) B.pre
  have hts : ∀ w ∈ lw_gd, w.before ([.ref h_o] : List Value).toArray s = true := fun w h9 => hts0 w (List.mem_cons_of_mem _ h9)
  have hown : s.vm.findClass R_L = some m.cls := findClass_of_methodNamed B.named
  have hlocks := B.notSynchronized
  subst hsz
  have hD := hD0.self (sz := s.heap.size)
  generalize hAe : va_A [(h_o, .inr (1, [.ref h_typed, .int v_length])), (h_typed, .inl (k_typed, 32, .inl v_typed))] s.heap.size = A at hD hC ⊢
  have hA : ∀ q : Nat, s.heap.size ≤ q → A q := fun q h9 => by rw [← hAe]; exact Or.inr h9
  obtain ⟨H, eH⟩ : ∃ H : Heap, H = s.heap := ⟨_, rfl⟩
  have hS : va_S A s.heap H [] := by rw [eH]; exact va_S.rf
  have hP : va_P (dC, dI) classes [(h_o, .inr (1, [.ref h_typed, .int v_length])), (h_typed, .inl (k_typed, 32, .inl v_typed))] H := by rw [eH]; exact hP
  refine W_gen (fun Q hQ => ?_)
  refine W_heap eH ?_
  clear eH
  have hl := lv_entry ([.ref h_o]) (n := 3) (Nat.le_of_ble_eq_true rfl)
  rw [lg_entry_eq]
  generalize (lg_sl ([.ref h_o]) ++ List.replicate (3 - (lg_sl ([.ref h_o])).length) Slot.unset).toArray = ls at hl ⊢
  have hl : lv_has ls 3 [(0, .ref h_o)] := hl
  have J_7 : ∀ (n : Nat) (z1 : Nat) (z2 : Int32), m_L_begunStatement_7 v_length v_typed n z1 z2 = some (r0, u0) → ∀ (H : Heap) (locs : List Loc), va_P (dC, dI) classes [(h_o, .inr (1, [.ref h_typed, .int v_length])), (h_typed, .inl (k_typed, 32, .inl v_typed))] H → va_D A [(h_o, .inr (1, [.ref h_typed, .int v_length])), (h_typed, .inl (k_typed, 32, .inl v_typed))] → va_S A s.heap H locs → ∀ (ls : Array Slot), lv_has ls 3 [(0, .ref h_o), (1, .ref (ak z1)), (2, .int z2)] → W p l e (headSpec w_L_begunStatement ({ frames := 4, cells := 0, slots := 0, locals := 85 } : Room)).room s m ([.ref h_o] : List Value).toArray below meth c H locs 0 0 Q (F0 m 7 ls []) := by
    intro n
    induction n with
    | zero => intro z1 z2 h; exact absurd h (by unfold m_L_begunStatement_7; exact fun h9 => nomatch h9)
    | succ n ih =>
      intro z1 z2 h H locs hP hD hS ls hl
      unfold m_L_begunStatement_7 at h
      refine lv_iload_n hx hb d_L_begunStatement_7 rfl (lv_at hl 2 rfl) ?_
      refine lv_aload_n hx hb d_L_begunStatement_8 rfl (lv_at hl 0 rfl) ?_
      refine va_get (D := (dC, dI)) (ci := 1) (v := .int v_length) (C := R_L) (T := F_L) (N := 2) hx hb hts lay_L hown hK hP 0 rfl rfl 1 (by decide) (hts _ flk_L_15) (fun _ h9 => h9) rfl d_L_begunStatement_9 ?_
      refine lv_icmp_ge (tgt := 46) hx hb d_L_begunStatement_12 (by decide) (fun c_12 => ?_) (fun c_12 => ?_)
      · have h := of_pos h c_12
        refine lv_iload_n hx hb d_L_begunStatement_46 rfl (lv_at hl 2 rfl) ?_
        rw [hQ]
        exact W.iret (v := z2) hx hb hr (fun t ht hW => ⟨⟨z2, (), rfl, Prod.mk.inj (Option.some.inj h), by rw [ht]; exact hP, va_K.moved hW.alike hK, hD⟩, hS.F ht⟩) hS.2.2 d_L_begunStatement_47
      · have h := of_neg h c_12
        refine lv_iload_n hx hb d_L_begunStatement_15 rfl (lv_at hl 2 rfl) ?_
        refine lv_aload_n hx hb d_L_begunStatement_16 rfl (lv_at hl 1 rfl) ?_
        have hPc := hP.sub (ws' := []) [] rfl
        have hDc := hD.sub (ws' := []) [] (by decide) rfl
        have hKc := hK.sub (tys' := []) [] rfl
        have hFc := va_free (wc := []) hD hS hA [] rfl
        obtain ⟨gq_17, h⟩ := of_guard h
        obtain ⟨v_17, hc_17, h⟩ := of_bind h
        skip
        refine va_calli (va_runV (As := []) (rest := [.int z2]) ⟨hx, hb, hml, hown, hts⟩ (c_S_length l dC dI tb ak av H.size z1 v_17.1 v_17.2 hc_17) (cwV 0 hts (gV mlk_L_23 ins_S_length sel_S_length ini_S cod_S_length) rfl rfl rfl (by decide +kernel) ⟨Nat.le_of_ble_eq_true rfl, Nat.le_of_ble_eq_true rfl⟩) ⟨fun a U g mk q => by obtain ⟨q0, q1, qP, qK, qD, qC⟩ := q; exact ⟨q0, q1, qP, va_K.moved (u := U) (U := U.calling g mk a) (Vm.Alike.refl U.vm) qK, qD, kw_blind qC⟩, hC.rcv (inN_lt gq_17) hS, fun U hU hW => ⟨rfl, by rw [hU], by rw [hU]; exact hPc, va_K.moved hW.alike hKc, hDc.weaken (fun _ _ _ _ => trivial), kw_call hC hS hFc hU hW⟩⟩ rfl rfl hl.1 rfl (lv_room (Nat.le_of_ble_eq_true rfl)) d_L_begunStatement_17 ⟨Nat.le_of_ble_eq_true rfl, Nat.le_of_ble_eq_true rfl⟩) hS (fun q _ h9 => hFc q h9) hFc (fun r_17 u t H1 locs ht hvm hw hB hz1 hk1 hS => ?_)
        obtain ⟨rfl, rfl⟩ := hw
        obtain ⟨hP1, hK1, hD1⟩ := hB
        rw [ht] at hP1
        obtain ⟨hP, hD⟩ := va_join (wr := [(h_o, .inr (1, [.ref h_typed, .int v_length])), (h_typed, .inl (k_typed, 32, .inl v_typed))]) (w1 := []) hP hD [] [0, 1] rfl rfl (by decide) (by decide) hk1 hFc hP1 hD1
        have hP := hP.sub (ws' := [(h_o, .inr (1, [.ref h_typed, .int v_length])), (h_typed, .inl (k_typed, 32, .inl v_typed))]) [0, 1] rfl
        have hD := hD.sub (ws' := [(h_o, .inr (1, [.ref h_typed, .int v_length])), (h_typed, .inl (k_typed, 32, .inl v_typed))]) [0, 1] (by decide) rfl
        generalize H1 = H at hP hS ⊢
        refine lv_icmp_ge (tgt := 46) hx hb d_L_begunStatement_20 (by decide) (fun c_20 => ?_) (fun c_20 => ?_)
        · have h := of_pos h c_20
          refine lv_iload_n hx hb d_L_begunStatement_46 rfl (lv_at hl 2 rfl) ?_
          rw [hQ]
          exact W.iret (v := z2) hx hb hr (fun t ht hW => ⟨⟨z2, (), rfl, Prod.mk.inj (Option.some.inj h), by rw [ht]; exact hP, va_K.moved hW.alike hK, hD⟩, hS.F ht⟩) hS.2.2 d_L_begunStatement_47
        · have h := of_neg h c_20
          refine lv_aload_n hx hb d_L_begunStatement_23 rfl (lv_at hl 1 rfl) ?_
          refine lv_iload_n hx hb d_L_begunStatement_24 rfl (lv_at hl 2 rfl) ?_
          have hPc := hP.sub (ws' := []) [] rfl
          have hDc := hD.sub (ws' := []) [] (by decide) rfl
          have hKc := hK.sub (tys' := []) [] rfl
          have hFc := va_free (wc := []) hD hS hA [] rfl
          obtain ⟨gq_25, h⟩ := of_guard h
          obtain ⟨v_25, hc_25, h⟩ := of_bind h
          skip
          refine va_calli (va_runV (As := [.int z2]) (rest := []) ⟨hx, hb, hml, hown, hts⟩ (c_S_charAt l dC dI tb ak av H.size z1 z2 v_25.1 v_25.2 hc_25) (cwV 1 hts (gV mlk_L_28 ins_S_charAt sel_S_charAt ini_S cod_S_charAt) rfl rfl rfl (by decide +kernel) ⟨Nat.le_of_ble_eq_true rfl, Nat.le_of_ble_eq_true rfl⟩) ⟨fun a U g mk q => by obtain ⟨q0, q1, qP, qK, qD, qC⟩ := q; exact ⟨q0, q1, qP, va_K.moved (u := U) (U := U.calling g mk a) (Vm.Alike.refl U.vm) qK, qD, kw_blind qC⟩, hC.rcv (inN_lt gq_25) hS, fun U hU hW => ⟨rfl, by rw [hU], by rw [hU]; exact hPc, va_K.moved hW.alike hKc, hDc.weaken (fun _ _ _ _ => trivial), kw_call hC hS hFc hU hW⟩⟩ rfl rfl hl.1 rfl (lv_room (Nat.le_of_ble_eq_true rfl)) d_L_begunStatement_25 ⟨Nat.le_of_ble_eq_true rfl, Nat.le_of_ble_eq_true rfl⟩) hS (fun q _ h9 => hFc q h9) hFc (fun r_25 u t H1 locs ht hvm hw hB hz1 hk1 hS => ?_)
          obtain ⟨rfl, rfl⟩ := hw
          obtain ⟨hP1, hK1, hD1⟩ := hB
          rw [ht] at hP1
          obtain ⟨hP, hD⟩ := va_join (wr := [(h_o, .inr (1, [.ref h_typed, .int v_length])), (h_typed, .inl (k_typed, 32, .inl v_typed))]) (w1 := []) hP hD [] [0, 1] rfl rfl (by decide) (by decide) hk1 hFc hP1 hD1
          have hP := hP.sub (ws' := [(h_o, .inr (1, [.ref h_typed, .int v_length])), (h_typed, .inl (k_typed, 32, .inl v_typed))]) [0, 1] rfl
          have hD := hD.sub (ws' := [(h_o, .inr (1, [.ref h_typed, .int v_length])), (h_typed, .inl (k_typed, 32, .inl v_typed))]) [0, 1] (by decide) rfl
          generalize H1 = H at hP hS ⊢
          refine lv_aload_n hx hb d_L_begunStatement_28 rfl (lv_at hl 0 rfl) ?_
          refine va_get (D := (dC, dI)) (ci := 1) (v := .ref h_typed) (C := R_L) (T := F_L) (N := 2) hx hb hts lay_L hown hK hP 0 rfl rfl 0 (by decide) (hts _ flk_L_11) (fun _ h9 => h9) rfl d_L_begunStatement_29 ?_
          refine lv_iload_n hx hb d_L_begunStatement_32 rfl (lv_at hl 2 rfl) ?_
          obtain ⟨g_33, h⟩ := of_guard h
          refine va_cald hx hb hK hP 1 0 rfl rfl (inR_in g_33) d_L_begunStatement_33 ?_
          have hPc := hP.sub (ws' := []) [] rfl
          have hDc := hD.sub (ws' := []) [] (by decide) rfl
          have hKc := hK.sub (tys' := []) [] rfl
          have hFc := va_free (wc := []) hD hS hA [] rfl
          obtain ⟨v_34, hc_34, h⟩ := of_bind h
          refine va_calli (va_runS (As := [.int v_25.1, .int (v_typed z2.toNatClampNeg)]) (rest := []) ⟨hx, hb, hml, hown, hts⟩ (c_L_allows l dC dI H.size v_25.1 (v_typed z2.toNatClampNeg) v_34.1 v_34.2 hc_34) (va_cwS 2 hts (gS mlk_L_32 sta_L_allows ini_L cod_L_allows) rfl rfl rfl (by decide +kernel) ⟨Nat.le_of_ble_eq_true rfl, Nat.le_of_ble_eq_true rfl⟩) ⟨fun a U g mk q => by obtain ⟨q0, q1, qP, qK, qD⟩ := q; exact ⟨q0, q1, qP, va_K.moved (u := U) (U := U.calling g mk a) (Vm.Alike.refl U.vm) qK, qD⟩, fun U hU hW => ⟨rfl, by rw [hU], by rw [hU]; exact hPc, va_K.moved hW.alike hKc, hDc.weaken (fun _ _ _ _ => trivial)⟩⟩ rfl rfl hl.1 rfl (lv_room (Nat.le_of_ble_eq_true rfl)) d_L_begunStatement_34 ⟨Nat.le_of_ble_eq_true rfl, Nat.le_of_ble_eq_true rfl⟩) hS (fun q _ h9 => hFc q h9) hFc (fun r_34 u t H1 locs ht hvm hw hB hz1 hk1 hS => ?_)
          obtain ⟨rfl, rfl⟩ := hw
          obtain ⟨hP1, hK1, hD1⟩ := hB
          rw [ht] at hP1
          obtain ⟨hP, hD⟩ := va_join (wr := [(h_o, .inr (1, [.ref h_typed, .int v_length])), (h_typed, .inl (k_typed, 32, .inl v_typed))]) (w1 := []) hP hD [] [0, 1] rfl rfl (by decide) (by decide) hk1 hFc hP1 hD1
          have hP := hP.sub (ws' := [(h_o, .inr (1, [.ref h_typed, .int v_length])), (h_typed, .inl (k_typed, 32, .inl v_typed))]) [0, 1] rfl
          have hD := hD.sub (ws' := [(h_o, .inr (1, [.ref h_typed, .int v_length])), (h_typed, .inl (k_typed, 32, .inl v_typed))]) [0, 1] (by decide) rfl
          generalize H1 = H at hP hS ⊢
          refine lv_if_eq (tgt := 46) hx hb d_L_begunStatement_37 (by decide) (fun c_37 => ?_) (fun c_37 => ?_)
          · have h := of_pos h c_37
            refine lv_iload_n hx hb d_L_begunStatement_46 rfl (lv_at hl 2 rfl) ?_
            rw [hQ]
            exact W.iret (v := z2) hx hb hr (fun t ht hW => ⟨⟨z2, (), rfl, Prod.mk.inj (Option.some.inj h), by rw [ht]; exact hP, va_K.moved hW.alike hK, hD⟩, hS.F ht⟩) hS.2.2 d_L_begunStatement_47
          · have h := of_neg h c_37
            refine lv_iinc (v := z2 + (nI 1)) (lv' := [(2, .int (z2 + (nI 1))), (0, .ref h_o), (1, .ref (ak z1))]) hx hb d_L_begunStatement_40 hl (k := 2) rfl rfl (by decide) rfl (fun ls hl => ?_)
            refine lv_goto (tgt := 7) hx hb d_L_begunStatement_43 (by decide) ?_
            exact ih z1 (z2 + (nI 1)) h _ _ hP hD hS ls (lv_sub hl [1, 2, 0] rfl)
  unfold m_L_begunStatement at h
  refine lv_aload_n hx hb d_L_begunStatement_0 rfl (lv_at hl 0 rfl) ?_
  have hPc := hP.sub (ws' := [(h_o, .inr (1, [.ref h_typed, .int v_length])), (h_typed, .inl (k_typed, 32, .inl v_typed))]) [0, 1] rfl
  have hDc := hD.sub (ws' := [(h_o, .inr (1, [.ref h_typed, .int v_length])), (h_typed, .inl (k_typed, 32, .inl v_typed))]) [0, 1] (by decide) rfl
  have hKc := hK.sub (tys' := [(k_typed, .char)]) [0] rfl
  have hFc := va_free (wc := [(h_o, .inr (1, [.ref h_typed, .int v_length])), (h_typed, .inl (k_typed, 32, .inl v_typed))]) hD hS hA [0, 1] rfl
  obtain ⟨v_1, hc_1, h⟩ := of_bind h
  refine va_callr (va_runV (As := []) (rest := []) ⟨hx, hb, hml, hown, hts⟩ (c_L_form l dC dI h_o h_typed k_typed tb ak av H.size v_length v_typed v_1.1 v_1.2 hc_1) (cwV 0 hts (gV mlk_L_19 ins_L_form sel_L_form ini_L cod_L_form) rfl rfl rfl (by decide +kernel) ⟨Nat.le_of_ble_eq_true rfl, Nat.le_of_ble_eq_true rfl⟩) ⟨fun a U g mk q => by obtain ⟨q0, q1, qP, qK, qD, qC⟩ := q; exact ⟨q0, q1, qP, va_K.moved (u := U) (U := U.calling g mk a) (Vm.Alike.refl U.vm) qK, qD, kw_blind qC⟩, va_recv hKc hPc (ci := 1) (q0 := 0) rfl rfl, fun U hU hW => ⟨rfl, by rw [hU], by rw [hU]; exact hPc, va_K.moved hW.alike hKc, hDc.weaken (fun _ _ _ _ => trivial), kw_call hC hS hFc hU hW⟩⟩ rfl rfl hl.1 rfl (lv_room (Nat.le_of_ble_eq_true rfl)) d_L_begunStatement_1 ⟨Nat.le_of_ble_eq_true rfl, Nat.le_of_ble_eq_true rfl⟩) hS (fun q _ h9 => hFc q h9) hFc (fun u ra_1 t H1 locs ht hvm hw hB hz1 hk1 hS => ?_)
  obtain rfl := hw
  obtain ⟨era_1, hP1, hK1, hD1⟩ := hB
  subst era_1
  rw [ht] at hP1
  obtain ⟨hP, hD⟩ := va_join (wr := []) (w1 := [(h_o, .inr (1, [.ref h_typed, .int v_length])), (h_typed, .inl (k_typed, 32, .inl v_typed))]) hP hD [0, 1] [] rfl rfl (by decide) (by decide) hk1 hFc hP1 hD1
  have hP := hP.sub (ws' := [(h_o, .inr (1, [.ref h_typed, .int v_length])), (h_typed, .inl (k_typed, 32, .inl v_typed))]) [0, 1] rfl
  have hD := hD.sub (ws' := [(h_o, .inr (1, [.ref h_typed, .int v_length])), (h_typed, .inl (k_typed, 32, .inl v_typed))]) [0, 1] (by decide) rfl
  generalize H1 = H at hP hS ⊢
  refine lv_astore_n (lv' := [(1, .ref (ak v_1.1)), (0, .ref h_o)]) hx hb d_L_begunStatement_4 rfl hl (by decide) rfl (fun ls hl => ?_)
  refine lv_iconst (v := (nI 0)) hx hb d_L_begunStatement_5 (by decide) ?_
  refine lv_istore_n (lv' := [(2, .int (nI 0)), (1, .ref (ak v_1.1)), (0, .ref h_o)]) hx hb d_L_begunStatement_6 rfl hl (by decide) rfl (fun ls hl => ?_)
  exact J_7 40 v_1.1 (nI 0) h _ _ hP hD hS ls (lv_sub hl [2, 1, 0] rfl)
set_option maxHeartbeats 1000000 in
set_option maxRecDepth 100000 in
theorem c_L_typedPair (l : Launch) (dC : Nat → ClassId) (dI : Nat → Nat → Nat) (h_o h_typed : Nat) (k_typed : ClassId) (tb : Nat) (ak av : Nat → Nat) (sz : Nat) (v_length : Int32) (v_typed : Nat → Int32) (r0 : Int32) (u0 : Unit) (h : m_L_typedPair v_length v_typed = some (r0, u0)) : Met l y_L_typedPair w_L_typedPair ({ frames := 1, cells := 0, slots := 0, locals := 22 } : Room) (va_Pc [.ref h_o] (fun U => U.heap.size = sz ∧ va_P (dC, dI) classes [(h_o, .inr (1, [.ref h_typed, .int v_length])), (h_typed, .inl (k_typed, 32, .inl v_typed))] U.heap ∧ va_K (dC, dI) classes [(k_typed, .char)] U ∧ va_D (fun _ => True) [(h_o, .inr (1, [.ref h_typed, .int v_length])), (h_typed, .inl (k_typed, 32, .inl v_typed))] ∧ kw tb ak av (va_A [(h_o, .inr (1, [.ref h_typed, .int v_length])), (h_typed, .inl (k_typed, 32, .inl v_typed))] sz) U)) (va_Qi (fun (r : Int32) (u : Unit) => r = r0 ∧ u = u0) (fun (u : Unit) (t : State) => va_P (dC, dI) classes [(h_o, .inr (1, [.ref h_typed, .int v_length])), (h_typed, .inl (k_typed, 32, .inl v_typed))] t.heap ∧ va_K (dC, dI) classes [(k_typed, .char)] t ∧ va_D (va_A [(h_o, .inr (1, [.ref h_typed, .int v_length])), (h_typed, .inl (k_typed, 32, .inl v_typed))] sz) [(h_o, .inr (1, [.ref h_typed, .int v_length])), (h_typed, .inl (k_typed, 32, .inl v_typed))]) (va_A [(h_o, .inr (1, [.ref h_typed, .int v_length])), (h_typed, .inl (k_typed, 32, .inl v_typed))] sz)) 0 0 (va_A [(h_o, .inr (1, [.ref h_typed, .int v_length])), (h_typed, .inl (k_typed, 32, .inl v_typed))] sz) := by
  refine Met.ofW (cc := b_L_typedPair) (maxL := 1) (ret := (some .int)) (by decide) rfl ?_
  intro p e s m args below meth c s₁ B hml hv
  obtain ⟨rfl, hsz, hP, hK, hD0, hC⟩ := hv
  have hx := B.exec
  have hb := B.bytes
  have hr := B.returns
  have hts0 := atoms_spec (ws := w_L_typedPair) B.pre
  have hts : ∀ w ∈ lw_gd, w.before ([.ref h_o] : List Value).toArray s = true := fun w h9 => hts0 w (List.mem_cons_of_mem _ h9)
  have hown : s.vm.findClass R_L = some m.cls := findClass_of_methodNamed B.named
  have hlocks := B.notSynchronized
  subst hsz
  have hD := hD0.self (sz := s.heap.size)
  generalize hAe : va_A [(h_o, .inr (1, [.ref h_typed, .int v_length])), (h_typed, .inl (k_typed, 32, .inl v_typed))] s.heap.size = A at hD hC ⊢
  have hA : ∀ q : Nat, s.heap.size ≤ q → A q := fun q h9 => by rw [← hAe]; exact Or.inr h9
  obtain ⟨H, eH⟩ : ∃ H : Heap, H = s.heap := ⟨_, rfl⟩
  have hS : va_S A s.heap H [] := by rw [eH]; exact va_S.rf
  have hP : va_P (dC, dI) classes [(h_o, .inr (1, [.ref h_typed, .int v_length])), (h_typed, .inl (k_typed, 32, .inl v_typed))] H := by rw [eH]; exact hP
  refine W_gen (fun Q hQ => ?_)
  refine W_heap eH ?_
  clear eH
  have hl := lv_entry ([.ref h_o]) (n := 1) (Nat.le_of_ble_eq_true rfl)
  rw [lg_entry_eq]
  generalize (lg_sl ([.ref h_o]) ++ List.replicate (1 - (lg_sl ([.ref h_o])).length) Slot.unset).toArray = ls at hl ⊢
  have hl : lv_has ls 1 [(0, .ref h_o)] := hl
  unfold m_L_typedPair at h
  refine lv_aload_n hx hb d_L_typedPair_0 rfl (lv_at hl 0 rfl) ?_
  refine lv_aload_n hx hb d_L_typedPair_1 rfl (lv_at hl 0 rfl) ?_
  refine va_get (D := (dC, dI)) (ci := 1) (v := .int v_length) (C := R_L) (T := F_L) (N := 2) hx hb hts lay_L hown hK hP 0 rfl rfl 1 (by decide) (hts _ flk_L_15) (fun _ h9 => h9) rfl d_L_typedPair_2 ?_
  refine lv_iconst (v := (nI 4)) hx hb d_L_typedPair_5 (by decide) ?_
  refine lv_isub hx hb d_L_typedPair_6 ?_
  have hPc := hP.sub (ws' := [(h_o, .inr (1, [.ref h_typed, .int v_length])), (h_typed, .inl (k_typed, 32, .inl v_typed))]) [0, 1] rfl
  have hDc := hD.sub (ws' := [(h_o, .inr (1, [.ref h_typed, .int v_length])), (h_typed, .inl (k_typed, 32, .inl v_typed))]) [0, 1] (by decide) rfl
  have hKc := hK.sub (tys' := [(k_typed, .char)]) [0] rfl
  have hFc := va_free (wc := [(h_o, .inr (1, [.ref h_typed, .int v_length])), (h_typed, .inl (k_typed, 32, .inl v_typed))]) hD hS hA [0, 1] rfl
  obtain ⟨v_7, hc_7, h⟩ := of_bind h
  refine va_calli (va_runV (As := [.int (v_length - (nI 4))]) (rest := []) ⟨hx, hb, hml, hown, hts⟩ (c_L_at l dC dI h_o h_typed k_typed H.size v_length v_typed (v_length - (nI 4)) v_7.1 v_7.2 hc_7) (cwV 1 hts (gV mlk_L_39 ins_L_at sel_L_at ini_L cod_L_at) rfl rfl rfl (by decide +kernel) ⟨Nat.le_of_ble_eq_true rfl, Nat.le_of_ble_eq_true rfl⟩) ⟨fun a U g mk q => by obtain ⟨q0, q1, qP, qK, qD⟩ := q; exact ⟨q0, q1, qP, va_K.moved (u := U) (U := U.calling g mk a) (Vm.Alike.refl U.vm) qK, qD⟩, va_recv hKc hPc (ci := 1) (q0 := 0) rfl rfl, fun U hU hW => ⟨rfl, by rw [hU], by rw [hU]; exact hPc, va_K.moved hW.alike hKc, hDc.weaken (fun _ _ _ _ => trivial)⟩⟩ rfl rfl hl.1 rfl (lv_room (Nat.le_of_ble_eq_true rfl)) d_L_typedPair_7 ⟨Nat.le_of_ble_eq_true rfl, Nat.le_of_ble_eq_true rfl⟩) hS (fun q _ h9 => hFc q h9) hFc (fun r_7 u t H1 locs ht hvm hw hB hz1 hk1 hS => ?_)
  obtain ⟨rfl, rfl⟩ := hw
  obtain ⟨hP1, hK1, hD1⟩ := hB
  rw [ht] at hP1
  obtain ⟨hP, hD⟩ := va_join (wr := []) (w1 := [(h_o, .inr (1, [.ref h_typed, .int v_length])), (h_typed, .inl (k_typed, 32, .inl v_typed))]) hP hD [0, 1] [] rfl rfl (by decide) (by decide) hk1 hFc hP1 hD1
  have hP := hP.sub (ws' := [(h_o, .inr (1, [.ref h_typed, .int v_length])), (h_typed, .inl (k_typed, 32, .inl v_typed))]) [0, 1] rfl
  have hD := hD.sub (ws' := [(h_o, .inr (1, [.ref h_typed, .int v_length])), (h_typed, .inl (k_typed, 32, .inl v_typed))]) [0, 1] (by decide) rfl
  generalize H1 = H at hP hS ⊢
  refine lv_bipush (v := (nI 48)) hx hb d_L_typedPair_10 (by decide) ?_
  refine lv_isub hx hb d_L_typedPair_12 ?_
  refine lv_aload_n hx hb d_L_typedPair_13 rfl (lv_at hl 0 rfl) ?_
  refine lv_aload_n hx hb d_L_typedPair_14 rfl (lv_at hl 0 rfl) ?_
  refine va_get (D := (dC, dI)) (ci := 1) (v := .int v_length) (C := R_L) (T := F_L) (N := 2) hx hb hts lay_L hown hK hP 0 rfl rfl 1 (by decide) (hts _ flk_L_15) (fun _ h9 => h9) rfl d_L_typedPair_15 ?_
  refine lv_iconst (v := (nI 2)) hx hb d_L_typedPair_18 (by decide) ?_
  refine lv_isub hx hb d_L_typedPair_19 ?_
  have hPc := hP.sub (ws' := [(h_o, .inr (1, [.ref h_typed, .int v_length])), (h_typed, .inl (k_typed, 32, .inl v_typed))]) [0, 1] rfl
  have hDc := hD.sub (ws' := [(h_o, .inr (1, [.ref h_typed, .int v_length])), (h_typed, .inl (k_typed, 32, .inl v_typed))]) [0, 1] (by decide) rfl
  have hKc := hK.sub (tys' := [(k_typed, .char)]) [0] rfl
  have hFc := va_free (wc := [(h_o, .inr (1, [.ref h_typed, .int v_length])), (h_typed, .inl (k_typed, 32, .inl v_typed))]) hD hS hA [0, 1] rfl
  obtain ⟨v_20, hc_20, h⟩ := of_bind h
  refine va_calli (va_runV (As := [.int (v_length - (nI 2))]) (rest := [.int (v_7.1 - (nI 48))]) ⟨hx, hb, hml, hown, hts⟩ (c_L_at l dC dI h_o h_typed k_typed H.size v_length v_typed (v_length - (nI 2)) v_20.1 v_20.2 hc_20) (cwV 1 hts (gV mlk_L_39 ins_L_at sel_L_at ini_L cod_L_at) rfl rfl rfl (by decide +kernel) ⟨Nat.le_of_ble_eq_true rfl, Nat.le_of_ble_eq_true rfl⟩) ⟨fun a U g mk q => by obtain ⟨q0, q1, qP, qK, qD⟩ := q; exact ⟨q0, q1, qP, va_K.moved (u := U) (U := U.calling g mk a) (Vm.Alike.refl U.vm) qK, qD⟩, va_recv hKc hPc (ci := 1) (q0 := 0) rfl rfl, fun U hU hW => ⟨rfl, by rw [hU], by rw [hU]; exact hPc, va_K.moved hW.alike hKc, hDc.weaken (fun _ _ _ _ => trivial)⟩⟩ rfl rfl hl.1 rfl (lv_room (Nat.le_of_ble_eq_true rfl)) d_L_typedPair_20 ⟨Nat.le_of_ble_eq_true rfl, Nat.le_of_ble_eq_true rfl⟩) hS (fun q _ h9 => hFc q h9) hFc (fun r_20 u t H1 locs ht hvm hw hB hz1 hk1 hS => ?_)
  obtain ⟨rfl, rfl⟩ := hw
  obtain ⟨hP1, hK1, hD1⟩ := hB
  rw [ht] at hP1
  obtain ⟨hP, hD⟩ := va_join (wr := []) (w1 := [(h_o, .inr (1, [.ref h_typed, .int v_length])), (h_typed, .inl (k_typed, 32, .inl v_typed))]) hP hD [0, 1] [] rfl rfl (by decide) (by decide) hk1 hFc hP1 hD1
  have hP := hP.sub (ws' := [(h_o, .inr (1, [.ref h_typed, .int v_length])), (h_typed, .inl (k_typed, 32, .inl v_typed))]) [0, 1] rfl
  have hD := hD.sub (ws' := [(h_o, .inr (1, [.ref h_typed, .int v_length])), (h_typed, .inl (k_typed, 32, .inl v_typed))]) [0, 1] (by decide) rfl
  generalize H1 = H at hP hS ⊢
  refine lv_bipush (v := (nI 48)) hx hb d_L_typedPair_23 (by decide) ?_
  refine lv_isub hx hb d_L_typedPair_25 ?_
  have hPc := hP.sub (ws' := []) [] rfl
  have hDc := hD.sub (ws' := []) [] (by decide) rfl
  have hKc := hK.sub (tys' := []) [] rfl
  have hFc := va_free (wc := []) hD hS hA [] rfl
  obtain ⟨v_26, hc_26, h⟩ := of_bind h
  refine va_calli (va_runSN (As := [.int (v_7.1 - (nI 48)), .int (v_20.1 - (nI 48))]) (rest := []) ⟨hx, hb, hml, hown, hts⟩ (c_H_pairBit l dC dI H.size (v_7.1 - (nI 48)) (v_20.1 - (nI 48)) v_26.1 v_26.2 hc_26) ⟨va_cnB 2 hts (gI cod_H_pairBit) rfl rfl rfl hC.nst_L_42 (hts _ ini_H) (by decide +kernel) ⟨Nat.le_of_ble_eq_true rfl, Nat.le_of_ble_eq_true rfl⟩, hts _ sta_H_pairBit, trivial⟩ ⟨fun a U g mk q => by obtain ⟨q0, q1, qP, qK, qD⟩ := q; exact ⟨q0, q1, qP, va_K.moved (u := U) (U := U.calling g mk a) (Vm.Alike.refl U.vm) qK, qD⟩, fun U hU hW => ⟨rfl, by rw [hU], by rw [hU]; exact hPc, va_K.moved hW.alike hKc, hDc.weaken (fun _ _ _ _ => trivial)⟩⟩ rfl rfl hl.1 rfl (lv_room (Nat.le_of_ble_eq_true rfl)) d_L_typedPair_26 ⟨Nat.le_of_ble_eq_true rfl, Nat.le_of_ble_eq_true rfl⟩) hS (fun q _ h9 => hFc q h9) hFc (fun r_26 u t H1 locs ht hvm hw hB hz1 hk1 hS => ?_)
  obtain ⟨rfl, rfl⟩ := hw
  obtain ⟨hP1, hK1, hD1⟩ := hB
  rw [ht] at hP1
  obtain ⟨hP, hD⟩ := va_join (wr := [(h_o, .inr (1, [.ref h_typed, .int v_length])), (h_typed, .inl (k_typed, 32, .inl v_typed))]) (w1 := []) hP hD [] [0, 1] rfl rfl (by decide) (by decide) hk1 hFc hP1 hD1
  have hP := hP.sub (ws' := [(h_o, .inr (1, [.ref h_typed, .int v_length])), (h_typed, .inl (k_typed, 32, .inl v_typed))]) [0, 1] rfl
  have hD := hD.sub (ws' := [(h_o, .inr (1, [.ref h_typed, .int v_length])), (h_typed, .inl (k_typed, 32, .inl v_typed))]) [0, 1] (by decide) rfl
  generalize H1 = H at hP hS ⊢
  rw [hQ]
  exact W.iret (v := v_26.1) hx hb hr (fun t ht hW => ⟨⟨v_26.1, (), rfl, Prod.mk.inj (Option.some.inj h), by rw [ht]; exact hP, va_K.moved hW.alike hK, hD⟩, hS.F ht⟩) hS.2.2 d_L_typedPair_29
set_option maxHeartbeats 1000000 in
set_option maxRecDepth 100000 in
theorem c_L_typedLiterals (l : Launch) (dC : Nat → ClassId) (dI : Nat → Nat → Nat) (h_o h_typed : Nat) (sz : Nat) (v_length : Int32) (r0 : Int32) (u0 : Unit) (h : m_L_typedLiterals v_length = some (r0, u0)) : Met l y_L_typedLiterals w_L_typedLiterals ({ frames := 0, cells := 0, slots := 0, locals := 0 } : Room) (va_Pc [.ref h_o] (fun U => U.heap.size = sz ∧ va_P (dC, dI) classes [(h_o, .inr (1, [.ref h_typed, .int v_length]))] U.heap ∧ va_K (dC, dI) classes [] U ∧ va_D (fun _ => True) [(h_o, .inr (1, [.ref h_typed, .int v_length]))])) (va_Qi (fun (r : Int32) (u : Unit) => r = r0 ∧ u = u0) (fun (u : Unit) (t : State) => va_P (dC, dI) classes [(h_o, .inr (1, [.ref h_typed, .int v_length]))] t.heap ∧ va_K (dC, dI) classes [] t ∧ va_D (va_A [(h_o, .inr (1, [.ref h_typed, .int v_length]))] sz) [(h_o, .inr (1, [.ref h_typed, .int v_length]))]) (va_A [(h_o, .inr (1, [.ref h_typed, .int v_length]))] sz)) 0 0 (va_A [(h_o, .inr (1, [.ref h_typed, .int v_length]))] sz) := by
  refine Met.ofW (cc := b_L_typedLiterals) (maxL := 1) (ret := (some .int)) (by decide) rfl ?_
  intro p e s m args below meth c s₁ B hml hv
  obtain ⟨rfl, hsz, hP, hK, hD0⟩ := hv
  have hx := B.exec
  have hb := B.bytes
  have hr := B.returns
  have hts0 := atoms_spec (ws := w_L_typedLiterals) B.pre
  have hts : ∀ w ∈ lw_gd, w.before ([.ref h_o] : List Value).toArray s = true := fun w h9 => hts0 w (List.mem_cons_of_mem _ h9)
  have hown : s.vm.findClass R_L = some m.cls := findClass_of_methodNamed B.named
  have hlocks := B.notSynchronized
  subst hsz
  have hD := hD0.self (sz := s.heap.size)
  generalize hAe : va_A [(h_o, .inr (1, [.ref h_typed, .int v_length]))] s.heap.size = A at hD ⊢
  have hA : ∀ q : Nat, s.heap.size ≤ q → A q := fun q h9 => by rw [← hAe]; exact Or.inr h9
  obtain ⟨H, eH⟩ : ∃ H : Heap, H = s.heap := ⟨_, rfl⟩
  have hS : va_S A s.heap H [] := by rw [eH]; exact va_S.rf
  have hP : va_P (dC, dI) classes [(h_o, .inr (1, [.ref h_typed, .int v_length]))] H := by rw [eH]; exact hP
  refine W_gen (fun Q hQ => ?_)
  refine W_heap eH ?_
  clear eH
  have hl := lv_entry ([.ref h_o]) (n := 1) (Nat.le_of_ble_eq_true rfl)
  rw [lg_entry_eq]
  generalize (lg_sl ([.ref h_o]) ++ List.replicate (1 - (lg_sl ([.ref h_o])).length) Slot.unset).toArray = ls at hl ⊢
  have hl : lv_has ls 1 [(0, .ref h_o)] := hl
  unfold m_L_typedLiterals at h
  refine lv_aload_n hx hb d_L_typedLiterals_0 rfl (lv_at hl 0 rfl) ?_
  refine va_get (D := (dC, dI)) (ci := 1) (v := .int v_length) (C := R_L) (T := F_L) (N := 2) hx hb hts lay_L hown hK hP 0 rfl rfl 1 (by decide) (hts _ flk_L_15) (fun _ h9 => h9) rfl d_L_typedLiterals_1 ?_
  refine lv_iconst (v := (nI 1)) hx hb d_L_typedLiterals_4 (by decide) ?_
  refine lv_iadd hx hb d_L_typedLiterals_5 ?_
  refine lv_bipush (v := (nI 8)) hx hb d_L_typedLiterals_6 (by decide) ?_
  refine lv_isub hx hb d_L_typedLiterals_8 ?_
  refine lv_bipush (v := (nI 7)) hx hb d_L_typedLiterals_9 (by decide) ?_
  refine lv_idiv hx hb d_L_typedLiterals_11 (by decide) ?_
  rw [hQ]
  exact W.iret (v := ((v_length + (nI 1)) - (nI 8)) / (nI 7)) hx hb hr (fun t ht hW => ⟨⟨((v_length + (nI 1)) - (nI 8)) / (nI 7), (), rfl, Prod.mk.inj (Option.some.inj h), by rw [ht]; exact hP, va_K.moved hW.alike hK, hD⟩, hS.F ht⟩) hS.2.2 d_L_typedLiterals_12
set_option maxHeartbeats 1000000 in
set_option maxRecDepth 100000 in
theorem c_L_endsStatement (l : Launch) (dC : Nat → ClassId) (dI : Nat → Nat → Nat) (h_o h_typed : Nat) (k_typed : ClassId) (tb : Nat) (ak av : Nat → Nat) (sz : Nat) (v_length : Int32) (v_typed : Nat → Int32) (x1 : Int32) (r0 : Int32) (u0 : Unit) (h : m_L_endsStatement v_length v_typed x1 = some (r0, u0)) : Met l y_L_endsStatement w_L_endsStatement ({ frames := 2, cells := 0, slots := 0, locals := 41 } : Room) (va_Pc [.ref h_o, .int x1] (fun U => U.heap.size = sz ∧ va_P (dC, dI) classes [(h_o, .inr (1, [.ref h_typed, .int v_length])), (h_typed, .inl (k_typed, 32, .inl v_typed))] U.heap ∧ va_K (dC, dI) classes [(k_typed, .char)] U ∧ va_D (fun _ => True) [(h_o, .inr (1, [.ref h_typed, .int v_length])), (h_typed, .inl (k_typed, 32, .inl v_typed))] ∧ kw tb ak av (va_A [(h_o, .inr (1, [.ref h_typed, .int v_length])), (h_typed, .inl (k_typed, 32, .inl v_typed))] sz) U)) (va_Qi (fun (r : Int32) (u : Unit) => r = r0 ∧ u = u0) (fun (u : Unit) (t : State) => va_P (dC, dI) classes [(h_o, .inr (1, [.ref h_typed, .int v_length])), (h_typed, .inl (k_typed, 32, .inl v_typed))] t.heap ∧ va_K (dC, dI) classes [(k_typed, .char)] t ∧ va_D (va_A [(h_o, .inr (1, [.ref h_typed, .int v_length])), (h_typed, .inl (k_typed, 32, .inl v_typed))] sz) [(h_o, .inr (1, [.ref h_typed, .int v_length])), (h_typed, .inl (k_typed, 32, .inl v_typed))]) (va_A [(h_o, .inr (1, [.ref h_typed, .int v_length])), (h_typed, .inl (k_typed, 32, .inl v_typed))] sz)) 0 0 (va_A [(h_o, .inr (1, [.ref h_typed, .int v_length])), (h_typed, .inl (k_typed, 32, .inl v_typed))] sz) := by
  refine Met.ofW (cc := b_L_endsStatement) (maxL := 2) (ret := (some .boolean)) (by decide) rfl ?_
  intro p e s m args below meth c s₁ B hml hv
  obtain ⟨rfl, hsz, hP, hK, hD0, hC⟩ := hv
  have hx := B.exec
  have hb := B.bytes
  have hr := B.returns
  have hts0 := atoms_spec (ws := w_L_endsStatement) B.pre
  have hts : ∀ w ∈ lw_gd, w.before ([.ref h_o, .int x1] : List Value).toArray s = true := fun w h9 => hts0 w (List.mem_cons_of_mem _ h9)
  have hown : s.vm.findClass R_L = some m.cls := findClass_of_methodNamed B.named
  have hlocks := B.notSynchronized
  subst hsz
  have hD := hD0.self (sz := s.heap.size)
  generalize hAe : va_A [(h_o, .inr (1, [.ref h_typed, .int v_length])), (h_typed, .inl (k_typed, 32, .inl v_typed))] s.heap.size = A at hD hC ⊢
  have hA : ∀ q : Nat, s.heap.size ≤ q → A q := fun q h9 => by rw [← hAe]; exact Or.inr h9
  obtain ⟨H, eH⟩ : ∃ H : Heap, H = s.heap := ⟨_, rfl⟩
  have hS : va_S A s.heap H [] := by rw [eH]; exact va_S.rf
  have hP : va_P (dC, dI) classes [(h_o, .inr (1, [.ref h_typed, .int v_length])), (h_typed, .inl (k_typed, 32, .inl v_typed))] H := by rw [eH]; exact hP
  refine W_gen (fun Q hQ => ?_)
  refine W_heap eH ?_
  clear eH
  have hl := lv_entry ([.ref h_o, .int x1]) (n := 2) (Nat.le_of_ble_eq_true rfl)
  rw [lg_entry_eq]
  generalize (lg_sl ([.ref h_o, .int x1]) ++ List.replicate (2 - (lg_sl ([.ref h_o, .int x1])).length) Slot.unset).toArray = ls at hl ⊢
  have hl : lv_has ls 2 [(0, .ref h_o), (1, .int x1)] := hl
  unfold m_L_endsStatement at h
  refine lv_iload_n hx hb d_L_endsStatement_0 rfl (lv_at hl 1 rfl) ?_
  refine lv_if_eq (tgt := 12) hx hb d_L_endsStatement_1 (by decide) (fun c_1 => ?_) (fun c_1 => ?_)
  · have h := of_pos h c_1
    refine lv_iconst (v := (nI 0)) hx hb d_L_endsStatement_12 (by decide) ?_
    rw [hQ]
    exact W.zret (v := (nI 0)) hx hb hr rfl (fun t ht hW => ⟨⟨(nI 0), (), rfl, Prod.mk.inj (Option.some.inj h), by rw [ht]; exact hP, va_K.moved hW.alike hK, hD⟩, hS.F ht⟩) hS.2.2 d_L_endsStatement_13
  · have h := of_neg h c_1
    refine lv_iload_n hx hb d_L_endsStatement_4 rfl (lv_at hl 1 rfl) ?_
    refine lv_aload_n hx hb d_L_endsStatement_5 rfl (lv_at hl 0 rfl) ?_
    refine va_get (D := (dC, dI)) (ci := 1) (v := .int v_length) (C := R_L) (T := F_L) (N := 2) hx hb hts lay_L hown hK hP 0 rfl rfl 1 (by decide) (hts _ flk_L_15) (fun _ h9 => h9) rfl d_L_endsStatement_6 ?_
    refine lv_icmp_ge (tgt := 14) hx hb d_L_endsStatement_9 (by decide) (fun c_9 => ?_) (fun c_9 => ?_)
    · have h := of_pos h c_9
      refine lv_aload_n hx hb d_L_endsStatement_14 rfl (lv_at hl 0 rfl) ?_
      refine va_get (D := (dC, dI)) (ci := 1) (v := .ref h_typed) (C := R_L) (T := F_L) (N := 2) hx hb hts lay_L hown hK hP 0 rfl rfl 0 (by decide) (hts _ flk_L_11) (fun _ h9 => h9) rfl d_L_endsStatement_15 ?_
      refine lv_iconst (v := (nI 0)) hx hb d_L_endsStatement_18 (by decide) ?_
      obtain ⟨g_19, h⟩ := of_guard h
      refine va_cald hx hb hK hP 1 0 rfl rfl (inR_in g_19) d_L_endsStatement_19 ?_
      refine lv_bipush (v := (nI 116)) hx hb d_L_endsStatement_20 (by decide) ?_
      refine lv_icmp_ne (tgt := 55) hx hb d_L_endsStatement_22 (by decide) (fun c_22 => ?_) (fun c_22 => ?_)
      · have h := of_neg h c_22
        refine lv_aload_n hx hb d_L_endsStatement_55 rfl (lv_at hl 0 rfl) ?_
        refine va_get (D := (dC, dI)) (ci := 1) (v := .int v_length) (C := R_L) (T := F_L) (N := 2) hx hb hts lay_L hown hK hP 0 rfl rfl 1 (by decide) (hts _ flk_L_15) (fun _ h9 => h9) rfl d_L_endsStatement_56 ?_
        refine lv_aload_n hx hb d_L_endsStatement_59 rfl (lv_at hl 0 rfl) ?_
        have hPc := hP.sub (ws' := [(h_o, .inr (1, [.ref h_typed, .int v_length])), (h_typed, .inl (k_typed, 32, .inl v_typed))]) [0, 1] rfl
        have hDc := hD.sub (ws' := [(h_o, .inr (1, [.ref h_typed, .int v_length])), (h_typed, .inl (k_typed, 32, .inl v_typed))]) [0, 1] (by decide) rfl
        have hKc := hK.sub (tys' := [(k_typed, .char)]) [0] rfl
        have hFc := va_free (wc := [(h_o, .inr (1, [.ref h_typed, .int v_length])), (h_typed, .inl (k_typed, 32, .inl v_typed))]) hD hS hA [0, 1] rfl
        obtain ⟨v_60, hc_60, h⟩ := of_bind h
        refine va_callr (va_runV (As := []) (rest := [.int v_length]) ⟨hx, hb, hml, hown, hts⟩ (c_L_form l dC dI h_o h_typed k_typed tb ak av H.size v_length v_typed v_60.1 v_60.2 hc_60) (cwV 0 hts (gV mlk_L_19 ins_L_form sel_L_form ini_L cod_L_form) rfl rfl rfl (by decide +kernel) ⟨Nat.le_of_ble_eq_true rfl, Nat.le_of_ble_eq_true rfl⟩) ⟨fun a U g mk q => by obtain ⟨q0, q1, qP, qK, qD, qC⟩ := q; exact ⟨q0, q1, qP, va_K.moved (u := U) (U := U.calling g mk a) (Vm.Alike.refl U.vm) qK, qD, kw_blind qC⟩, va_recv hKc hPc (ci := 1) (q0 := 0) rfl rfl, fun U hU hW => ⟨rfl, by rw [hU], by rw [hU]; exact hPc, va_K.moved hW.alike hKc, hDc.weaken (fun _ _ _ _ => trivial), kw_call hC hS hFc hU hW⟩⟩ rfl rfl hl.1 rfl (lv_room (Nat.le_of_ble_eq_true rfl)) d_L_endsStatement_60 ⟨Nat.le_of_ble_eq_true rfl, Nat.le_of_ble_eq_true rfl⟩) hS (fun q _ h9 => hFc q h9) hFc (fun u ra_60 t H1 locs ht hvm hw hB hz1 hk1 hS => ?_)
        obtain rfl := hw
        obtain ⟨era_60, hP1, hK1, hD1⟩ := hB
        subst era_60
        rw [ht] at hP1
        obtain ⟨hP, hD⟩ := va_join (wr := []) (w1 := [(h_o, .inr (1, [.ref h_typed, .int v_length])), (h_typed, .inl (k_typed, 32, .inl v_typed))]) hP hD [0, 1] [] rfl rfl (by decide) (by decide) hk1 hFc hP1 hD1
        have hP := hP.sub (ws' := [(h_o, .inr (1, [.ref h_typed, .int v_length])), (h_typed, .inl (k_typed, 32, .inl v_typed))]) [0, 1] rfl
        have hD := hD.sub (ws' := [(h_o, .inr (1, [.ref h_typed, .int v_length])), (h_typed, .inl (k_typed, 32, .inl v_typed))]) [0, 1] (by decide) rfl
        generalize H1 = H at hP hS ⊢
        have hPc := hP.sub (ws' := []) [] rfl
        have hDc := hD.sub (ws' := []) [] (by decide) rfl
        have hKc := hK.sub (tys' := []) [] rfl
        have hFc := va_free (wc := []) hD hS hA [] rfl
        obtain ⟨gq_63, h⟩ := of_guard h
        obtain ⟨v_63, hc_63, h⟩ := of_bind h
        skip
        refine va_calli (va_runV (As := []) (rest := [.int v_length]) ⟨hx, hb, hml, hown, hts⟩ (c_S_length l dC dI tb ak av H.size v_60.1 v_63.1 v_63.2 hc_63) (cwV 0 hts (gV mlk_L_23 ins_S_length sel_S_length ini_S cod_S_length) rfl rfl rfl (by decide +kernel) ⟨Nat.le_of_ble_eq_true rfl, Nat.le_of_ble_eq_true rfl⟩) ⟨fun a U g mk q => by obtain ⟨q0, q1, qP, qK, qD, qC⟩ := q; exact ⟨q0, q1, qP, va_K.moved (u := U) (U := U.calling g mk a) (Vm.Alike.refl U.vm) qK, qD, kw_blind qC⟩, hC.rcv (inN_lt gq_63) hS, fun U hU hW => ⟨rfl, by rw [hU], by rw [hU]; exact hPc, va_K.moved hW.alike hKc, hDc.weaken (fun _ _ _ _ => trivial), kw_call hC hS hFc hU hW⟩⟩ rfl rfl hl.1 rfl (lv_room (Nat.le_of_ble_eq_true rfl)) d_L_endsStatement_63 ⟨Nat.le_of_ble_eq_true rfl, Nat.le_of_ble_eq_true rfl⟩) hS (fun q _ h9 => hFc q h9) hFc (fun r_63 u t H1 locs ht hvm hw hB hz1 hk1 hS => ?_)
        obtain ⟨rfl, rfl⟩ := hw
        obtain ⟨hP1, hK1, hD1⟩ := hB
        rw [ht] at hP1
        obtain ⟨hP, hD⟩ := va_join (wr := [(h_o, .inr (1, [.ref h_typed, .int v_length])), (h_typed, .inl (k_typed, 32, .inl v_typed))]) (w1 := []) hP hD [] [0, 1] rfl rfl (by decide) (by decide) hk1 hFc hP1 hD1
        have hP := hP.sub (ws' := [(h_o, .inr (1, [.ref h_typed, .int v_length])), (h_typed, .inl (k_typed, 32, .inl v_typed))]) [0, 1] rfl
        have hD := hD.sub (ws' := [(h_o, .inr (1, [.ref h_typed, .int v_length])), (h_typed, .inl (k_typed, 32, .inl v_typed))]) [0, 1] (by decide) rfl
        generalize H1 = H at hP hS ⊢
        refine lv_icmp_ne (tgt := 73) hx hb d_L_endsStatement_66 (by decide) (fun c_66 => ?_) (fun c_66 => ?_)
        · have h := of_neg h c_66
          refine lv_iconst (v := (nI 0)) hx hb d_L_endsStatement_73 (by decide) ?_
          rw [hQ]
          exact W.zret (v := (nI 0)) hx hb hr rfl (fun t ht hW => ⟨⟨(nI 0), (), rfl, Prod.mk.inj (Option.some.inj h), by rw [ht]; exact hP, va_K.moved hW.alike hK, hD⟩, hS.F ht⟩) hS.2.2 d_L_endsStatement_74
        · have h := of_pos h c_66
          refine lv_iconst (v := (nI 1)) hx hb d_L_endsStatement_69 (by decide) ?_
          refine lv_goto (tgt := 74) hx hb d_L_endsStatement_70 (by decide) ?_
          rw [hQ]
          exact W.zret (v := (nI 1)) hx hb hr rfl (fun t ht hW => ⟨⟨(nI 1), (), rfl, Prod.mk.inj (Option.some.inj h), by rw [ht]; exact hP, va_K.moved hW.alike hK, hD⟩, hS.F ht⟩) hS.2.2 d_L_endsStatement_74
      · have h := of_pos h c_22
        refine lv_aload_n hx hb d_L_endsStatement_25 rfl (lv_at hl 0 rfl) ?_
        refine va_get (D := (dC, dI)) (ci := 1) (v := .int v_length) (C := R_L) (T := F_L) (N := 2) hx hb hts lay_L hown hK hP 0 rfl rfl 1 (by decide) (hts _ flk_L_15) (fun _ h9 => h9) rfl d_L_endsStatement_26 ?_
        refine lv_bipush (v := (nI 7)) hx hb d_L_endsStatement_29 (by decide) ?_
        refine lv_bipush (v := (nI 7)) hx hb d_L_endsStatement_31 (by decide) ?_
        refine lv_aload_n hx hb d_L_endsStatement_33 rfl (lv_at hl 0 rfl) ?_
        have hPc := hP.sub (ws' := [(h_o, .inr (1, [.ref h_typed, .int v_length]))]) [0] rfl
        have hDc := hD.sub (ws' := [(h_o, .inr (1, [.ref h_typed, .int v_length]))]) [0] (by decide) rfl
        have hKc := hK.sub (tys' := []) [] rfl
        have hFc := va_free (wc := [(h_o, .inr (1, [.ref h_typed, .int v_length]))]) hD hS hA [0] rfl
        obtain ⟨v_34, hc_34, h⟩ := of_bind h
        refine va_calli (va_runV (As := []) (rest := [.int (nI 7), .int (nI 7), .int v_length]) ⟨hx, hb, hml, hown, hts⟩ (c_L_typedLiterals l dC dI h_o h_typed H.size v_length v_34.1 v_34.2 hc_34) (cwV 0 hts (gV mlk_L_36 ins_L_typedLiterals sel_L_typedLiterals ini_L cod_L_typedLiterals) rfl rfl rfl (by decide +kernel) ⟨Nat.le_of_ble_eq_true rfl, Nat.le_of_ble_eq_true rfl⟩) ⟨fun a U g mk q => by obtain ⟨q0, q1, qP, qK, qD⟩ := q; exact ⟨q0, q1, qP, va_K.moved (u := U) (U := U.calling g mk a) (Vm.Alike.refl U.vm) qK, qD⟩, va_recv hKc hPc (ci := 1) (q0 := 0) rfl rfl, fun U hU hW => ⟨rfl, by rw [hU], by rw [hU]; exact hPc, va_K.moved hW.alike hKc, hDc.weaken (fun _ _ _ _ => trivial)⟩⟩ rfl rfl hl.1 rfl (lv_room (Nat.le_of_ble_eq_true rfl)) d_L_endsStatement_34 ⟨Nat.le_of_ble_eq_true rfl, Nat.le_of_ble_eq_true rfl⟩) hS (fun q _ h9 => hFc q h9) hFc (fun r_34 u t H1 locs ht hvm hw hB hz1 hk1 hS => ?_)
        obtain ⟨rfl, rfl⟩ := hw
        obtain ⟨hP1, hK1, hD1⟩ := hB
        rw [ht] at hP1
        obtain ⟨hP, hD⟩ := va_join (wr := [(h_typed, .inl (k_typed, 32, .inl v_typed))]) (w1 := [(h_o, .inr (1, [.ref h_typed, .int v_length]))]) hP hD [0] [1] rfl rfl (by decide) (by decide) hk1 hFc hP1 hD1
        have hP := hP.sub (ws' := [(h_o, .inr (1, [.ref h_typed, .int v_length])), (h_typed, .inl (k_typed, 32, .inl v_typed))]) [1, 0] rfl
        have hD := hD.sub (ws' := [(h_o, .inr (1, [.ref h_typed, .int v_length])), (h_typed, .inl (k_typed, 32, .inl v_typed))]) [1, 0] (by decide) rfl
        generalize H1 = H at hP hS ⊢
        refine lv_imul hx hb d_L_endsStatement_37 ?_
        refine lv_iadd hx hb d_L_endsStatement_38 ?_
        refine lv_icmp_ne (tgt := 53) hx hb d_L_endsStatement_39 (by decide) (fun c_39 => ?_) (fun c_39 => ?_)
        · have h := of_neg h c_39
          refine lv_iconst (v := (nI 0)) hx hb d_L_endsStatement_53 (by decide) ?_
          rw [hQ]
          exact W.zret (v := (nI 0)) hx hb hr rfl (fun t ht hW => ⟨⟨(nI 0), (), rfl, Prod.mk.inj (Option.some.inj h), by rw [ht]; exact hP, va_K.moved hW.alike hK, hD⟩, hS.F ht⟩) hS.2.2 d_L_endsStatement_54
        · have h := of_pos h c_39
          refine lv_aload_n hx hb d_L_endsStatement_42 rfl (lv_at hl 0 rfl) ?_
          have hPc := hP.sub (ws' := [(h_o, .inr (1, [.ref h_typed, .int v_length]))]) [0] rfl
          have hDc := hD.sub (ws' := [(h_o, .inr (1, [.ref h_typed, .int v_length]))]) [0] (by decide) rfl
          have hKc := hK.sub (tys' := []) [] rfl
          have hFc := va_free (wc := [(h_o, .inr (1, [.ref h_typed, .int v_length]))]) hD hS hA [0] rfl
          obtain ⟨v_43, hc_43, h⟩ := of_bind h
          refine va_calli (va_runV (As := []) (rest := []) ⟨hx, hb, hml, hown, hts⟩ (c_L_typedLiterals l dC dI h_o h_typed H.size v_length v_43.1 v_43.2 hc_43) (cwV 0 hts (gV mlk_L_36 ins_L_typedLiterals sel_L_typedLiterals ini_L cod_L_typedLiterals) rfl rfl rfl (by decide +kernel) ⟨Nat.le_of_ble_eq_true rfl, Nat.le_of_ble_eq_true rfl⟩) ⟨fun a U g mk q => by obtain ⟨q0, q1, qP, qK, qD⟩ := q; exact ⟨q0, q1, qP, va_K.moved (u := U) (U := U.calling g mk a) (Vm.Alike.refl U.vm) qK, qD⟩, va_recv hKc hPc (ci := 1) (q0 := 0) rfl rfl, fun U hU hW => ⟨rfl, by rw [hU], by rw [hU]; exact hPc, va_K.moved hW.alike hKc, hDc.weaken (fun _ _ _ _ => trivial)⟩⟩ rfl rfl hl.1 rfl (lv_room (Nat.le_of_ble_eq_true rfl)) d_L_endsStatement_43 ⟨Nat.le_of_ble_eq_true rfl, Nat.le_of_ble_eq_true rfl⟩) hS (fun q _ h9 => hFc q h9) hFc (fun r_43 u t H1 locs ht hvm hw hB hz1 hk1 hS => ?_)
          obtain ⟨rfl, rfl⟩ := hw
          obtain ⟨hP1, hK1, hD1⟩ := hB
          rw [ht] at hP1
          obtain ⟨hP, hD⟩ := va_join (wr := [(h_typed, .inl (k_typed, 32, .inl v_typed))]) (w1 := [(h_o, .inr (1, [.ref h_typed, .int v_length]))]) hP hD [0] [1] rfl rfl (by decide) (by decide) hk1 hFc hP1 hD1
          have hP := hP.sub (ws' := [(h_o, .inr (1, [.ref h_typed, .int v_length])), (h_typed, .inl (k_typed, 32, .inl v_typed))]) [1, 0] rfl
          have hD := hD.sub (ws' := [(h_o, .inr (1, [.ref h_typed, .int v_length])), (h_typed, .inl (k_typed, 32, .inl v_typed))]) [1, 0] (by decide) rfl
          generalize H1 = H at hP hS ⊢
          refine lv_if_le (tgt := 53) hx hb d_L_endsStatement_46 (by decide) (fun c_46 => ?_) (fun c_46 => ?_)
          · have h := of_pos h c_46
            refine lv_iconst (v := (nI 0)) hx hb d_L_endsStatement_53 (by decide) ?_
            rw [hQ]
            exact W.zret (v := (nI 0)) hx hb hr rfl (fun t ht hW => ⟨⟨(nI 0), (), rfl, Prod.mk.inj (Option.some.inj h), by rw [ht]; exact hP, va_K.moved hW.alike hK, hD⟩, hS.F ht⟩) hS.2.2 d_L_endsStatement_54
          · have h := of_neg h c_46
            refine lv_iconst (v := (nI 1)) hx hb d_L_endsStatement_49 (by decide) ?_
            refine lv_goto (tgt := 54) hx hb d_L_endsStatement_50 (by decide) ?_
            rw [hQ]
            exact W.zret (v := (nI 1)) hx hb hr rfl (fun t ht hW => ⟨⟨(nI 1), (), rfl, Prod.mk.inj (Option.some.inj h), by rw [ht]; exact hP, va_K.moved hW.alike hK, hD⟩, hS.F ht⟩) hS.2.2 d_L_endsStatement_54
    · have h := of_neg h c_9
      refine lv_iconst (v := (nI 0)) hx hb d_L_endsStatement_12 (by decide) ?_
      rw [hQ]
      exact W.zret (v := (nI 0)) hx hb hr rfl (fun t ht hW => ⟨⟨(nI 0), (), rfl, Prod.mk.inj (Option.some.inj h), by rw [ht]; exact hP, va_K.moved hW.alike hK, hD⟩, hS.F ht⟩) hS.2.2 d_L_endsStatement_13
set_option maxHeartbeats 1000000 in
set_option maxRecDepth 100000 in
theorem c_L_typedBody (l : Launch) (dC : Nat → ClassId) (dI : Nat → Nat → Nat) (h_o h_typed : Nat) (k_typed : ClassId) (tb : Nat) (ak av : Nat → Nat) (sz : Nat) (v_length : Int32) (v_typed : Nat → Int32) (r0 : Int32) (u0 : Unit) (h : m_L_typedBody v_length v_typed = some (r0, u0)) : Met l y_L_typedBody w_L_typedBody ({ frames := 4, cells := 0, slots := 0, locals := 91 } : Room) (va_Pc [.ref h_o] (fun U => U.heap.size = sz ∧ va_P (dC, dI) classes [(h_o, .inr (1, [.ref h_typed, .int v_length])), (h_typed, .inl (k_typed, 32, .inl v_typed))] U.heap ∧ va_K (dC, dI) classes [(k_typed, .char)] U ∧ va_D (fun _ => True) [(h_o, .inr (1, [.ref h_typed, .int v_length])), (h_typed, .inl (k_typed, 32, .inl v_typed))] ∧ kw tb ak av (va_A [(h_o, .inr (1, [.ref h_typed, .int v_length])), (h_typed, .inl (k_typed, 32, .inl v_typed))] sz) U)) (va_Qi (fun (r : Int32) (u : Unit) => r = r0 ∧ u = u0) (fun (u : Unit) (t : State) => va_P (dC, dI) classes [(h_o, .inr (1, [.ref h_typed, .int v_length])), (h_typed, .inl (k_typed, 32, .inl v_typed))] t.heap ∧ va_K (dC, dI) classes [(k_typed, .char)] t ∧ va_D (va_A [(h_o, .inr (1, [.ref h_typed, .int v_length])), (h_typed, .inl (k_typed, 32, .inl v_typed))] sz) [(h_o, .inr (1, [.ref h_typed, .int v_length])), (h_typed, .inl (k_typed, 32, .inl v_typed))]) (va_A [(h_o, .inr (1, [.ref h_typed, .int v_length])), (h_typed, .inl (k_typed, 32, .inl v_typed))] sz)) 0 0 (va_A [(h_o, .inr (1, [.ref h_typed, .int v_length])), (h_typed, .inl (k_typed, 32, .inl v_typed))] sz) := by
  refine Met.ofW (cc := b_L_typedBody) (maxL := 6) (ret := (some .int)) (by decide) rfl ?_
  intro p e s m args below meth c s₁ B hml hv
  obtain ⟨rfl, hsz, hP, hK, hD0, hC⟩ := hv
  have hx := B.exec
  have hb := B.bytes
  have hr := B.returns
  have hts0 := atoms_spec (ws := w_L_typedBody) B.pre
  have hts : ∀ w ∈ lw_gd, w.before ([.ref h_o] : List Value).toArray s = true := fun w h9 => hts0 w (List.mem_cons_of_mem _ h9)
  have hown : s.vm.findClass R_L = some m.cls := findClass_of_methodNamed B.named
  have hlocks := B.notSynchronized
  subst hsz
  have hD := hD0.self (sz := s.heap.size)
  generalize hAe : va_A [(h_o, .inr (1, [.ref h_typed, .int v_length])), (h_typed, .inl (k_typed, 32, .inl v_typed))] s.heap.size = A at hD hC ⊢
  have hA : ∀ q : Nat, s.heap.size ≤ q → A q := fun q h9 => by rw [← hAe]; exact Or.inr h9
  obtain ⟨H, eH⟩ : ∃ H : Heap, H = s.heap := ⟨_, rfl⟩
  have hS : va_S A s.heap H [] := by rw [eH]; exact va_S.rf
  have hP : va_P (dC, dI) classes [(h_o, .inr (1, [.ref h_typed, .int v_length])), (h_typed, .inl (k_typed, 32, .inl v_typed))] H := by rw [eH]; exact hP
  refine W_gen (fun Q hQ => ?_)
  refine W_heap eH ?_
  clear eH
  have hl := lv_entry ([.ref h_o]) (n := 6) (Nat.le_of_ble_eq_true rfl)
  rw [lg_entry_eq]
  generalize (lg_sl ([.ref h_o]) ++ List.replicate (6 - (lg_sl ([.ref h_o])).length) Slot.unset).toArray = ls at hl ⊢
  have hl : lv_has ls 6 [(0, .ref h_o)] := hl
  have J_5 : ∀ (n : Nat) (z1 : Int32) (z2 : Int32), m_L_typedBody_5 v_length v_typed n z1 z2 = some (r0, u0) → ∀ (H : Heap) (locs : List Loc), va_P (dC, dI) classes [(h_o, .inr (1, [.ref h_typed, .int v_length])), (h_typed, .inl (k_typed, 32, .inl v_typed))] H → va_D A [(h_o, .inr (1, [.ref h_typed, .int v_length])), (h_typed, .inl (k_typed, 32, .inl v_typed))] → va_S A s.heap H locs → ∀ (ls : Array Slot), lv_has ls 6 [(0, .ref h_o), (1, .int z1), (2, .int z2)] → W p l e (headSpec w_L_typedBody ({ frames := 4, cells := 0, slots := 0, locals := 91 } : Room)).room s m ([.ref h_o] : List Value).toArray below meth c H locs 0 0 Q (F0 m 5 ls []) := by
    intro n
    induction n with
    | zero => intro z1 z2 h; exact absurd h (by unfold m_L_typedBody_5; exact fun h9 => nomatch h9)
    | succ n ih =>
      intro z1 z2 h H locs hP hD hS ls hl
      unfold m_L_typedBody_5 at h
      refine lv_iload_n hx hb d_L_typedBody_5 rfl (lv_at hl 2 rfl) ?_
      refine lv_aload_n hx hb d_L_typedBody_6 rfl (lv_at hl 0 rfl) ?_
      refine va_get (D := (dC, dI)) (ci := 1) (v := .int v_length) (C := R_L) (T := F_L) (N := 2) hx hb hts lay_L hown hK hP 0 rfl rfl 1 (by decide) (hts _ flk_L_15) (fun _ h9 => h9) rfl d_L_typedBody_7 ?_
      refine lv_icmp_ge (tgt := 71) hx hb d_L_typedBody_10 (by decide) (fun c_10 => ?_) (fun c_10 => ?_)
      · have h := of_pos h c_10
        refine lv_iload_n hx hb d_L_typedBody_71 rfl (lv_at hl 1 rfl) ?_
        rw [hQ]
        exact W.iret (v := z1) hx hb hr (fun t ht hW => ⟨⟨z1, (), rfl, Prod.mk.inj (Option.some.inj h), by rw [ht]; exact hP, va_K.moved hW.alike hK, hD⟩, hS.F ht⟩) hS.2.2 d_L_typedBody_72
      · have h := of_neg h c_10
        refine va_ldcS hx hb hown hC.str_L_46 d_L_typedBody_13 ?_
        refine lv_aload_n hx hb d_L_typedBody_15 rfl (lv_at hl 0 rfl) ?_
        refine lv_iload_n hx hb d_L_typedBody_16 rfl (lv_at hl 2 rfl) ?_
        have hPc := hP.sub (ws' := [(h_o, .inr (1, [.ref h_typed, .int v_length])), (h_typed, .inl (k_typed, 32, .inl v_typed))]) [0, 1] rfl
        have hDc := hD.sub (ws' := [(h_o, .inr (1, [.ref h_typed, .int v_length])), (h_typed, .inl (k_typed, 32, .inl v_typed))]) [0, 1] (by decide) rfl
        have hKc := hK.sub (tys' := [(k_typed, .char)]) [0] rfl
        have hFc := va_free (wc := [(h_o, .inr (1, [.ref h_typed, .int v_length])), (h_typed, .inl (k_typed, 32, .inl v_typed))]) hD hS hA [0, 1] rfl
        obtain ⟨v_17, hc_17, h⟩ := of_bind h
        refine va_calli (va_runV (As := [.int z2]) (rest := [.ref (ak 0)]) ⟨hx, hb, hml, hown, hts⟩ (c_L_at l dC dI h_o h_typed k_typed H.size v_length v_typed z2 v_17.1 v_17.2 hc_17) (cwV 1 hts (gV mlk_L_39 ins_L_at sel_L_at ini_L cod_L_at) rfl rfl rfl (by decide +kernel) ⟨Nat.le_of_ble_eq_true rfl, Nat.le_of_ble_eq_true rfl⟩) ⟨fun a U g mk q => by obtain ⟨q0, q1, qP, qK, qD⟩ := q; exact ⟨q0, q1, qP, va_K.moved (u := U) (U := U.calling g mk a) (Vm.Alike.refl U.vm) qK, qD⟩, va_recv hKc hPc (ci := 1) (q0 := 0) rfl rfl, fun U hU hW => ⟨rfl, by rw [hU], by rw [hU]; exact hPc, va_K.moved hW.alike hKc, hDc.weaken (fun _ _ _ _ => trivial)⟩⟩ rfl rfl hl.1 rfl (lv_room (Nat.le_of_ble_eq_true rfl)) d_L_typedBody_17 ⟨Nat.le_of_ble_eq_true rfl, Nat.le_of_ble_eq_true rfl⟩) hS (fun q _ h9 => hFc q h9) hFc (fun r_17 u t H1 locs ht hvm hw hB hz1 hk1 hS => ?_)
        obtain ⟨rfl, rfl⟩ := hw
        obtain ⟨hP1, hK1, hD1⟩ := hB
        rw [ht] at hP1
        obtain ⟨hP, hD⟩ := va_join (wr := []) (w1 := [(h_o, .inr (1, [.ref h_typed, .int v_length])), (h_typed, .inl (k_typed, 32, .inl v_typed))]) hP hD [0, 1] [] rfl rfl (by decide) (by decide) hk1 hFc hP1 hD1
        have hP := hP.sub (ws' := [(h_o, .inr (1, [.ref h_typed, .int v_length])), (h_typed, .inl (k_typed, 32, .inl v_typed))]) [0, 1] rfl
        have hD := hD.sub (ws' := [(h_o, .inr (1, [.ref h_typed, .int v_length])), (h_typed, .inl (k_typed, 32, .inl v_typed))]) [0, 1] (by decide) rfl
        generalize H1 = H at hP hS ⊢
        have hPc := hP.sub (ws' := []) [] rfl
        have hDc := hD.sub (ws' := []) [] (by decide) rfl
        have hKc := hK.sub (tys' := []) [] rfl
        have hFc := va_free (wc := []) hD hS hA [] rfl
        obtain ⟨gq_20, h⟩ := of_guard h
        obtain ⟨v_20, hc_20, h⟩ := of_bind h
        skip
        refine va_calli (va_runV (As := [.int v_17.1]) (rest := []) ⟨hx, hb, hml, hown, hts⟩ (c_S_indexOf1 l dC dI tb ak av H.size 0 v_17.1 v_20.1 v_20.2 hc_20) (cwV 1 hts (gV mlk_L_48 ins_S_indexOf1 sel_S_indexOf1 ini_S cod_S_indexOf1) rfl rfl rfl (by decide +kernel) ⟨Nat.le_of_ble_eq_true rfl, Nat.le_of_ble_eq_true rfl⟩) ⟨fun a U g mk q => by obtain ⟨q0, q1, qP, qK, qD, qC⟩ := q; exact ⟨q0, q1, qP, va_K.moved (u := U) (U := U.calling g mk a) (Vm.Alike.refl U.vm) qK, qD, kw_blind qC⟩, hC.rcv (inN_lt gq_20) hS, fun U hU hW => ⟨rfl, by rw [hU], by rw [hU]; exact hPc, va_K.moved hW.alike hKc, hDc.weaken (fun _ _ _ _ => trivial), kw_call hC hS hFc hU hW⟩⟩ rfl rfl hl.1 rfl (lv_room (Nat.le_of_ble_eq_true rfl)) d_L_typedBody_20 ⟨Nat.le_of_ble_eq_true rfl, Nat.le_of_ble_eq_true rfl⟩) hS (fun q _ h9 => hFc q h9) hFc (fun r_20 u t H1 locs ht hvm hw hB hz1 hk1 hS => ?_)
        obtain ⟨rfl, rfl⟩ := hw
        obtain ⟨hP1, hK1, hD1⟩ := hB
        rw [ht] at hP1
        obtain ⟨hP, hD⟩ := va_join (wr := [(h_o, .inr (1, [.ref h_typed, .int v_length])), (h_typed, .inl (k_typed, 32, .inl v_typed))]) (w1 := []) hP hD [] [0, 1] rfl rfl (by decide) (by decide) hk1 hFc hP1 hD1
        have hP := hP.sub (ws' := [(h_o, .inr (1, [.ref h_typed, .int v_length])), (h_typed, .inl (k_typed, 32, .inl v_typed))]) [0, 1] rfl
        have hD := hD.sub (ws' := [(h_o, .inr (1, [.ref h_typed, .int v_length])), (h_typed, .inl (k_typed, 32, .inl v_typed))]) [0, 1] (by decide) rfl
        generalize H1 = H at hP hS ⊢
        refine lv_istore_n (lv' := [(3, .int v_20.1), (0, .ref h_o), (1, .int z1), (2, .int z2)]) hx hb d_L_typedBody_23 rfl hl (by decide) rfl (fun ls hl => ?_)
        refine va_ldcS hx hb hown hC.str_L_52 d_L_typedBody_24 ?_
        refine lv_aload_n hx hb d_L_typedBody_26 rfl (lv_at hl 1 rfl) ?_
        refine lv_iload_n hx hb d_L_typedBody_27 rfl (lv_at hl 3 rfl) ?_
        refine lv_iconst (v := (nI 2)) hx hb d_L_typedBody_28 (by decide) ?_
        refine lv_iadd hx hb d_L_typedBody_29 ?_
        have hPc := hP.sub (ws' := [(h_o, .inr (1, [.ref h_typed, .int v_length])), (h_typed, .inl (k_typed, 32, .inl v_typed))]) [0, 1] rfl
        have hDc := hD.sub (ws' := [(h_o, .inr (1, [.ref h_typed, .int v_length])), (h_typed, .inl (k_typed, 32, .inl v_typed))]) [0, 1] (by decide) rfl
        have hKc := hK.sub (tys' := [(k_typed, .char)]) [0] rfl
        have hFc := va_free (wc := [(h_o, .inr (1, [.ref h_typed, .int v_length])), (h_typed, .inl (k_typed, 32, .inl v_typed))]) hD hS hA [0, 1] rfl
        obtain ⟨v_30, hc_30, h⟩ := of_bind h
        refine va_calli (va_runV (As := [.int (z2 + (nI 2))]) (rest := [.ref (ak 1)]) ⟨hx, hb, hml, hown, hts⟩ (c_L_at l dC dI h_o h_typed k_typed H.size v_length v_typed (z2 + (nI 2)) v_30.1 v_30.2 hc_30) (cwV 1 hts (gV mlk_L_39 ins_L_at sel_L_at ini_L cod_L_at) rfl rfl rfl (by decide +kernel) ⟨Nat.le_of_ble_eq_true rfl, Nat.le_of_ble_eq_true rfl⟩) ⟨fun a U g mk q => by obtain ⟨q0, q1, qP, qK, qD⟩ := q; exact ⟨q0, q1, qP, va_K.moved (u := U) (U := U.calling g mk a) (Vm.Alike.refl U.vm) qK, qD⟩, va_recv hKc hPc (ci := 1) (q0 := 0) rfl rfl, fun U hU hW => ⟨rfl, by rw [hU], by rw [hU]; exact hPc, va_K.moved hW.alike hKc, hDc.weaken (fun _ _ _ _ => trivial)⟩⟩ rfl rfl hl.1 rfl (lv_room (Nat.le_of_ble_eq_true rfl)) d_L_typedBody_30 ⟨Nat.le_of_ble_eq_true rfl, Nat.le_of_ble_eq_true rfl⟩) hS (fun q _ h9 => hFc q h9) hFc (fun r_30 u t H1 locs ht hvm hw hB hz1 hk1 hS => ?_)
        obtain ⟨rfl, rfl⟩ := hw
        obtain ⟨hP1, hK1, hD1⟩ := hB
        rw [ht] at hP1
        obtain ⟨hP, hD⟩ := va_join (wr := []) (w1 := [(h_o, .inr (1, [.ref h_typed, .int v_length])), (h_typed, .inl (k_typed, 32, .inl v_typed))]) hP hD [0, 1] [] rfl rfl (by decide) (by decide) hk1 hFc hP1 hD1
        have hP := hP.sub (ws' := [(h_o, .inr (1, [.ref h_typed, .int v_length])), (h_typed, .inl (k_typed, 32, .inl v_typed))]) [0, 1] rfl
        have hD := hD.sub (ws' := [(h_o, .inr (1, [.ref h_typed, .int v_length])), (h_typed, .inl (k_typed, 32, .inl v_typed))]) [0, 1] (by decide) rfl
        generalize H1 = H at hP hS ⊢
        have hPc := hP.sub (ws' := []) [] rfl
        have hDc := hD.sub (ws' := []) [] (by decide) rfl
        have hKc := hK.sub (tys' := []) [] rfl
        have hFc := va_free (wc := []) hD hS hA [] rfl
        obtain ⟨gq_33, h⟩ := of_guard h
        obtain ⟨v_33, hc_33, h⟩ := of_bind h
        skip
        refine va_calli (va_runV (As := [.int v_30.1]) (rest := []) ⟨hx, hb, hml, hown, hts⟩ (c_S_indexOf1 l dC dI tb ak av H.size 1 v_30.1 v_33.1 v_33.2 hc_33) (cwV 1 hts (gV mlk_L_48 ins_S_indexOf1 sel_S_indexOf1 ini_S cod_S_indexOf1) rfl rfl rfl (by decide +kernel) ⟨Nat.le_of_ble_eq_true rfl, Nat.le_of_ble_eq_true rfl⟩) ⟨fun a U g mk q => by obtain ⟨q0, q1, qP, qK, qD, qC⟩ := q; exact ⟨q0, q1, qP, va_K.moved (u := U) (U := U.calling g mk a) (Vm.Alike.refl U.vm) qK, qD, kw_blind qC⟩, hC.rcv (inN_lt gq_33) hS, fun U hU hW => ⟨rfl, by rw [hU], by rw [hU]; exact hPc, va_K.moved hW.alike hKc, hDc.weaken (fun _ _ _ _ => trivial), kw_call hC hS hFc hU hW⟩⟩ rfl rfl hl.1 rfl (lv_room (Nat.le_of_ble_eq_true rfl)) d_L_typedBody_33 ⟨Nat.le_of_ble_eq_true rfl, Nat.le_of_ble_eq_true rfl⟩) hS (fun q _ h9 => hFc q h9) hFc (fun r_33 u t H1 locs ht hvm hw hB hz1 hk1 hS => ?_)
        obtain ⟨rfl, rfl⟩ := hw
        obtain ⟨hP1, hK1, hD1⟩ := hB
        rw [ht] at hP1
        obtain ⟨hP, hD⟩ := va_join (wr := [(h_o, .inr (1, [.ref h_typed, .int v_length])), (h_typed, .inl (k_typed, 32, .inl v_typed))]) (w1 := []) hP hD [] [0, 1] rfl rfl (by decide) (by decide) hk1 hFc hP1 hD1
        have hP := hP.sub (ws' := [(h_o, .inr (1, [.ref h_typed, .int v_length])), (h_typed, .inl (k_typed, 32, .inl v_typed))]) [0, 1] rfl
        have hD := hD.sub (ws' := [(h_o, .inr (1, [.ref h_typed, .int v_length])), (h_typed, .inl (k_typed, 32, .inl v_typed))]) [0, 1] (by decide) rfl
        generalize H1 = H at hP hS ⊢
        refine lv_istore (lv' := [(4, .int v_33.1), (3, .int v_20.1), (0, .ref h_o), (1, .int z1), (2, .int z2)]) hx hb d_L_typedBody_36 hl (by decide) rfl (fun ls hl => ?_)
        refine va_ldcS hx hb hown hC.str_L_52 d_L_typedBody_38 ?_
        refine lv_aload_n hx hb d_L_typedBody_40 rfl (lv_at hl 2 rfl) ?_
        refine lv_iload_n hx hb d_L_typedBody_41 rfl (lv_at hl 4 rfl) ?_
        refine lv_iconst (v := (nI 4)) hx hb d_L_typedBody_42 (by decide) ?_
        refine lv_iadd hx hb d_L_typedBody_43 ?_
        have hPc := hP.sub (ws' := [(h_o, .inr (1, [.ref h_typed, .int v_length])), (h_typed, .inl (k_typed, 32, .inl v_typed))]) [0, 1] rfl
        have hDc := hD.sub (ws' := [(h_o, .inr (1, [.ref h_typed, .int v_length])), (h_typed, .inl (k_typed, 32, .inl v_typed))]) [0, 1] (by decide) rfl
        have hKc := hK.sub (tys' := [(k_typed, .char)]) [0] rfl
        have hFc := va_free (wc := [(h_o, .inr (1, [.ref h_typed, .int v_length])), (h_typed, .inl (k_typed, 32, .inl v_typed))]) hD hS hA [0, 1] rfl
        obtain ⟨v_44, hc_44, h⟩ := of_bind h
        refine va_calli (va_runV (As := [.int (z2 + (nI 4))]) (rest := [.ref (ak 1)]) ⟨hx, hb, hml, hown, hts⟩ (c_L_at l dC dI h_o h_typed k_typed H.size v_length v_typed (z2 + (nI 4)) v_44.1 v_44.2 hc_44) (cwV 1 hts (gV mlk_L_39 ins_L_at sel_L_at ini_L cod_L_at) rfl rfl rfl (by decide +kernel) ⟨Nat.le_of_ble_eq_true rfl, Nat.le_of_ble_eq_true rfl⟩) ⟨fun a U g mk q => by obtain ⟨q0, q1, qP, qK, qD⟩ := q; exact ⟨q0, q1, qP, va_K.moved (u := U) (U := U.calling g mk a) (Vm.Alike.refl U.vm) qK, qD⟩, va_recv hKc hPc (ci := 1) (q0 := 0) rfl rfl, fun U hU hW => ⟨rfl, by rw [hU], by rw [hU]; exact hPc, va_K.moved hW.alike hKc, hDc.weaken (fun _ _ _ _ => trivial)⟩⟩ rfl rfl hl.1 rfl (lv_room (Nat.le_of_ble_eq_true rfl)) d_L_typedBody_44 ⟨Nat.le_of_ble_eq_true rfl, Nat.le_of_ble_eq_true rfl⟩) hS (fun q _ h9 => hFc q h9) hFc (fun r_44 u t H1 locs ht hvm hw hB hz1 hk1 hS => ?_)
        obtain ⟨rfl, rfl⟩ := hw
        obtain ⟨hP1, hK1, hD1⟩ := hB
        rw [ht] at hP1
        obtain ⟨hP, hD⟩ := va_join (wr := []) (w1 := [(h_o, .inr (1, [.ref h_typed, .int v_length])), (h_typed, .inl (k_typed, 32, .inl v_typed))]) hP hD [0, 1] [] rfl rfl (by decide) (by decide) hk1 hFc hP1 hD1
        have hP := hP.sub (ws' := [(h_o, .inr (1, [.ref h_typed, .int v_length])), (h_typed, .inl (k_typed, 32, .inl v_typed))]) [0, 1] rfl
        have hD := hD.sub (ws' := [(h_o, .inr (1, [.ref h_typed, .int v_length])), (h_typed, .inl (k_typed, 32, .inl v_typed))]) [0, 1] (by decide) rfl
        generalize H1 = H at hP hS ⊢
        have hPc := hP.sub (ws' := []) [] rfl
        have hDc := hD.sub (ws' := []) [] (by decide) rfl
        have hKc := hK.sub (tys' := []) [] rfl
        have hFc := va_free (wc := []) hD hS hA [] rfl
        obtain ⟨gq_47, h⟩ := of_guard h
        obtain ⟨v_47, hc_47, h⟩ := of_bind h
        skip
        refine va_calli (va_runV (As := [.int v_44.1]) (rest := []) ⟨hx, hb, hml, hown, hts⟩ (c_S_indexOf1 l dC dI tb ak av H.size 1 v_44.1 v_47.1 v_47.2 hc_47) (cwV 1 hts (gV mlk_L_48 ins_S_indexOf1 sel_S_indexOf1 ini_S cod_S_indexOf1) rfl rfl rfl (by decide +kernel) ⟨Nat.le_of_ble_eq_true rfl, Nat.le_of_ble_eq_true rfl⟩) ⟨fun a U g mk q => by obtain ⟨q0, q1, qP, qK, qD, qC⟩ := q; exact ⟨q0, q1, qP, va_K.moved (u := U) (U := U.calling g mk a) (Vm.Alike.refl U.vm) qK, qD, kw_blind qC⟩, hC.rcv (inN_lt gq_47) hS, fun U hU hW => ⟨rfl, by rw [hU], by rw [hU]; exact hPc, va_K.moved hW.alike hKc, hDc.weaken (fun _ _ _ _ => trivial), kw_call hC hS hFc hU hW⟩⟩ rfl rfl hl.1 rfl (lv_room (Nat.le_of_ble_eq_true rfl)) d_L_typedBody_47 ⟨Nat.le_of_ble_eq_true rfl, Nat.le_of_ble_eq_true rfl⟩) hS (fun q _ h9 => hFc q h9) hFc (fun r_47 u t H1 locs ht hvm hw hB hz1 hk1 hS => ?_)
        obtain ⟨rfl, rfl⟩ := hw
        obtain ⟨hP1, hK1, hD1⟩ := hB
        rw [ht] at hP1
        obtain ⟨hP, hD⟩ := va_join (wr := [(h_o, .inr (1, [.ref h_typed, .int v_length])), (h_typed, .inl (k_typed, 32, .inl v_typed))]) (w1 := []) hP hD [] [0, 1] rfl rfl (by decide) (by decide) hk1 hFc hP1 hD1
        have hP := hP.sub (ws' := [(h_o, .inr (1, [.ref h_typed, .int v_length])), (h_typed, .inl (k_typed, 32, .inl v_typed))]) [0, 1] rfl
        have hD := hD.sub (ws' := [(h_o, .inr (1, [.ref h_typed, .int v_length])), (h_typed, .inl (k_typed, 32, .inl v_typed))]) [0, 1] (by decide) rfl
        generalize H1 = H at hP hS ⊢
        refine lv_istore (lv' := [(5, .int v_47.1), (4, .int v_33.1), (3, .int v_20.1), (0, .ref h_o), (1, .int z1), (2, .int z2)]) hx hb d_L_typedBody_50 hl (by decide) rfl (fun ls hl => ?_)
        refine lv_iload_n hx hb d_L_typedBody_52 rfl (lv_at hl 4 rfl) ?_
        refine lv_iconst (v := (nI 1)) hx hb d_L_typedBody_53 (by decide) ?_
        refine lv_iload_n hx hb d_L_typedBody_54 rfl (lv_at hl 2 rfl) ?_
        refine lv_iload hx hb d_L_typedBody_55 (lv_at hl 1 rfl) ?_
        refine lv_iload hx hb d_L_typedBody_57 (lv_at hl 0 rfl) ?_
        have hPc := hP.sub (ws' := []) [] rfl
        have hDc := hD.sub (ws' := []) [] (by decide) rfl
        have hKc := hK.sub (tys' := []) [] rfl
        have hFc := va_free (wc := []) hD hS hA [] rfl
        obtain ⟨v_59, hc_59, h⟩ := of_bind h
        refine va_calli (va_runSN (As := [.int v_20.1, .int v_33.1, .int v_47.1]) (rest := [.int (nI 1), .int z1]) ⟨hx, hb, hml, hown, hts⟩ (c_H_codeOf l dC dI H.size v_20.1 v_33.1 v_47.1 v_59.1 v_59.2 hc_59) ⟨va_cnB 3 hts (gI cod_H_codeOf) rfl rfl rfl hC.nst_L_54 (hts _ ini_H) (by decide +kernel) ⟨Nat.le_of_ble_eq_true rfl, Nat.le_of_ble_eq_true rfl⟩, hts _ sta_H_codeOf, trivial⟩ ⟨fun a U g mk q => by obtain ⟨q0, q1, qP, qK, qD⟩ := q; exact ⟨q0, q1, qP, va_K.moved (u := U) (U := U.calling g mk a) (Vm.Alike.refl U.vm) qK, qD⟩, fun U hU hW => ⟨rfl, by rw [hU], by rw [hU]; exact hPc, va_K.moved hW.alike hKc, hDc.weaken (fun _ _ _ _ => trivial)⟩⟩ rfl rfl hl.1 rfl (lv_room (Nat.le_of_ble_eq_true rfl)) d_L_typedBody_59 ⟨Nat.le_of_ble_eq_true rfl, Nat.le_of_ble_eq_true rfl⟩) hS (fun q _ h9 => hFc q h9) hFc (fun r_59 u t H1 locs ht hvm hw hB hz1 hk1 hS => ?_)
        obtain ⟨rfl, rfl⟩ := hw
        obtain ⟨hP1, hK1, hD1⟩ := hB
        rw [ht] at hP1
        obtain ⟨hP, hD⟩ := va_join (wr := [(h_o, .inr (1, [.ref h_typed, .int v_length])), (h_typed, .inl (k_typed, 32, .inl v_typed))]) (w1 := []) hP hD [] [0, 1] rfl rfl (by decide) (by decide) hk1 hFc hP1 hD1
        have hP := hP.sub (ws' := [(h_o, .inr (1, [.ref h_typed, .int v_length])), (h_typed, .inl (k_typed, 32, .inl v_typed))]) [0, 1] rfl
        have hD := hD.sub (ws' := [(h_o, .inr (1, [.ref h_typed, .int v_length])), (h_typed, .inl (k_typed, 32, .inl v_typed))]) [0, 1] (by decide) rfl
        generalize H1 = H at hP hS ⊢
        refine lv_ishl hx hb d_L_typedBody_62 ?_
        refine lv_ior hx hb d_L_typedBody_63 ?_
        refine lv_istore_n (lv' := [(1, .int (z1 ||| ((nI 1) <<< (v_59.1 &&& 31)))), (5, .int v_47.1), (4, .int v_33.1), (3, .int v_20.1), (0, .ref h_o), (2, .int z2)]) hx hb d_L_typedBody_64 rfl hl (by decide) rfl (fun ls hl => ?_)
        refine lv_iinc (v := z2 + (nI 7)) (lv' := [(2, .int (z2 + (nI 7))), (1, .int (z1 ||| ((nI 1) <<< (v_59.1 &&& 31)))), (5, .int v_47.1), (4, .int v_33.1), (3, .int v_20.1), (0, .ref h_o)]) hx hb d_L_typedBody_65 hl (k := 5) rfl rfl (by decide) rfl (fun ls hl => ?_)
        refine lv_goto (tgt := 5) hx hb d_L_typedBody_68 (by decide) ?_
        exact ih (z1 ||| ((nI 1) <<< (v_59.1 &&& 31))) (z2 + (nI 7)) h _ _ hP hD hS ls (lv_sub hl [5, 1, 0] rfl)
  unfold m_L_typedBody at h
  refine lv_iconst (v := (nI 0)) hx hb d_L_typedBody_0 (by decide) ?_
  refine lv_istore_n (lv' := [(1, .int (nI 0)), (0, .ref h_o)]) hx hb d_L_typedBody_1 rfl hl (by decide) rfl (fun ls hl => ?_)
  refine lv_bipush (v := (nI 8)) hx hb d_L_typedBody_2 (by decide) ?_
  refine lv_istore_n (lv' := [(2, .int (nI 8)), (1, .int (nI 0)), (0, .ref h_o)]) hx hb d_L_typedBody_4 rfl hl (by decide) rfl (fun ls hl => ?_)
  exact J_5 40 (nI 0) (nI 8) h _ _ hP hD hS ls (lv_sub hl [2, 1, 0] rfl)
