theorem d_M_constant_0 : decode b_M_constant 0 = .ok (.iload_n 0, 1) := by decide +kernel
theorem d_M_constant_1 : decode b_M_constant 1 = .ok (.ifCond .lt 12, 3) := by decide +kernel
theorem d_M_constant_4 : decode b_M_constant 4 = .ok (.iload_n 0, 1) := by decide +kernel
theorem d_M_constant_5 : decode b_M_constant 5 = .ok (.iconst 4, 1) := by decide +kernel
theorem d_M_constant_6 : decode b_M_constant 6 = .ok (.if_icmp .ge 7, 3) := by decide +kernel
theorem d_M_constant_9 : decode b_M_constant 9 = .ok (.iconst 1, 1) := by decide +kernel
theorem d_M_constant_10 : decode b_M_constant 10 = .ok (.goto 4, 3) := by decide +kernel
theorem d_M_constant_13 : decode b_M_constant 13 = .ok (.iconst 0, 1) := by decide +kernel
theorem d_M_constant_14 : decode b_M_constant 14 = .ok (.ireturn, 1) := by decide +kernel
theorem d_M_facts_0 : decode b_M_facts 0 = .ok (.iload_n 1, 1) := by decide +kernel
theorem d_M_facts_1 : decode b_M_facts 1 = .ok (.ifCond .lt 8, 3) := by decide +kernel
theorem d_M_facts_4 : decode b_M_facts 4 = .ok (.iload_n 1, 1) := by decide +kernel
theorem d_M_facts_5 : decode b_M_facts 5 = .ok (.iconst 1, 1) := by decide +kernel
theorem d_M_facts_6 : decode b_M_facts 6 = .ok (.if_icmp .le 5, 3) := by decide +kernel
theorem d_M_facts_9 : decode b_M_facts 9 = .ok (.iconst (-1), 1) := by decide +kernel
theorem d_M_facts_10 : decode b_M_facts 10 = .ok (.ireturn, 1) := by decide +kernel
theorem d_M_facts_11 : decode b_M_facts 11 = .ok (.iconst 0, 1) := by decide +kernel
theorem d_M_facts_12 : decode b_M_facts 12 = .ok (.istore_n 2, 1) := by decide +kernel
theorem d_M_facts_13 : decode b_M_facts 13 = .ok (.iconst 0, 1) := by decide +kernel
theorem d_M_facts_14 : decode b_M_facts 14 = .ok (.istore_n 3, 1) := by decide +kernel
theorem d_M_facts_15 : decode b_M_facts 15 = .ok (.iload_n 3, 1) := by decide +kernel
theorem d_M_facts_16 : decode b_M_facts 16 = .ok (.bipush 16, 2) := by decide +kernel
theorem d_M_facts_18 : decode b_M_facts 18 = .ok (.if_icmp .ge 31, 3) := by decide +kernel
theorem d_M_facts_21 : decode b_M_facts 21 = .ok (.aload_n 0, 1) := by decide +kernel
theorem d_M_facts_22 : decode b_M_facts 22 = .ok (.getfield 13, 3) := by decide +kernel
theorem d_M_facts_25 : decode b_M_facts 25 = .ok (.bipush 16, 2) := by decide +kernel
theorem d_M_facts_27 : decode b_M_facts 27 = .ok (.iload_n 1, 1) := by decide +kernel
theorem d_M_facts_28 : decode b_M_facts 28 = .ok (.imul, 1) := by decide +kernel
theorem d_M_facts_29 : decode b_M_facts 29 = .ok (.iload_n 3, 1) := by decide +kernel
theorem d_M_facts_30 : decode b_M_facts 30 = .ok (.iadd, 1) := by decide +kernel
theorem d_M_facts_31 : decode b_M_facts 31 = .ok (.baload, 1) := by decide +kernel
theorem d_M_facts_32 : decode b_M_facts 32 = .ok (.ifCond .eq 9, 3) := by decide +kernel
theorem d_M_facts_35 : decode b_M_facts 35 = .ok (.iload_n 2, 1) := by decide +kernel
theorem d_M_facts_36 : decode b_M_facts 36 = .ok (.iconst 1, 1) := by decide +kernel
theorem d_M_facts_37 : decode b_M_facts 37 = .ok (.iadd, 1) := by decide +kernel
theorem d_M_facts_38 : decode b_M_facts 38 = .ok (.goto 4, 3) := by decide +kernel
theorem d_M_facts_41 : decode b_M_facts 41 = .ok (.iload_n 2, 1) := by decide +kernel
theorem d_M_facts_42 : decode b_M_facts 42 = .ok (.istore_n 2, 1) := by decide +kernel
theorem d_M_facts_43 : decode b_M_facts 43 = .ok (.iinc 3 1, 3) := by decide +kernel
theorem d_M_facts_46 : decode b_M_facts 46 = .ok (.goto (-31), 3) := by decide +kernel
theorem d_M_facts_49 : decode b_M_facts 49 = .ok (.iload_n 2, 1) := by decide +kernel
theorem d_M_facts_50 : decode b_M_facts 50 = .ok (.ireturn, 1) := by decide +kernel
theorem d_M_holds_0 : decode b_M_holds 0 = .ok (.iload_n 1, 1) := by decide +kernel
theorem d_M_holds_1 : decode b_M_holds 1 = .ok (.ifCond .eq 8, 3) := by decide +kernel
theorem d_M_holds_4 : decode b_M_holds 4 = .ok (.iload_n 1, 1) := by decide +kernel
theorem d_M_holds_5 : decode b_M_holds 5 = .ok (.iconst 1, 1) := by decide +kernel
theorem d_M_holds_6 : decode b_M_holds 6 = .ok (.if_icmp .ne 39, 3) := by decide +kernel
theorem d_M_holds_9 : decode b_M_holds 9 = .ok (.iload_n 2, 1) := by decide +kernel
theorem d_M_holds_10 : decode b_M_holds 10 = .ok (.invokestatic 106, 3) := by decide +kernel
theorem d_M_holds_13 : decode b_M_holds 13 = .ok (.ifCond .eq 32, 3) := by decide +kernel
theorem d_M_holds_16 : decode b_M_holds 16 = .ok (.iload_n 3, 1) := by decide +kernel
theorem d_M_holds_17 : decode b_M_holds 17 = .ok (.invokestatic 106, 3) := by decide +kernel
theorem d_M_holds_20 : decode b_M_holds 20 = .ok (.ifCond .eq 25, 3) := by decide +kernel
theorem d_M_holds_23 : decode b_M_holds 23 = .ok (.aload_n 0, 1) := by decide +kernel
theorem d_M_holds_24 : decode b_M_holds 24 = .ok (.getfield 13, 3) := by decide +kernel
theorem d_M_holds_27 : decode b_M_holds 27 = .ok (.bipush 16, 2) := by decide +kernel
theorem d_M_holds_29 : decode b_M_holds 29 = .ok (.iload_n 1, 1) := by decide +kernel
theorem d_M_holds_30 : decode b_M_holds 30 = .ok (.imul, 1) := by decide +kernel
theorem d_M_holds_31 : decode b_M_holds 31 = .ok (.iconst 4, 1) := by decide +kernel
theorem d_M_holds_32 : decode b_M_holds 32 = .ok (.iload_n 2, 1) := by decide +kernel
theorem d_M_holds_33 : decode b_M_holds 33 = .ok (.imul, 1) := by decide +kernel
theorem d_M_holds_34 : decode b_M_holds 34 = .ok (.iadd, 1) := by decide +kernel
theorem d_M_holds_35 : decode b_M_holds 35 = .ok (.iload_n 3, 1) := by decide +kernel
theorem d_M_holds_36 : decode b_M_holds 36 = .ok (.iadd, 1) := by decide +kernel
theorem d_M_holds_37 : decode b_M_holds 37 = .ok (.baload, 1) := by decide +kernel
theorem d_M_holds_38 : decode b_M_holds 38 = .ok (.ifCond .eq 7, 3) := by decide +kernel
theorem d_M_holds_41 : decode b_M_holds 41 = .ok (.iconst 1, 1) := by decide +kernel
theorem d_M_holds_42 : decode b_M_holds 42 = .ok (.goto 4, 3) := by decide +kernel
theorem d_M_holds_45 : decode b_M_holds 45 = .ok (.iconst 0, 1) := by decide +kernel
theorem d_M_holds_46 : decode b_M_holds 46 = .ok (.ireturn, 1) := by decide +kernel
theorem d_M_mark_0 : decode b_M_mark 0 = .ok (.iload_n 1, 1) := by decide +kernel
theorem d_M_mark_1 : decode b_M_mark 1 = .ok (.invokestatic 106, 3) := by decide +kernel
theorem d_M_mark_4 : decode b_M_mark 4 = .ok (.ifCond .eq 23, 3) := by decide +kernel
theorem d_M_mark_7 : decode b_M_mark 7 = .ok (.iload_n 2, 1) := by decide +kernel
theorem d_M_mark_8 : decode b_M_mark 8 = .ok (.invokestatic 106, 3) := by decide +kernel
theorem d_M_mark_11 : decode b_M_mark 11 = .ok (.ifCond .eq 16, 3) := by decide +kernel
theorem d_M_mark_14 : decode b_M_mark 14 = .ok (.aload_n 0, 1) := by decide +kernel
theorem d_M_mark_15 : decode b_M_mark 15 = .ok (.getfield 17, 3) := by decide +kernel
theorem d_M_mark_18 : decode b_M_mark 18 = .ok (.iconst 4, 1) := by decide +kernel
theorem d_M_mark_19 : decode b_M_mark 19 = .ok (.iload_n 1, 1) := by decide +kernel
theorem d_M_mark_20 : decode b_M_mark 20 = .ok (.imul, 1) := by decide +kernel
theorem d_M_mark_21 : decode b_M_mark 21 = .ok (.iload_n 2, 1) := by decide +kernel
theorem d_M_mark_22 : decode b_M_mark 22 = .ok (.iadd, 1) := by decide +kernel
theorem d_M_mark_23 : decode b_M_mark 23 = .ok (.iaload, 1) := by decide +kernel
theorem d_M_mark_24 : decode b_M_mark 24 = .ok (.goto 4, 3) := by decide +kernel
theorem d_M_mark_27 : decode b_M_mark 27 = .ok (.iconst 0, 1) := by decide +kernel
theorem d_M_mark_28 : decode b_M_mark 28 = .ok (.ireturn, 1) := by decide +kernel
theorem d_M_clause_0 : decode b_M_clause 0 = .ok (.iload_n 1, 1) := by decide +kernel
theorem d_M_clause_1 : decode b_M_clause 1 = .ok (.ifCond .lt 15, 3) := by decide +kernel
theorem d_M_clause_4 : decode b_M_clause 4 = .ok (.iload_n 1, 1) := by decide +kernel
theorem d_M_clause_5 : decode b_M_clause 5 = .ok (.aload_n 0, 1) := by decide +kernel
theorem d_M_clause_6 : decode b_M_clause 6 = .ok (.getfield 85, 3) := by decide +kernel
theorem d_M_clause_9 : decode b_M_clause 9 = .ok (.if_icmp .ge 7, 3) := by decide +kernel
theorem d_M_clause_12 : decode b_M_clause 12 = .ok (.iconst 1, 1) := by decide +kernel
theorem d_M_clause_13 : decode b_M_clause 13 = .ok (.goto 4, 3) := by decide +kernel
theorem d_M_clause_16 : decode b_M_clause 16 = .ok (.iconst 0, 1) := by decide +kernel
theorem d_M_clause_17 : decode b_M_clause 17 = .ok (.ireturn, 1) := by decide +kernel
theorem d_M_drop_0 : decode b_M_drop 0 = .ok (.aload_n 0, 1) := by decide +kernel
theorem d_M_drop_1 : decode b_M_drop 1 = .ok (.iload_n 1, 1) := by decide +kernel
theorem d_M_drop_2 : decode b_M_drop 2 = .ok (.invokevirtual 109, 3) := by decide +kernel
theorem d_M_drop_5 : decode b_M_drop 5 = .ok (.ifCond .ne 5, 3) := by decide +kernel
theorem d_M_drop_8 : decode b_M_drop 8 = .ok (.iconst 0, 1) := by decide +kernel
theorem d_M_drop_9 : decode b_M_drop 9 = .ok (.ireturn, 1) := by decide +kernel
theorem d_M_drop_10 : decode b_M_drop 10 = .ok (.iload_n 1, 1) := by decide +kernel
theorem d_M_drop_11 : decode b_M_drop 11 = .ok (.ifCond .ne 42, 3) := by decide +kernel
theorem d_M_drop_14 : decode b_M_drop 14 = .ok (.aload_n 0, 1) := by decide +kernel
theorem d_M_drop_15 : decode b_M_drop 15 = .ok (.getfield 20, 3) := by decide +kernel
theorem d_M_drop_18 : decode b_M_drop 18 = .ok (.iconst 0, 1) := by decide +kernel
theorem d_M_drop_19 : decode b_M_drop 19 = .ok (.aload_n 0, 1) := by decide +kernel
theorem d_M_drop_20 : decode b_M_drop 20 = .ok (.getfield 20, 3) := by decide +kernel
theorem d_M_drop_23 : decode b_M_drop 23 = .ok (.iconst 1, 1) := by decide +kernel
theorem d_M_drop_24 : decode b_M_drop 24 = .ok (.iaload, 1) := by decide +kernel
theorem d_M_drop_25 : decode b_M_drop 25 = .ok (.iastore, 1) := by decide +kernel
theorem d_M_drop_26 : decode b_M_drop 26 = .ok (.iconst 0, 1) := by decide +kernel
theorem d_M_drop_27 : decode b_M_drop 27 = .ok (.istore_n 2, 1) := by decide +kernel
theorem d_M_drop_28 : decode b_M_drop 28 = .ok (.iload_n 2, 1) := by decide +kernel
theorem d_M_drop_29 : decode b_M_drop 29 = .ok (.iconst 3, 1) := by decide +kernel
theorem d_M_drop_30 : decode b_M_drop 30 = .ok (.if_icmp .ge 23, 3) := by decide +kernel
theorem d_M_drop_33 : decode b_M_drop 33 = .ok (.aload_n 0, 1) := by decide +kernel
theorem d_M_drop_34 : decode b_M_drop 34 = .ok (.getfield 23, 3) := by decide +kernel
theorem d_M_drop_37 : decode b_M_drop 37 = .ok (.iload_n 2, 1) := by decide +kernel
theorem d_M_drop_38 : decode b_M_drop 38 = .ok (.aload_n 0, 1) := by decide +kernel
theorem d_M_drop_39 : decode b_M_drop 39 = .ok (.getfield 23, 3) := by decide +kernel
theorem d_M_drop_42 : decode b_M_drop 42 = .ok (.iconst 3, 1) := by decide +kernel
theorem d_M_drop_43 : decode b_M_drop 43 = .ok (.iload_n 2, 1) := by decide +kernel
theorem d_M_drop_44 : decode b_M_drop 44 = .ok (.iadd, 1) := by decide +kernel
theorem d_M_drop_45 : decode b_M_drop 45 = .ok (.iaload, 1) := by decide +kernel
theorem d_M_drop_46 : decode b_M_drop 46 = .ok (.iastore, 1) := by decide +kernel
theorem d_M_drop_47 : decode b_M_drop 47 = .ok (.iinc 2 1, 3) := by decide +kernel
theorem d_M_drop_50 : decode b_M_drop 50 = .ok (.goto (-22), 3) := by decide +kernel
theorem d_M_drop_53 : decode b_M_drop 53 = .ok (.aload_n 0, 1) := by decide +kernel
theorem d_M_drop_54 : decode b_M_drop 54 = .ok (.dup, 1) := by decide +kernel
theorem d_M_drop_55 : decode b_M_drop 55 = .ok (.getfield 85, 3) := by decide +kernel
theorem d_M_drop_58 : decode b_M_drop 58 = .ok (.iconst 1, 1) := by decide +kernel
theorem d_M_drop_59 : decode b_M_drop 59 = .ok (.isub, 1) := by decide +kernel
theorem d_M_drop_60 : decode b_M_drop 60 = .ok (.putfield 85, 3) := by decide +kernel
theorem d_M_drop_63 : decode b_M_drop 63 = .ok (.iconst 1, 1) := by decide +kernel
theorem d_M_drop_64 : decode b_M_drop 64 = .ok (.ireturn, 1) := by decide +kernel
theorem d_M_clauses_0 : decode b_M_clauses 0 = .ok (.aload_n 0, 1) := by decide +kernel
theorem d_M_clauses_1 : decode b_M_clauses 1 = .ok (.getfield 85, 3) := by decide +kernel
theorem d_M_clauses_4 : decode b_M_clauses 4 = .ok (.ireturn, 1) := by decide +kernel
theorem d_M_literals_0 : decode b_M_literals 0 = .ok (.aload_n 0, 1) := by decide +kernel
theorem d_M_literals_1 : decode b_M_literals 1 = .ok (.iload_n 1, 1) := by decide +kernel
theorem d_M_literals_2 : decode b_M_literals 2 = .ok (.invokevirtual 109, 3) := by decide +kernel
theorem d_M_literals_5 : decode b_M_literals 5 = .ok (.ifCond .eq 12, 3) := by decide +kernel
theorem d_M_literals_8 : decode b_M_literals 8 = .ok (.aload_n 0, 1) := by decide +kernel
theorem d_M_literals_9 : decode b_M_literals 9 = .ok (.getfield 20, 3) := by decide +kernel
theorem d_M_literals_12 : decode b_M_literals 12 = .ok (.iload_n 1, 1) := by decide +kernel
theorem d_M_literals_13 : decode b_M_literals 13 = .ok (.iaload, 1) := by decide +kernel
theorem d_M_literals_14 : decode b_M_literals 14 = .ok (.goto 4, 3) := by decide +kernel
theorem d_M_literals_17 : decode b_M_literals 17 = .ok (.iconst (-1), 1) := by decide +kernel
theorem d_M_literals_18 : decode b_M_literals 18 = .ok (.ireturn, 1) := by decide +kernel
theorem d_M_literal_0 : decode b_M_literal 0 = .ok (.aload_n 0, 1) := by decide +kernel
theorem d_M_literal_1 : decode b_M_literal 1 = .ok (.iload_n 1, 1) := by decide +kernel
theorem d_M_literal_2 : decode b_M_literal 2 = .ok (.invokevirtual 109, 3) := by decide +kernel
theorem d_M_literal_5 : decode b_M_literal 5 = .ok (.ifCond .eq 30, 3) := by decide +kernel
theorem d_M_literal_8 : decode b_M_literal 8 = .ok (.iload_n 2, 1) := by decide +kernel
theorem d_M_literal_9 : decode b_M_literal 9 = .ok (.ifCond .lt 26, 3) := by decide +kernel
theorem d_M_literal_12 : decode b_M_literal 12 = .ok (.iload_n 2, 1) := by decide +kernel
theorem d_M_literal_13 : decode b_M_literal 13 = .ok (.aload_n 0, 1) := by decide +kernel
theorem d_M_literal_14 : decode b_M_literal 14 = .ok (.getfield 20, 3) := by decide +kernel
theorem d_M_literal_17 : decode b_M_literal 17 = .ok (.iload_n 1, 1) := by decide +kernel
theorem d_M_literal_18 : decode b_M_literal 18 = .ok (.iaload, 1) := by decide +kernel
theorem d_M_literal_19 : decode b_M_literal 19 = .ok (.if_icmp .ge 16, 3) := by decide +kernel
theorem d_M_literal_22 : decode b_M_literal 22 = .ok (.aload_n 0, 1) := by decide +kernel
theorem d_M_literal_23 : decode b_M_literal 23 = .ok (.getfield 23, 3) := by decide +kernel
theorem d_M_literal_26 : decode b_M_literal 26 = .ok (.iconst 3, 1) := by decide +kernel
theorem d_M_literal_27 : decode b_M_literal 27 = .ok (.iload_n 1, 1) := by decide +kernel
theorem d_M_literal_28 : decode b_M_literal 28 = .ok (.imul, 1) := by decide +kernel
theorem d_M_literal_29 : decode b_M_literal 29 = .ok (.iload_n 2, 1) := by decide +kernel
theorem d_M_literal_30 : decode b_M_literal 30 = .ok (.iadd, 1) := by decide +kernel
theorem d_M_literal_31 : decode b_M_literal 31 = .ok (.iaload, 1) := by decide +kernel
theorem d_M_literal_32 : decode b_M_literal 32 = .ok (.goto 4, 3) := by decide +kernel
theorem d_M_literal_35 : decode b_M_literal 35 = .ok (.iconst (-1), 1) := by decide +kernel
theorem d_M_literal_36 : decode b_M_literal 36 = .ok (.ireturn, 1) := by decide +kernel
theorem d_M_letterOf_0 : decode b_M_letterOf 0 = .ok (.iload_n 1, 1) := by decide +kernel
theorem d_M_letterOf_1 : decode b_M_letterOf 1 = .ok (.tableswitch 82 0 4 #[35, 60, 63, 72, 75], 35) := by decide +kernel
theorem d_M_letterOf_36 : decode b_M_letterOf 36 = .ok (.iload_n 0, 1) := by decide +kernel
theorem d_M_letterOf_37 : decode b_M_letterOf 37 = .ok (.bipush 9, 2) := by decide +kernel
theorem d_M_letterOf_39 : decode b_M_letterOf 39 = .ok (.if_icmp .ge 8, 3) := by decide +kernel
theorem d_M_letterOf_42 : decode b_M_letterOf 42 = .ok (.bipush 97, 2) := by decide +kernel
theorem d_M_letterOf_44 : decode b_M_letterOf 44 = .ok (.goto 16, 3) := by decide +kernel
theorem d_M_letterOf_47 : decode b_M_letterOf 47 = .ok (.iload_n 0, 1) := by decide +kernel
theorem d_M_letterOf_48 : decode b_M_letterOf 48 = .ok (.bipush 18, 2) := by decide +kernel
theorem d_M_letterOf_50 : decode b_M_letterOf 50 = .ok (.if_icmp .ge 8, 3) := by decide +kernel
theorem d_M_letterOf_53 : decode b_M_letterOf 53 = .ok (.bipush 98, 2) := by decide +kernel
theorem d_M_letterOf_55 : decode b_M_letterOf 55 = .ok (.goto 5, 3) := by decide +kernel
theorem d_M_letterOf_58 : decode b_M_letterOf 58 = .ok (.bipush 116, 2) := by decide +kernel
theorem d_M_letterOf_60 : decode b_M_letterOf 60 = .ok (.ireturn, 1) := by decide +kernel
theorem d_M_letterOf_61 : decode b_M_letterOf 61 = .ok (.bipush 40, 2) := by decide +kernel
theorem d_M_letterOf_63 : decode b_M_letterOf 63 = .ok (.ireturn, 1) := by decide +kernel
theorem d_M_letterOf_64 : decode b_M_letterOf 64 = .ok (.bipush 88, 2) := by decide +kernel
theorem d_M_letterOf_66 : decode b_M_letterOf 66 = .ok (.iload_n 0, 1) := by decide +kernel
theorem d_M_letterOf_67 : decode b_M_letterOf 67 = .ok (.iconst 3, 1) := by decide +kernel
theorem d_M_letterOf_68 : decode b_M_letterOf 68 = .ok (.idiv, 1) := by decide +kernel
theorem d_M_letterOf_69 : decode b_M_letterOf 69 = .ok (.iconst 3, 1) := by decide +kernel
theorem d_M_letterOf_70 : decode b_M_letterOf 70 = .ok (.irem, 1) := by decide +kernel
theorem d_M_letterOf_71 : decode b_M_letterOf 71 = .ok (.iadd, 1) := by decide +kernel
theorem d_M_letterOf_72 : decode b_M_letterOf 72 = .ok (.ireturn, 1) := by decide +kernel
theorem d_M_letterOf_73 : decode b_M_letterOf 73 = .ok (.bipush 44, 2) := by decide +kernel
theorem d_M_letterOf_75 : decode b_M_letterOf 75 = .ok (.ireturn, 1) := by decide +kernel
theorem d_M_letterOf_76 : decode b_M_letterOf 76 = .ok (.bipush 88, 2) := by decide +kernel
theorem d_M_letterOf_78 : decode b_M_letterOf 78 = .ok (.iload_n 0, 1) := by decide +kernel
theorem d_M_letterOf_79 : decode b_M_letterOf 79 = .ok (.iconst 3, 1) := by decide +kernel
theorem d_M_letterOf_80 : decode b_M_letterOf 80 = .ok (.irem, 1) := by decide +kernel
theorem d_M_letterOf_81 : decode b_M_letterOf 81 = .ok (.iadd, 1) := by decide +kernel
theorem d_M_letterOf_82 : decode b_M_letterOf 82 = .ok (.ireturn, 1) := by decide +kernel
theorem d_M_letterOf_83 : decode b_M_letterOf 83 = .ok (.bipush 41, 2) := by decide +kernel
theorem d_M_letterOf_85 : decode b_M_letterOf 85 = .ok (.ireturn, 1) := by decide +kernel
theorem d_M_letter_0 : decode b_M_letter 0 = .ok (.iload_n 1, 1) := by decide +kernel
theorem d_M_letter_1 : decode b_M_letter 1 = .ok (.istore_n 2, 1) := by decide +kernel
theorem d_M_letter_2 : decode b_M_letter 2 = .ok (.iconst 0, 1) := by decide +kernel
theorem d_M_letter_3 : decode b_M_letter 3 = .ok (.istore_n 3, 1) := by decide +kernel
theorem d_M_letter_4 : decode b_M_letter 4 = .ok (.iload_n 3, 1) := by decide +kernel
theorem d_M_letter_5 : decode b_M_letter 5 = .ok (.aload_n 0, 1) := by decide +kernel
theorem d_M_letter_6 : decode b_M_letter 6 = .ok (.getfield 85, 3) := by decide +kernel
theorem d_M_letter_9 : decode b_M_letter 9 = .ok (.if_icmp .ge 118, 3) := by decide +kernel
theorem d_M_letter_12 : decode b_M_letter 12 = .ok (.iload_n 2, 1) := by decide +kernel
theorem d_M_letter_13 : decode b_M_letter 13 = .ok (.ifCond .lt 114, 3) := by decide +kernel
theorem d_M_letter_16 : decode b_M_letter 16 = .ok (.bipush 7, 2) := by decide +kernel
theorem d_M_letter_18 : decode b_M_letter 18 = .ok (.bipush 7, 2) := by decide +kernel
theorem d_M_letter_20 : decode b_M_letter 20 = .ok (.aload_n 0, 1) := by decide +kernel
theorem d_M_letter_21 : decode b_M_letter 21 = .ok (.getfield 20, 3) := by decide +kernel
theorem d_M_letter_24 : decode b_M_letter 24 = .ok (.iload_n 3, 1) := by decide +kernel
theorem d_M_letter_25 : decode b_M_letter 25 = .ok (.iaload, 1) := by decide +kernel
theorem d_M_letter_26 : decode b_M_letter 26 = .ok (.imul, 1) := by decide +kernel
theorem d_M_letter_27 : decode b_M_letter 27 = .ok (.iadd, 1) := by decide +kernel
theorem d_M_letter_28 : decode b_M_letter 28 = .ok (.istore 4, 2) := by decide +kernel
theorem d_M_letter_30 : decode b_M_letter 30 = .ok (.iload_n 2, 1) := by decide +kernel
theorem d_M_letter_31 : decode b_M_letter 31 = .ok (.iload 4, 2) := by decide +kernel
theorem d_M_letter_33 : decode b_M_letter 33 = .ok (.if_icmp .ge 59, 3) := by decide +kernel
theorem d_M_letter_36 : decode b_M_letter 36 = .ok (.iload_n 2, 1) := by decide +kernel
theorem d_M_letter_37 : decode b_M_letter 37 = .ok (.bipush 8, 2) := by decide +kernel
theorem d_M_letter_39 : decode b_M_letter 39 = .ok (.isub, 1) := by decide +kernel
theorem d_M_letter_40 : decode b_M_letter 40 = .ok (.istore 5, 2) := by decide +kernel
theorem d_M_letter_42 : decode b_M_letter 42 = .ok (.iload 5, 2) := by decide +kernel
theorem d_M_letter_44 : decode b_M_letter 44 = .ok (.ifCond .ge 10, 3) := by decide +kernel
theorem d_M_letter_47 : decode b_M_letter 47 = .ok (.iload_n 2, 1) := by decide +kernel
theorem d_M_letter_48 : decode b_M_letter 48 = .ok (.invokestatic 55, 3) := by decide +kernel
theorem d_M_letter_51 : decode b_M_letter 51 = .ok (.goto 40, 3) := by decide +kernel
theorem d_M_letter_54 : decode b_M_letter 54 = .ok (.iload 5, 2) := by decide +kernel
theorem d_M_letter_56 : decode b_M_letter 56 = .ok (.bipush 7, 2) := by decide +kernel
theorem d_M_letter_58 : decode b_M_letter 58 = .ok (.irem, 1) := by decide +kernel
theorem d_M_letter_59 : decode b_M_letter 59 = .ok (.bipush 6, 2) := by decide +kernel
theorem d_M_letter_61 : decode b_M_letter 61 = .ok (.if_icmp .ne 8, 3) := by decide +kernel
theorem d_M_letter_64 : decode b_M_letter 64 = .ok (.bipush 44, 2) := by decide +kernel
theorem d_M_letter_66 : decode b_M_letter 66 = .ok (.goto 25, 3) := by decide +kernel
theorem d_M_letter_69 : decode b_M_letter 69 = .ok (.aload_n 0, 1) := by decide +kernel
theorem d_M_letter_70 : decode b_M_letter 70 = .ok (.getfield 23, 3) := by decide +kernel
theorem d_M_letter_73 : decode b_M_letter 73 = .ok (.iconst 3, 1) := by decide +kernel
theorem d_M_letter_74 : decode b_M_letter 74 = .ok (.iload_n 3, 1) := by decide +kernel
theorem d_M_letter_75 : decode b_M_letter 75 = .ok (.imul, 1) := by decide +kernel
theorem d_M_letter_76 : decode b_M_letter 76 = .ok (.iload 5, 2) := by decide +kernel
theorem d_M_letter_78 : decode b_M_letter 78 = .ok (.bipush 7, 2) := by decide +kernel
theorem d_M_letter_80 : decode b_M_letter 80 = .ok (.idiv, 1) := by decide +kernel
theorem d_M_letter_81 : decode b_M_letter 81 = .ok (.iadd, 1) := by decide +kernel
theorem d_M_letter_82 : decode b_M_letter 82 = .ok (.iaload, 1) := by decide +kernel
theorem d_M_letter_83 : decode b_M_letter 83 = .ok (.iload 5, 2) := by decide +kernel
theorem d_M_letter_85 : decode b_M_letter 85 = .ok (.bipush 7, 2) := by decide +kernel
theorem d_M_letter_87 : decode b_M_letter 87 = .ok (.irem, 1) := by decide +kernel
theorem d_M_letter_88 : decode b_M_letter 88 = .ok (.invokestatic 112, 3) := by decide +kernel
theorem d_M_letter_91 : decode b_M_letter 91 = .ok (.ireturn, 1) := by decide +kernel
theorem d_M_letter_92 : decode b_M_letter 92 = .ok (.iload_n 2, 1) := by decide +kernel
theorem d_M_letter_93 : decode b_M_letter 93 = .ok (.iload 4, 2) := by decide +kernel
theorem d_M_letter_95 : decode b_M_letter 95 = .ok (.isub, 1) := by decide +kernel
theorem d_M_letter_96 : decode b_M_letter 96 = .ok (.istore_n 2, 1) := by decide +kernel
theorem d_M_letter_97 : decode b_M_letter 97 = .ok (.iload_n 2, 1) := by decide +kernel
theorem d_M_letter_98 : decode b_M_letter 98 = .ok (.ifCond .ne 20, 3) := by decide +kernel
theorem d_M_letter_101 : decode b_M_letter 101 = .ok (.iload_n 3, 1) := by decide +kernel
theorem d_M_letter_102 : decode b_M_letter 102 = .ok (.iconst 1, 1) := by decide +kernel
theorem d_M_letter_103 : decode b_M_letter 103 = .ok (.iadd, 1) := by decide +kernel
theorem d_M_letter_104 : decode b_M_letter 104 = .ok (.aload_n 0, 1) := by decide +kernel
theorem d_M_letter_105 : decode b_M_letter 105 = .ok (.getfield 85, 3) := by decide +kernel
theorem d_M_letter_108 : decode b_M_letter 108 = .ok (.if_icmp .ge 8, 3) := by decide +kernel
theorem d_M_letter_111 : decode b_M_letter 111 = .ok (.bipush 59, 2) := by decide +kernel
theorem d_M_letter_113 : decode b_M_letter 113 = .ok (.goto 4, 3) := by decide +kernel
theorem d_M_letter_116 : decode b_M_letter 116 = .ok (.iconst (-1), 1) := by decide +kernel
theorem d_M_letter_117 : decode b_M_letter 117 = .ok (.ireturn, 1) := by decide +kernel
theorem d_M_letter_118 : decode b_M_letter 118 = .ok (.iinc 2 (-1), 3) := by decide +kernel
theorem d_M_letter_121 : decode b_M_letter 121 = .ok (.iinc 3 1, 3) := by decide +kernel
theorem d_M_letter_124 : decode b_M_letter 124 = .ok (.goto (-120), 3) := by decide +kernel
theorem d_M_letter_127 : decode b_M_letter 127 = .ok (.iconst (-1), 1) := by decide +kernel
theorem d_M_letter_128 : decode b_M_letter 128 = .ok (.ireturn, 1) := by decide +kernel
set_option maxHeartbeats 1000000 in
set_option maxRecDepth 100000 in
theorem c_M_constant (l : Launch) (dC : Nat → ClassId) (dI : Nat → Nat → Nat) (sz : Nat)  (x0 : Int32) (r0 : Int32) (u0 : Unit) (h : m_M_constant x0 = some (r0, u0)) : Met l y_M_constant w_M_constant ({ frames := 0, cells := 0, slots := 0, locals := 0 } : Room) (va_Pc [.int x0] (fun U => U.heap.size = sz ∧ va_P (dC, dI) classes [] U.heap ∧ va_K (dC, dI) classes [] U ∧ va_D (fun _ => True) [])) (va_Qi (fun (r : Int32) (u : Unit) => r = r0 ∧ u = u0) (fun (u : Unit) (t : State) => va_P (dC, dI) classes [] t.heap ∧ va_K (dC, dI) classes [] t ∧ va_D (va_A [] sz) []) (va_A [] sz)) 0 0 (va_A [] sz) := by
  refine Met.ofW (cc := b_M_constant) (maxL := 1) (ret := (some .boolean)) (by decide) rfl ?_
  intro p e s m args below meth c s₁ B hml hv
  obtain ⟨rfl, hsz, hP, hK, hD0⟩ := hv
  have hx := B.exec
  have hb := B.bytes
  have hr := B.returns
  have hts0 := atoms_spec (ws := w_M_constant) B.pre
  have hts : ∀ w ∈ lw_gd, w.before ([.int x0] : List Value).toArray s = true := fun w h9 => hts0 w (List.mem_cons_of_mem _ h9)
  have hown : s.vm.findClass R_M = some m.cls := findClass_of_methodNamed B.named
  have hlocks := B.notSynchronized
  subst hsz
  have hD := hD0.self (sz := s.heap.size)
  generalize hAe : va_A [] s.heap.size = A at hD ⊢
  have hA : ∀ q : Nat, s.heap.size ≤ q → A q := fun q h9 => by rw [← hAe]; exact Or.inr h9
  obtain ⟨H, eH⟩ : ∃ H : Heap, H = s.heap := ⟨_, rfl⟩
  have hS : va_S A s.heap H [] := by rw [eH]; exact va_S.rf
  have hP : va_P (dC, dI) classes [] H := by rw [eH]; exact hP
  refine W_gen (fun Q hQ => ?_)
  refine W_heap eH ?_
  clear eH
  have hl := lv_entry ([.int x0]) (n := 1) (Nat.le_of_ble_eq_true rfl)
  rw [lg_entry_eq]
  generalize (lg_sl ([.int x0]) ++ List.replicate (1 - (lg_sl ([.int x0])).length) Slot.unset).toArray = ls at hl ⊢
  have hl : lv_has ls 1 [(0, .int x0)] := hl
  unfold m_M_constant at h
  refine lv_iload_n hx hb d_M_constant_0 rfl (lv_at hl 0 rfl) ?_
  refine lv_if_lt (tgt := 13) hx hb d_M_constant_1 (by decide) (fun c_1 => ?_) (fun c_1 => ?_)
  · have h := of_pos h c_1
    refine lv_iconst (v := (nI 0)) hx hb d_M_constant_13 (by decide) ?_
    rw [hQ]
    exact W.zret (v := (nI 0)) hx hb hr rfl (fun t ht hW => ⟨⟨(nI 0), (), rfl, Prod.mk.inj (Option.some.inj h), by rw [ht]; exact hP, va_K.moved hW.alike hK, hD⟩, hS.F ht⟩) hS.2.2 d_M_constant_14
  · have h := of_neg h c_1
    refine lv_iload_n hx hb d_M_constant_4 rfl (lv_at hl 0 rfl) ?_
    refine lv_iconst (v := (nI 4)) hx hb d_M_constant_5 (by decide) ?_
    refine lv_icmp_ge (tgt := 13) hx hb d_M_constant_6 (by decide) (fun c_6 => ?_) (fun c_6 => ?_)
    · have h := of_pos h c_6
      refine lv_iconst (v := (nI 0)) hx hb d_M_constant_13 (by decide) ?_
      rw [hQ]
      exact W.zret (v := (nI 0)) hx hb hr rfl (fun t ht hW => ⟨⟨(nI 0), (), rfl, Prod.mk.inj (Option.some.inj h), by rw [ht]; exact hP, va_K.moved hW.alike hK, hD⟩, hS.F ht⟩) hS.2.2 d_M_constant_14
    · have h := of_neg h c_6
      refine lv_iconst (v := (nI 1)) hx hb d_M_constant_9 (by decide) ?_
      refine lv_goto (tgt := 14) hx hb d_M_constant_10 (by decide) ?_
      rw [hQ]
      exact W.zret (v := (nI 1)) hx hb hr rfl (fun t ht hW => ⟨⟨(nI 1), (), rfl, Prod.mk.inj (Option.some.inj h), by rw [ht]; exact hP, va_K.moved hW.alike hK, hD⟩, hS.F ht⟩) hS.2.2 d_M_constant_14
set_option maxHeartbeats 1000000 in
set_option maxRecDepth 100000 in
theorem c_M_facts (l : Launch) (dC : Nat → ClassId) (dI : Nat → Nat → Nat) (h_o h_line h_fact h_marked h_many h_codes h_oldMany h_oldCodes h_body h_roundOf h_fresh : Nat) (k_fact : ClassId) (sz : Nat) (v_typed : Int32) (v_count : Int32) (v_oldCount : Int32) (v_read : Int32) (v_last : Int32) (v_fact : Nat → Int32) (x1 : Int32) (r0 : Int32) (u0 : Unit) (h : m_M_facts v_fact x1 = some (r0, u0)) : Met l y_M_facts w_M_facts ({ frames := 0, cells := 0, slots := 0, locals := 0 } : Room) (va_Pc [.ref h_o, .int x1] (fun U => U.heap.size = sz ∧ va_P (dC, dI) classes [(h_o, .inr (4, [.ref h_line, .int v_typed, .ref h_fact, .ref h_marked, .int v_count, .ref h_many, .ref h_codes, .int v_oldCount, .ref h_oldMany, .ref h_oldCodes, .int v_read, .ref h_body, .ref h_roundOf, .ref h_fresh, .int v_last])), (h_fact, .inl (k_fact, 32, .inl v_fact))] U.heap ∧ va_K (dC, dI) classes [(k_fact, .boolean)] U ∧ va_D (fun _ => True) [(h_o, .inr (4, [.ref h_line, .int v_typed, .ref h_fact, .ref h_marked, .int v_count, .ref h_many, .ref h_codes, .int v_oldCount, .ref h_oldMany, .ref h_oldCodes, .int v_read, .ref h_body, .ref h_roundOf, .ref h_fresh, .int v_last])), (h_fact, .inl (k_fact, 32, .inl v_fact))])) (va_Qi (fun (r : Int32) (u : Unit) => r = r0 ∧ u = u0) (fun (u : Unit) (t : State) => va_P (dC, dI) classes [(h_o, .inr (4, [.ref h_line, .int v_typed, .ref h_fact, .ref h_marked, .int v_count, .ref h_many, .ref h_codes, .int v_oldCount, .ref h_oldMany, .ref h_oldCodes, .int v_read, .ref h_body, .ref h_roundOf, .ref h_fresh, .int v_last])), (h_fact, .inl (k_fact, 32, .inl v_fact))] t.heap ∧ va_K (dC, dI) classes [(k_fact, .boolean)] t ∧ va_D (va_A [(h_o, .inr (4, [.ref h_line, .int v_typed, .ref h_fact, .ref h_marked, .int v_count, .ref h_many, .ref h_codes, .int v_oldCount, .ref h_oldMany, .ref h_oldCodes, .int v_read, .ref h_body, .ref h_roundOf, .ref h_fresh, .int v_last])), (h_fact, .inl (k_fact, 32, .inl v_fact))] sz) [(h_o, .inr (4, [.ref h_line, .int v_typed, .ref h_fact, .ref h_marked, .int v_count, .ref h_many, .ref h_codes, .int v_oldCount, .ref h_oldMany, .ref h_oldCodes, .int v_read, .ref h_body, .ref h_roundOf, .ref h_fresh, .int v_last])), (h_fact, .inl (k_fact, 32, .inl v_fact))]) (va_A [(h_o, .inr (4, [.ref h_line, .int v_typed, .ref h_fact, .ref h_marked, .int v_count, .ref h_many, .ref h_codes, .int v_oldCount, .ref h_oldMany, .ref h_oldCodes, .int v_read, .ref h_body, .ref h_roundOf, .ref h_fresh, .int v_last])), (h_fact, .inl (k_fact, 32, .inl v_fact))] sz)) 0 0 (va_A [(h_o, .inr (4, [.ref h_line, .int v_typed, .ref h_fact, .ref h_marked, .int v_count, .ref h_many, .ref h_codes, .int v_oldCount, .ref h_oldMany, .ref h_oldCodes, .int v_read, .ref h_body, .ref h_roundOf, .ref h_fresh, .int v_last])), (h_fact, .inl (k_fact, 32, .inl v_fact))] sz) := by
  refine Met.ofW (cc := b_M_facts) (maxL := 4) (ret := (some .int)) (by decide) rfl ?_
  intro p e s m args below meth c s₁ B hml hv
  obtain ⟨rfl, hsz, hP, hK, hD0⟩ := hv
  have hx := B.exec
  have hb := B.bytes
  have hr := B.returns
  have hts0 := atoms_spec (ws := w_M_facts) B.pre
  have hts : ∀ w ∈ lw_gd, w.before ([.ref h_o, .int x1] : List Value).toArray s = true := fun w h9 => hts0 w (List.mem_cons_of_mem _ h9)
  have hown : s.vm.findClass R_M = some m.cls := findClass_of_methodNamed B.named
  have hlocks := B.notSynchronized
  subst hsz
  have hD := hD0.self (sz := s.heap.size)
  generalize hAe : va_A [(h_o, .inr (4, [.ref h_line, .int v_typed, .ref h_fact, .ref h_marked, .int v_count, .ref h_many, .ref h_codes, .int v_oldCount, .ref h_oldMany, .ref h_oldCodes, .int v_read, .ref h_body, .ref h_roundOf, .ref h_fresh, .int v_last])), (h_fact, .inl (k_fact, 32, .inl v_fact))] s.heap.size = A at hD ⊢
  have hA : ∀ q : Nat, s.heap.size ≤ q → A q := fun q h9 => by rw [← hAe]; exact Or.inr h9
  obtain ⟨H, eH⟩ : ∃ H : Heap, H = s.heap := ⟨_, rfl⟩
  have hS : va_S A s.heap H [] := by rw [eH]; exact va_S.rf
  have hP : va_P (dC, dI) classes [(h_o, .inr (4, [.ref h_line, .int v_typed, .ref h_fact, .ref h_marked, .int v_count, .ref h_many, .ref h_codes, .int v_oldCount, .ref h_oldMany, .ref h_oldCodes, .int v_read, .ref h_body, .ref h_roundOf, .ref h_fresh, .int v_last])), (h_fact, .inl (k_fact, 32, .inl v_fact))] H := by rw [eH]; exact hP
  refine W_gen (fun Q hQ => ?_)
  refine W_heap eH ?_
  clear eH
  have hl := lv_entry ([.ref h_o, .int x1]) (n := 4) (Nat.le_of_ble_eq_true rfl)
  rw [lg_entry_eq]
  generalize (lg_sl ([.ref h_o, .int x1]) ++ List.replicate (4 - (lg_sl ([.ref h_o, .int x1])).length) Slot.unset).toArray = ls at hl ⊢
  have hl : lv_has ls 4 [(0, .ref h_o), (1, .int x1)] := hl
  have J_42 : ∀ (k_15 : Int32 → Int32 → Int32 → Option (Int32 × Unit)) (hk_15 : ∀ (z1 : Int32) (z2 : Int32) (z3 : Int32), k_15 z1 z2 z3 = some (r0, u0) → ∀ (H : Heap) (locs : List Loc), va_P (dC, dI) classes [(h_o, .inr (4, [.ref h_line, .int v_typed, .ref h_fact, .ref h_marked, .int v_count, .ref h_many, .ref h_codes, .int v_oldCount, .ref h_oldMany, .ref h_oldCodes, .int v_read, .ref h_body, .ref h_roundOf, .ref h_fresh, .int v_last])), (h_fact, .inl (k_fact, 32, .inl v_fact))] H → va_D A [(h_o, .inr (4, [.ref h_line, .int v_typed, .ref h_fact, .ref h_marked, .int v_count, .ref h_many, .ref h_codes, .int v_oldCount, .ref h_oldMany, .ref h_oldCodes, .int v_read, .ref h_body, .ref h_roundOf, .ref h_fresh, .int v_last])), (h_fact, .inl (k_fact, 32, .inl v_fact))] → va_S A s.heap H locs → ∀ (ls : Array Slot), lv_has ls 4 [(0, .ref h_o), (1, .int z1), (2, .int z2), (3, .int z3)] → W p l e (headSpec w_M_facts ({ frames := 0, cells := 0, slots := 0, locals := 0 } : Room)).room s m ([.ref h_o, .int x1] : List Value).toArray below meth c H locs 0 0 Q (F0 m 15 ls [])) (z1 : Int32) (z3 : Int32) (y0 : Int32), m_M_facts_42 v_fact k_15 z1 z3 y0 = some (r0, u0) → ∀ (H : Heap) (locs : List Loc), va_P (dC, dI) classes [(h_o, .inr (4, [.ref h_line, .int v_typed, .ref h_fact, .ref h_marked, .int v_count, .ref h_many, .ref h_codes, .int v_oldCount, .ref h_oldMany, .ref h_oldCodes, .int v_read, .ref h_body, .ref h_roundOf, .ref h_fresh, .int v_last])), (h_fact, .inl (k_fact, 32, .inl v_fact))] H → va_D A [(h_o, .inr (4, [.ref h_line, .int v_typed, .ref h_fact, .ref h_marked, .int v_count, .ref h_many, .ref h_codes, .int v_oldCount, .ref h_oldMany, .ref h_oldCodes, .int v_read, .ref h_body, .ref h_roundOf, .ref h_fresh, .int v_last])), (h_fact, .inl (k_fact, 32, .inl v_fact))] → va_S A s.heap H locs → ∀ (ls : Array Slot), lv_has ls 4 [(0, .ref h_o), (1, .int z1), (3, .int z3)] → W p l e (headSpec w_M_facts ({ frames := 0, cells := 0, slots := 0, locals := 0 } : Room)).room s m ([.ref h_o, .int x1] : List Value).toArray below meth c H locs 0 0 Q (F0 m 42 ls [.int y0]) := by
    intro k_15 hk_15 z1 z3 y0 h H locs hP hD hS ls hl
    unfold m_M_facts_42 at h
    refine lv_istore_n (lv' := [(2, .int y0), (0, .ref h_o), (1, .int z1), (3, .int z3)]) hx hb d_M_facts_42 rfl hl (by decide) rfl (fun ls hl => ?_)
    refine lv_iinc (v := z3 + (nI 1)) (lv' := [(3, .int (z3 + (nI 1))), (2, .int y0), (0, .ref h_o), (1, .int z1)]) hx hb d_M_facts_43 hl (k := 3) rfl rfl (by decide) rfl (fun ls hl => ?_)
    refine lv_goto (tgt := 15) hx hb d_M_facts_46 (by decide) ?_
    exact hk_15 z1 y0 (z3 + (nI 1)) h _ _ hP hD hS ls (lv_sub hl [2, 3, 1, 0] rfl)
  have J_15 : ∀ (n : Nat) (z1 : Int32) (z2 : Int32) (z3 : Int32), m_M_facts_15 v_fact n z1 z2 z3 = some (r0, u0) → ∀ (H : Heap) (locs : List Loc), va_P (dC, dI) classes [(h_o, .inr (4, [.ref h_line, .int v_typed, .ref h_fact, .ref h_marked, .int v_count, .ref h_many, .ref h_codes, .int v_oldCount, .ref h_oldMany, .ref h_oldCodes, .int v_read, .ref h_body, .ref h_roundOf, .ref h_fresh, .int v_last])), (h_fact, .inl (k_fact, 32, .inl v_fact))] H → va_D A [(h_o, .inr (4, [.ref h_line, .int v_typed, .ref h_fact, .ref h_marked, .int v_count, .ref h_many, .ref h_codes, .int v_oldCount, .ref h_oldMany, .ref h_oldCodes, .int v_read, .ref h_body, .ref h_roundOf, .ref h_fresh, .int v_last])), (h_fact, .inl (k_fact, 32, .inl v_fact))] → va_S A s.heap H locs → ∀ (ls : Array Slot), lv_has ls 4 [(0, .ref h_o), (1, .int z1), (2, .int z2), (3, .int z3)] → W p l e (headSpec w_M_facts ({ frames := 0, cells := 0, slots := 0, locals := 0 } : Room)).room s m ([.ref h_o, .int x1] : List Value).toArray below meth c H locs 0 0 Q (F0 m 15 ls []) := by
    intro n
    induction n with
    | zero => intro z1 z2 z3 h; exact absurd h (by unfold m_M_facts_15; exact fun h9 => nomatch h9)
    | succ n ih =>
      intro z1 z2 z3 h H locs hP hD hS ls hl
      unfold m_M_facts_15 at h
      refine lv_iload_n hx hb d_M_facts_15 rfl (lv_at hl 3 rfl) ?_
      refine lv_bipush (v := (nI 16)) hx hb d_M_facts_16 (by decide) ?_
      refine lv_icmp_ge (tgt := 49) hx hb d_M_facts_18 (by decide) (fun c_18 => ?_) (fun c_18 => ?_)
      · have h := of_pos h c_18
        refine lv_iload_n hx hb d_M_facts_49 rfl (lv_at hl 2 rfl) ?_
        rw [hQ]
        exact W.iret (v := z2) hx hb hr (fun t ht hW => ⟨⟨z2, (), rfl, Prod.mk.inj (Option.some.inj h), by rw [ht]; exact hP, va_K.moved hW.alike hK, hD⟩, hS.F ht⟩) hS.2.2 d_M_facts_50
      · have h := of_neg h c_18
        refine lv_aload_n hx hb d_M_facts_21 rfl (lv_at hl 0 rfl) ?_
        refine va_get (D := (dC, dI)) (ci := 4) (v := .ref h_fact) (C := R_M) (T := F_M) (N := 15) hx hb hts lay_M hown hK hP 0 rfl rfl 2 (by decide) (hts _ flk_M_13) (fun _ h9 => h9) rfl d_M_facts_22 ?_
        refine lv_bipush (v := (nI 16)) hx hb d_M_facts_25 (by decide) ?_
        refine lv_iload_n hx hb d_M_facts_27 rfl (lv_at hl 1 rfl) ?_
        refine lv_imul hx hb d_M_facts_28 ?_
        refine lv_iload_n hx hb d_M_facts_29 rfl (lv_at hl 3 rfl) ?_
        refine lv_iadd hx hb d_M_facts_30 ?_
        obtain ⟨g_31, h⟩ := of_guard h
        refine va_zald hx hb hK hP 1 0 rfl rfl (inR_in g_31) d_M_facts_31 ?_
        refine lv_if_eq (tgt := 41) hx hb d_M_facts_32 (by decide) (fun c_32 => ?_) (fun c_32 => ?_)
        · have h := of_pos h c_32
          refine lv_iload_n hx hb d_M_facts_41 rfl (lv_at hl 2 rfl) ?_
          exact J_42 (m_M_facts_15 v_fact n) ih z1 z3 z2 h _ _ hP hD hS ls (lv_sub hl [0, 1, 3] rfl)
        · have h := of_neg h c_32
          refine lv_iload_n hx hb d_M_facts_35 rfl (lv_at hl 2 rfl) ?_
          refine lv_iconst (v := (nI 1)) hx hb d_M_facts_36 (by decide) ?_
          refine lv_iadd hx hb d_M_facts_37 ?_
          refine lv_goto (tgt := 42) hx hb d_M_facts_38 (by decide) ?_
          exact J_42 (m_M_facts_15 v_fact n) ih z1 z3 (z2 + (nI 1)) h _ _ hP hD hS ls (lv_sub hl [0, 1, 3] rfl)
  unfold m_M_facts at h
  refine lv_iload_n hx hb d_M_facts_0 rfl (lv_at hl 1 rfl) ?_
  refine lv_if_lt (tgt := 9) hx hb d_M_facts_1 (by decide) (fun c_1 => ?_) (fun c_1 => ?_)
  · have h := of_pos h c_1
    refine lv_iconst (v := (-1 : Int32)) hx hb d_M_facts_9 (by decide) ?_
    rw [hQ]
    exact W.iret (v := (-1 : Int32)) hx hb hr (fun t ht hW => ⟨⟨(-1 : Int32), (), rfl, Prod.mk.inj (Option.some.inj h), by rw [ht]; exact hP, va_K.moved hW.alike hK, hD⟩, hS.F ht⟩) hS.2.2 d_M_facts_10
  · have h := of_neg h c_1
    refine lv_iload_n hx hb d_M_facts_4 rfl (lv_at hl 1 rfl) ?_
    refine lv_iconst (v := (nI 1)) hx hb d_M_facts_5 (by decide) ?_
    refine lv_icmp_le (tgt := 11) hx hb d_M_facts_6 (by decide) (fun c_6 => ?_) (fun c_6 => ?_)
    · have h := of_pos h c_6
      refine lv_iconst (v := (nI 0)) hx hb d_M_facts_11 (by decide) ?_
      refine lv_istore_n (lv' := [(2, .int (nI 0)), (0, .ref h_o), (1, .int x1)]) hx hb d_M_facts_12 rfl hl (by decide) rfl (fun ls hl => ?_)
      refine lv_iconst (v := (nI 0)) hx hb d_M_facts_13 (by decide) ?_
      refine lv_istore_n (lv' := [(3, .int (nI 0)), (2, .int (nI 0)), (0, .ref h_o), (1, .int x1)]) hx hb d_M_facts_14 rfl hl (by decide) rfl (fun ls hl => ?_)
      exact J_15 40 x1 (nI 0) (nI 0) h _ _ hP hD hS ls (lv_sub hl [2, 3, 1, 0] rfl)
    · have h := of_neg h c_6
      refine lv_iconst (v := (-1 : Int32)) hx hb d_M_facts_9 (by decide) ?_
      rw [hQ]
      exact W.iret (v := (-1 : Int32)) hx hb hr (fun t ht hW => ⟨⟨(-1 : Int32), (), rfl, Prod.mk.inj (Option.some.inj h), by rw [ht]; exact hP, va_K.moved hW.alike hK, hD⟩, hS.F ht⟩) hS.2.2 d_M_facts_10
set_option maxHeartbeats 1000000 in
set_option maxRecDepth 100000 in
theorem c_M_holds (l : Launch) (dC : Nat → ClassId) (dI : Nat → Nat → Nat) (h_o h_line h_fact h_marked h_many h_codes h_oldMany h_oldCodes h_body h_roundOf h_fresh : Nat) (k_fact : ClassId) (sz : Nat) (v_typed : Int32) (v_count : Int32) (v_oldCount : Int32) (v_read : Int32) (v_last : Int32) (v_fact : Nat → Int32) (x1 : Int32) (x2 : Int32) (x3 : Int32) (r0 : Int32) (u0 : Unit) (h : m_M_holds v_fact x1 x2 x3 = some (r0, u0)) : Met l y_M_holds w_M_holds ({ frames := 1, cells := 0, slots := 0, locals := 20 } : Room) (va_Pc [.ref h_o, .int x1, .int x2, .int x3] (fun U => U.heap.size = sz ∧ va_P (dC, dI) classes [(h_o, .inr (4, [.ref h_line, .int v_typed, .ref h_fact, .ref h_marked, .int v_count, .ref h_many, .ref h_codes, .int v_oldCount, .ref h_oldMany, .ref h_oldCodes, .int v_read, .ref h_body, .ref h_roundOf, .ref h_fresh, .int v_last])), (h_fact, .inl (k_fact, 32, .inl v_fact))] U.heap ∧ va_K (dC, dI) classes [(k_fact, .boolean)] U ∧ va_D (fun _ => True) [(h_o, .inr (4, [.ref h_line, .int v_typed, .ref h_fact, .ref h_marked, .int v_count, .ref h_many, .ref h_codes, .int v_oldCount, .ref h_oldMany, .ref h_oldCodes, .int v_read, .ref h_body, .ref h_roundOf, .ref h_fresh, .int v_last])), (h_fact, .inl (k_fact, 32, .inl v_fact))])) (va_Qi (fun (r : Int32) (u : Unit) => r = r0 ∧ u = u0) (fun (u : Unit) (t : State) => va_P (dC, dI) classes [(h_o, .inr (4, [.ref h_line, .int v_typed, .ref h_fact, .ref h_marked, .int v_count, .ref h_many, .ref h_codes, .int v_oldCount, .ref h_oldMany, .ref h_oldCodes, .int v_read, .ref h_body, .ref h_roundOf, .ref h_fresh, .int v_last])), (h_fact, .inl (k_fact, 32, .inl v_fact))] t.heap ∧ va_K (dC, dI) classes [(k_fact, .boolean)] t ∧ va_D (va_A [(h_o, .inr (4, [.ref h_line, .int v_typed, .ref h_fact, .ref h_marked, .int v_count, .ref h_many, .ref h_codes, .int v_oldCount, .ref h_oldMany, .ref h_oldCodes, .int v_read, .ref h_body, .ref h_roundOf, .ref h_fresh, .int v_last])), (h_fact, .inl (k_fact, 32, .inl v_fact))] sz) [(h_o, .inr (4, [.ref h_line, .int v_typed, .ref h_fact, .ref h_marked, .int v_count, .ref h_many, .ref h_codes, .int v_oldCount, .ref h_oldMany, .ref h_oldCodes, .int v_read, .ref h_body, .ref h_roundOf, .ref h_fresh, .int v_last])), (h_fact, .inl (k_fact, 32, .inl v_fact))]) (va_A [(h_o, .inr (4, [.ref h_line, .int v_typed, .ref h_fact, .ref h_marked, .int v_count, .ref h_many, .ref h_codes, .int v_oldCount, .ref h_oldMany, .ref h_oldCodes, .int v_read, .ref h_body, .ref h_roundOf, .ref h_fresh, .int v_last])), (h_fact, .inl (k_fact, 32, .inl v_fact))] sz)) 0 0 (va_A [(h_o, .inr (4, [.ref h_line, .int v_typed, .ref h_fact, .ref h_marked, .int v_count, .ref h_many, .ref h_codes, .int v_oldCount, .ref h_oldMany, .ref h_oldCodes, .int v_read, .ref h_body, .ref h_roundOf, .ref h_fresh, .int v_last])), (h_fact, .inl (k_fact, 32, .inl v_fact))] sz) := by
  refine Met.ofW (cc := b_M_holds) (maxL := 4) (ret := (some .boolean)) (by decide) rfl ?_
  intro p e s m args below meth c s₁ B hml hv
  obtain ⟨rfl, hsz, hP, hK, hD0⟩ := hv
  have hx := B.exec
  have hb := B.bytes
  have hr := B.returns
  have hts0 := atoms_spec (ws := w_M_holds) B.pre
  have hts : ∀ w ∈ lw_gd, w.before ([.ref h_o, .int x1, .int x2, .int x3] : List Value).toArray s = true := fun w h9 => hts0 w (List.mem_cons_of_mem _ h9)
  have hown : s.vm.findClass R_M = some m.cls := findClass_of_methodNamed B.named
  have hlocks := B.notSynchronized
  subst hsz
  have hD := hD0.self (sz := s.heap.size)
  generalize hAe : va_A [(h_o, .inr (4, [.ref h_line, .int v_typed, .ref h_fact, .ref h_marked, .int v_count, .ref h_many, .ref h_codes, .int v_oldCount, .ref h_oldMany, .ref h_oldCodes, .int v_read, .ref h_body, .ref h_roundOf, .ref h_fresh, .int v_last])), (h_fact, .inl (k_fact, 32, .inl v_fact))] s.heap.size = A at hD ⊢
  have hA : ∀ q : Nat, s.heap.size ≤ q → A q := fun q h9 => by rw [← hAe]; exact Or.inr h9
  obtain ⟨H, eH⟩ : ∃ H : Heap, H = s.heap := ⟨_, rfl⟩
  have hS : va_S A s.heap H [] := by rw [eH]; exact va_S.rf
  have hP : va_P (dC, dI) classes [(h_o, .inr (4, [.ref h_line, .int v_typed, .ref h_fact, .ref h_marked, .int v_count, .ref h_many, .ref h_codes, .int v_oldCount, .ref h_oldMany, .ref h_oldCodes, .int v_read, .ref h_body, .ref h_roundOf, .ref h_fresh, .int v_last])), (h_fact, .inl (k_fact, 32, .inl v_fact))] H := by rw [eH]; exact hP
  refine W_gen (fun Q hQ => ?_)
  refine W_heap eH ?_
  clear eH
  have hl := lv_entry ([.ref h_o, .int x1, .int x2, .int x3]) (n := 4) (Nat.le_of_ble_eq_true rfl)
  rw [lg_entry_eq]
  generalize (lg_sl ([.ref h_o, .int x1, .int x2, .int x3]) ++ List.replicate (4 - (lg_sl ([.ref h_o, .int x1, .int x2, .int x3])).length) Slot.unset).toArray = ls at hl ⊢
  have hl : lv_has ls 4 [(0, .ref h_o), (1, .int x1), (2, .int x2), (3, .int x3)] := hl
  have J_9 : ∀ (z1 : Int32) (z2 : Int32) (z3 : Int32), m_M_holds_9 v_fact z1 z2 z3 = some (r0, u0) → ∀ (H : Heap) (locs : List Loc), va_P (dC, dI) classes [(h_o, .inr (4, [.ref h_line, .int v_typed, .ref h_fact, .ref h_marked, .int v_count, .ref h_many, .ref h_codes, .int v_oldCount, .ref h_oldMany, .ref h_oldCodes, .int v_read, .ref h_body, .ref h_roundOf, .ref h_fresh, .int v_last])), (h_fact, .inl (k_fact, 32, .inl v_fact))] H → va_D A [(h_o, .inr (4, [.ref h_line, .int v_typed, .ref h_fact, .ref h_marked, .int v_count, .ref h_many, .ref h_codes, .int v_oldCount, .ref h_oldMany, .ref h_oldCodes, .int v_read, .ref h_body, .ref h_roundOf, .ref h_fresh, .int v_last])), (h_fact, .inl (k_fact, 32, .inl v_fact))] → va_S A s.heap H locs → ∀ (ls : Array Slot), lv_has ls 4 [(0, .ref h_o), (1, .int z1), (2, .int z2), (3, .int z3)] → W p l e (headSpec w_M_holds ({ frames := 1, cells := 0, slots := 0, locals := 20 } : Room)).room s m ([.ref h_o, .int x1, .int x2, .int x3] : List Value).toArray below meth c H locs 0 0 Q (F0 m 9 ls []) := by
    intro z1 z2 z3 h H locs hP hD hS ls hl
    unfold m_M_holds_9 at h
    refine lv_iload_n hx hb d_M_holds_9 rfl (lv_at hl 2 rfl) ?_
    have hPc := hP.sub (ws' := []) [] rfl
    have hDc := hD.sub (ws' := []) [] (by decide) rfl
    have hKc := hK.sub (tys' := []) [] rfl
    have hFc := va_free (wc := []) hD hS hA [] rfl
    obtain ⟨v_10, hc_10, h⟩ := of_bind h
    refine va_calli (va_runS (As := [.int z2]) (rest := []) ⟨hx, hb, hml, hown, hts⟩ (c_M_constant l dC dI H.size z2 v_10.1 v_10.2 hc_10) (va_cwS 1 hts (gS mlk_M_106 sta_M_constant ini_M cod_M_constant) rfl rfl rfl (by decide +kernel) ⟨Nat.le_of_ble_eq_true rfl, Nat.le_of_ble_eq_true rfl⟩) ⟨fun a U g mk q => by obtain ⟨q0, q1, qP, qK, qD⟩ := q; exact ⟨q0, q1, qP, va_K.moved (u := U) (U := U.calling g mk a) (Vm.Alike.refl U.vm) qK, qD⟩, fun U hU hW => ⟨rfl, by rw [hU], by rw [hU]; exact hPc, va_K.moved hW.alike hKc, hDc.weaken (fun _ _ _ _ => trivial)⟩⟩ rfl rfl hl.1 rfl (lv_room (Nat.le_of_ble_eq_true rfl)) d_M_holds_10 ⟨Nat.le_of_ble_eq_true rfl, Nat.le_of_ble_eq_true rfl⟩) hS (fun q _ h9 => hFc q h9) hFc (fun r_10 u t H1 locs ht hvm hw hB hz1 hk1 hS => ?_)
    obtain ⟨rfl, rfl⟩ := hw
    obtain ⟨hP1, hK1, hD1⟩ := hB
    rw [ht] at hP1
    obtain ⟨hP, hD⟩ := va_join (wr := [(h_o, .inr (4, [.ref h_line, .int v_typed, .ref h_fact, .ref h_marked, .int v_count, .ref h_many, .ref h_codes, .int v_oldCount, .ref h_oldMany, .ref h_oldCodes, .int v_read, .ref h_body, .ref h_roundOf, .ref h_fresh, .int v_last])), (h_fact, .inl (k_fact, 32, .inl v_fact))]) (w1 := []) hP hD [] [0, 1] rfl rfl (by decide) (by decide) hk1 hFc hP1 hD1
    have hP := hP.sub (ws' := [(h_o, .inr (4, [.ref h_line, .int v_typed, .ref h_fact, .ref h_marked, .int v_count, .ref h_many, .ref h_codes, .int v_oldCount, .ref h_oldMany, .ref h_oldCodes, .int v_read, .ref h_body, .ref h_roundOf, .ref h_fresh, .int v_last])), (h_fact, .inl (k_fact, 32, .inl v_fact))]) [0, 1] rfl
    have hD := hD.sub (ws' := [(h_o, .inr (4, [.ref h_line, .int v_typed, .ref h_fact, .ref h_marked, .int v_count, .ref h_many, .ref h_codes, .int v_oldCount, .ref h_oldMany, .ref h_oldCodes, .int v_read, .ref h_body, .ref h_roundOf, .ref h_fresh, .int v_last])), (h_fact, .inl (k_fact, 32, .inl v_fact))]) [0, 1] (by decide) rfl
    generalize H1 = H at hP hS ⊢
    refine lv_if_eq (tgt := 45) hx hb d_M_holds_13 (by decide) (fun c_13 => ?_) (fun c_13 => ?_)
    · have h := of_pos h c_13
      refine lv_iconst (v := (nI 0)) hx hb d_M_holds_45 (by decide) ?_
      rw [hQ]
      exact W.zret (v := (nI 0)) hx hb hr rfl (fun t ht hW => ⟨⟨(nI 0), (), rfl, Prod.mk.inj (Option.some.inj h), by rw [ht]; exact hP, va_K.moved hW.alike hK, hD⟩, hS.F ht⟩) hS.2.2 d_M_holds_46
    · have h := of_neg h c_13
      refine lv_iload_n hx hb d_M_holds_16 rfl (lv_at hl 3 rfl) ?_
      have hPc := hP.sub (ws' := []) [] rfl
      have hDc := hD.sub (ws' := []) [] (by decide) rfl
      have hKc := hK.sub (tys' := []) [] rfl
      have hFc := va_free (wc := []) hD hS hA [] rfl
      obtain ⟨v_17, hc_17, h⟩ := of_bind h
      refine va_calli (va_runS (As := [.int z3]) (rest := []) ⟨hx, hb, hml, hown, hts⟩ (c_M_constant l dC dI H.size z3 v_17.1 v_17.2 hc_17) (va_cwS 1 hts (gS mlk_M_106 sta_M_constant ini_M cod_M_constant) rfl rfl rfl (by decide +kernel) ⟨Nat.le_of_ble_eq_true rfl, Nat.le_of_ble_eq_true rfl⟩) ⟨fun a U g mk q => by obtain ⟨q0, q1, qP, qK, qD⟩ := q; exact ⟨q0, q1, qP, va_K.moved (u := U) (U := U.calling g mk a) (Vm.Alike.refl U.vm) qK, qD⟩, fun U hU hW => ⟨rfl, by rw [hU], by rw [hU]; exact hPc, va_K.moved hW.alike hKc, hDc.weaken (fun _ _ _ _ => trivial)⟩⟩ rfl rfl hl.1 rfl (lv_room (Nat.le_of_ble_eq_true rfl)) d_M_holds_17 ⟨Nat.le_of_ble_eq_true rfl, Nat.le_of_ble_eq_true rfl⟩) hS (fun q _ h9 => hFc q h9) hFc (fun r_17 u t H1 locs ht hvm hw hB hz1 hk1 hS => ?_)
      obtain ⟨rfl, rfl⟩ := hw
      obtain ⟨hP1, hK1, hD1⟩ := hB
      rw [ht] at hP1
      obtain ⟨hP, hD⟩ := va_join (wr := [(h_o, .inr (4, [.ref h_line, .int v_typed, .ref h_fact, .ref h_marked, .int v_count, .ref h_many, .ref h_codes, .int v_oldCount, .ref h_oldMany, .ref h_oldCodes, .int v_read, .ref h_body, .ref h_roundOf, .ref h_fresh, .int v_last])), (h_fact, .inl (k_fact, 32, .inl v_fact))]) (w1 := []) hP hD [] [0, 1] rfl rfl (by decide) (by decide) hk1 hFc hP1 hD1
      have hP := hP.sub (ws' := [(h_o, .inr (4, [.ref h_line, .int v_typed, .ref h_fact, .ref h_marked, .int v_count, .ref h_many, .ref h_codes, .int v_oldCount, .ref h_oldMany, .ref h_oldCodes, .int v_read, .ref h_body, .ref h_roundOf, .ref h_fresh, .int v_last])), (h_fact, .inl (k_fact, 32, .inl v_fact))]) [0, 1] rfl
      have hD := hD.sub (ws' := [(h_o, .inr (4, [.ref h_line, .int v_typed, .ref h_fact, .ref h_marked, .int v_count, .ref h_many, .ref h_codes, .int v_oldCount, .ref h_oldMany, .ref h_oldCodes, .int v_read, .ref h_body, .ref h_roundOf, .ref h_fresh, .int v_last])), (h_fact, .inl (k_fact, 32, .inl v_fact))]) [0, 1] (by decide) rfl
      generalize H1 = H at hP hS ⊢
      refine lv_if_eq (tgt := 45) hx hb d_M_holds_20 (by decide) (fun c_20 => ?_) (fun c_20 => ?_)
      · have h := of_pos h c_20
        refine lv_iconst (v := (nI 0)) hx hb d_M_holds_45 (by decide) ?_
        rw [hQ]
        exact W.zret (v := (nI 0)) hx hb hr rfl (fun t ht hW => ⟨⟨(nI 0), (), rfl, Prod.mk.inj (Option.some.inj h), by rw [ht]; exact hP, va_K.moved hW.alike hK, hD⟩, hS.F ht⟩) hS.2.2 d_M_holds_46
      · have h := of_neg h c_20
        refine lv_aload_n hx hb d_M_holds_23 rfl (lv_at hl 0 rfl) ?_
        refine va_get (D := (dC, dI)) (ci := 4) (v := .ref h_fact) (C := R_M) (T := F_M) (N := 15) hx hb hts lay_M hown hK hP 0 rfl rfl 2 (by decide) (hts _ flk_M_13) (fun _ h9 => h9) rfl d_M_holds_24 ?_
        refine lv_bipush (v := (nI 16)) hx hb d_M_holds_27 (by decide) ?_
        refine lv_iload_n hx hb d_M_holds_29 rfl (lv_at hl 1 rfl) ?_
        refine lv_imul hx hb d_M_holds_30 ?_
        refine lv_iconst (v := (nI 4)) hx hb d_M_holds_31 (by decide) ?_
        refine lv_iload_n hx hb d_M_holds_32 rfl (lv_at hl 2 rfl) ?_
        refine lv_imul hx hb d_M_holds_33 ?_
        refine lv_iadd hx hb d_M_holds_34 ?_
        refine lv_iload_n hx hb d_M_holds_35 rfl (lv_at hl 3 rfl) ?_
        refine lv_iadd hx hb d_M_holds_36 ?_
        obtain ⟨g_37, h⟩ := of_guard h
        refine va_zald hx hb hK hP 1 0 rfl rfl (inR_in g_37) d_M_holds_37 ?_
        refine lv_if_eq (tgt := 45) hx hb d_M_holds_38 (by decide) (fun c_38 => ?_) (fun c_38 => ?_)
        · have h := of_pos h c_38
          refine lv_iconst (v := (nI 0)) hx hb d_M_holds_45 (by decide) ?_
          rw [hQ]
          exact W.zret (v := (nI 0)) hx hb hr rfl (fun t ht hW => ⟨⟨(nI 0), (), rfl, Prod.mk.inj (Option.some.inj h), by rw [ht]; exact hP, va_K.moved hW.alike hK, hD⟩, hS.F ht⟩) hS.2.2 d_M_holds_46
        · have h := of_neg h c_38
          refine lv_iconst (v := (nI 1)) hx hb d_M_holds_41 (by decide) ?_
          refine lv_goto (tgt := 46) hx hb d_M_holds_42 (by decide) ?_
          rw [hQ]
          exact W.zret (v := (nI 1)) hx hb hr rfl (fun t ht hW => ⟨⟨(nI 1), (), rfl, Prod.mk.inj (Option.some.inj h), by rw [ht]; exact hP, va_K.moved hW.alike hK, hD⟩, hS.F ht⟩) hS.2.2 d_M_holds_46
  unfold m_M_holds at h
  refine lv_iload_n hx hb d_M_holds_0 rfl (lv_at hl 1 rfl) ?_
  refine lv_if_eq (tgt := 9) hx hb d_M_holds_1 (by decide) (fun c_1 => ?_) (fun c_1 => ?_)
  · have h := of_pos h c_1
    exact J_9 x1 x2 x3 h _ _ hP hD hS ls (lv_sub hl [0, 1, 2, 3] rfl)
  · have h := of_neg h c_1
    refine lv_iload_n hx hb d_M_holds_4 rfl (lv_at hl 1 rfl) ?_
    refine lv_iconst (v := (nI 1)) hx hb d_M_holds_5 (by decide) ?_
    refine lv_icmp_ne (tgt := 45) hx hb d_M_holds_6 (by decide) (fun c_6 => ?_) (fun c_6 => ?_)
    · have h := of_neg h c_6
      refine lv_iconst (v := (nI 0)) hx hb d_M_holds_45 (by decide) ?_
      rw [hQ]
      exact W.zret (v := (nI 0)) hx hb hr rfl (fun t ht hW => ⟨⟨(nI 0), (), rfl, Prod.mk.inj (Option.some.inj h), by rw [ht]; exact hP, va_K.moved hW.alike hK, hD⟩, hS.F ht⟩) hS.2.2 d_M_holds_46
    · have h := of_pos h c_6
      exact J_9 x1 x2 x3 h _ _ hP hD hS ls (lv_sub hl [0, 1, 2, 3] rfl)
set_option maxHeartbeats 1000000 in
set_option maxRecDepth 100000 in
theorem c_M_mark (l : Launch) (dC : Nat → ClassId) (dI : Nat → Nat → Nat) (h_o h_line h_fact h_marked h_many h_codes h_oldMany h_oldCodes h_body h_roundOf h_fresh : Nat) (k_marked : ClassId) (sz : Nat) (v_typed : Int32) (v_count : Int32) (v_oldCount : Int32) (v_read : Int32) (v_last : Int32) (v_marked : Nat → Int32) (x1 : Int32) (x2 : Int32) (r0 : Int32) (u0 : Unit) (h : m_M_mark v_marked x1 x2 = some (r0, u0)) : Met l y_M_mark w_M_mark ({ frames := 1, cells := 0, slots := 0, locals := 20 } : Room) (va_Pc [.ref h_o, .int x1, .int x2] (fun U => U.heap.size = sz ∧ va_P (dC, dI) classes [(h_o, .inr (4, [.ref h_line, .int v_typed, .ref h_fact, .ref h_marked, .int v_count, .ref h_many, .ref h_codes, .int v_oldCount, .ref h_oldMany, .ref h_oldCodes, .int v_read, .ref h_body, .ref h_roundOf, .ref h_fresh, .int v_last])), (h_marked, .inl (k_marked, 16, .inl v_marked))] U.heap ∧ va_K (dC, dI) classes [(k_marked, .int)] U ∧ va_D (fun _ => True) [(h_o, .inr (4, [.ref h_line, .int v_typed, .ref h_fact, .ref h_marked, .int v_count, .ref h_many, .ref h_codes, .int v_oldCount, .ref h_oldMany, .ref h_oldCodes, .int v_read, .ref h_body, .ref h_roundOf, .ref h_fresh, .int v_last])), (h_marked, .inl (k_marked, 16, .inl v_marked))])) (va_Qi (fun (r : Int32) (u : Unit) => r = r0 ∧ u = u0) (fun (u : Unit) (t : State) => va_P (dC, dI) classes [(h_o, .inr (4, [.ref h_line, .int v_typed, .ref h_fact, .ref h_marked, .int v_count, .ref h_many, .ref h_codes, .int v_oldCount, .ref h_oldMany, .ref h_oldCodes, .int v_read, .ref h_body, .ref h_roundOf, .ref h_fresh, .int v_last])), (h_marked, .inl (k_marked, 16, .inl v_marked))] t.heap ∧ va_K (dC, dI) classes [(k_marked, .int)] t ∧ va_D (va_A [(h_o, .inr (4, [.ref h_line, .int v_typed, .ref h_fact, .ref h_marked, .int v_count, .ref h_many, .ref h_codes, .int v_oldCount, .ref h_oldMany, .ref h_oldCodes, .int v_read, .ref h_body, .ref h_roundOf, .ref h_fresh, .int v_last])), (h_marked, .inl (k_marked, 16, .inl v_marked))] sz) [(h_o, .inr (4, [.ref h_line, .int v_typed, .ref h_fact, .ref h_marked, .int v_count, .ref h_many, .ref h_codes, .int v_oldCount, .ref h_oldMany, .ref h_oldCodes, .int v_read, .ref h_body, .ref h_roundOf, .ref h_fresh, .int v_last])), (h_marked, .inl (k_marked, 16, .inl v_marked))]) (va_A [(h_o, .inr (4, [.ref h_line, .int v_typed, .ref h_fact, .ref h_marked, .int v_count, .ref h_many, .ref h_codes, .int v_oldCount, .ref h_oldMany, .ref h_oldCodes, .int v_read, .ref h_body, .ref h_roundOf, .ref h_fresh, .int v_last])), (h_marked, .inl (k_marked, 16, .inl v_marked))] sz)) 0 0 (va_A [(h_o, .inr (4, [.ref h_line, .int v_typed, .ref h_fact, .ref h_marked, .int v_count, .ref h_many, .ref h_codes, .int v_oldCount, .ref h_oldMany, .ref h_oldCodes, .int v_read, .ref h_body, .ref h_roundOf, .ref h_fresh, .int v_last])), (h_marked, .inl (k_marked, 16, .inl v_marked))] sz) := by
  refine Met.ofW (cc := b_M_mark) (maxL := 3) (ret := (some .int)) (by decide) rfl ?_
  intro p e s m args below meth c s₁ B hml hv
  obtain ⟨rfl, hsz, hP, hK, hD0⟩ := hv
  have hx := B.exec
  have hb := B.bytes
  have hr := B.returns
  have hts0 := atoms_spec (ws := w_M_mark) B.pre
  have hts : ∀ w ∈ lw_gd, w.before ([.ref h_o, .int x1, .int x2] : List Value).toArray s = true := fun w h9 => hts0 w (List.mem_cons_of_mem _ h9)
  have hown : s.vm.findClass R_M = some m.cls := findClass_of_methodNamed B.named
  have hlocks := B.notSynchronized
  subst hsz
  have hD := hD0.self (sz := s.heap.size)
  generalize hAe : va_A [(h_o, .inr (4, [.ref h_line, .int v_typed, .ref h_fact, .ref h_marked, .int v_count, .ref h_many, .ref h_codes, .int v_oldCount, .ref h_oldMany, .ref h_oldCodes, .int v_read, .ref h_body, .ref h_roundOf, .ref h_fresh, .int v_last])), (h_marked, .inl (k_marked, 16, .inl v_marked))] s.heap.size = A at hD ⊢
  have hA : ∀ q : Nat, s.heap.size ≤ q → A q := fun q h9 => by rw [← hAe]; exact Or.inr h9
  obtain ⟨H, eH⟩ : ∃ H : Heap, H = s.heap := ⟨_, rfl⟩
  have hS : va_S A s.heap H [] := by rw [eH]; exact va_S.rf
  have hP : va_P (dC, dI) classes [(h_o, .inr (4, [.ref h_line, .int v_typed, .ref h_fact, .ref h_marked, .int v_count, .ref h_many, .ref h_codes, .int v_oldCount, .ref h_oldMany, .ref h_oldCodes, .int v_read, .ref h_body, .ref h_roundOf, .ref h_fresh, .int v_last])), (h_marked, .inl (k_marked, 16, .inl v_marked))] H := by rw [eH]; exact hP
  refine W_gen (fun Q hQ => ?_)
  refine W_heap eH ?_
  clear eH
  have hl := lv_entry ([.ref h_o, .int x1, .int x2]) (n := 3) (Nat.le_of_ble_eq_true rfl)
  rw [lg_entry_eq]
  generalize (lg_sl ([.ref h_o, .int x1, .int x2]) ++ List.replicate (3 - (lg_sl ([.ref h_o, .int x1, .int x2])).length) Slot.unset).toArray = ls at hl ⊢
  have hl : lv_has ls 3 [(0, .ref h_o), (1, .int x1), (2, .int x2)] := hl
  unfold m_M_mark at h
  refine lv_iload_n hx hb d_M_mark_0 rfl (lv_at hl 1 rfl) ?_
  have hPc := hP.sub (ws' := []) [] rfl
  have hDc := hD.sub (ws' := []) [] (by decide) rfl
  have hKc := hK.sub (tys' := []) [] rfl
  have hFc := va_free (wc := []) hD hS hA [] rfl
  obtain ⟨v_1, hc_1, h⟩ := of_bind h
  refine va_calli (va_runS (As := [.int x1]) (rest := []) ⟨hx, hb, hml, hown, hts⟩ (c_M_constant l dC dI H.size x1 v_1.1 v_1.2 hc_1) (va_cwS 1 hts (gS mlk_M_106 sta_M_constant ini_M cod_M_constant) rfl rfl rfl (by decide +kernel) ⟨Nat.le_of_ble_eq_true rfl, Nat.le_of_ble_eq_true rfl⟩) ⟨fun a U g mk q => by obtain ⟨q0, q1, qP, qK, qD⟩ := q; exact ⟨q0, q1, qP, va_K.moved (u := U) (U := U.calling g mk a) (Vm.Alike.refl U.vm) qK, qD⟩, fun U hU hW => ⟨rfl, by rw [hU], by rw [hU]; exact hPc, va_K.moved hW.alike hKc, hDc.weaken (fun _ _ _ _ => trivial)⟩⟩ rfl rfl hl.1 rfl (lv_room (Nat.le_of_ble_eq_true rfl)) d_M_mark_1 ⟨Nat.le_of_ble_eq_true rfl, Nat.le_of_ble_eq_true rfl⟩) hS (fun q _ h9 => hFc q h9) hFc (fun r_1 u t H1 locs ht hvm hw hB hz1 hk1 hS => ?_)
  obtain ⟨rfl, rfl⟩ := hw
  obtain ⟨hP1, hK1, hD1⟩ := hB
  rw [ht] at hP1
  obtain ⟨hP, hD⟩ := va_join (wr := [(h_o, .inr (4, [.ref h_line, .int v_typed, .ref h_fact, .ref h_marked, .int v_count, .ref h_many, .ref h_codes, .int v_oldCount, .ref h_oldMany, .ref h_oldCodes, .int v_read, .ref h_body, .ref h_roundOf, .ref h_fresh, .int v_last])), (h_marked, .inl (k_marked, 16, .inl v_marked))]) (w1 := []) hP hD [] [0, 1] rfl rfl (by decide) (by decide) hk1 hFc hP1 hD1
  have hP := hP.sub (ws' := [(h_o, .inr (4, [.ref h_line, .int v_typed, .ref h_fact, .ref h_marked, .int v_count, .ref h_many, .ref h_codes, .int v_oldCount, .ref h_oldMany, .ref h_oldCodes, .int v_read, .ref h_body, .ref h_roundOf, .ref h_fresh, .int v_last])), (h_marked, .inl (k_marked, 16, .inl v_marked))]) [0, 1] rfl
  have hD := hD.sub (ws' := [(h_o, .inr (4, [.ref h_line, .int v_typed, .ref h_fact, .ref h_marked, .int v_count, .ref h_many, .ref h_codes, .int v_oldCount, .ref h_oldMany, .ref h_oldCodes, .int v_read, .ref h_body, .ref h_roundOf, .ref h_fresh, .int v_last])), (h_marked, .inl (k_marked, 16, .inl v_marked))]) [0, 1] (by decide) rfl
  generalize H1 = H at hP hS ⊢
  refine lv_if_eq (tgt := 27) hx hb d_M_mark_4 (by decide) (fun c_4 => ?_) (fun c_4 => ?_)
  · have h := of_pos h c_4
    refine lv_iconst (v := (nI 0)) hx hb d_M_mark_27 (by decide) ?_
    rw [hQ]
    exact W.iret (v := (nI 0)) hx hb hr (fun t ht hW => ⟨⟨(nI 0), (), rfl, Prod.mk.inj (Option.some.inj h), by rw [ht]; exact hP, va_K.moved hW.alike hK, hD⟩, hS.F ht⟩) hS.2.2 d_M_mark_28
  · have h := of_neg h c_4
    refine lv_iload_n hx hb d_M_mark_7 rfl (lv_at hl 2 rfl) ?_
    have hPc := hP.sub (ws' := []) [] rfl
    have hDc := hD.sub (ws' := []) [] (by decide) rfl
    have hKc := hK.sub (tys' := []) [] rfl
    have hFc := va_free (wc := []) hD hS hA [] rfl
    obtain ⟨v_8, hc_8, h⟩ := of_bind h
    refine va_calli (va_runS (As := [.int x2]) (rest := []) ⟨hx, hb, hml, hown, hts⟩ (c_M_constant l dC dI H.size x2 v_8.1 v_8.2 hc_8) (va_cwS 1 hts (gS mlk_M_106 sta_M_constant ini_M cod_M_constant) rfl rfl rfl (by decide +kernel) ⟨Nat.le_of_ble_eq_true rfl, Nat.le_of_ble_eq_true rfl⟩) ⟨fun a U g mk q => by obtain ⟨q0, q1, qP, qK, qD⟩ := q; exact ⟨q0, q1, qP, va_K.moved (u := U) (U := U.calling g mk a) (Vm.Alike.refl U.vm) qK, qD⟩, fun U hU hW => ⟨rfl, by rw [hU], by rw [hU]; exact hPc, va_K.moved hW.alike hKc, hDc.weaken (fun _ _ _ _ => trivial)⟩⟩ rfl rfl hl.1 rfl (lv_room (Nat.le_of_ble_eq_true rfl)) d_M_mark_8 ⟨Nat.le_of_ble_eq_true rfl, Nat.le_of_ble_eq_true rfl⟩) hS (fun q _ h9 => hFc q h9) hFc (fun r_8 u t H1 locs ht hvm hw hB hz1 hk1 hS => ?_)
    obtain ⟨rfl, rfl⟩ := hw
    obtain ⟨hP1, hK1, hD1⟩ := hB
    rw [ht] at hP1
    obtain ⟨hP, hD⟩ := va_join (wr := [(h_o, .inr (4, [.ref h_line, .int v_typed, .ref h_fact, .ref h_marked, .int v_count, .ref h_many, .ref h_codes, .int v_oldCount, .ref h_oldMany, .ref h_oldCodes, .int v_read, .ref h_body, .ref h_roundOf, .ref h_fresh, .int v_last])), (h_marked, .inl (k_marked, 16, .inl v_marked))]) (w1 := []) hP hD [] [0, 1] rfl rfl (by decide) (by decide) hk1 hFc hP1 hD1
    have hP := hP.sub (ws' := [(h_o, .inr (4, [.ref h_line, .int v_typed, .ref h_fact, .ref h_marked, .int v_count, .ref h_many, .ref h_codes, .int v_oldCount, .ref h_oldMany, .ref h_oldCodes, .int v_read, .ref h_body, .ref h_roundOf, .ref h_fresh, .int v_last])), (h_marked, .inl (k_marked, 16, .inl v_marked))]) [0, 1] rfl
    have hD := hD.sub (ws' := [(h_o, .inr (4, [.ref h_line, .int v_typed, .ref h_fact, .ref h_marked, .int v_count, .ref h_many, .ref h_codes, .int v_oldCount, .ref h_oldMany, .ref h_oldCodes, .int v_read, .ref h_body, .ref h_roundOf, .ref h_fresh, .int v_last])), (h_marked, .inl (k_marked, 16, .inl v_marked))]) [0, 1] (by decide) rfl
    generalize H1 = H at hP hS ⊢
    refine lv_if_eq (tgt := 27) hx hb d_M_mark_11 (by decide) (fun c_11 => ?_) (fun c_11 => ?_)
    · have h := of_pos h c_11
      refine lv_iconst (v := (nI 0)) hx hb d_M_mark_27 (by decide) ?_
      rw [hQ]
      exact W.iret (v := (nI 0)) hx hb hr (fun t ht hW => ⟨⟨(nI 0), (), rfl, Prod.mk.inj (Option.some.inj h), by rw [ht]; exact hP, va_K.moved hW.alike hK, hD⟩, hS.F ht⟩) hS.2.2 d_M_mark_28
    · have h := of_neg h c_11
      refine lv_aload_n hx hb d_M_mark_14 rfl (lv_at hl 0 rfl) ?_
      refine va_get (D := (dC, dI)) (ci := 4) (v := .ref h_marked) (C := R_M) (T := F_M) (N := 15) hx hb hts lay_M hown hK hP 0 rfl rfl 3 (by decide) (hts _ flk_M_17) (fun _ h9 => h9) rfl d_M_mark_15 ?_
      refine lv_iconst (v := (nI 4)) hx hb d_M_mark_18 (by decide) ?_
      refine lv_iload_n hx hb d_M_mark_19 rfl (lv_at hl 1 rfl) ?_
      refine lv_imul hx hb d_M_mark_20 ?_
      refine lv_iload_n hx hb d_M_mark_21 rfl (lv_at hl 2 rfl) ?_
      refine lv_iadd hx hb d_M_mark_22 ?_
      obtain ⟨g_23, h⟩ := of_guard h
      refine va_iald hx hb hK hP 1 0 rfl rfl (inR_in g_23) d_M_mark_23 ?_
      refine lv_goto (tgt := 28) hx hb d_M_mark_24 (by decide) ?_
      rw [hQ]
      exact W.iret (v := v_marked (((nI 4) * x1) + x2).toNatClampNeg) hx hb hr (fun t ht hW => ⟨⟨v_marked (((nI 4) * x1) + x2).toNatClampNeg, (), rfl, Prod.mk.inj (Option.some.inj h), by rw [ht]; exact hP, va_K.moved hW.alike hK, hD⟩, hS.F ht⟩) hS.2.2 d_M_mark_28
set_option maxHeartbeats 1000000 in
set_option maxRecDepth 100000 in
theorem c_M_clause (l : Launch) (dC : Nat → ClassId) (dI : Nat → Nat → Nat) (h_o h_line h_fact h_marked h_many h_codes h_oldMany h_oldCodes h_body h_roundOf h_fresh : Nat) (sz : Nat) (v_typed : Int32) (v_count : Int32) (v_oldCount : Int32) (v_read : Int32) (v_last : Int32) (x1 : Int32) (r0 : Int32) (u0 : Unit) (h : m_M_clause v_count x1 = some (r0, u0)) : Met l y_M_clause w_M_clause ({ frames := 0, cells := 0, slots := 0, locals := 0 } : Room) (va_Pc [.ref h_o, .int x1] (fun U => U.heap.size = sz ∧ va_P (dC, dI) classes [(h_o, .inr (4, [.ref h_line, .int v_typed, .ref h_fact, .ref h_marked, .int v_count, .ref h_many, .ref h_codes, .int v_oldCount, .ref h_oldMany, .ref h_oldCodes, .int v_read, .ref h_body, .ref h_roundOf, .ref h_fresh, .int v_last]))] U.heap ∧ va_K (dC, dI) classes [] U ∧ va_D (fun _ => True) [(h_o, .inr (4, [.ref h_line, .int v_typed, .ref h_fact, .ref h_marked, .int v_count, .ref h_many, .ref h_codes, .int v_oldCount, .ref h_oldMany, .ref h_oldCodes, .int v_read, .ref h_body, .ref h_roundOf, .ref h_fresh, .int v_last]))])) (va_Qi (fun (r : Int32) (u : Unit) => r = r0 ∧ u = u0) (fun (u : Unit) (t : State) => va_P (dC, dI) classes [(h_o, .inr (4, [.ref h_line, .int v_typed, .ref h_fact, .ref h_marked, .int v_count, .ref h_many, .ref h_codes, .int v_oldCount, .ref h_oldMany, .ref h_oldCodes, .int v_read, .ref h_body, .ref h_roundOf, .ref h_fresh, .int v_last]))] t.heap ∧ va_K (dC, dI) classes [] t ∧ va_D (va_A [(h_o, .inr (4, [.ref h_line, .int v_typed, .ref h_fact, .ref h_marked, .int v_count, .ref h_many, .ref h_codes, .int v_oldCount, .ref h_oldMany, .ref h_oldCodes, .int v_read, .ref h_body, .ref h_roundOf, .ref h_fresh, .int v_last]))] sz) [(h_o, .inr (4, [.ref h_line, .int v_typed, .ref h_fact, .ref h_marked, .int v_count, .ref h_many, .ref h_codes, .int v_oldCount, .ref h_oldMany, .ref h_oldCodes, .int v_read, .ref h_body, .ref h_roundOf, .ref h_fresh, .int v_last]))]) (va_A [(h_o, .inr (4, [.ref h_line, .int v_typed, .ref h_fact, .ref h_marked, .int v_count, .ref h_many, .ref h_codes, .int v_oldCount, .ref h_oldMany, .ref h_oldCodes, .int v_read, .ref h_body, .ref h_roundOf, .ref h_fresh, .int v_last]))] sz)) 0 0 (va_A [(h_o, .inr (4, [.ref h_line, .int v_typed, .ref h_fact, .ref h_marked, .int v_count, .ref h_many, .ref h_codes, .int v_oldCount, .ref h_oldMany, .ref h_oldCodes, .int v_read, .ref h_body, .ref h_roundOf, .ref h_fresh, .int v_last]))] sz) := by
  refine Met.ofW (cc := b_M_clause) (maxL := 2) (ret := (some .boolean)) (by decide) rfl ?_
  intro p e s m args below meth c s₁ B hml hv
  obtain ⟨rfl, hsz, hP, hK, hD0⟩ := hv
  have hx := B.exec
  have hb := B.bytes
  have hr := B.returns
  have hts0 := atoms_spec (ws := w_M_clause) B.pre
  have hts : ∀ w ∈ lw_gd, w.before ([.ref h_o, .int x1] : List Value).toArray s = true := fun w h9 => hts0 w (List.mem_cons_of_mem _ h9)
  have hown : s.vm.findClass R_M = some m.cls := findClass_of_methodNamed B.named
  have hlocks := B.notSynchronized
  subst hsz
  have hD := hD0.self (sz := s.heap.size)
  generalize hAe : va_A [(h_o, .inr (4, [.ref h_line, .int v_typed, .ref h_fact, .ref h_marked, .int v_count, .ref h_many, .ref h_codes, .int v_oldCount, .ref h_oldMany, .ref h_oldCodes, .int v_read, .ref h_body, .ref h_roundOf, .ref h_fresh, .int v_last]))] s.heap.size = A at hD ⊢
  have hA : ∀ q : Nat, s.heap.size ≤ q → A q := fun q h9 => by rw [← hAe]; exact Or.inr h9
  obtain ⟨H, eH⟩ : ∃ H : Heap, H = s.heap := ⟨_, rfl⟩
  have hS : va_S A s.heap H [] := by rw [eH]; exact va_S.rf
  have hP : va_P (dC, dI) classes [(h_o, .inr (4, [.ref h_line, .int v_typed, .ref h_fact, .ref h_marked, .int v_count, .ref h_many, .ref h_codes, .int v_oldCount, .ref h_oldMany, .ref h_oldCodes, .int v_read, .ref h_body, .ref h_roundOf, .ref h_fresh, .int v_last]))] H := by rw [eH]; exact hP
  refine W_gen (fun Q hQ => ?_)
  refine W_heap eH ?_
  clear eH
  have hl := lv_entry ([.ref h_o, .int x1]) (n := 2) (Nat.le_of_ble_eq_true rfl)
  rw [lg_entry_eq]
  generalize (lg_sl ([.ref h_o, .int x1]) ++ List.replicate (2 - (lg_sl ([.ref h_o, .int x1])).length) Slot.unset).toArray = ls at hl ⊢
  have hl : lv_has ls 2 [(0, .ref h_o), (1, .int x1)] := hl
  unfold m_M_clause at h
  refine lv_iload_n hx hb d_M_clause_0 rfl (lv_at hl 1 rfl) ?_
  refine lv_if_lt (tgt := 16) hx hb d_M_clause_1 (by decide) (fun c_1 => ?_) (fun c_1 => ?_)
  · have h := of_pos h c_1
    refine lv_iconst (v := (nI 0)) hx hb d_M_clause_16 (by decide) ?_
    rw [hQ]
    exact W.zret (v := (nI 0)) hx hb hr rfl (fun t ht hW => ⟨⟨(nI 0), (), rfl, Prod.mk.inj (Option.some.inj h), by rw [ht]; exact hP, va_K.moved hW.alike hK, hD⟩, hS.F ht⟩) hS.2.2 d_M_clause_17
  · have h := of_neg h c_1
    refine lv_iload_n hx hb d_M_clause_4 rfl (lv_at hl 1 rfl) ?_
    refine lv_aload_n hx hb d_M_clause_5 rfl (lv_at hl 0 rfl) ?_
    refine va_get (D := (dC, dI)) (ci := 4) (v := .int v_count) (C := R_M) (T := F_M) (N := 15) hx hb hts lay_M hown hK hP 0 rfl rfl 4 (by decide) (hts _ flk_M_85) (fun _ h9 => h9) rfl d_M_clause_6 ?_
    refine lv_icmp_ge (tgt := 16) hx hb d_M_clause_9 (by decide) (fun c_9 => ?_) (fun c_9 => ?_)
    · have h := of_pos h c_9
      refine lv_iconst (v := (nI 0)) hx hb d_M_clause_16 (by decide) ?_
      rw [hQ]
      exact W.zret (v := (nI 0)) hx hb hr rfl (fun t ht hW => ⟨⟨(nI 0), (), rfl, Prod.mk.inj (Option.some.inj h), by rw [ht]; exact hP, va_K.moved hW.alike hK, hD⟩, hS.F ht⟩) hS.2.2 d_M_clause_17
    · have h := of_neg h c_9
      refine lv_iconst (v := (nI 1)) hx hb d_M_clause_12 (by decide) ?_
      refine lv_goto (tgt := 17) hx hb d_M_clause_13 (by decide) ?_
      rw [hQ]
      exact W.zret (v := (nI 1)) hx hb hr rfl (fun t ht hW => ⟨⟨(nI 1), (), rfl, Prod.mk.inj (Option.some.inj h), by rw [ht]; exact hP, va_K.moved hW.alike hK, hD⟩, hS.F ht⟩) hS.2.2 d_M_clause_17
set_option maxHeartbeats 1000000 in
set_option maxRecDepth 100000 in
theorem c_M_drop (l : Launch) (dC : Nat → ClassId) (dI : Nat → Nat → Nat) (h_o h_line h_fact h_marked h_many h_codes h_oldMany h_oldCodes h_body h_roundOf h_fresh : Nat) (k_many k_codes : ClassId) (sz : Nat) (v_typed : Int32) (v_count : Int32) (v_oldCount : Int32) (v_read : Int32) (v_last : Int32) (v_many : Nat → Int32) (v_codes : Nat → Int32) (x1 : Int32) (r0 : Int32) (u0 : Int32 × (Nat → Int32) × (Nat → Int32)) (h : m_M_drop v_count v_many v_codes x1 = some (r0, u0)) : Met l y_M_drop w_M_drop ({ frames := 1, cells := 0, slots := 0, locals := 21 } : Room) (va_Pc [.ref h_o, .int x1] (fun U => U.heap.size = sz ∧ va_P (dC, dI) classes [(h_o, .inr (4, [.ref h_line, .int v_typed, .ref h_fact, .ref h_marked, .int v_count, .ref h_many, .ref h_codes, .int v_oldCount, .ref h_oldMany, .ref h_oldCodes, .int v_read, .ref h_body, .ref h_roundOf, .ref h_fresh, .int v_last])), (h_many, .inl (k_many, 2, .inl v_many)), (h_codes, .inl (k_codes, 6, .inl v_codes))] U.heap ∧ va_K (dC, dI) classes [(k_many, .int), (k_codes, .int)] U ∧ va_D (fun _ => True) [(h_o, .inr (4, [.ref h_line, .int v_typed, .ref h_fact, .ref h_marked, .int v_count, .ref h_many, .ref h_codes, .int v_oldCount, .ref h_oldMany, .ref h_oldCodes, .int v_read, .ref h_body, .ref h_roundOf, .ref h_fresh, .int v_last])), (h_many, .inl (k_many, 2, .inl v_many)), (h_codes, .inl (k_codes, 6, .inl v_codes))])) (va_Qi (fun (r : Int32) (u : Int32 × (Nat → Int32) × (Nat → Int32)) => r = r0 ∧ u = u0) (fun (u : Int32 × (Nat → Int32) × (Nat → Int32)) (t : State) => va_P (dC, dI) classes [(h_o, .inr (4, [.ref h_line, .int v_typed, .ref h_fact, .ref h_marked, .int u.1, .ref h_many, .ref h_codes, .int v_oldCount, .ref h_oldMany, .ref h_oldCodes, .int v_read, .ref h_body, .ref h_roundOf, .ref h_fresh, .int v_last])), (h_many, .inl (k_many, 2, .inl u.2.1)), (h_codes, .inl (k_codes, 6, .inl u.2.2))] t.heap ∧ va_K (dC, dI) classes [(k_many, .int), (k_codes, .int)] t ∧ va_D (va_A [(h_o, .inr (4, [.ref h_line, .int v_typed, .ref h_fact, .ref h_marked, .int v_count, .ref h_many, .ref h_codes, .int v_oldCount, .ref h_oldMany, .ref h_oldCodes, .int v_read, .ref h_body, .ref h_roundOf, .ref h_fresh, .int v_last])), (h_many, .inl (k_many, 2, .inl v_many)), (h_codes, .inl (k_codes, 6, .inl v_codes))] sz) [(h_o, .inr (4, [.ref h_line, .int v_typed, .ref h_fact, .ref h_marked, .int u.1, .ref h_many, .ref h_codes, .int v_oldCount, .ref h_oldMany, .ref h_oldCodes, .int v_read, .ref h_body, .ref h_roundOf, .ref h_fresh, .int v_last])), (h_many, .inl (k_many, 2, .inl u.2.1)), (h_codes, .inl (k_codes, 6, .inl u.2.2))]) (va_A [(h_o, .inr (4, [.ref h_line, .int v_typed, .ref h_fact, .ref h_marked, .int v_count, .ref h_many, .ref h_codes, .int v_oldCount, .ref h_oldMany, .ref h_oldCodes, .int v_read, .ref h_body, .ref h_roundOf, .ref h_fresh, .int v_last])), (h_many, .inl (k_many, 2, .inl v_many)), (h_codes, .inl (k_codes, 6, .inl v_codes))] sz)) 0 0 (va_A [(h_o, .inr (4, [.ref h_line, .int v_typed, .ref h_fact, .ref h_marked, .int v_count, .ref h_many, .ref h_codes, .int v_oldCount, .ref h_oldMany, .ref h_oldCodes, .int v_read, .ref h_body, .ref h_roundOf, .ref h_fresh, .int v_last])), (h_many, .inl (k_many, 2, .inl v_many)), (h_codes, .inl (k_codes, 6, .inl v_codes))] sz) := by
  refine Met.ofW (cc := b_M_drop) (maxL := 3) (ret := (some .boolean)) (by decide) rfl ?_
  intro p e s m args below meth c s₁ B hml hv
  obtain ⟨rfl, hsz, hP, hK, hD0⟩ := hv
  have hx := B.exec
  have hb := B.bytes
  have hr := B.returns
  have hts0 := atoms_spec (ws := w_M_drop) B.pre
  have hts : ∀ w ∈ lw_gd, w.before ([.ref h_o, .int x1] : List Value).toArray s = true := fun w h9 => hts0 w (List.mem_cons_of_mem _ h9)
  have hown : s.vm.findClass R_M = some m.cls := findClass_of_methodNamed B.named
  have hlocks := B.notSynchronized
  subst hsz
  have hD := hD0.self (sz := s.heap.size)
  generalize hAe : va_A [(h_o, .inr (4, [.ref h_line, .int v_typed, .ref h_fact, .ref h_marked, .int v_count, .ref h_many, .ref h_codes, .int v_oldCount, .ref h_oldMany, .ref h_oldCodes, .int v_read, .ref h_body, .ref h_roundOf, .ref h_fresh, .int v_last])), (h_many, .inl (k_many, 2, .inl v_many)), (h_codes, .inl (k_codes, 6, .inl v_codes))] s.heap.size = A at hD ⊢
  have hA : ∀ q : Nat, s.heap.size ≤ q → A q := fun q h9 => by rw [← hAe]; exact Or.inr h9
  obtain ⟨H, eH⟩ : ∃ H : Heap, H = s.heap := ⟨_, rfl⟩
  have hS : va_S A s.heap H [] := by rw [eH]; exact va_S.rf
  have hP : va_P (dC, dI) classes [(h_o, .inr (4, [.ref h_line, .int v_typed, .ref h_fact, .ref h_marked, .int v_count, .ref h_many, .ref h_codes, .int v_oldCount, .ref h_oldMany, .ref h_oldCodes, .int v_read, .ref h_body, .ref h_roundOf, .ref h_fresh, .int v_last])), (h_many, .inl (k_many, 2, .inl v_many)), (h_codes, .inl (k_codes, 6, .inl v_codes))] H := by rw [eH]; exact hP
  refine W_gen (fun Q hQ => ?_)
  refine W_heap eH ?_
  clear eH
  have hl := lv_entry ([.ref h_o, .int x1]) (n := 3) (Nat.le_of_ble_eq_true rfl)
  rw [lg_entry_eq]
  generalize (lg_sl ([.ref h_o, .int x1]) ++ List.replicate (3 - (lg_sl ([.ref h_o, .int x1])).length) Slot.unset).toArray = ls at hl ⊢
  have hl : lv_has ls 3 [(0, .ref h_o), (1, .int x1)] := hl
  have J_53 : ∀ (v_count : Int32) (v_many : Nat → Int32) (v_codes : Nat → Int32), m_M_drop_53 v_count v_many v_codes = some (r0, u0) → ∀ (H : Heap) (locs : List Loc), va_P (dC, dI) classes [(h_o, .inr (4, [.ref h_line, .int v_typed, .ref h_fact, .ref h_marked, .int v_count, .ref h_many, .ref h_codes, .int v_oldCount, .ref h_oldMany, .ref h_oldCodes, .int v_read, .ref h_body, .ref h_roundOf, .ref h_fresh, .int v_last])), (h_many, .inl (k_many, 2, .inl v_many)), (h_codes, .inl (k_codes, 6, .inl v_codes))] H → va_D A [(h_o, .inr (4, [.ref h_line, .int v_typed, .ref h_fact, .ref h_marked, .int v_count, .ref h_many, .ref h_codes, .int v_oldCount, .ref h_oldMany, .ref h_oldCodes, .int v_read, .ref h_body, .ref h_roundOf, .ref h_fresh, .int v_last])), (h_many, .inl (k_many, 2, .inl v_many)), (h_codes, .inl (k_codes, 6, .inl v_codes))] → va_S A s.heap H locs → ∀ (ls : Array Slot), lv_has ls 3 [(0, .ref h_o)] → W p l e (headSpec w_M_drop ({ frames := 1, cells := 0, slots := 0, locals := 21 } : Room)).room s m ([.ref h_o, .int x1] : List Value).toArray below meth c H locs 0 0 Q (F0 m 53 ls []) := by
    intro v_count v_many v_codes h H locs hP hD hS ls hl
    unfold m_M_drop_53 at h
    refine lv_aload_n hx hb d_M_drop_53 rfl (lv_at hl 0 rfl) ?_
    refine lv_dup hx hb d_M_drop_54 rfl ?_
    refine va_get (D := (dC, dI)) (ci := 4) (v := .int v_count) (C := R_M) (T := F_M) (N := 15) hx hb hts lay_M hown hK hP 0 rfl rfl 4 (by decide) (hts _ flk_M_85) (fun _ h9 => h9) rfl d_M_drop_55 ?_
    refine lv_iconst (v := (nI 1)) hx hb d_M_drop_58 (by decide) ?_
    refine lv_isub hx hb d_M_drop_59 ?_
    refine va_put (D := (dC, dI)) (ci := 4) (v := .int (v_count - (nI 1))) (ty := .int) (C := R_M) (T := F_M) (N := 15) hx hb hts lay_M t_M t_M_ok n_M hown hK hP hD hS 0 rfl rfl 4 (by decide) (hts _ flk_M_85) (fun _ h9 => h9) rfl (by decide +kernel) rfl rfl (Nat.le_of_ble_eq_true rfl) d_M_drop_60 (fun H locs hP hD hS => ?_)
    have hP : va_P (dC, dI) classes [(h_o, .inr (4, [.ref h_line, .int v_typed, .ref h_fact, .ref h_marked, .int (v_count - (nI 1)), .ref h_many, .ref h_codes, .int v_oldCount, .ref h_oldMany, .ref h_oldCodes, .int v_read, .ref h_body, .ref h_roundOf, .ref h_fresh, .int v_last])), (h_many, .inl (k_many, 2, .inl v_many)), (h_codes, .inl (k_codes, 6, .inl v_codes))] H := hP
    have hD : va_D A [(h_o, .inr (4, [.ref h_line, .int v_typed, .ref h_fact, .ref h_marked, .int (v_count - (nI 1)), .ref h_many, .ref h_codes, .int v_oldCount, .ref h_oldMany, .ref h_oldCodes, .int v_read, .ref h_body, .ref h_roundOf, .ref h_fresh, .int v_last])), (h_many, .inl (k_many, 2, .inl v_many)), (h_codes, .inl (k_codes, 6, .inl v_codes))] := hD
    refine lv_iconst (v := (nI 1)) hx hb d_M_drop_63 (by decide) ?_
    rw [hQ]
    exact W.zret (v := (nI 1)) hx hb hr rfl (fun t ht hW => ⟨⟨(nI 1), (v_count - (nI 1), v_many, v_codes), rfl, Prod.mk.inj (Option.some.inj h), by rw [ht]; exact hP, va_K.moved hW.alike hK, hD⟩, hS.F ht⟩) hS.2.2 d_M_drop_64
  have J_28 : ∀ (n : Nat) (v_count : Int32) (v_many : Nat → Int32) (v_codes : Nat → Int32) (z2 : Int32), m_M_drop_28 n v_count v_many v_codes z2 = some (r0, u0) → ∀ (H : Heap) (locs : List Loc), va_P (dC, dI) classes [(h_o, .inr (4, [.ref h_line, .int v_typed, .ref h_fact, .ref h_marked, .int v_count, .ref h_many, .ref h_codes, .int v_oldCount, .ref h_oldMany, .ref h_oldCodes, .int v_read, .ref h_body, .ref h_roundOf, .ref h_fresh, .int v_last])), (h_many, .inl (k_many, 2, .inl v_many)), (h_codes, .inl (k_codes, 6, .inl v_codes))] H → va_D A [(h_o, .inr (4, [.ref h_line, .int v_typed, .ref h_fact, .ref h_marked, .int v_count, .ref h_many, .ref h_codes, .int v_oldCount, .ref h_oldMany, .ref h_oldCodes, .int v_read, .ref h_body, .ref h_roundOf, .ref h_fresh, .int v_last])), (h_many, .inl (k_many, 2, .inl v_many)), (h_codes, .inl (k_codes, 6, .inl v_codes))] → va_S A s.heap H locs → ∀ (ls : Array Slot), lv_has ls 3 [(0, .ref h_o), (2, .int z2)] → W p l e (headSpec w_M_drop ({ frames := 1, cells := 0, slots := 0, locals := 21 } : Room)).room s m ([.ref h_o, .int x1] : List Value).toArray below meth c H locs 0 0 Q (F0 m 28 ls []) := by
    intro n
    induction n with
    | zero => intro v_count v_many v_codes z2 h; exact absurd h (by unfold m_M_drop_28; exact fun h9 => nomatch h9)
    | succ n ih =>
      intro v_count v_many v_codes z2 h H locs hP hD hS ls hl
      unfold m_M_drop_28 at h
      refine lv_iload_n hx hb d_M_drop_28 rfl (lv_at hl 1 rfl) ?_
      refine lv_iconst (v := (nI 3)) hx hb d_M_drop_29 (by decide) ?_
      refine lv_icmp_ge (tgt := 53) hx hb d_M_drop_30 (by decide) (fun c_30 => ?_) (fun c_30 => ?_)
      · have h := of_pos h c_30
        exact J_53 v_count v_many v_codes h _ _ hP hD hS ls (lv_sub hl [0] rfl)
      · have h := of_neg h c_30
        refine lv_aload_n hx hb d_M_drop_33 rfl (lv_at hl 0 rfl) ?_
        refine va_get (D := (dC, dI)) (ci := 4) (v := .ref h_codes) (C := R_M) (T := F_M) (N := 15) hx hb hts lay_M hown hK hP 0 rfl rfl 6 (by decide) (hts _ flk_M_23) (fun _ h9 => h9) rfl d_M_drop_34 ?_
        refine lv_iload_n hx hb d_M_drop_37 rfl (lv_at hl 1 rfl) ?_
        refine lv_aload_n hx hb d_M_drop_38 rfl (lv_at hl 0 rfl) ?_
        refine va_get (D := (dC, dI)) (ci := 4) (v := .ref h_codes) (C := R_M) (T := F_M) (N := 15) hx hb hts lay_M hown hK hP 0 rfl rfl 6 (by decide) (hts _ flk_M_23) (fun _ h9 => h9) rfl d_M_drop_39 ?_
        refine lv_iconst (v := (nI 3)) hx hb d_M_drop_42 (by decide) ?_
        refine lv_iload_n hx hb d_M_drop_43 rfl (lv_at hl 1 rfl) ?_
        refine lv_iadd hx hb d_M_drop_44 ?_
        obtain ⟨g_45, h⟩ := of_guard h
        refine va_iald hx hb hK hP 2 1 rfl rfl (inR_in g_45) d_M_drop_45 ?_
        obtain ⟨g_46, h⟩ := of_guard h
        refine va_iast hx hb hK hP hD hS 2 1 rfl rfl (inR_in g_46) d_M_drop_46 (fun H locs hP hD hS => ?_)
        have hP : va_P (dC, dI) classes [(h_o, .inr (4, [.ref h_line, .int v_typed, .ref h_fact, .ref h_marked, .int v_count, .ref h_many, .ref h_codes, .int v_oldCount, .ref h_oldMany, .ref h_oldCodes, .int v_read, .ref h_body, .ref h_roundOf, .ref h_fresh, .int v_last])), (h_many, .inl (k_many, 2, .inl v_many)), (h_codes, .inl (k_codes, 6, .inl (upd v_codes z2.toNatClampNeg (v_codes ((nI 3) + z2).toNatClampNeg))))] H := hP
        have hD : va_D A [(h_o, .inr (4, [.ref h_line, .int v_typed, .ref h_fact, .ref h_marked, .int v_count, .ref h_many, .ref h_codes, .int v_oldCount, .ref h_oldMany, .ref h_oldCodes, .int v_read, .ref h_body, .ref h_roundOf, .ref h_fresh, .int v_last])), (h_many, .inl (k_many, 2, .inl v_many)), (h_codes, .inl (k_codes, 6, .inl (upd v_codes z2.toNatClampNeg (v_codes ((nI 3) + z2).toNatClampNeg))))] := hD
        refine lv_iinc (v := z2 + (nI 1)) (lv' := [(2, .int (z2 + (nI 1))), (0, .ref h_o)]) hx hb d_M_drop_47 hl (k := 1) rfl rfl (by decide) rfl (fun ls hl => ?_)
        refine lv_goto (tgt := 28) hx hb d_M_drop_50 (by decide) ?_
        exact ih v_count v_many (upd v_codes z2.toNatClampNeg (v_codes ((nI 3) + z2).toNatClampNeg)) (z2 + (nI 1)) h _ _ hP hD hS ls (lv_sub hl [1, 0] rfl)
  unfold m_M_drop at h
  refine lv_aload_n hx hb d_M_drop_0 rfl (lv_at hl 0 rfl) ?_
  refine lv_iload_n hx hb d_M_drop_1 rfl (lv_at hl 1 rfl) ?_
  have hPc := hP.sub (ws' := [(h_o, .inr (4, [.ref h_line, .int v_typed, .ref h_fact, .ref h_marked, .int v_count, .ref h_many, .ref h_codes, .int v_oldCount, .ref h_oldMany, .ref h_oldCodes, .int v_read, .ref h_body, .ref h_roundOf, .ref h_fresh, .int v_last]))]) [0] rfl
  have hDc := hD.sub (ws' := [(h_o, .inr (4, [.ref h_line, .int v_typed, .ref h_fact, .ref h_marked, .int v_count, .ref h_many, .ref h_codes, .int v_oldCount, .ref h_oldMany, .ref h_oldCodes, .int v_read, .ref h_body, .ref h_roundOf, .ref h_fresh, .int v_last]))]) [0] (by decide) rfl
  have hKc := hK.sub (tys' := []) [] rfl
  have hFc := va_free (wc := [(h_o, .inr (4, [.ref h_line, .int v_typed, .ref h_fact, .ref h_marked, .int v_count, .ref h_many, .ref h_codes, .int v_oldCount, .ref h_oldMany, .ref h_oldCodes, .int v_read, .ref h_body, .ref h_roundOf, .ref h_fresh, .int v_last]))]) hD hS hA [0] rfl
  obtain ⟨v_2, hc_2, h⟩ := of_bind h
  refine va_calli (va_runV (As := [.int x1]) (rest := []) ⟨hx, hb, hml, hown, hts⟩ (c_M_clause l dC dI h_o h_line h_fact h_marked h_many h_codes h_oldMany h_oldCodes h_body h_roundOf h_fresh H.size v_typed v_count v_oldCount v_read v_last x1 v_2.1 v_2.2 hc_2) (cwV 1 hts (gV mlk_M_109 ins_M_clause sel_M_clause ini_M cod_M_clause) rfl rfl rfl (by decide +kernel) ⟨Nat.le_of_ble_eq_true rfl, Nat.le_of_ble_eq_true rfl⟩) ⟨fun a U g mk q => by obtain ⟨q0, q1, qP, qK, qD⟩ := q; exact ⟨q0, q1, qP, va_K.moved (u := U) (U := U.calling g mk a) (Vm.Alike.refl U.vm) qK, qD⟩, va_recv hKc hPc (ci := 4) (q0 := 0) rfl rfl, fun U hU hW => ⟨rfl, by rw [hU], by rw [hU]; exact hPc, va_K.moved hW.alike hKc, hDc.weaken (fun _ _ _ _ => trivial)⟩⟩ rfl rfl hl.1 rfl (lv_room (Nat.le_of_ble_eq_true rfl)) d_M_drop_2 ⟨Nat.le_of_ble_eq_true rfl, Nat.le_of_ble_eq_true rfl⟩) hS (fun q _ h9 => hFc q h9) hFc (fun r_2 u t H1 locs ht hvm hw hB hz1 hk1 hS => ?_)
  obtain ⟨rfl, rfl⟩ := hw
  obtain ⟨hP1, hK1, hD1⟩ := hB
  rw [ht] at hP1
  obtain ⟨hP, hD⟩ := va_join (wr := [(h_many, .inl (k_many, 2, .inl v_many)), (h_codes, .inl (k_codes, 6, .inl v_codes))]) (w1 := [(h_o, .inr (4, [.ref h_line, .int v_typed, .ref h_fact, .ref h_marked, .int v_count, .ref h_many, .ref h_codes, .int v_oldCount, .ref h_oldMany, .ref h_oldCodes, .int v_read, .ref h_body, .ref h_roundOf, .ref h_fresh, .int v_last]))]) hP hD [0] [1, 2] rfl rfl (by decide) (by decide) hk1 hFc hP1 hD1
  have hP := hP.sub (ws' := [(h_o, .inr (4, [.ref h_line, .int v_typed, .ref h_fact, .ref h_marked, .int v_count, .ref h_many, .ref h_codes, .int v_oldCount, .ref h_oldMany, .ref h_oldCodes, .int v_read, .ref h_body, .ref h_roundOf, .ref h_fresh, .int v_last])), (h_many, .inl (k_many, 2, .inl v_many)), (h_codes, .inl (k_codes, 6, .inl v_codes))]) [2, 0, 1] rfl
  have hD := hD.sub (ws' := [(h_o, .inr (4, [.ref h_line, .int v_typed, .ref h_fact, .ref h_marked, .int v_count, .ref h_many, .ref h_codes, .int v_oldCount, .ref h_oldMany, .ref h_oldCodes, .int v_read, .ref h_body, .ref h_roundOf, .ref h_fresh, .int v_last])), (h_many, .inl (k_many, 2, .inl v_many)), (h_codes, .inl (k_codes, 6, .inl v_codes))]) [2, 0, 1] (by decide) rfl
  generalize H1 = H at hP hS ⊢
  refine lv_if_ne (tgt := 10) hx hb d_M_drop_5 (by decide) (fun c_5 => ?_) (fun c_5 => ?_)
  · have h := of_neg h c_5
    refine lv_iload_n hx hb d_M_drop_10 rfl (lv_at hl 1 rfl) ?_
    refine lv_if_ne (tgt := 53) hx hb d_M_drop_11 (by decide) (fun c_11 => ?_) (fun c_11 => ?_)
    · have h := of_neg h c_11
      exact J_53 v_count v_many v_codes h _ _ hP hD hS ls (lv_sub hl [0] rfl)
    · have h := of_pos h c_11
      refine lv_aload_n hx hb d_M_drop_14 rfl (lv_at hl 0 rfl) ?_
      refine va_get (D := (dC, dI)) (ci := 4) (v := .ref h_many) (C := R_M) (T := F_M) (N := 15) hx hb hts lay_M hown hK hP 0 rfl rfl 5 (by decide) (hts _ flk_M_20) (fun _ h9 => h9) rfl d_M_drop_15 ?_
      refine lv_iconst (v := (nI 0)) hx hb d_M_drop_18 (by decide) ?_
      refine lv_aload_n hx hb d_M_drop_19 rfl (lv_at hl 0 rfl) ?_
      refine va_get (D := (dC, dI)) (ci := 4) (v := .ref h_many) (C := R_M) (T := F_M) (N := 15) hx hb hts lay_M hown hK hP 0 rfl rfl 5 (by decide) (hts _ flk_M_20) (fun _ h9 => h9) rfl d_M_drop_20 ?_
      refine lv_iconst (v := (nI 1)) hx hb d_M_drop_23 (by decide) ?_
      obtain ⟨g_24, h⟩ := of_guard h
      refine va_iald hx hb hK hP 1 0 rfl rfl (inR_in g_24) d_M_drop_24 ?_
      obtain ⟨g_25, h⟩ := of_guard h
      refine va_iast hx hb hK hP hD hS 1 0 rfl rfl (inR_in g_25) d_M_drop_25 (fun H locs hP hD hS => ?_)
      have hP : va_P (dC, dI) classes [(h_o, .inr (4, [.ref h_line, .int v_typed, .ref h_fact, .ref h_marked, .int v_count, .ref h_many, .ref h_codes, .int v_oldCount, .ref h_oldMany, .ref h_oldCodes, .int v_read, .ref h_body, .ref h_roundOf, .ref h_fresh, .int v_last])), (h_many, .inl (k_many, 2, .inl (upd v_many (nI 0).toNatClampNeg (v_many (nI 1).toNatClampNeg)))), (h_codes, .inl (k_codes, 6, .inl v_codes))] H := hP
      have hD : va_D A [(h_o, .inr (4, [.ref h_line, .int v_typed, .ref h_fact, .ref h_marked, .int v_count, .ref h_many, .ref h_codes, .int v_oldCount, .ref h_oldMany, .ref h_oldCodes, .int v_read, .ref h_body, .ref h_roundOf, .ref h_fresh, .int v_last])), (h_many, .inl (k_many, 2, .inl (upd v_many (nI 0).toNatClampNeg (v_many (nI 1).toNatClampNeg)))), (h_codes, .inl (k_codes, 6, .inl v_codes))] := hD
      refine lv_iconst (v := (nI 0)) hx hb d_M_drop_26 (by decide) ?_
      refine lv_istore_n (lv' := [(2, .int (nI 0)), (0, .ref h_o), (1, .int x1)]) hx hb d_M_drop_27 rfl hl (by decide) rfl (fun ls hl => ?_)
      exact J_28 40 v_count (upd v_many (nI 0).toNatClampNeg (v_many (nI 1).toNatClampNeg)) v_codes (nI 0) h _ _ hP hD hS ls (lv_sub hl [1, 0] rfl)
  · have h := of_pos h c_5
    refine lv_iconst (v := (nI 0)) hx hb d_M_drop_8 (by decide) ?_
    rw [hQ]
    exact W.zret (v := (nI 0)) hx hb hr rfl (fun t ht hW => ⟨⟨(nI 0), (v_count, v_many, v_codes), rfl, Prod.mk.inj (Option.some.inj h), by rw [ht]; exact hP, va_K.moved hW.alike hK, hD⟩, hS.F ht⟩) hS.2.2 d_M_drop_9
set_option maxHeartbeats 1000000 in
set_option maxRecDepth 100000 in
theorem c_M_clauses (l : Launch) (dC : Nat → ClassId) (dI : Nat → Nat → Nat) (h_o h_line h_fact h_marked h_many h_codes h_oldMany h_oldCodes h_body h_roundOf h_fresh : Nat) (sz : Nat) (v_typed : Int32) (v_count : Int32) (v_oldCount : Int32) (v_read : Int32) (v_last : Int32) (r0 : Int32) (u0 : Unit) (h : m_M_clauses v_count = some (r0, u0)) : Met l y_M_clauses w_M_clauses ({ frames := 0, cells := 0, slots := 0, locals := 0 } : Room) (va_Pc [.ref h_o] (fun U => U.heap.size = sz ∧ va_P (dC, dI) classes [(h_o, .inr (4, [.ref h_line, .int v_typed, .ref h_fact, .ref h_marked, .int v_count, .ref h_many, .ref h_codes, .int v_oldCount, .ref h_oldMany, .ref h_oldCodes, .int v_read, .ref h_body, .ref h_roundOf, .ref h_fresh, .int v_last]))] U.heap ∧ va_K (dC, dI) classes [] U ∧ va_D (fun _ => True) [(h_o, .inr (4, [.ref h_line, .int v_typed, .ref h_fact, .ref h_marked, .int v_count, .ref h_many, .ref h_codes, .int v_oldCount, .ref h_oldMany, .ref h_oldCodes, .int v_read, .ref h_body, .ref h_roundOf, .ref h_fresh, .int v_last]))])) (va_Qi (fun (r : Int32) (u : Unit) => r = r0 ∧ u = u0) (fun (u : Unit) (t : State) => va_P (dC, dI) classes [(h_o, .inr (4, [.ref h_line, .int v_typed, .ref h_fact, .ref h_marked, .int v_count, .ref h_many, .ref h_codes, .int v_oldCount, .ref h_oldMany, .ref h_oldCodes, .int v_read, .ref h_body, .ref h_roundOf, .ref h_fresh, .int v_last]))] t.heap ∧ va_K (dC, dI) classes [] t ∧ va_D (va_A [(h_o, .inr (4, [.ref h_line, .int v_typed, .ref h_fact, .ref h_marked, .int v_count, .ref h_many, .ref h_codes, .int v_oldCount, .ref h_oldMany, .ref h_oldCodes, .int v_read, .ref h_body, .ref h_roundOf, .ref h_fresh, .int v_last]))] sz) [(h_o, .inr (4, [.ref h_line, .int v_typed, .ref h_fact, .ref h_marked, .int v_count, .ref h_many, .ref h_codes, .int v_oldCount, .ref h_oldMany, .ref h_oldCodes, .int v_read, .ref h_body, .ref h_roundOf, .ref h_fresh, .int v_last]))]) (va_A [(h_o, .inr (4, [.ref h_line, .int v_typed, .ref h_fact, .ref h_marked, .int v_count, .ref h_many, .ref h_codes, .int v_oldCount, .ref h_oldMany, .ref h_oldCodes, .int v_read, .ref h_body, .ref h_roundOf, .ref h_fresh, .int v_last]))] sz)) 0 0 (va_A [(h_o, .inr (4, [.ref h_line, .int v_typed, .ref h_fact, .ref h_marked, .int v_count, .ref h_many, .ref h_codes, .int v_oldCount, .ref h_oldMany, .ref h_oldCodes, .int v_read, .ref h_body, .ref h_roundOf, .ref h_fresh, .int v_last]))] sz) := by
  refine Met.ofW (cc := b_M_clauses) (maxL := 1) (ret := (some .int)) (by decide) rfl ?_
  intro p e s m args below meth c s₁ B hml hv
  obtain ⟨rfl, hsz, hP, hK, hD0⟩ := hv
  have hx := B.exec
  have hb := B.bytes
  have hr := B.returns
  have hts0 := atoms_spec (ws := w_M_clauses) B.pre
  have hts : ∀ w ∈ lw_gd, w.before ([.ref h_o] : List Value).toArray s = true := fun w h9 => hts0 w (List.mem_cons_of_mem _ h9)
  have hown : s.vm.findClass R_M = some m.cls := findClass_of_methodNamed B.named
  have hlocks := B.notSynchronized
  subst hsz
  have hD := hD0.self (sz := s.heap.size)
  generalize hAe : va_A [(h_o, .inr (4, [.ref h_line, .int v_typed, .ref h_fact, .ref h_marked, .int v_count, .ref h_many, .ref h_codes, .int v_oldCount, .ref h_oldMany, .ref h_oldCodes, .int v_read, .ref h_body, .ref h_roundOf, .ref h_fresh, .int v_last]))] s.heap.size = A at hD ⊢
  have hA : ∀ q : Nat, s.heap.size ≤ q → A q := fun q h9 => by rw [← hAe]; exact Or.inr h9
  obtain ⟨H, eH⟩ : ∃ H : Heap, H = s.heap := ⟨_, rfl⟩
  have hS : va_S A s.heap H [] := by rw [eH]; exact va_S.rf
  have hP : va_P (dC, dI) classes [(h_o, .inr (4, [.ref h_line, .int v_typed, .ref h_fact, .ref h_marked, .int v_count, .ref h_many, .ref h_codes, .int v_oldCount, .ref h_oldMany, .ref h_oldCodes, .int v_read, .ref h_body, .ref h_roundOf, .ref h_fresh, .int v_last]))] H := by rw [eH]; exact hP
  refine W_gen (fun Q hQ => ?_)
  refine W_heap eH ?_
  clear eH
  have hl := lv_entry ([.ref h_o]) (n := 1) (Nat.le_of_ble_eq_true rfl)
  rw [lg_entry_eq]
  generalize (lg_sl ([.ref h_o]) ++ List.replicate (1 - (lg_sl ([.ref h_o])).length) Slot.unset).toArray = ls at hl ⊢
  have hl : lv_has ls 1 [(0, .ref h_o)] := hl
  unfold m_M_clauses at h
  refine lv_aload_n hx hb d_M_clauses_0 rfl (lv_at hl 0 rfl) ?_
  refine va_get (D := (dC, dI)) (ci := 4) (v := .int v_count) (C := R_M) (T := F_M) (N := 15) hx hb hts lay_M hown hK hP 0 rfl rfl 4 (by decide) (hts _ flk_M_85) (fun _ h9 => h9) rfl d_M_clauses_1 ?_
  rw [hQ]
  exact W.iret (v := v_count) hx hb hr (fun t ht hW => ⟨⟨v_count, (), rfl, Prod.mk.inj (Option.some.inj h), by rw [ht]; exact hP, va_K.moved hW.alike hK, hD⟩, hS.F ht⟩) hS.2.2 d_M_clauses_4
set_option maxHeartbeats 1000000 in
set_option maxRecDepth 100000 in
theorem c_M_literals (l : Launch) (dC : Nat → ClassId) (dI : Nat → Nat → Nat) (h_o h_line h_fact h_marked h_many h_codes h_oldMany h_oldCodes h_body h_roundOf h_fresh : Nat) (k_many : ClassId) (sz : Nat) (v_typed : Int32) (v_count : Int32) (v_oldCount : Int32) (v_read : Int32) (v_last : Int32) (v_many : Nat → Int32) (x1 : Int32) (r0 : Int32) (u0 : Unit) (h : m_M_literals v_count v_many x1 = some (r0, u0)) : Met l y_M_literals w_M_literals ({ frames := 1, cells := 0, slots := 0, locals := 21 } : Room) (va_Pc [.ref h_o, .int x1] (fun U => U.heap.size = sz ∧ va_P (dC, dI) classes [(h_o, .inr (4, [.ref h_line, .int v_typed, .ref h_fact, .ref h_marked, .int v_count, .ref h_many, .ref h_codes, .int v_oldCount, .ref h_oldMany, .ref h_oldCodes, .int v_read, .ref h_body, .ref h_roundOf, .ref h_fresh, .int v_last])), (h_many, .inl (k_many, 2, .inl v_many))] U.heap ∧ va_K (dC, dI) classes [(k_many, .int)] U ∧ va_D (fun _ => True) [(h_o, .inr (4, [.ref h_line, .int v_typed, .ref h_fact, .ref h_marked, .int v_count, .ref h_many, .ref h_codes, .int v_oldCount, .ref h_oldMany, .ref h_oldCodes, .int v_read, .ref h_body, .ref h_roundOf, .ref h_fresh, .int v_last])), (h_many, .inl (k_many, 2, .inl v_many))])) (va_Qi (fun (r : Int32) (u : Unit) => r = r0 ∧ u = u0) (fun (u : Unit) (t : State) => va_P (dC, dI) classes [(h_o, .inr (4, [.ref h_line, .int v_typed, .ref h_fact, .ref h_marked, .int v_count, .ref h_many, .ref h_codes, .int v_oldCount, .ref h_oldMany, .ref h_oldCodes, .int v_read, .ref h_body, .ref h_roundOf, .ref h_fresh, .int v_last])), (h_many, .inl (k_many, 2, .inl v_many))] t.heap ∧ va_K (dC, dI) classes [(k_many, .int)] t ∧ va_D (va_A [(h_o, .inr (4, [.ref h_line, .int v_typed, .ref h_fact, .ref h_marked, .int v_count, .ref h_many, .ref h_codes, .int v_oldCount, .ref h_oldMany, .ref h_oldCodes, .int v_read, .ref h_body, .ref h_roundOf, .ref h_fresh, .int v_last])), (h_many, .inl (k_many, 2, .inl v_many))] sz) [(h_o, .inr (4, [.ref h_line, .int v_typed, .ref h_fact, .ref h_marked, .int v_count, .ref h_many, .ref h_codes, .int v_oldCount, .ref h_oldMany, .ref h_oldCodes, .int v_read, .ref h_body, .ref h_roundOf, .ref h_fresh, .int v_last])), (h_many, .inl (k_many, 2, .inl v_many))]) (va_A [(h_o, .inr (4, [.ref h_line, .int v_typed, .ref h_fact, .ref h_marked, .int v_count, .ref h_many, .ref h_codes, .int v_oldCount, .ref h_oldMany, .ref h_oldCodes, .int v_read, .ref h_body, .ref h_roundOf, .ref h_fresh, .int v_last])), (h_many, .inl (k_many, 2, .inl v_many))] sz)) 0 0 (va_A [(h_o, .inr (4, [.ref h_line, .int v_typed, .ref h_fact, .ref h_marked, .int v_count, .ref h_many, .ref h_codes, .int v_oldCount, .ref h_oldMany, .ref h_oldCodes, .int v_read, .ref h_body, .ref h_roundOf, .ref h_fresh, .int v_last])), (h_many, .inl (k_many, 2, .inl v_many))] sz) := by
  refine Met.ofW (cc := b_M_literals) (maxL := 2) (ret := (some .int)) (by decide) rfl ?_
  intro p e s m args below meth c s₁ B hml hv
  obtain ⟨rfl, hsz, hP, hK, hD0⟩ := hv
  have hx := B.exec
  have hb := B.bytes
  have hr := B.returns
  have hts0 := atoms_spec (ws := w_M_literals) B.pre
  have hts : ∀ w ∈ lw_gd, w.before ([.ref h_o, .int x1] : List Value).toArray s = true := fun w h9 => hts0 w (List.mem_cons_of_mem _ h9)
  have hown : s.vm.findClass R_M = some m.cls := findClass_of_methodNamed B.named
  have hlocks := B.notSynchronized
  subst hsz
  have hD := hD0.self (sz := s.heap.size)
  generalize hAe : va_A [(h_o, .inr (4, [.ref h_line, .int v_typed, .ref h_fact, .ref h_marked, .int v_count, .ref h_many, .ref h_codes, .int v_oldCount, .ref h_oldMany, .ref h_oldCodes, .int v_read, .ref h_body, .ref h_roundOf, .ref h_fresh, .int v_last])), (h_many, .inl (k_many, 2, .inl v_many))] s.heap.size = A at hD ⊢
  have hA : ∀ q : Nat, s.heap.size ≤ q → A q := fun q h9 => by rw [← hAe]; exact Or.inr h9
  obtain ⟨H, eH⟩ : ∃ H : Heap, H = s.heap := ⟨_, rfl⟩
  have hS : va_S A s.heap H [] := by rw [eH]; exact va_S.rf
  have hP : va_P (dC, dI) classes [(h_o, .inr (4, [.ref h_line, .int v_typed, .ref h_fact, .ref h_marked, .int v_count, .ref h_many, .ref h_codes, .int v_oldCount, .ref h_oldMany, .ref h_oldCodes, .int v_read, .ref h_body, .ref h_roundOf, .ref h_fresh, .int v_last])), (h_many, .inl (k_many, 2, .inl v_many))] H := by rw [eH]; exact hP
  refine W_gen (fun Q hQ => ?_)
  refine W_heap eH ?_
  clear eH
  have hl := lv_entry ([.ref h_o, .int x1]) (n := 2) (Nat.le_of_ble_eq_true rfl)
  rw [lg_entry_eq]
  generalize (lg_sl ([.ref h_o, .int x1]) ++ List.replicate (2 - (lg_sl ([.ref h_o, .int x1])).length) Slot.unset).toArray = ls at hl ⊢
  have hl : lv_has ls 2 [(0, .ref h_o), (1, .int x1)] := hl
  unfold m_M_literals at h
  refine lv_aload_n hx hb d_M_literals_0 rfl (lv_at hl 0 rfl) ?_
  refine lv_iload_n hx hb d_M_literals_1 rfl (lv_at hl 1 rfl) ?_
  have hPc := hP.sub (ws' := [(h_o, .inr (4, [.ref h_line, .int v_typed, .ref h_fact, .ref h_marked, .int v_count, .ref h_many, .ref h_codes, .int v_oldCount, .ref h_oldMany, .ref h_oldCodes, .int v_read, .ref h_body, .ref h_roundOf, .ref h_fresh, .int v_last]))]) [0] rfl
  have hDc := hD.sub (ws' := [(h_o, .inr (4, [.ref h_line, .int v_typed, .ref h_fact, .ref h_marked, .int v_count, .ref h_many, .ref h_codes, .int v_oldCount, .ref h_oldMany, .ref h_oldCodes, .int v_read, .ref h_body, .ref h_roundOf, .ref h_fresh, .int v_last]))]) [0] (by decide) rfl
  have hKc := hK.sub (tys' := []) [] rfl
  have hFc := va_free (wc := [(h_o, .inr (4, [.ref h_line, .int v_typed, .ref h_fact, .ref h_marked, .int v_count, .ref h_many, .ref h_codes, .int v_oldCount, .ref h_oldMany, .ref h_oldCodes, .int v_read, .ref h_body, .ref h_roundOf, .ref h_fresh, .int v_last]))]) hD hS hA [0] rfl
  obtain ⟨v_2, hc_2, h⟩ := of_bind h
  refine va_calli (va_runV (As := [.int x1]) (rest := []) ⟨hx, hb, hml, hown, hts⟩ (c_M_clause l dC dI h_o h_line h_fact h_marked h_many h_codes h_oldMany h_oldCodes h_body h_roundOf h_fresh H.size v_typed v_count v_oldCount v_read v_last x1 v_2.1 v_2.2 hc_2) (cwV 1 hts (gV mlk_M_109 ins_M_clause sel_M_clause ini_M cod_M_clause) rfl rfl rfl (by decide +kernel) ⟨Nat.le_of_ble_eq_true rfl, Nat.le_of_ble_eq_true rfl⟩) ⟨fun a U g mk q => by obtain ⟨q0, q1, qP, qK, qD⟩ := q; exact ⟨q0, q1, qP, va_K.moved (u := U) (U := U.calling g mk a) (Vm.Alike.refl U.vm) qK, qD⟩, va_recv hKc hPc (ci := 4) (q0 := 0) rfl rfl, fun U hU hW => ⟨rfl, by rw [hU], by rw [hU]; exact hPc, va_K.moved hW.alike hKc, hDc.weaken (fun _ _ _ _ => trivial)⟩⟩ rfl rfl hl.1 rfl (lv_room (Nat.le_of_ble_eq_true rfl)) d_M_literals_2 ⟨Nat.le_of_ble_eq_true rfl, Nat.le_of_ble_eq_true rfl⟩) hS (fun q _ h9 => hFc q h9) hFc (fun r_2 u t H1 locs ht hvm hw hB hz1 hk1 hS => ?_)
  obtain ⟨rfl, rfl⟩ := hw
  obtain ⟨hP1, hK1, hD1⟩ := hB
  rw [ht] at hP1
  obtain ⟨hP, hD⟩ := va_join (wr := [(h_many, .inl (k_many, 2, .inl v_many))]) (w1 := [(h_o, .inr (4, [.ref h_line, .int v_typed, .ref h_fact, .ref h_marked, .int v_count, .ref h_many, .ref h_codes, .int v_oldCount, .ref h_oldMany, .ref h_oldCodes, .int v_read, .ref h_body, .ref h_roundOf, .ref h_fresh, .int v_last]))]) hP hD [0] [1] rfl rfl (by decide) (by decide) hk1 hFc hP1 hD1
  have hP := hP.sub (ws' := [(h_o, .inr (4, [.ref h_line, .int v_typed, .ref h_fact, .ref h_marked, .int v_count, .ref h_many, .ref h_codes, .int v_oldCount, .ref h_oldMany, .ref h_oldCodes, .int v_read, .ref h_body, .ref h_roundOf, .ref h_fresh, .int v_last])), (h_many, .inl (k_many, 2, .inl v_many))]) [1, 0] rfl
  have hD := hD.sub (ws' := [(h_o, .inr (4, [.ref h_line, .int v_typed, .ref h_fact, .ref h_marked, .int v_count, .ref h_many, .ref h_codes, .int v_oldCount, .ref h_oldMany, .ref h_oldCodes, .int v_read, .ref h_body, .ref h_roundOf, .ref h_fresh, .int v_last])), (h_many, .inl (k_many, 2, .inl v_many))]) [1, 0] (by decide) rfl
  generalize H1 = H at hP hS ⊢
  refine lv_if_eq (tgt := 17) hx hb d_M_literals_5 (by decide) (fun c_5 => ?_) (fun c_5 => ?_)
  · have h := of_pos h c_5
    refine lv_iconst (v := (-1 : Int32)) hx hb d_M_literals_17 (by decide) ?_
    rw [hQ]
    exact W.iret (v := (-1 : Int32)) hx hb hr (fun t ht hW => ⟨⟨(-1 : Int32), (), rfl, Prod.mk.inj (Option.some.inj h), by rw [ht]; exact hP, va_K.moved hW.alike hK, hD⟩, hS.F ht⟩) hS.2.2 d_M_literals_18
  · have h := of_neg h c_5
    refine lv_aload_n hx hb d_M_literals_8 rfl (lv_at hl 0 rfl) ?_
    refine va_get (D := (dC, dI)) (ci := 4) (v := .ref h_many) (C := R_M) (T := F_M) (N := 15) hx hb hts lay_M hown hK hP 0 rfl rfl 5 (by decide) (hts _ flk_M_20) (fun _ h9 => h9) rfl d_M_literals_9 ?_
    refine lv_iload_n hx hb d_M_literals_12 rfl (lv_at hl 1 rfl) ?_
    obtain ⟨g_13, h⟩ := of_guard h
    refine va_iald hx hb hK hP 1 0 rfl rfl (inR_in g_13) d_M_literals_13 ?_
    refine lv_goto (tgt := 18) hx hb d_M_literals_14 (by decide) ?_
    rw [hQ]
    exact W.iret (v := v_many x1.toNatClampNeg) hx hb hr (fun t ht hW => ⟨⟨v_many x1.toNatClampNeg, (), rfl, Prod.mk.inj (Option.some.inj h), by rw [ht]; exact hP, va_K.moved hW.alike hK, hD⟩, hS.F ht⟩) hS.2.2 d_M_literals_18
set_option maxHeartbeats 1000000 in
set_option maxRecDepth 100000 in
theorem c_M_literal (l : Launch) (dC : Nat → ClassId) (dI : Nat → Nat → Nat) (h_o h_line h_fact h_marked h_many h_codes h_oldMany h_oldCodes h_body h_roundOf h_fresh : Nat) (k_many k_codes : ClassId) (sz : Nat) (v_typed : Int32) (v_count : Int32) (v_oldCount : Int32) (v_read : Int32) (v_last : Int32) (v_many : Nat → Int32) (v_codes : Nat → Int32) (x1 : Int32) (x2 : Int32) (r0 : Int32) (u0 : Unit) (h : m_M_literal v_count v_many v_codes x1 x2 = some (r0, u0)) : Met l y_M_literal w_M_literal ({ frames := 1, cells := 0, slots := 0, locals := 21 } : Room) (va_Pc [.ref h_o, .int x1, .int x2] (fun U => U.heap.size = sz ∧ va_P (dC, dI) classes [(h_o, .inr (4, [.ref h_line, .int v_typed, .ref h_fact, .ref h_marked, .int v_count, .ref h_many, .ref h_codes, .int v_oldCount, .ref h_oldMany, .ref h_oldCodes, .int v_read, .ref h_body, .ref h_roundOf, .ref h_fresh, .int v_last])), (h_many, .inl (k_many, 2, .inl v_many)), (h_codes, .inl (k_codes, 6, .inl v_codes))] U.heap ∧ va_K (dC, dI) classes [(k_many, .int), (k_codes, .int)] U ∧ va_D (fun _ => True) [(h_o, .inr (4, [.ref h_line, .int v_typed, .ref h_fact, .ref h_marked, .int v_count, .ref h_many, .ref h_codes, .int v_oldCount, .ref h_oldMany, .ref h_oldCodes, .int v_read, .ref h_body, .ref h_roundOf, .ref h_fresh, .int v_last])), (h_many, .inl (k_many, 2, .inl v_many)), (h_codes, .inl (k_codes, 6, .inl v_codes))])) (va_Qi (fun (r : Int32) (u : Unit) => r = r0 ∧ u = u0) (fun (u : Unit) (t : State) => va_P (dC, dI) classes [(h_o, .inr (4, [.ref h_line, .int v_typed, .ref h_fact, .ref h_marked, .int v_count, .ref h_many, .ref h_codes, .int v_oldCount, .ref h_oldMany, .ref h_oldCodes, .int v_read, .ref h_body, .ref h_roundOf, .ref h_fresh, .int v_last])), (h_many, .inl (k_many, 2, .inl v_many)), (h_codes, .inl (k_codes, 6, .inl v_codes))] t.heap ∧ va_K (dC, dI) classes [(k_many, .int), (k_codes, .int)] t ∧ va_D (va_A [(h_o, .inr (4, [.ref h_line, .int v_typed, .ref h_fact, .ref h_marked, .int v_count, .ref h_many, .ref h_codes, .int v_oldCount, .ref h_oldMany, .ref h_oldCodes, .int v_read, .ref h_body, .ref h_roundOf, .ref h_fresh, .int v_last])), (h_many, .inl (k_many, 2, .inl v_many)), (h_codes, .inl (k_codes, 6, .inl v_codes))] sz) [(h_o, .inr (4, [.ref h_line, .int v_typed, .ref h_fact, .ref h_marked, .int v_count, .ref h_many, .ref h_codes, .int v_oldCount, .ref h_oldMany, .ref h_oldCodes, .int v_read, .ref h_body, .ref h_roundOf, .ref h_fresh, .int v_last])), (h_many, .inl (k_many, 2, .inl v_many)), (h_codes, .inl (k_codes, 6, .inl v_codes))]) (va_A [(h_o, .inr (4, [.ref h_line, .int v_typed, .ref h_fact, .ref h_marked, .int v_count, .ref h_many, .ref h_codes, .int v_oldCount, .ref h_oldMany, .ref h_oldCodes, .int v_read, .ref h_body, .ref h_roundOf, .ref h_fresh, .int v_last])), (h_many, .inl (k_many, 2, .inl v_many)), (h_codes, .inl (k_codes, 6, .inl v_codes))] sz)) 0 0 (va_A [(h_o, .inr (4, [.ref h_line, .int v_typed, .ref h_fact, .ref h_marked, .int v_count, .ref h_many, .ref h_codes, .int v_oldCount, .ref h_oldMany, .ref h_oldCodes, .int v_read, .ref h_body, .ref h_roundOf, .ref h_fresh, .int v_last])), (h_many, .inl (k_many, 2, .inl v_many)), (h_codes, .inl (k_codes, 6, .inl v_codes))] sz) := by
  refine Met.ofW (cc := b_M_literal) (maxL := 3) (ret := (some .int)) (by decide) rfl ?_
  intro p e s m args below meth c s₁ B hml hv
  obtain ⟨rfl, hsz, hP, hK, hD0⟩ := hv
  have hx := B.exec
  have hb := B.bytes
  have hr := B.returns
  have hts0 := atoms_spec (ws := w_M_literal) B.pre
  have hts : ∀ w ∈ lw_gd, w.before ([.ref h_o, .int x1, .int x2] : List Value).toArray s = true := fun w h9 => hts0 w (List.mem_cons_of_mem _ h9)
  have hown : s.vm.findClass R_M = some m.cls := findClass_of_methodNamed B.named
  have hlocks := B.notSynchronized
  subst hsz
  have hD := hD0.self (sz := s.heap.size)
  generalize hAe : va_A [(h_o, .inr (4, [.ref h_line, .int v_typed, .ref h_fact, .ref h_marked, .int v_count, .ref h_many, .ref h_codes, .int v_oldCount, .ref h_oldMany, .ref h_oldCodes, .int v_read, .ref h_body, .ref h_roundOf, .ref h_fresh, .int v_last])), (h_many, .inl (k_many, 2, .inl v_many)), (h_codes, .inl (k_codes, 6, .inl v_codes))] s.heap.size = A at hD ⊢
  have hA : ∀ q : Nat, s.heap.size ≤ q → A q := fun q h9 => by rw [← hAe]; exact Or.inr h9
  obtain ⟨H, eH⟩ : ∃ H : Heap, H = s.heap := ⟨_, rfl⟩
  have hS : va_S A s.heap H [] := by rw [eH]; exact va_S.rf
  have hP : va_P (dC, dI) classes [(h_o, .inr (4, [.ref h_line, .int v_typed, .ref h_fact, .ref h_marked, .int v_count, .ref h_many, .ref h_codes, .int v_oldCount, .ref h_oldMany, .ref h_oldCodes, .int v_read, .ref h_body, .ref h_roundOf, .ref h_fresh, .int v_last])), (h_many, .inl (k_many, 2, .inl v_many)), (h_codes, .inl (k_codes, 6, .inl v_codes))] H := by rw [eH]; exact hP
  refine W_gen (fun Q hQ => ?_)
  refine W_heap eH ?_
  clear eH
  have hl := lv_entry ([.ref h_o, .int x1, .int x2]) (n := 3) (Nat.le_of_ble_eq_true rfl)
  rw [lg_entry_eq]
  generalize (lg_sl ([.ref h_o, .int x1, .int x2]) ++ List.replicate (3 - (lg_sl ([.ref h_o, .int x1, .int x2])).length) Slot.unset).toArray = ls at hl ⊢
  have hl : lv_has ls 3 [(0, .ref h_o), (1, .int x1), (2, .int x2)] := hl
  unfold m_M_literal at h
  refine lv_aload_n hx hb d_M_literal_0 rfl (lv_at hl 0 rfl) ?_
  refine lv_iload_n hx hb d_M_literal_1 rfl (lv_at hl 1 rfl) ?_
  have hPc := hP.sub (ws' := [(h_o, .inr (4, [.ref h_line, .int v_typed, .ref h_fact, .ref h_marked, .int v_count, .ref h_many, .ref h_codes, .int v_oldCount, .ref h_oldMany, .ref h_oldCodes, .int v_read, .ref h_body, .ref h_roundOf, .ref h_fresh, .int v_last]))]) [0] rfl
  have hDc := hD.sub (ws' := [(h_o, .inr (4, [.ref h_line, .int v_typed, .ref h_fact, .ref h_marked, .int v_count, .ref h_many, .ref h_codes, .int v_oldCount, .ref h_oldMany, .ref h_oldCodes, .int v_read, .ref h_body, .ref h_roundOf, .ref h_fresh, .int v_last]))]) [0] (by decide) rfl
  have hKc := hK.sub (tys' := []) [] rfl
  have hFc := va_free (wc := [(h_o, .inr (4, [.ref h_line, .int v_typed, .ref h_fact, .ref h_marked, .int v_count, .ref h_many, .ref h_codes, .int v_oldCount, .ref h_oldMany, .ref h_oldCodes, .int v_read, .ref h_body, .ref h_roundOf, .ref h_fresh, .int v_last]))]) hD hS hA [0] rfl
  obtain ⟨v_2, hc_2, h⟩ := of_bind h
  refine va_calli (va_runV (As := [.int x1]) (rest := []) ⟨hx, hb, hml, hown, hts⟩ (c_M_clause l dC dI h_o h_line h_fact h_marked h_many h_codes h_oldMany h_oldCodes h_body h_roundOf h_fresh H.size v_typed v_count v_oldCount v_read v_last x1 v_2.1 v_2.2 hc_2) (cwV 1 hts (gV mlk_M_109 ins_M_clause sel_M_clause ini_M cod_M_clause) rfl rfl rfl (by decide +kernel) ⟨Nat.le_of_ble_eq_true rfl, Nat.le_of_ble_eq_true rfl⟩) ⟨fun a U g mk q => by obtain ⟨q0, q1, qP, qK, qD⟩ := q; exact ⟨q0, q1, qP, va_K.moved (u := U) (U := U.calling g mk a) (Vm.Alike.refl U.vm) qK, qD⟩, va_recv hKc hPc (ci := 4) (q0 := 0) rfl rfl, fun U hU hW => ⟨rfl, by rw [hU], by rw [hU]; exact hPc, va_K.moved hW.alike hKc, hDc.weaken (fun _ _ _ _ => trivial)⟩⟩ rfl rfl hl.1 rfl (lv_room (Nat.le_of_ble_eq_true rfl)) d_M_literal_2 ⟨Nat.le_of_ble_eq_true rfl, Nat.le_of_ble_eq_true rfl⟩) hS (fun q _ h9 => hFc q h9) hFc (fun r_2 u t H1 locs ht hvm hw hB hz1 hk1 hS => ?_)
  obtain ⟨rfl, rfl⟩ := hw
  obtain ⟨hP1, hK1, hD1⟩ := hB
  rw [ht] at hP1
  obtain ⟨hP, hD⟩ := va_join (wr := [(h_many, .inl (k_many, 2, .inl v_many)), (h_codes, .inl (k_codes, 6, .inl v_codes))]) (w1 := [(h_o, .inr (4, [.ref h_line, .int v_typed, .ref h_fact, .ref h_marked, .int v_count, .ref h_many, .ref h_codes, .int v_oldCount, .ref h_oldMany, .ref h_oldCodes, .int v_read, .ref h_body, .ref h_roundOf, .ref h_fresh, .int v_last]))]) hP hD [0] [1, 2] rfl rfl (by decide) (by decide) hk1 hFc hP1 hD1
  have hP := hP.sub (ws' := [(h_o, .inr (4, [.ref h_line, .int v_typed, .ref h_fact, .ref h_marked, .int v_count, .ref h_many, .ref h_codes, .int v_oldCount, .ref h_oldMany, .ref h_oldCodes, .int v_read, .ref h_body, .ref h_roundOf, .ref h_fresh, .int v_last])), (h_many, .inl (k_many, 2, .inl v_many)), (h_codes, .inl (k_codes, 6, .inl v_codes))]) [2, 0, 1] rfl
  have hD := hD.sub (ws' := [(h_o, .inr (4, [.ref h_line, .int v_typed, .ref h_fact, .ref h_marked, .int v_count, .ref h_many, .ref h_codes, .int v_oldCount, .ref h_oldMany, .ref h_oldCodes, .int v_read, .ref h_body, .ref h_roundOf, .ref h_fresh, .int v_last])), (h_many, .inl (k_many, 2, .inl v_many)), (h_codes, .inl (k_codes, 6, .inl v_codes))]) [2, 0, 1] (by decide) rfl
  generalize H1 = H at hP hS ⊢
  refine lv_if_eq (tgt := 35) hx hb d_M_literal_5 (by decide) (fun c_5 => ?_) (fun c_5 => ?_)
  · have h := of_pos h c_5
    refine lv_iconst (v := (-1 : Int32)) hx hb d_M_literal_35 (by decide) ?_
    rw [hQ]
    exact W.iret (v := (-1 : Int32)) hx hb hr (fun t ht hW => ⟨⟨(-1 : Int32), (), rfl, Prod.mk.inj (Option.some.inj h), by rw [ht]; exact hP, va_K.moved hW.alike hK, hD⟩, hS.F ht⟩) hS.2.2 d_M_literal_36
  · have h := of_neg h c_5
    refine lv_iload_n hx hb d_M_literal_8 rfl (lv_at hl 2 rfl) ?_
    refine lv_if_lt (tgt := 35) hx hb d_M_literal_9 (by decide) (fun c_9 => ?_) (fun c_9 => ?_)
    · have h := of_pos h c_9
      refine lv_iconst (v := (-1 : Int32)) hx hb d_M_literal_35 (by decide) ?_
      rw [hQ]
      exact W.iret (v := (-1 : Int32)) hx hb hr (fun t ht hW => ⟨⟨(-1 : Int32), (), rfl, Prod.mk.inj (Option.some.inj h), by rw [ht]; exact hP, va_K.moved hW.alike hK, hD⟩, hS.F ht⟩) hS.2.2 d_M_literal_36
    · have h := of_neg h c_9
      refine lv_iload_n hx hb d_M_literal_12 rfl (lv_at hl 2 rfl) ?_
      refine lv_aload_n hx hb d_M_literal_13 rfl (lv_at hl 0 rfl) ?_
      refine va_get (D := (dC, dI)) (ci := 4) (v := .ref h_many) (C := R_M) (T := F_M) (N := 15) hx hb hts lay_M hown hK hP 0 rfl rfl 5 (by decide) (hts _ flk_M_20) (fun _ h9 => h9) rfl d_M_literal_14 ?_
      refine lv_iload_n hx hb d_M_literal_17 rfl (lv_at hl 1 rfl) ?_
      obtain ⟨g_18, h⟩ := of_guard h
      refine va_iald hx hb hK hP 1 0 rfl rfl (inR_in g_18) d_M_literal_18 ?_
      refine lv_icmp_ge (tgt := 35) hx hb d_M_literal_19 (by decide) (fun c_19 => ?_) (fun c_19 => ?_)
      · have h := of_pos h c_19
        refine lv_iconst (v := (-1 : Int32)) hx hb d_M_literal_35 (by decide) ?_
        rw [hQ]
        exact W.iret (v := (-1 : Int32)) hx hb hr (fun t ht hW => ⟨⟨(-1 : Int32), (), rfl, Prod.mk.inj (Option.some.inj h), by rw [ht]; exact hP, va_K.moved hW.alike hK, hD⟩, hS.F ht⟩) hS.2.2 d_M_literal_36
      · have h := of_neg h c_19
        refine lv_aload_n hx hb d_M_literal_22 rfl (lv_at hl 0 rfl) ?_
        refine va_get (D := (dC, dI)) (ci := 4) (v := .ref h_codes) (C := R_M) (T := F_M) (N := 15) hx hb hts lay_M hown hK hP 0 rfl rfl 6 (by decide) (hts _ flk_M_23) (fun _ h9 => h9) rfl d_M_literal_23 ?_
        refine lv_iconst (v := (nI 3)) hx hb d_M_literal_26 (by decide) ?_
        refine lv_iload_n hx hb d_M_literal_27 rfl (lv_at hl 1 rfl) ?_
        refine lv_imul hx hb d_M_literal_28 ?_
        refine lv_iload_n hx hb d_M_literal_29 rfl (lv_at hl 2 rfl) ?_
        refine lv_iadd hx hb d_M_literal_30 ?_
        obtain ⟨g_31, h⟩ := of_guard h
        refine va_iald hx hb hK hP 2 1 rfl rfl (inR_in g_31) d_M_literal_31 ?_
        refine lv_goto (tgt := 36) hx hb d_M_literal_32 (by decide) ?_
        rw [hQ]
        exact W.iret (v := v_codes (((nI 3) * x1) + x2).toNatClampNeg) hx hb hr (fun t ht hW => ⟨⟨v_codes (((nI 3) * x1) + x2).toNatClampNeg, (), rfl, Prod.mk.inj (Option.some.inj h), by rw [ht]; exact hP, va_K.moved hW.alike hK, hD⟩, hS.F ht⟩) hS.2.2 d_M_literal_36
set_option maxHeartbeats 1000000 in
set_option maxRecDepth 100000 in
theorem c_M_letterOf (l : Launch) (dC : Nat → ClassId) (dI : Nat → Nat → Nat) (sz : Nat)  (x0 : Int32) (x1 : Int32) (r0 : Int32) (u0 : Unit) (h : m_M_letterOf x0 x1 = some (r0, u0)) : Met l y_M_letterOf w_M_letterOf ({ frames := 0, cells := 0, slots := 0, locals := 0 } : Room) (va_Pc [.int x0, .int x1] (fun U => U.heap.size = sz ∧ va_P (dC, dI) classes [] U.heap ∧ va_K (dC, dI) classes [] U ∧ va_D (fun _ => True) [])) (va_Qi (fun (r : Int32) (u : Unit) => r = r0 ∧ u = u0) (fun (u : Unit) (t : State) => va_P (dC, dI) classes [] t.heap ∧ va_K (dC, dI) classes [] t ∧ va_D (va_A [] sz) []) (va_A [] sz)) 0 0 (va_A [] sz) := by
  refine Met.ofW (cc := b_M_letterOf) (maxL := 2) (ret := (some .int)) (by decide) rfl ?_
  intro p e s m args below meth c s₁ B hml hv
  obtain ⟨rfl, hsz, hP, hK, hD0⟩ := hv
  have hx := B.exec
  have hb := B.bytes
  have hr := B.returns
  have hts0 := atoms_spec (ws := w_M_letterOf) B.pre
  have hts : ∀ w ∈ lw_gd, w.before ([.int x0, .int x1] : List Value).toArray s = true := fun w h9 => hts0 w (List.mem_cons_of_mem _ h9)
  have hown : s.vm.findClass R_M = some m.cls := findClass_of_methodNamed B.named
  have hlocks := B.notSynchronized
  subst hsz
  have hD := hD0.self (sz := s.heap.size)
  generalize hAe : va_A [] s.heap.size = A at hD ⊢
  have hA : ∀ q : Nat, s.heap.size ≤ q → A q := fun q h9 => by rw [← hAe]; exact Or.inr h9
  obtain ⟨H, eH⟩ : ∃ H : Heap, H = s.heap := ⟨_, rfl⟩
  have hS : va_S A s.heap H [] := by rw [eH]; exact va_S.rf
  have hP : va_P (dC, dI) classes [] H := by rw [eH]; exact hP
  refine W_gen (fun Q hQ => ?_)
  refine W_heap eH ?_
  clear eH
  have hl := lv_entry ([.int x0, .int x1]) (n := 2) (Nat.le_of_ble_eq_true rfl)
  rw [lg_entry_eq]
  generalize (lg_sl ([.int x0, .int x1]) ++ List.replicate (2 - (lg_sl ([.int x0, .int x1])).length) Slot.unset).toArray = ls at hl ⊢
  have hl : lv_has ls 2 [(0, .int x0), (1, .int x1)] := hl
  unfold m_M_letterOf at h
  refine lv_iload_n hx hb d_M_letterOf_0 rfl (lv_at hl 1 rfl) ?_
  by_cases c_1_0 : x1 = (nI 0)
  · have h := of_pos h c_1_0
    refine lv_tableIn (tgt := 36) (off := 35) hx hb d_M_letterOf_1 (by rw [c_1_0]; decide) (by rw [c_1_0]; decide) (by rw [c_1_0]; rfl) (by decide) ?_
    refine lv_iload_n hx hb d_M_letterOf_36 rfl (lv_at hl 0 rfl) ?_
    refine lv_bipush (v := (nI 9)) hx hb d_M_letterOf_37 (by decide) ?_
    refine lv_icmp_ge (tgt := 47) hx hb d_M_letterOf_39 (by decide) (fun c_39 => ?_) (fun c_39 => ?_)
    · have h := of_pos h c_39
      refine lv_iload_n hx hb d_M_letterOf_47 rfl (lv_at hl 0 rfl) ?_
      refine lv_bipush (v := (nI 18)) hx hb d_M_letterOf_48 (by decide) ?_
      refine lv_icmp_ge (tgt := 58) hx hb d_M_letterOf_50 (by decide) (fun c_50 => ?_) (fun c_50 => ?_)
      · have h := of_pos h c_50
        refine lv_bipush (v := (nI 116)) hx hb d_M_letterOf_58 (by decide) ?_
        rw [hQ]
        exact W.iret (v := (nI 116)) hx hb hr (fun t ht hW => ⟨⟨(nI 116), (), rfl, Prod.mk.inj (Option.some.inj h), by rw [ht]; exact hP, va_K.moved hW.alike hK, hD⟩, hS.F ht⟩) hS.2.2 d_M_letterOf_60
      · have h := of_neg h c_50
        refine lv_bipush (v := (nI 98)) hx hb d_M_letterOf_53 (by decide) ?_
        refine lv_goto (tgt := 60) hx hb d_M_letterOf_55 (by decide) ?_
        rw [hQ]
        exact W.iret (v := (nI 98)) hx hb hr (fun t ht hW => ⟨⟨(nI 98), (), rfl, Prod.mk.inj (Option.some.inj h), by rw [ht]; exact hP, va_K.moved hW.alike hK, hD⟩, hS.F ht⟩) hS.2.2 d_M_letterOf_60
    · have h := of_neg h c_39
      refine lv_bipush (v := (nI 97)) hx hb d_M_letterOf_42 (by decide) ?_
      refine lv_goto (tgt := 60) hx hb d_M_letterOf_44 (by decide) ?_
      rw [hQ]
      exact W.iret (v := (nI 97)) hx hb hr (fun t ht hW => ⟨⟨(nI 97), (), rfl, Prod.mk.inj (Option.some.inj h), by rw [ht]; exact hP, va_K.moved hW.alike hK, hD⟩, hS.F ht⟩) hS.2.2 d_M_letterOf_60
  have h := of_neg h c_1_0
  by_cases c_1_1 : x1 = (nI 1)
  · have h := of_pos h c_1_1
    refine lv_tableIn (tgt := 61) (off := 60) hx hb d_M_letterOf_1 (by rw [c_1_1]; decide) (by rw [c_1_1]; decide) (by rw [c_1_1]; rfl) (by decide) ?_
    refine lv_bipush (v := (nI 40)) hx hb d_M_letterOf_61 (by decide) ?_
    rw [hQ]
    exact W.iret (v := (nI 40)) hx hb hr (fun t ht hW => ⟨⟨(nI 40), (), rfl, Prod.mk.inj (Option.some.inj h), by rw [ht]; exact hP, va_K.moved hW.alike hK, hD⟩, hS.F ht⟩) hS.2.2 d_M_letterOf_63
  have h := of_neg h c_1_1
  by_cases c_1_2 : x1 = (nI 2)
  · have h := of_pos h c_1_2
    refine lv_tableIn (tgt := 64) (off := 63) hx hb d_M_letterOf_1 (by rw [c_1_2]; decide) (by rw [c_1_2]; decide) (by rw [c_1_2]; rfl) (by decide) ?_
    refine lv_bipush (v := (nI 88)) hx hb d_M_letterOf_64 (by decide) ?_
    refine lv_iload_n hx hb d_M_letterOf_66 rfl (lv_at hl 0 rfl) ?_
    refine lv_iconst (v := (nI 3)) hx hb d_M_letterOf_67 (by decide) ?_
    refine lv_idiv hx hb d_M_letterOf_68 (by decide) ?_
    refine lv_iconst (v := (nI 3)) hx hb d_M_letterOf_69 (by decide) ?_
    refine lv_irem hx hb d_M_letterOf_70 (by decide) ?_
    refine lv_iadd hx hb d_M_letterOf_71 ?_
    rw [hQ]
    exact W.iret (v := (nI 88) + (irm (x0 / (nI 3)) (nI 3))) hx hb hr (fun t ht hW => ⟨⟨(nI 88) + (irm (x0 / (nI 3)) (nI 3)), (), rfl, Prod.mk.inj (Option.some.inj h), by rw [ht]; exact hP, va_K.moved hW.alike hK, hD⟩, hS.F ht⟩) hS.2.2 d_M_letterOf_72
  have h := of_neg h c_1_2
  by_cases c_1_3 : x1 = (nI 3)
  · have h := of_pos h c_1_3
    refine lv_tableIn (tgt := 73) (off := 72) hx hb d_M_letterOf_1 (by rw [c_1_3]; decide) (by rw [c_1_3]; decide) (by rw [c_1_3]; rfl) (by decide) ?_
    refine lv_bipush (v := (nI 44)) hx hb d_M_letterOf_73 (by decide) ?_
    rw [hQ]
    exact W.iret (v := (nI 44)) hx hb hr (fun t ht hW => ⟨⟨(nI 44), (), rfl, Prod.mk.inj (Option.some.inj h), by rw [ht]; exact hP, va_K.moved hW.alike hK, hD⟩, hS.F ht⟩) hS.2.2 d_M_letterOf_75
  have h := of_neg h c_1_3
  by_cases c_1_4 : x1 = (nI 4)
  · have h := of_pos h c_1_4
    refine lv_tableIn (tgt := 76) (off := 75) hx hb d_M_letterOf_1 (by rw [c_1_4]; decide) (by rw [c_1_4]; decide) (by rw [c_1_4]; rfl) (by decide) ?_
    refine lv_bipush (v := (nI 88)) hx hb d_M_letterOf_76 (by decide) ?_
    refine lv_iload_n hx hb d_M_letterOf_78 rfl (lv_at hl 0 rfl) ?_
    refine lv_iconst (v := (nI 3)) hx hb d_M_letterOf_79 (by decide) ?_
    refine lv_irem hx hb d_M_letterOf_80 (by decide) ?_
    refine lv_iadd hx hb d_M_letterOf_81 ?_
    rw [hQ]
    exact W.iret (v := (nI 88) + (irm x0 (nI 3))) hx hb hr (fun t ht hW => ⟨⟨(nI 88) + (irm x0 (nI 3)), (), rfl, Prod.mk.inj (Option.some.inj h), by rw [ht]; exact hP, va_K.moved hW.alike hK, hD⟩, hS.F ht⟩) hS.2.2 d_M_letterOf_82
  have h := of_neg h c_1_4
  refine lv_tableOut (tgt := 83) hx hb d_M_letterOf_1 (by have := lv_neT (a := 0) c_1_0 (by decide); have := lv_neT (a := 1) c_1_1 (by decide); have := lv_neT (a := 2) c_1_2 (by decide); have := lv_neT (a := 3) c_1_3 (by decide); have := lv_neT (a := 4) c_1_4 (by decide); omega) (by decide) ?_
  refine lv_bipush (v := (nI 41)) hx hb d_M_letterOf_83 (by decide) ?_
  rw [hQ]
  exact W.iret (v := (nI 41)) hx hb hr (fun t ht hW => ⟨⟨(nI 41), (), rfl, Prod.mk.inj (Option.some.inj h), by rw [ht]; exact hP, va_K.moved hW.alike hK, hD⟩, hS.F ht⟩) hS.2.2 d_M_letterOf_85
set_option maxHeartbeats 1000000 in
set_option maxRecDepth 100000 in
theorem c_M_letter (l : Launch) (dC : Nat → ClassId) (dI : Nat → Nat → Nat) (h_o h_line h_fact h_marked h_many h_codes h_oldMany h_oldCodes h_body h_roundOf h_fresh : Nat) (k_many k_codes : ClassId) (sz : Nat) (v_typed : Int32) (v_count : Int32) (v_oldCount : Int32) (v_read : Int32) (v_last : Int32) (v_many : Nat → Int32) (v_codes : Nat → Int32) (x1 : Int32) (r0 : Int32) (u0 : Unit) (h : m_M_letter v_count v_many v_codes x1 = some (r0, u0)) : Met l y_M_letter w_M_letter ({ frames := 1, cells := 0, slots := 0, locals := 21 } : Room) (va_Pc [.ref h_o, .int x1] (fun U => U.heap.size = sz ∧ va_P (dC, dI) classes [(h_o, .inr (4, [.ref h_line, .int v_typed, .ref h_fact, .ref h_marked, .int v_count, .ref h_many, .ref h_codes, .int v_oldCount, .ref h_oldMany, .ref h_oldCodes, .int v_read, .ref h_body, .ref h_roundOf, .ref h_fresh, .int v_last])), (h_many, .inl (k_many, 2, .inl v_many)), (h_codes, .inl (k_codes, 6, .inl v_codes))] U.heap ∧ va_K (dC, dI) classes [(k_many, .int), (k_codes, .int)] U ∧ va_D (fun _ => True) [(h_o, .inr (4, [.ref h_line, .int v_typed, .ref h_fact, .ref h_marked, .int v_count, .ref h_many, .ref h_codes, .int v_oldCount, .ref h_oldMany, .ref h_oldCodes, .int v_read, .ref h_body, .ref h_roundOf, .ref h_fresh, .int v_last])), (h_many, .inl (k_many, 2, .inl v_many)), (h_codes, .inl (k_codes, 6, .inl v_codes))])) (va_Qi (fun (r : Int32) (u : Unit) => r = r0 ∧ u = u0) (fun (u : Unit) (t : State) => va_P (dC, dI) classes [(h_o, .inr (4, [.ref h_line, .int v_typed, .ref h_fact, .ref h_marked, .int v_count, .ref h_many, .ref h_codes, .int v_oldCount, .ref h_oldMany, .ref h_oldCodes, .int v_read, .ref h_body, .ref h_roundOf, .ref h_fresh, .int v_last])), (h_many, .inl (k_many, 2, .inl v_many)), (h_codes, .inl (k_codes, 6, .inl v_codes))] t.heap ∧ va_K (dC, dI) classes [(k_many, .int), (k_codes, .int)] t ∧ va_D (va_A [(h_o, .inr (4, [.ref h_line, .int v_typed, .ref h_fact, .ref h_marked, .int v_count, .ref h_many, .ref h_codes, .int v_oldCount, .ref h_oldMany, .ref h_oldCodes, .int v_read, .ref h_body, .ref h_roundOf, .ref h_fresh, .int v_last])), (h_many, .inl (k_many, 2, .inl v_many)), (h_codes, .inl (k_codes, 6, .inl v_codes))] sz) [(h_o, .inr (4, [.ref h_line, .int v_typed, .ref h_fact, .ref h_marked, .int v_count, .ref h_many, .ref h_codes, .int v_oldCount, .ref h_oldMany, .ref h_oldCodes, .int v_read, .ref h_body, .ref h_roundOf, .ref h_fresh, .int v_last])), (h_many, .inl (k_many, 2, .inl v_many)), (h_codes, .inl (k_codes, 6, .inl v_codes))]) (va_A [(h_o, .inr (4, [.ref h_line, .int v_typed, .ref h_fact, .ref h_marked, .int v_count, .ref h_many, .ref h_codes, .int v_oldCount, .ref h_oldMany, .ref h_oldCodes, .int v_read, .ref h_body, .ref h_roundOf, .ref h_fresh, .int v_last])), (h_many, .inl (k_many, 2, .inl v_many)), (h_codes, .inl (k_codes, 6, .inl v_codes))] sz)) 0 0 (va_A [(h_o, .inr (4, [.ref h_line, .int v_typed, .ref h_fact, .ref h_marked, .int v_count, .ref h_many, .ref h_codes, .int v_oldCount, .ref h_oldMany, .ref h_oldCodes, .int v_read, .ref h_body, .ref h_roundOf, .ref h_fresh, .int v_last])), (h_many, .inl (k_many, 2, .inl v_many)), (h_codes, .inl (k_codes, 6, .inl v_codes))] sz) := by
  refine Met.ofW (cc := b_M_letter) (maxL := 6) (ret := (some .int)) (by decide) rfl ?_
  intro p e s m args below meth c s₁ B hml hv
  obtain ⟨rfl, hsz, hP, hK, hD0⟩ := hv
  have hx := B.exec
  have hb := B.bytes
  have hr := B.returns
  have hts0 := atoms_spec (ws := w_M_letter) B.pre
  have hts : ∀ w ∈ lw_gd, w.before ([.ref h_o, .int x1] : List Value).toArray s = true := fun w h9 => hts0 w (List.mem_cons_of_mem _ h9)
  have hown : s.vm.findClass R_M = some m.cls := findClass_of_methodNamed B.named
  have hlocks := B.notSynchronized
  subst hsz
  have hD := hD0.self (sz := s.heap.size)
  generalize hAe : va_A [(h_o, .inr (4, [.ref h_line, .int v_typed, .ref h_fact, .ref h_marked, .int v_count, .ref h_many, .ref h_codes, .int v_oldCount, .ref h_oldMany, .ref h_oldCodes, .int v_read, .ref h_body, .ref h_roundOf, .ref h_fresh, .int v_last])), (h_many, .inl (k_many, 2, .inl v_many)), (h_codes, .inl (k_codes, 6, .inl v_codes))] s.heap.size = A at hD ⊢
  have hA : ∀ q : Nat, s.heap.size ≤ q → A q := fun q h9 => by rw [← hAe]; exact Or.inr h9
  obtain ⟨H, eH⟩ : ∃ H : Heap, H = s.heap := ⟨_, rfl⟩
  have hS : va_S A s.heap H [] := by rw [eH]; exact va_S.rf
  have hP : va_P (dC, dI) classes [(h_o, .inr (4, [.ref h_line, .int v_typed, .ref h_fact, .ref h_marked, .int v_count, .ref h_many, .ref h_codes, .int v_oldCount, .ref h_oldMany, .ref h_oldCodes, .int v_read, .ref h_body, .ref h_roundOf, .ref h_fresh, .int v_last])), (h_many, .inl (k_many, 2, .inl v_many)), (h_codes, .inl (k_codes, 6, .inl v_codes))] H := by rw [eH]; exact hP
  refine W_gen (fun Q hQ => ?_)
  refine W_heap eH ?_
  clear eH
  have hl := lv_entry ([.ref h_o, .int x1]) (n := 6) (Nat.le_of_ble_eq_true rfl)
  rw [lg_entry_eq]
  generalize (lg_sl ([.ref h_o, .int x1]) ++ List.replicate (6 - (lg_sl ([.ref h_o, .int x1])).length) Slot.unset).toArray = ls at hl ⊢
  have hl : lv_has ls 6 [(0, .ref h_o), (1, .int x1)] := hl
  have J_4 : ∀ (n : Nat) (z2 : Int32) (z3 : Int32), m_M_letter_4 v_count v_many v_codes n z2 z3 = some (r0, u0) → ∀ (H : Heap) (locs : List Loc), va_P (dC, dI) classes [(h_o, .inr (4, [.ref h_line, .int v_typed, .ref h_fact, .ref h_marked, .int v_count, .ref h_many, .ref h_codes, .int v_oldCount, .ref h_oldMany, .ref h_oldCodes, .int v_read, .ref h_body, .ref h_roundOf, .ref h_fresh, .int v_last])), (h_many, .inl (k_many, 2, .inl v_many)), (h_codes, .inl (k_codes, 6, .inl v_codes))] H → va_D A [(h_o, .inr (4, [.ref h_line, .int v_typed, .ref h_fact, .ref h_marked, .int v_count, .ref h_many, .ref h_codes, .int v_oldCount, .ref h_oldMany, .ref h_oldCodes, .int v_read, .ref h_body, .ref h_roundOf, .ref h_fresh, .int v_last])), (h_many, .inl (k_many, 2, .inl v_many)), (h_codes, .inl (k_codes, 6, .inl v_codes))] → va_S A s.heap H locs → ∀ (ls : Array Slot), lv_has ls 6 [(0, .ref h_o), (2, .int z2), (3, .int z3)] → W p l e (headSpec w_M_letter ({ frames := 1, cells := 0, slots := 0, locals := 21 } : Room)).room s m ([.ref h_o, .int x1] : List Value).toArray below meth c H locs 0 0 Q (F0 m 4 ls []) := by
    intro n
    induction n with
    | zero => intro z2 z3 h; exact absurd h (by unfold m_M_letter_4; exact fun h9 => nomatch h9)
    | succ n ih =>
      intro z2 z3 h H locs hP hD hS ls hl
      unfold m_M_letter_4 at h
      refine lv_iload_n hx hb d_M_letter_4 rfl (lv_at hl 2 rfl) ?_
      refine lv_aload_n hx hb d_M_letter_5 rfl (lv_at hl 0 rfl) ?_
      refine va_get (D := (dC, dI)) (ci := 4) (v := .int v_count) (C := R_M) (T := F_M) (N := 15) hx hb hts lay_M hown hK hP 0 rfl rfl 4 (by decide) (hts _ flk_M_85) (fun _ h9 => h9) rfl d_M_letter_6 ?_
      refine lv_icmp_ge (tgt := 127) hx hb d_M_letter_9 (by decide) (fun c_9 => ?_) (fun c_9 => ?_)
      · have h := of_pos h c_9
        refine lv_iconst (v := (-1 : Int32)) hx hb d_M_letter_127 (by decide) ?_
        rw [hQ]
        exact W.iret (v := (-1 : Int32)) hx hb hr (fun t ht hW => ⟨⟨(-1 : Int32), (), rfl, Prod.mk.inj (Option.some.inj h), by rw [ht]; exact hP, va_K.moved hW.alike hK, hD⟩, hS.F ht⟩) hS.2.2 d_M_letter_128
      · have h := of_neg h c_9
        refine lv_iload_n hx hb d_M_letter_12 rfl (lv_at hl 1 rfl) ?_
        refine lv_if_lt (tgt := 127) hx hb d_M_letter_13 (by decide) (fun c_13 => ?_) (fun c_13 => ?_)
        · have h := of_pos h c_13
          refine lv_iconst (v := (-1 : Int32)) hx hb d_M_letter_127 (by decide) ?_
          rw [hQ]
          exact W.iret (v := (-1 : Int32)) hx hb hr (fun t ht hW => ⟨⟨(-1 : Int32), (), rfl, Prod.mk.inj (Option.some.inj h), by rw [ht]; exact hP, va_K.moved hW.alike hK, hD⟩, hS.F ht⟩) hS.2.2 d_M_letter_128
        · have h := of_neg h c_13
          refine lv_bipush (v := (nI 7)) hx hb d_M_letter_16 (by decide) ?_
          refine lv_bipush (v := (nI 7)) hx hb d_M_letter_18 (by decide) ?_
          refine lv_aload_n hx hb d_M_letter_20 rfl (lv_at hl 0 rfl) ?_
          refine va_get (D := (dC, dI)) (ci := 4) (v := .ref h_many) (C := R_M) (T := F_M) (N := 15) hx hb hts lay_M hown hK hP 0 rfl rfl 5 (by decide) (hts _ flk_M_20) (fun _ h9 => h9) rfl d_M_letter_21 ?_
          refine lv_iload_n hx hb d_M_letter_24 rfl (lv_at hl 2 rfl) ?_
          obtain ⟨g_25, h⟩ := of_guard h
          refine va_iald hx hb hK hP 1 0 rfl rfl (inR_in g_25) d_M_letter_25 ?_
          refine lv_imul hx hb d_M_letter_26 ?_
          refine lv_iadd hx hb d_M_letter_27 ?_
          refine lv_istore (lv' := [(4, .int ((nI 7) + ((nI 7) * (v_many z3.toNatClampNeg)))), (0, .ref h_o), (2, .int z2), (3, .int z3)]) hx hb d_M_letter_28 hl (by decide) rfl (fun ls hl => ?_)
          refine lv_iload_n hx hb d_M_letter_30 rfl (lv_at hl 2 rfl) ?_
          refine lv_iload hx hb d_M_letter_31 (lv_at hl 0 rfl) ?_
          refine lv_icmp_ge (tgt := 92) hx hb d_M_letter_33 (by decide) (fun c_33 => ?_) (fun c_33 => ?_)
          · have h := of_pos h c_33
            refine lv_iload_n hx hb d_M_letter_92 rfl (lv_at hl 2 rfl) ?_
            refine lv_iload hx hb d_M_letter_93 (lv_at hl 0 rfl) ?_
            refine lv_isub hx hb d_M_letter_95 ?_
            refine lv_istore_n (lv' := [(2, .int (z2 - ((nI 7) + ((nI 7) * (v_many z3.toNatClampNeg))))), (4, .int ((nI 7) + ((nI 7) * (v_many z3.toNatClampNeg)))), (0, .ref h_o), (3, .int z3)]) hx hb d_M_letter_96 rfl hl (by decide) rfl (fun ls hl => ?_)
            refine lv_iload_n hx hb d_M_letter_97 rfl (lv_at hl 0 rfl) ?_
            refine lv_if_ne (tgt := 118) hx hb d_M_letter_98 (by decide) (fun c_98 => ?_) (fun c_98 => ?_)
            · have h := of_neg h c_98
              refine lv_iinc (v := (z2 - ((nI 7) + ((nI 7) * (v_many z3.toNatClampNeg)))) + (-1 : Int32)) (lv' := [(2, .int ((z2 - ((nI 7) + ((nI 7) * (v_many z3.toNatClampNeg)))) + (-1 : Int32))), (4, .int ((nI 7) + ((nI 7) * (v_many z3.toNatClampNeg)))), (0, .ref h_o), (3, .int z3)]) hx hb d_M_letter_118 hl (k := 0) rfl rfl (by decide) rfl (fun ls hl => ?_)
              refine lv_iinc (v := z3 + (nI 1)) (lv' := [(3, .int (z3 + (nI 1))), (2, .int ((z2 - ((nI 7) + ((nI 7) * (v_many z3.toNatClampNeg)))) + (-1 : Int32))), (4, .int ((nI 7) + ((nI 7) * (v_many z3.toNatClampNeg)))), (0, .ref h_o)]) hx hb d_M_letter_121 hl (k := 3) rfl rfl (by decide) rfl (fun ls hl => ?_)
              refine lv_goto (tgt := 4) hx hb d_M_letter_124 (by decide) ?_
              exact ih ((z2 - ((nI 7) + ((nI 7) * (v_many z3.toNatClampNeg)))) + (-1 : Int32)) (z3 + (nI 1)) h _ _ hP hD hS ls (lv_sub hl [3, 1, 0] rfl)
            · have h := of_pos h c_98
              refine lv_iload_n hx hb d_M_letter_101 rfl (lv_at hl 3 rfl) ?_
              refine lv_iconst (v := (nI 1)) hx hb d_M_letter_102 (by decide) ?_
              refine lv_iadd hx hb d_M_letter_103 ?_
              refine lv_aload_n hx hb d_M_letter_104 rfl (lv_at hl 2 rfl) ?_
              refine va_get (D := (dC, dI)) (ci := 4) (v := .int v_count) (C := R_M) (T := F_M) (N := 15) hx hb hts lay_M hown hK hP 0 rfl rfl 4 (by decide) (hts _ flk_M_85) (fun _ h9 => h9) rfl d_M_letter_105 ?_
              refine lv_icmp_ge (tgt := 116) hx hb d_M_letter_108 (by decide) (fun c_108 => ?_) (fun c_108 => ?_)
              · have h := of_pos h c_108
                refine lv_iconst (v := (-1 : Int32)) hx hb d_M_letter_116 (by decide) ?_
                rw [hQ]
                exact W.iret (v := (-1 : Int32)) hx hb hr (fun t ht hW => ⟨⟨(-1 : Int32), (), rfl, Prod.mk.inj (Option.some.inj h), by rw [ht]; exact hP, va_K.moved hW.alike hK, hD⟩, hS.F ht⟩) hS.2.2 d_M_letter_117
              · have h := of_neg h c_108
                refine lv_bipush (v := (nI 59)) hx hb d_M_letter_111 (by decide) ?_
                refine lv_goto (tgt := 117) hx hb d_M_letter_113 (by decide) ?_
                rw [hQ]
                exact W.iret (v := (nI 59)) hx hb hr (fun t ht hW => ⟨⟨(nI 59), (), rfl, Prod.mk.inj (Option.some.inj h), by rw [ht]; exact hP, va_K.moved hW.alike hK, hD⟩, hS.F ht⟩) hS.2.2 d_M_letter_117
          · have h := of_neg h c_33
            refine lv_iload_n hx hb d_M_letter_36 rfl (lv_at hl 2 rfl) ?_
            refine lv_bipush (v := (nI 8)) hx hb d_M_letter_37 (by decide) ?_
            refine lv_isub hx hb d_M_letter_39 ?_
            refine lv_istore (lv' := [(5, .int (z2 - (nI 8))), (4, .int ((nI 7) + ((nI 7) * (v_many z3.toNatClampNeg)))), (0, .ref h_o), (2, .int z2), (3, .int z3)]) hx hb d_M_letter_40 hl (by decide) rfl (fun ls hl => ?_)
            refine lv_iload hx hb d_M_letter_42 (lv_at hl 0 rfl) ?_
            refine lv_if_ge (tgt := 54) hx hb d_M_letter_44 (by decide) (fun c_44 => ?_) (fun c_44 => ?_)
            · have h := of_pos h c_44
              refine lv_iload hx hb d_M_letter_54 (lv_at hl 0 rfl) ?_
              refine lv_bipush (v := (nI 7)) hx hb d_M_letter_56 (by decide) ?_
              refine lv_irem hx hb d_M_letter_58 (by decide) ?_
              refine lv_bipush (v := (nI 6)) hx hb d_M_letter_59 (by decide) ?_
              refine lv_icmp_ne (tgt := 69) hx hb d_M_letter_61 (by decide) (fun c_61 => ?_) (fun c_61 => ?_)
              · have h := of_neg h c_61
                refine lv_aload_n hx hb d_M_letter_69 rfl (lv_at hl 2 rfl) ?_
                refine va_get (D := (dC, dI)) (ci := 4) (v := .ref h_codes) (C := R_M) (T := F_M) (N := 15) hx hb hts lay_M hown hK hP 0 rfl rfl 6 (by decide) (hts _ flk_M_23) (fun _ h9 => h9) rfl d_M_letter_70 ?_
                refine lv_iconst (v := (nI 3)) hx hb d_M_letter_73 (by decide) ?_
                refine lv_iload_n hx hb d_M_letter_74 rfl (lv_at hl 4 rfl) ?_
                refine lv_imul hx hb d_M_letter_75 ?_
                refine lv_iload hx hb d_M_letter_76 (lv_at hl 0 rfl) ?_
                refine lv_bipush (v := (nI 7)) hx hb d_M_letter_78 (by decide) ?_
                refine lv_idiv hx hb d_M_letter_80 (by decide) ?_
                refine lv_iadd hx hb d_M_letter_81 ?_
                obtain ⟨g_82, h⟩ := of_guard h
                refine va_iald hx hb hK hP 2 1 rfl rfl (inR_in g_82) d_M_letter_82 ?_
                refine lv_iload hx hb d_M_letter_83 (lv_at hl 0 rfl) ?_
                refine lv_bipush (v := (nI 7)) hx hb d_M_letter_85 (by decide) ?_
                refine lv_irem hx hb d_M_letter_87 (by decide) ?_
                have hPc := hP.sub (ws' := []) [] rfl
                have hDc := hD.sub (ws' := []) [] (by decide) rfl
                have hKc := hK.sub (tys' := []) [] rfl
                have hFc := va_free (wc := []) hD hS hA [] rfl
                obtain ⟨v_88, hc_88, h⟩ := of_bind h
                refine va_calli (va_runS (As := [.int (v_codes (((nI 3) * z3) + ((z2 - (nI 8)) / (nI 7))).toNatClampNeg), .int (irm (z2 - (nI 8)) (nI 7))]) (rest := []) ⟨hx, hb, hml, hown, hts⟩ (c_M_letterOf l dC dI H.size (v_codes (((nI 3) * z3) + ((z2 - (nI 8)) / (nI 7))).toNatClampNeg) (irm (z2 - (nI 8)) (nI 7)) v_88.1 v_88.2 hc_88) (va_cwS 2 hts (gS mlk_M_112 sta_M_letterOf ini_M cod_M_letterOf) rfl rfl rfl (by decide +kernel) ⟨Nat.le_of_ble_eq_true rfl, Nat.le_of_ble_eq_true rfl⟩) ⟨fun a U g mk q => by obtain ⟨q0, q1, qP, qK, qD⟩ := q; exact ⟨q0, q1, qP, va_K.moved (u := U) (U := U.calling g mk a) (Vm.Alike.refl U.vm) qK, qD⟩, fun U hU hW => ⟨rfl, by rw [hU], by rw [hU]; exact hPc, va_K.moved hW.alike hKc, hDc.weaken (fun _ _ _ _ => trivial)⟩⟩ rfl rfl hl.1 rfl (lv_room (Nat.le_of_ble_eq_true rfl)) d_M_letter_88 ⟨Nat.le_of_ble_eq_true rfl, Nat.le_of_ble_eq_true rfl⟩) hS (fun q _ h9 => hFc q h9) hFc (fun r_88 u t H1 locs ht hvm hw hB hz1 hk1 hS => ?_)
                obtain ⟨rfl, rfl⟩ := hw
                obtain ⟨hP1, hK1, hD1⟩ := hB
                rw [ht] at hP1
                obtain ⟨hP, hD⟩ := va_join (wr := [(h_o, .inr (4, [.ref h_line, .int v_typed, .ref h_fact, .ref h_marked, .int v_count, .ref h_many, .ref h_codes, .int v_oldCount, .ref h_oldMany, .ref h_oldCodes, .int v_read, .ref h_body, .ref h_roundOf, .ref h_fresh, .int v_last])), (h_many, .inl (k_many, 2, .inl v_many)), (h_codes, .inl (k_codes, 6, .inl v_codes))]) (w1 := []) hP hD [] [0, 1, 2] rfl rfl (by decide) (by decide) hk1 hFc hP1 hD1
                have hP := hP.sub (ws' := [(h_o, .inr (4, [.ref h_line, .int v_typed, .ref h_fact, .ref h_marked, .int v_count, .ref h_many, .ref h_codes, .int v_oldCount, .ref h_oldMany, .ref h_oldCodes, .int v_read, .ref h_body, .ref h_roundOf, .ref h_fresh, .int v_last])), (h_many, .inl (k_many, 2, .inl v_many)), (h_codes, .inl (k_codes, 6, .inl v_codes))]) [0, 1, 2] rfl
                have hD := hD.sub (ws' := [(h_o, .inr (4, [.ref h_line, .int v_typed, .ref h_fact, .ref h_marked, .int v_count, .ref h_many, .ref h_codes, .int v_oldCount, .ref h_oldMany, .ref h_oldCodes, .int v_read, .ref h_body, .ref h_roundOf, .ref h_fresh, .int v_last])), (h_many, .inl (k_many, 2, .inl v_many)), (h_codes, .inl (k_codes, 6, .inl v_codes))]) [0, 1, 2] (by decide) rfl
                generalize H1 = H at hP hS ⊢
                rw [hQ]
                exact W.iret (v := v_88.1) hx hb hr (fun t ht hW => ⟨⟨v_88.1, (), rfl, Prod.mk.inj (Option.some.inj h), by rw [ht]; exact hP, va_K.moved hW.alike hK, hD⟩, hS.F ht⟩) hS.2.2 d_M_letter_91
              · have h := of_pos h c_61
                refine lv_bipush (v := (nI 44)) hx hb d_M_letter_64 (by decide) ?_
                refine lv_goto (tgt := 91) hx hb d_M_letter_66 (by decide) ?_
                rw [hQ]
                exact W.iret (v := (nI 44)) hx hb hr (fun t ht hW => ⟨⟨(nI 44), (), rfl, Prod.mk.inj (Option.some.inj h), by rw [ht]; exact hP, va_K.moved hW.alike hK, hD⟩, hS.F ht⟩) hS.2.2 d_M_letter_91
            · have h := of_neg h c_44
              refine lv_iload_n hx hb d_M_letter_47 rfl (lv_at hl 3 rfl) ?_
              have hPc := hP.sub (ws' := []) [] rfl
              have hDc := hD.sub (ws' := []) [] (by decide) rfl
              have hKc := hK.sub (tys' := []) [] rfl
              have hFc := va_free (wc := []) hD hS hA [] rfl
              obtain ⟨v_48, hc_48, h⟩ := of_bind h
              refine va_calli (va_runS (As := [.int z2]) (rest := []) ⟨hx, hb, hml, hown, hts⟩ (c_M_head l dC dI H.size z2 v_48.1 v_48.2 hc_48) (va_cwS 1 hts (gS mlk_M_55 sta_M_head ini_M cod_M_head) rfl rfl rfl (by decide +kernel) ⟨Nat.le_of_ble_eq_true rfl, Nat.le_of_ble_eq_true rfl⟩) ⟨fun a U g mk q => by obtain ⟨q0, q1, qP, qK, qD⟩ := q; exact ⟨q0, q1, qP, va_K.moved (u := U) (U := U.calling g mk a) (Vm.Alike.refl U.vm) qK, qD⟩, fun U hU hW => ⟨rfl, by rw [hU], by rw [hU]; exact hPc, va_K.moved hW.alike hKc, hDc.weaken (fun _ _ _ _ => trivial)⟩⟩ rfl rfl hl.1 rfl (lv_room (Nat.le_of_ble_eq_true rfl)) d_M_letter_48 ⟨Nat.le_of_ble_eq_true rfl, Nat.le_of_ble_eq_true rfl⟩) hS (fun q _ h9 => hFc q h9) hFc (fun r_48 u t H1 locs ht hvm hw hB hz1 hk1 hS => ?_)
              obtain ⟨rfl, rfl⟩ := hw
              obtain ⟨hP1, hK1, hD1⟩ := hB
              rw [ht] at hP1
              obtain ⟨hP, hD⟩ := va_join (wr := [(h_o, .inr (4, [.ref h_line, .int v_typed, .ref h_fact, .ref h_marked, .int v_count, .ref h_many, .ref h_codes, .int v_oldCount, .ref h_oldMany, .ref h_oldCodes, .int v_read, .ref h_body, .ref h_roundOf, .ref h_fresh, .int v_last])), (h_many, .inl (k_many, 2, .inl v_many)), (h_codes, .inl (k_codes, 6, .inl v_codes))]) (w1 := []) hP hD [] [0, 1, 2] rfl rfl (by decide) (by decide) hk1 hFc hP1 hD1
              have hP := hP.sub (ws' := [(h_o, .inr (4, [.ref h_line, .int v_typed, .ref h_fact, .ref h_marked, .int v_count, .ref h_many, .ref h_codes, .int v_oldCount, .ref h_oldMany, .ref h_oldCodes, .int v_read, .ref h_body, .ref h_roundOf, .ref h_fresh, .int v_last])), (h_many, .inl (k_many, 2, .inl v_many)), (h_codes, .inl (k_codes, 6, .inl v_codes))]) [0, 1, 2] rfl
              have hD := hD.sub (ws' := [(h_o, .inr (4, [.ref h_line, .int v_typed, .ref h_fact, .ref h_marked, .int v_count, .ref h_many, .ref h_codes, .int v_oldCount, .ref h_oldMany, .ref h_oldCodes, .int v_read, .ref h_body, .ref h_roundOf, .ref h_fresh, .int v_last])), (h_many, .inl (k_many, 2, .inl v_many)), (h_codes, .inl (k_codes, 6, .inl v_codes))]) [0, 1, 2] (by decide) rfl
              generalize H1 = H at hP hS ⊢
              refine lv_goto (tgt := 91) hx hb d_M_letter_51 (by decide) ?_
              rw [hQ]
              exact W.iret (v := v_48.1) hx hb hr (fun t ht hW => ⟨⟨v_48.1, (), rfl, Prod.mk.inj (Option.some.inj h), by rw [ht]; exact hP, va_K.moved hW.alike hK, hD⟩, hS.F ht⟩) hS.2.2 d_M_letter_91
  unfold m_M_letter at h
  refine lv_iload_n hx hb d_M_letter_0 rfl (lv_at hl 1 rfl) ?_
  refine lv_istore_n (lv' := [(2, .int x1), (0, .ref h_o), (1, .int x1)]) hx hb d_M_letter_1 rfl hl (by decide) rfl (fun ls hl => ?_)
  refine lv_iconst (v := (nI 0)) hx hb d_M_letter_2 (by decide) ?_
  refine lv_istore_n (lv' := [(3, .int (nI 0)), (2, .int x1), (0, .ref h_o), (1, .int x1)]) hx hb d_M_letter_3 rfl hl (by decide) rfl (fun ls hl => ?_)
  exact J_4 40 x1 (nI 0) h _ _ hP hD hS ls (lv_sub hl [2, 1, 0] rfl)
