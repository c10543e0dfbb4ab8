theorem d_P_bodyOf_0 : decode b_P_bodyOf 0 = .ok (.iload_n 1, 1) := by decide +kernel
theorem d_P_bodyOf_1 : decode b_P_bodyOf 1 = .ok (.ifCond .lt 20, 3) := by decide +kernel
theorem d_P_bodyOf_4 : decode b_P_bodyOf 4 = .ok (.iload_n 1, 1) := by decide +kernel
theorem d_P_bodyOf_5 : decode b_P_bodyOf 5 = .ok (.aload_n 0, 1) := by decide +kernel
theorem d_P_bodyOf_6 : decode b_P_bodyOf 6 = .ok (.getfield 15, 3) := by decide +kernel
theorem d_P_bodyOf_9 : decode b_P_bodyOf 9 = .ok (.if_icmp .ge 12, 3) := by decide +kernel
theorem d_P_bodyOf_12 : decode b_P_bodyOf 12 = .ok (.aload_n 0, 1) := by decide +kernel
theorem d_P_bodyOf_13 : decode b_P_bodyOf 13 = .ok (.getfield 9, 3) := by decide +kernel
theorem d_P_bodyOf_16 : decode b_P_bodyOf 16 = .ok (.iload_n 1, 1) := by decide +kernel
theorem d_P_bodyOf_17 : decode b_P_bodyOf 17 = .ok (.iaload, 1) := by decide +kernel
theorem d_P_bodyOf_18 : decode b_P_bodyOf 18 = .ok (.goto 4, 3) := by decide +kernel
theorem d_P_bodyOf_21 : decode b_P_bodyOf 21 = .ok (.iconst 0, 1) := by decide +kernel
theorem d_P_bodyOf_22 : decode b_P_bodyOf 22 = .ok (.ireturn, 1) := by decide +kernel
theorem d_P_contains_0 : decode b_P_contains 0 = .ok (.aload_n 0, 1) := by decide +kernel
theorem d_P_contains_1 : decode b_P_contains 1 = .ok (.iconst 0, 1) := by decide +kernel
theorem d_P_contains_2 : decode b_P_contains 2 = .ok (.invokevirtual 19, 3) := by decide +kernel
theorem d_P_contains_5 : decode b_P_contains 5 = .ok (.iload_n 1, 1) := by decide +kernel
theorem d_P_contains_6 : decode b_P_contains 6 = .ok (.if_icmp .eq 12, 3) := by decide +kernel
theorem d_P_contains_9 : decode b_P_contains 9 = .ok (.aload_n 0, 1) := by decide +kernel
theorem d_P_contains_10 : decode b_P_contains 10 = .ok (.iconst 1, 1) := by decide +kernel
theorem d_P_contains_11 : decode b_P_contains 11 = .ok (.invokevirtual 19, 3) := by decide +kernel
theorem d_P_contains_14 : decode b_P_contains 14 = .ok (.iload_n 1, 1) := by decide +kernel
theorem d_P_contains_15 : decode b_P_contains 15 = .ok (.if_icmp .ne 7, 3) := by decide +kernel
theorem d_P_contains_18 : decode b_P_contains 18 = .ok (.iconst 1, 1) := by decide +kernel
theorem d_P_contains_19 : decode b_P_contains 19 = .ok (.goto 4, 3) := by decide +kernel
theorem d_P_contains_22 : decode b_P_contains 22 = .ok (.iconst 0, 1) := by decide +kernel
theorem d_P_contains_23 : decode b_P_contains 23 = .ok (.ireturn, 1) := by decide +kernel
theorem d_P_append_0 : decode b_P_append 0 = .ok (.aload_n 0, 1) := by decide +kernel
theorem d_P_append_1 : decode b_P_append 1 = .ok (.getfield 15, 3) := by decide +kernel
theorem d_P_append_4 : decode b_P_append 4 = .ok (.iconst 2, 1) := by decide +kernel
theorem d_P_append_5 : decode b_P_append 5 = .ok (.if_icmp .lt 5, 3) := by decide +kernel
theorem d_P_append_8 : decode b_P_append 8 = .ok (.iconst (-1), 1) := by decide +kernel
theorem d_P_append_9 : decode b_P_append 9 = .ok (.ireturn, 1) := by decide +kernel
theorem d_P_append_10 : decode b_P_append 10 = .ok (.aload_n 0, 1) := by decide +kernel
theorem d_P_append_11 : decode b_P_append 11 = .ok (.getfield 9, 3) := by decide +kernel
theorem d_P_append_14 : decode b_P_append 14 = .ok (.aload_n 0, 1) := by decide +kernel
theorem d_P_append_15 : decode b_P_append 15 = .ok (.getfield 15, 3) := by decide +kernel
theorem d_P_append_18 : decode b_P_append 18 = .ok (.iload_n 1, 1) := by decide +kernel
theorem d_P_append_19 : decode b_P_append 19 = .ok (.iastore, 1) := by decide +kernel
theorem d_P_append_20 : decode b_P_append 20 = .ok (.aload_n 0, 1) := by decide +kernel
theorem d_P_append_21 : decode b_P_append 21 = .ok (.dup, 1) := by decide +kernel
theorem d_P_append_22 : decode b_P_append 22 = .ok (.getfield 15, 3) := by decide +kernel
theorem d_P_append_25 : decode b_P_append 25 = .ok (.iconst 1, 1) := by decide +kernel
theorem d_P_append_26 : decode b_P_append 26 = .ok (.iadd, 1) := by decide +kernel
theorem d_P_append_27 : decode b_P_append 27 = .ok (.putfield 15, 3) := by decide +kernel
theorem d_P_append_30 : decode b_P_append 30 = .ok (.aload_n 0, 1) := by decide +kernel
theorem d_P_append_31 : decode b_P_append 31 = .ok (.getfield 15, 3) := by decide +kernel
theorem d_P_append_34 : decode b_P_append 34 = .ok (.iconst 1, 1) := by decide +kernel
theorem d_P_append_35 : decode b_P_append 35 = .ok (.isub, 1) := by decide +kernel
theorem d_P_append_36 : decode b_P_append 36 = .ok (.ireturn, 1) := by decide +kernel
theorem d_P_remove_0 : decode b_P_remove 0 = .ok (.aload_n 0, 1) := by decide +kernel
theorem d_P_remove_1 : decode b_P_remove 1 = .ok (.iload_n 1, 1) := by decide +kernel
theorem d_P_remove_2 : decode b_P_remove 2 = .ok (.invokevirtual 19, 3) := by decide +kernel
theorem d_P_remove_5 : decode b_P_remove 5 = .ok (.ifCond .ne 5, 3) := by decide +kernel
theorem d_P_remove_8 : decode b_P_remove 8 = .ok (.iconst 0, 1) := by decide +kernel
theorem d_P_remove_9 : decode b_P_remove 9 = .ok (.ireturn, 1) := by decide +kernel
theorem d_P_remove_10 : decode b_P_remove 10 = .ok (.iload_n 1, 1) := by decide +kernel
theorem d_P_remove_11 : decode b_P_remove 11 = .ok (.ifCond .ne 15, 3) := by decide +kernel
theorem d_P_remove_14 : decode b_P_remove 14 = .ok (.aload_n 0, 1) := by decide +kernel
theorem d_P_remove_15 : decode b_P_remove 15 = .ok (.getfield 9, 3) := by decide +kernel
theorem d_P_remove_18 : decode b_P_remove 18 = .ok (.iconst 0, 1) := by decide +kernel
theorem d_P_remove_19 : decode b_P_remove 19 = .ok (.aload_n 0, 1) := by decide +kernel
theorem d_P_remove_20 : decode b_P_remove 20 = .ok (.getfield 9, 3) := by decide +kernel
theorem d_P_remove_23 : decode b_P_remove 23 = .ok (.iconst 1, 1) := by decide +kernel
theorem d_P_remove_24 : decode b_P_remove 24 = .ok (.iaload, 1) := by decide +kernel
theorem d_P_remove_25 : decode b_P_remove 25 = .ok (.iastore, 1) := by decide +kernel
theorem d_P_remove_26 : decode b_P_remove 26 = .ok (.aload_n 0, 1) := by decide +kernel
theorem d_P_remove_27 : decode b_P_remove 27 = .ok (.getfield 9, 3) := by decide +kernel
theorem d_P_remove_30 : decode b_P_remove 30 = .ok (.iconst 1, 1) := by decide +kernel
theorem d_P_remove_31 : decode b_P_remove 31 = .ok (.iconst 0, 1) := by decide +kernel
theorem d_P_remove_32 : decode b_P_remove 32 = .ok (.iastore, 1) := by decide +kernel
theorem d_P_remove_33 : decode b_P_remove 33 = .ok (.aload_n 0, 1) := by decide +kernel
theorem d_P_remove_34 : decode b_P_remove 34 = .ok (.dup, 1) := by decide +kernel
theorem d_P_remove_35 : decode b_P_remove 35 = .ok (.getfield 15, 3) := by decide +kernel
theorem d_P_remove_38 : decode b_P_remove 38 = .ok (.iconst 1, 1) := by decide +kernel
theorem d_P_remove_39 : decode b_P_remove 39 = .ok (.isub, 1) := by decide +kernel
theorem d_P_remove_40 : decode b_P_remove 40 = .ok (.putfield 15, 3) := by decide +kernel
theorem d_P_remove_43 : decode b_P_remove 43 = .ok (.iconst 1, 1) := by decide +kernel
theorem d_P_remove_44 : decode b_P_remove 44 = .ok (.ireturn, 1) := by decide +kernel
theorem d_P_become_0 : decode b_P_become 0 = .ok (.aload_n 0, 1) := by decide +kernel
theorem d_P_become_1 : decode b_P_become 1 = .ok (.iload_n 1, 1) := by decide +kernel
theorem d_P_become_2 : decode b_P_become 2 = .ok (.ifCond .ne 7, 3) := by decide +kernel
theorem d_P_become_5 : decode b_P_become 5 = .ok (.iconst 1, 1) := by decide +kernel
theorem d_P_become_6 : decode b_P_become 6 = .ok (.goto 4, 3) := by decide +kernel
theorem d_P_become_9 : decode b_P_become 9 = .ok (.iconst 2, 1) := by decide +kernel
theorem d_P_become_10 : decode b_P_become 10 = .ok (.putfield 15, 3) := by decide +kernel
theorem d_P_become_13 : decode b_P_become 13 = .ok (.aload_n 0, 1) := by decide +kernel
theorem d_P_become_14 : decode b_P_become 14 = .ok (.getfield 9, 3) := by decide +kernel
theorem d_P_become_17 : decode b_P_become 17 = .ok (.iconst 0, 1) := by decide +kernel
theorem d_P_become_18 : decode b_P_become 18 = .ok (.iload_n 1, 1) := by decide +kernel
theorem d_P_become_19 : decode b_P_become 19 = .ok (.ifCond .ne 7, 3) := by decide +kernel
theorem d_P_become_22 : decode b_P_become 22 = .ok (.iload_n 2, 1) := by decide +kernel
theorem d_P_become_23 : decode b_P_become 23 = .ok (.goto 4, 3) := by decide +kernel
theorem d_P_become_26 : decode b_P_become 26 = .ok (.iload_n 1, 1) := by decide +kernel
theorem d_P_become_27 : decode b_P_become 27 = .ok (.iastore, 1) := by decide +kernel
theorem d_P_become_28 : decode b_P_become 28 = .ok (.aload_n 0, 1) := by decide +kernel
theorem d_P_become_29 : decode b_P_become 29 = .ok (.getfield 9, 3) := by decide +kernel
theorem d_P_become_32 : decode b_P_become 32 = .ok (.iconst 1, 1) := by decide +kernel
theorem d_P_become_33 : decode b_P_become 33 = .ok (.iload_n 1, 1) := by decide +kernel
theorem d_P_become_34 : decode b_P_become 34 = .ok (.ifCond .ne 7, 3) := by decide +kernel
theorem d_P_become_37 : decode b_P_become 37 = .ok (.iconst 0, 1) := by decide +kernel
theorem d_P_become_38 : decode b_P_become 38 = .ok (.goto 4, 3) := by decide +kernel
theorem d_P_become_41 : decode b_P_become 41 = .ok (.iload_n 2, 1) := by decide +kernel
theorem d_P_become_42 : decode b_P_become 42 = .ok (.iastore, 1) := by decide +kernel
theorem d_P_become_43 : decode b_P_become 43 = .ok (.return_, 1) := by decide +kernel
theorem d_P_textLength_0 : decode b_P_textLength 0 = .ok (.bipush 8, 2) := by decide +kernel
theorem d_P_textLength_2 : decode b_P_textLength 2 = .ok (.bipush 7, 2) := by decide +kernel
theorem d_P_textLength_4 : decode b_P_textLength 4 = .ok (.iload_n 0, 1) := by decide +kernel
theorem d_P_textLength_5 : decode b_P_textLength 5 = .ok (.invokestatic 30, 3) := by decide +kernel
theorem d_P_textLength_8 : decode b_P_textLength 8 = .ok (.imul, 1) := by decide +kernel
theorem d_P_textLength_9 : decode b_P_textLength 9 = .ok (.iadd, 1) := by decide +kernel
theorem d_P_textLength_10 : decode b_P_textLength 10 = .ok (.iconst 1, 1) := by decide +kernel
theorem d_P_textLength_11 : decode b_P_textLength 11 = .ok (.isub, 1) := by decide +kernel
theorem d_P_textLength_12 : decode b_P_textLength 12 = .ok (.ireturn, 1) := by decide +kernel
theorem d_P_letterOf_0 : decode b_P_letterOf 0 = .ok (.iload_n 1, 1) := by decide +kernel
theorem d_P_letterOf_1 : decode b_P_letterOf 1 = .ok (.bipush 8, 2) := by decide +kernel
theorem d_P_letterOf_3 : decode b_P_letterOf 3 = .ok (.if_icmp .ge 10, 3) := by decide +kernel
theorem d_P_letterOf_6 : decode b_P_letterOf 6 = .ok (.ldc 35, 2) := by decide +kernel
theorem d_P_letterOf_8 : decode b_P_letterOf 8 = .ok (.iload_n 1, 1) := by decide +kernel
theorem d_P_letterOf_9 : decode b_P_letterOf 9 = .ok (.invokevirtual 37, 3) := by decide +kernel
theorem d_P_letterOf_12 : decode b_P_letterOf 12 = .ok (.ireturn, 1) := by decide +kernel
theorem d_P_letterOf_13 : decode b_P_letterOf 13 = .ok (.iload_n 0, 1) := by decide +kernel
theorem d_P_letterOf_14 : decode b_P_letterOf 14 = .ok (.iload_n 1, 1) := by decide +kernel
theorem d_P_letterOf_15 : decode b_P_letterOf 15 = .ok (.bipush 8, 2) := by decide +kernel
theorem d_P_letterOf_17 : decode b_P_letterOf 17 = .ok (.isub, 1) := by decide +kernel
theorem d_P_letterOf_18 : decode b_P_letterOf 18 = .ok (.bipush 7, 2) := by decide +kernel
theorem d_P_letterOf_20 : decode b_P_letterOf 20 = .ok (.idiv, 1) := by decide +kernel
theorem d_P_letterOf_21 : decode b_P_letterOf 21 = .ok (.invokestatic 43, 3) := by decide +kernel
theorem d_P_letterOf_24 : decode b_P_letterOf 24 = .ok (.istore_n 2, 1) := by decide +kernel
theorem d_P_letterOf_25 : decode b_P_letterOf 25 = .ok (.iload_n 2, 1) := by decide +kernel
theorem d_P_letterOf_26 : decode b_P_letterOf 26 = .ok (.ifCond .ge 5, 3) := by decide +kernel
theorem d_P_letterOf_29 : decode b_P_letterOf 29 = .ok (.iconst (-1), 1) := by decide +kernel
theorem d_P_letterOf_30 : decode b_P_letterOf 30 = .ok (.ireturn, 1) := by decide +kernel
theorem d_P_letterOf_31 : decode b_P_letterOf 31 = .ok (.iload_n 1, 1) := by decide +kernel
theorem d_P_letterOf_32 : decode b_P_letterOf 32 = .ok (.bipush 8, 2) := by decide +kernel
theorem d_P_letterOf_34 : decode b_P_letterOf 34 = .ok (.isub, 1) := by decide +kernel
theorem d_P_letterOf_35 : decode b_P_letterOf 35 = .ok (.bipush 7, 2) := by decide +kernel
theorem d_P_letterOf_37 : decode b_P_letterOf 37 = .ok (.irem, 1) := by decide +kernel
theorem d_P_letterOf_38 : decode b_P_letterOf 38 = .ok (.tableswitch 74 0 5 #[38, 48, 51, 74, 61, 71], 38) := by decide +kernel
theorem d_P_letterOf_76 : decode b_P_letterOf 76 = .ok (.ldc 46, 2) := by decide +kernel
theorem d_P_letterOf_78 : decode b_P_letterOf 78 = .ok (.iload_n 2, 1) := by decide +kernel
theorem d_P_letterOf_79 : decode b_P_letterOf 79 = .ok (.invokestatic 48, 3) := by decide +kernel
theorem d_P_letterOf_82 : decode b_P_letterOf 82 = .ok (.invokevirtual 37, 3) := by decide +kernel
theorem d_P_letterOf_85 : decode b_P_letterOf 85 = .ok (.ireturn, 1) := by decide +kernel
theorem d_P_letterOf_86 : decode b_P_letterOf 86 = .ok (.bipush 40, 2) := by decide +kernel
theorem d_P_letterOf_88 : decode b_P_letterOf 88 = .ok (.ireturn, 1) := by decide +kernel
theorem d_P_letterOf_89 : decode b_P_letterOf 89 = .ok (.ldc 51, 2) := by decide +kernel
theorem d_P_letterOf_91 : decode b_P_letterOf 91 = .ok (.iload_n 2, 1) := by decide +kernel
theorem d_P_letterOf_92 : decode b_P_letterOf 92 = .ok (.invokestatic 53, 3) := by decide +kernel
theorem d_P_letterOf_95 : decode b_P_letterOf 95 = .ok (.invokevirtual 37, 3) := by decide +kernel
theorem d_P_letterOf_98 : decode b_P_letterOf 98 = .ok (.ireturn, 1) := by decide +kernel
theorem d_P_letterOf_99 : decode b_P_letterOf 99 = .ok (.ldc 51, 2) := by decide +kernel
theorem d_P_letterOf_101 : decode b_P_letterOf 101 = .ok (.iload_n 2, 1) := by decide +kernel
theorem d_P_letterOf_102 : decode b_P_letterOf 102 = .ok (.invokestatic 56, 3) := by decide +kernel
theorem d_P_letterOf_105 : decode b_P_letterOf 105 = .ok (.invokevirtual 37, 3) := by decide +kernel
theorem d_P_letterOf_108 : decode b_P_letterOf 108 = .ok (.ireturn, 1) := by decide +kernel
theorem d_P_letterOf_109 : decode b_P_letterOf 109 = .ok (.bipush 41, 2) := by decide +kernel
theorem d_P_letterOf_111 : decode b_P_letterOf 111 = .ok (.ireturn, 1) := by decide +kernel
theorem d_P_letterOf_112 : decode b_P_letterOf 112 = .ok (.bipush 44, 2) := by decide +kernel
theorem d_P_letterOf_114 : decode b_P_letterOf 114 = .ok (.ireturn, 1) := by decide +kernel
theorem d_P_letterAt_0 : decode b_P_letterAt 0 = .ok (.iload_n 1, 1) := by decide +kernel
theorem d_P_letterAt_1 : decode b_P_letterAt 1 = .ok (.istore_n 2, 1) := by decide +kernel
theorem d_P_letterAt_2 : decode b_P_letterAt 2 = .ok (.iconst 0, 1) := by decide +kernel
theorem d_P_letterAt_3 : decode b_P_letterAt 3 = .ok (.istore_n 3, 1) := by decide +kernel
theorem d_P_letterAt_4 : decode b_P_letterAt 4 = .ok (.iload_n 3, 1) := by decide +kernel
theorem d_P_letterAt_5 : decode b_P_letterAt 5 = .ok (.aload_n 0, 1) := by decide +kernel
theorem d_P_letterAt_6 : decode b_P_letterAt 6 = .ok (.getfield 15, 3) := by decide +kernel
theorem d_P_letterAt_9 : decode b_P_letterAt 9 = .ok (.if_icmp .ge 67, 3) := by decide +kernel
theorem d_P_letterAt_12 : decode b_P_letterAt 12 = .ok (.iload_n 2, 1) := by decide +kernel
theorem d_P_letterAt_13 : decode b_P_letterAt 13 = .ok (.ifCond .lt 63, 3) := by decide +kernel
theorem d_P_letterAt_16 : decode b_P_letterAt 16 = .ok (.aload_n 0, 1) := by decide +kernel
theorem d_P_letterAt_17 : decode b_P_letterAt 17 = .ok (.getfield 9, 3) := by decide +kernel
theorem d_P_letterAt_20 : decode b_P_letterAt 20 = .ok (.iload_n 3, 1) := by decide +kernel
theorem d_P_letterAt_21 : decode b_P_letterAt 21 = .ok (.iaload, 1) := by decide +kernel
theorem d_P_letterAt_22 : decode b_P_letterAt 22 = .ok (.invokestatic 23, 3) := by decide +kernel
theorem d_P_letterAt_25 : decode b_P_letterAt 25 = .ok (.istore 4, 2) := by decide +kernel
theorem d_P_letterAt_27 : decode b_P_letterAt 27 = .ok (.iload_n 2, 1) := by decide +kernel
theorem d_P_letterAt_28 : decode b_P_letterAt 28 = .ok (.iload 4, 2) := by decide +kernel
theorem d_P_letterAt_30 : decode b_P_letterAt 30 = .ok (.if_icmp .ge 14, 3) := by decide +kernel
theorem d_P_letterAt_33 : decode b_P_letterAt 33 = .ok (.aload_n 0, 1) := by decide +kernel
theorem d_P_letterAt_34 : decode b_P_letterAt 34 = .ok (.getfield 9, 3) := by decide +kernel
theorem d_P_letterAt_37 : decode b_P_letterAt 37 = .ok (.iload_n 3, 1) := by decide +kernel
theorem d_P_letterAt_38 : decode b_P_letterAt 38 = .ok (.iaload, 1) := by decide +kernel
theorem d_P_letterAt_39 : decode b_P_letterAt 39 = .ok (.iload_n 2, 1) := by decide +kernel
theorem d_P_letterAt_40 : decode b_P_letterAt 40 = .ok (.invokestatic 26, 3) := by decide +kernel
theorem d_P_letterAt_43 : decode b_P_letterAt 43 = .ok (.ireturn, 1) := by decide +kernel
theorem d_P_letterAt_44 : decode b_P_letterAt 44 = .ok (.iload_n 2, 1) := by decide +kernel
theorem d_P_letterAt_45 : decode b_P_letterAt 45 = .ok (.iload 4, 2) := by decide +kernel
theorem d_P_letterAt_47 : decode b_P_letterAt 47 = .ok (.if_icmp .ne 16, 3) := by decide +kernel
theorem d_P_letterAt_50 : decode b_P_letterAt 50 = .ok (.iload_n 3, 1) := by decide +kernel
theorem d_P_letterAt_51 : decode b_P_letterAt 51 = .ok (.iconst 1, 1) := by decide +kernel
theorem d_P_letterAt_52 : decode b_P_letterAt 52 = .ok (.iadd, 1) := by decide +kernel
theorem d_P_letterAt_53 : decode b_P_letterAt 53 = .ok (.aload_n 0, 1) := by decide +kernel
theorem d_P_letterAt_54 : decode b_P_letterAt 54 = .ok (.getfield 15, 3) := by decide +kernel
theorem d_P_letterAt_57 : decode b_P_letterAt 57 = .ok (.if_icmp .ge 6, 3) := by decide +kernel
theorem d_P_letterAt_60 : decode b_P_letterAt 60 = .ok (.bipush 59, 2) := by decide +kernel
theorem d_P_letterAt_62 : decode b_P_letterAt 62 = .ok (.ireturn, 1) := by decide +kernel
theorem d_P_letterAt_63 : decode b_P_letterAt 63 = .ok (.iload_n 2, 1) := by decide +kernel
theorem d_P_letterAt_64 : decode b_P_letterAt 64 = .ok (.iload 4, 2) := by decide +kernel
theorem d_P_letterAt_66 : decode b_P_letterAt 66 = .ok (.iconst 1, 1) := by decide +kernel
theorem d_P_letterAt_67 : decode b_P_letterAt 67 = .ok (.iadd, 1) := by decide +kernel
theorem d_P_letterAt_68 : decode b_P_letterAt 68 = .ok (.isub, 1) := by decide +kernel
theorem d_P_letterAt_69 : decode b_P_letterAt 69 = .ok (.istore_n 2, 1) := by decide +kernel
theorem d_P_letterAt_70 : decode b_P_letterAt 70 = .ok (.iinc 3 1, 3) := by decide +kernel
theorem d_P_letterAt_73 : decode b_P_letterAt 73 = .ok (.goto (-69), 3) := by decide +kernel
theorem d_P_letterAt_76 : decode b_P_letterAt 76 = .ok (.iconst (-1), 1) := by decide +kernel
theorem d_P_letterAt_77 : decode b_P_letterAt 77 = .ok (.ireturn, 1) := by decide +kernel
set_option maxHeartbeats 1000000 in
set_option maxRecDepth 100000 in
theorem c_P_bodyOf (l : Launch) (dC : Nat → ClassId) (dI : Nat → Nat → Nat) (h_o h_bodies : Nat) (k_bodies : ClassId) (sz : Nat) (v_count : Int32) (v_bodies : Nat → Int32) (x1 : Int32) (r0 : Int32) (u0 : Unit) (h : m_P_bodyOf v_count v_bodies x1 = some (r0, u0)) : Met l y_P_bodyOf w_P_bodyOf ({ frames := 0, cells := 0, slots := 0, locals := 0 } : Room) (va_Pc [.ref h_o, .int x1] (fun U => U.heap.size = sz ∧ va_P (dC, dI) classes [(h_o, .inr (2, [.ref h_bodies, .int v_count])), (h_bodies, .inl (k_bodies, 2, .inl v_bodies))] U.heap ∧ va_K (dC, dI) classes [(k_bodies, .int)] U ∧ va_D (fun _ => True) [(h_o, .inr (2, [.ref h_bodies, .int v_count])), (h_bodies, .inl (k_bodies, 2, .inl v_bodies))])) (va_Qi (fun (r : Int32) (u : Unit) => r = r0 ∧ u = u0) (fun (u : Unit) (t : State) => va_P (dC, dI) classes [(h_o, .inr (2, [.ref h_bodies, .int v_count])), (h_bodies, .inl (k_bodies, 2, .inl v_bodies))] t.heap ∧ va_K (dC, dI) classes [(k_bodies, .int)] t ∧ va_D (va_A [(h_o, .inr (2, [.ref h_bodies, .int v_count])), (h_bodies, .inl (k_bodies, 2, .inl v_bodies))] sz) [(h_o, .inr (2, [.ref h_bodies, .int v_count])), (h_bodies, .inl (k_bodies, 2, .inl v_bodies))]) (va_A [(h_o, .inr (2, [.ref h_bodies, .int v_count])), (h_bodies, .inl (k_bodies, 2, .inl v_bodies))] sz)) 0 0 (va_A [(h_o, .inr (2, [.ref h_bodies, .int v_count])), (h_bodies, .inl (k_bodies, 2, .inl v_bodies))] sz) := by
  refine Met.ofW (cc := b_P_bodyOf) (maxL := 2) (ret := (some .int)) (by decide) rfl ?_
  intro p e s m args below meth c s₁ B hml hv
  obtain ⟨rfl, hsz, hP, hK, hD0⟩ := hv
  have hx := B.exec
  have hb := B.bytes
  have hr := B.returns
  have hts0 := atoms_spec (ws := w_P_bodyOf) B.pre
  have hts : ∀ w ∈ lw_gd, w.before ([.ref h_o, .int x1] : List Value).toArray s = true := fun w h9 => hts0 w (List.mem_cons_of_mem _ h9)
  have hown : s.vm.findClass R_P = some m.cls := findClass_of_methodNamed B.named
  have hlocks := B.notSynchronized
  subst hsz
  have hD := hD0.self (sz := s.heap.size)
  generalize hAe : va_A [(h_o, .inr (2, [.ref h_bodies, .int v_count])), (h_bodies, .inl (k_bodies, 2, .inl v_bodies))] s.heap.size = A at hD ⊢
  have hA : ∀ q : Nat, s.heap.size ≤ q → A q := fun q h9 => by rw [← hAe]; exact Or.inr h9
  obtain ⟨H, eH⟩ : ∃ H : Heap, H = s.heap := ⟨_, rfl⟩
  have hS : va_S A s.heap H [] := by rw [eH]; exact va_S.rf
  have hP : va_P (dC, dI) classes [(h_o, .inr (2, [.ref h_bodies, .int v_count])), (h_bodies, .inl (k_bodies, 2, .inl v_bodies))] H := by rw [eH]; exact hP
  refine W_gen (fun Q hQ => ?_)
  refine W_heap eH ?_
  clear eH
  have hl := lv_entry ([.ref h_o, .int x1]) (n := 2) (Nat.le_of_ble_eq_true rfl)
  rw [lg_entry_eq]
  generalize (lg_sl ([.ref h_o, .int x1]) ++ List.replicate (2 - (lg_sl ([.ref h_o, .int x1])).length) Slot.unset).toArray = ls at hl ⊢
  have hl : lv_has ls 2 [(0, .ref h_o), (1, .int x1)] := hl
  unfold m_P_bodyOf at h
  refine lv_iload_n hx hb d_P_bodyOf_0 rfl (lv_at hl 1 rfl) ?_
  refine lv_if_lt (tgt := 21) hx hb d_P_bodyOf_1 (by decide) (fun c_1 => ?_) (fun c_1 => ?_)
  · have h := of_pos h c_1
    refine lv_iconst (v := (nI 0)) hx hb d_P_bodyOf_21 (by decide) ?_
    rw [hQ]
    exact W.iret (v := (nI 0)) hx hb hr (fun t ht hW => ⟨⟨(nI 0), (), rfl, Prod.mk.inj (Option.some.inj h), by rw [ht]; exact hP, va_K.moved hW.alike hK, hD⟩, hS.F ht⟩) hS.2.2 d_P_bodyOf_22
  · have h := of_neg h c_1
    refine lv_iload_n hx hb d_P_bodyOf_4 rfl (lv_at hl 1 rfl) ?_
    refine lv_aload_n hx hb d_P_bodyOf_5 rfl (lv_at hl 0 rfl) ?_
    refine va_get (D := (dC, dI)) (ci := 2) (v := .int v_count) (C := R_P) (T := F_P) (N := 2) hx hb hts lay_P hown hK hP 0 rfl rfl 1 (by decide) (hts _ flk_P_15) (fun _ h9 => h9) rfl d_P_bodyOf_6 ?_
    refine lv_icmp_ge (tgt := 21) hx hb d_P_bodyOf_9 (by decide) (fun c_9 => ?_) (fun c_9 => ?_)
    · have h := of_pos h c_9
      refine lv_iconst (v := (nI 0)) hx hb d_P_bodyOf_21 (by decide) ?_
      rw [hQ]
      exact W.iret (v := (nI 0)) hx hb hr (fun t ht hW => ⟨⟨(nI 0), (), rfl, Prod.mk.inj (Option.some.inj h), by rw [ht]; exact hP, va_K.moved hW.alike hK, hD⟩, hS.F ht⟩) hS.2.2 d_P_bodyOf_22
    · have h := of_neg h c_9
      refine lv_aload_n hx hb d_P_bodyOf_12 rfl (lv_at hl 0 rfl) ?_
      refine va_get (D := (dC, dI)) (ci := 2) (v := .ref h_bodies) (C := R_P) (T := F_P) (N := 2) hx hb hts lay_P hown hK hP 0 rfl rfl 0 (by decide) (hts _ flk_P_9) (fun _ h9 => h9) rfl d_P_bodyOf_13 ?_
      refine lv_iload_n hx hb d_P_bodyOf_16 rfl (lv_at hl 1 rfl) ?_
      obtain ⟨g_17, h⟩ := of_guard h
      refine va_iald hx hb hK hP 1 0 rfl rfl (inR_in g_17) d_P_bodyOf_17 ?_
      refine lv_goto (tgt := 22) hx hb d_P_bodyOf_18 (by decide) ?_
      rw [hQ]
      exact W.iret (v := v_bodies x1.toNatClampNeg) hx hb hr (fun t ht hW => ⟨⟨v_bodies x1.toNatClampNeg, (), rfl, Prod.mk.inj (Option.some.inj h), by rw [ht]; exact hP, va_K.moved hW.alike hK, hD⟩, hS.F ht⟩) hS.2.2 d_P_bodyOf_22
set_option maxHeartbeats 1000000 in
set_option maxRecDepth 100000 in
theorem c_P_contains (l : Launch) (dC : Nat → ClassId) (dI : Nat → Nat → Nat) (h_o h_bodies : Nat) (k_bodies : ClassId) (sz : Nat) (v_count : Int32) (v_bodies : Nat → Int32) (x1 : Int32) (r0 : Int32) (u0 : Unit) (h : m_P_contains v_count v_bodies x1 = some (r0, u0)) : Met l y_P_contains w_P_contains ({ frames := 1, cells := 0, slots := 0, locals := 21 } : Room) (va_Pc [.ref h_o, .int x1] (fun U => U.heap.size = sz ∧ va_P (dC, dI) classes [(h_o, .inr (2, [.ref h_bodies, .int v_count])), (h_bodies, .inl (k_bodies, 2, .inl v_bodies))] U.heap ∧ va_K (dC, dI) classes [(k_bodies, .int)] U ∧ va_D (fun _ => True) [(h_o, .inr (2, [.ref h_bodies, .int v_count])), (h_bodies, .inl (k_bodies, 2, .inl v_bodies))])) (va_Qi (fun (r : Int32) (u : Unit) => r = r0 ∧ u = u0) (fun (u : Unit) (t : State) => va_P (dC, dI) classes [(h_o, .inr (2, [.ref h_bodies, .int v_count])), (h_bodies, .inl (k_bodies, 2, .inl v_bodies))] t.heap ∧ va_K (dC, dI) classes [(k_bodies, .int)] t ∧ va_D (va_A [(h_o, .inr (2, [.ref h_bodies, .int v_count])), (h_bodies, .inl (k_bodies, 2, .inl v_bodies))] sz) [(h_o, .inr (2, [.ref h_bodies, .int v_count])), (h_bodies, .inl (k_bodies, 2, .inl v_bodies))]) (va_A [(h_o, .inr (2, [.ref h_bodies, .int v_count])), (h_bodies, .inl (k_bodies, 2, .inl v_bodies))] sz)) 0 0 (va_A [(h_o, .inr (2, [.ref h_bodies, .int v_count])), (h_bodies, .inl (k_bodies, 2, .inl v_bodies))] sz) := by
  refine Met.ofW (cc := b_P_contains) (maxL := 2) (ret := (some .boolean)) (by decide) rfl ?_
  intro p e s m args below meth c s₁ B hml hv
  obtain ⟨rfl, hsz, hP, hK, hD0⟩ := hv
  have hx := B.exec
  have hb := B.bytes
  have hr := B.returns
  have hts0 := atoms_spec (ws := w_P_contains) B.pre
  have hts : ∀ w ∈ lw_gd, w.before ([.ref h_o, .int x1] : List Value).toArray s = true := fun w h9 => hts0 w (List.mem_cons_of_mem _ h9)
  have hown : s.vm.findClass R_P = some m.cls := findClass_of_methodNamed B.named
  have hlocks := B.notSynchronized
  subst hsz
  have hD := hD0.self (sz := s.heap.size)
  generalize hAe : va_A [(h_o, .inr (2, [.ref h_bodies, .int v_count])), (h_bodies, .inl (k_bodies, 2, .inl v_bodies))] s.heap.size = A at hD ⊢
  have hA : ∀ q : Nat, s.heap.size ≤ q → A q := fun q h9 => by rw [← hAe]; exact Or.inr h9
  obtain ⟨H, eH⟩ : ∃ H : Heap, H = s.heap := ⟨_, rfl⟩
  have hS : va_S A s.heap H [] := by rw [eH]; exact va_S.rf
  have hP : va_P (dC, dI) classes [(h_o, .inr (2, [.ref h_bodies, .int v_count])), (h_bodies, .inl (k_bodies, 2, .inl v_bodies))] H := by rw [eH]; exact hP
  refine W_gen (fun Q hQ => ?_)
  refine W_heap eH ?_
  clear eH
  have hl := lv_entry ([.ref h_o, .int x1]) (n := 2) (Nat.le_of_ble_eq_true rfl)
  rw [lg_entry_eq]
  generalize (lg_sl ([.ref h_o, .int x1]) ++ List.replicate (2 - (lg_sl ([.ref h_o, .int x1])).length) Slot.unset).toArray = ls at hl ⊢
  have hl : lv_has ls 2 [(0, .ref h_o), (1, .int x1)] := hl
  unfold m_P_contains at h
  refine lv_aload_n hx hb d_P_contains_0 rfl (lv_at hl 0 rfl) ?_
  refine lv_iconst (v := (nI 0)) hx hb d_P_contains_1 (by decide) ?_
  have hPc := hP.sub (ws' := [(h_o, .inr (2, [.ref h_bodies, .int v_count])), (h_bodies, .inl (k_bodies, 2, .inl v_bodies))]) [0, 1] rfl
  have hDc := hD.sub (ws' := [(h_o, .inr (2, [.ref h_bodies, .int v_count])), (h_bodies, .inl (k_bodies, 2, .inl v_bodies))]) [0, 1] (by decide) rfl
  have hKc := hK.sub (tys' := [(k_bodies, .int)]) [0] rfl
  have hFc := va_free (wc := [(h_o, .inr (2, [.ref h_bodies, .int v_count])), (h_bodies, .inl (k_bodies, 2, .inl v_bodies))]) hD hS hA [0, 1] rfl
  obtain ⟨v_2, hc_2, h⟩ := of_bind h
  refine va_calli (va_runV (As := [.int (nI 0)]) (rest := []) ⟨hx, hb, hml, hown, hts⟩ (c_P_bodyOf l dC dI h_o h_bodies k_bodies H.size v_count v_bodies (nI 0) v_2.1 v_2.2 hc_2) (cwV 1 hts (gV mlk_P_19 ins_P_bodyOf sel_P_bodyOf ini_P cod_P_bodyOf) rfl rfl rfl (by decide +kernel) ⟨Nat.le_of_ble_eq_true rfl, Nat.le_of_ble_eq_true rfl⟩) ⟨fun a U g mk q => by obtain ⟨q0, q1, qP, qK, qD⟩ := q; exact ⟨q0, q1, qP, va_K.moved (u := U) (U := U.calling g mk a) (Vm.Alike.refl U.vm) qK, qD⟩, va_recv hKc hPc (ci := 2) (q0 := 0) rfl rfl, fun U hU hW => ⟨rfl, by rw [hU], by rw [hU]; exact hPc, va_K.moved hW.alike hKc, hDc.weaken (fun _ _ _ _ => trivial)⟩⟩ rfl rfl hl.1 rfl (lv_room (Nat.le_of_ble_eq_true rfl)) d_P_contains_2 ⟨Nat.le_of_ble_eq_true rfl, Nat.le_of_ble_eq_true rfl⟩) hS (fun q _ h9 => hFc q h9) hFc (fun r_2 u t H1 locs ht hvm hw hB hz1 hk1 hS => ?_)
  obtain ⟨rfl, rfl⟩ := hw
  obtain ⟨hP1, hK1, hD1⟩ := hB
  rw [ht] at hP1
  obtain ⟨hP, hD⟩ := va_join (wr := []) (w1 := [(h_o, .inr (2, [.ref h_bodies, .int v_count])), (h_bodies, .inl (k_bodies, 2, .inl v_bodies))]) hP hD [0, 1] [] rfl rfl (by decide) (by decide) hk1 hFc hP1 hD1
  have hP := hP.sub (ws' := [(h_o, .inr (2, [.ref h_bodies, .int v_count])), (h_bodies, .inl (k_bodies, 2, .inl v_bodies))]) [0, 1] rfl
  have hD := hD.sub (ws' := [(h_o, .inr (2, [.ref h_bodies, .int v_count])), (h_bodies, .inl (k_bodies, 2, .inl v_bodies))]) [0, 1] (by decide) rfl
  generalize H1 = H at hP hS ⊢
  refine lv_iload_n hx hb d_P_contains_5 rfl (lv_at hl 1 rfl) ?_
  refine lv_icmp_eq (tgt := 18) hx hb d_P_contains_6 (by decide) (fun c_6 => ?_) (fun c_6 => ?_)
  · have h := of_pos h c_6
    refine lv_iconst (v := (nI 1)) hx hb d_P_contains_18 (by decide) ?_
    refine lv_goto (tgt := 23) hx hb d_P_contains_19 (by decide) ?_
    rw [hQ]
    exact W.zret (v := (nI 1)) hx hb hr rfl (fun t ht hW => ⟨⟨(nI 1), (), rfl, Prod.mk.inj (Option.some.inj h), by rw [ht]; exact hP, va_K.moved hW.alike hK, hD⟩, hS.F ht⟩) hS.2.2 d_P_contains_23
  · have h := of_neg h c_6
    refine lv_aload_n hx hb d_P_contains_9 rfl (lv_at hl 0 rfl) ?_
    refine lv_iconst (v := (nI 1)) hx hb d_P_contains_10 (by decide) ?_
    have hPc := hP.sub (ws' := [(h_o, .inr (2, [.ref h_bodies, .int v_count])), (h_bodies, .inl (k_bodies, 2, .inl v_bodies))]) [0, 1] rfl
    have hDc := hD.sub (ws' := [(h_o, .inr (2, [.ref h_bodies, .int v_count])), (h_bodies, .inl (k_bodies, 2, .inl v_bodies))]) [0, 1] (by decide) rfl
    have hKc := hK.sub (tys' := [(k_bodies, .int)]) [0] rfl
    have hFc := va_free (wc := [(h_o, .inr (2, [.ref h_bodies, .int v_count])), (h_bodies, .inl (k_bodies, 2, .inl v_bodies))]) hD hS hA [0, 1] rfl
    obtain ⟨v_11, hc_11, h⟩ := of_bind h
    refine va_calli (va_runV (As := [.int (nI 1)]) (rest := []) ⟨hx, hb, hml, hown, hts⟩ (c_P_bodyOf l dC dI h_o h_bodies k_bodies H.size v_count v_bodies (nI 1) v_11.1 v_11.2 hc_11) (cwV 1 hts (gV mlk_P_19 ins_P_bodyOf sel_P_bodyOf ini_P cod_P_bodyOf) rfl rfl rfl (by decide +kernel) ⟨Nat.le_of_ble_eq_true rfl, Nat.le_of_ble_eq_true rfl⟩) ⟨fun a U g mk q => by obtain ⟨q0, q1, qP, qK, qD⟩ := q; exact ⟨q0, q1, qP, va_K.moved (u := U) (U := U.calling g mk a) (Vm.Alike.refl U.vm) qK, qD⟩, va_recv hKc hPc (ci := 2) (q0 := 0) rfl rfl, fun U hU hW => ⟨rfl, by rw [hU], by rw [hU]; exact hPc, va_K.moved hW.alike hKc, hDc.weaken (fun _ _ _ _ => trivial)⟩⟩ rfl rfl hl.1 rfl (lv_room (Nat.le_of_ble_eq_true rfl)) d_P_contains_11 ⟨Nat.le_of_ble_eq_true rfl, Nat.le_of_ble_eq_true rfl⟩) hS (fun q _ h9 => hFc q h9) hFc (fun r_11 u t H1 locs ht hvm hw hB hz1 hk1 hS => ?_)
    obtain ⟨rfl, rfl⟩ := hw
    obtain ⟨hP1, hK1, hD1⟩ := hB
    rw [ht] at hP1
    obtain ⟨hP, hD⟩ := va_join (wr := []) (w1 := [(h_o, .inr (2, [.ref h_bodies, .int v_count])), (h_bodies, .inl (k_bodies, 2, .inl v_bodies))]) hP hD [0, 1] [] rfl rfl (by decide) (by decide) hk1 hFc hP1 hD1
    have hP := hP.sub (ws' := [(h_o, .inr (2, [.ref h_bodies, .int v_count])), (h_bodies, .inl (k_bodies, 2, .inl v_bodies))]) [0, 1] rfl
    have hD := hD.sub (ws' := [(h_o, .inr (2, [.ref h_bodies, .int v_count])), (h_bodies, .inl (k_bodies, 2, .inl v_bodies))]) [0, 1] (by decide) rfl
    generalize H1 = H at hP hS ⊢
    refine lv_iload_n hx hb d_P_contains_14 rfl (lv_at hl 1 rfl) ?_
    refine lv_icmp_ne (tgt := 22) hx hb d_P_contains_15 (by decide) (fun c_15 => ?_) (fun c_15 => ?_)
    · have h := of_neg h c_15
      refine lv_iconst (v := (nI 0)) hx hb d_P_contains_22 (by decide) ?_
      rw [hQ]
      exact W.zret (v := (nI 0)) hx hb hr rfl (fun t ht hW => ⟨⟨(nI 0), (), rfl, Prod.mk.inj (Option.some.inj h), by rw [ht]; exact hP, va_K.moved hW.alike hK, hD⟩, hS.F ht⟩) hS.2.2 d_P_contains_23
    · have h := of_pos h c_15
      refine lv_iconst (v := (nI 1)) hx hb d_P_contains_18 (by decide) ?_
      refine lv_goto (tgt := 23) hx hb d_P_contains_19 (by decide) ?_
      rw [hQ]
      exact W.zret (v := (nI 1)) hx hb hr rfl (fun t ht hW => ⟨⟨(nI 1), (), rfl, Prod.mk.inj (Option.some.inj h), by rw [ht]; exact hP, va_K.moved hW.alike hK, hD⟩, hS.F ht⟩) hS.2.2 d_P_contains_23
set_option maxHeartbeats 1000000 in
set_option maxRecDepth 100000 in
theorem c_P_append (l : Launch) (dC : Nat → ClassId) (dI : Nat → Nat → Nat) (h_o h_bodies : Nat) (k_bodies : ClassId) (sz : Nat) (v_count : Int32) (v_bodies : Nat → Int32) (x1 : Int32) (r0 : Int32) (u0 : Int32 × (Nat → Int32)) (h : m_P_append v_count v_bodies x1 = some (r0, u0)) : Met l y_P_append w_P_append ({ frames := 0, cells := 0, slots := 0, locals := 0 } : Room) (va_Pc [.ref h_o, .int x1] (fun U => U.heap.size = sz ∧ va_P (dC, dI) classes [(h_o, .inr (2, [.ref h_bodies, .int v_count])), (h_bodies, .inl (k_bodies, 2, .inl v_bodies))] U.heap ∧ va_K (dC, dI) classes [(k_bodies, .int)] U ∧ va_D (fun _ => True) [(h_o, .inr (2, [.ref h_bodies, .int v_count])), (h_bodies, .inl (k_bodies, 2, .inl v_bodies))])) (va_Qi (fun (r : Int32) (u : Int32 × (Nat → Int32)) => r = r0 ∧ u = u0) (fun (u : Int32 × (Nat → Int32)) (t : State) => va_P (dC, dI) classes [(h_o, .inr (2, [.ref h_bodies, .int u.1])), (h_bodies, .inl (k_bodies, 2, .inl u.2))] t.heap ∧ va_K (dC, dI) classes [(k_bodies, .int)] t ∧ va_D (va_A [(h_o, .inr (2, [.ref h_bodies, .int v_count])), (h_bodies, .inl (k_bodies, 2, .inl v_bodies))] sz) [(h_o, .inr (2, [.ref h_bodies, .int u.1])), (h_bodies, .inl (k_bodies, 2, .inl u.2))]) (va_A [(h_o, .inr (2, [.ref h_bodies, .int v_count])), (h_bodies, .inl (k_bodies, 2, .inl v_bodies))] sz)) 0 0 (va_A [(h_o, .inr (2, [.ref h_bodies, .int v_count])), (h_bodies, .inl (k_bodies, 2, .inl v_bodies))] sz) := by
  refine Met.ofW (cc := b_P_append) (maxL := 2) (ret := (some .int)) (by decide) rfl ?_
  intro p e s m args below meth c s₁ B hml hv
  obtain ⟨rfl, hsz, hP, hK, hD0⟩ := hv
  have hx := B.exec
  have hb := B.bytes
  have hr := B.returns
  have hts0 := atoms_spec (ws := w_P_append) B.pre
  have hts : ∀ w ∈ lw_gd, w.before ([.ref h_o, .int x1] : List Value).toArray s = true := fun w h9 => hts0 w (List.mem_cons_of_mem _ h9)
  have hown : s.vm.findClass R_P = some m.cls := findClass_of_methodNamed B.named
  have hlocks := B.notSynchronized
  subst hsz
  have hD := hD0.self (sz := s.heap.size)
  generalize hAe : va_A [(h_o, .inr (2, [.ref h_bodies, .int v_count])), (h_bodies, .inl (k_bodies, 2, .inl v_bodies))] s.heap.size = A at hD ⊢
  have hA : ∀ q : Nat, s.heap.size ≤ q → A q := fun q h9 => by rw [← hAe]; exact Or.inr h9
  obtain ⟨H, eH⟩ : ∃ H : Heap, H = s.heap := ⟨_, rfl⟩
  have hS : va_S A s.heap H [] := by rw [eH]; exact va_S.rf
  have hP : va_P (dC, dI) classes [(h_o, .inr (2, [.ref h_bodies, .int v_count])), (h_bodies, .inl (k_bodies, 2, .inl v_bodies))] H := by rw [eH]; exact hP
  refine W_gen (fun Q hQ => ?_)
  refine W_heap eH ?_
  clear eH
  have hl := lv_entry ([.ref h_o, .int x1]) (n := 2) (Nat.le_of_ble_eq_true rfl)
  rw [lg_entry_eq]
  generalize (lg_sl ([.ref h_o, .int x1]) ++ List.replicate (2 - (lg_sl ([.ref h_o, .int x1])).length) Slot.unset).toArray = ls at hl ⊢
  have hl : lv_has ls 2 [(0, .ref h_o), (1, .int x1)] := hl
  unfold m_P_append at h
  refine lv_aload_n hx hb d_P_append_0 rfl (lv_at hl 0 rfl) ?_
  refine va_get (D := (dC, dI)) (ci := 2) (v := .int v_count) (C := R_P) (T := F_P) (N := 2) hx hb hts lay_P hown hK hP 0 rfl rfl 1 (by decide) (hts _ flk_P_15) (fun _ h9 => h9) rfl d_P_append_1 ?_
  refine lv_iconst (v := (nI 2)) hx hb d_P_append_4 (by decide) ?_
  refine lv_icmp_lt (tgt := 10) hx hb d_P_append_5 (by decide) (fun c_5 => ?_) (fun c_5 => ?_)
  · have h := of_pos h c_5
    refine lv_aload_n hx hb d_P_append_10 rfl (lv_at hl 0 rfl) ?_
    refine va_get (D := (dC, dI)) (ci := 2) (v := .ref h_bodies) (C := R_P) (T := F_P) (N := 2) hx hb hts lay_P hown hK hP 0 rfl rfl 0 (by decide) (hts _ flk_P_9) (fun _ h9 => h9) rfl d_P_append_11 ?_
    refine lv_aload_n hx hb d_P_append_14 rfl (lv_at hl 0 rfl) ?_
    refine va_get (D := (dC, dI)) (ci := 2) (v := .int v_count) (C := R_P) (T := F_P) (N := 2) hx hb hts lay_P hown hK hP 0 rfl rfl 1 (by decide) (hts _ flk_P_15) (fun _ h9 => h9) rfl d_P_append_15 ?_
    refine lv_iload_n hx hb d_P_append_18 rfl (lv_at hl 1 rfl) ?_
    obtain ⟨g_19, h⟩ := of_guard h
    refine va_iast hx hb hK hP hD hS 1 0 rfl rfl (inR_in g_19) d_P_append_19 (fun H locs hP hD hS => ?_)
    have hP : va_P (dC, dI) classes [(h_o, .inr (2, [.ref h_bodies, .int v_count])), (h_bodies, .inl (k_bodies, 2, .inl (upd v_bodies v_count.toNatClampNeg x1)))] H := hP
    have hD : va_D A [(h_o, .inr (2, [.ref h_bodies, .int v_count])), (h_bodies, .inl (k_bodies, 2, .inl (upd v_bodies v_count.toNatClampNeg x1)))] := hD
    refine lv_aload_n hx hb d_P_append_20 rfl (lv_at hl 0 rfl) ?_
    refine lv_dup hx hb d_P_append_21 rfl ?_
    refine va_get (D := (dC, dI)) (ci := 2) (v := .int v_count) (C := R_P) (T := F_P) (N := 2) hx hb hts lay_P hown hK hP 0 rfl rfl 1 (by decide) (hts _ flk_P_15) (fun _ h9 => h9) rfl d_P_append_22 ?_
    refine lv_iconst (v := (nI 1)) hx hb d_P_append_25 (by decide) ?_
    refine lv_iadd hx hb d_P_append_26 ?_
    refine va_put (D := (dC, dI)) (ci := 2) (v := .int (v_count + (nI 1))) (ty := .int) (C := R_P) (T := F_P) (N := 2) hx hb hts lay_P t_P t_P_ok n_P hown hK hP hD hS 0 rfl rfl 1 (by decide) (hts _ flk_P_15) (fun _ h9 => h9) rfl (by decide +kernel) rfl rfl (Nat.le_of_ble_eq_true rfl) d_P_append_27 (fun H locs hP hD hS => ?_)
    have hP : va_P (dC, dI) classes [(h_o, .inr (2, [.ref h_bodies, .int (v_count + (nI 1))])), (h_bodies, .inl (k_bodies, 2, .inl (upd v_bodies v_count.toNatClampNeg x1)))] H := hP
    have hD : va_D A [(h_o, .inr (2, [.ref h_bodies, .int (v_count + (nI 1))])), (h_bodies, .inl (k_bodies, 2, .inl (upd v_bodies v_count.toNatClampNeg x1)))] := hD
    refine lv_aload_n hx hb d_P_append_30 rfl (lv_at hl 0 rfl) ?_
    refine va_get (D := (dC, dI)) (ci := 2) (v := .int (v_count + (nI 1))) (C := R_P) (T := F_P) (N := 2) hx hb hts lay_P hown hK hP 0 rfl rfl 1 (by decide) (hts _ flk_P_15) (fun _ h9 => h9) rfl d_P_append_31 ?_
    refine lv_iconst (v := (nI 1)) hx hb d_P_append_34 (by decide) ?_
    refine lv_isub hx hb d_P_append_35 ?_
    rw [hQ]
    exact W.iret (v := (v_count + (nI 1)) - (nI 1)) hx hb hr (fun t ht hW => ⟨⟨(v_count + (nI 1)) - (nI 1), (v_count + (nI 1), upd v_bodies v_count.toNatClampNeg x1), rfl, Prod.mk.inj (Option.some.inj h), by rw [ht]; exact hP, va_K.moved hW.alike hK, hD⟩, hS.F ht⟩) hS.2.2 d_P_append_36
  · have h := of_neg h c_5
    refine lv_iconst (v := (-1 : Int32)) hx hb d_P_append_8 (by decide) ?_
    rw [hQ]
    exact W.iret (v := (-1 : Int32)) hx hb hr (fun t ht hW => ⟨⟨(-1 : Int32), (v_count, v_bodies), rfl, Prod.mk.inj (Option.some.inj h), by rw [ht]; exact hP, va_K.moved hW.alike hK, hD⟩, hS.F ht⟩) hS.2.2 d_P_append_9
set_option maxHeartbeats 1000000 in
set_option maxRecDepth 100000 in
theorem c_P_remove (l : Launch) (dC : Nat → ClassId) (dI : Nat → Nat → Nat) (h_o h_bodies : Nat) (k_bodies : ClassId) (sz : Nat) (v_count : Int32) (v_bodies : Nat → Int32) (x1 : Int32) (r0 : Int32) (u0 : Int32 × (Nat → Int32)) (h : m_P_remove v_count v_bodies x1 = some (r0, u0)) : Met l y_P_remove w_P_remove ({ frames := 1, cells := 0, slots := 0, locals := 21 } : Room) (va_Pc [.ref h_o, .int x1] (fun U => U.heap.size = sz ∧ va_P (dC, dI) classes [(h_o, .inr (2, [.ref h_bodies, .int v_count])), (h_bodies, .inl (k_bodies, 2, .inl v_bodies))] U.heap ∧ va_K (dC, dI) classes [(k_bodies, .int)] U ∧ va_D (fun _ => True) [(h_o, .inr (2, [.ref h_bodies, .int v_count])), (h_bodies, .inl (k_bodies, 2, .inl v_bodies))])) (va_Qi (fun (r : Int32) (u : Int32 × (Nat → Int32)) => r = r0 ∧ u = u0) (fun (u : Int32 × (Nat → Int32)) (t : State) => va_P (dC, dI) classes [(h_o, .inr (2, [.ref h_bodies, .int u.1])), (h_bodies, .inl (k_bodies, 2, .inl u.2))] t.heap ∧ va_K (dC, dI) classes [(k_bodies, .int)] t ∧ va_D (va_A [(h_o, .inr (2, [.ref h_bodies, .int v_count])), (h_bodies, .inl (k_bodies, 2, .inl v_bodies))] sz) [(h_o, .inr (2, [.ref h_bodies, .int u.1])), (h_bodies, .inl (k_bodies, 2, .inl u.2))]) (va_A [(h_o, .inr (2, [.ref h_bodies, .int v_count])), (h_bodies, .inl (k_bodies, 2, .inl v_bodies))] sz)) 0 0 (va_A [(h_o, .inr (2, [.ref h_bodies, .int v_count])), (h_bodies, .inl (k_bodies, 2, .inl v_bodies))] sz) := by
  refine Met.ofW (cc := b_P_remove) (maxL := 2) (ret := (some .boolean)) (by decide) rfl ?_
  intro p e s m args below meth c s₁ B hml hv
  obtain ⟨rfl, hsz, hP, hK, hD0⟩ := hv
  have hx := B.exec
  have hb := B.bytes
  have hr := B.returns
  have hts0 := atoms_spec (ws := w_P_remove) B.pre
  have hts : ∀ w ∈ lw_gd, w.before ([.ref h_o, .int x1] : List Value).toArray s = true := fun w h9 => hts0 w (List.mem_cons_of_mem _ h9)
  have hown : s.vm.findClass R_P = some m.cls := findClass_of_methodNamed B.named
  have hlocks := B.notSynchronized
  subst hsz
  have hD := hD0.self (sz := s.heap.size)
  generalize hAe : va_A [(h_o, .inr (2, [.ref h_bodies, .int v_count])), (h_bodies, .inl (k_bodies, 2, .inl v_bodies))] s.heap.size = A at hD ⊢
  have hA : ∀ q : Nat, s.heap.size ≤ q → A q := fun q h9 => by rw [← hAe]; exact Or.inr h9
  obtain ⟨H, eH⟩ : ∃ H : Heap, H = s.heap := ⟨_, rfl⟩
  have hS : va_S A s.heap H [] := by rw [eH]; exact va_S.rf
  have hP : va_P (dC, dI) classes [(h_o, .inr (2, [.ref h_bodies, .int v_count])), (h_bodies, .inl (k_bodies, 2, .inl v_bodies))] H := by rw [eH]; exact hP
  refine W_gen (fun Q hQ => ?_)
  refine W_heap eH ?_
  clear eH
  have hl := lv_entry ([.ref h_o, .int x1]) (n := 2) (Nat.le_of_ble_eq_true rfl)
  rw [lg_entry_eq]
  generalize (lg_sl ([.ref h_o, .int x1]) ++ List.replicate (2 - (lg_sl ([.ref h_o, .int x1])).length) Slot.unset).toArray = ls at hl ⊢
  have hl : lv_has ls 2 [(0, .ref h_o), (1, .int x1)] := hl
  have J_26 : ∀ (v_count : Int32) (v_bodies : Nat → Int32), m_P_remove_26 v_count v_bodies = some (r0, u0) → ∀ (H : Heap) (locs : List Loc), va_P (dC, dI) classes [(h_o, .inr (2, [.ref h_bodies, .int v_count])), (h_bodies, .inl (k_bodies, 2, .inl v_bodies))] H → va_D A [(h_o, .inr (2, [.ref h_bodies, .int v_count])), (h_bodies, .inl (k_bodies, 2, .inl v_bodies))] → va_S A s.heap H locs → ∀ (ls : Array Slot), lv_has ls 2 [(0, .ref h_o)] → W p l e (headSpec w_P_remove ({ frames := 1, cells := 0, slots := 0, locals := 21 } : Room)).room s m ([.ref h_o, .int x1] : List Value).toArray below meth c H locs 0 0 Q (F0 m 26 ls []) := by
    intro v_count v_bodies h H locs hP hD hS ls hl
    unfold m_P_remove_26 at h
    refine lv_aload_n hx hb d_P_remove_26 rfl (lv_at hl 0 rfl) ?_
    refine va_get (D := (dC, dI)) (ci := 2) (v := .ref h_bodies) (C := R_P) (T := F_P) (N := 2) hx hb hts lay_P hown hK hP 0 rfl rfl 0 (by decide) (hts _ flk_P_9) (fun _ h9 => h9) rfl d_P_remove_27 ?_
    refine lv_iconst (v := (nI 1)) hx hb d_P_remove_30 (by decide) ?_
    refine lv_iconst (v := (nI 0)) hx hb d_P_remove_31 (by decide) ?_
    obtain ⟨g_32, h⟩ := of_guard h
    refine va_iast hx hb hK hP hD hS 1 0 rfl rfl (inR_in g_32) d_P_remove_32 (fun H locs hP hD hS => ?_)
    have hP : va_P (dC, dI) classes [(h_o, .inr (2, [.ref h_bodies, .int v_count])), (h_bodies, .inl (k_bodies, 2, .inl (upd v_bodies (nI 1).toNatClampNeg (nI 0))))] H := hP
    have hD : va_D A [(h_o, .inr (2, [.ref h_bodies, .int v_count])), (h_bodies, .inl (k_bodies, 2, .inl (upd v_bodies (nI 1).toNatClampNeg (nI 0))))] := hD
    refine lv_aload_n hx hb d_P_remove_33 rfl (lv_at hl 0 rfl) ?_
    refine lv_dup hx hb d_P_remove_34 rfl ?_
    refine va_get (D := (dC, dI)) (ci := 2) (v := .int v_count) (C := R_P) (T := F_P) (N := 2) hx hb hts lay_P hown hK hP 0 rfl rfl 1 (by decide) (hts _ flk_P_15) (fun _ h9 => h9) rfl d_P_remove_35 ?_
    refine lv_iconst (v := (nI 1)) hx hb d_P_remove_38 (by decide) ?_
    refine lv_isub hx hb d_P_remove_39 ?_
    refine va_put (D := (dC, dI)) (ci := 2) (v := .int (v_count - (nI 1))) (ty := .int) (C := R_P) (T := F_P) (N := 2) hx hb hts lay_P t_P t_P_ok n_P hown hK hP hD hS 0 rfl rfl 1 (by decide) (hts _ flk_P_15) (fun _ h9 => h9) rfl (by decide +kernel) rfl rfl (Nat.le_of_ble_eq_true rfl) d_P_remove_40 (fun H locs hP hD hS => ?_)
    have hP : va_P (dC, dI) classes [(h_o, .inr (2, [.ref h_bodies, .int (v_count - (nI 1))])), (h_bodies, .inl (k_bodies, 2, .inl (upd v_bodies (nI 1).toNatClampNeg (nI 0))))] H := hP
    have hD : va_D A [(h_o, .inr (2, [.ref h_bodies, .int (v_count - (nI 1))])), (h_bodies, .inl (k_bodies, 2, .inl (upd v_bodies (nI 1).toNatClampNeg (nI 0))))] := hD
    refine lv_iconst (v := (nI 1)) hx hb d_P_remove_43 (by decide) ?_
    rw [hQ]
    exact W.zret (v := (nI 1)) hx hb hr rfl (fun t ht hW => ⟨⟨(nI 1), (v_count - (nI 1), upd v_bodies (nI 1).toNatClampNeg (nI 0)), rfl, Prod.mk.inj (Option.some.inj h), by rw [ht]; exact hP, va_K.moved hW.alike hK, hD⟩, hS.F ht⟩) hS.2.2 d_P_remove_44
  unfold m_P_remove at h
  refine lv_aload_n hx hb d_P_remove_0 rfl (lv_at hl 0 rfl) ?_
  refine lv_iload_n hx hb d_P_remove_1 rfl (lv_at hl 1 rfl) ?_
  have hPc := hP.sub (ws' := [(h_o, .inr (2, [.ref h_bodies, .int v_count])), (h_bodies, .inl (k_bodies, 2, .inl v_bodies))]) [0, 1] rfl
  have hDc := hD.sub (ws' := [(h_o, .inr (2, [.ref h_bodies, .int v_count])), (h_bodies, .inl (k_bodies, 2, .inl v_bodies))]) [0, 1] (by decide) rfl
  have hKc := hK.sub (tys' := [(k_bodies, .int)]) [0] rfl
  have hFc := va_free (wc := [(h_o, .inr (2, [.ref h_bodies, .int v_count])), (h_bodies, .inl (k_bodies, 2, .inl v_bodies))]) hD hS hA [0, 1] rfl
  obtain ⟨v_2, hc_2, h⟩ := of_bind h
  refine va_calli (va_runV (As := [.int x1]) (rest := []) ⟨hx, hb, hml, hown, hts⟩ (c_P_bodyOf l dC dI h_o h_bodies k_bodies H.size v_count v_bodies x1 v_2.1 v_2.2 hc_2) (cwV 1 hts (gV mlk_P_19 ins_P_bodyOf sel_P_bodyOf ini_P cod_P_bodyOf) rfl rfl rfl (by decide +kernel) ⟨Nat.le_of_ble_eq_true rfl, Nat.le_of_ble_eq_true rfl⟩) ⟨fun a U g mk q => by obtain ⟨q0, q1, qP, qK, qD⟩ := q; exact ⟨q0, q1, qP, va_K.moved (u := U) (U := U.calling g mk a) (Vm.Alike.refl U.vm) qK, qD⟩, va_recv hKc hPc (ci := 2) (q0 := 0) rfl rfl, fun U hU hW => ⟨rfl, by rw [hU], by rw [hU]; exact hPc, va_K.moved hW.alike hKc, hDc.weaken (fun _ _ _ _ => trivial)⟩⟩ rfl rfl hl.1 rfl (lv_room (Nat.le_of_ble_eq_true rfl)) d_P_remove_2 ⟨Nat.le_of_ble_eq_true rfl, Nat.le_of_ble_eq_true rfl⟩) hS (fun q _ h9 => hFc q h9) hFc (fun r_2 u t H1 locs ht hvm hw hB hz1 hk1 hS => ?_)
  obtain ⟨rfl, rfl⟩ := hw
  obtain ⟨hP1, hK1, hD1⟩ := hB
  rw [ht] at hP1
  obtain ⟨hP, hD⟩ := va_join (wr := []) (w1 := [(h_o, .inr (2, [.ref h_bodies, .int v_count])), (h_bodies, .inl (k_bodies, 2, .inl v_bodies))]) hP hD [0, 1] [] rfl rfl (by decide) (by decide) hk1 hFc hP1 hD1
  have hP := hP.sub (ws' := [(h_o, .inr (2, [.ref h_bodies, .int v_count])), (h_bodies, .inl (k_bodies, 2, .inl v_bodies))]) [0, 1] rfl
  have hD := hD.sub (ws' := [(h_o, .inr (2, [.ref h_bodies, .int v_count])), (h_bodies, .inl (k_bodies, 2, .inl v_bodies))]) [0, 1] (by decide) rfl
  generalize H1 = H at hP hS ⊢
  refine lv_if_ne (tgt := 10) hx hb d_P_remove_5 (by decide) (fun c_5 => ?_) (fun c_5 => ?_)
  · have h := of_neg h c_5
    refine lv_iload_n hx hb d_P_remove_10 rfl (lv_at hl 1 rfl) ?_
    refine lv_if_ne (tgt := 26) hx hb d_P_remove_11 (by decide) (fun c_11 => ?_) (fun c_11 => ?_)
    · have h := of_neg h c_11
      exact J_26 v_count v_bodies h _ _ hP hD hS ls (lv_sub hl [0] rfl)
    · have h := of_pos h c_11
      refine lv_aload_n hx hb d_P_remove_14 rfl (lv_at hl 0 rfl) ?_
      refine va_get (D := (dC, dI)) (ci := 2) (v := .ref h_bodies) (C := R_P) (T := F_P) (N := 2) hx hb hts lay_P hown hK hP 0 rfl rfl 0 (by decide) (hts _ flk_P_9) (fun _ h9 => h9) rfl d_P_remove_15 ?_
      refine lv_iconst (v := (nI 0)) hx hb d_P_remove_18 (by decide) ?_
      refine lv_aload_n hx hb d_P_remove_19 rfl (lv_at hl 0 rfl) ?_
      refine va_get (D := (dC, dI)) (ci := 2) (v := .ref h_bodies) (C := R_P) (T := F_P) (N := 2) hx hb hts lay_P hown hK hP 0 rfl rfl 0 (by decide) (hts _ flk_P_9) (fun _ h9 => h9) rfl d_P_remove_20 ?_
      refine lv_iconst (v := (nI 1)) hx hb d_P_remove_23 (by decide) ?_
      obtain ⟨g_24, h⟩ := of_guard h
      refine va_iald hx hb hK hP 1 0 rfl rfl (inR_in g_24) d_P_remove_24 ?_
      obtain ⟨g_25, h⟩ := of_guard h
      refine va_iast hx hb hK hP hD hS 1 0 rfl rfl (inR_in g_25) d_P_remove_25 (fun H locs hP hD hS => ?_)
      have hP : va_P (dC, dI) classes [(h_o, .inr (2, [.ref h_bodies, .int v_count])), (h_bodies, .inl (k_bodies, 2, .inl (upd v_bodies (nI 0).toNatClampNeg (v_bodies (nI 1).toNatClampNeg))))] H := hP
      have hD : va_D A [(h_o, .inr (2, [.ref h_bodies, .int v_count])), (h_bodies, .inl (k_bodies, 2, .inl (upd v_bodies (nI 0).toNatClampNeg (v_bodies (nI 1).toNatClampNeg))))] := hD
      exact J_26 v_count (upd v_bodies (nI 0).toNatClampNeg (v_bodies (nI 1).toNatClampNeg)) h _ _ hP hD hS ls (lv_sub hl [0] rfl)
  · have h := of_pos h c_5
    refine lv_iconst (v := (nI 0)) hx hb d_P_remove_8 (by decide) ?_
    rw [hQ]
    exact W.zret (v := (nI 0)) hx hb hr rfl (fun t ht hW => ⟨⟨(nI 0), (v_count, v_bodies), rfl, Prod.mk.inj (Option.some.inj h), by rw [ht]; exact hP, va_K.moved hW.alike hK, hD⟩, hS.F ht⟩) hS.2.2 d_P_remove_9
set_option maxHeartbeats 1000000 in
set_option maxRecDepth 100000 in
theorem c_P_become (l : Launch) (dC : Nat → ClassId) (dI : Nat → Nat → Nat) (h_o h_bodies : Nat) (k_bodies : ClassId) (sz : Nat) (v_count : Int32) (v_bodies : Nat → Int32) (x1 : Int32) (x2 : Int32) (u0 : Int32 × (Nat → Int32)) (h : m_P_become v_count v_bodies x1 x2 = some u0) : Met l y_P_become w_P_become ({ frames := 0, cells := 0, slots := 0, locals := 0 } : Room) (va_Pc [.ref h_o, .int x1, .int x2] (fun U => U.heap.size = sz ∧ va_P (dC, dI) classes [(h_o, .inr (2, [.ref h_bodies, .int v_count])), (h_bodies, .inl (k_bodies, 2, .inl v_bodies))] U.heap ∧ va_K (dC, dI) classes [(k_bodies, .int)] U ∧ va_D (fun _ => True) [(h_o, .inr (2, [.ref h_bodies, .int v_count])), (h_bodies, .inl (k_bodies, 2, .inl v_bodies))])) (va_Qv (fun (u : Int32 × (Nat → Int32)) => u = u0) (fun (u : Int32 × (Nat → Int32)) (t : State) => va_P (dC, dI) classes [(h_o, .inr (2, [.ref h_bodies, .int u.1])), (h_bodies, .inl (k_bodies, 2, .inl u.2))] t.heap ∧ va_K (dC, dI) classes [(k_bodies, .int)] t ∧ va_D (va_A [(h_o, .inr (2, [.ref h_bodies, .int v_count])), (h_bodies, .inl (k_bodies, 2, .inl v_bodies))] sz) [(h_o, .inr (2, [.ref h_bodies, .int u.1])), (h_bodies, .inl (k_bodies, 2, .inl u.2))]) (va_A [(h_o, .inr (2, [.ref h_bodies, .int v_count])), (h_bodies, .inl (k_bodies, 2, .inl v_bodies))] sz)) 0 0 (va_A [(h_o, .inr (2, [.ref h_bodies, .int v_count])), (h_bodies, .inl (k_bodies, 2, .inl v_bodies))] sz) := by
  refine Met.ofW (cc := b_P_become) (maxL := 3) (ret := none) (by decide) rfl ?_
  intro p e s m args below meth c s₁ B hml hv
  obtain ⟨rfl, hsz, hP, hK, hD0⟩ := hv
  have hx := B.exec
  have hb := B.bytes
  have hr := B.returns
  have hts0 := atoms_spec (ws := w_P_become) B.pre
  have hts : ∀ w ∈ lw_gd, w.before ([.ref h_o, .int x1, .int x2] : List Value).toArray s = true := fun w h9 => hts0 w (List.mem_cons_of_mem _ h9)
  have hown : s.vm.findClass R_P = some m.cls := findClass_of_methodNamed B.named
  have hlocks := B.notSynchronized
  subst hsz
  have hD := hD0.self (sz := s.heap.size)
  generalize hAe : va_A [(h_o, .inr (2, [.ref h_bodies, .int v_count])), (h_bodies, .inl (k_bodies, 2, .inl v_bodies))] s.heap.size = A at hD ⊢
  have hA : ∀ q : Nat, s.heap.size ≤ q → A q := fun q h9 => by rw [← hAe]; exact Or.inr h9
  obtain ⟨H, eH⟩ : ∃ H : Heap, H = s.heap := ⟨_, rfl⟩
  have hS : va_S A s.heap H [] := by rw [eH]; exact va_S.rf
  have hP : va_P (dC, dI) classes [(h_o, .inr (2, [.ref h_bodies, .int v_count])), (h_bodies, .inl (k_bodies, 2, .inl v_bodies))] H := by rw [eH]; exact hP
  refine W_gen (fun Q hQ => ?_)
  refine W_heap eH ?_
  clear eH
  have hl := lv_entry ([.ref h_o, .int x1, .int x2]) (n := 3) (Nat.le_of_ble_eq_true rfl)
  rw [lg_entry_eq]
  generalize (lg_sl ([.ref h_o, .int x1, .int x2]) ++ List.replicate (3 - (lg_sl ([.ref h_o, .int x1, .int x2])).length) Slot.unset).toArray = ls at hl ⊢
  have hl : lv_has ls 3 [(0, .ref h_o), (1, .int x1), (2, .int x2)] := hl
  have J_42 : ∀ (v_count : Int32) (v_bodies : Nat → Int32) (y0 : Int32) (y1 : Int32), m_P_become_42 v_count v_bodies y0 y1 = some u0 → ∀ (H : Heap) (locs : List Loc), va_P (dC, dI) classes [(h_o, .inr (2, [.ref h_bodies, .int v_count])), (h_bodies, .inl (k_bodies, 2, .inl v_bodies))] H → va_D A [(h_o, .inr (2, [.ref h_bodies, .int v_count])), (h_bodies, .inl (k_bodies, 2, .inl v_bodies))] → va_S A s.heap H locs → ∀ (ls : Array Slot), lv_has ls 3 [] → W p l e (headSpec w_P_become ({ frames := 0, cells := 0, slots := 0, locals := 0 } : Room)).room s m ([.ref h_o, .int x1, .int x2] : List Value).toArray below meth c H locs 0 0 Q (F0 m 42 ls [.int y0, .int y1, .ref h_bodies]) := by
    intro v_count v_bodies y0 y1 h H locs hP hD hS ls hl
    unfold m_P_become_42 at h
    obtain ⟨g_42, h⟩ := of_guard h
    refine va_iast hx hb hK hP hD hS 1 0 rfl rfl (inR_in g_42) d_P_become_42 (fun H locs hP hD hS => ?_)
    have hP : va_P (dC, dI) classes [(h_o, .inr (2, [.ref h_bodies, .int v_count])), (h_bodies, .inl (k_bodies, 2, .inl (upd v_bodies y1.toNatClampNeg y0)))] H := hP
    have hD : va_D A [(h_o, .inr (2, [.ref h_bodies, .int v_count])), (h_bodies, .inl (k_bodies, 2, .inl (upd v_bodies y1.toNatClampNeg y0)))] := hD
    rw [hQ]
    exact W.vret hx hb hr (fun t ht hW => ⟨⟨(v_count, upd v_bodies y1.toNatClampNeg y0), rfl, Option.some.inj h, by rw [ht]; exact hP, va_K.moved hW.alike hK, hD⟩, hS.F ht⟩) hS.2.2 d_P_become_43
  have J_27 : ∀ (v_count : Int32) (v_bodies : Nat → Int32) (z1 : Int32) (z2 : Int32) (y0 : Int32) (y1 : Int32), m_P_become_27 v_count v_bodies z1 z2 y0 y1 = some u0 → ∀ (H : Heap) (locs : List Loc), va_P (dC, dI) classes [(h_o, .inr (2, [.ref h_bodies, .int v_count])), (h_bodies, .inl (k_bodies, 2, .inl v_bodies))] H → va_D A [(h_o, .inr (2, [.ref h_bodies, .int v_count])), (h_bodies, .inl (k_bodies, 2, .inl v_bodies))] → va_S A s.heap H locs → ∀ (ls : Array Slot), lv_has ls 3 [(0, .ref h_o), (1, .int z1), (2, .int z2)] → W p l e (headSpec w_P_become ({ frames := 0, cells := 0, slots := 0, locals := 0 } : Room)).room s m ([.ref h_o, .int x1, .int x2] : List Value).toArray below meth c H locs 0 0 Q (F0 m 27 ls [.int y0, .int y1, .ref h_bodies]) := by
    intro v_count v_bodies z1 z2 y0 y1 h H locs hP hD hS ls hl
    unfold m_P_become_27 at h
    obtain ⟨g_27, h⟩ := of_guard h
    refine va_iast hx hb hK hP hD hS 1 0 rfl rfl (inR_in g_27) d_P_become_27 (fun H locs hP hD hS => ?_)
    have hP : va_P (dC, dI) classes [(h_o, .inr (2, [.ref h_bodies, .int v_count])), (h_bodies, .inl (k_bodies, 2, .inl (upd v_bodies y1.toNatClampNeg y0)))] H := hP
    have hD : va_D A [(h_o, .inr (2, [.ref h_bodies, .int v_count])), (h_bodies, .inl (k_bodies, 2, .inl (upd v_bodies y1.toNatClampNeg y0)))] := hD
    refine lv_aload_n hx hb d_P_become_28 rfl (lv_at hl 0 rfl) ?_
    refine va_get (D := (dC, dI)) (ci := 2) (v := .ref h_bodies) (C := R_P) (T := F_P) (N := 2) hx hb hts lay_P hown hK hP 0 rfl rfl 0 (by decide) (hts _ flk_P_9) (fun _ h9 => h9) rfl d_P_become_29 ?_
    refine lv_iconst (v := (nI 1)) hx hb d_P_become_32 (by decide) ?_
    refine lv_iload_n hx hb d_P_become_33 rfl (lv_at hl 1 rfl) ?_
    refine lv_if_ne (tgt := 41) hx hb d_P_become_34 (by decide) (fun c_34 => ?_) (fun c_34 => ?_)
    · have h := of_neg h c_34
      refine lv_iload_n hx hb d_P_become_41 rfl (lv_at hl 2 rfl) ?_
      exact J_42 v_count (upd v_bodies y1.toNatClampNeg y0) z2 (nI 1) h _ _ hP hD hS ls (lv_sub hl [] rfl)
    · have h := of_pos h c_34
      refine lv_iconst (v := (nI 0)) hx hb d_P_become_37 (by decide) ?_
      refine lv_goto (tgt := 42) hx hb d_P_become_38 (by decide) ?_
      exact J_42 v_count (upd v_bodies y1.toNatClampNeg y0) (nI 0) (nI 1) h _ _ hP hD hS ls (lv_sub hl [] rfl)
  have J_10 : ∀ (v_count : Int32) (v_bodies : Nat → Int32) (z1 : Int32) (z2 : Int32) (y0 : Int32), m_P_become_10 v_count v_bodies z1 z2 y0 = some u0 → ∀ (H : Heap) (locs : List Loc), va_P (dC, dI) classes [(h_o, .inr (2, [.ref h_bodies, .int v_count])), (h_bodies, .inl (k_bodies, 2, .inl v_bodies))] H → va_D A [(h_o, .inr (2, [.ref h_bodies, .int v_count])), (h_bodies, .inl (k_bodies, 2, .inl v_bodies))] → va_S A s.heap H locs → ∀ (ls : Array Slot), lv_has ls 3 [(0, .ref h_o), (1, .int z1), (2, .int z2)] → W p l e (headSpec w_P_become ({ frames := 0, cells := 0, slots := 0, locals := 0 } : Room)).room s m ([.ref h_o, .int x1, .int x2] : List Value).toArray below meth c H locs 0 0 Q (F0 m 10 ls [.int y0, .ref h_o]) := by
    intro v_count v_bodies z1 z2 y0 h H locs hP hD hS ls hl
    unfold m_P_become_10 at h
    refine va_put (D := (dC, dI)) (ci := 2) (v := .int y0) (ty := .int) (C := R_P) (T := F_P) (N := 2) hx hb hts lay_P t_P t_P_ok n_P hown hK hP hD hS 0 rfl rfl 1 (by decide) (hts _ flk_P_15) (fun _ h9 => h9) rfl (by decide +kernel) rfl rfl (Nat.le_of_ble_eq_true rfl) d_P_become_10 (fun H locs hP hD hS => ?_)
    have hP : va_P (dC, dI) classes [(h_o, .inr (2, [.ref h_bodies, .int y0])), (h_bodies, .inl (k_bodies, 2, .inl v_bodies))] H := hP
    have hD : va_D A [(h_o, .inr (2, [.ref h_bodies, .int y0])), (h_bodies, .inl (k_bodies, 2, .inl v_bodies))] := hD
    refine lv_aload_n hx hb d_P_become_13 rfl (lv_at hl 0 rfl) ?_
    refine va_get (D := (dC, dI)) (ci := 2) (v := .ref h_bodies) (C := R_P) (T := F_P) (N := 2) hx hb hts lay_P hown hK hP 0 rfl rfl 0 (by decide) (hts _ flk_P_9) (fun _ h9 => h9) rfl d_P_become_14 ?_
    refine lv_iconst (v := (nI 0)) hx hb d_P_become_17 (by decide) ?_
    refine lv_iload_n hx hb d_P_become_18 rfl (lv_at hl 1 rfl) ?_
    refine lv_if_ne (tgt := 26) hx hb d_P_become_19 (by decide) (fun c_19 => ?_) (fun c_19 => ?_)
    · have h := of_neg h c_19
      refine lv_iload_n hx hb d_P_become_26 rfl (lv_at hl 1 rfl) ?_
      exact J_27 y0 v_bodies z1 z2 z1 (nI 0) h _ _ hP hD hS ls (lv_sub hl [0, 1, 2] rfl)
    · have h := of_pos h c_19
      refine lv_iload_n hx hb d_P_become_22 rfl (lv_at hl 2 rfl) ?_
      refine lv_goto (tgt := 27) hx hb d_P_become_23 (by decide) ?_
      exact J_27 y0 v_bodies z1 z2 z2 (nI 0) h _ _ hP hD hS ls (lv_sub hl [0, 1, 2] rfl)
  unfold m_P_become at h
  refine lv_aload_n hx hb d_P_become_0 rfl (lv_at hl 0 rfl) ?_
  refine lv_iload_n hx hb d_P_become_1 rfl (lv_at hl 1 rfl) ?_
  refine lv_if_ne (tgt := 9) hx hb d_P_become_2 (by decide) (fun c_2 => ?_) (fun c_2 => ?_)
  · have h := of_neg h c_2
    refine lv_iconst (v := (nI 2)) hx hb d_P_become_9 (by decide) ?_
    exact J_10 v_count v_bodies x1 x2 (nI 2) h _ _ hP hD hS ls (lv_sub hl [0, 1, 2] rfl)
  · have h := of_pos h c_2
    refine lv_iconst (v := (nI 1)) hx hb d_P_become_5 (by decide) ?_
    refine lv_goto (tgt := 10) hx hb d_P_become_6 (by decide) ?_
    exact J_10 v_count v_bodies x1 x2 (nI 1) h _ _ hP hD hS ls (lv_sub hl [0, 1, 2] rfl)
set_option maxHeartbeats 1000000 in
set_option maxRecDepth 100000 in
theorem c_P_textLength (l : Launch) (dC : Nat → ClassId) (dI : Nat → Nat → Nat) (sz : Nat)  (x0 : Int32) (r0 : Int32) (u0 : Unit) (h : m_P_textLength x0 = some (r0, u0)) : Met l y_P_textLength w_P_textLength ({ frames := 1, cells := 0, slots := 0, locals := 20 } : Room) (va_Pc [.int x0] (fun U => U.heap.size = sz ∧ va_P (dC, dI) classes [] U.heap ∧ va_K (dC, dI) classes [] U ∧ va_D (fun _ => True) [])) (va_Qi (fun (r : Int32) (u : Unit) => r = r0 ∧ u = u0) (fun (u : Unit) (t : State) => va_P (dC, dI) classes [] t.heap ∧ va_K (dC, dI) classes [] t ∧ va_D (va_A [] sz) []) (va_A [] sz)) 0 0 (va_A [] sz) := by
  refine Met.ofW (cc := b_P_textLength) (maxL := 1) (ret := (some .int)) (by decide) rfl ?_
  intro p e s m args below meth c s₁ B hml hv
  obtain ⟨rfl, hsz, hP, hK, hD0⟩ := hv
  have hx := B.exec
  have hb := B.bytes
  have hr := B.returns
  have hts0 := atoms_spec (ws := w_P_textLength) B.pre
  have hts : ∀ w ∈ lw_gd, w.before ([.int x0] : List Value).toArray s = true := fun w h9 => hts0 w (List.mem_cons_of_mem _ h9)
  have hown : s.vm.findClass R_P = some m.cls := findClass_of_methodNamed B.named
  have hlocks := B.notSynchronized
  subst hsz
  have hD := hD0.self (sz := s.heap.size)
  generalize hAe : va_A [] s.heap.size = A at hD ⊢
  have hA : ∀ q : Nat, s.heap.size ≤ q → A q := fun q h9 => by rw [← hAe]; exact Or.inr h9
  obtain ⟨H, eH⟩ : ∃ H : Heap, H = s.heap := ⟨_, rfl⟩
  have hS : va_S A s.heap H [] := by rw [eH]; exact va_S.rf
  have hP : va_P (dC, dI) classes [] H := by rw [eH]; exact hP
  refine W_gen (fun Q hQ => ?_)
  refine W_heap eH ?_
  clear eH
  have hl := lv_entry ([.int x0]) (n := 1) (Nat.le_of_ble_eq_true rfl)
  rw [lg_entry_eq]
  generalize (lg_sl ([.int x0]) ++ List.replicate (1 - (lg_sl ([.int x0])).length) Slot.unset).toArray = ls at hl ⊢
  have hl : lv_has ls 1 [(0, .int x0)] := hl
  unfold m_P_textLength at h
  refine lv_bipush (v := (nI 8)) hx hb d_P_textLength_0 (by decide) ?_
  refine lv_bipush (v := (nI 7)) hx hb d_P_textLength_2 (by decide) ?_
  refine lv_iload_n hx hb d_P_textLength_4 rfl (lv_at hl 0 rfl) ?_
  have hPc := hP.sub (ws' := []) [] rfl
  have hDc := hD.sub (ws' := []) [] (by decide) rfl
  have hKc := hK.sub (tys' := []) [] rfl
  have hFc := va_free (wc := []) hD hS hA [] rfl
  obtain ⟨v_5, hc_5, h⟩ := of_bind h
  refine va_calli (va_runS (As := [.int x0]) (rest := [.int (nI 7), .int (nI 8)]) ⟨hx, hb, hml, hown, hts⟩ (c_I_bitCount l dC dI H.size x0 v_5.1 v_5.2 hc_5) (va_cwS 1 hts (gS mlk_P_30 sta_I_bitCount ini_I cod_I_bitCount) rfl rfl rfl (by decide +kernel) ⟨Nat.le_of_ble_eq_true rfl, Nat.le_of_ble_eq_true rfl⟩) ⟨fun a U g mk q => by obtain ⟨q0, q1, qP, qK, qD⟩ := q; exact ⟨q0, q1, qP, va_K.moved (u := U) (U := U.calling g mk a) (Vm.Alike.refl U.vm) qK, qD⟩, fun U hU hW => ⟨rfl, by rw [hU], by rw [hU]; exact hPc, va_K.moved hW.alike hKc, hDc.weaken (fun _ _ _ _ => trivial)⟩⟩ rfl rfl hl.1 rfl (lv_room (Nat.le_of_ble_eq_true rfl)) d_P_textLength_5 ⟨Nat.le_of_ble_eq_true rfl, Nat.le_of_ble_eq_true rfl⟩) hS (fun q _ h9 => hFc q h9) hFc (fun r_5 u t H1 locs ht hvm hw hB hz1 hk1 hS => ?_)
  obtain ⟨rfl, rfl⟩ := hw
  obtain ⟨hP1, hK1, hD1⟩ := hB
  rw [ht] at hP1
  obtain ⟨hP, hD⟩ := va_join (wr := []) (w1 := []) hP hD [] [] rfl rfl (by decide) (by decide) hk1 hFc hP1 hD1
  have hP := hP.sub (ws' := []) [] rfl
  have hD := hD.sub (ws' := []) [] (by decide) rfl
  generalize H1 = H at hP hS ⊢
  refine lv_imul hx hb d_P_textLength_8 ?_
  refine lv_iadd hx hb d_P_textLength_9 ?_
  refine lv_iconst (v := (nI 1)) hx hb d_P_textLength_10 (by decide) ?_
  refine lv_isub hx hb d_P_textLength_11 ?_
  rw [hQ]
  exact W.iret (v := ((nI 8) + ((nI 7) * v_5.1)) - (nI 1)) hx hb hr (fun t ht hW => ⟨⟨((nI 8) + ((nI 7) * v_5.1)) - (nI 1), (), rfl, Prod.mk.inj (Option.some.inj h), by rw [ht]; exact hP, va_K.moved hW.alike hK, hD⟩, hS.F ht⟩) hS.2.2 d_P_textLength_12
set_option maxHeartbeats 1000000 in
set_option maxRecDepth 100000 in
theorem c_P_letterOf (l : Launch) (dC : Nat → ClassId) (dI : Nat → Nat → Nat) (tb : Nat) (ak av : Nat → Nat) (sz : Nat)  (x0 : Int32) (x1 : Int32) (r0 : Int32) (u0 : Unit) (h : m_P_letterOf x0 x1 = some (r0, u0)) : Met l y_P_letterOf w_P_letterOf ({ frames := 4, cells := 0, slots := 0, locals := 85 } : Room) (va_Pc [.int x0, .int x1] (fun U => U.heap.size = sz ∧ va_P (dC, dI) classes [] U.heap ∧ va_K (dC, dI) classes [] U ∧ va_D (fun _ => True) [] ∧ kw tb ak av (va_A [] sz) U)) (va_Qi (fun (r : Int32) (u : Unit) => r = r0 ∧ u = u0) (fun (u : Unit) (t : State) => va_P (dC, dI) classes [] t.heap ∧ va_K (dC, dI) classes [] t ∧ va_D (va_A [] sz) []) (va_A [] sz)) 0 0 (va_A [] sz) := by
  refine Met.ofW (cc := b_P_letterOf) (maxL := 3) (ret := (some .int)) (by decide) rfl ?_
  intro p e s m args below meth c s₁ B hml hv
  obtain ⟨rfl, hsz, hP, hK, hD0, hC⟩ := hv
  have hx := B.exec
  have hb := B.bytes
  have hr := B.returns
  have hts0 := atoms_spec (ws := w_P_letterOf) B.pre
  have hts : ∀ w ∈ lw_gd, w.before ([.int x0, .int x1] : List Value).toArray s = true := fun w h9 => hts0 w (List.mem_cons_of_mem _ h9)
  have hown : s.vm.findClass R_P = some m.cls := findClass_of_methodNamed B.named
  have hlocks := B.notSynchronized
  subst hsz
  have hD := hD0.self (sz := s.heap.size)
  generalize hAe : va_A [] s.heap.size = A at hD hC ⊢
  have hA : ∀ q : Nat, s.heap.size ≤ q → A q := fun q h9 => by rw [← hAe]; exact Or.inr h9
  obtain ⟨H, eH⟩ : ∃ H : Heap, H = s.heap := ⟨_, rfl⟩
  have hS : va_S A s.heap H [] := by rw [eH]; exact va_S.rf
  have hP : va_P (dC, dI) classes [] H := by rw [eH]; exact hP
  refine W_gen (fun Q hQ => ?_)
  refine W_heap eH ?_
  clear eH
  have hl := lv_entry ([.int x0, .int x1]) (n := 3) (Nat.le_of_ble_eq_true rfl)
  rw [lg_entry_eq]
  generalize (lg_sl ([.int x0, .int x1]) ++ List.replicate (3 - (lg_sl ([.int x0, .int x1])).length) Slot.unset).toArray = ls at hl ⊢
  have hl : lv_has ls 3 [(0, .int x0), (1, .int x1)] := hl
  unfold m_P_letterOf at h
  refine lv_iload_n hx hb d_P_letterOf_0 rfl (lv_at hl 1 rfl) ?_
  refine lv_bipush (v := (nI 8)) hx hb d_P_letterOf_1 (by decide) ?_
  refine lv_icmp_ge (tgt := 13) hx hb d_P_letterOf_3 (by decide) (fun c_3 => ?_) (fun c_3 => ?_)
  · have h := of_pos h c_3
    refine lv_iload_n hx hb d_P_letterOf_13 rfl (lv_at hl 0 rfl) ?_
    refine lv_iload_n hx hb d_P_letterOf_14 rfl (lv_at hl 1 rfl) ?_
    refine lv_bipush (v := (nI 8)) hx hb d_P_letterOf_15 (by decide) ?_
    refine lv_isub hx hb d_P_letterOf_17 ?_
    refine lv_bipush (v := (nI 7)) hx hb d_P_letterOf_18 (by decide) ?_
    refine lv_idiv hx hb d_P_letterOf_20 (by decide) ?_
    have hPc := hP.sub (ws' := []) [] rfl
    have hDc := hD.sub (ws' := []) [] (by decide) rfl
    have hKc := hK.sub (tys' := []) [] rfl
    have hFc := va_free (wc := []) hD hS hA [] rfl
    obtain ⟨v_21, hc_21, h⟩ := of_bind h
    refine va_calli (va_runSN (As := [.int x0, .int ((x1 - (nI 8)) / (nI 7))]) (rest := []) ⟨hx, hb, hml, hown, hts⟩ (c_H_codeAt l dC dI H.size x0 ((x1 - (nI 8)) / (nI 7)) v_21.1 v_21.2 hc_21) ⟨va_cnB 2 hts (gI cod_H_codeAt) rfl rfl rfl hC.nst_P_43 (hts _ ini_H) (by decide +kernel) ⟨Nat.le_of_ble_eq_true rfl, Nat.le_of_ble_eq_true rfl⟩, hts _ sta_H_codeAt, trivial⟩ ⟨fun a U g mk q => by obtain ⟨q0, q1, qP, qK, qD⟩ := q; exact ⟨q0, q1, qP, va_K.moved (u := U) (U := U.calling g mk a) (Vm.Alike.refl U.vm) qK, qD⟩, fun U hU hW => ⟨rfl, by rw [hU], by rw [hU]; exact hPc, va_K.moved hW.alike hKc, hDc.weaken (fun _ _ _ _ => trivial)⟩⟩ rfl rfl hl.1 rfl (lv_room (Nat.le_of_ble_eq_true rfl)) d_P_letterOf_21 ⟨Nat.le_of_ble_eq_true rfl, Nat.le_of_ble_eq_true rfl⟩) hS (fun q _ h9 => hFc q h9) hFc (fun r_21 u t H1 locs ht hvm hw hB hz1 hk1 hS => ?_)
    obtain ⟨rfl, rfl⟩ := hw
    obtain ⟨hP1, hK1, hD1⟩ := hB
    rw [ht] at hP1
    obtain ⟨hP, hD⟩ := va_join (wr := []) (w1 := []) hP hD [] [] rfl rfl (by decide) (by decide) hk1 hFc hP1 hD1
    have hP := hP.sub (ws' := []) [] rfl
    have hD := hD.sub (ws' := []) [] (by decide) rfl
    generalize H1 = H at hP hS ⊢
    refine lv_istore_n (lv' := [(2, .int v_21.1), (0, .int x0), (1, .int x1)]) hx hb d_P_letterOf_24 rfl hl (by decide) rfl (fun ls hl => ?_)
    refine lv_iload_n hx hb d_P_letterOf_25 rfl (lv_at hl 0 rfl) ?_
    refine lv_if_ge (tgt := 31) hx hb d_P_letterOf_26 (by decide) (fun c_26 => ?_) (fun c_26 => ?_)
    · have h := of_pos h c_26
      refine lv_iload_n hx hb d_P_letterOf_31 rfl (lv_at hl 2 rfl) ?_
      refine lv_bipush (v := (nI 8)) hx hb d_P_letterOf_32 (by decide) ?_
      refine lv_isub hx hb d_P_letterOf_34 ?_
      refine lv_bipush (v := (nI 7)) hx hb d_P_letterOf_35 (by decide) ?_
      refine lv_irem hx hb d_P_letterOf_37 (by decide) ?_
      refine lv_topi (fun w_38 ew_38 => ?_)
      have h := of_let h ew_38
      by_cases c_38_0 : w_38 = (nI 0)
      · have h := of_pos h c_38_0
        refine lv_tableIn (tgt := 76) (off := 38) hx hb d_P_letterOf_38 (by rw [c_38_0]; decide) (by rw [c_38_0]; decide) (by rw [c_38_0]; rfl) (by decide) ?_
        refine va_ldcS hx hb hown hC.str_P_46 d_P_letterOf_76 ?_
        refine lv_iload_n hx hb d_P_letterOf_78 rfl (lv_at hl 0 rfl) ?_
        have hPc := hP.sub (ws' := []) [] rfl
        have hDc := hD.sub (ws' := []) [] (by decide) rfl
        have hKc := hK.sub (tys' := []) [] rfl
        have hFc := va_free (wc := []) hD hS hA [] rfl
        obtain ⟨v_79, hc_79, h⟩ := of_bind h
        refine va_calli (va_runSN (As := [.int v_21.1]) (rest := [.ref (ak 0)]) ⟨hx, hb, hml, hown, hts⟩ (c_H_relationOf l dC dI H.size v_21.1 v_79.1 v_79.2 hc_79) ⟨va_cnB 1 hts (gI cod_H_relationOf) rfl rfl rfl hC.nst_P_48 (hts _ ini_H) (by decide +kernel) ⟨Nat.le_of_ble_eq_true rfl, Nat.le_of_ble_eq_true rfl⟩, hts _ sta_H_relationOf, trivial⟩ ⟨fun a U g mk q => by obtain ⟨q0, q1, qP, qK, qD⟩ := q; exact ⟨q0, q1, qP, va_K.moved (u := U) (U := U.calling g mk a) (Vm.Alike.refl U.vm) qK, qD⟩, fun U hU hW => ⟨rfl, by rw [hU], by rw [hU]; exact hPc, va_K.moved hW.alike hKc, hDc.weaken (fun _ _ _ _ => trivial)⟩⟩ rfl rfl hl.1 rfl (lv_room (Nat.le_of_ble_eq_true rfl)) d_P_letterOf_79 ⟨Nat.le_of_ble_eq_true rfl, Nat.le_of_ble_eq_true rfl⟩) hS (fun q _ h9 => hFc q h9) hFc (fun r_79 u t H1 locs ht hvm hw hB hz1 hk1 hS => ?_)
        obtain ⟨rfl, rfl⟩ := hw
        obtain ⟨hP1, hK1, hD1⟩ := hB
        rw [ht] at hP1
        obtain ⟨hP, hD⟩ := va_join (wr := []) (w1 := []) hP hD [] [] rfl rfl (by decide) (by decide) hk1 hFc hP1 hD1
        have hP := hP.sub (ws' := []) [] rfl
        have hD := hD.sub (ws' := []) [] (by decide) rfl
        generalize H1 = H at hP hS ⊢
        have hPc := hP.sub (ws' := []) [] rfl
        have hDc := hD.sub (ws' := []) [] (by decide) rfl
        have hKc := hK.sub (tys' := []) [] rfl
        have hFc := va_free (wc := []) hD hS hA [] rfl
        obtain ⟨gq_82, h⟩ := of_guard h
        obtain ⟨v_82, hc_82, h⟩ := of_bind h
        skip
        refine va_calli (va_runV (As := [.int v_79.1]) (rest := []) ⟨hx, hb, hml, hown, hts⟩ (c_S_charAt l dC dI tb ak av H.size 0 v_79.1 v_82.1 v_82.2 hc_82) (cwV 1 hts (gV mlk_P_37 ins_S_charAt sel_S_charAt ini_S cod_S_charAt) rfl rfl rfl (by decide +kernel) ⟨Nat.le_of_ble_eq_true rfl, Nat.le_of_ble_eq_true rfl⟩) ⟨fun a U g mk q => by obtain ⟨q0, q1, qP, qK, qD, qC⟩ := q; exact ⟨q0, q1, qP, va_K.moved (u := U) (U := U.calling g mk a) (Vm.Alike.refl U.vm) qK, qD, kw_blind qC⟩, hC.rcv (inN_lt gq_82) hS, fun U hU hW => ⟨rfl, by rw [hU], by rw [hU]; exact hPc, va_K.moved hW.alike hKc, hDc.weaken (fun _ _ _ _ => trivial), kw_call hC hS hFc hU hW⟩⟩ rfl rfl hl.1 rfl (lv_room (Nat.le_of_ble_eq_true rfl)) d_P_letterOf_82 ⟨Nat.le_of_ble_eq_true rfl, Nat.le_of_ble_eq_true rfl⟩) hS (fun q _ h9 => hFc q h9) hFc (fun r_82 u t H1 locs ht hvm hw hB hz1 hk1 hS => ?_)
        obtain ⟨rfl, rfl⟩ := hw
        obtain ⟨hP1, hK1, hD1⟩ := hB
        rw [ht] at hP1
        obtain ⟨hP, hD⟩ := va_join (wr := []) (w1 := []) hP hD [] [] rfl rfl (by decide) (by decide) hk1 hFc hP1 hD1
        have hP := hP.sub (ws' := []) [] rfl
        have hD := hD.sub (ws' := []) [] (by decide) rfl
        generalize H1 = H at hP hS ⊢
        rw [hQ]
        exact W.iret (v := v_82.1) hx hb hr (fun t ht hW => ⟨⟨v_82.1, (), rfl, Prod.mk.inj (Option.some.inj h), by rw [ht]; exact hP, va_K.moved hW.alike hK, hD⟩, hS.F ht⟩) hS.2.2 d_P_letterOf_85
      have h := of_neg h c_38_0
      by_cases c_38_1 : w_38 = (nI 1)
      · have h := of_pos h c_38_1
        refine lv_tableIn (tgt := 86) (off := 48) hx hb d_P_letterOf_38 (by rw [c_38_1]; decide) (by rw [c_38_1]; decide) (by rw [c_38_1]; rfl) (by decide) ?_
        refine lv_bipush (v := (nI 40)) hx hb d_P_letterOf_86 (by decide) ?_
        rw [hQ]
        exact W.iret (v := (nI 40)) hx hb hr (fun t ht hW => ⟨⟨(nI 40), (), rfl, Prod.mk.inj (Option.some.inj h), by rw [ht]; exact hP, va_K.moved hW.alike hK, hD⟩, hS.F ht⟩) hS.2.2 d_P_letterOf_88
      have h := of_neg h c_38_1
      by_cases c_38_2 : w_38 = (nI 2)
      · have h := of_pos h c_38_2
        refine lv_tableIn (tgt := 89) (off := 51) hx hb d_P_letterOf_38 (by rw [c_38_2]; decide) (by rw [c_38_2]; decide) (by rw [c_38_2]; rfl) (by decide) ?_
        refine va_ldcS hx hb hown hC.str_P_51 d_P_letterOf_89 ?_
        refine lv_iload_n hx hb d_P_letterOf_91 rfl (lv_at hl 0 rfl) ?_
        have hPc := hP.sub (ws' := []) [] rfl
        have hDc := hD.sub (ws' := []) [] (by decide) rfl
        have hKc := hK.sub (tys' := []) [] rfl
        have hFc := va_free (wc := []) hD hS hA [] rfl
        obtain ⟨v_92, hc_92, h⟩ := of_bind h
        refine va_calli (va_runSN (As := [.int v_21.1]) (rest := [.ref (ak 1)]) ⟨hx, hb, hml, hown, hts⟩ (c_H_firstVariableOf l dC dI H.size v_21.1 v_92.1 v_92.2 hc_92) ⟨va_cnB 1 hts (gI cod_H_firstVariableOf) rfl rfl rfl hC.nst_P_53 (hts _ ini_H) (by decide +kernel) ⟨Nat.le_of_ble_eq_true rfl, Nat.le_of_ble_eq_true rfl⟩, hts _ sta_H_firstVariableOf, trivial⟩ ⟨fun a U g mk q => by obtain ⟨q0, q1, qP, qK, qD⟩ := q; exact ⟨q0, q1, qP, va_K.moved (u := U) (U := U.calling g mk a) (Vm.Alike.refl U.vm) qK, qD⟩, fun U hU hW => ⟨rfl, by rw [hU], by rw [hU]; exact hPc, va_K.moved hW.alike hKc, hDc.weaken (fun _ _ _ _ => trivial)⟩⟩ rfl rfl hl.1 rfl (lv_room (Nat.le_of_ble_eq_true rfl)) d_P_letterOf_92 ⟨Nat.le_of_ble_eq_true rfl, Nat.le_of_ble_eq_true rfl⟩) hS (fun q _ h9 => hFc q h9) hFc (fun r_92 u t H1 locs ht hvm hw hB hz1 hk1 hS => ?_)
        obtain ⟨rfl, rfl⟩ := hw
        obtain ⟨hP1, hK1, hD1⟩ := hB
        rw [ht] at hP1
        obtain ⟨hP, hD⟩ := va_join (wr := []) (w1 := []) hP hD [] [] rfl rfl (by decide) (by decide) hk1 hFc hP1 hD1
        have hP := hP.sub (ws' := []) [] rfl
        have hD := hD.sub (ws' := []) [] (by decide) rfl
        generalize H1 = H at hP hS ⊢
        have hPc := hP.sub (ws' := []) [] rfl
        have hDc := hD.sub (ws' := []) [] (by decide) rfl
        have hKc := hK.sub (tys' := []) [] rfl
        have hFc := va_free (wc := []) hD hS hA [] rfl
        obtain ⟨gq_95, h⟩ := of_guard h
        obtain ⟨v_95, hc_95, h⟩ := of_bind h
        skip
        refine va_calli (va_runV (As := [.int v_92.1]) (rest := []) ⟨hx, hb, hml, hown, hts⟩ (c_S_charAt l dC dI tb ak av H.size 1 v_92.1 v_95.1 v_95.2 hc_95) (cwV 1 hts (gV mlk_P_37 ins_S_charAt sel_S_charAt ini_S cod_S_charAt) rfl rfl rfl (by decide +kernel) ⟨Nat.le_of_ble_eq_true rfl, Nat.le_of_ble_eq_true rfl⟩) ⟨fun a U g mk q => by obtain ⟨q0, q1, qP, qK, qD, qC⟩ := q; exact ⟨q0, q1, qP, va_K.moved (u := U) (U := U.calling g mk a) (Vm.Alike.refl U.vm) qK, qD, kw_blind qC⟩, hC.rcv (inN_lt gq_95) hS, fun U hU hW => ⟨rfl, by rw [hU], by rw [hU]; exact hPc, va_K.moved hW.alike hKc, hDc.weaken (fun _ _ _ _ => trivial), kw_call hC hS hFc hU hW⟩⟩ rfl rfl hl.1 rfl (lv_room (Nat.le_of_ble_eq_true rfl)) d_P_letterOf_95 ⟨Nat.le_of_ble_eq_true rfl, Nat.le_of_ble_eq_true rfl⟩) hS (fun q _ h9 => hFc q h9) hFc (fun r_95 u t H1 locs ht hvm hw hB hz1 hk1 hS => ?_)
        obtain ⟨rfl, rfl⟩ := hw
        obtain ⟨hP1, hK1, hD1⟩ := hB
        rw [ht] at hP1
        obtain ⟨hP, hD⟩ := va_join (wr := []) (w1 := []) hP hD [] [] rfl rfl (by decide) (by decide) hk1 hFc hP1 hD1
        have hP := hP.sub (ws' := []) [] rfl
        have hD := hD.sub (ws' := []) [] (by decide) rfl
        generalize H1 = H at hP hS ⊢
        rw [hQ]
        exact W.iret (v := v_95.1) hx hb hr (fun t ht hW => ⟨⟨v_95.1, (), rfl, Prod.mk.inj (Option.some.inj h), by rw [ht]; exact hP, va_K.moved hW.alike hK, hD⟩, hS.F ht⟩) hS.2.2 d_P_letterOf_98
      have h := of_neg h c_38_2
      by_cases c_38_3 : w_38 = (nI 3)
      · have h := of_pos h c_38_3
        refine lv_tableIn (tgt := 112) (off := 74) hx hb d_P_letterOf_38 (by rw [c_38_3]; decide) (by rw [c_38_3]; decide) (by rw [c_38_3]; rfl) (by decide) ?_
        refine lv_bipush (v := (nI 44)) hx hb d_P_letterOf_112 (by decide) ?_
        rw [hQ]
        exact W.iret (v := (nI 44)) hx hb hr (fun t ht hW => ⟨⟨(nI 44), (), rfl, Prod.mk.inj (Option.some.inj h), by rw [ht]; exact hP, va_K.moved hW.alike hK, hD⟩, hS.F ht⟩) hS.2.2 d_P_letterOf_114
      have h := of_neg h c_38_3
      by_cases c_38_4 : w_38 = (nI 4)
      · have h := of_pos h c_38_4
        refine lv_tableIn (tgt := 99) (off := 61) hx hb d_P_letterOf_38 (by rw [c_38_4]; decide) (by rw [c_38_4]; decide) (by rw [c_38_4]; rfl) (by decide) ?_
        refine va_ldcS hx hb hown hC.str_P_51 d_P_letterOf_99 ?_
        refine lv_iload_n hx hb d_P_letterOf_101 rfl (lv_at hl 0 rfl) ?_
        have hPc := hP.sub (ws' := []) [] rfl
        have hDc := hD.sub (ws' := []) [] (by decide) rfl
        have hKc := hK.sub (tys' := []) [] rfl
        have hFc := va_free (wc := []) hD hS hA [] rfl
        obtain ⟨v_102, hc_102, h⟩ := of_bind h
        refine va_calli (va_runSN (As := [.int v_21.1]) (rest := [.ref (ak 1)]) ⟨hx, hb, hml, hown, hts⟩ (c_H_secondVariableOf l dC dI H.size v_21.1 v_102.1 v_102.2 hc_102) ⟨va_cnB 1 hts (gI cod_H_secondVariableOf) rfl rfl rfl hC.nst_P_56 (hts _ ini_H) (by decide +kernel) ⟨Nat.le_of_ble_eq_true rfl, Nat.le_of_ble_eq_true rfl⟩, hts _ sta_H_secondVariableOf, trivial⟩ ⟨fun a U g mk q => by obtain ⟨q0, q1, qP, qK, qD⟩ := q; exact ⟨q0, q1, qP, va_K.moved (u := U) (U := U.calling g mk a) (Vm.Alike.refl U.vm) qK, qD⟩, fun U hU hW => ⟨rfl, by rw [hU], by rw [hU]; exact hPc, va_K.moved hW.alike hKc, hDc.weaken (fun _ _ _ _ => trivial)⟩⟩ rfl rfl hl.1 rfl (lv_room (Nat.le_of_ble_eq_true rfl)) d_P_letterOf_102 ⟨Nat.le_of_ble_eq_true rfl, Nat.le_of_ble_eq_true rfl⟩) hS (fun q _ h9 => hFc q h9) hFc (fun r_102 u t H1 locs ht hvm hw hB hz1 hk1 hS => ?_)
        obtain ⟨rfl, rfl⟩ := hw
        obtain ⟨hP1, hK1, hD1⟩ := hB
        rw [ht] at hP1
        obtain ⟨hP, hD⟩ := va_join (wr := []) (w1 := []) hP hD [] [] rfl rfl (by decide) (by decide) hk1 hFc hP1 hD1
        have hP := hP.sub (ws' := []) [] rfl
        have hD := hD.sub (ws' := []) [] (by decide) rfl
        generalize H1 = H at hP hS ⊢
        have hPc := hP.sub (ws' := []) [] rfl
        have hDc := hD.sub (ws' := []) [] (by decide) rfl
        have hKc := hK.sub (tys' := []) [] rfl
        have hFc := va_free (wc := []) hD hS hA [] rfl
        obtain ⟨gq_105, h⟩ := of_guard h
        obtain ⟨v_105, hc_105, h⟩ := of_bind h
        skip
        refine va_calli (va_runV (As := [.int v_102.1]) (rest := []) ⟨hx, hb, hml, hown, hts⟩ (c_S_charAt l dC dI tb ak av H.size 1 v_102.1 v_105.1 v_105.2 hc_105) (cwV 1 hts (gV mlk_P_37 ins_S_charAt sel_S_charAt ini_S cod_S_charAt) rfl rfl rfl (by decide +kernel) ⟨Nat.le_of_ble_eq_true rfl, Nat.le_of_ble_eq_true rfl⟩) ⟨fun a U g mk q => by obtain ⟨q0, q1, qP, qK, qD, qC⟩ := q; exact ⟨q0, q1, qP, va_K.moved (u := U) (U := U.calling g mk a) (Vm.Alike.refl U.vm) qK, qD, kw_blind qC⟩, hC.rcv (inN_lt gq_105) hS, fun U hU hW => ⟨rfl, by rw [hU], by rw [hU]; exact hPc, va_K.moved hW.alike hKc, hDc.weaken (fun _ _ _ _ => trivial), kw_call hC hS hFc hU hW⟩⟩ rfl rfl hl.1 rfl (lv_room (Nat.le_of_ble_eq_true rfl)) d_P_letterOf_105 ⟨Nat.le_of_ble_eq_true rfl, Nat.le_of_ble_eq_true rfl⟩) hS (fun q _ h9 => hFc q h9) hFc (fun r_105 u t H1 locs ht hvm hw hB hz1 hk1 hS => ?_)
        obtain ⟨rfl, rfl⟩ := hw
        obtain ⟨hP1, hK1, hD1⟩ := hB
        rw [ht] at hP1
        obtain ⟨hP, hD⟩ := va_join (wr := []) (w1 := []) hP hD [] [] rfl rfl (by decide) (by decide) hk1 hFc hP1 hD1
        have hP := hP.sub (ws' := []) [] rfl
        have hD := hD.sub (ws' := []) [] (by decide) rfl
        generalize H1 = H at hP hS ⊢
        rw [hQ]
        exact W.iret (v := v_105.1) hx hb hr (fun t ht hW => ⟨⟨v_105.1, (), rfl, Prod.mk.inj (Option.some.inj h), by rw [ht]; exact hP, va_K.moved hW.alike hK, hD⟩, hS.F ht⟩) hS.2.2 d_P_letterOf_108
      have h := of_neg h c_38_4
      by_cases c_38_5 : w_38 = (nI 5)
      · have h := of_pos h c_38_5
        refine lv_tableIn (tgt := 109) (off := 71) hx hb d_P_letterOf_38 (by rw [c_38_5]; decide) (by rw [c_38_5]; decide) (by rw [c_38_5]; rfl) (by decide) ?_
        refine lv_bipush (v := (nI 41)) hx hb d_P_letterOf_109 (by decide) ?_
        rw [hQ]
        exact W.iret (v := (nI 41)) hx hb hr (fun t ht hW => ⟨⟨(nI 41), (), rfl, Prod.mk.inj (Option.some.inj h), by rw [ht]; exact hP, va_K.moved hW.alike hK, hD⟩, hS.F ht⟩) hS.2.2 d_P_letterOf_111
      have h := of_neg h c_38_5
      refine lv_tableOut (tgt := 112) hx hb d_P_letterOf_38 (by have := lv_neT (a := 0) c_38_0 (by decide); have := lv_neT (a := 1) c_38_1 (by decide); have := lv_neT (a := 2) c_38_2 (by decide); have := lv_neT (a := 3) c_38_3 (by decide); have := lv_neT (a := 4) c_38_4 (by decide); have := lv_neT (a := 5) c_38_5 (by decide); omega) (by decide) ?_
      refine lv_bipush (v := (nI 44)) hx hb d_P_letterOf_112 (by decide) ?_
      rw [hQ]
      exact W.iret (v := (nI 44)) hx hb hr (fun t ht hW => ⟨⟨(nI 44), (), rfl, Prod.mk.inj (Option.some.inj h), by rw [ht]; exact hP, va_K.moved hW.alike hK, hD⟩, hS.F ht⟩) hS.2.2 d_P_letterOf_114
    · have h := of_neg h c_26
      refine lv_iconst (v := (-1 : Int32)) hx hb d_P_letterOf_29 (by decide) ?_
      rw [hQ]
      exact W.iret (v := (-1 : Int32)) hx hb hr (fun t ht hW => ⟨⟨(-1 : Int32), (), rfl, Prod.mk.inj (Option.some.inj h), by rw [ht]; exact hP, va_K.moved hW.alike hK, hD⟩, hS.F ht⟩) hS.2.2 d_P_letterOf_30
  · have h := of_neg h c_3
    refine va_ldcS hx hb hown hC.str_P_35 d_P_letterOf_6 ?_
    refine lv_iload_n hx hb d_P_letterOf_8 rfl (lv_at hl 1 rfl) ?_
    have hPc := hP.sub (ws' := []) [] rfl
    have hDc := hD.sub (ws' := []) [] (by decide) rfl
    have hKc := hK.sub (tys' := []) [] rfl
    have hFc := va_free (wc := []) hD hS hA [] rfl
    obtain ⟨gq_9, h⟩ := of_guard h
    obtain ⟨v_9, hc_9, h⟩ := of_bind h
    skip
    refine va_calli (va_runV (As := [.int x1]) (rest := []) ⟨hx, hb, hml, hown, hts⟩ (c_S_charAt l dC dI tb ak av H.size 2 x1 v_9.1 v_9.2 hc_9) (cwV 1 hts (gV mlk_P_37 ins_S_charAt sel_S_charAt ini_S cod_S_charAt) rfl rfl rfl (by decide +kernel) ⟨Nat.le_of_ble_eq_true rfl, Nat.le_of_ble_eq_true rfl⟩) ⟨fun a U g mk q => by obtain ⟨q0, q1, qP, qK, qD, qC⟩ := q; exact ⟨q0, q1, qP, va_K.moved (u := U) (U := U.calling g mk a) (Vm.Alike.refl U.vm) qK, qD, kw_blind qC⟩, hC.rcv (inN_lt gq_9) hS, fun U hU hW => ⟨rfl, by rw [hU], by rw [hU]; exact hPc, va_K.moved hW.alike hKc, hDc.weaken (fun _ _ _ _ => trivial), kw_call hC hS hFc hU hW⟩⟩ rfl rfl hl.1 rfl (lv_room (Nat.le_of_ble_eq_true rfl)) d_P_letterOf_9 ⟨Nat.le_of_ble_eq_true rfl, Nat.le_of_ble_eq_true rfl⟩) hS (fun q _ h9 => hFc q h9) hFc (fun r_9 u t H1 locs ht hvm hw hB hz1 hk1 hS => ?_)
    obtain ⟨rfl, rfl⟩ := hw
    obtain ⟨hP1, hK1, hD1⟩ := hB
    rw [ht] at hP1
    obtain ⟨hP, hD⟩ := va_join (wr := []) (w1 := []) hP hD [] [] rfl rfl (by decide) (by decide) hk1 hFc hP1 hD1
    have hP := hP.sub (ws' := []) [] rfl
    have hD := hD.sub (ws' := []) [] (by decide) rfl
    generalize H1 = H at hP hS ⊢
    rw [hQ]
    exact W.iret (v := v_9.1) hx hb hr (fun t ht hW => ⟨⟨v_9.1, (), rfl, Prod.mk.inj (Option.some.inj h), by rw [ht]; exact hP, va_K.moved hW.alike hK, hD⟩, hS.F ht⟩) hS.2.2 d_P_letterOf_12
set_option maxHeartbeats 1000000 in
set_option maxRecDepth 100000 in
theorem c_P_letterAt (l : Launch) (dC : Nat → ClassId) (dI : Nat → Nat → Nat) (h_o h_bodies : Nat) (k_bodies : ClassId) (tb : Nat) (ak av : Nat → Nat) (sz : Nat) (v_count : Int32) (v_bodies : Nat → Int32) (x1 : Int32) (r0 : Int32) (u0 : Unit) (h : m_P_letterAt v_count v_bodies x1 = some (r0, u0)) : Met l y_P_letterAt w_P_letterAt ({ frames := 5, cells := 0, slots := 0, locals := 107 } : Room) (va_Pc [.ref h_o, .int x1] (fun U => U.heap.size = sz ∧ va_P (dC, dI) classes [(h_o, .inr (2, [.ref h_bodies, .int v_count])), (h_bodies, .inl (k_bodies, 2, .inl v_bodies))] U.heap ∧ va_K (dC, dI) classes [(k_bodies, .int)] U ∧ va_D (fun _ => True) [(h_o, .inr (2, [.ref h_bodies, .int v_count])), (h_bodies, .inl (k_bodies, 2, .inl v_bodies))] ∧ kw tb ak av (va_A [(h_o, .inr (2, [.ref h_bodies, .int v_count])), (h_bodies, .inl (k_bodies, 2, .inl v_bodies))] sz) U)) (va_Qi (fun (r : Int32) (u : Unit) => r = r0 ∧ u = u0) (fun (u : Unit) (t : State) => va_P (dC, dI) classes [(h_o, .inr (2, [.ref h_bodies, .int v_count])), (h_bodies, .inl (k_bodies, 2, .inl v_bodies))] t.heap ∧ va_K (dC, dI) classes [(k_bodies, .int)] t ∧ va_D (va_A [(h_o, .inr (2, [.ref h_bodies, .int v_count])), (h_bodies, .inl (k_bodies, 2, .inl v_bodies))] sz) [(h_o, .inr (2, [.ref h_bodies, .int v_count])), (h_bodies, .inl (k_bodies, 2, .inl v_bodies))]) (va_A [(h_o, .inr (2, [.ref h_bodies, .int v_count])), (h_bodies, .inl (k_bodies, 2, .inl v_bodies))] sz)) 0 0 (va_A [(h_o, .inr (2, [.ref h_bodies, .int v_count])), (h_bodies, .inl (k_bodies, 2, .inl v_bodies))] sz) := by
  refine Met.ofW (cc := b_P_letterAt) (maxL := 5) (ret := (some .int)) (by decide) rfl ?_
  intro p e s m args below meth c s₁ B hml hv
  obtain ⟨rfl, hsz, hP, hK, hD0, hC⟩ := hv
  have hx := B.exec
  have hb := B.bytes
  have hr := B.returns
  have hts0 := atoms_spec (ws := w_P_letterAt) B.pre
  have hts : ∀ w ∈ lw_gd, w.before ([.ref h_o, .int x1] : List Value).toArray s = true := fun w h9 => hts0 w (List.mem_cons_of_mem _ h9)
  have hown : s.vm.findClass R_P = some m.cls := findClass_of_methodNamed B.named
  have hlocks := B.notSynchronized
  subst hsz
  have hD := hD0.self (sz := s.heap.size)
  generalize hAe : va_A [(h_o, .inr (2, [.ref h_bodies, .int v_count])), (h_bodies, .inl (k_bodies, 2, .inl v_bodies))] s.heap.size = A at hD hC ⊢
  have hA : ∀ q : Nat, s.heap.size ≤ q → A q := fun q h9 => by rw [← hAe]; exact Or.inr h9
  obtain ⟨H, eH⟩ : ∃ H : Heap, H = s.heap := ⟨_, rfl⟩
  have hS : va_S A s.heap H [] := by rw [eH]; exact va_S.rf
  have hP : va_P (dC, dI) classes [(h_o, .inr (2, [.ref h_bodies, .int v_count])), (h_bodies, .inl (k_bodies, 2, .inl v_bodies))] H := by rw [eH]; exact hP
  refine W_gen (fun Q hQ => ?_)
  refine W_heap eH ?_
  clear eH
  have hl := lv_entry ([.ref h_o, .int x1]) (n := 5) (Nat.le_of_ble_eq_true rfl)
  rw [lg_entry_eq]
  generalize (lg_sl ([.ref h_o, .int x1]) ++ List.replicate (5 - (lg_sl ([.ref h_o, .int x1])).length) Slot.unset).toArray = ls at hl ⊢
  have hl : lv_has ls 5 [(0, .ref h_o), (1, .int x1)] := hl
  have J_63 : ∀ (k_4 : Int32 → Int32 → Option (Int32 × Unit)) (hk_4 : ∀ (z2 : Int32) (z3 : Int32), k_4 z2 z3 = some (r0, u0) → ∀ (H : Heap) (locs : List Loc), va_P (dC, dI) classes [(h_o, .inr (2, [.ref h_bodies, .int v_count])), (h_bodies, .inl (k_bodies, 2, .inl v_bodies))] H → va_D A [(h_o, .inr (2, [.ref h_bodies, .int v_count])), (h_bodies, .inl (k_bodies, 2, .inl v_bodies))] → va_S A s.heap H locs → ∀ (ls : Array Slot), lv_has ls 5 [(0, .ref h_o), (2, .int z2), (3, .int z3)] → W p l e (headSpec w_P_letterAt ({ frames := 5, cells := 0, slots := 0, locals := 107 } : Room)).room s m ([.ref h_o, .int x1] : List Value).toArray below meth c H locs 0 0 Q (F0 m 4 ls [])) (z2 : Int32) (z3 : Int32) (z4 : Int32), m_P_letterAt_63 v_count v_bodies k_4 z2 z3 z4 = some (r0, u0) → ∀ (H : Heap) (locs : List Loc), va_P (dC, dI) classes [(h_o, .inr (2, [.ref h_bodies, .int v_count])), (h_bodies, .inl (k_bodies, 2, .inl v_bodies))] H → va_D A [(h_o, .inr (2, [.ref h_bodies, .int v_count])), (h_bodies, .inl (k_bodies, 2, .inl v_bodies))] → va_S A s.heap H locs → ∀ (ls : Array Slot), lv_has ls 5 [(0, .ref h_o), (2, .int z2), (3, .int z3), (4, .int z4)] → W p l e (headSpec w_P_letterAt ({ frames := 5, cells := 0, slots := 0, locals := 107 } : Room)).room s m ([.ref h_o, .int x1] : List Value).toArray below meth c H locs 0 0 Q (F0 m 63 ls []) := by
    intro k_4 hk_4 z2 z3 z4 h H locs hP hD hS ls hl
    unfold m_P_letterAt_63 at h
    refine lv_iload_n hx hb d_P_letterAt_63 rfl (lv_at hl 1 rfl) ?_
    refine lv_iload hx hb d_P_letterAt_64 (lv_at hl 3 rfl) ?_
    refine lv_iconst (v := (nI 1)) hx hb d_P_letterAt_66 (by decide) ?_
    refine lv_iadd hx hb d_P_letterAt_67 ?_
    refine lv_isub hx hb d_P_letterAt_68 ?_
    refine lv_istore_n (lv' := [(2, .int (z2 - (z4 + (nI 1)))), (0, .ref h_o), (3, .int z3), (4, .int z4)]) hx hb d_P_letterAt_69 rfl hl (by decide) rfl (fun ls hl => ?_)
    refine lv_iinc (v := z3 + (nI 1)) (lv' := [(3, .int (z3 + (nI 1))), (2, .int (z2 - (z4 + (nI 1)))), (0, .ref h_o), (4, .int z4)]) hx hb d_P_letterAt_70 hl (k := 2) rfl rfl (by decide) rfl (fun ls hl => ?_)
    refine lv_goto (tgt := 4) hx hb d_P_letterAt_73 (by decide) ?_
    exact hk_4 (z2 - (z4 + (nI 1))) (z3 + (nI 1)) h _ _ hP hD hS ls (lv_sub hl [2, 1, 0] rfl)
  have J_4 : ∀ (n : Nat) (z2 : Int32) (z3 : Int32), m_P_letterAt_4 v_count v_bodies n z2 z3 = some (r0, u0) → ∀ (H : Heap) (locs : List Loc), va_P (dC, dI) classes [(h_o, .inr (2, [.ref h_bodies, .int v_count])), (h_bodies, .inl (k_bodies, 2, .inl v_bodies))] H → va_D A [(h_o, .inr (2, [.ref h_bodies, .int v_count])), (h_bodies, .inl (k_bodies, 2, .inl v_bodies))] → va_S A s.heap H locs → ∀ (ls : Array Slot), lv_has ls 5 [(0, .ref h_o), (2, .int z2), (3, .int z3)] → W p l e (headSpec w_P_letterAt ({ frames := 5, cells := 0, slots := 0, locals := 107 } : Room)).room s m ([.ref h_o, .int x1] : List Value).toArray below meth c H locs 0 0 Q (F0 m 4 ls []) := by
    intro n
    induction n with
    | zero => intro z2 z3 h; exact absurd h (by unfold m_P_letterAt_4; exact fun h9 => nomatch h9)
    | succ n ih =>
      intro z2 z3 h H locs hP hD hS ls hl
      unfold m_P_letterAt_4 at h
      refine lv_iload_n hx hb d_P_letterAt_4 rfl (lv_at hl 2 rfl) ?_
      refine lv_aload_n hx hb d_P_letterAt_5 rfl (lv_at hl 0 rfl) ?_
      refine va_get (D := (dC, dI)) (ci := 2) (v := .int v_count) (C := R_P) (T := F_P) (N := 2) hx hb hts lay_P hown hK hP 0 rfl rfl 1 (by decide) (hts _ flk_P_15) (fun _ h9 => h9) rfl d_P_letterAt_6 ?_
      refine lv_icmp_ge (tgt := 76) hx hb d_P_letterAt_9 (by decide) (fun c_9 => ?_) (fun c_9 => ?_)
      · have h := of_pos h c_9
        refine lv_iconst (v := (-1 : Int32)) hx hb d_P_letterAt_76 (by decide) ?_
        rw [hQ]
        exact W.iret (v := (-1 : Int32)) hx hb hr (fun t ht hW => ⟨⟨(-1 : Int32), (), rfl, Prod.mk.inj (Option.some.inj h), by rw [ht]; exact hP, va_K.moved hW.alike hK, hD⟩, hS.F ht⟩) hS.2.2 d_P_letterAt_77
      · have h := of_neg h c_9
        refine lv_iload_n hx hb d_P_letterAt_12 rfl (lv_at hl 1 rfl) ?_
        refine lv_if_lt (tgt := 76) hx hb d_P_letterAt_13 (by decide) (fun c_13 => ?_) (fun c_13 => ?_)
        · have h := of_pos h c_13
          refine lv_iconst (v := (-1 : Int32)) hx hb d_P_letterAt_76 (by decide) ?_
          rw [hQ]
          exact W.iret (v := (-1 : Int32)) hx hb hr (fun t ht hW => ⟨⟨(-1 : Int32), (), rfl, Prod.mk.inj (Option.some.inj h), by rw [ht]; exact hP, va_K.moved hW.alike hK, hD⟩, hS.F ht⟩) hS.2.2 d_P_letterAt_77
        · have h := of_neg h c_13
          refine lv_aload_n hx hb d_P_letterAt_16 rfl (lv_at hl 0 rfl) ?_
          refine va_get (D := (dC, dI)) (ci := 2) (v := .ref h_bodies) (C := R_P) (T := F_P) (N := 2) hx hb hts lay_P hown hK hP 0 rfl rfl 0 (by decide) (hts _ flk_P_9) (fun _ h9 => h9) rfl d_P_letterAt_17 ?_
          refine lv_iload_n hx hb d_P_letterAt_20 rfl (lv_at hl 2 rfl) ?_
          obtain ⟨g_21, h⟩ := of_guard h
          refine va_iald hx hb hK hP 1 0 rfl rfl (inR_in g_21) d_P_letterAt_21 ?_
          have hPc := hP.sub (ws' := []) [] rfl
          have hDc := hD.sub (ws' := []) [] (by decide) rfl
          have hKc := hK.sub (tys' := []) [] rfl
          have hFc := va_free (wc := []) hD hS hA [] rfl
          obtain ⟨v_22, hc_22, h⟩ := of_bind h
          refine va_calli (va_runS (As := [.int (v_bodies z3.toNatClampNeg)]) (rest := []) ⟨hx, hb, hml, hown, hts⟩ (c_P_textLength l dC dI H.size (v_bodies z3.toNatClampNeg) v_22.1 v_22.2 hc_22) (va_cwS 1 hts (gS mlk_P_23 sta_P_textLength ini_P cod_P_textLength) rfl rfl rfl (by decide +kernel) ⟨Nat.le_of_ble_eq_true rfl, Nat.le_of_ble_eq_true rfl⟩) ⟨fun a U g mk q => by obtain ⟨q0, q1, qP, qK, qD⟩ := q; exact ⟨q0, q1, qP, va_K.moved (u := U) (U := U.calling g mk a) (Vm.Alike.refl U.vm) qK, qD⟩, fun U hU hW => ⟨rfl, by rw [hU], by rw [hU]; exact hPc, va_K.moved hW.alike hKc, hDc.weaken (fun _ _ _ _ => trivial)⟩⟩ rfl rfl hl.1 rfl (lv_room (Nat.le_of_ble_eq_true rfl)) d_P_letterAt_22 ⟨Nat.le_of_ble_eq_true rfl, Nat.le_of_ble_eq_true rfl⟩) hS (fun q _ h9 => hFc q h9) hFc (fun r_22 u t H1 locs ht hvm hw hB hz1 hk1 hS => ?_)
          obtain ⟨rfl, rfl⟩ := hw
          obtain ⟨hP1, hK1, hD1⟩ := hB
          rw [ht] at hP1
          obtain ⟨hP, hD⟩ := va_join (wr := [(h_o, .inr (2, [.ref h_bodies, .int v_count])), (h_bodies, .inl (k_bodies, 2, .inl v_bodies))]) (w1 := []) hP hD [] [0, 1] rfl rfl (by decide) (by decide) hk1 hFc hP1 hD1
          have hP := hP.sub (ws' := [(h_o, .inr (2, [.ref h_bodies, .int v_count])), (h_bodies, .inl (k_bodies, 2, .inl v_bodies))]) [0, 1] rfl
          have hD := hD.sub (ws' := [(h_o, .inr (2, [.ref h_bodies, .int v_count])), (h_bodies, .inl (k_bodies, 2, .inl v_bodies))]) [0, 1] (by decide) rfl
          generalize H1 = H at hP hS ⊢
          refine lv_istore (lv' := [(4, .int v_22.1), (0, .ref h_o), (2, .int z2), (3, .int z3)]) hx hb d_P_letterAt_25 hl (by decide) rfl (fun ls hl => ?_)
          refine lv_iload_n hx hb d_P_letterAt_27 rfl (lv_at hl 2 rfl) ?_
          refine lv_iload hx hb d_P_letterAt_28 (lv_at hl 0 rfl) ?_
          refine lv_icmp_ge (tgt := 44) hx hb d_P_letterAt_30 (by decide) (fun c_30 => ?_) (fun c_30 => ?_)
          · have h := of_pos h c_30
            refine lv_iload_n hx hb d_P_letterAt_44 rfl (lv_at hl 2 rfl) ?_
            refine lv_iload hx hb d_P_letterAt_45 (lv_at hl 0 rfl) ?_
            refine lv_icmp_ne (tgt := 63) hx hb d_P_letterAt_47 (by decide) (fun c_47 => ?_) (fun c_47 => ?_)
            · have h := of_neg h c_47
              exact J_63 (m_P_letterAt_4 v_count v_bodies n) ih z2 z3 v_22.1 h _ _ hP hD hS ls (lv_sub hl [1, 2, 3, 0] rfl)
            · have h := of_pos h c_47
              refine lv_iload_n hx hb d_P_letterAt_50 rfl (lv_at hl 3 rfl) ?_
              refine lv_iconst (v := (nI 1)) hx hb d_P_letterAt_51 (by decide) ?_
              refine lv_iadd hx hb d_P_letterAt_52 ?_
              refine lv_aload_n hx hb d_P_letterAt_53 rfl (lv_at hl 1 rfl) ?_
              refine va_get (D := (dC, dI)) (ci := 2) (v := .int v_count) (C := R_P) (T := F_P) (N := 2) hx hb hts lay_P hown hK hP 0 rfl rfl 1 (by decide) (hts _ flk_P_15) (fun _ h9 => h9) rfl d_P_letterAt_54 ?_
              refine lv_icmp_ge (tgt := 63) hx hb d_P_letterAt_57 (by decide) (fun c_57 => ?_) (fun c_57 => ?_)
              · have h := of_pos h c_57
                exact J_63 (m_P_letterAt_4 v_count v_bodies n) ih z2 z3 v_22.1 h _ _ hP hD hS ls (lv_sub hl [1, 2, 3, 0] rfl)
              · have h := of_neg h c_57
                refine lv_bipush (v := (nI 59)) hx hb d_P_letterAt_60 (by decide) ?_
                rw [hQ]
                exact W.iret (v := (nI 59)) hx hb hr (fun t ht hW => ⟨⟨(nI 59), (), rfl, Prod.mk.inj (Option.some.inj h), by rw [ht]; exact hP, va_K.moved hW.alike hK, hD⟩, hS.F ht⟩) hS.2.2 d_P_letterAt_62
          · have h := of_neg h c_30
            refine lv_aload_n hx hb d_P_letterAt_33 rfl (lv_at hl 1 rfl) ?_
            refine va_get (D := (dC, dI)) (ci := 2) (v := .ref h_bodies) (C := R_P) (T := F_P) (N := 2) hx hb hts lay_P hown hK hP 0 rfl rfl 0 (by decide) (hts _ flk_P_9) (fun _ h9 => h9) rfl d_P_letterAt_34 ?_
            refine lv_iload_n hx hb d_P_letterAt_37 rfl (lv_at hl 3 rfl) ?_
            obtain ⟨g_38, h⟩ := of_guard h
            refine va_iald hx hb hK hP 1 0 rfl rfl (inR_in g_38) d_P_letterAt_38 ?_
            refine lv_iload_n hx hb d_P_letterAt_39 rfl (lv_at hl 2 rfl) ?_
            have hPc := hP.sub (ws' := []) [] rfl
            have hDc := hD.sub (ws' := []) [] (by decide) rfl
            have hKc := hK.sub (tys' := []) [] rfl
            have hFc := va_free (wc := []) hD hS hA [] rfl
            obtain ⟨v_40, hc_40, h⟩ := of_bind h
            refine va_calli (va_runS (As := [.int (v_bodies z3.toNatClampNeg), .int z2]) (rest := []) ⟨hx, hb, hml, hown, hts⟩ (c_P_letterOf l dC dI tb ak av H.size (v_bodies z3.toNatClampNeg) z2 v_40.1 v_40.2 hc_40) (va_cwS 2 hts (gS mlk_P_26 sta_P_letterOf ini_P cod_P_letterOf) rfl rfl rfl (by decide +kernel) ⟨Nat.le_of_ble_eq_true rfl, Nat.le_of_ble_eq_true rfl⟩) ⟨fun a U g mk q => by obtain ⟨q0, q1, qP, qK, qD, qC⟩ := q; exact ⟨q0, q1, qP, va_K.moved (u := U) (U := U.calling g mk a) (Vm.Alike.refl U.vm) qK, qD, kw_blind qC⟩, fun U hU hW => ⟨rfl, by rw [hU], by rw [hU]; exact hPc, va_K.moved hW.alike hKc, hDc.weaken (fun _ _ _ _ => trivial), kw_call hC hS hFc hU hW⟩⟩ rfl rfl hl.1 rfl (lv_room (Nat.le_of_ble_eq_true rfl)) d_P_letterAt_40 ⟨Nat.le_of_ble_eq_true rfl, Nat.le_of_ble_eq_true rfl⟩) hS (fun q _ h9 => hFc q h9) hFc (fun r_40 u t H1 locs ht hvm hw hB hz1 hk1 hS => ?_)
            obtain ⟨rfl, rfl⟩ := hw
            obtain ⟨hP1, hK1, hD1⟩ := hB
            rw [ht] at hP1
            obtain ⟨hP, hD⟩ := va_join (wr := [(h_o, .inr (2, [.ref h_bodies, .int v_count])), (h_bodies, .inl (k_bodies, 2, .inl v_bodies))]) (w1 := []) hP hD [] [0, 1] rfl rfl (by decide) (by decide) hk1 hFc hP1 hD1
            have hP := hP.sub (ws' := [(h_o, .inr (2, [.ref h_bodies, .int v_count])), (h_bodies, .inl (k_bodies, 2, .inl v_bodies))]) [0, 1] rfl
            have hD := hD.sub (ws' := [(h_o, .inr (2, [.ref h_bodies, .int v_count])), (h_bodies, .inl (k_bodies, 2, .inl v_bodies))]) [0, 1] (by decide) rfl
            generalize H1 = H at hP hS ⊢
            rw [hQ]
            exact W.iret (v := v_40.1) hx hb hr (fun t ht hW => ⟨⟨v_40.1, (), rfl, Prod.mk.inj (Option.some.inj h), by rw [ht]; exact hP, va_K.moved hW.alike hK, hD⟩, hS.F ht⟩) hS.2.2 d_P_letterAt_43
  unfold m_P_letterAt at h
  refine lv_iload_n hx hb d_P_letterAt_0 rfl (lv_at hl 1 rfl) ?_
  refine lv_istore_n (lv' := [(2, .int x1), (0, .ref h_o), (1, .int x1)]) hx hb d_P_letterAt_1 rfl hl (by decide) rfl (fun ls hl => ?_)
  refine lv_iconst (v := (nI 0)) hx hb d_P_letterAt_2 (by decide) ?_
  refine lv_istore_n (lv' := [(3, .int (nI 0)), (2, .int x1), (0, .ref h_o), (1, .int x1)]) hx hb d_P_letterAt_3 rfl hl (by decide) rfl (fun ls hl => ?_)
  exact J_4 40 x1 (nI 0) h _ _ hP hD hS ls (lv_sub hl [2, 1, 0] rfl)
