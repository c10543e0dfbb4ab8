theorem d_M_follows_0 : decode b_M_follows 0 = .ok (.iconst 0, 1) := by decide +kernel
theorem d_M_follows_1 : decode b_M_follows 1 = .ok (.istore_n 3, 1) := by decide +kernel
theorem d_M_follows_2 : decode b_M_follows 2 = .ok (.iload_n 3, 1) := by decide +kernel
theorem d_M_follows_3 : decode b_M_follows 3 = .ok (.aload_n 0, 1) := by decide +kernel
theorem d_M_follows_4 : decode b_M_follows 4 = .ok (.getfield 85, 3) := by decide +kernel
theorem d_M_follows_7 : decode b_M_follows 7 = .ok (.if_icmp .ge 80, 3) := by decide +kernel
theorem d_M_follows_10 : decode b_M_follows 10 = .ok (.iconst 0, 1) := by decide +kernel
theorem d_M_follows_11 : decode b_M_follows 11 = .ok (.istore 4, 2) := by decide +kernel
theorem d_M_follows_13 : decode b_M_follows 13 = .ok (.iload 4, 2) := by decide +kernel
theorem d_M_follows_15 : decode b_M_follows 15 = .ok (.iconst 4, 1) := by decide +kernel
theorem d_M_follows_16 : decode b_M_follows 16 = .ok (.if_icmp .ge 65, 3) := by decide +kernel
theorem d_M_follows_19 : decode b_M_follows 19 = .ok (.iconst 1, 1) := by decide +kernel
theorem d_M_follows_20 : decode b_M_follows 20 = .ok (.istore 5, 2) := by decide +kernel
theorem d_M_follows_22 : decode b_M_follows 22 = .ok (.iconst 0, 1) := by decide +kernel
theorem d_M_follows_23 : decode b_M_follows 23 = .ok (.istore 6, 2) := by decide +kernel
theorem d_M_follows_25 : decode b_M_follows 25 = .ok (.iload 6, 2) := by decide +kernel
theorem d_M_follows_27 : decode b_M_follows 27 = .ok (.aload_n 0, 1) := by decide +kernel
theorem d_M_follows_28 : decode b_M_follows 28 = .ok (.getfield 20, 3) := by decide +kernel
theorem d_M_follows_31 : decode b_M_follows 31 = .ok (.iload_n 3, 1) := by decide +kernel
theorem d_M_follows_32 : decode b_M_follows 32 = .ok (.iaload, 1) := by decide +kernel
theorem d_M_follows_33 : decode b_M_follows 33 = .ok (.if_icmp .ge 35, 3) := by decide +kernel
theorem d_M_follows_36 : decode b_M_follows 36 = .ok (.iload 5, 2) := by decide +kernel
theorem d_M_follows_38 : decode b_M_follows 38 = .ok (.ifCond .eq 30, 3) := by decide +kernel
theorem d_M_follows_41 : decode b_M_follows 41 = .ok (.aload_n 0, 1) := by decide +kernel
theorem d_M_follows_42 : decode b_M_follows 42 = .ok (.aload_n 0, 1) := by decide +kernel
theorem d_M_follows_43 : decode b_M_follows 43 = .ok (.getfield 23, 3) := by decide +kernel
theorem d_M_follows_46 : decode b_M_follows 46 = .ok (.iconst 3, 1) := by decide +kernel
theorem d_M_follows_47 : decode b_M_follows 47 = .ok (.iload_n 3, 1) := by decide +kernel
theorem d_M_follows_48 : decode b_M_follows 48 = .ok (.imul, 1) := by decide +kernel
theorem d_M_follows_49 : decode b_M_follows 49 = .ok (.iload 6, 2) := by decide +kernel
theorem d_M_follows_51 : decode b_M_follows 51 = .ok (.iadd, 1) := by decide +kernel
theorem d_M_follows_52 : decode b_M_follows 52 = .ok (.iaload, 1) := by decide +kernel
theorem d_M_follows_53 : decode b_M_follows 53 = .ok (.iload_n 1, 1) := by decide +kernel
theorem d_M_follows_54 : decode b_M_follows 54 = .ok (.iload_n 2, 1) := by decide +kernel
theorem d_M_follows_55 : decode b_M_follows 55 = .ok (.iload 4, 2) := by decide +kernel
theorem d_M_follows_57 : decode b_M_follows 57 = .ok (.invokevirtual 122, 3) := by decide +kernel
theorem d_M_follows_60 : decode b_M_follows 60 = .ok (.istore 5, 2) := by decide +kernel
theorem d_M_follows_62 : decode b_M_follows 62 = .ok (.iinc 6 1, 3) := by decide +kernel
theorem d_M_follows_65 : decode b_M_follows 65 = .ok (.goto (-40), 3) := by decide +kernel
theorem d_M_follows_68 : decode b_M_follows 68 = .ok (.iload 5, 2) := by decide +kernel
theorem d_M_follows_70 : decode b_M_follows 70 = .ok (.ifCond .eq 5, 3) := by decide +kernel
theorem d_M_follows_73 : decode b_M_follows 73 = .ok (.iconst 1, 1) := by decide +kernel
theorem d_M_follows_74 : decode b_M_follows 74 = .ok (.ireturn, 1) := by decide +kernel
theorem d_M_follows_75 : decode b_M_follows 75 = .ok (.iinc 4 1, 3) := by decide +kernel
theorem d_M_follows_78 : decode b_M_follows 78 = .ok (.goto (-65), 3) := by decide +kernel
theorem d_M_follows_81 : decode b_M_follows 81 = .ok (.iinc 3 1, 3) := by decide +kernel
theorem d_M_follows_84 : decode b_M_follows 84 = .ok (.goto (-82), 3) := by decide +kernel
theorem d_M_follows_87 : decode b_M_follows 87 = .ok (.iconst 0, 1) := by decide +kernel
theorem d_M_follows_88 : decode b_M_follows 88 = .ok (.ireturn, 1) := by decide +kernel
theorem d_M_work_0 : decode b_M_work 0 = .ok (.iconst 0, 1) := by decide +kernel
theorem d_M_work_1 : decode b_M_work 1 = .ok (.istore_n 1, 1) := by decide +kernel
theorem d_M_work_2 : decode b_M_work 2 = .ok (.iload_n 1, 1) := by decide +kernel
theorem d_M_work_3 : decode b_M_work 3 = .ok (.bipush 16, 2) := by decide +kernel
theorem d_M_work_5 : decode b_M_work 5 = .ok (.if_icmp .ge 16, 3) := by decide +kernel
theorem d_M_work_8 : decode b_M_work 8 = .ok (.aload_n 0, 1) := by decide +kernel
theorem d_M_work_9 : decode b_M_work 9 = .ok (.getfield 35, 3) := by decide +kernel
theorem d_M_work_12 : decode b_M_work 12 = .ok (.iload_n 1, 1) := by decide +kernel
theorem d_M_work_13 : decode b_M_work 13 = .ok (.iconst 0, 1) := by decide +kernel
theorem d_M_work_14 : decode b_M_work 14 = .ok (.iastore, 1) := by decide +kernel
theorem d_M_work_15 : decode b_M_work 15 = .ok (.iinc 1 1, 3) := by decide +kernel
theorem d_M_work_18 : decode b_M_work 18 = .ok (.goto (-16), 3) := by decide +kernel
theorem d_M_work_21 : decode b_M_work 21 = .ok (.aload_n 0, 1) := by decide +kernel
theorem d_M_work_22 : decode b_M_work 22 = .ok (.iconst 0, 1) := by decide +kernel
theorem d_M_work_23 : decode b_M_work 23 = .ok (.putfield 126, 3) := by decide +kernel
theorem d_M_work_26 : decode b_M_work 26 = .ok (.iconst 1, 1) := by decide +kernel
theorem d_M_work_27 : decode b_M_work 27 = .ok (.istore_n 1, 1) := by decide +kernel
theorem d_M_work_28 : decode b_M_work 28 = .ok (.iload_n 1, 1) := by decide +kernel
theorem d_M_work_29 : decode b_M_work 29 = .ok (.ifCond .eq 137, 3) := by decide +kernel
theorem d_M_work_32 : decode b_M_work 32 = .ok (.iconst 0, 1) := by decide +kernel
theorem d_M_work_33 : decode b_M_work 33 = .ok (.istore_n 1, 1) := by decide +kernel
theorem d_M_work_34 : decode b_M_work 34 = .ok (.iconst 0, 1) := by decide +kernel
theorem d_M_work_35 : decode b_M_work 35 = .ok (.istore_n 2, 1) := by decide +kernel
theorem d_M_work_36 : decode b_M_work 36 = .ok (.iload_n 2, 1) := by decide +kernel
theorem d_M_work_37 : decode b_M_work 37 = .ok (.bipush 16, 2) := by decide +kernel
theorem d_M_work_39 : decode b_M_work 39 = .ok (.if_icmp .ge 61, 3) := by decide +kernel
theorem d_M_work_42 : decode b_M_work 42 = .ok (.aload_n 0, 1) := by decide +kernel
theorem d_M_work_43 : decode b_M_work 43 = .ok (.getfield 38, 3) := by decide +kernel
theorem d_M_work_46 : decode b_M_work 46 = .ok (.iload_n 2, 1) := by decide +kernel
theorem d_M_work_47 : decode b_M_work 47 = .ok (.aload_n 0, 1) := by decide +kernel
theorem d_M_work_48 : decode b_M_work 48 = .ok (.getfield 35, 3) := by decide +kernel
theorem d_M_work_51 : decode b_M_work 51 = .ok (.iload_n 2, 1) := by decide +kernel
theorem d_M_work_52 : decode b_M_work 52 = .ok (.iaload, 1) := by decide +kernel
theorem d_M_work_53 : decode b_M_work 53 = .ok (.ifCond .ne 20, 3) := by decide +kernel
theorem d_M_work_56 : decode b_M_work 56 = .ok (.aload_n 0, 1) := by decide +kernel
theorem d_M_work_57 : decode b_M_work 57 = .ok (.iload_n 2, 1) := by decide +kernel
theorem d_M_work_58 : decode b_M_work 58 = .ok (.iconst 4, 1) := by decide +kernel
theorem d_M_work_59 : decode b_M_work 59 = .ok (.idiv, 1) := by decide +kernel
theorem d_M_work_60 : decode b_M_work 60 = .ok (.iload_n 2, 1) := by decide +kernel
theorem d_M_work_61 : decode b_M_work 61 = .ok (.iconst 4, 1) := by decide +kernel
theorem d_M_work_62 : decode b_M_work 62 = .ok (.irem, 1) := by decide +kernel
theorem d_M_work_63 : decode b_M_work 63 = .ok (.invokevirtual 129, 3) := by decide +kernel
theorem d_M_work_66 : decode b_M_work 66 = .ok (.ifCond .eq 7, 3) := by decide +kernel
theorem d_M_work_69 : decode b_M_work 69 = .ok (.iconst 1, 1) := by decide +kernel
theorem d_M_work_70 : decode b_M_work 70 = .ok (.goto 4, 3) := by decide +kernel
theorem d_M_work_73 : decode b_M_work 73 = .ok (.iconst 0, 1) := by decide +kernel
theorem d_M_work_74 : decode b_M_work 74 = .ok (.bastore, 1) := by decide +kernel
theorem d_M_work_75 : decode b_M_work 75 = .ok (.iload_n 1, 1) := by decide +kernel
theorem d_M_work_76 : decode b_M_work 76 = .ok (.ifCond .ne 12, 3) := by decide +kernel
theorem d_M_work_79 : decode b_M_work 79 = .ok (.aload_n 0, 1) := by decide +kernel
theorem d_M_work_80 : decode b_M_work 80 = .ok (.getfield 38, 3) := by decide +kernel
theorem d_M_work_83 : decode b_M_work 83 = .ok (.iload_n 2, 1) := by decide +kernel
theorem d_M_work_84 : decode b_M_work 84 = .ok (.baload, 1) := by decide +kernel
theorem d_M_work_85 : decode b_M_work 85 = .ok (.ifCond .eq 7, 3) := by decide +kernel
theorem d_M_work_88 : decode b_M_work 88 = .ok (.iconst 1, 1) := by decide +kernel
theorem d_M_work_89 : decode b_M_work 89 = .ok (.goto 4, 3) := by decide +kernel
theorem d_M_work_92 : decode b_M_work 92 = .ok (.iconst 0, 1) := by decide +kernel
theorem d_M_work_93 : decode b_M_work 93 = .ok (.istore_n 1, 1) := by decide +kernel
theorem d_M_work_94 : decode b_M_work 94 = .ok (.iinc 2 1, 3) := by decide +kernel
theorem d_M_work_97 : decode b_M_work 97 = .ok (.goto (-61), 3) := by decide +kernel
theorem d_M_work_100 : decode b_M_work 100 = .ok (.aload_n 0, 1) := by decide +kernel
theorem d_M_work_101 : decode b_M_work 101 = .ok (.iload_n 1, 1) := by decide +kernel
theorem d_M_work_102 : decode b_M_work 102 = .ok (.ifCond .eq 12, 3) := by decide +kernel
theorem d_M_work_105 : decode b_M_work 105 = .ok (.aload_n 0, 1) := by decide +kernel
theorem d_M_work_106 : decode b_M_work 106 = .ok (.getfield 126, 3) := by decide +kernel
theorem d_M_work_109 : decode b_M_work 109 = .ok (.iconst 1, 1) := by decide +kernel
theorem d_M_work_110 : decode b_M_work 110 = .ok (.iadd, 1) := by decide +kernel
theorem d_M_work_111 : decode b_M_work 111 = .ok (.goto 7, 3) := by decide +kernel
theorem d_M_work_114 : decode b_M_work 114 = .ok (.aload_n 0, 1) := by decide +kernel
theorem d_M_work_115 : decode b_M_work 115 = .ok (.getfield 126, 3) := by decide +kernel
theorem d_M_work_118 : decode b_M_work 118 = .ok (.putfield 126, 3) := by decide +kernel
theorem d_M_work_121 : decode b_M_work 121 = .ok (.iconst 0, 1) := by decide +kernel
theorem d_M_work_122 : decode b_M_work 122 = .ok (.istore_n 2, 1) := by decide +kernel
theorem d_M_work_123 : decode b_M_work 123 = .ok (.iload_n 2, 1) := by decide +kernel
theorem d_M_work_124 : decode b_M_work 124 = .ok (.bipush 16, 2) := by decide +kernel
theorem d_M_work_126 : decode b_M_work 126 = .ok (.if_icmp .ge 37, 3) := by decide +kernel
theorem d_M_work_129 : decode b_M_work 129 = .ok (.aload_n 0, 1) := by decide +kernel
theorem d_M_work_130 : decode b_M_work 130 = .ok (.getfield 35, 3) := by decide +kernel
theorem d_M_work_133 : decode b_M_work 133 = .ok (.iload_n 2, 1) := by decide +kernel
theorem d_M_work_134 : decode b_M_work 134 = .ok (.aload_n 0, 1) := by decide +kernel
theorem d_M_work_135 : decode b_M_work 135 = .ok (.getfield 38, 3) := by decide +kernel
theorem d_M_work_138 : decode b_M_work 138 = .ok (.iload_n 2, 1) := by decide +kernel
theorem d_M_work_139 : decode b_M_work 139 = .ok (.baload, 1) := by decide +kernel
theorem d_M_work_140 : decode b_M_work 140 = .ok (.ifCond .eq 10, 3) := by decide +kernel
theorem d_M_work_143 : decode b_M_work 143 = .ok (.aload_n 0, 1) := by decide +kernel
theorem d_M_work_144 : decode b_M_work 144 = .ok (.getfield 126, 3) := by decide +kernel
theorem d_M_work_147 : decode b_M_work 147 = .ok (.goto 9, 3) := by decide +kernel
theorem d_M_work_150 : decode b_M_work 150 = .ok (.aload_n 0, 1) := by decide +kernel
theorem d_M_work_151 : decode b_M_work 151 = .ok (.getfield 35, 3) := by decide +kernel
theorem d_M_work_154 : decode b_M_work 154 = .ok (.iload_n 2, 1) := by decide +kernel
theorem d_M_work_155 : decode b_M_work 155 = .ok (.iaload, 1) := by decide +kernel
theorem d_M_work_156 : decode b_M_work 156 = .ok (.iastore, 1) := by decide +kernel
theorem d_M_work_157 : decode b_M_work 157 = .ok (.iinc 2 1, 3) := by decide +kernel
theorem d_M_work_160 : decode b_M_work 160 = .ok (.goto (-37), 3) := by decide +kernel
theorem d_M_work_163 : decode b_M_work 163 = .ok (.goto (-135), 3) := by decide +kernel
theorem d_M_work_166 : decode b_M_work 166 = .ok (.return_, 1) := by decide +kernel
theorem d_M_given_0 : decode b_M_given 0 = .ok (.aload_n 0, 1) := by decide +kernel
theorem d_M_given_1 : decode b_M_given 1 = .ok (.invokevirtual 132, 3) := by decide +kernel
theorem d_M_given_4 : decode b_M_given 4 = .ok (.iload_n 1, 1) := by decide +kernel
theorem d_M_given_5 : decode b_M_given 5 = .ok (.invokestatic 106, 3) := by decide +kernel
theorem d_M_given_8 : decode b_M_given 8 = .ok (.ifCond .eq 23, 3) := by decide +kernel
theorem d_M_given_11 : decode b_M_given 11 = .ok (.iload_n 2, 1) := by decide +kernel
theorem d_M_given_12 : decode b_M_given 12 = .ok (.invokestatic 106, 3) := by decide +kernel
theorem d_M_given_15 : decode b_M_given 15 = .ok (.ifCond .eq 16, 3) := by decide +kernel
theorem d_M_given_18 : decode b_M_given 18 = .ok (.aload_n 0, 1) := by decide +kernel
theorem d_M_given_19 : decode b_M_given 19 = .ok (.getfield 35, 3) := by decide +kernel
theorem d_M_given_22 : decode b_M_given 22 = .ok (.iconst 4, 1) := by decide +kernel
theorem d_M_given_23 : decode b_M_given 23 = .ok (.iload_n 1, 1) := by decide +kernel
theorem d_M_given_24 : decode b_M_given 24 = .ok (.imul, 1) := by decide +kernel
theorem d_M_given_25 : decode b_M_given 25 = .ok (.iload_n 2, 1) := by decide +kernel
theorem d_M_given_26 : decode b_M_given 26 = .ok (.iadd, 1) := by decide +kernel
theorem d_M_given_27 : decode b_M_given 27 = .ok (.iaload, 1) := by decide +kernel
theorem d_M_given_28 : decode b_M_given 28 = .ok (.goto 4, 3) := by decide +kernel
theorem d_M_given_31 : decode b_M_given 31 = .ok (.iconst 0, 1) := by decide +kernel
theorem d_M_given_32 : decode b_M_given 32 = .ok (.ireturn, 1) := by decide +kernel
theorem d_M_rounds_0 : decode b_M_rounds 0 = .ok (.aload_n 0, 1) := by decide +kernel
theorem d_M_rounds_1 : decode b_M_rounds 1 = .ok (.invokevirtual 132, 3) := by decide +kernel
theorem d_M_rounds_4 : decode b_M_rounds 4 = .ok (.aload_n 0, 1) := by decide +kernel
theorem d_M_rounds_5 : decode b_M_rounds 5 = .ok (.getfield 126, 3) := by decide +kernel
theorem d_M_rounds_8 : decode b_M_rounds 8 = .ok (.ireturn, 1) := by decide +kernel
theorem d_M_fits_0 : decode b_M_fits 0 = .ok (.aload_n 0, 1) := by decide +kernel
theorem d_M_fits_1 : decode b_M_fits 1 = .ok (.invokevirtual 132, 3) := by decide +kernel
theorem d_M_fits_4 : decode b_M_fits 4 = .ok (.iconst 1, 1) := by decide +kernel
theorem d_M_fits_5 : decode b_M_fits 5 = .ok (.istore_n 1, 1) := by decide +kernel
theorem d_M_fits_6 : decode b_M_fits 6 = .ok (.iconst 0, 1) := by decide +kernel
theorem d_M_fits_7 : decode b_M_fits 7 = .ok (.istore_n 2, 1) := by decide +kernel
theorem d_M_fits_8 : decode b_M_fits 8 = .ok (.iload_n 2, 1) := by decide +kernel
theorem d_M_fits_9 : decode b_M_fits 9 = .ok (.bipush 16, 2) := by decide +kernel
theorem d_M_fits_11 : decode b_M_fits 11 = .ok (.if_icmp .ge 57, 3) := by decide +kernel
theorem d_M_fits_14 : decode b_M_fits 14 = .ok (.iload_n 1, 1) := by decide +kernel
theorem d_M_fits_15 : decode b_M_fits 15 = .ok (.ifCond .eq 45, 3) := by decide +kernel
theorem d_M_fits_18 : decode b_M_fits 18 = .ok (.aload_n 0, 1) := by decide +kernel
theorem d_M_fits_19 : decode b_M_fits 19 = .ok (.getfield 17, 3) := by decide +kernel
theorem d_M_fits_22 : decode b_M_fits 22 = .ok (.iload_n 2, 1) := by decide +kernel
theorem d_M_fits_23 : decode b_M_fits 23 = .ok (.iaload, 1) := by decide +kernel
theorem d_M_fits_24 : decode b_M_fits 24 = .ok (.iconst 1, 1) := by decide +kernel
theorem d_M_fits_25 : decode b_M_fits 25 = .ok (.if_icmp .ne 12, 3) := by decide +kernel
theorem d_M_fits_28 : decode b_M_fits 28 = .ok (.aload_n 0, 1) := by decide +kernel
theorem d_M_fits_29 : decode b_M_fits 29 = .ok (.getfield 35, 3) := by decide +kernel
theorem d_M_fits_32 : decode b_M_fits 32 = .ok (.iload_n 2, 1) := by decide +kernel
theorem d_M_fits_33 : decode b_M_fits 33 = .ok (.iaload, 1) := by decide +kernel
theorem d_M_fits_34 : decode b_M_fits 34 = .ok (.ifCond .le 26, 3) := by decide +kernel
theorem d_M_fits_37 : decode b_M_fits 37 = .ok (.aload_n 0, 1) := by decide +kernel
theorem d_M_fits_38 : decode b_M_fits 38 = .ok (.getfield 17, 3) := by decide +kernel
theorem d_M_fits_41 : decode b_M_fits 41 = .ok (.iload_n 2, 1) := by decide +kernel
theorem d_M_fits_42 : decode b_M_fits 42 = .ok (.iaload, 1) := by decide +kernel
theorem d_M_fits_43 : decode b_M_fits 43 = .ok (.iconst (-1), 1) := by decide +kernel
theorem d_M_fits_44 : decode b_M_fits 44 = .ok (.if_icmp .ne 12, 3) := by decide +kernel
theorem d_M_fits_47 : decode b_M_fits 47 = .ok (.aload_n 0, 1) := by decide +kernel
theorem d_M_fits_48 : decode b_M_fits 48 = .ok (.getfield 35, 3) := by decide +kernel
theorem d_M_fits_51 : decode b_M_fits 51 = .ok (.iload_n 2, 1) := by decide +kernel
theorem d_M_fits_52 : decode b_M_fits 52 = .ok (.iaload, 1) := by decide +kernel
theorem d_M_fits_53 : decode b_M_fits 53 = .ok (.ifCond .ne 7, 3) := by decide +kernel
theorem d_M_fits_56 : decode b_M_fits 56 = .ok (.iconst 1, 1) := by decide +kernel
theorem d_M_fits_57 : decode b_M_fits 57 = .ok (.goto 4, 3) := by decide +kernel
theorem d_M_fits_60 : decode b_M_fits 60 = .ok (.iconst 0, 1) := by decide +kernel
theorem d_M_fits_61 : decode b_M_fits 61 = .ok (.istore_n 1, 1) := by decide +kernel
theorem d_M_fits_62 : decode b_M_fits 62 = .ok (.iinc 2 1, 3) := by decide +kernel
theorem d_M_fits_65 : decode b_M_fits 65 = .ok (.goto (-57), 3) := by decide +kernel
theorem d_M_fits_68 : decode b_M_fits 68 = .ok (.iload_n 1, 1) := by decide +kernel
theorem d_M_fits_69 : decode b_M_fits 69 = .ok (.ireturn, 1) := by decide +kernel
set_option maxHeartbeats 1000000 in
set_option maxRecDepth 100000 in
theorem c_M_follows (l : Launch) (dC : Nat → ClassId) (dI : Nat → Nat → Nat) (h_o h_line h_fact h_marked h_many h_codes h_oldMany h_oldCodes h_body h_roundOf h_fresh : Nat) (k_fact k_many k_codes k_roundOf : ClassId) (sz : Nat) (v_typed : Int32) (v_count : Int32) (v_oldCount : Int32) (v_read : Int32) (v_last : Int32) (v_fact : Nat → Int32) (v_many : Nat → Int32) (v_codes : Nat → Int32) (v_roundOf : Nat → Int32) (x1 : Int32) (x2 : Int32) (r0 : Int32) (u0 : Unit) (h : m_M_follows v_count v_fact v_many v_codes v_roundOf x1 x2 = some (r0, u0)) : Met l y_M_follows w_M_follows ({ frames := 2, cells := 0, slots := 0, locals := 50 } : Room) (va_Pc [.ref h_o, .int x1, .int x2] (fun U => U.heap.size = sz ∧ va_P (dC, dI) classes [(h_o, .inr (4, [.ref h_line, .int v_typed, .ref h_fact, .ref h_marked, .int v_count, .ref h_many, .ref h_codes, .int v_oldCount, .ref h_oldMany, .ref h_oldCodes, .int v_read, .ref h_body, .ref h_roundOf, .ref h_fresh, .int v_last])), (h_fact, .inl (k_fact, 32, .inl v_fact)), (h_many, .inl (k_many, 2, .inl v_many)), (h_codes, .inl (k_codes, 6, .inl v_codes)), (h_roundOf, .inl (k_roundOf, 16, .inl v_roundOf))] U.heap ∧ va_K (dC, dI) classes [(k_fact, .boolean), (k_many, .int), (k_codes, .int), (k_roundOf, .int)] U ∧ va_D (fun _ => True) [(h_o, .inr (4, [.ref h_line, .int v_typed, .ref h_fact, .ref h_marked, .int v_count, .ref h_many, .ref h_codes, .int v_oldCount, .ref h_oldMany, .ref h_oldCodes, .int v_read, .ref h_body, .ref h_roundOf, .ref h_fresh, .int v_last])), (h_fact, .inl (k_fact, 32, .inl v_fact)), (h_many, .inl (k_many, 2, .inl v_many)), (h_codes, .inl (k_codes, 6, .inl v_codes)), (h_roundOf, .inl (k_roundOf, 16, .inl v_roundOf))])) (va_Qi (fun (r : Int32) (u : Unit) => r = r0 ∧ u = u0) (fun (u : Unit) (t : State) => va_P (dC, dI) classes [(h_o, .inr (4, [.ref h_line, .int v_typed, .ref h_fact, .ref h_marked, .int v_count, .ref h_many, .ref h_codes, .int v_oldCount, .ref h_oldMany, .ref h_oldCodes, .int v_read, .ref h_body, .ref h_roundOf, .ref h_fresh, .int v_last])), (h_fact, .inl (k_fact, 32, .inl v_fact)), (h_many, .inl (k_many, 2, .inl v_many)), (h_codes, .inl (k_codes, 6, .inl v_codes)), (h_roundOf, .inl (k_roundOf, 16, .inl v_roundOf))] t.heap ∧ va_K (dC, dI) classes [(k_fact, .boolean), (k_many, .int), (k_codes, .int), (k_roundOf, .int)] t ∧ va_D (va_A [(h_o, .inr (4, [.ref h_line, .int v_typed, .ref h_fact, .ref h_marked, .int v_count, .ref h_many, .ref h_codes, .int v_oldCount, .ref h_oldMany, .ref h_oldCodes, .int v_read, .ref h_body, .ref h_roundOf, .ref h_fresh, .int v_last])), (h_fact, .inl (k_fact, 32, .inl v_fact)), (h_many, .inl (k_many, 2, .inl v_many)), (h_codes, .inl (k_codes, 6, .inl v_codes)), (h_roundOf, .inl (k_roundOf, 16, .inl v_roundOf))] sz) [(h_o, .inr (4, [.ref h_line, .int v_typed, .ref h_fact, .ref h_marked, .int v_count, .ref h_many, .ref h_codes, .int v_oldCount, .ref h_oldMany, .ref h_oldCodes, .int v_read, .ref h_body, .ref h_roundOf, .ref h_fresh, .int v_last])), (h_fact, .inl (k_fact, 32, .inl v_fact)), (h_many, .inl (k_many, 2, .inl v_many)), (h_codes, .inl (k_codes, 6, .inl v_codes)), (h_roundOf, .inl (k_roundOf, 16, .inl v_roundOf))]) (va_A [(h_o, .inr (4, [.ref h_line, .int v_typed, .ref h_fact, .ref h_marked, .int v_count, .ref h_many, .ref h_codes, .int v_oldCount, .ref h_oldMany, .ref h_oldCodes, .int v_read, .ref h_body, .ref h_roundOf, .ref h_fresh, .int v_last])), (h_fact, .inl (k_fact, 32, .inl v_fact)), (h_many, .inl (k_many, 2, .inl v_many)), (h_codes, .inl (k_codes, 6, .inl v_codes)), (h_roundOf, .inl (k_roundOf, 16, .inl v_roundOf))] sz)) 0 0 (va_A [(h_o, .inr (4, [.ref h_line, .int v_typed, .ref h_fact, .ref h_marked, .int v_count, .ref h_many, .ref h_codes, .int v_oldCount, .ref h_oldMany, .ref h_oldCodes, .int v_read, .ref h_body, .ref h_roundOf, .ref h_fresh, .int v_last])), (h_fact, .inl (k_fact, 32, .inl v_fact)), (h_many, .inl (k_many, 2, .inl v_many)), (h_codes, .inl (k_codes, 6, .inl v_codes)), (h_roundOf, .inl (k_roundOf, 16, .inl v_roundOf))] sz) := by
  refine Met.ofW (cc := b_M_follows) (maxL := 7) (ret := (some .boolean)) (by decide) rfl ?_
  intro p e s m args below meth c s₁ B hml hv
  obtain ⟨rfl, hsz, hP, hK, hD0⟩ := hv
  have hx := B.exec
  have hb := B.bytes
  have hr := B.returns
  have hts0 := atoms_spec (ws := w_M_follows) B.pre
  have hts : ∀ w ∈ lw_gd, w.before ([.ref h_o, .int x1, .int x2] : List Value).toArray s = true := fun w h9 => hts0 w (List.mem_cons_of_mem _ h9)
  have hown : s.vm.findClass R_M = some m.cls := findClass_of_methodNamed B.named
  have hlocks := B.notSynchronized
  subst hsz
  have hD := hD0.self (sz := s.heap.size)
  generalize hAe : va_A [(h_o, .inr (4, [.ref h_line, .int v_typed, .ref h_fact, .ref h_marked, .int v_count, .ref h_many, .ref h_codes, .int v_oldCount, .ref h_oldMany, .ref h_oldCodes, .int v_read, .ref h_body, .ref h_roundOf, .ref h_fresh, .int v_last])), (h_fact, .inl (k_fact, 32, .inl v_fact)), (h_many, .inl (k_many, 2, .inl v_many)), (h_codes, .inl (k_codes, 6, .inl v_codes)), (h_roundOf, .inl (k_roundOf, 16, .inl v_roundOf))] s.heap.size = A at hD ⊢
  have hA : ∀ q : Nat, s.heap.size ≤ q → A q := fun q h9 => by rw [← hAe]; exact Or.inr h9
  obtain ⟨H, eH⟩ : ∃ H : Heap, H = s.heap := ⟨_, rfl⟩
  have hS : va_S A s.heap H [] := by rw [eH]; exact va_S.rf
  have hP : va_P (dC, dI) classes [(h_o, .inr (4, [.ref h_line, .int v_typed, .ref h_fact, .ref h_marked, .int v_count, .ref h_many, .ref h_codes, .int v_oldCount, .ref h_oldMany, .ref h_oldCodes, .int v_read, .ref h_body, .ref h_roundOf, .ref h_fresh, .int v_last])), (h_fact, .inl (k_fact, 32, .inl v_fact)), (h_many, .inl (k_many, 2, .inl v_many)), (h_codes, .inl (k_codes, 6, .inl v_codes)), (h_roundOf, .inl (k_roundOf, 16, .inl v_roundOf))] H := by rw [eH]; exact hP
  refine W_gen (fun Q hQ => ?_)
  refine W_heap eH ?_
  clear eH
  have hl := lv_entry ([.ref h_o, .int x1, .int x2]) (n := 7) (Nat.le_of_ble_eq_true rfl)
  rw [lg_entry_eq]
  generalize (lg_sl ([.ref h_o, .int x1, .int x2]) ++ List.replicate (7 - (lg_sl ([.ref h_o, .int x1, .int x2])).length) Slot.unset).toArray = ls at hl ⊢
  have hl : lv_has ls 7 [(0, .ref h_o), (1, .int x1), (2, .int x2)] := hl
  have J_68 : ∀ (k_13 : Int32 → Int32 → Int32 → Int32 → Option (Int32 × Unit)) (hk_13 : ∀ (z1 : Int32) (z2 : Int32) (z3 : Int32) (z4 : Int32), k_13 z1 z2 z3 z4 = some (r0, u0) → ∀ (H : Heap) (locs : List Loc), va_P (dC, dI) classes [(h_o, .inr (4, [.ref h_line, .int v_typed, .ref h_fact, .ref h_marked, .int v_count, .ref h_many, .ref h_codes, .int v_oldCount, .ref h_oldMany, .ref h_oldCodes, .int v_read, .ref h_body, .ref h_roundOf, .ref h_fresh, .int v_last])), (h_fact, .inl (k_fact, 32, .inl v_fact)), (h_many, .inl (k_many, 2, .inl v_many)), (h_codes, .inl (k_codes, 6, .inl v_codes)), (h_roundOf, .inl (k_roundOf, 16, .inl v_roundOf))] H → va_D A [(h_o, .inr (4, [.ref h_line, .int v_typed, .ref h_fact, .ref h_marked, .int v_count, .ref h_many, .ref h_codes, .int v_oldCount, .ref h_oldMany, .ref h_oldCodes, .int v_read, .ref h_body, .ref h_roundOf, .ref h_fresh, .int v_last])), (h_fact, .inl (k_fact, 32, .inl v_fact)), (h_many, .inl (k_many, 2, .inl v_many)), (h_codes, .inl (k_codes, 6, .inl v_codes)), (h_roundOf, .inl (k_roundOf, 16, .inl v_roundOf))] → va_S A s.heap H locs → ∀ (ls : Array Slot), lv_has ls 7 [(0, .ref h_o), (1, .int z1), (2, .int z2), (3, .int z3), (4, .int z4)] → W p l e (headSpec w_M_follows ({ frames := 2, cells := 0, slots := 0, locals := 50 } : Room)).room s m ([.ref h_o, .int x1, .int x2] : List Value).toArray below meth c H locs 0 0 Q (F0 m 13 ls [])) (z1 : Int32) (z2 : Int32) (z3 : Int32) (z4 : Int32) (z5 : Int32), m_M_follows_68 v_count v_fact v_many v_codes v_roundOf k_13 z1 z2 z3 z4 z5 = some (r0, u0) → ∀ (H : Heap) (locs : List Loc), va_P (dC, dI) classes [(h_o, .inr (4, [.ref h_line, .int v_typed, .ref h_fact, .ref h_marked, .int v_count, .ref h_many, .ref h_codes, .int v_oldCount, .ref h_oldMany, .ref h_oldCodes, .int v_read, .ref h_body, .ref h_roundOf, .ref h_fresh, .int v_last])), (h_fact, .inl (k_fact, 32, .inl v_fact)), (h_many, .inl (k_many, 2, .inl v_many)), (h_codes, .inl (k_codes, 6, .inl v_codes)), (h_roundOf, .inl (k_roundOf, 16, .inl v_roundOf))] H → va_D A [(h_o, .inr (4, [.ref h_line, .int v_typed, .ref h_fact, .ref h_marked, .int v_count, .ref h_many, .ref h_codes, .int v_oldCount, .ref h_oldMany, .ref h_oldCodes, .int v_read, .ref h_body, .ref h_roundOf, .ref h_fresh, .int v_last])), (h_fact, .inl (k_fact, 32, .inl v_fact)), (h_many, .inl (k_many, 2, .inl v_many)), (h_codes, .inl (k_codes, 6, .inl v_codes)), (h_roundOf, .inl (k_roundOf, 16, .inl v_roundOf))] → va_S A s.heap H locs → ∀ (ls : Array Slot), lv_has ls 7 [(0, .ref h_o), (1, .int z1), (2, .int z2), (3, .int z3), (4, .int z4), (5, .int z5)] → W p l e (headSpec w_M_follows ({ frames := 2, cells := 0, slots := 0, locals := 50 } : Room)).room s m ([.ref h_o, .int x1, .int x2] : List Value).toArray below meth c H locs 0 0 Q (F0 m 68 ls []) := by
    intro k_13 hk_13 z1 z2 z3 z4 z5 h H locs hP hD hS ls hl
    unfold m_M_follows_68 at h
    refine lv_iload hx hb d_M_follows_68 (lv_at hl 5 rfl) ?_
    refine lv_if_eq (tgt := 75) hx hb d_M_follows_70 (by decide) (fun c_70 => ?_) (fun c_70 => ?_)
    · have h := of_pos h c_70
      refine lv_iinc (v := z4 + (nI 1)) (lv' := [(4, .int (z4 + (nI 1))), (0, .ref h_o), (1, .int z1), (2, .int z2), (3, .int z3), (5, .int z5)]) hx hb d_M_follows_75 hl (k := 4) rfl rfl (by decide) rfl (fun ls hl => ?_)
      refine lv_goto (tgt := 13) hx hb d_M_follows_78 (by decide) ?_
      exact hk_13 z1 z2 z3 (z4 + (nI 1)) h _ _ hP hD hS ls (lv_sub hl [1, 2, 3, 4, 0] rfl)
    · have h := of_neg h c_70
      refine lv_iconst (v := (nI 1)) hx hb d_M_follows_73 (by decide) ?_
      rw [hQ]
      exact W.zret (v := (nI 1)) hx hb hr rfl (fun t ht hW => ⟨⟨(nI 1), (), rfl, Prod.mk.inj (Option.some.inj h), by rw [ht]; exact hP, va_K.moved hW.alike hK, hD⟩, hS.F ht⟩) hS.2.2 d_M_follows_74
  have J_25 : ∀ (k_13 : Int32 → Int32 → Int32 → Int32 → Option (Int32 × Unit)) (hk_13 : ∀ (z1 : Int32) (z2 : Int32) (z3 : Int32) (z4 : Int32), k_13 z1 z2 z3 z4 = some (r0, u0) → ∀ (H : Heap) (locs : List Loc), va_P (dC, dI) classes [(h_o, .inr (4, [.ref h_line, .int v_typed, .ref h_fact, .ref h_marked, .int v_count, .ref h_many, .ref h_codes, .int v_oldCount, .ref h_oldMany, .ref h_oldCodes, .int v_read, .ref h_body, .ref h_roundOf, .ref h_fresh, .int v_last])), (h_fact, .inl (k_fact, 32, .inl v_fact)), (h_many, .inl (k_many, 2, .inl v_many)), (h_codes, .inl (k_codes, 6, .inl v_codes)), (h_roundOf, .inl (k_roundOf, 16, .inl v_roundOf))] H → va_D A [(h_o, .inr (4, [.ref h_line, .int v_typed, .ref h_fact, .ref h_marked, .int v_count, .ref h_many, .ref h_codes, .int v_oldCount, .ref h_oldMany, .ref h_oldCodes, .int v_read, .ref h_body, .ref h_roundOf, .ref h_fresh, .int v_last])), (h_fact, .inl (k_fact, 32, .inl v_fact)), (h_many, .inl (k_many, 2, .inl v_many)), (h_codes, .inl (k_codes, 6, .inl v_codes)), (h_roundOf, .inl (k_roundOf, 16, .inl v_roundOf))] → va_S A s.heap H locs → ∀ (ls : Array Slot), lv_has ls 7 [(0, .ref h_o), (1, .int z1), (2, .int z2), (3, .int z3), (4, .int z4)] → W p l e (headSpec w_M_follows ({ frames := 2, cells := 0, slots := 0, locals := 50 } : Room)).room s m ([.ref h_o, .int x1, .int x2] : List Value).toArray below meth c H locs 0 0 Q (F0 m 13 ls [])) (n : Nat) (z1 : Int32) (z2 : Int32) (z3 : Int32) (z4 : Int32) (z5 : Int32) (z6 : Int32), m_M_follows_25 v_count v_fact v_many v_codes v_roundOf k_13 n z1 z2 z3 z4 z5 z6 = some (r0, u0) → ∀ (H : Heap) (locs : List Loc), va_P (dC, dI) classes [(h_o, .inr (4, [.ref h_line, .int v_typed, .ref h_fact, .ref h_marked, .int v_count, .ref h_many, .ref h_codes, .int v_oldCount, .ref h_oldMany, .ref h_oldCodes, .int v_read, .ref h_body, .ref h_roundOf, .ref h_fresh, .int v_last])), (h_fact, .inl (k_fact, 32, .inl v_fact)), (h_many, .inl (k_many, 2, .inl v_many)), (h_codes, .inl (k_codes, 6, .inl v_codes)), (h_roundOf, .inl (k_roundOf, 16, .inl v_roundOf))] H → va_D A [(h_o, .inr (4, [.ref h_line, .int v_typed, .ref h_fact, .ref h_marked, .int v_count, .ref h_many, .ref h_codes, .int v_oldCount, .ref h_oldMany, .ref h_oldCodes, .int v_read, .ref h_body, .ref h_roundOf, .ref h_fresh, .int v_last])), (h_fact, .inl (k_fact, 32, .inl v_fact)), (h_many, .inl (k_many, 2, .inl v_many)), (h_codes, .inl (k_codes, 6, .inl v_codes)), (h_roundOf, .inl (k_roundOf, 16, .inl v_roundOf))] → va_S A s.heap H locs → ∀ (ls : Array Slot), lv_has ls 7 [(0, .ref h_o), (1, .int z1), (2, .int z2), (3, .int z3), (4, .int z4), (5, .int z5), (6, .int z6)] → W p l e (headSpec w_M_follows ({ frames := 2, cells := 0, slots := 0, locals := 50 } : Room)).room s m ([.ref h_o, .int x1, .int x2] : List Value).toArray below meth c H locs 0 0 Q (F0 m 25 ls []) := by
    intro k_13 hk_13 n
    induction n with
    | zero => intro z1 z2 z3 z4 z5 z6 h; exact absurd h (by unfold m_M_follows_25; exact fun h9 => nomatch h9)
    | succ n ih =>
      intro z1 z2 z3 z4 z5 z6 h H locs hP hD hS ls hl
      unfold m_M_follows_25 at h
      refine lv_iload hx hb d_M_follows_25 (lv_at hl 6 rfl) ?_
      refine lv_aload_n hx hb d_M_follows_27 rfl (lv_at hl 0 rfl) ?_
      refine va_get (D := (dC, dI)) (ci := 4) (v := .ref h_many) (C := R_M) (T := F_M) (N := 15) hx hb hts lay_M hown hK hP 0 rfl rfl 5 (by decide) (hts _ flk_M_20) (fun _ h9 => h9) rfl d_M_follows_28 ?_
      refine lv_iload_n hx hb d_M_follows_31 rfl (lv_at hl 3 rfl) ?_
      obtain ⟨g_32, h⟩ := of_guard h
      refine va_iald hx hb hK hP 2 1 rfl rfl (inR_in g_32) d_M_follows_32 ?_
      refine lv_icmp_ge (tgt := 68) hx hb d_M_follows_33 (by decide) (fun c_33 => ?_) (fun c_33 => ?_)
      · have h := of_pos h c_33
        exact J_68 k_13 hk_13 z1 z2 z3 z4 z5 h _ _ hP hD hS ls (lv_sub hl [0, 1, 2, 3, 4, 5] rfl)
      · have h := of_neg h c_33
        refine lv_iload hx hb d_M_follows_36 (lv_at hl 5 rfl) ?_
        refine lv_if_eq (tgt := 68) hx hb d_M_follows_38 (by decide) (fun c_38 => ?_) (fun c_38 => ?_)
        · have h := of_pos h c_38
          exact J_68 k_13 hk_13 z1 z2 z3 z4 z5 h _ _ hP hD hS ls (lv_sub hl [0, 1, 2, 3, 4, 5] rfl)
        · have h := of_neg h c_38
          refine lv_aload_n hx hb d_M_follows_41 rfl (lv_at hl 0 rfl) ?_
          refine lv_aload_n hx hb d_M_follows_42 rfl (lv_at hl 0 rfl) ?_
          refine va_get (D := (dC, dI)) (ci := 4) (v := .ref h_codes) (C := R_M) (T := F_M) (N := 15) hx hb hts lay_M hown hK hP 0 rfl rfl 6 (by decide) (hts _ flk_M_23) (fun _ h9 => h9) rfl d_M_follows_43 ?_
          refine lv_iconst (v := (nI 3)) hx hb d_M_follows_46 (by decide) ?_
          refine lv_iload_n hx hb d_M_follows_47 rfl (lv_at hl 3 rfl) ?_
          refine lv_imul hx hb d_M_follows_48 ?_
          refine lv_iload hx hb d_M_follows_49 (lv_at hl 6 rfl) ?_
          refine lv_iadd hx hb d_M_follows_51 ?_
          obtain ⟨g_52, h⟩ := of_guard h
          refine va_iald hx hb hK hP 3 2 rfl rfl (inR_in g_52) d_M_follows_52 ?_
          refine lv_iload_n hx hb d_M_follows_53 rfl (lv_at hl 1 rfl) ?_
          refine lv_iload_n hx hb d_M_follows_54 rfl (lv_at hl 2 rfl) ?_
          refine lv_iload hx hb d_M_follows_55 (lv_at hl 4 rfl) ?_
          have hPc := hP.sub (ws' := [(h_o, .inr (4, [.ref h_line, .int v_typed, .ref h_fact, .ref h_marked, .int v_count, .ref h_many, .ref h_codes, .int v_oldCount, .ref h_oldMany, .ref h_oldCodes, .int v_read, .ref h_body, .ref h_roundOf, .ref h_fresh, .int v_last])), (h_fact, .inl (k_fact, 32, .inl v_fact)), (h_roundOf, .inl (k_roundOf, 16, .inl v_roundOf))]) [0, 1, 4] rfl
          have hDc := hD.sub (ws' := [(h_o, .inr (4, [.ref h_line, .int v_typed, .ref h_fact, .ref h_marked, .int v_count, .ref h_many, .ref h_codes, .int v_oldCount, .ref h_oldMany, .ref h_oldCodes, .int v_read, .ref h_body, .ref h_roundOf, .ref h_fresh, .int v_last])), (h_fact, .inl (k_fact, 32, .inl v_fact)), (h_roundOf, .inl (k_roundOf, 16, .inl v_roundOf))]) [0, 1, 4] (by decide) rfl
          have hKc := hK.sub (tys' := [(k_fact, .boolean), (k_roundOf, .int)]) [0, 3] rfl
          have hFc := va_free (wc := [(h_o, .inr (4, [.ref h_line, .int v_typed, .ref h_fact, .ref h_marked, .int v_count, .ref h_many, .ref h_codes, .int v_oldCount, .ref h_oldMany, .ref h_oldCodes, .int v_read, .ref h_body, .ref h_roundOf, .ref h_fresh, .int v_last])), (h_fact, .inl (k_fact, 32, .inl v_fact)), (h_roundOf, .inl (k_roundOf, 16, .inl v_roundOf))]) hD hS hA [0, 1, 4] rfl
          obtain ⟨v_57, hc_57, h⟩ := of_bind h
          refine va_calli (va_runV (As := [.int (v_codes (((nI 3) * z3) + z6).toNatClampNeg), .int z1, .int z2, .int z4]) (rest := []) ⟨hx, hb, hml, hown, hts⟩ (c_M_literalHolds l dC dI h_o h_line h_fact h_marked h_many h_codes h_oldMany h_oldCodes h_body h_roundOf h_fresh k_fact k_roundOf H.size v_typed v_count v_oldCount v_read v_last v_fact v_roundOf (v_codes (((nI 3) * z3) + z6).toNatClampNeg) z1 z2 z4 v_57.1 v_57.2 hc_57) (cwV 4 hts (gV mlk_M_122 ins_M_literalHolds sel_M_literalHolds ini_M cod_M_literalHolds) rfl rfl rfl (by decide +kernel) ⟨Nat.le_of_ble_eq_true rfl, Nat.le_of_ble_eq_true rfl⟩) ⟨fun a U g mk q => by obtain ⟨q0, q1, qP, qK, qD⟩ := q; exact ⟨q0, q1, qP, va_K.moved (u := U) (U := U.calling g mk a) (Vm.Alike.refl U.vm) qK, qD⟩, va_recv hKc hPc (ci := 4) (q0 := 0) rfl rfl, fun U hU hW => ⟨rfl, by rw [hU], by rw [hU]; exact hPc, va_K.moved hW.alike hKc, hDc.weaken (fun _ _ _ _ => trivial)⟩⟩ rfl rfl hl.1 rfl (lv_room (Nat.le_of_ble_eq_true rfl)) d_M_follows_57 ⟨Nat.le_of_ble_eq_true rfl, Nat.le_of_ble_eq_true rfl⟩) hS (fun q _ h9 => hFc q h9) hFc (fun r_57 u t H1 locs ht hvm hw hB hz1 hk1 hS => ?_)
          obtain ⟨rfl, rfl⟩ := hw
          obtain ⟨hP1, hK1, hD1⟩ := hB
          rw [ht] at hP1
          obtain ⟨hP, hD⟩ := va_join (wr := [(h_many, .inl (k_many, 2, .inl v_many)), (h_codes, .inl (k_codes, 6, .inl v_codes))]) (w1 := [(h_o, .inr (4, [.ref h_line, .int v_typed, .ref h_fact, .ref h_marked, .int v_count, .ref h_many, .ref h_codes, .int v_oldCount, .ref h_oldMany, .ref h_oldCodes, .int v_read, .ref h_body, .ref h_roundOf, .ref h_fresh, .int v_last])), (h_fact, .inl (k_fact, 32, .inl v_fact)), (h_roundOf, .inl (k_roundOf, 16, .inl v_roundOf))]) hP hD [0, 1, 4] [2, 3] rfl rfl (by decide) (by decide) hk1 hFc hP1 hD1
          have hP := hP.sub (ws' := [(h_o, .inr (4, [.ref h_line, .int v_typed, .ref h_fact, .ref h_marked, .int v_count, .ref h_many, .ref h_codes, .int v_oldCount, .ref h_oldMany, .ref h_oldCodes, .int v_read, .ref h_body, .ref h_roundOf, .ref h_fresh, .int v_last])), (h_fact, .inl (k_fact, 32, .inl v_fact)), (h_many, .inl (k_many, 2, .inl v_many)), (h_codes, .inl (k_codes, 6, .inl v_codes)), (h_roundOf, .inl (k_roundOf, 16, .inl v_roundOf))]) [2, 3, 0, 1, 4] rfl
          have hD := hD.sub (ws' := [(h_o, .inr (4, [.ref h_line, .int v_typed, .ref h_fact, .ref h_marked, .int v_count, .ref h_many, .ref h_codes, .int v_oldCount, .ref h_oldMany, .ref h_oldCodes, .int v_read, .ref h_body, .ref h_roundOf, .ref h_fresh, .int v_last])), (h_fact, .inl (k_fact, 32, .inl v_fact)), (h_many, .inl (k_many, 2, .inl v_many)), (h_codes, .inl (k_codes, 6, .inl v_codes)), (h_roundOf, .inl (k_roundOf, 16, .inl v_roundOf))]) [2, 3, 0, 1, 4] (by decide) rfl
          generalize H1 = H at hP hS ⊢
          refine lv_istore (lv' := [(5, .int v_57.1), (0, .ref h_o), (1, .int z1), (2, .int z2), (3, .int z3), (4, .int z4), (6, .int z6)]) hx hb d_M_follows_60 hl (by decide) rfl (fun ls hl => ?_)
          refine lv_iinc (v := z6 + (nI 1)) (lv' := [(6, .int (z6 + (nI 1))), (5, .int v_57.1), (0, .ref h_o), (1, .int z1), (2, .int z2), (3, .int z3), (4, .int z4)]) hx hb d_M_follows_62 hl (k := 6) rfl rfl (by decide) rfl (fun ls hl => ?_)
          refine lv_goto (tgt := 25) hx hb d_M_follows_65 (by decide) ?_
          exact ih z1 z2 z3 z4 v_57.1 (z6 + (nI 1)) h _ _ hP hD hS ls (lv_sub hl [2, 3, 4, 5, 6, 1, 0] rfl)
  have J_13 : ∀ (k_2 : Int32 → Int32 → Int32 → Option (Int32 × Unit)) (hk_2 : ∀ (z1 : Int32) (z2 : Int32) (z3 : Int32), k_2 z1 z2 z3 = some (r0, u0) → ∀ (H : Heap) (locs : List Loc), va_P (dC, dI) classes [(h_o, .inr (4, [.ref h_line, .int v_typed, .ref h_fact, .ref h_marked, .int v_count, .ref h_many, .ref h_codes, .int v_oldCount, .ref h_oldMany, .ref h_oldCodes, .int v_read, .ref h_body, .ref h_roundOf, .ref h_fresh, .int v_last])), (h_fact, .inl (k_fact, 32, .inl v_fact)), (h_many, .inl (k_many, 2, .inl v_many)), (h_codes, .inl (k_codes, 6, .inl v_codes)), (h_roundOf, .inl (k_roundOf, 16, .inl v_roundOf))] H → va_D A [(h_o, .inr (4, [.ref h_line, .int v_typed, .ref h_fact, .ref h_marked, .int v_count, .ref h_many, .ref h_codes, .int v_oldCount, .ref h_oldMany, .ref h_oldCodes, .int v_read, .ref h_body, .ref h_roundOf, .ref h_fresh, .int v_last])), (h_fact, .inl (k_fact, 32, .inl v_fact)), (h_many, .inl (k_many, 2, .inl v_many)), (h_codes, .inl (k_codes, 6, .inl v_codes)), (h_roundOf, .inl (k_roundOf, 16, .inl v_roundOf))] → va_S A s.heap H locs → ∀ (ls : Array Slot), lv_has ls 7 [(0, .ref h_o), (1, .int z1), (2, .int z2), (3, .int z3)] → W p l e (headSpec w_M_follows ({ frames := 2, cells := 0, slots := 0, locals := 50 } : Room)).room s m ([.ref h_o, .int x1, .int x2] : List Value).toArray below meth c H locs 0 0 Q (F0 m 2 ls [])) (n : Nat) (z1 : Int32) (z2 : Int32) (z3 : Int32) (z4 : Int32), m_M_follows_13 v_count v_fact v_many v_codes v_roundOf k_2 n z1 z2 z3 z4 = some (r0, u0) → ∀ (H : Heap) (locs : List Loc), va_P (dC, dI) classes [(h_o, .inr (4, [.ref h_line, .int v_typed, .ref h_fact, .ref h_marked, .int v_count, .ref h_many, .ref h_codes, .int v_oldCount, .ref h_oldMany, .ref h_oldCodes, .int v_read, .ref h_body, .ref h_roundOf, .ref h_fresh, .int v_last])), (h_fact, .inl (k_fact, 32, .inl v_fact)), (h_many, .inl (k_many, 2, .inl v_many)), (h_codes, .inl (k_codes, 6, .inl v_codes)), (h_roundOf, .inl (k_roundOf, 16, .inl v_roundOf))] H → va_D A [(h_o, .inr (4, [.ref h_line, .int v_typed, .ref h_fact, .ref h_marked, .int v_count, .ref h_many, .ref h_codes, .int v_oldCount, .ref h_oldMany, .ref h_oldCodes, .int v_read, .ref h_body, .ref h_roundOf, .ref h_fresh, .int v_last])), (h_fact, .inl (k_fact, 32, .inl v_fact)), (h_many, .inl (k_many, 2, .inl v_many)), (h_codes, .inl (k_codes, 6, .inl v_codes)), (h_roundOf, .inl (k_roundOf, 16, .inl v_roundOf))] → va_S A s.heap H locs → ∀ (ls : Array Slot), lv_has ls 7 [(0, .ref h_o), (1, .int z1), (2, .int z2), (3, .int z3), (4, .int z4)] → W p l e (headSpec w_M_follows ({ frames := 2, cells := 0, slots := 0, locals := 50 } : Room)).room s m ([.ref h_o, .int x1, .int x2] : List Value).toArray below meth c H locs 0 0 Q (F0 m 13 ls []) := by
    intro k_2 hk_2 n
    induction n with
    | zero => intro z1 z2 z3 z4 h; exact absurd h (by unfold m_M_follows_13; exact fun h9 => nomatch h9)
    | succ n ih =>
      intro z1 z2 z3 z4 h H locs hP hD hS ls hl
      unfold m_M_follows_13 at h
      refine lv_iload hx hb d_M_follows_13 (lv_at hl 4 rfl) ?_
      refine lv_iconst (v := (nI 4)) hx hb d_M_follows_15 (by decide) ?_
      refine lv_icmp_ge (tgt := 81) hx hb d_M_follows_16 (by decide) (fun c_16 => ?_) (fun c_16 => ?_)
      · have h := of_pos h c_16
        refine lv_iinc (v := z3 + (nI 1)) (lv' := [(3, .int (z3 + (nI 1))), (0, .ref h_o), (1, .int z1), (2, .int z2), (4, .int z4)]) hx hb d_M_follows_81 hl (k := 3) rfl rfl (by decide) rfl (fun ls hl => ?_)
        refine lv_goto (tgt := 2) hx hb d_M_follows_84 (by decide) ?_
        exact hk_2 z1 z2 (z3 + (nI 1)) h _ _ hP hD hS ls (lv_sub hl [1, 2, 3, 0] rfl)
      · have h := of_neg h c_16
        refine lv_iconst (v := (nI 1)) hx hb d_M_follows_19 (by decide) ?_
        refine lv_istore (lv' := [(5, .int (nI 1)), (0, .ref h_o), (1, .int z1), (2, .int z2), (3, .int z3), (4, .int z4)]) hx hb d_M_follows_20 hl (by decide) rfl (fun ls hl => ?_)
        refine lv_iconst (v := (nI 0)) hx hb d_M_follows_22 (by decide) ?_
        refine lv_istore (lv' := [(6, .int (nI 0)), (5, .int (nI 1)), (0, .ref h_o), (1, .int z1), (2, .int z2), (3, .int z3), (4, .int z4)]) hx hb d_M_follows_23 hl (by decide) rfl (fun ls hl => ?_)
        exact J_25 (m_M_follows_13 v_count v_fact v_many v_codes v_roundOf k_2 n) ih 40 z1 z2 z3 z4 (nI 1) (nI 0) h _ _ hP hD hS ls (lv_sub hl [2, 3, 4, 5, 6, 1, 0] rfl)
  have J_2 : ∀ (n : Nat) (z1 : Int32) (z2 : Int32) (z3 : Int32), m_M_follows_2 v_count v_fact v_many v_codes v_roundOf n z1 z2 z3 = some (r0, u0) → ∀ (H : Heap) (locs : List Loc), va_P (dC, dI) classes [(h_o, .inr (4, [.ref h_line, .int v_typed, .ref h_fact, .ref h_marked, .int v_count, .ref h_many, .ref h_codes, .int v_oldCount, .ref h_oldMany, .ref h_oldCodes, .int v_read, .ref h_body, .ref h_roundOf, .ref h_fresh, .int v_last])), (h_fact, .inl (k_fact, 32, .inl v_fact)), (h_many, .inl (k_many, 2, .inl v_many)), (h_codes, .inl (k_codes, 6, .inl v_codes)), (h_roundOf, .inl (k_roundOf, 16, .inl v_roundOf))] H → va_D A [(h_o, .inr (4, [.ref h_line, .int v_typed, .ref h_fact, .ref h_marked, .int v_count, .ref h_many, .ref h_codes, .int v_oldCount, .ref h_oldMany, .ref h_oldCodes, .int v_read, .ref h_body, .ref h_roundOf, .ref h_fresh, .int v_last])), (h_fact, .inl (k_fact, 32, .inl v_fact)), (h_many, .inl (k_many, 2, .inl v_many)), (h_codes, .inl (k_codes, 6, .inl v_codes)), (h_roundOf, .inl (k_roundOf, 16, .inl v_roundOf))] → va_S A s.heap H locs → ∀ (ls : Array Slot), lv_has ls 7 [(0, .ref h_o), (1, .int z1), (2, .int z2), (3, .int z3)] → W p l e (headSpec w_M_follows ({ frames := 2, cells := 0, slots := 0, locals := 50 } : Room)).room s m ([.ref h_o, .int x1, .int x2] : List Value).toArray below meth c H locs 0 0 Q (F0 m 2 ls []) := by
    intro n
    induction n with
    | zero => intro z1 z2 z3 h; exact absurd h (by unfold m_M_follows_2; exact fun h9 => nomatch h9)
    | succ n ih =>
      intro z1 z2 z3 h H locs hP hD hS ls hl
      unfold m_M_follows_2 at h
      refine lv_iload_n hx hb d_M_follows_2 rfl (lv_at hl 3 rfl) ?_
      refine lv_aload_n hx hb d_M_follows_3 rfl (lv_at hl 0 rfl) ?_
      refine va_get (D := (dC, dI)) (ci := 4) (v := .int v_count) (C := R_M) (T := F_M) (N := 15) hx hb hts lay_M hown hK hP 0 rfl rfl 4 (by decide) (hts _ flk_M_85) (fun _ h9 => h9) rfl d_M_follows_4 ?_
      refine lv_icmp_ge (tgt := 87) hx hb d_M_follows_7 (by decide) (fun c_7 => ?_) (fun c_7 => ?_)
      · have h := of_pos h c_7
        refine lv_iconst (v := (nI 0)) hx hb d_M_follows_87 (by decide) ?_
        rw [hQ]
        exact W.zret (v := (nI 0)) hx hb hr rfl (fun t ht hW => ⟨⟨(nI 0), (), rfl, Prod.mk.inj (Option.some.inj h), by rw [ht]; exact hP, va_K.moved hW.alike hK, hD⟩, hS.F ht⟩) hS.2.2 d_M_follows_88
      · have h := of_neg h c_7
        refine lv_iconst (v := (nI 0)) hx hb d_M_follows_10 (by decide) ?_
        refine lv_istore (lv' := [(4, .int (nI 0)), (0, .ref h_o), (1, .int z1), (2, .int z2), (3, .int z3)]) hx hb d_M_follows_11 hl (by decide) rfl (fun ls hl => ?_)
        exact J_13 (m_M_follows_2 v_count v_fact v_many v_codes v_roundOf n) ih 40 z1 z2 z3 (nI 0) h _ _ hP hD hS ls (lv_sub hl [1, 2, 3, 4, 0] rfl)
  unfold m_M_follows at h
  refine lv_iconst (v := (nI 0)) hx hb d_M_follows_0 (by decide) ?_
  refine lv_istore_n (lv' := [(3, .int (nI 0)), (0, .ref h_o), (1, .int x1), (2, .int x2)]) hx hb d_M_follows_1 rfl hl (by decide) rfl (fun ls hl => ?_)
  exact J_2 40 x1 x2 (nI 0) h _ _ hP hD hS ls (lv_sub hl [1, 2, 3, 0] rfl)
set_option maxHeartbeats 1000000 in
set_option maxRecDepth 100000 in
theorem c_M_work (l : Launch) (dC : Nat → ClassId) (dI : Nat → Nat → Nat) (h_o h_line h_fact h_marked h_many h_codes h_oldMany h_oldCodes h_body h_roundOf h_fresh : Nat) (k_fact k_many k_codes k_roundOf k_fresh : ClassId) (sz : Nat) (v_typed : Int32) (v_count : Int32) (v_oldCount : Int32) (v_read : Int32) (v_last : Int32) (v_fact : Nat → Int32) (v_many : Nat → Int32) (v_codes : Nat → Int32) (v_roundOf : Nat → Int32) (v_fresh : Nat → Int32) (u0 : Int32 × (Nat → Int32) × (Nat → Int32)) (h : m_M_work v_count v_last v_fact v_many v_codes v_roundOf v_fresh = some u0) : Met l y_M_work w_M_work ({ frames := 3, cells := 0, slots := 0, locals := 76 } : Room) (va_Pc [.ref h_o] (fun U => U.heap.size = sz ∧ va_P (dC, dI) classes [(h_o, .inr (4, [.ref h_line, .int v_typed, .ref h_fact, .ref h_marked, .int v_count, .ref h_many, .ref h_codes, .int v_oldCount, .ref h_oldMany, .ref h_oldCodes, .int v_read, .ref h_body, .ref h_roundOf, .ref h_fresh, .int v_last])), (h_fact, .inl (k_fact, 32, .inl v_fact)), (h_many, .inl (k_many, 2, .inl v_many)), (h_codes, .inl (k_codes, 6, .inl v_codes)), (h_roundOf, .inl (k_roundOf, 16, .inl v_roundOf)), (h_fresh, .inl (k_fresh, 16, .inl v_fresh))] U.heap ∧ va_K (dC, dI) classes [(k_fact, .boolean), (k_many, .int), (k_codes, .int), (k_roundOf, .int), (k_fresh, .boolean)] U ∧ va_D (fun _ => True) [(h_o, .inr (4, [.ref h_line, .int v_typed, .ref h_fact, .ref h_marked, .int v_count, .ref h_many, .ref h_codes, .int v_oldCount, .ref h_oldMany, .ref h_oldCodes, .int v_read, .ref h_body, .ref h_roundOf, .ref h_fresh, .int v_last])), (h_fact, .inl (k_fact, 32, .inl v_fact)), (h_many, .inl (k_many, 2, .inl v_many)), (h_codes, .inl (k_codes, 6, .inl v_codes)), (h_roundOf, .inl (k_roundOf, 16, .inl v_roundOf)), (h_fresh, .inl (k_fresh, 16, .inl v_fresh))])) (va_Qv (fun (u : Int32 × (Nat → Int32) × (Nat → Int32)) => u = u0) (fun (u : Int32 × (Nat → Int32) × (Nat → Int32)) (t : State) => va_P (dC, dI) classes [(h_o, .inr (4, [.ref h_line, .int v_typed, .ref h_fact, .ref h_marked, .int v_count, .ref h_many, .ref h_codes, .int v_oldCount, .ref h_oldMany, .ref h_oldCodes, .int v_read, .ref h_body, .ref h_roundOf, .ref h_fresh, .int u.1])), (h_fact, .inl (k_fact, 32, .inl v_fact)), (h_many, .inl (k_many, 2, .inl v_many)), (h_codes, .inl (k_codes, 6, .inl v_codes)), (h_roundOf, .inl (k_roundOf, 16, .inl u.2.1)), (h_fresh, .inl (k_fresh, 16, .inl u.2.2))] t.heap ∧ va_K (dC, dI) classes [(k_fact, .boolean), (k_many, .int), (k_codes, .int), (k_roundOf, .int), (k_fresh, .boolean)] t ∧ va_D (va_A [(h_o, .inr (4, [.ref h_line, .int v_typed, .ref h_fact, .ref h_marked, .int v_count, .ref h_many, .ref h_codes, .int v_oldCount, .ref h_oldMany, .ref h_oldCodes, .int v_read, .ref h_body, .ref h_roundOf, .ref h_fresh, .int v_last])), (h_fact, .inl (k_fact, 32, .inl v_fact)), (h_many, .inl (k_many, 2, .inl v_many)), (h_codes, .inl (k_codes, 6, .inl v_codes)), (h_roundOf, .inl (k_roundOf, 16, .inl v_roundOf)), (h_fresh, .inl (k_fresh, 16, .inl v_fresh))] sz) [(h_o, .inr (4, [.ref h_line, .int v_typed, .ref h_fact, .ref h_marked, .int v_count, .ref h_many, .ref h_codes, .int v_oldCount, .ref h_oldMany, .ref h_oldCodes, .int v_read, .ref h_body, .ref h_roundOf, .ref h_fresh, .int u.1])), (h_fact, .inl (k_fact, 32, .inl v_fact)), (h_many, .inl (k_many, 2, .inl v_many)), (h_codes, .inl (k_codes, 6, .inl v_codes)), (h_roundOf, .inl (k_roundOf, 16, .inl u.2.1)), (h_fresh, .inl (k_fresh, 16, .inl u.2.2))]) (va_A [(h_o, .inr (4, [.ref h_line, .int v_typed, .ref h_fact, .ref h_marked, .int v_count, .ref h_many, .ref h_codes, .int v_oldCount, .ref h_oldMany, .ref h_oldCodes, .int v_read, .ref h_body, .ref h_roundOf, .ref h_fresh, .int v_last])), (h_fact, .inl (k_fact, 32, .inl v_fact)), (h_many, .inl (k_many, 2, .inl v_many)), (h_codes, .inl (k_codes, 6, .inl v_codes)), (h_roundOf, .inl (k_roundOf, 16, .inl v_roundOf)), (h_fresh, .inl (k_fresh, 16, .inl v_fresh))] sz)) 0 0 (va_A [(h_o, .inr (4, [.ref h_line, .int v_typed, .ref h_fact, .ref h_marked, .int v_count, .ref h_many, .ref h_codes, .int v_oldCount, .ref h_oldMany, .ref h_oldCodes, .int v_read, .ref h_body, .ref h_roundOf, .ref h_fresh, .int v_last])), (h_fact, .inl (k_fact, 32, .inl v_fact)), (h_many, .inl (k_many, 2, .inl v_many)), (h_codes, .inl (k_codes, 6, .inl v_codes)), (h_roundOf, .inl (k_roundOf, 16, .inl v_roundOf)), (h_fresh, .inl (k_fresh, 16, .inl v_fresh))] sz) := by
  refine Met.ofW (cc := b_M_work) (maxL := 3) (ret := none) (by decide) rfl ?_
  intro p e s m args below meth c s₁ B hml hv
  obtain ⟨rfl, hsz, hP, hK, hD0⟩ := hv
  have hx := B.exec
  have hb := B.bytes
  have hr := B.returns
  have hts0 := atoms_spec (ws := w_M_work) B.pre
  have hts : ∀ w ∈ lw_gd, w.before ([.ref h_o] : List Value).toArray s = true := fun w h9 => hts0 w (List.mem_cons_of_mem _ h9)
  have hown : s.vm.findClass R_M = some m.cls := findClass_of_methodNamed B.named
  have hlocks := B.notSynchronized
  subst hsz
  have hD := hD0.self (sz := s.heap.size)
  generalize hAe : va_A [(h_o, .inr (4, [.ref h_line, .int v_typed, .ref h_fact, .ref h_marked, .int v_count, .ref h_many, .ref h_codes, .int v_oldCount, .ref h_oldMany, .ref h_oldCodes, .int v_read, .ref h_body, .ref h_roundOf, .ref h_fresh, .int v_last])), (h_fact, .inl (k_fact, 32, .inl v_fact)), (h_many, .inl (k_many, 2, .inl v_many)), (h_codes, .inl (k_codes, 6, .inl v_codes)), (h_roundOf, .inl (k_roundOf, 16, .inl v_roundOf)), (h_fresh, .inl (k_fresh, 16, .inl v_fresh))] s.heap.size = A at hD ⊢
  have hA : ∀ q : Nat, s.heap.size ≤ q → A q := fun q h9 => by rw [← hAe]; exact Or.inr h9
  obtain ⟨H, eH⟩ : ∃ H : Heap, H = s.heap := ⟨_, rfl⟩
  have hS : va_S A s.heap H [] := by rw [eH]; exact va_S.rf
  have hP : va_P (dC, dI) classes [(h_o, .inr (4, [.ref h_line, .int v_typed, .ref h_fact, .ref h_marked, .int v_count, .ref h_many, .ref h_codes, .int v_oldCount, .ref h_oldMany, .ref h_oldCodes, .int v_read, .ref h_body, .ref h_roundOf, .ref h_fresh, .int v_last])), (h_fact, .inl (k_fact, 32, .inl v_fact)), (h_many, .inl (k_many, 2, .inl v_many)), (h_codes, .inl (k_codes, 6, .inl v_codes)), (h_roundOf, .inl (k_roundOf, 16, .inl v_roundOf)), (h_fresh, .inl (k_fresh, 16, .inl v_fresh))] H := by rw [eH]; exact hP
  refine W_gen (fun Q hQ => ?_)
  refine W_heap eH ?_
  clear eH
  have hl := lv_entry ([.ref h_o]) (n := 3) (Nat.le_of_ble_eq_true rfl)
  rw [lg_entry_eq]
  generalize (lg_sl ([.ref h_o]) ++ List.replicate (3 - (lg_sl ([.ref h_o])).length) Slot.unset).toArray = ls at hl ⊢
  have hl : lv_has ls 3 [(0, .ref h_o)] := hl
  have J_156 : ∀ (k_123 : Int32 → (Nat → Int32) → (Nat → Int32) → Int32 → Int32 → Option (Int32 × (Nat → Int32) × (Nat → Int32))) (hk_123 : ∀ (v_last : Int32) (v_roundOf : Nat → Int32) (v_fresh : Nat → Int32) (z1 : Int32) (z2 : Int32), k_123 v_last v_roundOf v_fresh z1 z2 = some u0 → ∀ (H : Heap) (locs : List Loc), va_P (dC, dI) classes [(h_o, .inr (4, [.ref h_line, .int v_typed, .ref h_fact, .ref h_marked, .int v_count, .ref h_many, .ref h_codes, .int v_oldCount, .ref h_oldMany, .ref h_oldCodes, .int v_read, .ref h_body, .ref h_roundOf, .ref h_fresh, .int v_last])), (h_fact, .inl (k_fact, 32, .inl v_fact)), (h_many, .inl (k_many, 2, .inl v_many)), (h_codes, .inl (k_codes, 6, .inl v_codes)), (h_roundOf, .inl (k_roundOf, 16, .inl v_roundOf)), (h_fresh, .inl (k_fresh, 16, .inl v_fresh))] H → va_D A [(h_o, .inr (4, [.ref h_line, .int v_typed, .ref h_fact, .ref h_marked, .int v_count, .ref h_many, .ref h_codes, .int v_oldCount, .ref h_oldMany, .ref h_oldCodes, .int v_read, .ref h_body, .ref h_roundOf, .ref h_fresh, .int v_last])), (h_fact, .inl (k_fact, 32, .inl v_fact)), (h_many, .inl (k_many, 2, .inl v_many)), (h_codes, .inl (k_codes, 6, .inl v_codes)), (h_roundOf, .inl (k_roundOf, 16, .inl v_roundOf)), (h_fresh, .inl (k_fresh, 16, .inl v_fresh))] → va_S A s.heap H locs → ∀ (ls : Array Slot), lv_has ls 3 [(0, .ref h_o), (1, .int z1), (2, .int z2)] → W p l e (headSpec w_M_work ({ frames := 3, cells := 0, slots := 0, locals := 76 } : Room)).room s m ([.ref h_o] : List Value).toArray below meth c H locs 0 0 Q (F0 m 123 ls [])) (v_last : Int32) (v_roundOf : Nat → Int32) (v_fresh : Nat → Int32) (z1 : Int32) (z2 : Int32) (y0 : Int32) (y1 : Int32), m_M_work_156 v_count v_fact v_many v_codes k_123 v_last v_roundOf v_fresh z1 z2 y0 y1 = some u0 → ∀ (H : Heap) (locs : List Loc), va_P (dC, dI) classes [(h_o, .inr (4, [.ref h_line, .int v_typed, .ref h_fact, .ref h_marked, .int v_count, .ref h_many, .ref h_codes, .int v_oldCount, .ref h_oldMany, .ref h_oldCodes, .int v_read, .ref h_body, .ref h_roundOf, .ref h_fresh, .int v_last])), (h_fact, .inl (k_fact, 32, .inl v_fact)), (h_many, .inl (k_many, 2, .inl v_many)), (h_codes, .inl (k_codes, 6, .inl v_codes)), (h_roundOf, .inl (k_roundOf, 16, .inl v_roundOf)), (h_fresh, .inl (k_fresh, 16, .inl v_fresh))] H → va_D A [(h_o, .inr (4, [.ref h_line, .int v_typed, .ref h_fact, .ref h_marked, .int v_count, .ref h_many, .ref h_codes, .int v_oldCount, .ref h_oldMany, .ref h_oldCodes, .int v_read, .ref h_body, .ref h_roundOf, .ref h_fresh, .int v_last])), (h_fact, .inl (k_fact, 32, .inl v_fact)), (h_many, .inl (k_many, 2, .inl v_many)), (h_codes, .inl (k_codes, 6, .inl v_codes)), (h_roundOf, .inl (k_roundOf, 16, .inl v_roundOf)), (h_fresh, .inl (k_fresh, 16, .inl v_fresh))] → va_S A s.heap H locs → ∀ (ls : Array Slot), lv_has ls 3 [(0, .ref h_o), (1, .int z1), (2, .int z2)] → W p l e (headSpec w_M_work ({ frames := 3, cells := 0, slots := 0, locals := 76 } : Room)).room s m ([.ref h_o] : List Value).toArray below meth c H locs 0 0 Q (F0 m 156 ls [.int y0, .int y1, .ref h_roundOf]) := by
    intro k_123 hk_123 v_last v_roundOf v_fresh z1 z2 y0 y1 h H locs hP hD hS ls hl
    unfold m_M_work_156 at h
    obtain ⟨g_156, h⟩ := of_guard h
    refine va_iast hx hb hK hP hD hS 4 3 rfl rfl (inR_in g_156) d_M_work_156 (fun H locs hP hD hS => ?_)
    have hP : va_P (dC, dI) classes [(h_o, .inr (4, [.ref h_line, .int v_typed, .ref h_fact, .ref h_marked, .int v_count, .ref h_many, .ref h_codes, .int v_oldCount, .ref h_oldMany, .ref h_oldCodes, .int v_read, .ref h_body, .ref h_roundOf, .ref h_fresh, .int v_last])), (h_fact, .inl (k_fact, 32, .inl v_fact)), (h_many, .inl (k_many, 2, .inl v_many)), (h_codes, .inl (k_codes, 6, .inl v_codes)), (h_roundOf, .inl (k_roundOf, 16, .inl (upd v_roundOf y1.toNatClampNeg y0))), (h_fresh, .inl (k_fresh, 16, .inl v_fresh))] H := hP
    have hD : va_D A [(h_o, .inr (4, [.ref h_line, .int v_typed, .ref h_fact, .ref h_marked, .int v_count, .ref h_many, .ref h_codes, .int v_oldCount, .ref h_oldMany, .ref h_oldCodes, .int v_read, .ref h_body, .ref h_roundOf, .ref h_fresh, .int v_last])), (h_fact, .inl (k_fact, 32, .inl v_fact)), (h_many, .inl (k_many, 2, .inl v_many)), (h_codes, .inl (k_codes, 6, .inl v_codes)), (h_roundOf, .inl (k_roundOf, 16, .inl (upd v_roundOf y1.toNatClampNeg y0))), (h_fresh, .inl (k_fresh, 16, .inl v_fresh))] := hD
    refine lv_iinc (v := z2 + (nI 1)) (lv' := [(2, .int (z2 + (nI 1))), (0, .ref h_o), (1, .int z1)]) hx hb d_M_work_157 hl (k := 2) rfl rfl (by decide) rfl (fun ls hl => ?_)
    refine lv_goto (tgt := 123) hx hb d_M_work_160 (by decide) ?_
    exact hk_123 v_last (upd v_roundOf y1.toNatClampNeg y0) v_fresh z1 (z2 + (nI 1)) h _ _ hP hD hS ls (lv_sub hl [1, 2, 0] rfl)
  have J_123 : ∀ (k_28 : Int32 → (Nat → Int32) → (Nat → Int32) → Int32 → Option (Int32 × (Nat → Int32) × (Nat → Int32))) (hk_28 : ∀ (v_last : Int32) (v_roundOf : Nat → Int32) (v_fresh : Nat → Int32) (z1 : Int32), k_28 v_last v_roundOf v_fresh z1 = some u0 → ∀ (H : Heap) (locs : List Loc), va_P (dC, dI) classes [(h_o, .inr (4, [.ref h_line, .int v_typed, .ref h_fact, .ref h_marked, .int v_count, .ref h_many, .ref h_codes, .int v_oldCount, .ref h_oldMany, .ref h_oldCodes, .int v_read, .ref h_body, .ref h_roundOf, .ref h_fresh, .int v_last])), (h_fact, .inl (k_fact, 32, .inl v_fact)), (h_many, .inl (k_many, 2, .inl v_many)), (h_codes, .inl (k_codes, 6, .inl v_codes)), (h_roundOf, .inl (k_roundOf, 16, .inl v_roundOf)), (h_fresh, .inl (k_fresh, 16, .inl v_fresh))] H → va_D A [(h_o, .inr (4, [.ref h_line, .int v_typed, .ref h_fact, .ref h_marked, .int v_count, .ref h_many, .ref h_codes, .int v_oldCount, .ref h_oldMany, .ref h_oldCodes, .int v_read, .ref h_body, .ref h_roundOf, .ref h_fresh, .int v_last])), (h_fact, .inl (k_fact, 32, .inl v_fact)), (h_many, .inl (k_many, 2, .inl v_many)), (h_codes, .inl (k_codes, 6, .inl v_codes)), (h_roundOf, .inl (k_roundOf, 16, .inl v_roundOf)), (h_fresh, .inl (k_fresh, 16, .inl v_fresh))] → va_S A s.heap H locs → ∀ (ls : Array Slot), lv_has ls 3 [(0, .ref h_o), (1, .int z1)] → W p l e (headSpec w_M_work ({ frames := 3, cells := 0, slots := 0, locals := 76 } : Room)).room s m ([.ref h_o] : List Value).toArray below meth c H locs 0 0 Q (F0 m 28 ls [])) (n : Nat) (v_last : Int32) (v_roundOf : Nat → Int32) (v_fresh : Nat → Int32) (z1 : Int32) (z2 : Int32), m_M_work_123 v_count v_fact v_many v_codes k_28 n v_last v_roundOf v_fresh z1 z2 = some u0 → ∀ (H : Heap) (locs : List Loc), va_P (dC, dI) classes [(h_o, .inr (4, [.ref h_line, .int v_typed, .ref h_fact, .ref h_marked, .int v_count, .ref h_many, .ref h_codes, .int v_oldCount, .ref h_oldMany, .ref h_oldCodes, .int v_read, .ref h_body, .ref h_roundOf, .ref h_fresh, .int v_last])), (h_fact, .inl (k_fact, 32, .inl v_fact)), (h_many, .inl (k_many, 2, .inl v_many)), (h_codes, .inl (k_codes, 6, .inl v_codes)), (h_roundOf, .inl (k_roundOf, 16, .inl v_roundOf)), (h_fresh, .inl (k_fresh, 16, .inl v_fresh))] H → va_D A [(h_o, .inr (4, [.ref h_line, .int v_typed, .ref h_fact, .ref h_marked, .int v_count, .ref h_many, .ref h_codes, .int v_oldCount, .ref h_oldMany, .ref h_oldCodes, .int v_read, .ref h_body, .ref h_roundOf, .ref h_fresh, .int v_last])), (h_fact, .inl (k_fact, 32, .inl v_fact)), (h_many, .inl (k_many, 2, .inl v_many)), (h_codes, .inl (k_codes, 6, .inl v_codes)), (h_roundOf, .inl (k_roundOf, 16, .inl v_roundOf)), (h_fresh, .inl (k_fresh, 16, .inl v_fresh))] → va_S A s.heap H locs → ∀ (ls : Array Slot), lv_has ls 3 [(0, .ref h_o), (1, .int z1), (2, .int z2)] → W p l e (headSpec w_M_work ({ frames := 3, cells := 0, slots := 0, locals := 76 } : Room)).room s m ([.ref h_o] : List Value).toArray below meth c H locs 0 0 Q (F0 m 123 ls []) := by
    intro k_28 hk_28 n
    induction n with
    | zero => intro v_last v_roundOf v_fresh z1 z2 h; exact absurd h (by unfold m_M_work_123; exact fun h9 => nomatch h9)
    | succ n ih =>
      intro v_last v_roundOf v_fresh z1 z2 h H locs hP hD hS ls hl
      unfold m_M_work_123 at h
      refine lv_iload_n hx hb d_M_work_123 rfl (lv_at hl 2 rfl) ?_
      refine lv_bipush (v := (nI 16)) hx hb d_M_work_124 (by decide) ?_
      refine lv_icmp_ge (tgt := 163) hx hb d_M_work_126 (by decide) (fun c_126 => ?_) (fun c_126 => ?_)
      · have h := of_pos h c_126
        refine lv_goto (tgt := 28) hx hb d_M_work_163 (by decide) ?_
        exact hk_28 v_last v_roundOf v_fresh z1 h _ _ hP hD hS ls (lv_sub hl [0, 1] rfl)
      · have h := of_neg h c_126
        refine lv_aload_n hx hb d_M_work_129 rfl (lv_at hl 0 rfl) ?_
        refine va_get (D := (dC, dI)) (ci := 4) (v := .ref h_roundOf) (C := R_M) (T := F_M) (N := 15) hx hb hts lay_M hown hK hP 0 rfl rfl 12 (by decide) (hts _ flk_M_35) (fun _ h9 => h9) rfl d_M_work_130 ?_
        refine lv_iload_n hx hb d_M_work_133 rfl (lv_at hl 2 rfl) ?_
        refine lv_aload_n hx hb d_M_work_134 rfl (lv_at hl 0 rfl) ?_
        refine va_get (D := (dC, dI)) (ci := 4) (v := .ref h_fresh) (C := R_M) (T := F_M) (N := 15) hx hb hts lay_M hown hK hP 0 rfl rfl 13 (by decide) (hts _ flk_M_38) (fun _ h9 => h9) rfl d_M_work_135 ?_
        refine lv_iload_n hx hb d_M_work_138 rfl (lv_at hl 2 rfl) ?_
        obtain ⟨g_139, h⟩ := of_guard h
        refine va_zald hx hb hK hP 5 4 rfl rfl (inR_in g_139) d_M_work_139 ?_
        refine lv_if_eq (tgt := 150) hx hb d_M_work_140 (by decide) (fun c_140 => ?_) (fun c_140 => ?_)
        · have h := of_pos h c_140
          refine lv_aload_n hx hb d_M_work_150 rfl (lv_at hl 0 rfl) ?_
          refine va_get (D := (dC, dI)) (ci := 4) (v := .ref h_roundOf) (C := R_M) (T := F_M) (N := 15) hx hb hts lay_M hown hK hP 0 rfl rfl 12 (by decide) (hts _ flk_M_35) (fun _ h9 => h9) rfl d_M_work_151 ?_
          refine lv_iload_n hx hb d_M_work_154 rfl (lv_at hl 2 rfl) ?_
          obtain ⟨g_155, h⟩ := of_guard h
          refine va_iald hx hb hK hP 4 3 rfl rfl (inR_in g_155) d_M_work_155 ?_
          exact J_156 (m_M_work_123 v_count v_fact v_many v_codes k_28 n) ih v_last v_roundOf v_fresh z1 z2 (v_roundOf z2.toNatClampNeg) z2 h _ _ hP hD hS ls (lv_sub hl [0, 1, 2] rfl)
        · have h := of_neg h c_140
          refine lv_aload_n hx hb d_M_work_143 rfl (lv_at hl 0 rfl) ?_
          refine va_get (D := (dC, dI)) (ci := 4) (v := .int v_last) (C := R_M) (T := F_M) (N := 15) hx hb hts lay_M hown hK hP 0 rfl rfl 14 (by decide) (hts _ flk_M_126) (fun _ h9 => h9) rfl d_M_work_144 ?_
          refine lv_goto (tgt := 156) hx hb d_M_work_147 (by decide) ?_
          exact J_156 (m_M_work_123 v_count v_fact v_many v_codes k_28 n) ih v_last v_roundOf v_fresh z1 z2 v_last z2 h _ _ hP hD hS ls (lv_sub hl [0, 1, 2] rfl)
  have J_118 : ∀ (k_28 : Int32 → (Nat → Int32) → (Nat → Int32) → Int32 → Option (Int32 × (Nat → Int32) × (Nat → Int32))) (hk_28 : ∀ (v_last : Int32) (v_roundOf : Nat → Int32) (v_fresh : Nat → Int32) (z1 : Int32), k_28 v_last v_roundOf v_fresh z1 = some u0 → ∀ (H : Heap) (locs : List Loc), va_P (dC, dI) classes [(h_o, .inr (4, [.ref h_line, .int v_typed, .ref h_fact, .ref h_marked, .int v_count, .ref h_many, .ref h_codes, .int v_oldCount, .ref h_oldMany, .ref h_oldCodes, .int v_read, .ref h_body, .ref h_roundOf, .ref h_fresh, .int v_last])), (h_fact, .inl (k_fact, 32, .inl v_fact)), (h_many, .inl (k_many, 2, .inl v_many)), (h_codes, .inl (k_codes, 6, .inl v_codes)), (h_roundOf, .inl (k_roundOf, 16, .inl v_roundOf)), (h_fresh, .inl (k_fresh, 16, .inl v_fresh))] H → va_D A [(h_o, .inr (4, [.ref h_line, .int v_typed, .ref h_fact, .ref h_marked, .int v_count, .ref h_many, .ref h_codes, .int v_oldCount, .ref h_oldMany, .ref h_oldCodes, .int v_read, .ref h_body, .ref h_roundOf, .ref h_fresh, .int v_last])), (h_fact, .inl (k_fact, 32, .inl v_fact)), (h_many, .inl (k_many, 2, .inl v_many)), (h_codes, .inl (k_codes, 6, .inl v_codes)), (h_roundOf, .inl (k_roundOf, 16, .inl v_roundOf)), (h_fresh, .inl (k_fresh, 16, .inl v_fresh))] → va_S A s.heap H locs → ∀ (ls : Array Slot), lv_has ls 3 [(0, .ref h_o), (1, .int z1)] → W p l e (headSpec w_M_work ({ frames := 3, cells := 0, slots := 0, locals := 76 } : Room)).room s m ([.ref h_o] : List Value).toArray below meth c H locs 0 0 Q (F0 m 28 ls [])) (v_last : Int32) (v_roundOf : Nat → Int32) (v_fresh : Nat → Int32) (z1 : Int32) (y0 : Int32), m_M_work_118 v_count v_fact v_many v_codes k_28 v_last v_roundOf v_fresh z1 y0 = some u0 → ∀ (H : Heap) (locs : List Loc), va_P (dC, dI) classes [(h_o, .inr (4, [.ref h_line, .int v_typed, .ref h_fact, .ref h_marked, .int v_count, .ref h_many, .ref h_codes, .int v_oldCount, .ref h_oldMany, .ref h_oldCodes, .int v_read, .ref h_body, .ref h_roundOf, .ref h_fresh, .int v_last])), (h_fact, .inl (k_fact, 32, .inl v_fact)), (h_many, .inl (k_many, 2, .inl v_many)), (h_codes, .inl (k_codes, 6, .inl v_codes)), (h_roundOf, .inl (k_roundOf, 16, .inl v_roundOf)), (h_fresh, .inl (k_fresh, 16, .inl v_fresh))] H → va_D A [(h_o, .inr (4, [.ref h_line, .int v_typed, .ref h_fact, .ref h_marked, .int v_count, .ref h_many, .ref h_codes, .int v_oldCount, .ref h_oldMany, .ref h_oldCodes, .int v_read, .ref h_body, .ref h_roundOf, .ref h_fresh, .int v_last])), (h_fact, .inl (k_fact, 32, .inl v_fact)), (h_many, .inl (k_many, 2, .inl v_many)), (h_codes, .inl (k_codes, 6, .inl v_codes)), (h_roundOf, .inl (k_roundOf, 16, .inl v_roundOf)), (h_fresh, .inl (k_fresh, 16, .inl v_fresh))] → va_S A s.heap H locs → ∀ (ls : Array Slot), lv_has ls 3 [(0, .ref h_o), (1, .int z1)] → W p l e (headSpec w_M_work ({ frames := 3, cells := 0, slots := 0, locals := 76 } : Room)).room s m ([.ref h_o] : List Value).toArray below meth c H locs 0 0 Q (F0 m 118 ls [.int y0, .ref h_o]) := by
    intro k_28 hk_28 v_last v_roundOf v_fresh z1 y0 h H locs hP hD hS ls hl
    unfold m_M_work_118 at h
    refine va_put (D := (dC, dI)) (ci := 4) (v := .int y0) (ty := .int) (C := R_M) (T := F_M) (N := 15) hx hb hts lay_M t_M t_M_ok n_M hown hK hP hD hS 0 rfl rfl 14 (by decide) (hts _ flk_M_126) (fun _ h9 => h9) rfl (by decide +kernel) rfl rfl (Nat.le_of_ble_eq_true rfl) d_M_work_118 (fun H locs hP hD hS => ?_)
    have hP : va_P (dC, dI) classes [(h_o, .inr (4, [.ref h_line, .int v_typed, .ref h_fact, .ref h_marked, .int v_count, .ref h_many, .ref h_codes, .int v_oldCount, .ref h_oldMany, .ref h_oldCodes, .int v_read, .ref h_body, .ref h_roundOf, .ref h_fresh, .int y0])), (h_fact, .inl (k_fact, 32, .inl v_fact)), (h_many, .inl (k_many, 2, .inl v_many)), (h_codes, .inl (k_codes, 6, .inl v_codes)), (h_roundOf, .inl (k_roundOf, 16, .inl v_roundOf)), (h_fresh, .inl (k_fresh, 16, .inl v_fresh))] H := hP
    have hD : va_D A [(h_o, .inr (4, [.ref h_line, .int v_typed, .ref h_fact, .ref h_marked, .int v_count, .ref h_many, .ref h_codes, .int v_oldCount, .ref h_oldMany, .ref h_oldCodes, .int v_read, .ref h_body, .ref h_roundOf, .ref h_fresh, .int y0])), (h_fact, .inl (k_fact, 32, .inl v_fact)), (h_many, .inl (k_many, 2, .inl v_many)), (h_codes, .inl (k_codes, 6, .inl v_codes)), (h_roundOf, .inl (k_roundOf, 16, .inl v_roundOf)), (h_fresh, .inl (k_fresh, 16, .inl v_fresh))] := hD
    refine lv_iconst (v := (nI 0)) hx hb d_M_work_121 (by decide) ?_
    refine lv_istore_n (lv' := [(2, .int (nI 0)), (0, .ref h_o), (1, .int z1)]) hx hb d_M_work_122 rfl hl (by decide) rfl (fun ls hl => ?_)
    exact J_123 k_28 hk_28 40 y0 v_roundOf v_fresh z1 (nI 0) h _ _ hP hD hS ls (lv_sub hl [1, 2, 0] rfl)
  have J_93 : ∀ (k_36 : Int32 → (Nat → Int32) → (Nat → Int32) → Int32 → Int32 → Option (Int32 × (Nat → Int32) × (Nat → Int32))) (hk_36 : ∀ (v_last : Int32) (v_roundOf : Nat → Int32) (v_fresh : Nat → Int32) (z1 : Int32) (z2 : Int32), k_36 v_last v_roundOf v_fresh z1 z2 = some u0 → ∀ (H : Heap) (locs : List Loc), va_P (dC, dI) classes [(h_o, .inr (4, [.ref h_line, .int v_typed, .ref h_fact, .ref h_marked, .int v_count, .ref h_many, .ref h_codes, .int v_oldCount, .ref h_oldMany, .ref h_oldCodes, .int v_read, .ref h_body, .ref h_roundOf, .ref h_fresh, .int v_last])), (h_fact, .inl (k_fact, 32, .inl v_fact)), (h_many, .inl (k_many, 2, .inl v_many)), (h_codes, .inl (k_codes, 6, .inl v_codes)), (h_roundOf, .inl (k_roundOf, 16, .inl v_roundOf)), (h_fresh, .inl (k_fresh, 16, .inl v_fresh))] H → va_D A [(h_o, .inr (4, [.ref h_line, .int v_typed, .ref h_fact, .ref h_marked, .int v_count, .ref h_many, .ref h_codes, .int v_oldCount, .ref h_oldMany, .ref h_oldCodes, .int v_read, .ref h_body, .ref h_roundOf, .ref h_fresh, .int v_last])), (h_fact, .inl (k_fact, 32, .inl v_fact)), (h_many, .inl (k_many, 2, .inl v_many)), (h_codes, .inl (k_codes, 6, .inl v_codes)), (h_roundOf, .inl (k_roundOf, 16, .inl v_roundOf)), (h_fresh, .inl (k_fresh, 16, .inl v_fresh))] → va_S A s.heap H locs → ∀ (ls : Array Slot), lv_has ls 3 [(0, .ref h_o), (1, .int z1), (2, .int z2)] → W p l e (headSpec w_M_work ({ frames := 3, cells := 0, slots := 0, locals := 76 } : Room)).room s m ([.ref h_o] : List Value).toArray below meth c H locs 0 0 Q (F0 m 36 ls [])) (v_last : Int32) (v_roundOf : Nat → Int32) (v_fresh : Nat → Int32) (z2 : Int32) (y0 : Int32), m_M_work_93 v_count v_fact v_many v_codes k_36 v_last v_roundOf v_fresh z2 y0 = some u0 → ∀ (H : Heap) (locs : List Loc), va_P (dC, dI) classes [(h_o, .inr (4, [.ref h_line, .int v_typed, .ref h_fact, .ref h_marked, .int v_count, .ref h_many, .ref h_codes, .int v_oldCount, .ref h_oldMany, .ref h_oldCodes, .int v_read, .ref h_body, .ref h_roundOf, .ref h_fresh, .int v_last])), (h_fact, .inl (k_fact, 32, .inl v_fact)), (h_many, .inl (k_many, 2, .inl v_many)), (h_codes, .inl (k_codes, 6, .inl v_codes)), (h_roundOf, .inl (k_roundOf, 16, .inl v_roundOf)), (h_fresh, .inl (k_fresh, 16, .inl v_fresh))] H → va_D A [(h_o, .inr (4, [.ref h_line, .int v_typed, .ref h_fact, .ref h_marked, .int v_count, .ref h_many, .ref h_codes, .int v_oldCount, .ref h_oldMany, .ref h_oldCodes, .int v_read, .ref h_body, .ref h_roundOf, .ref h_fresh, .int v_last])), (h_fact, .inl (k_fact, 32, .inl v_fact)), (h_many, .inl (k_many, 2, .inl v_many)), (h_codes, .inl (k_codes, 6, .inl v_codes)), (h_roundOf, .inl (k_roundOf, 16, .inl v_roundOf)), (h_fresh, .inl (k_fresh, 16, .inl v_fresh))] → va_S A s.heap H locs → ∀ (ls : Array Slot), lv_has ls 3 [(0, .ref h_o), (2, .int z2)] → W p l e (headSpec w_M_work ({ frames := 3, cells := 0, slots := 0, locals := 76 } : Room)).room s m ([.ref h_o] : List Value).toArray below meth c H locs 0 0 Q (F0 m 93 ls [.int y0]) := by
    intro k_36 hk_36 v_last v_roundOf v_fresh z2 y0 h H locs hP hD hS ls hl
    unfold m_M_work_93 at h
    refine lv_istore_n (lv' := [(1, .int y0), (0, .ref h_o), (2, .int z2)]) hx hb d_M_work_93 rfl hl (by decide) rfl (fun ls hl => ?_)
    refine lv_iinc (v := z2 + (nI 1)) (lv' := [(2, .int (z2 + (nI 1))), (1, .int y0), (0, .ref h_o)]) hx hb d_M_work_94 hl (k := 2) rfl rfl (by decide) rfl (fun ls hl => ?_)
    refine lv_goto (tgt := 36) hx hb d_M_work_97 (by decide) ?_
    exact hk_36 v_last v_roundOf v_fresh y0 (z2 + (nI 1)) h _ _ hP hD hS ls (lv_sub hl [2, 1, 0] rfl)
  have J_88 : ∀ (k_36 : Int32 → (Nat → Int32) → (Nat → Int32) → Int32 → Int32 → Option (Int32 × (Nat → Int32) × (Nat → Int32))) (hk_36 : ∀ (v_last : Int32) (v_roundOf : Nat → Int32) (v_fresh : Nat → Int32) (z1 : Int32) (z2 : Int32), k_36 v_last v_roundOf v_fresh z1 z2 = some u0 → ∀ (H : Heap) (locs : List Loc), va_P (dC, dI) classes [(h_o, .inr (4, [.ref h_line, .int v_typed, .ref h_fact, .ref h_marked, .int v_count, .ref h_many, .ref h_codes, .int v_oldCount, .ref h_oldMany, .ref h_oldCodes, .int v_read, .ref h_body, .ref h_roundOf, .ref h_fresh, .int v_last])), (h_fact, .inl (k_fact, 32, .inl v_fact)), (h_many, .inl (k_many, 2, .inl v_many)), (h_codes, .inl (k_codes, 6, .inl v_codes)), (h_roundOf, .inl (k_roundOf, 16, .inl v_roundOf)), (h_fresh, .inl (k_fresh, 16, .inl v_fresh))] H → va_D A [(h_o, .inr (4, [.ref h_line, .int v_typed, .ref h_fact, .ref h_marked, .int v_count, .ref h_many, .ref h_codes, .int v_oldCount, .ref h_oldMany, .ref h_oldCodes, .int v_read, .ref h_body, .ref h_roundOf, .ref h_fresh, .int v_last])), (h_fact, .inl (k_fact, 32, .inl v_fact)), (h_many, .inl (k_many, 2, .inl v_many)), (h_codes, .inl (k_codes, 6, .inl v_codes)), (h_roundOf, .inl (k_roundOf, 16, .inl v_roundOf)), (h_fresh, .inl (k_fresh, 16, .inl v_fresh))] → va_S A s.heap H locs → ∀ (ls : Array Slot), lv_has ls 3 [(0, .ref h_o), (1, .int z1), (2, .int z2)] → W p l e (headSpec w_M_work ({ frames := 3, cells := 0, slots := 0, locals := 76 } : Room)).room s m ([.ref h_o] : List Value).toArray below meth c H locs 0 0 Q (F0 m 36 ls [])) (v_last : Int32) (v_roundOf : Nat → Int32) (v_fresh : Nat → Int32) (z2 : Int32), m_M_work_88 v_count v_fact v_many v_codes k_36 v_last v_roundOf v_fresh z2 = some u0 → ∀ (H : Heap) (locs : List Loc), va_P (dC, dI) classes [(h_o, .inr (4, [.ref h_line, .int v_typed, .ref h_fact, .ref h_marked, .int v_count, .ref h_many, .ref h_codes, .int v_oldCount, .ref h_oldMany, .ref h_oldCodes, .int v_read, .ref h_body, .ref h_roundOf, .ref h_fresh, .int v_last])), (h_fact, .inl (k_fact, 32, .inl v_fact)), (h_many, .inl (k_many, 2, .inl v_many)), (h_codes, .inl (k_codes, 6, .inl v_codes)), (h_roundOf, .inl (k_roundOf, 16, .inl v_roundOf)), (h_fresh, .inl (k_fresh, 16, .inl v_fresh))] H → va_D A [(h_o, .inr (4, [.ref h_line, .int v_typed, .ref h_fact, .ref h_marked, .int v_count, .ref h_many, .ref h_codes, .int v_oldCount, .ref h_oldMany, .ref h_oldCodes, .int v_read, .ref h_body, .ref h_roundOf, .ref h_fresh, .int v_last])), (h_fact, .inl (k_fact, 32, .inl v_fact)), (h_many, .inl (k_many, 2, .inl v_many)), (h_codes, .inl (k_codes, 6, .inl v_codes)), (h_roundOf, .inl (k_roundOf, 16, .inl v_roundOf)), (h_fresh, .inl (k_fresh, 16, .inl v_fresh))] → va_S A s.heap H locs → ∀ (ls : Array Slot), lv_has ls 3 [(0, .ref h_o), (2, .int z2)] → W p l e (headSpec w_M_work ({ frames := 3, cells := 0, slots := 0, locals := 76 } : Room)).room s m ([.ref h_o] : List Value).toArray below meth c H locs 0 0 Q (F0 m 88 ls []) := by
    intro k_36 hk_36 v_last v_roundOf v_fresh z2 h H locs hP hD hS ls hl
    unfold m_M_work_88 at h
    refine lv_iconst (v := (nI 1)) hx hb d_M_work_88 (by decide) ?_
    refine lv_goto (tgt := 93) hx hb d_M_work_89 (by decide) ?_
    exact J_93 k_36 hk_36 v_last v_roundOf v_fresh z2 (nI 1) h _ _ hP hD hS ls (lv_sub hl [0, 1] rfl)
  have J_74 : ∀ (k_36 : Int32 → (Nat → Int32) → (Nat → Int32) → Int32 → Int32 → Option (Int32 × (Nat → Int32) × (Nat → Int32))) (hk_36 : ∀ (v_last : Int32) (v_roundOf : Nat → Int32) (v_fresh : Nat → Int32) (z1 : Int32) (z2 : Int32), k_36 v_last v_roundOf v_fresh z1 z2 = some u0 → ∀ (H : Heap) (locs : List Loc), va_P (dC, dI) classes [(h_o, .inr (4, [.ref h_line, .int v_typed, .ref h_fact, .ref h_marked, .int v_count, .ref h_many, .ref h_codes, .int v_oldCount, .ref h_oldMany, .ref h_oldCodes, .int v_read, .ref h_body, .ref h_roundOf, .ref h_fresh, .int v_last])), (h_fact, .inl (k_fact, 32, .inl v_fact)), (h_many, .inl (k_many, 2, .inl v_many)), (h_codes, .inl (k_codes, 6, .inl v_codes)), (h_roundOf, .inl (k_roundOf, 16, .inl v_roundOf)), (h_fresh, .inl (k_fresh, 16, .inl v_fresh))] H → va_D A [(h_o, .inr (4, [.ref h_line, .int v_typed, .ref h_fact, .ref h_marked, .int v_count, .ref h_many, .ref h_codes, .int v_oldCount, .ref h_oldMany, .ref h_oldCodes, .int v_read, .ref h_body, .ref h_roundOf, .ref h_fresh, .int v_last])), (h_fact, .inl (k_fact, 32, .inl v_fact)), (h_many, .inl (k_many, 2, .inl v_many)), (h_codes, .inl (k_codes, 6, .inl v_codes)), (h_roundOf, .inl (k_roundOf, 16, .inl v_roundOf)), (h_fresh, .inl (k_fresh, 16, .inl v_fresh))] → va_S A s.heap H locs → ∀ (ls : Array Slot), lv_has ls 3 [(0, .ref h_o), (1, .int z1), (2, .int z2)] → W p l e (headSpec w_M_work ({ frames := 3, cells := 0, slots := 0, locals := 76 } : Room)).room s m ([.ref h_o] : List Value).toArray below meth c H locs 0 0 Q (F0 m 36 ls [])) (v_last : Int32) (v_roundOf : Nat → Int32) (v_fresh : Nat → Int32) (z1 : Int32) (z2 : Int32) (y0 : Int32) (y1 : Int32), m_M_work_74 v_count v_fact v_many v_codes k_36 v_last v_roundOf v_fresh z1 z2 y0 y1 = some u0 → ∀ (H : Heap) (locs : List Loc), va_P (dC, dI) classes [(h_o, .inr (4, [.ref h_line, .int v_typed, .ref h_fact, .ref h_marked, .int v_count, .ref h_many, .ref h_codes, .int v_oldCount, .ref h_oldMany, .ref h_oldCodes, .int v_read, .ref h_body, .ref h_roundOf, .ref h_fresh, .int v_last])), (h_fact, .inl (k_fact, 32, .inl v_fact)), (h_many, .inl (k_many, 2, .inl v_many)), (h_codes, .inl (k_codes, 6, .inl v_codes)), (h_roundOf, .inl (k_roundOf, 16, .inl v_roundOf)), (h_fresh, .inl (k_fresh, 16, .inl v_fresh))] H → va_D A [(h_o, .inr (4, [.ref h_line, .int v_typed, .ref h_fact, .ref h_marked, .int v_count, .ref h_many, .ref h_codes, .int v_oldCount, .ref h_oldMany, .ref h_oldCodes, .int v_read, .ref h_body, .ref h_roundOf, .ref h_fresh, .int v_last])), (h_fact, .inl (k_fact, 32, .inl v_fact)), (h_many, .inl (k_many, 2, .inl v_many)), (h_codes, .inl (k_codes, 6, .inl v_codes)), (h_roundOf, .inl (k_roundOf, 16, .inl v_roundOf)), (h_fresh, .inl (k_fresh, 16, .inl v_fresh))] → va_S A s.heap H locs → ∀ (ls : Array Slot), lv_has ls 3 [(0, .ref h_o), (1, .int z1), (2, .int z2)] → W p l e (headSpec w_M_work ({ frames := 3, cells := 0, slots := 0, locals := 76 } : Room)).room s m ([.ref h_o] : List Value).toArray below meth c H locs 0 0 Q (F0 m 74 ls [.int y0, .int y1, .ref h_fresh]) := by
    intro k_36 hk_36 v_last v_roundOf v_fresh z1 z2 y0 y1 h H locs hP hD hS ls hl
    unfold m_M_work_74 at h
    obtain ⟨g_74, h⟩ := of_guard h
    obtain ⟨gn_74, h⟩ := of_guard h
    refine va_zast hx hb hK hP hD hS 5 4 rfl rfl (inR_in g_74) d_M_work_74 (fun H locs hP hD hS => ?_)
    have hP : va_P (dC, dI) classes [(h_o, .inr (4, [.ref h_line, .int v_typed, .ref h_fact, .ref h_marked, .int v_count, .ref h_many, .ref h_codes, .int v_oldCount, .ref h_oldMany, .ref h_oldCodes, .int v_read, .ref h_body, .ref h_roundOf, .ref h_fresh, .int v_last])), (h_fact, .inl (k_fact, 32, .inl v_fact)), (h_many, .inl (k_many, 2, .inl v_many)), (h_codes, .inl (k_codes, 6, .inl v_codes)), (h_roundOf, .inl (k_roundOf, 16, .inl v_roundOf)), (h_fresh, .inl (k_fresh, 16, .inl (upd v_fresh y1.toNatClampNeg (vp_nar .boolean y0))))] H := hP
    have hD : va_D A [(h_o, .inr (4, [.ref h_line, .int v_typed, .ref h_fact, .ref h_marked, .int v_count, .ref h_many, .ref h_codes, .int v_oldCount, .ref h_oldMany, .ref h_oldCodes, .int v_read, .ref h_body, .ref h_roundOf, .ref h_fresh, .int v_last])), (h_fact, .inl (k_fact, 32, .inl v_fact)), (h_many, .inl (k_many, 2, .inl v_many)), (h_codes, .inl (k_codes, 6, .inl v_codes)), (h_roundOf, .inl (k_roundOf, 16, .inl v_roundOf)), (h_fresh, .inl (k_fresh, 16, .inl (upd v_fresh y1.toNatClampNeg (vp_nar .boolean y0))))] := hD
    rw [nar_z gn_74] at hP hD
    have hP : va_P (dC, dI) classes [(h_o, .inr (4, [.ref h_line, .int v_typed, .ref h_fact, .ref h_marked, .int v_count, .ref h_many, .ref h_codes, .int v_oldCount, .ref h_oldMany, .ref h_oldCodes, .int v_read, .ref h_body, .ref h_roundOf, .ref h_fresh, .int v_last])), (h_fact, .inl (k_fact, 32, .inl v_fact)), (h_many, .inl (k_many, 2, .inl v_many)), (h_codes, .inl (k_codes, 6, .inl v_codes)), (h_roundOf, .inl (k_roundOf, 16, .inl v_roundOf)), (h_fresh, .inl (k_fresh, 16, .inl (upd v_fresh y1.toNatClampNeg y0)))] H := hP
    have hD : va_D A [(h_o, .inr (4, [.ref h_line, .int v_typed, .ref h_fact, .ref h_marked, .int v_count, .ref h_many, .ref h_codes, .int v_oldCount, .ref h_oldMany, .ref h_oldCodes, .int v_read, .ref h_body, .ref h_roundOf, .ref h_fresh, .int v_last])), (h_fact, .inl (k_fact, 32, .inl v_fact)), (h_many, .inl (k_many, 2, .inl v_many)), (h_codes, .inl (k_codes, 6, .inl v_codes)), (h_roundOf, .inl (k_roundOf, 16, .inl v_roundOf)), (h_fresh, .inl (k_fresh, 16, .inl (upd v_fresh y1.toNatClampNeg y0)))] := hD
    refine lv_iload_n hx hb d_M_work_75 rfl (lv_at hl 1 rfl) ?_
    refine lv_if_ne (tgt := 88) hx hb d_M_work_76 (by decide) (fun c_76 => ?_) (fun c_76 => ?_)
    · have h := of_neg h c_76
      exact J_88 k_36 hk_36 v_last v_roundOf (upd v_fresh y1.toNatClampNeg y0) z2 h _ _ hP hD hS ls (lv_sub hl [0, 2] rfl)
    · have h := of_pos h c_76
      refine lv_aload_n hx hb d_M_work_79 rfl (lv_at hl 0 rfl) ?_
      refine va_get (D := (dC, dI)) (ci := 4) (v := .ref h_fresh) (C := R_M) (T := F_M) (N := 15) hx hb hts lay_M hown hK hP 0 rfl rfl 13 (by decide) (hts _ flk_M_38) (fun _ h9 => h9) rfl d_M_work_80 ?_
      refine lv_iload_n hx hb d_M_work_83 rfl (lv_at hl 2 rfl) ?_
      obtain ⟨g_84, h⟩ := of_guard h
      refine va_zald hx hb hK hP 5 4 rfl rfl (inR_in g_84) d_M_work_84 ?_
      refine lv_if_eq (tgt := 92) hx hb d_M_work_85 (by decide) (fun c_85 => ?_) (fun c_85 => ?_)
      · have h := of_pos h c_85
        refine lv_iconst (v := (nI 0)) hx hb d_M_work_92 (by decide) ?_
        exact J_93 k_36 hk_36 v_last v_roundOf (upd v_fresh y1.toNatClampNeg y0) z2 (nI 0) h _ _ hP hD hS ls (lv_sub hl [0, 2] rfl)
      · have h := of_neg h c_85
        exact J_88 k_36 hk_36 v_last v_roundOf (upd v_fresh y1.toNatClampNeg y0) z2 h _ _ hP hD hS ls (lv_sub hl [0, 2] rfl)
  have J_73 : ∀ (k_36 : Int32 → (Nat → Int32) → (Nat → Int32) → Int32 → Int32 → Option (Int32 × (Nat → Int32) × (Nat → Int32))) (hk_36 : ∀ (v_last : Int32) (v_roundOf : Nat → Int32) (v_fresh : Nat → Int32) (z1 : Int32) (z2 : Int32), k_36 v_last v_roundOf v_fresh z1 z2 = some u0 → ∀ (H : Heap) (locs : List Loc), va_P (dC, dI) classes [(h_o, .inr (4, [.ref h_line, .int v_typed, .ref h_fact, .ref h_marked, .int v_count, .ref h_many, .ref h_codes, .int v_oldCount, .ref h_oldMany, .ref h_oldCodes, .int v_read, .ref h_body, .ref h_roundOf, .ref h_fresh, .int v_last])), (h_fact, .inl (k_fact, 32, .inl v_fact)), (h_many, .inl (k_many, 2, .inl v_many)), (h_codes, .inl (k_codes, 6, .inl v_codes)), (h_roundOf, .inl (k_roundOf, 16, .inl v_roundOf)), (h_fresh, .inl (k_fresh, 16, .inl v_fresh))] H → va_D A [(h_o, .inr (4, [.ref h_line, .int v_typed, .ref h_fact, .ref h_marked, .int v_count, .ref h_many, .ref h_codes, .int v_oldCount, .ref h_oldMany, .ref h_oldCodes, .int v_read, .ref h_body, .ref h_roundOf, .ref h_fresh, .int v_last])), (h_fact, .inl (k_fact, 32, .inl v_fact)), (h_many, .inl (k_many, 2, .inl v_many)), (h_codes, .inl (k_codes, 6, .inl v_codes)), (h_roundOf, .inl (k_roundOf, 16, .inl v_roundOf)), (h_fresh, .inl (k_fresh, 16, .inl v_fresh))] → va_S A s.heap H locs → ∀ (ls : Array Slot), lv_has ls 3 [(0, .ref h_o), (1, .int z1), (2, .int z2)] → W p l e (headSpec w_M_work ({ frames := 3, cells := 0, slots := 0, locals := 76 } : Room)).room s m ([.ref h_o] : List Value).toArray below meth c H locs 0 0 Q (F0 m 36 ls [])) (v_last : Int32) (v_roundOf : Nat → Int32) (v_fresh : Nat → Int32) (z1 : Int32) (z2 : Int32) (y0 : Int32), m_M_work_73 v_count v_fact v_many v_codes k_36 v_last v_roundOf v_fresh z1 z2 y0 = some u0 → ∀ (H : Heap) (locs : List Loc), va_P (dC, dI) classes [(h_o, .inr (4, [.ref h_line, .int v_typed, .ref h_fact, .ref h_marked, .int v_count, .ref h_many, .ref h_codes, .int v_oldCount, .ref h_oldMany, .ref h_oldCodes, .int v_read, .ref h_body, .ref h_roundOf, .ref h_fresh, .int v_last])), (h_fact, .inl (k_fact, 32, .inl v_fact)), (h_many, .inl (k_many, 2, .inl v_many)), (h_codes, .inl (k_codes, 6, .inl v_codes)), (h_roundOf, .inl (k_roundOf, 16, .inl v_roundOf)), (h_fresh, .inl (k_fresh, 16, .inl v_fresh))] H → va_D A [(h_o, .inr (4, [.ref h_line, .int v_typed, .ref h_fact, .ref h_marked, .int v_count, .ref h_many, .ref h_codes, .int v_oldCount, .ref h_oldMany, .ref h_oldCodes, .int v_read, .ref h_body, .ref h_roundOf, .ref h_fresh, .int v_last])), (h_fact, .inl (k_fact, 32, .inl v_fact)), (h_many, .inl (k_many, 2, .inl v_many)), (h_codes, .inl (k_codes, 6, .inl v_codes)), (h_roundOf, .inl (k_roundOf, 16, .inl v_roundOf)), (h_fresh, .inl (k_fresh, 16, .inl v_fresh))] → va_S A s.heap H locs → ∀ (ls : Array Slot), lv_has ls 3 [(0, .ref h_o), (1, .int z1), (2, .int z2)] → W p l e (headSpec w_M_work ({ frames := 3, cells := 0, slots := 0, locals := 76 } : Room)).room s m ([.ref h_o] : List Value).toArray below meth c H locs 0 0 Q (F0 m 73 ls [.int y0, .ref h_fresh]) := by
    intro k_36 hk_36 v_last v_roundOf v_fresh z1 z2 y0 h H locs hP hD hS ls hl
    unfold m_M_work_73 at h
    refine lv_iconst (v := (nI 0)) hx hb d_M_work_73 (by decide) ?_
    exact J_74 k_36 hk_36 v_last v_roundOf v_fresh z1 z2 (nI 0) y0 h _ _ hP hD hS ls (lv_sub hl [0, 1, 2] rfl)
  have J_36 : ∀ (k_28 : Int32 → (Nat → Int32) → (Nat → Int32) → Int32 → Option (Int32 × (Nat → Int32) × (Nat → Int32))) (hk_28 : ∀ (v_last : Int32) (v_roundOf : Nat → Int32) (v_fresh : Nat → Int32) (z1 : Int32), k_28 v_last v_roundOf v_fresh z1 = some u0 → ∀ (H : Heap) (locs : List Loc), va_P (dC, dI) classes [(h_o, .inr (4, [.ref h_line, .int v_typed, .ref h_fact, .ref h_marked, .int v_count, .ref h_many, .ref h_codes, .int v_oldCount, .ref h_oldMany, .ref h_oldCodes, .int v_read, .ref h_body, .ref h_roundOf, .ref h_fresh, .int v_last])), (h_fact, .inl (k_fact, 32, .inl v_fact)), (h_many, .inl (k_many, 2, .inl v_many)), (h_codes, .inl (k_codes, 6, .inl v_codes)), (h_roundOf, .inl (k_roundOf, 16, .inl v_roundOf)), (h_fresh, .inl (k_fresh, 16, .inl v_fresh))] H → va_D A [(h_o, .inr (4, [.ref h_line, .int v_typed, .ref h_fact, .ref h_marked, .int v_count, .ref h_many, .ref h_codes, .int v_oldCount, .ref h_oldMany, .ref h_oldCodes, .int v_read, .ref h_body, .ref h_roundOf, .ref h_fresh, .int v_last])), (h_fact, .inl (k_fact, 32, .inl v_fact)), (h_many, .inl (k_many, 2, .inl v_many)), (h_codes, .inl (k_codes, 6, .inl v_codes)), (h_roundOf, .inl (k_roundOf, 16, .inl v_roundOf)), (h_fresh, .inl (k_fresh, 16, .inl v_fresh))] → va_S A s.heap H locs → ∀ (ls : Array Slot), lv_has ls 3 [(0, .ref h_o), (1, .int z1)] → W p l e (headSpec w_M_work ({ frames := 3, cells := 0, slots := 0, locals := 76 } : Room)).room s m ([.ref h_o] : List Value).toArray below meth c H locs 0 0 Q (F0 m 28 ls [])) (n : Nat) (v_last : Int32) (v_roundOf : Nat → Int32) (v_fresh : Nat → Int32) (z1 : Int32) (z2 : Int32), m_M_work_36 v_count v_fact v_many v_codes k_28 n v_last v_roundOf v_fresh z1 z2 = some u0 → ∀ (H : Heap) (locs : List Loc), va_P (dC, dI) classes [(h_o, .inr (4, [.ref h_line, .int v_typed, .ref h_fact, .ref h_marked, .int v_count, .ref h_many, .ref h_codes, .int v_oldCount, .ref h_oldMany, .ref h_oldCodes, .int v_read, .ref h_body, .ref h_roundOf, .ref h_fresh, .int v_last])), (h_fact, .inl (k_fact, 32, .inl v_fact)), (h_many, .inl (k_many, 2, .inl v_many)), (h_codes, .inl (k_codes, 6, .inl v_codes)), (h_roundOf, .inl (k_roundOf, 16, .inl v_roundOf)), (h_fresh, .inl (k_fresh, 16, .inl v_fresh))] H → va_D A [(h_o, .inr (4, [.ref h_line, .int v_typed, .ref h_fact, .ref h_marked, .int v_count, .ref h_many, .ref h_codes, .int v_oldCount, .ref h_oldMany, .ref h_oldCodes, .int v_read, .ref h_body, .ref h_roundOf, .ref h_fresh, .int v_last])), (h_fact, .inl (k_fact, 32, .inl v_fact)), (h_many, .inl (k_many, 2, .inl v_many)), (h_codes, .inl (k_codes, 6, .inl v_codes)), (h_roundOf, .inl (k_roundOf, 16, .inl v_roundOf)), (h_fresh, .inl (k_fresh, 16, .inl v_fresh))] → va_S A s.heap H locs → ∀ (ls : Array Slot), lv_has ls 3 [(0, .ref h_o), (1, .int z1), (2, .int z2)] → W p l e (headSpec w_M_work ({ frames := 3, cells := 0, slots := 0, locals := 76 } : Room)).room s m ([.ref h_o] : List Value).toArray below meth c H locs 0 0 Q (F0 m 36 ls []) := by
    intro k_28 hk_28 n
    induction n with
    | zero => intro v_last v_roundOf v_fresh z1 z2 h; exact absurd h (by unfold m_M_work_36; exact fun h9 => nomatch h9)
    | succ n ih =>
      intro v_last v_roundOf v_fresh z1 z2 h H locs hP hD hS ls hl
      unfold m_M_work_36 at h
      refine lv_iload_n hx hb d_M_work_36 rfl (lv_at hl 2 rfl) ?_
      refine lv_bipush (v := (nI 16)) hx hb d_M_work_37 (by decide) ?_
      refine lv_icmp_ge (tgt := 100) hx hb d_M_work_39 (by decide) (fun c_39 => ?_) (fun c_39 => ?_)
      · have h := of_pos h c_39
        refine lv_aload_n hx hb d_M_work_100 rfl (lv_at hl 0 rfl) ?_
        refine lv_iload_n hx hb d_M_work_101 rfl (lv_at hl 1 rfl) ?_
        refine lv_if_eq (tgt := 114) hx hb d_M_work_102 (by decide) (fun c_102 => ?_) (fun c_102 => ?_)
        · have h := of_pos h c_102
          refine lv_aload_n hx hb d_M_work_114 rfl (lv_at hl 0 rfl) ?_
          refine va_get (D := (dC, dI)) (ci := 4) (v := .int v_last) (C := R_M) (T := F_M) (N := 15) hx hb hts lay_M hown hK hP 0 rfl rfl 14 (by decide) (hts _ flk_M_126) (fun _ h9 => h9) rfl d_M_work_115 ?_
          exact J_118 k_28 hk_28 v_last v_roundOf v_fresh z1 v_last h _ _ hP hD hS ls (lv_sub hl [0, 1] rfl)
        · have h := of_neg h c_102
          refine lv_aload_n hx hb d_M_work_105 rfl (lv_at hl 0 rfl) ?_
          refine va_get (D := (dC, dI)) (ci := 4) (v := .int v_last) (C := R_M) (T := F_M) (N := 15) hx hb hts lay_M hown hK hP 0 rfl rfl 14 (by decide) (hts _ flk_M_126) (fun _ h9 => h9) rfl d_M_work_106 ?_
          refine lv_iconst (v := (nI 1)) hx hb d_M_work_109 (by decide) ?_
          refine lv_iadd hx hb d_M_work_110 ?_
          refine lv_goto (tgt := 118) hx hb d_M_work_111 (by decide) ?_
          exact J_118 k_28 hk_28 v_last v_roundOf v_fresh z1 (v_last + (nI 1)) h _ _ hP hD hS ls (lv_sub hl [0, 1] rfl)
      · have h := of_neg h c_39
        refine lv_aload_n hx hb d_M_work_42 rfl (lv_at hl 0 rfl) ?_
        refine va_get (D := (dC, dI)) (ci := 4) (v := .ref h_fresh) (C := R_M) (T := F_M) (N := 15) hx hb hts lay_M hown hK hP 0 rfl rfl 13 (by decide) (hts _ flk_M_38) (fun _ h9 => h9) rfl d_M_work_43 ?_
        refine lv_iload_n hx hb d_M_work_46 rfl (lv_at hl 2 rfl) ?_
        refine lv_aload_n hx hb d_M_work_47 rfl (lv_at hl 0 rfl) ?_
        refine va_get (D := (dC, dI)) (ci := 4) (v := .ref h_roundOf) (C := R_M) (T := F_M) (N := 15) hx hb hts lay_M hown hK hP 0 rfl rfl 12 (by decide) (hts _ flk_M_35) (fun _ h9 => h9) rfl d_M_work_48 ?_
        refine lv_iload_n hx hb d_M_work_51 rfl (lv_at hl 2 rfl) ?_
        obtain ⟨g_52, h⟩ := of_guard h
        refine va_iald hx hb hK hP 4 3 rfl rfl (inR_in g_52) d_M_work_52 ?_
        refine lv_if_ne (tgt := 73) hx hb d_M_work_53 (by decide) (fun c_53 => ?_) (fun c_53 => ?_)
        · have h := of_neg h c_53
          exact J_73 (m_M_work_36 v_count v_fact v_many v_codes k_28 n) ih v_last v_roundOf v_fresh z1 z2 z2 h _ _ hP hD hS ls (lv_sub hl [0, 1, 2] rfl)
        · have h := of_pos h c_53
          refine lv_aload_n hx hb d_M_work_56 rfl (lv_at hl 0 rfl) ?_
          refine lv_iload_n hx hb d_M_work_57 rfl (lv_at hl 2 rfl) ?_
          refine lv_iconst (v := (nI 4)) hx hb d_M_work_58 (by decide) ?_
          refine lv_idiv hx hb d_M_work_59 (by decide) ?_
          refine lv_iload_n hx hb d_M_work_60 rfl (lv_at hl 2 rfl) ?_
          refine lv_iconst (v := (nI 4)) hx hb d_M_work_61 (by decide) ?_
          refine lv_irem hx hb d_M_work_62 (by decide) ?_
          have hPc := hP.sub (ws' := [(h_o, .inr (4, [.ref h_line, .int v_typed, .ref h_fact, .ref h_marked, .int v_count, .ref h_many, .ref h_codes, .int v_oldCount, .ref h_oldMany, .ref h_oldCodes, .int v_read, .ref h_body, .ref h_roundOf, .ref h_fresh, .int v_last])), (h_fact, .inl (k_fact, 32, .inl v_fact)), (h_many, .inl (k_many, 2, .inl v_many)), (h_codes, .inl (k_codes, 6, .inl v_codes)), (h_roundOf, .inl (k_roundOf, 16, .inl v_roundOf))]) [0, 1, 2, 3, 4] rfl
          have hDc := hD.sub (ws' := [(h_o, .inr (4, [.ref h_line, .int v_typed, .ref h_fact, .ref h_marked, .int v_count, .ref h_many, .ref h_codes, .int v_oldCount, .ref h_oldMany, .ref h_oldCodes, .int v_read, .ref h_body, .ref h_roundOf, .ref h_fresh, .int v_last])), (h_fact, .inl (k_fact, 32, .inl v_fact)), (h_many, .inl (k_many, 2, .inl v_many)), (h_codes, .inl (k_codes, 6, .inl v_codes)), (h_roundOf, .inl (k_roundOf, 16, .inl v_roundOf))]) [0, 1, 2, 3, 4] (by decide) rfl
          have hKc := hK.sub (tys' := [(k_fact, .boolean), (k_many, .int), (k_codes, .int), (k_roundOf, .int)]) [0, 1, 2, 3] rfl
          have hFc := va_free (wc := [(h_o, .inr (4, [.ref h_line, .int v_typed, .ref h_fact, .ref h_marked, .int v_count, .ref h_many, .ref h_codes, .int v_oldCount, .ref h_oldMany, .ref h_oldCodes, .int v_read, .ref h_body, .ref h_roundOf, .ref h_fresh, .int v_last])), (h_fact, .inl (k_fact, 32, .inl v_fact)), (h_many, .inl (k_many, 2, .inl v_many)), (h_codes, .inl (k_codes, 6, .inl v_codes)), (h_roundOf, .inl (k_roundOf, 16, .inl v_roundOf))]) hD hS hA [0, 1, 2, 3, 4] rfl
          obtain ⟨v_63, hc_63, h⟩ := of_bind h
          refine va_calli (va_runV (As := [.int (z2 / (nI 4)), .int (irm z2 (nI 4))]) (rest := [.int z2, .ref h_fresh]) ⟨hx, hb, hml, hown, hts⟩ (c_M_follows l dC dI h_o h_line h_fact h_marked h_many h_codes h_oldMany h_oldCodes h_body h_roundOf h_fresh k_fact k_many k_codes k_roundOf H.size v_typed v_count v_oldCount v_read v_last v_fact v_many v_codes v_roundOf (z2 / (nI 4)) (irm z2 (nI 4)) v_63.1 v_63.2 hc_63) (cwV 2 hts (gV mlk_M_129 ins_M_follows sel_M_follows ini_M cod_M_follows) rfl rfl rfl (by decide +kernel) ⟨Nat.le_of_ble_eq_true rfl, Nat.le_of_ble_eq_true rfl⟩) ⟨fun a U g mk q => by obtain ⟨q0, q1, qP, qK, qD⟩ := q; exact ⟨q0, q1, qP, va_K.moved (u := U) (U := U.calling g mk a) (Vm.Alike.refl U.vm) qK, qD⟩, va_recv hKc hPc (ci := 4) (q0 := 0) rfl rfl, fun U hU hW => ⟨rfl, by rw [hU], by rw [hU]; exact hPc, va_K.moved hW.alike hKc, hDc.weaken (fun _ _ _ _ => trivial)⟩⟩ rfl rfl hl.1 rfl (lv_room (Nat.le_of_ble_eq_true rfl)) d_M_work_63 ⟨Nat.le_of_ble_eq_true rfl, Nat.le_of_ble_eq_true rfl⟩) hS (fun q _ h9 => hFc q h9) hFc (fun r_63 u t H1 locs ht hvm hw hB hz1 hk1 hS => ?_)
          obtain ⟨rfl, rfl⟩ := hw
          obtain ⟨hP1, hK1, hD1⟩ := hB
          rw [ht] at hP1
          obtain ⟨hP, hD⟩ := va_join (wr := [(h_fresh, .inl (k_fresh, 16, .inl v_fresh))]) (w1 := [(h_o, .inr (4, [.ref h_line, .int v_typed, .ref h_fact, .ref h_marked, .int v_count, .ref h_many, .ref h_codes, .int v_oldCount, .ref h_oldMany, .ref h_oldCodes, .int v_read, .ref h_body, .ref h_roundOf, .ref h_fresh, .int v_last])), (h_fact, .inl (k_fact, 32, .inl v_fact)), (h_many, .inl (k_many, 2, .inl v_many)), (h_codes, .inl (k_codes, 6, .inl v_codes)), (h_roundOf, .inl (k_roundOf, 16, .inl v_roundOf))]) hP hD [0, 1, 2, 3, 4] [5] rfl rfl (by decide) (by decide) hk1 hFc hP1 hD1
          have hP := hP.sub (ws' := [(h_o, .inr (4, [.ref h_line, .int v_typed, .ref h_fact, .ref h_marked, .int v_count, .ref h_many, .ref h_codes, .int v_oldCount, .ref h_oldMany, .ref h_oldCodes, .int v_read, .ref h_body, .ref h_roundOf, .ref h_fresh, .int v_last])), (h_fact, .inl (k_fact, 32, .inl v_fact)), (h_many, .inl (k_many, 2, .inl v_many)), (h_codes, .inl (k_codes, 6, .inl v_codes)), (h_roundOf, .inl (k_roundOf, 16, .inl v_roundOf)), (h_fresh, .inl (k_fresh, 16, .inl v_fresh))]) [1, 2, 3, 4, 5, 0] rfl
          have hD := hD.sub (ws' := [(h_o, .inr (4, [.ref h_line, .int v_typed, .ref h_fact, .ref h_marked, .int v_count, .ref h_many, .ref h_codes, .int v_oldCount, .ref h_oldMany, .ref h_oldCodes, .int v_read, .ref h_body, .ref h_roundOf, .ref h_fresh, .int v_last])), (h_fact, .inl (k_fact, 32, .inl v_fact)), (h_many, .inl (k_many, 2, .inl v_many)), (h_codes, .inl (k_codes, 6, .inl v_codes)), (h_roundOf, .inl (k_roundOf, 16, .inl v_roundOf)), (h_fresh, .inl (k_fresh, 16, .inl v_fresh))]) [1, 2, 3, 4, 5, 0] (by decide) rfl
          generalize H1 = H at hP hS ⊢
          refine lv_if_eq (tgt := 73) hx hb d_M_work_66 (by decide) (fun c_66 => ?_) (fun c_66 => ?_)
          · have h := of_pos h c_66
            exact J_73 (m_M_work_36 v_count v_fact v_many v_codes k_28 n) ih v_last v_roundOf v_fresh z1 z2 z2 h _ _ hP hD hS ls (lv_sub hl [0, 1, 2] rfl)
          · have h := of_neg h c_66
            refine lv_iconst (v := (nI 1)) hx hb d_M_work_69 (by decide) ?_
            refine lv_goto (tgt := 74) hx hb d_M_work_70 (by decide) ?_
            exact J_74 (m_M_work_36 v_count v_fact v_many v_codes k_28 n) ih v_last v_roundOf v_fresh z1 z2 (nI 1) z2 h _ _ hP hD hS ls (lv_sub hl [0, 1, 2] rfl)
  have J_28 : ∀ (n : Nat) (v_last : Int32) (v_roundOf : Nat → Int32) (v_fresh : Nat → Int32) (z1 : Int32), m_M_work_28 v_count v_fact v_many v_codes n v_last v_roundOf v_fresh z1 = some u0 → ∀ (H : Heap) (locs : List Loc), va_P (dC, dI) classes [(h_o, .inr (4, [.ref h_line, .int v_typed, .ref h_fact, .ref h_marked, .int v_count, .ref h_many, .ref h_codes, .int v_oldCount, .ref h_oldMany, .ref h_oldCodes, .int v_read, .ref h_body, .ref h_roundOf, .ref h_fresh, .int v_last])), (h_fact, .inl (k_fact, 32, .inl v_fact)), (h_many, .inl (k_many, 2, .inl v_many)), (h_codes, .inl (k_codes, 6, .inl v_codes)), (h_roundOf, .inl (k_roundOf, 16, .inl v_roundOf)), (h_fresh, .inl (k_fresh, 16, .inl v_fresh))] H → va_D A [(h_o, .inr (4, [.ref h_line, .int v_typed, .ref h_fact, .ref h_marked, .int v_count, .ref h_many, .ref h_codes, .int v_oldCount, .ref h_oldMany, .ref h_oldCodes, .int v_read, .ref h_body, .ref h_roundOf, .ref h_fresh, .int v_last])), (h_fact, .inl (k_fact, 32, .inl v_fact)), (h_many, .inl (k_many, 2, .inl v_many)), (h_codes, .inl (k_codes, 6, .inl v_codes)), (h_roundOf, .inl (k_roundOf, 16, .inl v_roundOf)), (h_fresh, .inl (k_fresh, 16, .inl v_fresh))] → va_S A s.heap H locs → ∀ (ls : Array Slot), lv_has ls 3 [(0, .ref h_o), (1, .int z1)] → W p l e (headSpec w_M_work ({ frames := 3, cells := 0, slots := 0, locals := 76 } : Room)).room s m ([.ref h_o] : List Value).toArray below meth c H locs 0 0 Q (F0 m 28 ls []) := by
    intro n
    induction n with
    | zero => intro v_last v_roundOf v_fresh z1 h; exact absurd h (by unfold m_M_work_28; exact fun h9 => nomatch h9)
    | succ n ih =>
      intro v_last v_roundOf v_fresh z1 h H locs hP hD hS ls hl
      unfold m_M_work_28 at h
      refine lv_iload_n hx hb d_M_work_28 rfl (lv_at hl 1 rfl) ?_
      refine lv_if_eq (tgt := 166) hx hb d_M_work_29 (by decide) (fun c_29 => ?_) (fun c_29 => ?_)
      · have h := of_pos h c_29
        rw [hQ]
        exact W.vret hx hb hr (fun t ht hW => ⟨⟨(v_last, v_roundOf, v_fresh), rfl, Option.some.inj h, by rw [ht]; exact hP, va_K.moved hW.alike hK, hD⟩, hS.F ht⟩) hS.2.2 d_M_work_166
      · have h := of_neg h c_29
        refine lv_iconst (v := (nI 0)) hx hb d_M_work_32 (by decide) ?_
        refine lv_istore_n (lv' := [(1, .int (nI 0)), (0, .ref h_o)]) hx hb d_M_work_33 rfl hl (by decide) rfl (fun ls hl => ?_)
        refine lv_iconst (v := (nI 0)) hx hb d_M_work_34 (by decide) ?_
        refine lv_istore_n (lv' := [(2, .int (nI 0)), (1, .int (nI 0)), (0, .ref h_o)]) hx hb d_M_work_35 rfl hl (by decide) rfl (fun ls hl => ?_)
        exact J_36 (m_M_work_28 v_count v_fact v_many v_codes n) ih 40 v_last v_roundOf v_fresh (nI 0) (nI 0) h _ _ hP hD hS ls (lv_sub hl [2, 1, 0] rfl)
  have J_2 : ∀ (n : Nat) (v_last : Int32) (v_roundOf : Nat → Int32) (v_fresh : Nat → Int32) (z1 : Int32), m_M_work_2 v_count v_fact v_many v_codes n v_last v_roundOf v_fresh z1 = some u0 → ∀ (H : Heap) (locs : List Loc), va_P (dC, dI) classes [(h_o, .inr (4, [.ref h_line, .int v_typed, .ref h_fact, .ref h_marked, .int v_count, .ref h_many, .ref h_codes, .int v_oldCount, .ref h_oldMany, .ref h_oldCodes, .int v_read, .ref h_body, .ref h_roundOf, .ref h_fresh, .int v_last])), (h_fact, .inl (k_fact, 32, .inl v_fact)), (h_many, .inl (k_many, 2, .inl v_many)), (h_codes, .inl (k_codes, 6, .inl v_codes)), (h_roundOf, .inl (k_roundOf, 16, .inl v_roundOf)), (h_fresh, .inl (k_fresh, 16, .inl v_fresh))] H → va_D A [(h_o, .inr (4, [.ref h_line, .int v_typed, .ref h_fact, .ref h_marked, .int v_count, .ref h_many, .ref h_codes, .int v_oldCount, .ref h_oldMany, .ref h_oldCodes, .int v_read, .ref h_body, .ref h_roundOf, .ref h_fresh, .int v_last])), (h_fact, .inl (k_fact, 32, .inl v_fact)), (h_many, .inl (k_many, 2, .inl v_many)), (h_codes, .inl (k_codes, 6, .inl v_codes)), (h_roundOf, .inl (k_roundOf, 16, .inl v_roundOf)), (h_fresh, .inl (k_fresh, 16, .inl v_fresh))] → va_S A s.heap H locs → ∀ (ls : Array Slot), lv_has ls 3 [(0, .ref h_o), (1, .int z1)] → W p l e (headSpec w_M_work ({ frames := 3, cells := 0, slots := 0, locals := 76 } : Room)).room s m ([.ref h_o] : List Value).toArray below meth c H locs 0 0 Q (F0 m 2 ls []) := by
    intro n
    induction n with
    | zero => intro v_last v_roundOf v_fresh z1 h; exact absurd h (by unfold m_M_work_2; exact fun h9 => nomatch h9)
    | succ n ih =>
      intro v_last v_roundOf v_fresh z1 h H locs hP hD hS ls hl
      unfold m_M_work_2 at h
      refine lv_iload_n hx hb d_M_work_2 rfl (lv_at hl 1 rfl) ?_
      refine lv_bipush (v := (nI 16)) hx hb d_M_work_3 (by decide) ?_
      refine lv_icmp_ge (tgt := 21) hx hb d_M_work_5 (by decide) (fun c_5 => ?_) (fun c_5 => ?_)
      · have h := of_pos h c_5
        refine lv_aload_n hx hb d_M_work_21 rfl (lv_at hl 0 rfl) ?_
        refine lv_iconst (v := (nI 0)) hx hb d_M_work_22 (by decide) ?_
        refine va_put (D := (dC, dI)) (ci := 4) (v := .int (nI 0)) (ty := .int) (C := R_M) (T := F_M) (N := 15) hx hb hts lay_M t_M t_M_ok n_M hown hK hP hD hS 0 rfl rfl 14 (by decide) (hts _ flk_M_126) (fun _ h9 => h9) rfl (by decide +kernel) rfl rfl (Nat.le_of_ble_eq_true rfl) d_M_work_23 (fun H locs hP hD hS => ?_)
        have hP : va_P (dC, dI) classes [(h_o, .inr (4, [.ref h_line, .int v_typed, .ref h_fact, .ref h_marked, .int v_count, .ref h_many, .ref h_codes, .int v_oldCount, .ref h_oldMany, .ref h_oldCodes, .int v_read, .ref h_body, .ref h_roundOf, .ref h_fresh, .int (nI 0)])), (h_fact, .inl (k_fact, 32, .inl v_fact)), (h_many, .inl (k_many, 2, .inl v_many)), (h_codes, .inl (k_codes, 6, .inl v_codes)), (h_roundOf, .inl (k_roundOf, 16, .inl v_roundOf)), (h_fresh, .inl (k_fresh, 16, .inl v_fresh))] H := hP
        have hD : va_D A [(h_o, .inr (4, [.ref h_line, .int v_typed, .ref h_fact, .ref h_marked, .int v_count, .ref h_many, .ref h_codes, .int v_oldCount, .ref h_oldMany, .ref h_oldCodes, .int v_read, .ref h_body, .ref h_roundOf, .ref h_fresh, .int (nI 0)])), (h_fact, .inl (k_fact, 32, .inl v_fact)), (h_many, .inl (k_many, 2, .inl v_many)), (h_codes, .inl (k_codes, 6, .inl v_codes)), (h_roundOf, .inl (k_roundOf, 16, .inl v_roundOf)), (h_fresh, .inl (k_fresh, 16, .inl v_fresh))] := hD
        refine lv_iconst (v := (nI 1)) hx hb d_M_work_26 (by decide) ?_
        refine lv_istore_n (lv' := [(1, .int (nI 1)), (0, .ref h_o)]) hx hb d_M_work_27 rfl hl (by decide) rfl (fun ls hl => ?_)
        exact J_28 40 (nI 0) v_roundOf v_fresh (nI 1) h _ _ hP hD hS ls (lv_sub hl [1, 0] rfl)
      · have h := of_neg h c_5
        refine lv_aload_n hx hb d_M_work_8 rfl (lv_at hl 0 rfl) ?_
        refine va_get (D := (dC, dI)) (ci := 4) (v := .ref h_roundOf) (C := R_M) (T := F_M) (N := 15) hx hb hts lay_M hown hK hP 0 rfl rfl 12 (by decide) (hts _ flk_M_35) (fun _ h9 => h9) rfl d_M_work_9 ?_
        refine lv_iload_n hx hb d_M_work_12 rfl (lv_at hl 1 rfl) ?_
        refine lv_iconst (v := (nI 0)) hx hb d_M_work_13 (by decide) ?_
        obtain ⟨g_14, h⟩ := of_guard h
        refine va_iast hx hb hK hP hD hS 4 3 rfl rfl (inR_in g_14) d_M_work_14 (fun H locs hP hD hS => ?_)
        have hP : va_P (dC, dI) classes [(h_o, .inr (4, [.ref h_line, .int v_typed, .ref h_fact, .ref h_marked, .int v_count, .ref h_many, .ref h_codes, .int v_oldCount, .ref h_oldMany, .ref h_oldCodes, .int v_read, .ref h_body, .ref h_roundOf, .ref h_fresh, .int v_last])), (h_fact, .inl (k_fact, 32, .inl v_fact)), (h_many, .inl (k_many, 2, .inl v_many)), (h_codes, .inl (k_codes, 6, .inl v_codes)), (h_roundOf, .inl (k_roundOf, 16, .inl (upd v_roundOf z1.toNatClampNeg (nI 0)))), (h_fresh, .inl (k_fresh, 16, .inl v_fresh))] H := hP
        have hD : va_D A [(h_o, .inr (4, [.ref h_line, .int v_typed, .ref h_fact, .ref h_marked, .int v_count, .ref h_many, .ref h_codes, .int v_oldCount, .ref h_oldMany, .ref h_oldCodes, .int v_read, .ref h_body, .ref h_roundOf, .ref h_fresh, .int v_last])), (h_fact, .inl (k_fact, 32, .inl v_fact)), (h_many, .inl (k_many, 2, .inl v_many)), (h_codes, .inl (k_codes, 6, .inl v_codes)), (h_roundOf, .inl (k_roundOf, 16, .inl (upd v_roundOf z1.toNatClampNeg (nI 0)))), (h_fresh, .inl (k_fresh, 16, .inl v_fresh))] := hD
        refine lv_iinc (v := z1 + (nI 1)) (lv' := [(1, .int (z1 + (nI 1))), (0, .ref h_o)]) hx hb d_M_work_15 hl (k := 1) rfl rfl (by decide) rfl (fun ls hl => ?_)
        refine lv_goto (tgt := 2) hx hb d_M_work_18 (by decide) ?_
        exact ih v_last (upd v_roundOf z1.toNatClampNeg (nI 0)) v_fresh (z1 + (nI 1)) h _ _ hP hD hS ls (lv_sub hl [1, 0] rfl)
  unfold m_M_work at h
  refine lv_iconst (v := (nI 0)) hx hb d_M_work_0 (by decide) ?_
  refine lv_istore_n (lv' := [(1, .int (nI 0)), (0, .ref h_o)]) hx hb d_M_work_1 rfl hl (by decide) rfl (fun ls hl => ?_)
  exact J_2 40 v_last v_roundOf v_fresh (nI 0) h _ _ hP hD hS ls (lv_sub hl [1, 0] rfl)
set_option maxHeartbeats 1000000 in
set_option maxRecDepth 100000 in
theorem c_M_given (l : Launch) (dC : Nat → ClassId) (dI : Nat → Nat → Nat) (h_o h_line h_fact h_marked h_many h_codes h_oldMany h_oldCodes h_body h_roundOf h_fresh : Nat) (k_fact k_many k_codes k_roundOf k_fresh : ClassId) (sz : Nat) (v_typed : Int32) (v_count : Int32) (v_oldCount : Int32) (v_read : Int32) (v_last : Int32) (v_fact : Nat → Int32) (v_many : Nat → Int32) (v_codes : Nat → Int32) (v_roundOf : Nat → Int32) (v_fresh : Nat → Int32) (x1 : Int32) (x2 : Int32) (r0 : Int32) (u0 : Int32 × (Nat → Int32) × (Nat → Int32)) (h : m_M_given v_count v_last v_fact v_many v_codes v_roundOf v_fresh x1 x2 = some (r0, u0)) : Met l y_M_given w_M_given ({ frames := 4, cells := 0, slots := 0, locals := 98 } : Room) (va_Pc [.ref h_o, .int x1, .int x2] (fun U => U.heap.size = sz ∧ va_P (dC, dI) classes [(h_o, .inr (4, [.ref h_line, .int v_typed, .ref h_fact, .ref h_marked, .int v_count, .ref h_many, .ref h_codes, .int v_oldCount, .ref h_oldMany, .ref h_oldCodes, .int v_read, .ref h_body, .ref h_roundOf, .ref h_fresh, .int v_last])), (h_fact, .inl (k_fact, 32, .inl v_fact)), (h_many, .inl (k_many, 2, .inl v_many)), (h_codes, .inl (k_codes, 6, .inl v_codes)), (h_roundOf, .inl (k_roundOf, 16, .inl v_roundOf)), (h_fresh, .inl (k_fresh, 16, .inl v_fresh))] U.heap ∧ va_K (dC, dI) classes [(k_fact, .boolean), (k_many, .int), (k_codes, .int), (k_roundOf, .int), (k_fresh, .boolean)] U ∧ va_D (fun _ => True) [(h_o, .inr (4, [.ref h_line, .int v_typed, .ref h_fact, .ref h_marked, .int v_count, .ref h_many, .ref h_codes, .int v_oldCount, .ref h_oldMany, .ref h_oldCodes, .int v_read, .ref h_body, .ref h_roundOf, .ref h_fresh, .int v_last])), (h_fact, .inl (k_fact, 32, .inl v_fact)), (h_many, .inl (k_many, 2, .inl v_many)), (h_codes, .inl (k_codes, 6, .inl v_codes)), (h_roundOf, .inl (k_roundOf, 16, .inl v_roundOf)), (h_fresh, .inl (k_fresh, 16, .inl v_fresh))])) (va_Qi (fun (r : Int32) (u : Int32 × (Nat → Int32) × (Nat → Int32)) => r = r0 ∧ u = u0) (fun (u : Int32 × (Nat → Int32) × (Nat → Int32)) (t : State) => va_P (dC, dI) classes [(h_o, .inr (4, [.ref h_line, .int v_typed, .ref h_fact, .ref h_marked, .int v_count, .ref h_many, .ref h_codes, .int v_oldCount, .ref h_oldMany, .ref h_oldCodes, .int v_read, .ref h_body, .ref h_roundOf, .ref h_fresh, .int u.1])), (h_fact, .inl (k_fact, 32, .inl v_fact)), (h_many, .inl (k_many, 2, .inl v_many)), (h_codes, .inl (k_codes, 6, .inl v_codes)), (h_roundOf, .inl (k_roundOf, 16, .inl u.2.1)), (h_fresh, .inl (k_fresh, 16, .inl u.2.2))] t.heap ∧ va_K (dC, dI) classes [(k_fact, .boolean), (k_many, .int), (k_codes, .int), (k_roundOf, .int), (k_fresh, .boolean)] t ∧ va_D (va_A [(h_o, .inr (4, [.ref h_line, .int v_typed, .ref h_fact, .ref h_marked, .int v_count, .ref h_many, .ref h_codes, .int v_oldCount, .ref h_oldMany, .ref h_oldCodes, .int v_read, .ref h_body, .ref h_roundOf, .ref h_fresh, .int v_last])), (h_fact, .inl (k_fact, 32, .inl v_fact)), (h_many, .inl (k_many, 2, .inl v_many)), (h_codes, .inl (k_codes, 6, .inl v_codes)), (h_roundOf, .inl (k_roundOf, 16, .inl v_roundOf)), (h_fresh, .inl (k_fresh, 16, .inl v_fresh))] sz) [(h_o, .inr (4, [.ref h_line, .int v_typed, .ref h_fact, .ref h_marked, .int v_count, .ref h_many, .ref h_codes, .int v_oldCount, .ref h_oldMany, .ref h_oldCodes, .int v_read, .ref h_body, .ref h_roundOf, .ref h_fresh, .int u.1])), (h_fact, .inl (k_fact, 32, .inl v_fact)), (h_many, .inl (k_many, 2, .inl v_many)), (h_codes, .inl (k_codes, 6, .inl v_codes)), (h_roundOf, .inl (k_roundOf, 16, .inl u.2.1)), (h_fresh, .inl (k_fresh, 16, .inl u.2.2))]) (va_A [(h_o, .inr (4, [.ref h_line, .int v_typed, .ref h_fact, .ref h_marked, .int v_count, .ref h_many, .ref h_codes, .int v_oldCount, .ref h_oldMany, .ref h_oldCodes, .int v_read, .ref h_body, .ref h_roundOf, .ref h_fresh, .int v_last])), (h_fact, .inl (k_fact, 32, .inl v_fact)), (h_many, .inl (k_many, 2, .inl v_many)), (h_codes, .inl (k_codes, 6, .inl v_codes)), (h_roundOf, .inl (k_roundOf, 16, .inl v_roundOf)), (h_fresh, .inl (k_fresh, 16, .inl v_fresh))] sz)) 0 0 (va_A [(h_o, .inr (4, [.ref h_line, .int v_typed, .ref h_fact, .ref h_marked, .int v_count, .ref h_many, .ref h_codes, .int v_oldCount, .ref h_oldMany, .ref h_oldCodes, .int v_read, .ref h_body, .ref h_roundOf, .ref h_fresh, .int v_last])), (h_fact, .inl (k_fact, 32, .inl v_fact)), (h_many, .inl (k_many, 2, .inl v_many)), (h_codes, .inl (k_codes, 6, .inl v_codes)), (h_roundOf, .inl (k_roundOf, 16, .inl v_roundOf)), (h_fresh, .inl (k_fresh, 16, .inl v_fresh))] sz) := by
  refine Met.ofW (cc := b_M_given) (maxL := 3) (ret := (some .int)) (by decide) rfl ?_
  intro p e s m args below meth c s₁ B hml hv
  obtain ⟨rfl, hsz, hP, hK, hD0⟩ := hv
  have hx := B.exec
  have hb := B.bytes
  have hr := B.returns
  have hts0 := atoms_spec (ws := w_M_given) B.pre
  have hts : ∀ w ∈ lw_gd, w.before ([.ref h_o, .int x1, .int x2] : List Value).toArray s = true := fun w h9 => hts0 w (List.mem_cons_of_mem _ h9)
  have hown : s.vm.findClass R_M = some m.cls := findClass_of_methodNamed B.named
  have hlocks := B.notSynchronized
  subst hsz
  have hD := hD0.self (sz := s.heap.size)
  generalize hAe : va_A [(h_o, .inr (4, [.ref h_line, .int v_typed, .ref h_fact, .ref h_marked, .int v_count, .ref h_many, .ref h_codes, .int v_oldCount, .ref h_oldMany, .ref h_oldCodes, .int v_read, .ref h_body, .ref h_roundOf, .ref h_fresh, .int v_last])), (h_fact, .inl (k_fact, 32, .inl v_fact)), (h_many, .inl (k_many, 2, .inl v_many)), (h_codes, .inl (k_codes, 6, .inl v_codes)), (h_roundOf, .inl (k_roundOf, 16, .inl v_roundOf)), (h_fresh, .inl (k_fresh, 16, .inl v_fresh))] s.heap.size = A at hD ⊢
  have hA : ∀ q : Nat, s.heap.size ≤ q → A q := fun q h9 => by rw [← hAe]; exact Or.inr h9
  obtain ⟨H, eH⟩ : ∃ H : Heap, H = s.heap := ⟨_, rfl⟩
  have hS : va_S A s.heap H [] := by rw [eH]; exact va_S.rf
  have hP : va_P (dC, dI) classes [(h_o, .inr (4, [.ref h_line, .int v_typed, .ref h_fact, .ref h_marked, .int v_count, .ref h_many, .ref h_codes, .int v_oldCount, .ref h_oldMany, .ref h_oldCodes, .int v_read, .ref h_body, .ref h_roundOf, .ref h_fresh, .int v_last])), (h_fact, .inl (k_fact, 32, .inl v_fact)), (h_many, .inl (k_many, 2, .inl v_many)), (h_codes, .inl (k_codes, 6, .inl v_codes)), (h_roundOf, .inl (k_roundOf, 16, .inl v_roundOf)), (h_fresh, .inl (k_fresh, 16, .inl v_fresh))] H := by rw [eH]; exact hP
  refine W_gen (fun Q hQ => ?_)
  refine W_heap eH ?_
  clear eH
  have hl := lv_entry ([.ref h_o, .int x1, .int x2]) (n := 3) (Nat.le_of_ble_eq_true rfl)
  rw [lg_entry_eq]
  generalize (lg_sl ([.ref h_o, .int x1, .int x2]) ++ List.replicate (3 - (lg_sl ([.ref h_o, .int x1, .int x2])).length) Slot.unset).toArray = ls at hl ⊢
  have hl : lv_has ls 3 [(0, .ref h_o), (1, .int x1), (2, .int x2)] := hl
  unfold m_M_given at h
  refine lv_aload_n hx hb d_M_given_0 rfl (lv_at hl 0 rfl) ?_
  have hPc := hP.sub (ws' := [(h_o, .inr (4, [.ref h_line, .int v_typed, .ref h_fact, .ref h_marked, .int v_count, .ref h_many, .ref h_codes, .int v_oldCount, .ref h_oldMany, .ref h_oldCodes, .int v_read, .ref h_body, .ref h_roundOf, .ref h_fresh, .int v_last])), (h_fact, .inl (k_fact, 32, .inl v_fact)), (h_many, .inl (k_many, 2, .inl v_many)), (h_codes, .inl (k_codes, 6, .inl v_codes)), (h_roundOf, .inl (k_roundOf, 16, .inl v_roundOf)), (h_fresh, .inl (k_fresh, 16, .inl v_fresh))]) [0, 1, 2, 3, 4, 5] rfl
  have hDc := hD.sub (ws' := [(h_o, .inr (4, [.ref h_line, .int v_typed, .ref h_fact, .ref h_marked, .int v_count, .ref h_many, .ref h_codes, .int v_oldCount, .ref h_oldMany, .ref h_oldCodes, .int v_read, .ref h_body, .ref h_roundOf, .ref h_fresh, .int v_last])), (h_fact, .inl (k_fact, 32, .inl v_fact)), (h_many, .inl (k_many, 2, .inl v_many)), (h_codes, .inl (k_codes, 6, .inl v_codes)), (h_roundOf, .inl (k_roundOf, 16, .inl v_roundOf)), (h_fresh, .inl (k_fresh, 16, .inl v_fresh))]) [0, 1, 2, 3, 4, 5] (by decide) rfl
  have hKc := hK.sub (tys' := [(k_fact, .boolean), (k_many, .int), (k_codes, .int), (k_roundOf, .int), (k_fresh, .boolean)]) [0, 1, 2, 3, 4] rfl
  have hFc := va_free (wc := [(h_o, .inr (4, [.ref h_line, .int v_typed, .ref h_fact, .ref h_marked, .int v_count, .ref h_many, .ref h_codes, .int v_oldCount, .ref h_oldMany, .ref h_oldCodes, .int v_read, .ref h_body, .ref h_roundOf, .ref h_fresh, .int v_last])), (h_fact, .inl (k_fact, 32, .inl v_fact)), (h_many, .inl (k_many, 2, .inl v_many)), (h_codes, .inl (k_codes, 6, .inl v_codes)), (h_roundOf, .inl (k_roundOf, 16, .inl v_roundOf)), (h_fresh, .inl (k_fresh, 16, .inl v_fresh))]) hD hS hA [0, 1, 2, 3, 4, 5] rfl
  obtain ⟨v_1, hc_1, h⟩ := of_bind h
  refine va_callv (va_runV (As := []) (rest := []) ⟨hx, hb, hml, hown, hts⟩ (c_M_work l dC dI h_o h_line h_fact h_marked h_many h_codes h_oldMany h_oldCodes h_body h_roundOf h_fresh k_fact k_many k_codes k_roundOf k_fresh H.size v_typed v_count v_oldCount v_read v_last v_fact v_many v_codes v_roundOf v_fresh  v_1 hc_1) (cwV 0 hts (gV mlk_M_132 ins_M_work sel_M_work ini_M cod_M_work) rfl rfl rfl (by decide +kernel) ⟨Nat.le_of_ble_eq_true rfl, Nat.le_of_ble_eq_true rfl⟩) ⟨fun a U g mk q => by obtain ⟨q0, q1, qP, qK, qD⟩ := q; exact ⟨q0, q1, qP, va_K.moved (u := U) (U := U.calling g mk a) (Vm.Alike.refl U.vm) qK, qD⟩, va_recv hKc hPc (ci := 4) (q0 := 0) rfl rfl, fun U hU hW => ⟨rfl, by rw [hU], by rw [hU]; exact hPc, va_K.moved hW.alike hKc, hDc.weaken (fun _ _ _ _ => trivial)⟩⟩ rfl rfl hl.1 rfl (lv_room (Nat.le_of_ble_eq_true rfl)) d_M_given_1 ⟨Nat.le_of_ble_eq_true rfl, Nat.le_of_ble_eq_true rfl⟩) hS (fun q _ h9 => hFc q h9) hFc (fun u t H1 locs ht hvm hw hB hz1 hk1 hS => ?_)
  obtain rfl := (Eq.symm hw)
  obtain ⟨hP1, hK1, hD1⟩ := hB
  rw [ht] at hP1
  obtain ⟨hP, hD⟩ := va_join (wr := []) (w1 := [(h_o, .inr (4, [.ref h_line, .int v_typed, .ref h_fact, .ref h_marked, .int v_count, .ref h_many, .ref h_codes, .int v_oldCount, .ref h_oldMany, .ref h_oldCodes, .int v_read, .ref h_body, .ref h_roundOf, .ref h_fresh, .int v_1.1])), (h_fact, .inl (k_fact, 32, .inl v_fact)), (h_many, .inl (k_many, 2, .inl v_many)), (h_codes, .inl (k_codes, 6, .inl v_codes)), (h_roundOf, .inl (k_roundOf, 16, .inl v_1.2.1)), (h_fresh, .inl (k_fresh, 16, .inl v_1.2.2))]) hP hD [0, 1, 2, 3, 4, 5] [] rfl rfl (by decide) (by decide) hk1 hFc hP1 hD1
  have hP := hP.sub (ws' := [(h_o, .inr (4, [.ref h_line, .int v_typed, .ref h_fact, .ref h_marked, .int v_count, .ref h_many, .ref h_codes, .int v_oldCount, .ref h_oldMany, .ref h_oldCodes, .int v_read, .ref h_body, .ref h_roundOf, .ref h_fresh, .int v_1.1])), (h_fact, .inl (k_fact, 32, .inl v_fact)), (h_many, .inl (k_many, 2, .inl v_many)), (h_codes, .inl (k_codes, 6, .inl v_codes)), (h_roundOf, .inl (k_roundOf, 16, .inl v_1.2.1)), (h_fresh, .inl (k_fresh, 16, .inl v_1.2.2))]) [0, 1, 2, 3, 4, 5] rfl
  have hD := hD.sub (ws' := [(h_o, .inr (4, [.ref h_line, .int v_typed, .ref h_fact, .ref h_marked, .int v_count, .ref h_many, .ref h_codes, .int v_oldCount, .ref h_oldMany, .ref h_oldCodes, .int v_read, .ref h_body, .ref h_roundOf, .ref h_fresh, .int v_1.1])), (h_fact, .inl (k_fact, 32, .inl v_fact)), (h_many, .inl (k_many, 2, .inl v_many)), (h_codes, .inl (k_codes, 6, .inl v_codes)), (h_roundOf, .inl (k_roundOf, 16, .inl v_1.2.1)), (h_fresh, .inl (k_fresh, 16, .inl v_1.2.2))]) [0, 1, 2, 3, 4, 5] (by decide) rfl
  generalize H1 = H at hP hS ⊢
  refine lv_iload_n hx hb d_M_given_4 rfl (lv_at hl 1 rfl) ?_
  have hPc := hP.sub (ws' := []) [] rfl
  have hDc := hD.sub (ws' := []) [] (by decide) rfl
  have hKc := hK.sub (tys' := []) [] rfl
  have hFc := va_free (wc := []) hD hS hA [] rfl
  obtain ⟨v_5, hc_5, h⟩ := of_bind h
  refine va_calli (va_runS (As := [.int x1]) (rest := []) ⟨hx, hb, hml, hown, hts⟩ (c_M_constant l dC dI H.size x1 v_5.1 v_5.2 hc_5) (va_cwS 1 hts (gS mlk_M_106 sta_M_constant ini_M cod_M_constant) rfl rfl rfl (by decide +kernel) ⟨Nat.le_of_ble_eq_true rfl, Nat.le_of_ble_eq_true rfl⟩) ⟨fun a U g mk q => by obtain ⟨q0, q1, qP, qK, qD⟩ := q; exact ⟨q0, q1, qP, va_K.moved (u := U) (U := U.calling g mk a) (Vm.Alike.refl U.vm) qK, qD⟩, fun U hU hW => ⟨rfl, by rw [hU], by rw [hU]; exact hPc, va_K.moved hW.alike hKc, hDc.weaken (fun _ _ _ _ => trivial)⟩⟩ rfl rfl hl.1 rfl (lv_room (Nat.le_of_ble_eq_true rfl)) d_M_given_5 ⟨Nat.le_of_ble_eq_true rfl, Nat.le_of_ble_eq_true rfl⟩) hS (fun q _ h9 => hFc q h9) hFc (fun r_5 u t H1 locs ht hvm hw hB hz1 hk1 hS => ?_)
  obtain ⟨rfl, rfl⟩ := hw
  obtain ⟨hP1, hK1, hD1⟩ := hB
  rw [ht] at hP1
  obtain ⟨hP, hD⟩ := va_join (wr := [(h_o, .inr (4, [.ref h_line, .int v_typed, .ref h_fact, .ref h_marked, .int v_count, .ref h_many, .ref h_codes, .int v_oldCount, .ref h_oldMany, .ref h_oldCodes, .int v_read, .ref h_body, .ref h_roundOf, .ref h_fresh, .int v_1.1])), (h_fact, .inl (k_fact, 32, .inl v_fact)), (h_many, .inl (k_many, 2, .inl v_many)), (h_codes, .inl (k_codes, 6, .inl v_codes)), (h_roundOf, .inl (k_roundOf, 16, .inl v_1.2.1)), (h_fresh, .inl (k_fresh, 16, .inl v_1.2.2))]) (w1 := []) hP hD [] [0, 1, 2, 3, 4, 5] rfl rfl (by decide) (by decide) hk1 hFc hP1 hD1
  have hP := hP.sub (ws' := [(h_o, .inr (4, [.ref h_line, .int v_typed, .ref h_fact, .ref h_marked, .int v_count, .ref h_many, .ref h_codes, .int v_oldCount, .ref h_oldMany, .ref h_oldCodes, .int v_read, .ref h_body, .ref h_roundOf, .ref h_fresh, .int v_1.1])), (h_fact, .inl (k_fact, 32, .inl v_fact)), (h_many, .inl (k_many, 2, .inl v_many)), (h_codes, .inl (k_codes, 6, .inl v_codes)), (h_roundOf, .inl (k_roundOf, 16, .inl v_1.2.1)), (h_fresh, .inl (k_fresh, 16, .inl v_1.2.2))]) [0, 1, 2, 3, 4, 5] rfl
  have hD := hD.sub (ws' := [(h_o, .inr (4, [.ref h_line, .int v_typed, .ref h_fact, .ref h_marked, .int v_count, .ref h_many, .ref h_codes, .int v_oldCount, .ref h_oldMany, .ref h_oldCodes, .int v_read, .ref h_body, .ref h_roundOf, .ref h_fresh, .int v_1.1])), (h_fact, .inl (k_fact, 32, .inl v_fact)), (h_many, .inl (k_many, 2, .inl v_many)), (h_codes, .inl (k_codes, 6, .inl v_codes)), (h_roundOf, .inl (k_roundOf, 16, .inl v_1.2.1)), (h_fresh, .inl (k_fresh, 16, .inl v_1.2.2))]) [0, 1, 2, 3, 4, 5] (by decide) rfl
  generalize H1 = H at hP hS ⊢
  refine lv_if_eq (tgt := 31) hx hb d_M_given_8 (by decide) (fun c_8 => ?_) (fun c_8 => ?_)
  · have h := of_pos h c_8
    refine lv_iconst (v := (nI 0)) hx hb d_M_given_31 (by decide) ?_
    rw [hQ]
    exact W.iret (v := (nI 0)) hx hb hr (fun t ht hW => ⟨⟨(nI 0), (v_1.1, v_1.2.1, v_1.2.2), rfl, Prod.mk.inj (Option.some.inj h), by rw [ht]; exact hP, va_K.moved hW.alike hK, hD⟩, hS.F ht⟩) hS.2.2 d_M_given_32
  · have h := of_neg h c_8
    refine lv_iload_n hx hb d_M_given_11 rfl (lv_at hl 2 rfl) ?_
    have hPc := hP.sub (ws' := []) [] rfl
    have hDc := hD.sub (ws' := []) [] (by decide) rfl
    have hKc := hK.sub (tys' := []) [] rfl
    have hFc := va_free (wc := []) hD hS hA [] rfl
    obtain ⟨v_12, hc_12, h⟩ := of_bind h
    refine va_calli (va_runS (As := [.int x2]) (rest := []) ⟨hx, hb, hml, hown, hts⟩ (c_M_constant l dC dI H.size x2 v_12.1 v_12.2 hc_12) (va_cwS 1 hts (gS mlk_M_106 sta_M_constant ini_M cod_M_constant) rfl rfl rfl (by decide +kernel) ⟨Nat.le_of_ble_eq_true rfl, Nat.le_of_ble_eq_true rfl⟩) ⟨fun a U g mk q => by obtain ⟨q0, q1, qP, qK, qD⟩ := q; exact ⟨q0, q1, qP, va_K.moved (u := U) (U := U.calling g mk a) (Vm.Alike.refl U.vm) qK, qD⟩, fun U hU hW => ⟨rfl, by rw [hU], by rw [hU]; exact hPc, va_K.moved hW.alike hKc, hDc.weaken (fun _ _ _ _ => trivial)⟩⟩ rfl rfl hl.1 rfl (lv_room (Nat.le_of_ble_eq_true rfl)) d_M_given_12 ⟨Nat.le_of_ble_eq_true rfl, Nat.le_of_ble_eq_true rfl⟩) hS (fun q _ h9 => hFc q h9) hFc (fun r_12 u t H1 locs ht hvm hw hB hz1 hk1 hS => ?_)
    obtain ⟨rfl, rfl⟩ := hw
    obtain ⟨hP1, hK1, hD1⟩ := hB
    rw [ht] at hP1
    obtain ⟨hP, hD⟩ := va_join (wr := [(h_o, .inr (4, [.ref h_line, .int v_typed, .ref h_fact, .ref h_marked, .int v_count, .ref h_many, .ref h_codes, .int v_oldCount, .ref h_oldMany, .ref h_oldCodes, .int v_read, .ref h_body, .ref h_roundOf, .ref h_fresh, .int v_1.1])), (h_fact, .inl (k_fact, 32, .inl v_fact)), (h_many, .inl (k_many, 2, .inl v_many)), (h_codes, .inl (k_codes, 6, .inl v_codes)), (h_roundOf, .inl (k_roundOf, 16, .inl v_1.2.1)), (h_fresh, .inl (k_fresh, 16, .inl v_1.2.2))]) (w1 := []) hP hD [] [0, 1, 2, 3, 4, 5] rfl rfl (by decide) (by decide) hk1 hFc hP1 hD1
    have hP := hP.sub (ws' := [(h_o, .inr (4, [.ref h_line, .int v_typed, .ref h_fact, .ref h_marked, .int v_count, .ref h_many, .ref h_codes, .int v_oldCount, .ref h_oldMany, .ref h_oldCodes, .int v_read, .ref h_body, .ref h_roundOf, .ref h_fresh, .int v_1.1])), (h_fact, .inl (k_fact, 32, .inl v_fact)), (h_many, .inl (k_many, 2, .inl v_many)), (h_codes, .inl (k_codes, 6, .inl v_codes)), (h_roundOf, .inl (k_roundOf, 16, .inl v_1.2.1)), (h_fresh, .inl (k_fresh, 16, .inl v_1.2.2))]) [0, 1, 2, 3, 4, 5] rfl
    have hD := hD.sub (ws' := [(h_o, .inr (4, [.ref h_line, .int v_typed, .ref h_fact, .ref h_marked, .int v_count, .ref h_many, .ref h_codes, .int v_oldCount, .ref h_oldMany, .ref h_oldCodes, .int v_read, .ref h_body, .ref h_roundOf, .ref h_fresh, .int v_1.1])), (h_fact, .inl (k_fact, 32, .inl v_fact)), (h_many, .inl (k_many, 2, .inl v_many)), (h_codes, .inl (k_codes, 6, .inl v_codes)), (h_roundOf, .inl (k_roundOf, 16, .inl v_1.2.1)), (h_fresh, .inl (k_fresh, 16, .inl v_1.2.2))]) [0, 1, 2, 3, 4, 5] (by decide) rfl
    generalize H1 = H at hP hS ⊢
    refine lv_if_eq (tgt := 31) hx hb d_M_given_15 (by decide) (fun c_15 => ?_) (fun c_15 => ?_)
    · have h := of_pos h c_15
      refine lv_iconst (v := (nI 0)) hx hb d_M_given_31 (by decide) ?_
      rw [hQ]
      exact W.iret (v := (nI 0)) hx hb hr (fun t ht hW => ⟨⟨(nI 0), (v_1.1, v_1.2.1, v_1.2.2), rfl, Prod.mk.inj (Option.some.inj h), by rw [ht]; exact hP, va_K.moved hW.alike hK, hD⟩, hS.F ht⟩) hS.2.2 d_M_given_32
    · have h := of_neg h c_15
      refine lv_aload_n hx hb d_M_given_18 rfl (lv_at hl 0 rfl) ?_
      refine va_get (D := (dC, dI)) (ci := 4) (v := .ref h_roundOf) (C := R_M) (T := F_M) (N := 15) hx hb hts lay_M hown hK hP 0 rfl rfl 12 (by decide) (hts _ flk_M_35) (fun _ h9 => h9) rfl d_M_given_19 ?_
      refine lv_iconst (v := (nI 4)) hx hb d_M_given_22 (by decide) ?_
      refine lv_iload_n hx hb d_M_given_23 rfl (lv_at hl 1 rfl) ?_
      refine lv_imul hx hb d_M_given_24 ?_
      refine lv_iload_n hx hb d_M_given_25 rfl (lv_at hl 2 rfl) ?_
      refine lv_iadd hx hb d_M_given_26 ?_
      obtain ⟨g_27, h⟩ := of_guard h
      refine va_iald hx hb hK hP 4 3 rfl rfl (inR_in g_27) d_M_given_27 ?_
      refine lv_goto (tgt := 32) hx hb d_M_given_28 (by decide) ?_
      rw [hQ]
      exact W.iret (v := v_1.2.1 (((nI 4) * x1) + x2).toNatClampNeg) hx hb hr (fun t ht hW => ⟨⟨v_1.2.1 (((nI 4) * x1) + x2).toNatClampNeg, (v_1.1, v_1.2.1, v_1.2.2), rfl, Prod.mk.inj (Option.some.inj h), by rw [ht]; exact hP, va_K.moved hW.alike hK, hD⟩, hS.F ht⟩) hS.2.2 d_M_given_32
set_option maxHeartbeats 1000000 in
set_option maxRecDepth 100000 in
theorem c_M_rounds (l : Launch) (dC : Nat → ClassId) (dI : Nat → Nat → Nat) (h_o h_line h_fact h_marked h_many h_codes h_oldMany h_oldCodes h_body h_roundOf h_fresh : Nat) (k_fact k_many k_codes k_roundOf k_fresh : ClassId) (sz : Nat) (v_typed : Int32) (v_count : Int32) (v_oldCount : Int32) (v_read : Int32) (v_last : Int32) (v_fact : Nat → Int32) (v_many : Nat → Int32) (v_codes : Nat → Int32) (v_roundOf : Nat → Int32) (v_fresh : Nat → Int32) (r0 : Int32) (u0 : Int32 × (Nat → Int32) × (Nat → Int32)) (h : m_M_rounds v_count v_last v_fact v_many v_codes v_roundOf v_fresh = some (r0, u0)) : Met l y_M_rounds w_M_rounds ({ frames := 4, cells := 0, slots := 0, locals := 98 } : Room) (va_Pc [.ref h_o] (fun U => U.heap.size = sz ∧ va_P (dC, dI) classes [(h_o, .inr (4, [.ref h_line, .int v_typed, .ref h_fact, .ref h_marked, .int v_count, .ref h_many, .ref h_codes, .int v_oldCount, .ref h_oldMany, .ref h_oldCodes, .int v_read, .ref h_body, .ref h_roundOf, .ref h_fresh, .int v_last])), (h_fact, .inl (k_fact, 32, .inl v_fact)), (h_many, .inl (k_many, 2, .inl v_many)), (h_codes, .inl (k_codes, 6, .inl v_codes)), (h_roundOf, .inl (k_roundOf, 16, .inl v_roundOf)), (h_fresh, .inl (k_fresh, 16, .inl v_fresh))] U.heap ∧ va_K (dC, dI) classes [(k_fact, .boolean), (k_many, .int), (k_codes, .int), (k_roundOf, .int), (k_fresh, .boolean)] U ∧ va_D (fun _ => True) [(h_o, .inr (4, [.ref h_line, .int v_typed, .ref h_fact, .ref h_marked, .int v_count, .ref h_many, .ref h_codes, .int v_oldCount, .ref h_oldMany, .ref h_oldCodes, .int v_read, .ref h_body, .ref h_roundOf, .ref h_fresh, .int v_last])), (h_fact, .inl (k_fact, 32, .inl v_fact)), (h_many, .inl (k_many, 2, .inl v_many)), (h_codes, .inl (k_codes, 6, .inl v_codes)), (h_roundOf, .inl (k_roundOf, 16, .inl v_roundOf)), (h_fresh, .inl (k_fresh, 16, .inl v_fresh))])) (va_Qi (fun (r : Int32) (u : Int32 × (Nat → Int32) × (Nat → Int32)) => r = r0 ∧ u = u0) (fun (u : Int32 × (Nat → Int32) × (Nat → Int32)) (t : State) => va_P (dC, dI) classes [(h_o, .inr (4, [.ref h_line, .int v_typed, .ref h_fact, .ref h_marked, .int v_count, .ref h_many, .ref h_codes, .int v_oldCount, .ref h_oldMany, .ref h_oldCodes, .int v_read, .ref h_body, .ref h_roundOf, .ref h_fresh, .int u.1])), (h_fact, .inl (k_fact, 32, .inl v_fact)), (h_many, .inl (k_many, 2, .inl v_many)), (h_codes, .inl (k_codes, 6, .inl v_codes)), (h_roundOf, .inl (k_roundOf, 16, .inl u.2.1)), (h_fresh, .inl (k_fresh, 16, .inl u.2.2))] t.heap ∧ va_K (dC, dI) classes [(k_fact, .boolean), (k_many, .int), (k_codes, .int), (k_roundOf, .int), (k_fresh, .boolean)] t ∧ va_D (va_A [(h_o, .inr (4, [.ref h_line, .int v_typed, .ref h_fact, .ref h_marked, .int v_count, .ref h_many, .ref h_codes, .int v_oldCount, .ref h_oldMany, .ref h_oldCodes, .int v_read, .ref h_body, .ref h_roundOf, .ref h_fresh, .int v_last])), (h_fact, .inl (k_fact, 32, .inl v_fact)), (h_many, .inl (k_many, 2, .inl v_many)), (h_codes, .inl (k_codes, 6, .inl v_codes)), (h_roundOf, .inl (k_roundOf, 16, .inl v_roundOf)), (h_fresh, .inl (k_fresh, 16, .inl v_fresh))] sz) [(h_o, .inr (4, [.ref h_line, .int v_typed, .ref h_fact, .ref h_marked, .int v_count, .ref h_many, .ref h_codes, .int v_oldCount, .ref h_oldMany, .ref h_oldCodes, .int v_read, .ref h_body, .ref h_roundOf, .ref h_fresh, .int u.1])), (h_fact, .inl (k_fact, 32, .inl v_fact)), (h_many, .inl (k_many, 2, .inl v_many)), (h_codes, .inl (k_codes, 6, .inl v_codes)), (h_roundOf, .inl (k_roundOf, 16, .inl u.2.1)), (h_fresh, .inl (k_fresh, 16, .inl u.2.2))]) (va_A [(h_o, .inr (4, [.ref h_line, .int v_typed, .ref h_fact, .ref h_marked, .int v_count, .ref h_many, .ref h_codes, .int v_oldCount, .ref h_oldMany, .ref h_oldCodes, .int v_read, .ref h_body, .ref h_roundOf, .ref h_fresh, .int v_last])), (h_fact, .inl (k_fact, 32, .inl v_fact)), (h_many, .inl (k_many, 2, .inl v_many)), (h_codes, .inl (k_codes, 6, .inl v_codes)), (h_roundOf, .inl (k_roundOf, 16, .inl v_roundOf)), (h_fresh, .inl (k_fresh, 16, .inl v_fresh))] sz)) 0 0 (va_A [(h_o, .inr (4, [.ref h_line, .int v_typed, .ref h_fact, .ref h_marked, .int v_count, .ref h_many, .ref h_codes, .int v_oldCount, .ref h_oldMany, .ref h_oldCodes, .int v_read, .ref h_body, .ref h_roundOf, .ref h_fresh, .int v_last])), (h_fact, .inl (k_fact, 32, .inl v_fact)), (h_many, .inl (k_many, 2, .inl v_many)), (h_codes, .inl (k_codes, 6, .inl v_codes)), (h_roundOf, .inl (k_roundOf, 16, .inl v_roundOf)), (h_fresh, .inl (k_fresh, 16, .inl v_fresh))] sz) := by
  refine Met.ofW (cc := b_M_rounds) (maxL := 1) (ret := (some .int)) (by decide) rfl ?_
  intro p e s m args below meth c s₁ B hml hv
  obtain ⟨rfl, hsz, hP, hK, hD0⟩ := hv
  have hx := B.exec
  have hb := B.bytes
  have hr := B.returns
  have hts0 := atoms_spec (ws := w_M_rounds) B.pre
  have hts : ∀ w ∈ lw_gd, w.before ([.ref h_o] : List Value).toArray s = true := fun w h9 => hts0 w (List.mem_cons_of_mem _ h9)
  have hown : s.vm.findClass R_M = some m.cls := findClass_of_methodNamed B.named
  have hlocks := B.notSynchronized
  subst hsz
  have hD := hD0.self (sz := s.heap.size)
  generalize hAe : va_A [(h_o, .inr (4, [.ref h_line, .int v_typed, .ref h_fact, .ref h_marked, .int v_count, .ref h_many, .ref h_codes, .int v_oldCount, .ref h_oldMany, .ref h_oldCodes, .int v_read, .ref h_body, .ref h_roundOf, .ref h_fresh, .int v_last])), (h_fact, .inl (k_fact, 32, .inl v_fact)), (h_many, .inl (k_many, 2, .inl v_many)), (h_codes, .inl (k_codes, 6, .inl v_codes)), (h_roundOf, .inl (k_roundOf, 16, .inl v_roundOf)), (h_fresh, .inl (k_fresh, 16, .inl v_fresh))] s.heap.size = A at hD ⊢
  have hA : ∀ q : Nat, s.heap.size ≤ q → A q := fun q h9 => by rw [← hAe]; exact Or.inr h9
  obtain ⟨H, eH⟩ : ∃ H : Heap, H = s.heap := ⟨_, rfl⟩
  have hS : va_S A s.heap H [] := by rw [eH]; exact va_S.rf
  have hP : va_P (dC, dI) classes [(h_o, .inr (4, [.ref h_line, .int v_typed, .ref h_fact, .ref h_marked, .int v_count, .ref h_many, .ref h_codes, .int v_oldCount, .ref h_oldMany, .ref h_oldCodes, .int v_read, .ref h_body, .ref h_roundOf, .ref h_fresh, .int v_last])), (h_fact, .inl (k_fact, 32, .inl v_fact)), (h_many, .inl (k_many, 2, .inl v_many)), (h_codes, .inl (k_codes, 6, .inl v_codes)), (h_roundOf, .inl (k_roundOf, 16, .inl v_roundOf)), (h_fresh, .inl (k_fresh, 16, .inl v_fresh))] H := by rw [eH]; exact hP
  refine W_gen (fun Q hQ => ?_)
  refine W_heap eH ?_
  clear eH
  have hl := lv_entry ([.ref h_o]) (n := 1) (Nat.le_of_ble_eq_true rfl)
  rw [lg_entry_eq]
  generalize (lg_sl ([.ref h_o]) ++ List.replicate (1 - (lg_sl ([.ref h_o])).length) Slot.unset).toArray = ls at hl ⊢
  have hl : lv_has ls 1 [(0, .ref h_o)] := hl
  unfold m_M_rounds at h
  refine lv_aload_n hx hb d_M_rounds_0 rfl (lv_at hl 0 rfl) ?_
  have hPc := hP.sub (ws' := [(h_o, .inr (4, [.ref h_line, .int v_typed, .ref h_fact, .ref h_marked, .int v_count, .ref h_many, .ref h_codes, .int v_oldCount, .ref h_oldMany, .ref h_oldCodes, .int v_read, .ref h_body, .ref h_roundOf, .ref h_fresh, .int v_last])), (h_fact, .inl (k_fact, 32, .inl v_fact)), (h_many, .inl (k_many, 2, .inl v_many)), (h_codes, .inl (k_codes, 6, .inl v_codes)), (h_roundOf, .inl (k_roundOf, 16, .inl v_roundOf)), (h_fresh, .inl (k_fresh, 16, .inl v_fresh))]) [0, 1, 2, 3, 4, 5] rfl
  have hDc := hD.sub (ws' := [(h_o, .inr (4, [.ref h_line, .int v_typed, .ref h_fact, .ref h_marked, .int v_count, .ref h_many, .ref h_codes, .int v_oldCount, .ref h_oldMany, .ref h_oldCodes, .int v_read, .ref h_body, .ref h_roundOf, .ref h_fresh, .int v_last])), (h_fact, .inl (k_fact, 32, .inl v_fact)), (h_many, .inl (k_many, 2, .inl v_many)), (h_codes, .inl (k_codes, 6, .inl v_codes)), (h_roundOf, .inl (k_roundOf, 16, .inl v_roundOf)), (h_fresh, .inl (k_fresh, 16, .inl v_fresh))]) [0, 1, 2, 3, 4, 5] (by decide) rfl
  have hKc := hK.sub (tys' := [(k_fact, .boolean), (k_many, .int), (k_codes, .int), (k_roundOf, .int), (k_fresh, .boolean)]) [0, 1, 2, 3, 4] rfl
  have hFc := va_free (wc := [(h_o, .inr (4, [.ref h_line, .int v_typed, .ref h_fact, .ref h_marked, .int v_count, .ref h_many, .ref h_codes, .int v_oldCount, .ref h_oldMany, .ref h_oldCodes, .int v_read, .ref h_body, .ref h_roundOf, .ref h_fresh, .int v_last])), (h_fact, .inl (k_fact, 32, .inl v_fact)), (h_many, .inl (k_many, 2, .inl v_many)), (h_codes, .inl (k_codes, 6, .inl v_codes)), (h_roundOf, .inl (k_roundOf, 16, .inl v_roundOf)), (h_fresh, .inl (k_fresh, 16, .inl v_fresh))]) hD hS hA [0, 1, 2, 3, 4, 5] rfl
  obtain ⟨v_1, hc_1, h⟩ := of_bind h
  refine va_callv (va_runV (As := []) (rest := []) ⟨hx, hb, hml, hown, hts⟩ (c_M_work l dC dI h_o h_line h_fact h_marked h_many h_codes h_oldMany h_oldCodes h_body h_roundOf h_fresh k_fact k_many k_codes k_roundOf k_fresh H.size v_typed v_count v_oldCount v_read v_last v_fact v_many v_codes v_roundOf v_fresh  v_1 hc_1) (cwV 0 hts (gV mlk_M_132 ins_M_work sel_M_work ini_M cod_M_work) rfl rfl rfl (by decide +kernel) ⟨Nat.le_of_ble_eq_true rfl, Nat.le_of_ble_eq_true rfl⟩) ⟨fun a U g mk q => by obtain ⟨q0, q1, qP, qK, qD⟩ := q; exact ⟨q0, q1, qP, va_K.moved (u := U) (U := U.calling g mk a) (Vm.Alike.refl U.vm) qK, qD⟩, va_recv hKc hPc (ci := 4) (q0 := 0) rfl rfl, fun U hU hW => ⟨rfl, by rw [hU], by rw [hU]; exact hPc, va_K.moved hW.alike hKc, hDc.weaken (fun _ _ _ _ => trivial)⟩⟩ rfl rfl hl.1 rfl (lv_room (Nat.le_of_ble_eq_true rfl)) d_M_rounds_1 ⟨Nat.le_of_ble_eq_true rfl, Nat.le_of_ble_eq_true rfl⟩) hS (fun q _ h9 => hFc q h9) hFc (fun u t H1 locs ht hvm hw hB hz1 hk1 hS => ?_)
  obtain rfl := (Eq.symm hw)
  obtain ⟨hP1, hK1, hD1⟩ := hB
  rw [ht] at hP1
  obtain ⟨hP, hD⟩ := va_join (wr := []) (w1 := [(h_o, .inr (4, [.ref h_line, .int v_typed, .ref h_fact, .ref h_marked, .int v_count, .ref h_many, .ref h_codes, .int v_oldCount, .ref h_oldMany, .ref h_oldCodes, .int v_read, .ref h_body, .ref h_roundOf, .ref h_fresh, .int v_1.1])), (h_fact, .inl (k_fact, 32, .inl v_fact)), (h_many, .inl (k_many, 2, .inl v_many)), (h_codes, .inl (k_codes, 6, .inl v_codes)), (h_roundOf, .inl (k_roundOf, 16, .inl v_1.2.1)), (h_fresh, .inl (k_fresh, 16, .inl v_1.2.2))]) hP hD [0, 1, 2, 3, 4, 5] [] rfl rfl (by decide) (by decide) hk1 hFc hP1 hD1
  have hP := hP.sub (ws' := [(h_o, .inr (4, [.ref h_line, .int v_typed, .ref h_fact, .ref h_marked, .int v_count, .ref h_many, .ref h_codes, .int v_oldCount, .ref h_oldMany, .ref h_oldCodes, .int v_read, .ref h_body, .ref h_roundOf, .ref h_fresh, .int v_1.1])), (h_fact, .inl (k_fact, 32, .inl v_fact)), (h_many, .inl (k_many, 2, .inl v_many)), (h_codes, .inl (k_codes, 6, .inl v_codes)), (h_roundOf, .inl (k_roundOf, 16, .inl v_1.2.1)), (h_fresh, .inl (k_fresh, 16, .inl v_1.2.2))]) [0, 1, 2, 3, 4, 5] rfl
  have hD := hD.sub (ws' := [(h_o, .inr (4, [.ref h_line, .int v_typed, .ref h_fact, .ref h_marked, .int v_count, .ref h_many, .ref h_codes, .int v_oldCount, .ref h_oldMany, .ref h_oldCodes, .int v_read, .ref h_body, .ref h_roundOf, .ref h_fresh, .int v_1.1])), (h_fact, .inl (k_fact, 32, .inl v_fact)), (h_many, .inl (k_many, 2, .inl v_many)), (h_codes, .inl (k_codes, 6, .inl v_codes)), (h_roundOf, .inl (k_roundOf, 16, .inl v_1.2.1)), (h_fresh, .inl (k_fresh, 16, .inl v_1.2.2))]) [0, 1, 2, 3, 4, 5] (by decide) rfl
  generalize H1 = H at hP hS ⊢
  refine lv_aload_n hx hb d_M_rounds_4 rfl (lv_at hl 0 rfl) ?_
  refine va_get (D := (dC, dI)) (ci := 4) (v := .int v_1.1) (C := R_M) (T := F_M) (N := 15) hx hb hts lay_M hown hK hP 0 rfl rfl 14 (by decide) (hts _ flk_M_126) (fun _ h9 => h9) rfl d_M_rounds_5 ?_
  rw [hQ]
  exact W.iret (v := v_1.1) hx hb hr (fun t ht hW => ⟨⟨v_1.1, (v_1.1, v_1.2.1, v_1.2.2), rfl, Prod.mk.inj (Option.some.inj h), by rw [ht]; exact hP, va_K.moved hW.alike hK, hD⟩, hS.F ht⟩) hS.2.2 d_M_rounds_8
set_option maxHeartbeats 1000000 in
set_option maxRecDepth 100000 in
theorem c_M_fits (l : Launch) (dC : Nat → ClassId) (dI : Nat → Nat → Nat) (h_o h_line h_fact h_marked h_many h_codes h_oldMany h_oldCodes h_body h_roundOf h_fresh : Nat) (k_fact k_marked k_many k_codes k_roundOf k_fresh : ClassId) (sz : Nat) (v_typed : Int32) (v_count : Int32) (v_oldCount : Int32) (v_read : Int32) (v_last : Int32) (v_fact : Nat → Int32) (v_marked : Nat → Int32) (v_many : Nat → Int32) (v_codes : Nat → Int32) (v_roundOf : Nat → Int32) (v_fresh : Nat → Int32) (r0 : Int32) (u0 : Int32 × (Nat → Int32) × (Nat → Int32)) (h : m_M_fits v_count v_last v_fact v_marked v_many v_codes v_roundOf v_fresh = some (r0, u0)) : Met l y_M_fits w_M_fits ({ frames := 4, cells := 0, slots := 0, locals := 98 } : Room) (va_Pc [.ref h_o] (fun U => U.heap.size = sz ∧ va_P (dC, dI) classes [(h_o, .inr (4, [.ref h_line, .int v_typed, .ref h_fact, .ref h_marked, .int v_count, .ref h_many, .ref h_codes, .int v_oldCount, .ref h_oldMany, .ref h_oldCodes, .int v_read, .ref h_body, .ref h_roundOf, .ref h_fresh, .int v_last])), (h_fact, .inl (k_fact, 32, .inl v_fact)), (h_marked, .inl (k_marked, 16, .inl v_marked)), (h_many, .inl (k_many, 2, .inl v_many)), (h_codes, .inl (k_codes, 6, .inl v_codes)), (h_roundOf, .inl (k_roundOf, 16, .inl v_roundOf)), (h_fresh, .inl (k_fresh, 16, .inl v_fresh))] U.heap ∧ va_K (dC, dI) classes [(k_fact, .boolean), (k_marked, .int), (k_many, .int), (k_codes, .int), (k_roundOf, .int), (k_fresh, .boolean)] U ∧ va_D (fun _ => True) [(h_o, .inr (4, [.ref h_line, .int v_typed, .ref h_fact, .ref h_marked, .int v_count, .ref h_many, .ref h_codes, .int v_oldCount, .ref h_oldMany, .ref h_oldCodes, .int v_read, .ref h_body, .ref h_roundOf, .ref h_fresh, .int v_last])), (h_fact, .inl (k_fact, 32, .inl v_fact)), (h_marked, .inl (k_marked, 16, .inl v_marked)), (h_many, .inl (k_many, 2, .inl v_many)), (h_codes, .inl (k_codes, 6, .inl v_codes)), (h_roundOf, .inl (k_roundOf, 16, .inl v_roundOf)), (h_fresh, .inl (k_fresh, 16, .inl v_fresh))])) (va_Qi (fun (r : Int32) (u : Int32 × (Nat → Int32) × (Nat → Int32)) => r = r0 ∧ u = u0) (fun (u : Int32 × (Nat → Int32) × (Nat → Int32)) (t : State) => va_P (dC, dI) classes [(h_o, .inr (4, [.ref h_line, .int v_typed, .ref h_fact, .ref h_marked, .int v_count, .ref h_many, .ref h_codes, .int v_oldCount, .ref h_oldMany, .ref h_oldCodes, .int v_read, .ref h_body, .ref h_roundOf, .ref h_fresh, .int u.1])), (h_fact, .inl (k_fact, 32, .inl v_fact)), (h_marked, .inl (k_marked, 16, .inl v_marked)), (h_many, .inl (k_many, 2, .inl v_many)), (h_codes, .inl (k_codes, 6, .inl v_codes)), (h_roundOf, .inl (k_roundOf, 16, .inl u.2.1)), (h_fresh, .inl (k_fresh, 16, .inl u.2.2))] t.heap ∧ va_K (dC, dI) classes [(k_fact, .boolean), (k_marked, .int), (k_many, .int), (k_codes, .int), (k_roundOf, .int), (k_fresh, .boolean)] t ∧ va_D (va_A [(h_o, .inr (4, [.ref h_line, .int v_typed, .ref h_fact, .ref h_marked, .int v_count, .ref h_many, .ref h_codes, .int v_oldCount, .ref h_oldMany, .ref h_oldCodes, .int v_read, .ref h_body, .ref h_roundOf, .ref h_fresh, .int v_last])), (h_fact, .inl (k_fact, 32, .inl v_fact)), (h_marked, .inl (k_marked, 16, .inl v_marked)), (h_many, .inl (k_many, 2, .inl v_many)), (h_codes, .inl (k_codes, 6, .inl v_codes)), (h_roundOf, .inl (k_roundOf, 16, .inl v_roundOf)), (h_fresh, .inl (k_fresh, 16, .inl v_fresh))] sz) [(h_o, .inr (4, [.ref h_line, .int v_typed, .ref h_fact, .ref h_marked, .int v_count, .ref h_many, .ref h_codes, .int v_oldCount, .ref h_oldMany, .ref h_oldCodes, .int v_read, .ref h_body, .ref h_roundOf, .ref h_fresh, .int u.1])), (h_fact, .inl (k_fact, 32, .inl v_fact)), (h_marked, .inl (k_marked, 16, .inl v_marked)), (h_many, .inl (k_many, 2, .inl v_many)), (h_codes, .inl (k_codes, 6, .inl v_codes)), (h_roundOf, .inl (k_roundOf, 16, .inl u.2.1)), (h_fresh, .inl (k_fresh, 16, .inl u.2.2))]) (va_A [(h_o, .inr (4, [.ref h_line, .int v_typed, .ref h_fact, .ref h_marked, .int v_count, .ref h_many, .ref h_codes, .int v_oldCount, .ref h_oldMany, .ref h_oldCodes, .int v_read, .ref h_body, .ref h_roundOf, .ref h_fresh, .int v_last])), (h_fact, .inl (k_fact, 32, .inl v_fact)), (h_marked, .inl (k_marked, 16, .inl v_marked)), (h_many, .inl (k_many, 2, .inl v_many)), (h_codes, .inl (k_codes, 6, .inl v_codes)), (h_roundOf, .inl (k_roundOf, 16, .inl v_roundOf)), (h_fresh, .inl (k_fresh, 16, .inl v_fresh))] sz)) 0 0 (va_A [(h_o, .inr (4, [.ref h_line, .int v_typed, .ref h_fact, .ref h_marked, .int v_count, .ref h_many, .ref h_codes, .int v_oldCount, .ref h_oldMany, .ref h_oldCodes, .int v_read, .ref h_body, .ref h_roundOf, .ref h_fresh, .int v_last])), (h_fact, .inl (k_fact, 32, .inl v_fact)), (h_marked, .inl (k_marked, 16, .inl v_marked)), (h_many, .inl (k_many, 2, .inl v_many)), (h_codes, .inl (k_codes, 6, .inl v_codes)), (h_roundOf, .inl (k_roundOf, 16, .inl v_roundOf)), (h_fresh, .inl (k_fresh, 16, .inl v_fresh))] sz) := by
  refine Met.ofW (cc := b_M_fits) (maxL := 3) (ret := (some .boolean)) (by decide) rfl ?_
  intro p e s m args below meth c s₁ B hml hv
  obtain ⟨rfl, hsz, hP, hK, hD0⟩ := hv
  have hx := B.exec
  have hb := B.bytes
  have hr := B.returns
  have hts0 := atoms_spec (ws := w_M_fits) B.pre
  have hts : ∀ w ∈ lw_gd, w.before ([.ref h_o] : List Value).toArray s = true := fun w h9 => hts0 w (List.mem_cons_of_mem _ h9)
  have hown : s.vm.findClass R_M = some m.cls := findClass_of_methodNamed B.named
  have hlocks := B.notSynchronized
  subst hsz
  have hD := hD0.self (sz := s.heap.size)
  generalize hAe : va_A [(h_o, .inr (4, [.ref h_line, .int v_typed, .ref h_fact, .ref h_marked, .int v_count, .ref h_many, .ref h_codes, .int v_oldCount, .ref h_oldMany, .ref h_oldCodes, .int v_read, .ref h_body, .ref h_roundOf, .ref h_fresh, .int v_last])), (h_fact, .inl (k_fact, 32, .inl v_fact)), (h_marked, .inl (k_marked, 16, .inl v_marked)), (h_many, .inl (k_many, 2, .inl v_many)), (h_codes, .inl (k_codes, 6, .inl v_codes)), (h_roundOf, .inl (k_roundOf, 16, .inl v_roundOf)), (h_fresh, .inl (k_fresh, 16, .inl v_fresh))] s.heap.size = A at hD ⊢
  have hA : ∀ q : Nat, s.heap.size ≤ q → A q := fun q h9 => by rw [← hAe]; exact Or.inr h9
  obtain ⟨H, eH⟩ : ∃ H : Heap, H = s.heap := ⟨_, rfl⟩
  have hS : va_S A s.heap H [] := by rw [eH]; exact va_S.rf
  have hP : va_P (dC, dI) classes [(h_o, .inr (4, [.ref h_line, .int v_typed, .ref h_fact, .ref h_marked, .int v_count, .ref h_many, .ref h_codes, .int v_oldCount, .ref h_oldMany, .ref h_oldCodes, .int v_read, .ref h_body, .ref h_roundOf, .ref h_fresh, .int v_last])), (h_fact, .inl (k_fact, 32, .inl v_fact)), (h_marked, .inl (k_marked, 16, .inl v_marked)), (h_many, .inl (k_many, 2, .inl v_many)), (h_codes, .inl (k_codes, 6, .inl v_codes)), (h_roundOf, .inl (k_roundOf, 16, .inl v_roundOf)), (h_fresh, .inl (k_fresh, 16, .inl v_fresh))] H := by rw [eH]; exact hP
  refine W_gen (fun Q hQ => ?_)
  refine W_heap eH ?_
  clear eH
  have hl := lv_entry ([.ref h_o]) (n := 3) (Nat.le_of_ble_eq_true rfl)
  rw [lg_entry_eq]
  generalize (lg_sl ([.ref h_o]) ++ List.replicate (3 - (lg_sl ([.ref h_o])).length) Slot.unset).toArray = ls at hl ⊢
  have hl : lv_has ls 3 [(0, .ref h_o)] := hl
  have J_61 : ∀ (k_8 : Int32 → (Nat → Int32) → (Nat → Int32) → Int32 → Int32 → Option (Int32 × Int32 × (Nat → Int32) × (Nat → Int32))) (hk_8 : ∀ (v_last : Int32) (v_roundOf : Nat → Int32) (v_fresh : Nat → Int32) (z1 : Int32) (z2 : Int32), k_8 v_last v_roundOf v_fresh z1 z2 = some (r0, u0) → ∀ (H : Heap) (locs : List Loc), va_P (dC, dI) classes [(h_o, .inr (4, [.ref h_line, .int v_typed, .ref h_fact, .ref h_marked, .int v_count, .ref h_many, .ref h_codes, .int v_oldCount, .ref h_oldMany, .ref h_oldCodes, .int v_read, .ref h_body, .ref h_roundOf, .ref h_fresh, .int v_last])), (h_fact, .inl (k_fact, 32, .inl v_fact)), (h_marked, .inl (k_marked, 16, .inl v_marked)), (h_many, .inl (k_many, 2, .inl v_many)), (h_codes, .inl (k_codes, 6, .inl v_codes)), (h_roundOf, .inl (k_roundOf, 16, .inl v_roundOf)), (h_fresh, .inl (k_fresh, 16, .inl v_fresh))] H → va_D A [(h_o, .inr (4, [.ref h_line, .int v_typed, .ref h_fact, .ref h_marked, .int v_count, .ref h_many, .ref h_codes, .int v_oldCount, .ref h_oldMany, .ref h_oldCodes, .int v_read, .ref h_body, .ref h_roundOf, .ref h_fresh, .int v_last])), (h_fact, .inl (k_fact, 32, .inl v_fact)), (h_marked, .inl (k_marked, 16, .inl v_marked)), (h_many, .inl (k_many, 2, .inl v_many)), (h_codes, .inl (k_codes, 6, .inl v_codes)), (h_roundOf, .inl (k_roundOf, 16, .inl v_roundOf)), (h_fresh, .inl (k_fresh, 16, .inl v_fresh))] → va_S A s.heap H locs → ∀ (ls : Array Slot), lv_has ls 3 [(0, .ref h_o), (1, .int z1), (2, .int z2)] → W p l e (headSpec w_M_fits ({ frames := 4, cells := 0, slots := 0, locals := 98 } : Room)).room s m ([.ref h_o] : List Value).toArray below meth c H locs 0 0 Q (F0 m 8 ls [])) (v_last : Int32) (v_roundOf : Nat → Int32) (v_fresh : Nat → Int32) (z2 : Int32) (y0 : Int32), m_M_fits_61 v_count v_fact v_marked v_many v_codes k_8 v_last v_roundOf v_fresh z2 y0 = some (r0, u0) → ∀ (H : Heap) (locs : List Loc), va_P (dC, dI) classes [(h_o, .inr (4, [.ref h_line, .int v_typed, .ref h_fact, .ref h_marked, .int v_count, .ref h_many, .ref h_codes, .int v_oldCount, .ref h_oldMany, .ref h_oldCodes, .int v_read, .ref h_body, .ref h_roundOf, .ref h_fresh, .int v_last])), (h_fact, .inl (k_fact, 32, .inl v_fact)), (h_marked, .inl (k_marked, 16, .inl v_marked)), (h_many, .inl (k_many, 2, .inl v_many)), (h_codes, .inl (k_codes, 6, .inl v_codes)), (h_roundOf, .inl (k_roundOf, 16, .inl v_roundOf)), (h_fresh, .inl (k_fresh, 16, .inl v_fresh))] H → va_D A [(h_o, .inr (4, [.ref h_line, .int v_typed, .ref h_fact, .ref h_marked, .int v_count, .ref h_many, .ref h_codes, .int v_oldCount, .ref h_oldMany, .ref h_oldCodes, .int v_read, .ref h_body, .ref h_roundOf, .ref h_fresh, .int v_last])), (h_fact, .inl (k_fact, 32, .inl v_fact)), (h_marked, .inl (k_marked, 16, .inl v_marked)), (h_many, .inl (k_many, 2, .inl v_many)), (h_codes, .inl (k_codes, 6, .inl v_codes)), (h_roundOf, .inl (k_roundOf, 16, .inl v_roundOf)), (h_fresh, .inl (k_fresh, 16, .inl v_fresh))] → va_S A s.heap H locs → ∀ (ls : Array Slot), lv_has ls 3 [(0, .ref h_o), (2, .int z2)] → W p l e (headSpec w_M_fits ({ frames := 4, cells := 0, slots := 0, locals := 98 } : Room)).room s m ([.ref h_o] : List Value).toArray below meth c H locs 0 0 Q (F0 m 61 ls [.int y0]) := by
    intro k_8 hk_8 v_last v_roundOf v_fresh z2 y0 h H locs hP hD hS ls hl
    unfold m_M_fits_61 at h
    refine lv_istore_n (lv' := [(1, .int y0), (0, .ref h_o), (2, .int z2)]) hx hb d_M_fits_61 rfl hl (by decide) rfl (fun ls hl => ?_)
    refine lv_iinc (v := z2 + (nI 1)) (lv' := [(2, .int (z2 + (nI 1))), (1, .int y0), (0, .ref h_o)]) hx hb d_M_fits_62 hl (k := 2) rfl rfl (by decide) rfl (fun ls hl => ?_)
    refine lv_goto (tgt := 8) hx hb d_M_fits_65 (by decide) ?_
    exact hk_8 v_last v_roundOf v_fresh y0 (z2 + (nI 1)) h _ _ hP hD hS ls (lv_sub hl [2, 1, 0] rfl)
  have J_60 : ∀ (k_8 : Int32 → (Nat → Int32) → (Nat → Int32) → Int32 → Int32 → Option (Int32 × Int32 × (Nat → Int32) × (Nat → Int32))) (hk_8 : ∀ (v_last : Int32) (v_roundOf : Nat → Int32) (v_fresh : Nat → Int32) (z1 : Int32) (z2 : Int32), k_8 v_last v_roundOf v_fresh z1 z2 = some (r0, u0) → ∀ (H : Heap) (locs : List Loc), va_P (dC, dI) classes [(h_o, .inr (4, [.ref h_line, .int v_typed, .ref h_fact, .ref h_marked, .int v_count, .ref h_many, .ref h_codes, .int v_oldCount, .ref h_oldMany, .ref h_oldCodes, .int v_read, .ref h_body, .ref h_roundOf, .ref h_fresh, .int v_last])), (h_fact, .inl (k_fact, 32, .inl v_fact)), (h_marked, .inl (k_marked, 16, .inl v_marked)), (h_many, .inl (k_many, 2, .inl v_many)), (h_codes, .inl (k_codes, 6, .inl v_codes)), (h_roundOf, .inl (k_roundOf, 16, .inl v_roundOf)), (h_fresh, .inl (k_fresh, 16, .inl v_fresh))] H → va_D A [(h_o, .inr (4, [.ref h_line, .int v_typed, .ref h_fact, .ref h_marked, .int v_count, .ref h_many, .ref h_codes, .int v_oldCount, .ref h_oldMany, .ref h_oldCodes, .int v_read, .ref h_body, .ref h_roundOf, .ref h_fresh, .int v_last])), (h_fact, .inl (k_fact, 32, .inl v_fact)), (h_marked, .inl (k_marked, 16, .inl v_marked)), (h_many, .inl (k_many, 2, .inl v_many)), (h_codes, .inl (k_codes, 6, .inl v_codes)), (h_roundOf, .inl (k_roundOf, 16, .inl v_roundOf)), (h_fresh, .inl (k_fresh, 16, .inl v_fresh))] → va_S A s.heap H locs → ∀ (ls : Array Slot), lv_has ls 3 [(0, .ref h_o), (1, .int z1), (2, .int z2)] → W p l e (headSpec w_M_fits ({ frames := 4, cells := 0, slots := 0, locals := 98 } : Room)).room s m ([.ref h_o] : List Value).toArray below meth c H locs 0 0 Q (F0 m 8 ls [])) (v_last : Int32) (v_roundOf : Nat → Int32) (v_fresh : Nat → Int32) (z2 : Int32), m_M_fits_60 v_count v_fact v_marked v_many v_codes k_8 v_last v_roundOf v_fresh z2 = some (r0, u0) → ∀ (H : Heap) (locs : List Loc), va_P (dC, dI) classes [(h_o, .inr (4, [.ref h_line, .int v_typed, .ref h_fact, .ref h_marked, .int v_count, .ref h_many, .ref h_codes, .int v_oldCount, .ref h_oldMany, .ref h_oldCodes, .int v_read, .ref h_body, .ref h_roundOf, .ref h_fresh, .int v_last])), (h_fact, .inl (k_fact, 32, .inl v_fact)), (h_marked, .inl (k_marked, 16, .inl v_marked)), (h_many, .inl (k_many, 2, .inl v_many)), (h_codes, .inl (k_codes, 6, .inl v_codes)), (h_roundOf, .inl (k_roundOf, 16, .inl v_roundOf)), (h_fresh, .inl (k_fresh, 16, .inl v_fresh))] H → va_D A [(h_o, .inr (4, [.ref h_line, .int v_typed, .ref h_fact, .ref h_marked, .int v_count, .ref h_many, .ref h_codes, .int v_oldCount, .ref h_oldMany, .ref h_oldCodes, .int v_read, .ref h_body, .ref h_roundOf, .ref h_fresh, .int v_last])), (h_fact, .inl (k_fact, 32, .inl v_fact)), (h_marked, .inl (k_marked, 16, .inl v_marked)), (h_many, .inl (k_many, 2, .inl v_many)), (h_codes, .inl (k_codes, 6, .inl v_codes)), (h_roundOf, .inl (k_roundOf, 16, .inl v_roundOf)), (h_fresh, .inl (k_fresh, 16, .inl v_fresh))] → va_S A s.heap H locs → ∀ (ls : Array Slot), lv_has ls 3 [(0, .ref h_o), (2, .int z2)] → W p l e (headSpec w_M_fits ({ frames := 4, cells := 0, slots := 0, locals := 98 } : Room)).room s m ([.ref h_o] : List Value).toArray below meth c H locs 0 0 Q (F0 m 60 ls []) := by
    intro k_8 hk_8 v_last v_roundOf v_fresh z2 h H locs hP hD hS ls hl
    unfold m_M_fits_60 at h
    refine lv_iconst (v := (nI 0)) hx hb d_M_fits_60 (by decide) ?_
    exact J_61 k_8 hk_8 v_last v_roundOf v_fresh z2 (nI 0) h _ _ hP hD hS ls (lv_sub hl [0, 1] rfl)
  have J_56 : ∀ (k_8 : Int32 → (Nat → Int32) → (Nat → Int32) → Int32 → Int32 → Option (Int32 × Int32 × (Nat → Int32) × (Nat → Int32))) (hk_8 : ∀ (v_last : Int32) (v_roundOf : Nat → Int32) (v_fresh : Nat → Int32) (z1 : Int32) (z2 : Int32), k_8 v_last v_roundOf v_fresh z1 z2 = some (r0, u0) → ∀ (H : Heap) (locs : List Loc), va_P (dC, dI) classes [(h_o, .inr (4, [.ref h_line, .int v_typed, .ref h_fact, .ref h_marked, .int v_count, .ref h_many, .ref h_codes, .int v_oldCount, .ref h_oldMany, .ref h_oldCodes, .int v_read, .ref h_body, .ref h_roundOf, .ref h_fresh, .int v_last])), (h_fact, .inl (k_fact, 32, .inl v_fact)), (h_marked, .inl (k_marked, 16, .inl v_marked)), (h_many, .inl (k_many, 2, .inl v_many)), (h_codes, .inl (k_codes, 6, .inl v_codes)), (h_roundOf, .inl (k_roundOf, 16, .inl v_roundOf)), (h_fresh, .inl (k_fresh, 16, .inl v_fresh))] H → va_D A [(h_o, .inr (4, [.ref h_line, .int v_typed, .ref h_fact, .ref h_marked, .int v_count, .ref h_many, .ref h_codes, .int v_oldCount, .ref h_oldMany, .ref h_oldCodes, .int v_read, .ref h_body, .ref h_roundOf, .ref h_fresh, .int v_last])), (h_fact, .inl (k_fact, 32, .inl v_fact)), (h_marked, .inl (k_marked, 16, .inl v_marked)), (h_many, .inl (k_many, 2, .inl v_many)), (h_codes, .inl (k_codes, 6, .inl v_codes)), (h_roundOf, .inl (k_roundOf, 16, .inl v_roundOf)), (h_fresh, .inl (k_fresh, 16, .inl v_fresh))] → va_S A s.heap H locs → ∀ (ls : Array Slot), lv_has ls 3 [(0, .ref h_o), (1, .int z1), (2, .int z2)] → W p l e (headSpec w_M_fits ({ frames := 4, cells := 0, slots := 0, locals := 98 } : Room)).room s m ([.ref h_o] : List Value).toArray below meth c H locs 0 0 Q (F0 m 8 ls [])) (v_last : Int32) (v_roundOf : Nat → Int32) (v_fresh : Nat → Int32) (z2 : Int32), m_M_fits_56 v_count v_fact v_marked v_many v_codes k_8 v_last v_roundOf v_fresh z2 = some (r0, u0) → ∀ (H : Heap) (locs : List Loc), va_P (dC, dI) classes [(h_o, .inr (4, [.ref h_line, .int v_typed, .ref h_fact, .ref h_marked, .int v_count, .ref h_many, .ref h_codes, .int v_oldCount, .ref h_oldMany, .ref h_oldCodes, .int v_read, .ref h_body, .ref h_roundOf, .ref h_fresh, .int v_last])), (h_fact, .inl (k_fact, 32, .inl v_fact)), (h_marked, .inl (k_marked, 16, .inl v_marked)), (h_many, .inl (k_many, 2, .inl v_many)), (h_codes, .inl (k_codes, 6, .inl v_codes)), (h_roundOf, .inl (k_roundOf, 16, .inl v_roundOf)), (h_fresh, .inl (k_fresh, 16, .inl v_fresh))] H → va_D A [(h_o, .inr (4, [.ref h_line, .int v_typed, .ref h_fact, .ref h_marked, .int v_count, .ref h_many, .ref h_codes, .int v_oldCount, .ref h_oldMany, .ref h_oldCodes, .int v_read, .ref h_body, .ref h_roundOf, .ref h_fresh, .int v_last])), (h_fact, .inl (k_fact, 32, .inl v_fact)), (h_marked, .inl (k_marked, 16, .inl v_marked)), (h_many, .inl (k_many, 2, .inl v_many)), (h_codes, .inl (k_codes, 6, .inl v_codes)), (h_roundOf, .inl (k_roundOf, 16, .inl v_roundOf)), (h_fresh, .inl (k_fresh, 16, .inl v_fresh))] → va_S A s.heap H locs → ∀ (ls : Array Slot), lv_has ls 3 [(0, .ref h_o), (2, .int z2)] → W p l e (headSpec w_M_fits ({ frames := 4, cells := 0, slots := 0, locals := 98 } : Room)).room s m ([.ref h_o] : List Value).toArray below meth c H locs 0 0 Q (F0 m 56 ls []) := by
    intro k_8 hk_8 v_last v_roundOf v_fresh z2 h H locs hP hD hS ls hl
    unfold m_M_fits_56 at h
    refine lv_iconst (v := (nI 1)) hx hb d_M_fits_56 (by decide) ?_
    refine lv_goto (tgt := 61) hx hb d_M_fits_57 (by decide) ?_
    exact J_61 k_8 hk_8 v_last v_roundOf v_fresh z2 (nI 1) h _ _ hP hD hS ls (lv_sub hl [0, 1] rfl)
  have J_37 : ∀ (k_8 : Int32 → (Nat → Int32) → (Nat → Int32) → Int32 → Int32 → Option (Int32 × Int32 × (Nat → Int32) × (Nat → Int32))) (hk_8 : ∀ (v_last : Int32) (v_roundOf : Nat → Int32) (v_fresh : Nat → Int32) (z1 : Int32) (z2 : Int32), k_8 v_last v_roundOf v_fresh z1 z2 = some (r0, u0) → ∀ (H : Heap) (locs : List Loc), va_P (dC, dI) classes [(h_o, .inr (4, [.ref h_line, .int v_typed, .ref h_fact, .ref h_marked, .int v_count, .ref h_many, .ref h_codes, .int v_oldCount, .ref h_oldMany, .ref h_oldCodes, .int v_read, .ref h_body, .ref h_roundOf, .ref h_fresh, .int v_last])), (h_fact, .inl (k_fact, 32, .inl v_fact)), (h_marked, .inl (k_marked, 16, .inl v_marked)), (h_many, .inl (k_many, 2, .inl v_many)), (h_codes, .inl (k_codes, 6, .inl v_codes)), (h_roundOf, .inl (k_roundOf, 16, .inl v_roundOf)), (h_fresh, .inl (k_fresh, 16, .inl v_fresh))] H → va_D A [(h_o, .inr (4, [.ref h_line, .int v_typed, .ref h_fact, .ref h_marked, .int v_count, .ref h_many, .ref h_codes, .int v_oldCount, .ref h_oldMany, .ref h_oldCodes, .int v_read, .ref h_body, .ref h_roundOf, .ref h_fresh, .int v_last])), (h_fact, .inl (k_fact, 32, .inl v_fact)), (h_marked, .inl (k_marked, 16, .inl v_marked)), (h_many, .inl (k_many, 2, .inl v_many)), (h_codes, .inl (k_codes, 6, .inl v_codes)), (h_roundOf, .inl (k_roundOf, 16, .inl v_roundOf)), (h_fresh, .inl (k_fresh, 16, .inl v_fresh))] → va_S A s.heap H locs → ∀ (ls : Array Slot), lv_has ls 3 [(0, .ref h_o), (1, .int z1), (2, .int z2)] → W p l e (headSpec w_M_fits ({ frames := 4, cells := 0, slots := 0, locals := 98 } : Room)).room s m ([.ref h_o] : List Value).toArray below meth c H locs 0 0 Q (F0 m 8 ls [])) (v_last : Int32) (v_roundOf : Nat → Int32) (v_fresh : Nat → Int32) (z2 : Int32), m_M_fits_37 v_count v_fact v_marked v_many v_codes k_8 v_last v_roundOf v_fresh z2 = some (r0, u0) → ∀ (H : Heap) (locs : List Loc), va_P (dC, dI) classes [(h_o, .inr (4, [.ref h_line, .int v_typed, .ref h_fact, .ref h_marked, .int v_count, .ref h_many, .ref h_codes, .int v_oldCount, .ref h_oldMany, .ref h_oldCodes, .int v_read, .ref h_body, .ref h_roundOf, .ref h_fresh, .int v_last])), (h_fact, .inl (k_fact, 32, .inl v_fact)), (h_marked, .inl (k_marked, 16, .inl v_marked)), (h_many, .inl (k_many, 2, .inl v_many)), (h_codes, .inl (k_codes, 6, .inl v_codes)), (h_roundOf, .inl (k_roundOf, 16, .inl v_roundOf)), (h_fresh, .inl (k_fresh, 16, .inl v_fresh))] H → va_D A [(h_o, .inr (4, [.ref h_line, .int v_typed, .ref h_fact, .ref h_marked, .int v_count, .ref h_many, .ref h_codes, .int v_oldCount, .ref h_oldMany, .ref h_oldCodes, .int v_read, .ref h_body, .ref h_roundOf, .ref h_fresh, .int v_last])), (h_fact, .inl (k_fact, 32, .inl v_fact)), (h_marked, .inl (k_marked, 16, .inl v_marked)), (h_many, .inl (k_many, 2, .inl v_many)), (h_codes, .inl (k_codes, 6, .inl v_codes)), (h_roundOf, .inl (k_roundOf, 16, .inl v_roundOf)), (h_fresh, .inl (k_fresh, 16, .inl v_fresh))] → va_S A s.heap H locs → ∀ (ls : Array Slot), lv_has ls 3 [(0, .ref h_o), (2, .int z2)] → W p l e (headSpec w_M_fits ({ frames := 4, cells := 0, slots := 0, locals := 98 } : Room)).room s m ([.ref h_o] : List Value).toArray below meth c H locs 0 0 Q (F0 m 37 ls []) := by
    intro k_8 hk_8 v_last v_roundOf v_fresh z2 h H locs hP hD hS ls hl
    unfold m_M_fits_37 at h
    refine lv_aload_n hx hb d_M_fits_37 rfl (lv_at hl 0 rfl) ?_
    refine va_get (D := (dC, dI)) (ci := 4) (v := .ref h_marked) (C := R_M) (T := F_M) (N := 15) hx hb hts lay_M hown hK hP 0 rfl rfl 3 (by decide) (hts _ flk_M_17) (fun _ h9 => h9) rfl d_M_fits_38 ?_
    refine lv_iload_n hx hb d_M_fits_41 rfl (lv_at hl 1 rfl) ?_
    obtain ⟨g_42, h⟩ := of_guard h
    refine va_iald hx hb hK hP 2 1 rfl rfl (inR_in g_42) d_M_fits_42 ?_
    refine lv_iconst (v := (-1 : Int32)) hx hb d_M_fits_43 (by decide) ?_
    refine lv_icmp_ne (tgt := 56) hx hb d_M_fits_44 (by decide) (fun c_44 => ?_) (fun c_44 => ?_)
    · have h := of_neg h c_44
      exact J_56 k_8 hk_8 v_last v_roundOf v_fresh z2 h _ _ hP hD hS ls (lv_sub hl [0, 1] rfl)
    · have h := of_pos h c_44
      refine lv_aload_n hx hb d_M_fits_47 rfl (lv_at hl 0 rfl) ?_
      refine va_get (D := (dC, dI)) (ci := 4) (v := .ref h_roundOf) (C := R_M) (T := F_M) (N := 15) hx hb hts lay_M hown hK hP 0 rfl rfl 12 (by decide) (hts _ flk_M_35) (fun _ h9 => h9) rfl d_M_fits_48 ?_
      refine lv_iload_n hx hb d_M_fits_51 rfl (lv_at hl 1 rfl) ?_
      obtain ⟨g_52, h⟩ := of_guard h
      refine va_iald hx hb hK hP 5 4 rfl rfl (inR_in g_52) d_M_fits_52 ?_
      refine lv_if_ne (tgt := 60) hx hb d_M_fits_53 (by decide) (fun c_53 => ?_) (fun c_53 => ?_)
      · have h := of_neg h c_53
        exact J_60 k_8 hk_8 v_last v_roundOf v_fresh z2 h _ _ hP hD hS ls (lv_sub hl [0, 1] rfl)
      · have h := of_pos h c_53
        exact J_56 k_8 hk_8 v_last v_roundOf v_fresh z2 h _ _ hP hD hS ls (lv_sub hl [0, 1] rfl)
  have J_8 : ∀ (n : Nat) (v_last : Int32) (v_roundOf : Nat → Int32) (v_fresh : Nat → Int32) (z1 : Int32) (z2 : Int32), m_M_fits_8 v_count v_fact v_marked v_many v_codes n v_last v_roundOf v_fresh z1 z2 = some (r0, u0) → ∀ (H : Heap) (locs : List Loc), va_P (dC, dI) classes [(h_o, .inr (4, [.ref h_line, .int v_typed, .ref h_fact, .ref h_marked, .int v_count, .ref h_many, .ref h_codes, .int v_oldCount, .ref h_oldMany, .ref h_oldCodes, .int v_read, .ref h_body, .ref h_roundOf, .ref h_fresh, .int v_last])), (h_fact, .inl (k_fact, 32, .inl v_fact)), (h_marked, .inl (k_marked, 16, .inl v_marked)), (h_many, .inl (k_many, 2, .inl v_many)), (h_codes, .inl (k_codes, 6, .inl v_codes)), (h_roundOf, .inl (k_roundOf, 16, .inl v_roundOf)), (h_fresh, .inl (k_fresh, 16, .inl v_fresh))] H → va_D A [(h_o, .inr (4, [.ref h_line, .int v_typed, .ref h_fact, .ref h_marked, .int v_count, .ref h_many, .ref h_codes, .int v_oldCount, .ref h_oldMany, .ref h_oldCodes, .int v_read, .ref h_body, .ref h_roundOf, .ref h_fresh, .int v_last])), (h_fact, .inl (k_fact, 32, .inl v_fact)), (h_marked, .inl (k_marked, 16, .inl v_marked)), (h_many, .inl (k_many, 2, .inl v_many)), (h_codes, .inl (k_codes, 6, .inl v_codes)), (h_roundOf, .inl (k_roundOf, 16, .inl v_roundOf)), (h_fresh, .inl (k_fresh, 16, .inl v_fresh))] → va_S A s.heap H locs → ∀ (ls : Array Slot), lv_has ls 3 [(0, .ref h_o), (1, .int z1), (2, .int z2)] → W p l e (headSpec w_M_fits ({ frames := 4, cells := 0, slots := 0, locals := 98 } : Room)).room s m ([.ref h_o] : List Value).toArray below meth c H locs 0 0 Q (F0 m 8 ls []) := by
    intro n
    induction n with
    | zero => intro v_last v_roundOf v_fresh z1 z2 h; exact absurd h (by unfold m_M_fits_8; exact fun h9 => nomatch h9)
    | succ n ih =>
      intro v_last v_roundOf v_fresh z1 z2 h H locs hP hD hS ls hl
      unfold m_M_fits_8 at h
      refine lv_iload_n hx hb d_M_fits_8 rfl (lv_at hl 2 rfl) ?_
      refine lv_bipush (v := (nI 16)) hx hb d_M_fits_9 (by decide) ?_
      refine lv_icmp_ge (tgt := 68) hx hb d_M_fits_11 (by decide) (fun c_11 => ?_) (fun c_11 => ?_)
      · have h := of_pos h c_11
        refine lv_iload_n hx hb d_M_fits_68 rfl (lv_at hl 1 rfl) ?_
        obtain ⟨g_69, h⟩ := of_guard h
        rw [hQ]
        exact W.zret (v := z1) hx hb hr (nrz g_69) (fun t ht hW => ⟨⟨z1, (v_last, v_roundOf, v_fresh), rfl, Prod.mk.inj (Option.some.inj h), by rw [ht]; exact hP, va_K.moved hW.alike hK, hD⟩, hS.F ht⟩) hS.2.2 d_M_fits_69
      · have h := of_neg h c_11
        refine lv_iload_n hx hb d_M_fits_14 rfl (lv_at hl 1 rfl) ?_
        refine lv_if_eq (tgt := 60) hx hb d_M_fits_15 (by decide) (fun c_15 => ?_) (fun c_15 => ?_)
        · have h := of_pos h c_15
          exact J_60 (m_M_fits_8 v_count v_fact v_marked v_many v_codes n) ih v_last v_roundOf v_fresh z2 h _ _ hP hD hS ls (lv_sub hl [0, 2] rfl)
        · have h := of_neg h c_15
          refine lv_aload_n hx hb d_M_fits_18 rfl (lv_at hl 0 rfl) ?_
          refine va_get (D := (dC, dI)) (ci := 4) (v := .ref h_marked) (C := R_M) (T := F_M) (N := 15) hx hb hts lay_M hown hK hP 0 rfl rfl 3 (by decide) (hts _ flk_M_17) (fun _ h9 => h9) rfl d_M_fits_19 ?_
          refine lv_iload_n hx hb d_M_fits_22 rfl (lv_at hl 2 rfl) ?_
          obtain ⟨g_23, h⟩ := of_guard h
          refine va_iald hx hb hK hP 2 1 rfl rfl (inR_in g_23) d_M_fits_23 ?_
          refine lv_iconst (v := (nI 1)) hx hb d_M_fits_24 (by decide) ?_
          refine lv_icmp_ne (tgt := 37) hx hb d_M_fits_25 (by decide) (fun c_25 => ?_) (fun c_25 => ?_)
          · have h := of_neg h c_25
            exact J_37 (m_M_fits_8 v_count v_fact v_marked v_many v_codes n) ih v_last v_roundOf v_fresh z2 h _ _ hP hD hS ls (lv_sub hl [0, 2] rfl)
          · have h := of_pos h c_25
            refine lv_aload_n hx hb d_M_fits_28 rfl (lv_at hl 0 rfl) ?_
            refine va_get (D := (dC, dI)) (ci := 4) (v := .ref h_roundOf) (C := R_M) (T := F_M) (N := 15) hx hb hts lay_M hown hK hP 0 rfl rfl 12 (by decide) (hts _ flk_M_35) (fun _ h9 => h9) rfl d_M_fits_29 ?_
            refine lv_iload_n hx hb d_M_fits_32 rfl (lv_at hl 2 rfl) ?_
            obtain ⟨g_33, h⟩ := of_guard h
            refine va_iald hx hb hK hP 5 4 rfl rfl (inR_in g_33) d_M_fits_33 ?_
            refine lv_if_le (tgt := 60) hx hb d_M_fits_34 (by decide) (fun c_34 => ?_) (fun c_34 => ?_)
            · have h := of_pos h c_34
              exact J_60 (m_M_fits_8 v_count v_fact v_marked v_many v_codes n) ih v_last v_roundOf v_fresh z2 h _ _ hP hD hS ls (lv_sub hl [0, 2] rfl)
            · have h := of_neg h c_34
              exact J_37 (m_M_fits_8 v_count v_fact v_marked v_many v_codes n) ih v_last v_roundOf v_fresh z2 h _ _ hP hD hS ls (lv_sub hl [0, 2] rfl)
  unfold m_M_fits at h
  refine lv_aload_n hx hb d_M_fits_0 rfl (lv_at hl 0 rfl) ?_
  have hPc := hP.sub (ws' := [(h_o, .inr (4, [.ref h_line, .int v_typed, .ref h_fact, .ref h_marked, .int v_count, .ref h_many, .ref h_codes, .int v_oldCount, .ref h_oldMany, .ref h_oldCodes, .int v_read, .ref h_body, .ref h_roundOf, .ref h_fresh, .int v_last])), (h_fact, .inl (k_fact, 32, .inl v_fact)), (h_many, .inl (k_many, 2, .inl v_many)), (h_codes, .inl (k_codes, 6, .inl v_codes)), (h_roundOf, .inl (k_roundOf, 16, .inl v_roundOf)), (h_fresh, .inl (k_fresh, 16, .inl v_fresh))]) [0, 1, 3, 4, 5, 6] rfl
  have hDc := hD.sub (ws' := [(h_o, .inr (4, [.ref h_line, .int v_typed, .ref h_fact, .ref h_marked, .int v_count, .ref h_many, .ref h_codes, .int v_oldCount, .ref h_oldMany, .ref h_oldCodes, .int v_read, .ref h_body, .ref h_roundOf, .ref h_fresh, .int v_last])), (h_fact, .inl (k_fact, 32, .inl v_fact)), (h_many, .inl (k_many, 2, .inl v_many)), (h_codes, .inl (k_codes, 6, .inl v_codes)), (h_roundOf, .inl (k_roundOf, 16, .inl v_roundOf)), (h_fresh, .inl (k_fresh, 16, .inl v_fresh))]) [0, 1, 3, 4, 5, 6] (by decide) rfl
  have hKc := hK.sub (tys' := [(k_fact, .boolean), (k_many, .int), (k_codes, .int), (k_roundOf, .int), (k_fresh, .boolean)]) [0, 2, 3, 4, 5] rfl
  have hFc := va_free (wc := [(h_o, .inr (4, [.ref h_line, .int v_typed, .ref h_fact, .ref h_marked, .int v_count, .ref h_many, .ref h_codes, .int v_oldCount, .ref h_oldMany, .ref h_oldCodes, .int v_read, .ref h_body, .ref h_roundOf, .ref h_fresh, .int v_last])), (h_fact, .inl (k_fact, 32, .inl v_fact)), (h_many, .inl (k_many, 2, .inl v_many)), (h_codes, .inl (k_codes, 6, .inl v_codes)), (h_roundOf, .inl (k_roundOf, 16, .inl v_roundOf)), (h_fresh, .inl (k_fresh, 16, .inl v_fresh))]) hD hS hA [0, 1, 3, 4, 5, 6] rfl
  obtain ⟨v_1, hc_1, h⟩ := of_bind h
  refine va_callv (va_runV (As := []) (rest := []) ⟨hx, hb, hml, hown, hts⟩ (c_M_work l dC dI h_o h_line h_fact h_marked h_many h_codes h_oldMany h_oldCodes h_body h_roundOf h_fresh k_fact k_many k_codes k_roundOf k_fresh H.size v_typed v_count v_oldCount v_read v_last v_fact v_many v_codes v_roundOf v_fresh  v_1 hc_1) (cwV 0 hts (gV mlk_M_132 ins_M_work sel_M_work ini_M cod_M_work) rfl rfl rfl (by decide +kernel) ⟨Nat.le_of_ble_eq_true rfl, Nat.le_of_ble_eq_true rfl⟩) ⟨fun a U g mk q => by obtain ⟨q0, q1, qP, qK, qD⟩ := q; exact ⟨q0, q1, qP, va_K.moved (u := U) (U := U.calling g mk a) (Vm.Alike.refl U.vm) qK, qD⟩, va_recv hKc hPc (ci := 4) (q0 := 0) rfl rfl, fun U hU hW => ⟨rfl, by rw [hU], by rw [hU]; exact hPc, va_K.moved hW.alike hKc, hDc.weaken (fun _ _ _ _ => trivial)⟩⟩ rfl rfl hl.1 rfl (lv_room (Nat.le_of_ble_eq_true rfl)) d_M_fits_1 ⟨Nat.le_of_ble_eq_true rfl, Nat.le_of_ble_eq_true rfl⟩) hS (fun q _ h9 => hFc q h9) hFc (fun u t H1 locs ht hvm hw hB hz1 hk1 hS => ?_)
  obtain rfl := (Eq.symm hw)
  obtain ⟨hP1, hK1, hD1⟩ := hB
  rw [ht] at hP1
  obtain ⟨hP, hD⟩ := va_join (wr := [(h_marked, .inl (k_marked, 16, .inl v_marked))]) (w1 := [(h_o, .inr (4, [.ref h_line, .int v_typed, .ref h_fact, .ref h_marked, .int v_count, .ref h_many, .ref h_codes, .int v_oldCount, .ref h_oldMany, .ref h_oldCodes, .int v_read, .ref h_body, .ref h_roundOf, .ref h_fresh, .int v_1.1])), (h_fact, .inl (k_fact, 32, .inl v_fact)), (h_many, .inl (k_many, 2, .inl v_many)), (h_codes, .inl (k_codes, 6, .inl v_codes)), (h_roundOf, .inl (k_roundOf, 16, .inl v_1.2.1)), (h_fresh, .inl (k_fresh, 16, .inl v_1.2.2))]) hP hD [0, 1, 3, 4, 5, 6] [2] rfl rfl (by decide) (by decide) hk1 hFc hP1 hD1
  have hP := hP.sub (ws' := [(h_o, .inr (4, [.ref h_line, .int v_typed, .ref h_fact, .ref h_marked, .int v_count, .ref h_many, .ref h_codes, .int v_oldCount, .ref h_oldMany, .ref h_oldCodes, .int v_read, .ref h_body, .ref h_roundOf, .ref h_fresh, .int v_1.1])), (h_fact, .inl (k_fact, 32, .inl v_fact)), (h_marked, .inl (k_marked, 16, .inl v_marked)), (h_many, .inl (k_many, 2, .inl v_many)), (h_codes, .inl (k_codes, 6, .inl v_codes)), (h_roundOf, .inl (k_roundOf, 16, .inl v_1.2.1)), (h_fresh, .inl (k_fresh, 16, .inl v_1.2.2))]) [1, 2, 0, 3, 4, 5, 6] rfl
  have hD := hD.sub (ws' := [(h_o, .inr (4, [.ref h_line, .int v_typed, .ref h_fact, .ref h_marked, .int v_count, .ref h_many, .ref h_codes, .int v_oldCount, .ref h_oldMany, .ref h_oldCodes, .int v_read, .ref h_body, .ref h_roundOf, .ref h_fresh, .int v_1.1])), (h_fact, .inl (k_fact, 32, .inl v_fact)), (h_marked, .inl (k_marked, 16, .inl v_marked)), (h_many, .inl (k_many, 2, .inl v_many)), (h_codes, .inl (k_codes, 6, .inl v_codes)), (h_roundOf, .inl (k_roundOf, 16, .inl v_1.2.1)), (h_fresh, .inl (k_fresh, 16, .inl v_1.2.2))]) [1, 2, 0, 3, 4, 5, 6] (by decide) rfl
  generalize H1 = H at hP hS ⊢
  refine lv_iconst (v := (nI 1)) hx hb d_M_fits_4 (by decide) ?_
  refine lv_istore_n (lv' := [(1, .int (nI 1)), (0, .ref h_o)]) hx hb d_M_fits_5 rfl hl (by decide) rfl (fun ls hl => ?_)
  refine lv_iconst (v := (nI 0)) hx hb d_M_fits_6 (by decide) ?_
  refine lv_istore_n (lv' := [(2, .int (nI 0)), (1, .int (nI 1)), (0, .ref h_o)]) hx hb d_M_fits_7 rfl hl (by decide) rfl (fun ls hl => ?_)
  exact J_8 40 v_1.1 v_1.2.1 v_1.2.2 (nI 1) (nI 0) h _ _ hP hD hS ls (lv_sub hl [2, 1, 0] rfl)
