theorem d_M_set_0 : decode b_M_set 0 = .ok (.aload_n 0, 1) := by decide +kernel
theorem d_M_set_1 : decode b_M_set 1 = .ok (.getfield 20, 3) := by decide +kernel
theorem d_M_set_4 : decode b_M_set 4 = .ok (.iload_n 1, 1) := by decide +kernel
theorem d_M_set_5 : decode b_M_set 5 = .ok (.iload_n 3, 1) := by decide +kernel
theorem d_M_set_6 : decode b_M_set 6 = .ok (.ifCond .ge 7, 3) := by decide +kernel
theorem d_M_set_9 : decode b_M_set 9 = .ok (.iconst 1, 1) := by decide +kernel
theorem d_M_set_10 : decode b_M_set 10 = .ok (.goto 13, 3) := by decide +kernel
theorem d_M_set_13 : decode b_M_set 13 = .ok (.iload 4, 2) := by decide +kernel
theorem d_M_set_15 : decode b_M_set 15 = .ok (.ifCond .ge 7, 3) := by decide +kernel
theorem d_M_set_18 : decode b_M_set 18 = .ok (.iconst 2, 1) := by decide +kernel
theorem d_M_set_19 : decode b_M_set 19 = .ok (.goto 4, 3) := by decide +kernel
theorem d_M_set_22 : decode b_M_set 22 = .ok (.iconst 3, 1) := by decide +kernel
theorem d_M_set_23 : decode b_M_set 23 = .ok (.iastore, 1) := by decide +kernel
theorem d_M_set_24 : decode b_M_set 24 = .ok (.aload_n 0, 1) := by decide +kernel
theorem d_M_set_25 : decode b_M_set 25 = .ok (.getfield 23, 3) := by decide +kernel
theorem d_M_set_28 : decode b_M_set 28 = .ok (.iconst 3, 1) := by decide +kernel
theorem d_M_set_29 : decode b_M_set 29 = .ok (.iload_n 1, 1) := by decide +kernel
theorem d_M_set_30 : decode b_M_set 30 = .ok (.imul, 1) := by decide +kernel
theorem d_M_set_31 : decode b_M_set 31 = .ok (.iload_n 2, 1) := by decide +kernel
theorem d_M_set_32 : decode b_M_set 32 = .ok (.iastore, 1) := by decide +kernel
theorem d_M_set_33 : decode b_M_set 33 = .ok (.aload_n 0, 1) := by decide +kernel
theorem d_M_set_34 : decode b_M_set 34 = .ok (.getfield 23, 3) := by decide +kernel
theorem d_M_set_37 : decode b_M_set 37 = .ok (.iconst 3, 1) := by decide +kernel
theorem d_M_set_38 : decode b_M_set 38 = .ok (.iload_n 1, 1) := by decide +kernel
theorem d_M_set_39 : decode b_M_set 39 = .ok (.imul, 1) := by decide +kernel
theorem d_M_set_40 : decode b_M_set 40 = .ok (.iconst 1, 1) := by decide +kernel
theorem d_M_set_41 : decode b_M_set 41 = .ok (.iadd, 1) := by decide +kernel
theorem d_M_set_42 : decode b_M_set 42 = .ok (.iload_n 3, 1) := by decide +kernel
theorem d_M_set_43 : decode b_M_set 43 = .ok (.iastore, 1) := by decide +kernel
theorem d_M_set_44 : decode b_M_set 44 = .ok (.aload_n 0, 1) := by decide +kernel
theorem d_M_set_45 : decode b_M_set 45 = .ok (.getfield 23, 3) := by decide +kernel
theorem d_M_set_48 : decode b_M_set 48 = .ok (.iconst 3, 1) := by decide +kernel
theorem d_M_set_49 : decode b_M_set 49 = .ok (.iload_n 1, 1) := by decide +kernel
theorem d_M_set_50 : decode b_M_set 50 = .ok (.imul, 1) := by decide +kernel
theorem d_M_set_51 : decode b_M_set 51 = .ok (.iconst 2, 1) := by decide +kernel
theorem d_M_set_52 : decode b_M_set 52 = .ok (.iadd, 1) := by decide +kernel
theorem d_M_set_53 : decode b_M_set 53 = .ok (.iload 4, 2) := by decide +kernel
theorem d_M_set_55 : decode b_M_set 55 = .ok (.iastore, 1) := by decide +kernel
theorem d_M_set_56 : decode b_M_set 56 = .ok (.iload_n 2, 1) := by decide +kernel
theorem d_M_set_57 : decode b_M_set 57 = .ok (.invokestatic 82, 3) := by decide +kernel
theorem d_M_set_60 : decode b_M_set 60 = .ok (.iload_n 3, 1) := by decide +kernel
theorem d_M_set_61 : decode b_M_set 61 = .ok (.ifCond .ge 7, 3) := by decide +kernel
theorem d_M_set_64 : decode b_M_set 64 = .ok (.iconst 0, 1) := by decide +kernel
theorem d_M_set_65 : decode b_M_set 65 = .ok (.goto 7, 3) := by decide +kernel
theorem d_M_set_68 : decode b_M_set 68 = .ok (.iload_n 3, 1) := by decide +kernel
theorem d_M_set_69 : decode b_M_set 69 = .ok (.invokestatic 82, 3) := by decide +kernel
theorem d_M_set_72 : decode b_M_set 72 = .ok (.ior, 1) := by decide +kernel
theorem d_M_set_73 : decode b_M_set 73 = .ok (.iload 4, 2) := by decide +kernel
theorem d_M_set_75 : decode b_M_set 75 = .ok (.ifCond .ge 7, 3) := by decide +kernel
theorem d_M_set_78 : decode b_M_set 78 = .ok (.iconst 0, 1) := by decide +kernel
theorem d_M_set_79 : decode b_M_set 79 = .ok (.goto 8, 3) := by decide +kernel
theorem d_M_set_82 : decode b_M_set 82 = .ok (.iload 4, 2) := by decide +kernel
theorem d_M_set_84 : decode b_M_set 84 = .ok (.invokestatic 82, 3) := by decide +kernel
theorem d_M_set_87 : decode b_M_set 87 = .ok (.ior, 1) := by decide +kernel
theorem d_M_set_88 : decode b_M_set 88 = .ok (.istore 5, 2) := by decide +kernel
theorem d_M_set_90 : decode b_M_set 90 = .ok (.iload 5, 2) := by decide +kernel
theorem d_M_set_92 : decode b_M_set 92 = .ok (.iconst 3, 1) := by decide +kernel
theorem d_M_set_93 : decode b_M_set 93 = .ok (.iand, 1) := by decide +kernel
theorem d_M_set_94 : decode b_M_set 94 = .ok (.iconst 3, 1) := by decide +kernel
theorem d_M_set_95 : decode b_M_set 95 = .ok (.if_icmp .ne 7, 3) := by decide +kernel
theorem d_M_set_98 : decode b_M_set 98 = .ok (.iconst 1, 1) := by decide +kernel
theorem d_M_set_99 : decode b_M_set 99 = .ok (.goto 4, 3) := by decide +kernel
theorem d_M_set_102 : decode b_M_set 102 = .ok (.iconst 0, 1) := by decide +kernel
theorem d_M_set_103 : decode b_M_set 103 = .ok (.ireturn, 1) := by decide +kernel
theorem d_M_keep_0 : decode b_M_keep 0 = .ok (.aload_n 0, 1) := by decide +kernel
theorem d_M_keep_1 : decode b_M_keep 1 = .ok (.aload_n 0, 1) := by decide +kernel
theorem d_M_keep_2 : decode b_M_keep 2 = .ok (.getfield 85, 3) := by decide +kernel
theorem d_M_keep_5 : decode b_M_keep 5 = .ok (.putfield 135, 3) := by decide +kernel
theorem d_M_keep_8 : decode b_M_keep 8 = .ok (.iconst 0, 1) := by decide +kernel
theorem d_M_keep_9 : decode b_M_keep 9 = .ok (.istore_n 1, 1) := by decide +kernel
theorem d_M_keep_10 : decode b_M_keep 10 = .ok (.iload_n 1, 1) := by decide +kernel
theorem d_M_keep_11 : decode b_M_keep 11 = .ok (.bipush 6, 2) := by decide +kernel
theorem d_M_keep_13 : decode b_M_keep 13 = .ok (.if_icmp .ge 21, 3) := by decide +kernel
theorem d_M_keep_16 : decode b_M_keep 16 = .ok (.aload_n 0, 1) := by decide +kernel
theorem d_M_keep_17 : decode b_M_keep 17 = .ok (.getfield 29, 3) := by decide +kernel
theorem d_M_keep_20 : decode b_M_keep 20 = .ok (.iload_n 1, 1) := by decide +kernel
theorem d_M_keep_21 : decode b_M_keep 21 = .ok (.aload_n 0, 1) := by decide +kernel
theorem d_M_keep_22 : decode b_M_keep 22 = .ok (.getfield 23, 3) := by decide +kernel
theorem d_M_keep_25 : decode b_M_keep 25 = .ok (.iload_n 1, 1) := by decide +kernel
theorem d_M_keep_26 : decode b_M_keep 26 = .ok (.iaload, 1) := by decide +kernel
theorem d_M_keep_27 : decode b_M_keep 27 = .ok (.iastore, 1) := by decide +kernel
theorem d_M_keep_28 : decode b_M_keep 28 = .ok (.iinc 1 1, 3) := by decide +kernel
theorem d_M_keep_31 : decode b_M_keep 31 = .ok (.goto (-21), 3) := by decide +kernel
theorem d_M_keep_34 : decode b_M_keep 34 = .ok (.aload_n 0, 1) := by decide +kernel
theorem d_M_keep_35 : decode b_M_keep 35 = .ok (.getfield 26, 3) := by decide +kernel
theorem d_M_keep_38 : decode b_M_keep 38 = .ok (.iconst 0, 1) := by decide +kernel
theorem d_M_keep_39 : decode b_M_keep 39 = .ok (.aload_n 0, 1) := by decide +kernel
theorem d_M_keep_40 : decode b_M_keep 40 = .ok (.getfield 20, 3) := by decide +kernel
theorem d_M_keep_43 : decode b_M_keep 43 = .ok (.iconst 0, 1) := by decide +kernel
theorem d_M_keep_44 : decode b_M_keep 44 = .ok (.iaload, 1) := by decide +kernel
theorem d_M_keep_45 : decode b_M_keep 45 = .ok (.iastore, 1) := by decide +kernel
theorem d_M_keep_46 : decode b_M_keep 46 = .ok (.aload_n 0, 1) := by decide +kernel
theorem d_M_keep_47 : decode b_M_keep 47 = .ok (.getfield 26, 3) := by decide +kernel
theorem d_M_keep_50 : decode b_M_keep 50 = .ok (.iconst 1, 1) := by decide +kernel
theorem d_M_keep_51 : decode b_M_keep 51 = .ok (.aload_n 0, 1) := by decide +kernel
theorem d_M_keep_52 : decode b_M_keep 52 = .ok (.getfield 20, 3) := by decide +kernel
theorem d_M_keep_55 : decode b_M_keep 55 = .ok (.iconst 1, 1) := by decide +kernel
theorem d_M_keep_56 : decode b_M_keep 56 = .ok (.iaload, 1) := by decide +kernel
theorem d_M_keep_57 : decode b_M_keep 57 = .ok (.iastore, 1) := by decide +kernel
theorem d_M_keep_58 : decode b_M_keep 58 = .ok (.return_, 1) := by decide +kernel
theorem d_M_putBack_0 : decode b_M_putBack 0 = .ok (.aload_n 0, 1) := by decide +kernel
theorem d_M_putBack_1 : decode b_M_putBack 1 = .ok (.aload_n 0, 1) := by decide +kernel
theorem d_M_putBack_2 : decode b_M_putBack 2 = .ok (.getfield 135, 3) := by decide +kernel
theorem d_M_putBack_5 : decode b_M_putBack 5 = .ok (.putfield 85, 3) := by decide +kernel
theorem d_M_putBack_8 : decode b_M_putBack 8 = .ok (.iconst 0, 1) := by decide +kernel
theorem d_M_putBack_9 : decode b_M_putBack 9 = .ok (.istore_n 1, 1) := by decide +kernel
theorem d_M_putBack_10 : decode b_M_putBack 10 = .ok (.iload_n 1, 1) := by decide +kernel
theorem d_M_putBack_11 : decode b_M_putBack 11 = .ok (.bipush 6, 2) := by decide +kernel
theorem d_M_putBack_13 : decode b_M_putBack 13 = .ok (.if_icmp .ge 21, 3) := by decide +kernel
theorem d_M_putBack_16 : decode b_M_putBack 16 = .ok (.aload_n 0, 1) := by decide +kernel
theorem d_M_putBack_17 : decode b_M_putBack 17 = .ok (.getfield 23, 3) := by decide +kernel
theorem d_M_putBack_20 : decode b_M_putBack 20 = .ok (.iload_n 1, 1) := by decide +kernel
theorem d_M_putBack_21 : decode b_M_putBack 21 = .ok (.aload_n 0, 1) := by decide +kernel
theorem d_M_putBack_22 : decode b_M_putBack 22 = .ok (.getfield 29, 3) := by decide +kernel
theorem d_M_putBack_25 : decode b_M_putBack 25 = .ok (.iload_n 1, 1) := by decide +kernel
theorem d_M_putBack_26 : decode b_M_putBack 26 = .ok (.iaload, 1) := by decide +kernel
theorem d_M_putBack_27 : decode b_M_putBack 27 = .ok (.iastore, 1) := by decide +kernel
theorem d_M_putBack_28 : decode b_M_putBack 28 = .ok (.iinc 1 1, 3) := by decide +kernel
theorem d_M_putBack_31 : decode b_M_putBack 31 = .ok (.goto (-21), 3) := by decide +kernel
theorem d_M_putBack_34 : decode b_M_putBack 34 = .ok (.aload_n 0, 1) := by decide +kernel
theorem d_M_putBack_35 : decode b_M_putBack 35 = .ok (.getfield 20, 3) := by decide +kernel
theorem d_M_putBack_38 : decode b_M_putBack 38 = .ok (.iconst 0, 1) := by decide +kernel
theorem d_M_putBack_39 : decode b_M_putBack 39 = .ok (.aload_n 0, 1) := by decide +kernel
theorem d_M_putBack_40 : decode b_M_putBack 40 = .ok (.getfield 26, 3) := by decide +kernel
theorem d_M_putBack_43 : decode b_M_putBack 43 = .ok (.iconst 0, 1) := by decide +kernel
theorem d_M_putBack_44 : decode b_M_putBack 44 = .ok (.iaload, 1) := by decide +kernel
theorem d_M_putBack_45 : decode b_M_putBack 45 = .ok (.iastore, 1) := by decide +kernel
theorem d_M_putBack_46 : decode b_M_putBack 46 = .ok (.aload_n 0, 1) := by decide +kernel
theorem d_M_putBack_47 : decode b_M_putBack 47 = .ok (.getfield 20, 3) := by decide +kernel
theorem d_M_putBack_50 : decode b_M_putBack 50 = .ok (.iconst 1, 1) := by decide +kernel
theorem d_M_putBack_51 : decode b_M_putBack 51 = .ok (.aload_n 0, 1) := by decide +kernel
theorem d_M_putBack_52 : decode b_M_putBack 52 = .ok (.getfield 26, 3) := by decide +kernel
theorem d_M_putBack_55 : decode b_M_putBack 55 = .ok (.iconst 1, 1) := by decide +kernel
theorem d_M_putBack_56 : decode b_M_putBack 56 = .ok (.iaload, 1) := by decide +kernel
theorem d_M_putBack_57 : decode b_M_putBack 57 = .ok (.iastore, 1) := by decide +kernel
theorem d_M_putBack_58 : decode b_M_putBack 58 = .ok (.return_, 1) := by decide +kernel
theorem d_M_alone_0 : decode b_M_alone 0 = .ok (.aload_n 0, 1) := by decide +kernel
theorem d_M_alone_1 : decode b_M_alone 1 = .ok (.iconst 1, 1) := by decide +kernel
theorem d_M_alone_2 : decode b_M_alone 2 = .ok (.putfield 85, 3) := by decide +kernel
theorem d_M_alone_5 : decode b_M_alone 5 = .ok (.iconst 0, 1) := by decide +kernel
theorem d_M_alone_6 : decode b_M_alone 6 = .ok (.istore_n 2, 1) := by decide +kernel
theorem d_M_alone_7 : decode b_M_alone 7 = .ok (.iload_n 2, 1) := by decide +kernel
theorem d_M_alone_8 : decode b_M_alone 8 = .ok (.bipush 27, 2) := by decide +kernel
theorem d_M_alone_10 : decode b_M_alone 10 = .ok (.if_icmp .ge 106, 3) := by decide +kernel
theorem d_M_alone_13 : decode b_M_alone 13 = .ok (.iload_n 1, 1) := by decide +kernel
theorem d_M_alone_14 : decode b_M_alone 14 = .ok (.iconst 1, 1) := by decide +kernel
theorem d_M_alone_15 : decode b_M_alone 15 = .ok (.if_icmp .le 9, 3) := by decide +kernel
theorem d_M_alone_18 : decode b_M_alone 18 = .ok (.iload_n 2, 1) := by decide +kernel
theorem d_M_alone_19 : decode b_M_alone 19 = .ok (.iconst 1, 1) := by decide +kernel
theorem d_M_alone_20 : decode b_M_alone 20 = .ok (.iadd, 1) := by decide +kernel
theorem d_M_alone_21 : decode b_M_alone 21 = .ok (.goto 5, 3) := by decide +kernel
theorem d_M_alone_24 : decode b_M_alone 24 = .ok (.bipush 26, 2) := by decide +kernel
theorem d_M_alone_26 : decode b_M_alone 26 = .ok (.istore_n 3, 1) := by decide +kernel
theorem d_M_alone_27 : decode b_M_alone 27 = .ok (.iload_n 3, 1) := by decide +kernel
theorem d_M_alone_28 : decode b_M_alone 28 = .ok (.bipush 27, 2) := by decide +kernel
theorem d_M_alone_30 : decode b_M_alone 30 = .ok (.if_icmp .ge 80, 3) := by decide +kernel
theorem d_M_alone_33 : decode b_M_alone 33 = .ok (.iload_n 1, 1) := by decide +kernel
theorem d_M_alone_34 : decode b_M_alone 34 = .ok (.iconst 2, 1) := by decide +kernel
theorem d_M_alone_35 : decode b_M_alone 35 = .ok (.if_icmp .le 9, 3) := by decide +kernel
theorem d_M_alone_38 : decode b_M_alone 38 = .ok (.iload_n 3, 1) := by decide +kernel
theorem d_M_alone_39 : decode b_M_alone 39 = .ok (.iconst 1, 1) := by decide +kernel
theorem d_M_alone_40 : decode b_M_alone 40 = .ok (.iadd, 1) := by decide +kernel
theorem d_M_alone_41 : decode b_M_alone 41 = .ok (.goto 5, 3) := by decide +kernel
theorem d_M_alone_44 : decode b_M_alone 44 = .ok (.bipush 26, 2) := by decide +kernel
theorem d_M_alone_46 : decode b_M_alone 46 = .ok (.istore 4, 2) := by decide +kernel
theorem d_M_alone_48 : decode b_M_alone 48 = .ok (.iload 4, 2) := by decide +kernel
theorem d_M_alone_50 : decode b_M_alone 50 = .ok (.bipush 27, 2) := by decide +kernel
theorem d_M_alone_52 : decode b_M_alone 52 = .ok (.if_icmp .ge 52, 3) := by decide +kernel
theorem d_M_alone_55 : decode b_M_alone 55 = .ok (.aload_n 0, 1) := by decide +kernel
theorem d_M_alone_56 : decode b_M_alone 56 = .ok (.iconst 0, 1) := by decide +kernel
theorem d_M_alone_57 : decode b_M_alone 57 = .ok (.iload_n 2, 1) := by decide +kernel
theorem d_M_alone_58 : decode b_M_alone 58 = .ok (.iload_n 1, 1) := by decide +kernel
theorem d_M_alone_59 : decode b_M_alone 59 = .ok (.iconst 1, 1) := by decide +kernel
theorem d_M_alone_60 : decode b_M_alone 60 = .ok (.if_icmp .le 7, 3) := by decide +kernel
theorem d_M_alone_63 : decode b_M_alone 63 = .ok (.iload_n 3, 1) := by decide +kernel
theorem d_M_alone_64 : decode b_M_alone 64 = .ok (.goto 4, 3) := by decide +kernel
theorem d_M_alone_67 : decode b_M_alone 67 = .ok (.iconst (-1), 1) := by decide +kernel
theorem d_M_alone_68 : decode b_M_alone 68 = .ok (.iload_n 1, 1) := by decide +kernel
theorem d_M_alone_69 : decode b_M_alone 69 = .ok (.iconst 2, 1) := by decide +kernel
theorem d_M_alone_70 : decode b_M_alone 70 = .ok (.if_icmp .le 8, 3) := by decide +kernel
theorem d_M_alone_73 : decode b_M_alone 73 = .ok (.iload 4, 2) := by decide +kernel
theorem d_M_alone_75 : decode b_M_alone 75 = .ok (.goto 4, 3) := by decide +kernel
theorem d_M_alone_78 : decode b_M_alone 78 = .ok (.iconst (-1), 1) := by decide +kernel
theorem d_M_alone_79 : decode b_M_alone 79 = .ok (.invokevirtual 138, 3) := by decide +kernel
theorem d_M_alone_82 : decode b_M_alone 82 = .ok (.istore 5, 2) := by decide +kernel
theorem d_M_alone_84 : decode b_M_alone 84 = .ok (.iload 5, 2) := by decide +kernel
theorem d_M_alone_86 : decode b_M_alone 86 = .ok (.ifCond .eq 12, 3) := by decide +kernel
theorem d_M_alone_89 : decode b_M_alone 89 = .ok (.aload_n 0, 1) := by decide +kernel
theorem d_M_alone_90 : decode b_M_alone 90 = .ok (.invokevirtual 141, 3) := by decide +kernel
theorem d_M_alone_93 : decode b_M_alone 93 = .ok (.ifCond .eq 5, 3) := by decide +kernel
theorem d_M_alone_96 : decode b_M_alone 96 = .ok (.iconst 1, 1) := by decide +kernel
theorem d_M_alone_97 : decode b_M_alone 97 = .ok (.ireturn, 1) := by decide +kernel
theorem d_M_alone_98 : decode b_M_alone 98 = .ok (.iinc 4 1, 3) := by decide +kernel
theorem d_M_alone_101 : decode b_M_alone 101 = .ok (.goto (-53), 3) := by decide +kernel
theorem d_M_alone_104 : decode b_M_alone 104 = .ok (.iinc 3 1, 3) := by decide +kernel
theorem d_M_alone_107 : decode b_M_alone 107 = .ok (.goto (-80), 3) := by decide +kernel
theorem d_M_alone_110 : decode b_M_alone 110 = .ok (.iinc 2 1, 3) := by decide +kernel
theorem d_M_alone_113 : decode b_M_alone 113 = .ok (.goto (-106), 3) := by decide +kernel
theorem d_M_alone_116 : decode b_M_alone 116 = .ok (.iconst 0, 1) := by decide +kernel
theorem d_M_alone_117 : decode b_M_alone 117 = .ok (.ireturn, 1) := by decide +kernel
set_option maxHeartbeats 1000000 in
set_option maxRecDepth 100000 in
theorem c_M_set (l : Launch) (dC : Nat → ClassId) (dI : Nat → Nat → Nat) (h_o h_line h_fact h_marked h_many h_codes h_oldMany h_oldCodes h_body h_roundOf h_fresh : Nat) (k_many k_codes : ClassId) (sz : Nat) (v_typed : Int32) (v_count : Int32) (v_oldCount : Int32) (v_read : Int32) (v_last : Int32) (v_many : Nat → Int32) (v_codes : Nat → Int32) (x1 : Int32) (x2 : Int32) (x3 : Int32) (x4 : Int32) (r0 : Int32) (u0 : (Nat → Int32) × (Nat → Int32)) (h : m_M_set v_many v_codes x1 x2 x3 x4 = some (r0, u0)) : Met l y_M_set w_M_set ({ frames := 1, cells := 0, slots := 0, locals := 20 } : Room) (va_Pc [.ref h_o, .int x1, .int x2, .int x3, .int x4] (fun U => U.heap.size = sz ∧ va_P (dC, dI) classes [(h_o, .inr (4, [.ref h_line, .int v_typed, .ref h_fact, .ref h_marked, .int v_count, .ref h_many, .ref h_codes, .int v_oldCount, .ref h_oldMany, .ref h_oldCodes, .int v_read, .ref h_body, .ref h_roundOf, .ref h_fresh, .int v_last])), (h_many, .inl (k_many, 2, .inl v_many)), (h_codes, .inl (k_codes, 6, .inl v_codes))] U.heap ∧ va_K (dC, dI) classes [(k_many, .int), (k_codes, .int)] U ∧ va_D (fun _ => True) [(h_o, .inr (4, [.ref h_line, .int v_typed, .ref h_fact, .ref h_marked, .int v_count, .ref h_many, .ref h_codes, .int v_oldCount, .ref h_oldMany, .ref h_oldCodes, .int v_read, .ref h_body, .ref h_roundOf, .ref h_fresh, .int v_last])), (h_many, .inl (k_many, 2, .inl v_many)), (h_codes, .inl (k_codes, 6, .inl v_codes))])) (va_Qi (fun (r : Int32) (u : (Nat → Int32) × (Nat → Int32)) => r = r0 ∧ u = u0) (fun (u : (Nat → Int32) × (Nat → Int32)) (t : State) => va_P (dC, dI) classes [(h_o, .inr (4, [.ref h_line, .int v_typed, .ref h_fact, .ref h_marked, .int v_count, .ref h_many, .ref h_codes, .int v_oldCount, .ref h_oldMany, .ref h_oldCodes, .int v_read, .ref h_body, .ref h_roundOf, .ref h_fresh, .int v_last])), (h_many, .inl (k_many, 2, .inl u.1)), (h_codes, .inl (k_codes, 6, .inl u.2))] t.heap ∧ va_K (dC, dI) classes [(k_many, .int), (k_codes, .int)] t ∧ va_D (va_A [(h_o, .inr (4, [.ref h_line, .int v_typed, .ref h_fact, .ref h_marked, .int v_count, .ref h_many, .ref h_codes, .int v_oldCount, .ref h_oldMany, .ref h_oldCodes, .int v_read, .ref h_body, .ref h_roundOf, .ref h_fresh, .int v_last])), (h_many, .inl (k_many, 2, .inl v_many)), (h_codes, .inl (k_codes, 6, .inl v_codes))] sz) [(h_o, .inr (4, [.ref h_line, .int v_typed, .ref h_fact, .ref h_marked, .int v_count, .ref h_many, .ref h_codes, .int v_oldCount, .ref h_oldMany, .ref h_oldCodes, .int v_read, .ref h_body, .ref h_roundOf, .ref h_fresh, .int v_last])), (h_many, .inl (k_many, 2, .inl u.1)), (h_codes, .inl (k_codes, 6, .inl u.2))]) (va_A [(h_o, .inr (4, [.ref h_line, .int v_typed, .ref h_fact, .ref h_marked, .int v_count, .ref h_many, .ref h_codes, .int v_oldCount, .ref h_oldMany, .ref h_oldCodes, .int v_read, .ref h_body, .ref h_roundOf, .ref h_fresh, .int v_last])), (h_many, .inl (k_many, 2, .inl v_many)), (h_codes, .inl (k_codes, 6, .inl v_codes))] sz)) 0 0 (va_A [(h_o, .inr (4, [.ref h_line, .int v_typed, .ref h_fact, .ref h_marked, .int v_count, .ref h_many, .ref h_codes, .int v_oldCount, .ref h_oldMany, .ref h_oldCodes, .int v_read, .ref h_body, .ref h_roundOf, .ref h_fresh, .int v_last])), (h_many, .inl (k_many, 2, .inl v_many)), (h_codes, .inl (k_codes, 6, .inl v_codes))] sz) := by
  refine Met.ofW (cc := b_M_set) (maxL := 6) (ret := (some .boolean)) (by decide) rfl ?_
  intro p e s m args below meth c s₁ B hml hv
  obtain ⟨rfl, hsz, hP, hK, hD0⟩ := hv
  have hx := B.exec
  have hb := B.bytes
  have hr := B.returns
  have hts0 := atoms_spec (ws := w_M_set) B.pre
  have hts : ∀ w ∈ lw_gd, w.before ([.ref h_o, .int x1, .int x2, .int x3, .int x4] : List Value).toArray s = true := fun w h9 => hts0 w (List.mem_cons_of_mem _ h9)
  have hown : s.vm.findClass R_M = some m.cls := findClass_of_methodNamed B.named
  have hlocks := B.notSynchronized
  subst hsz
  have hD := hD0.self (sz := s.heap.size)
  generalize hAe : va_A [(h_o, .inr (4, [.ref h_line, .int v_typed, .ref h_fact, .ref h_marked, .int v_count, .ref h_many, .ref h_codes, .int v_oldCount, .ref h_oldMany, .ref h_oldCodes, .int v_read, .ref h_body, .ref h_roundOf, .ref h_fresh, .int v_last])), (h_many, .inl (k_many, 2, .inl v_many)), (h_codes, .inl (k_codes, 6, .inl v_codes))] s.heap.size = A at hD ⊢
  have hA : ∀ q : Nat, s.heap.size ≤ q → A q := fun q h9 => by rw [← hAe]; exact Or.inr h9
  obtain ⟨H, eH⟩ : ∃ H : Heap, H = s.heap := ⟨_, rfl⟩
  have hS : va_S A s.heap H [] := by rw [eH]; exact va_S.rf
  have hP : va_P (dC, dI) classes [(h_o, .inr (4, [.ref h_line, .int v_typed, .ref h_fact, .ref h_marked, .int v_count, .ref h_many, .ref h_codes, .int v_oldCount, .ref h_oldMany, .ref h_oldCodes, .int v_read, .ref h_body, .ref h_roundOf, .ref h_fresh, .int v_last])), (h_many, .inl (k_many, 2, .inl v_many)), (h_codes, .inl (k_codes, 6, .inl v_codes))] H := by rw [eH]; exact hP
  refine W_gen (fun Q hQ => ?_)
  refine W_heap eH ?_
  clear eH
  have hl := lv_entry ([.ref h_o, .int x1, .int x2, .int x3, .int x4]) (n := 6) (Nat.le_of_ble_eq_true rfl)
  rw [lg_entry_eq]
  generalize (lg_sl ([.ref h_o, .int x1, .int x2, .int x3, .int x4]) ++ List.replicate (6 - (lg_sl ([.ref h_o, .int x1, .int x2, .int x3, .int x4])).length) Slot.unset).toArray = ls at hl ⊢
  have hl : lv_has ls 6 [(0, .ref h_o), (1, .int x1), (2, .int x2), (3, .int x3), (4, .int x4)] := hl
  have J_87 : ∀ (v_many : Nat → Int32) (v_codes : Nat → Int32) (y0 : Int32) (y1 : Int32), m_M_set_87 v_many v_codes y0 y1 = some (r0, u0) → ∀ (H : Heap) (locs : List Loc), va_P (dC, dI) classes [(h_o, .inr (4, [.ref h_line, .int v_typed, .ref h_fact, .ref h_marked, .int v_count, .ref h_many, .ref h_codes, .int v_oldCount, .ref h_oldMany, .ref h_oldCodes, .int v_read, .ref h_body, .ref h_roundOf, .ref h_fresh, .int v_last])), (h_many, .inl (k_many, 2, .inl v_many)), (h_codes, .inl (k_codes, 6, .inl v_codes))] H → va_D A [(h_o, .inr (4, [.ref h_line, .int v_typed, .ref h_fact, .ref h_marked, .int v_count, .ref h_many, .ref h_codes, .int v_oldCount, .ref h_oldMany, .ref h_oldCodes, .int v_read, .ref h_body, .ref h_roundOf, .ref h_fresh, .int v_last])), (h_many, .inl (k_many, 2, .inl v_many)), (h_codes, .inl (k_codes, 6, .inl v_codes))] → va_S A s.heap H locs → ∀ (ls : Array Slot), lv_has ls 6 [] → W p l e (headSpec w_M_set ({ frames := 1, cells := 0, slots := 0, locals := 20 } : Room)).room s m ([.ref h_o, .int x1, .int x2, .int x3, .int x4] : List Value).toArray below meth c H locs 0 0 Q (F0 m 87 ls [.int y0, .int y1]) := by
    intro v_many v_codes y0 y1 h H locs hP hD hS ls hl
    unfold m_M_set_87 at h
    refine lv_ior hx hb d_M_set_87 ?_
    refine lv_istore (lv' := [(5, .int (y1 ||| y0))]) hx hb d_M_set_88 hl (by decide) rfl (fun ls hl => ?_)
    refine lv_iload hx hb d_M_set_90 (lv_at hl 0 rfl) ?_
    refine lv_iconst (v := (nI 3)) hx hb d_M_set_92 (by decide) ?_
    refine lv_iand hx hb d_M_set_93 ?_
    refine lv_iconst (v := (nI 3)) hx hb d_M_set_94 (by decide) ?_
    refine lv_icmp_ne (tgt := 102) hx hb d_M_set_95 (by decide) (fun c_95 => ?_) (fun c_95 => ?_)
    · have h := of_neg h c_95
      refine lv_iconst (v := (nI 0)) hx hb d_M_set_102 (by decide) ?_
      rw [hQ]
      exact W.zret (v := (nI 0)) hx hb hr rfl (fun t ht hW => ⟨⟨(nI 0), (v_many, v_codes), rfl, Prod.mk.inj (Option.some.inj h), by rw [ht]; exact hP, va_K.moved hW.alike hK, hD⟩, hS.F ht⟩) hS.2.2 d_M_set_103
    · have h := of_pos h c_95
      refine lv_iconst (v := (nI 1)) hx hb d_M_set_98 (by decide) ?_
      refine lv_goto (tgt := 103) hx hb d_M_set_99 (by decide) ?_
      rw [hQ]
      exact W.zret (v := (nI 1)) hx hb hr rfl (fun t ht hW => ⟨⟨(nI 1), (v_many, v_codes), rfl, Prod.mk.inj (Option.some.inj h), by rw [ht]; exact hP, va_K.moved hW.alike hK, hD⟩, hS.F ht⟩) hS.2.2 d_M_set_103
  have J_72 : ∀ (v_many : Nat → Int32) (v_codes : Nat → Int32) (z4 : Int32) (y0 : Int32) (y1 : Int32), m_M_set_72 v_many v_codes z4 y0 y1 = some (r0, u0) → ∀ (H : Heap) (locs : List Loc), va_P (dC, dI) classes [(h_o, .inr (4, [.ref h_line, .int v_typed, .ref h_fact, .ref h_marked, .int v_count, .ref h_many, .ref h_codes, .int v_oldCount, .ref h_oldMany, .ref h_oldCodes, .int v_read, .ref h_body, .ref h_roundOf, .ref h_fresh, .int v_last])), (h_many, .inl (k_many, 2, .inl v_many)), (h_codes, .inl (k_codes, 6, .inl v_codes))] H → va_D A [(h_o, .inr (4, [.ref h_line, .int v_typed, .ref h_fact, .ref h_marked, .int v_count, .ref h_many, .ref h_codes, .int v_oldCount, .ref h_oldMany, .ref h_oldCodes, .int v_read, .ref h_body, .ref h_roundOf, .ref h_fresh, .int v_last])), (h_many, .inl (k_many, 2, .inl v_many)), (h_codes, .inl (k_codes, 6, .inl v_codes))] → va_S A s.heap H locs → ∀ (ls : Array Slot), lv_has ls 6 [(4, .int z4)] → W p l e (headSpec w_M_set ({ frames := 1, cells := 0, slots := 0, locals := 20 } : Room)).room s m ([.ref h_o, .int x1, .int x2, .int x3, .int x4] : List Value).toArray below meth c H locs 0 0 Q (F0 m 72 ls [.int y0, .int y1]) := by
    intro v_many v_codes z4 y0 y1 h H locs hP hD hS ls hl
    unfold m_M_set_72 at h
    refine lv_ior hx hb d_M_set_72 ?_
    refine lv_iload hx hb d_M_set_73 (lv_at hl 0 rfl) ?_
    refine lv_if_ge (tgt := 82) hx hb d_M_set_75 (by decide) (fun c_75 => ?_) (fun c_75 => ?_)
    · have h := of_pos h c_75
      refine lv_iload hx hb d_M_set_82 (lv_at hl 0 rfl) ?_
      have hPc := hP.sub (ws' := []) [] rfl
      have hDc := hD.sub (ws' := []) [] (by decide) rfl
      have hKc := hK.sub (tys' := []) [] rfl
      have hFc := va_free (wc := []) hD hS hA [] rfl
      obtain ⟨v_84, hc_84, h⟩ := of_bind h
      refine va_calli (va_runS (As := [.int z4]) (rest := [.int (y1 ||| y0)]) ⟨hx, hb, hml, hown, hts⟩ (c_M_variables l dC dI H.size z4 v_84.1 v_84.2 hc_84) (va_cwS 1 hts (gS mlk_M_82 sta_M_variables ini_M cod_M_variables) rfl rfl rfl (by decide +kernel) ⟨Nat.le_of_ble_eq_true rfl, Nat.le_of_ble_eq_true rfl⟩) ⟨fun a U g mk q => by obtain ⟨q0, q1, qP, qK, qD⟩ := q; exact ⟨q0, q1, qP, va_K.moved (u := U) (U := U.calling g mk a) (Vm.Alike.refl U.vm) qK, qD⟩, fun U hU hW => ⟨rfl, by rw [hU], by rw [hU]; exact hPc, va_K.moved hW.alike hKc, hDc.weaken (fun _ _ _ _ => trivial)⟩⟩ rfl rfl hl.1 rfl (lv_room (Nat.le_of_ble_eq_true rfl)) d_M_set_84 ⟨Nat.le_of_ble_eq_true rfl, Nat.le_of_ble_eq_true rfl⟩) hS (fun q _ h9 => hFc q h9) hFc (fun r_84 u t H1 locs ht hvm hw hB hz1 hk1 hS => ?_)
      obtain ⟨rfl, rfl⟩ := hw
      obtain ⟨hP1, hK1, hD1⟩ := hB
      rw [ht] at hP1
      obtain ⟨hP, hD⟩ := va_join (wr := [(h_o, .inr (4, [.ref h_line, .int v_typed, .ref h_fact, .ref h_marked, .int v_count, .ref h_many, .ref h_codes, .int v_oldCount, .ref h_oldMany, .ref h_oldCodes, .int v_read, .ref h_body, .ref h_roundOf, .ref h_fresh, .int v_last])), (h_many, .inl (k_many, 2, .inl v_many)), (h_codes, .inl (k_codes, 6, .inl v_codes))]) (w1 := []) hP hD [] [0, 1, 2] rfl rfl (by decide) (by decide) hk1 hFc hP1 hD1
      have hP := hP.sub (ws' := [(h_o, .inr (4, [.ref h_line, .int v_typed, .ref h_fact, .ref h_marked, .int v_count, .ref h_many, .ref h_codes, .int v_oldCount, .ref h_oldMany, .ref h_oldCodes, .int v_read, .ref h_body, .ref h_roundOf, .ref h_fresh, .int v_last])), (h_many, .inl (k_many, 2, .inl v_many)), (h_codes, .inl (k_codes, 6, .inl v_codes))]) [0, 1, 2] rfl
      have hD := hD.sub (ws' := [(h_o, .inr (4, [.ref h_line, .int v_typed, .ref h_fact, .ref h_marked, .int v_count, .ref h_many, .ref h_codes, .int v_oldCount, .ref h_oldMany, .ref h_oldCodes, .int v_read, .ref h_body, .ref h_roundOf, .ref h_fresh, .int v_last])), (h_many, .inl (k_many, 2, .inl v_many)), (h_codes, .inl (k_codes, 6, .inl v_codes))]) [0, 1, 2] (by decide) rfl
      generalize H1 = H at hP hS ⊢
      exact J_87 v_many v_codes v_84.1 (y1 ||| y0) h _ _ hP hD hS ls (lv_sub hl [] rfl)
    · have h := of_neg h c_75
      refine lv_iconst (v := (nI 0)) hx hb d_M_set_78 (by decide) ?_
      refine lv_goto (tgt := 87) hx hb d_M_set_79 (by decide) ?_
      exact J_87 v_many v_codes (nI 0) (y1 ||| y0) h _ _ hP hD hS ls (lv_sub hl [] rfl)
  have J_23 : ∀ (v_many : Nat → Int32) (v_codes : Nat → Int32) (z1 : Int32) (z2 : Int32) (z3 : Int32) (z4 : Int32) (y0 : Int32) (y1 : Int32), m_M_set_23 v_many v_codes z1 z2 z3 z4 y0 y1 = some (r0, u0) → ∀ (H : Heap) (locs : List Loc), va_P (dC, dI) classes [(h_o, .inr (4, [.ref h_line, .int v_typed, .ref h_fact, .ref h_marked, .int v_count, .ref h_many, .ref h_codes, .int v_oldCount, .ref h_oldMany, .ref h_oldCodes, .int v_read, .ref h_body, .ref h_roundOf, .ref h_fresh, .int v_last])), (h_many, .inl (k_many, 2, .inl v_many)), (h_codes, .inl (k_codes, 6, .inl v_codes))] H → va_D A [(h_o, .inr (4, [.ref h_line, .int v_typed, .ref h_fact, .ref h_marked, .int v_count, .ref h_many, .ref h_codes, .int v_oldCount, .ref h_oldMany, .ref h_oldCodes, .int v_read, .ref h_body, .ref h_roundOf, .ref h_fresh, .int v_last])), (h_many, .inl (k_many, 2, .inl v_many)), (h_codes, .inl (k_codes, 6, .inl v_codes))] → va_S A s.heap H locs → ∀ (ls : Array Slot), lv_has ls 6 [(0, .ref h_o), (1, .int z1), (2, .int z2), (3, .int z3), (4, .int z4)] → W p l e (headSpec w_M_set ({ frames := 1, cells := 0, slots := 0, locals := 20 } : Room)).room s m ([.ref h_o, .int x1, .int x2, .int x3, .int x4] : List Value).toArray below meth c H locs 0 0 Q (F0 m 23 ls [.int y0, .int y1, .ref h_many]) := by
    intro v_many v_codes z1 z2 z3 z4 y0 y1 h H locs hP hD hS ls hl
    unfold m_M_set_23 at h
    obtain ⟨g_23, h⟩ := of_guard h
    refine va_iast hx hb hK hP hD hS 1 0 rfl rfl (inR_in g_23) d_M_set_23 (fun H locs hP hD hS => ?_)
    have hP : va_P (dC, dI) classes [(h_o, .inr (4, [.ref h_line, .int v_typed, .ref h_fact, .ref h_marked, .int v_count, .ref h_many, .ref h_codes, .int v_oldCount, .ref h_oldMany, .ref h_oldCodes, .int v_read, .ref h_body, .ref h_roundOf, .ref h_fresh, .int v_last])), (h_many, .inl (k_many, 2, .inl (upd v_many y1.toNatClampNeg y0))), (h_codes, .inl (k_codes, 6, .inl v_codes))] H := hP
    have hD : va_D A [(h_o, .inr (4, [.ref h_line, .int v_typed, .ref h_fact, .ref h_marked, .int v_count, .ref h_many, .ref h_codes, .int v_oldCount, .ref h_oldMany, .ref h_oldCodes, .int v_read, .ref h_body, .ref h_roundOf, .ref h_fresh, .int v_last])), (h_many, .inl (k_many, 2, .inl (upd v_many y1.toNatClampNeg y0))), (h_codes, .inl (k_codes, 6, .inl v_codes))] := hD
    refine lv_aload_n hx hb d_M_set_24 rfl (lv_at hl 0 rfl) ?_
    refine va_get (D := (dC, dI)) (ci := 4) (v := .ref h_codes) (C := R_M) (T := F_M) (N := 15) hx hb hts lay_M hown hK hP 0 rfl rfl 6 (by decide) (hts _ flk_M_23) (fun _ h9 => h9) rfl d_M_set_25 ?_
    refine lv_iconst (v := (nI 3)) hx hb d_M_set_28 (by decide) ?_
    refine lv_iload_n hx hb d_M_set_29 rfl (lv_at hl 1 rfl) ?_
    refine lv_imul hx hb d_M_set_30 ?_
    refine lv_iload_n hx hb d_M_set_31 rfl (lv_at hl 2 rfl) ?_
    obtain ⟨g_32, h⟩ := of_guard h
    refine va_iast hx hb hK hP hD hS 2 1 rfl rfl (inR_in g_32) d_M_set_32 (fun H locs hP hD hS => ?_)
    have hP : va_P (dC, dI) classes [(h_o, .inr (4, [.ref h_line, .int v_typed, .ref h_fact, .ref h_marked, .int v_count, .ref h_many, .ref h_codes, .int v_oldCount, .ref h_oldMany, .ref h_oldCodes, .int v_read, .ref h_body, .ref h_roundOf, .ref h_fresh, .int v_last])), (h_many, .inl (k_many, 2, .inl (upd v_many y1.toNatClampNeg y0))), (h_codes, .inl (k_codes, 6, .inl (upd v_codes ((nI 3) * z1).toNatClampNeg z2)))] H := hP
    have hD : va_D A [(h_o, .inr (4, [.ref h_line, .int v_typed, .ref h_fact, .ref h_marked, .int v_count, .ref h_many, .ref h_codes, .int v_oldCount, .ref h_oldMany, .ref h_oldCodes, .int v_read, .ref h_body, .ref h_roundOf, .ref h_fresh, .int v_last])), (h_many, .inl (k_many, 2, .inl (upd v_many y1.toNatClampNeg y0))), (h_codes, .inl (k_codes, 6, .inl (upd v_codes ((nI 3) * z1).toNatClampNeg z2)))] := hD
    refine lv_aload_n hx hb d_M_set_33 rfl (lv_at hl 0 rfl) ?_
    refine va_get (D := (dC, dI)) (ci := 4) (v := .ref h_codes) (C := R_M) (T := F_M) (N := 15) hx hb hts lay_M hown hK hP 0 rfl rfl 6 (by decide) (hts _ flk_M_23) (fun _ h9 => h9) rfl d_M_set_34 ?_
    refine lv_iconst (v := (nI 3)) hx hb d_M_set_37 (by decide) ?_
    refine lv_iload_n hx hb d_M_set_38 rfl (lv_at hl 1 rfl) ?_
    refine lv_imul hx hb d_M_set_39 ?_
    refine lv_iconst (v := (nI 1)) hx hb d_M_set_40 (by decide) ?_
    refine lv_iadd hx hb d_M_set_41 ?_
    refine lv_iload_n hx hb d_M_set_42 rfl (lv_at hl 3 rfl) ?_
    obtain ⟨g_43, h⟩ := of_guard h
    refine va_iast hx hb hK hP hD hS 2 1 rfl rfl (inR_in g_43) d_M_set_43 (fun H locs hP hD hS => ?_)
    have hP : va_P (dC, dI) classes [(h_o, .inr (4, [.ref h_line, .int v_typed, .ref h_fact, .ref h_marked, .int v_count, .ref h_many, .ref h_codes, .int v_oldCount, .ref h_oldMany, .ref h_oldCodes, .int v_read, .ref h_body, .ref h_roundOf, .ref h_fresh, .int v_last])), (h_many, .inl (k_many, 2, .inl (upd v_many y1.toNatClampNeg y0))), (h_codes, .inl (k_codes, 6, .inl (upd (upd v_codes ((nI 3) * z1).toNatClampNeg z2) (((nI 3) * z1) + (nI 1)).toNatClampNeg z3)))] H := hP
    have hD : va_D A [(h_o, .inr (4, [.ref h_line, .int v_typed, .ref h_fact, .ref h_marked, .int v_count, .ref h_many, .ref h_codes, .int v_oldCount, .ref h_oldMany, .ref h_oldCodes, .int v_read, .ref h_body, .ref h_roundOf, .ref h_fresh, .int v_last])), (h_many, .inl (k_many, 2, .inl (upd v_many y1.toNatClampNeg y0))), (h_codes, .inl (k_codes, 6, .inl (upd (upd v_codes ((nI 3) * z1).toNatClampNeg z2) (((nI 3) * z1) + (nI 1)).toNatClampNeg z3)))] := hD
    refine lv_aload_n hx hb d_M_set_44 rfl (lv_at hl 0 rfl) ?_
    refine va_get (D := (dC, dI)) (ci := 4) (v := .ref h_codes) (C := R_M) (T := F_M) (N := 15) hx hb hts lay_M hown hK hP 0 rfl rfl 6 (by decide) (hts _ flk_M_23) (fun _ h9 => h9) rfl d_M_set_45 ?_
    refine lv_iconst (v := (nI 3)) hx hb d_M_set_48 (by decide) ?_
    refine lv_iload_n hx hb d_M_set_49 rfl (lv_at hl 1 rfl) ?_
    refine lv_imul hx hb d_M_set_50 ?_
    refine lv_iconst (v := (nI 2)) hx hb d_M_set_51 (by decide) ?_
    refine lv_iadd hx hb d_M_set_52 ?_
    refine lv_iload hx hb d_M_set_53 (lv_at hl 4 rfl) ?_
    obtain ⟨g_55, h⟩ := of_guard h
    refine va_iast hx hb hK hP hD hS 2 1 rfl rfl (inR_in g_55) d_M_set_55 (fun H locs hP hD hS => ?_)
    have hP : va_P (dC, dI) classes [(h_o, .inr (4, [.ref h_line, .int v_typed, .ref h_fact, .ref h_marked, .int v_count, .ref h_many, .ref h_codes, .int v_oldCount, .ref h_oldMany, .ref h_oldCodes, .int v_read, .ref h_body, .ref h_roundOf, .ref h_fresh, .int v_last])), (h_many, .inl (k_many, 2, .inl (upd v_many y1.toNatClampNeg y0))), (h_codes, .inl (k_codes, 6, .inl (upd (upd (upd v_codes ((nI 3) * z1).toNatClampNeg z2) (((nI 3) * z1) + (nI 1)).toNatClampNeg z3) (((nI 3) * z1) + (nI 2)).toNatClampNeg z4)))] H := hP
    have hD : va_D A [(h_o, .inr (4, [.ref h_line, .int v_typed, .ref h_fact, .ref h_marked, .int v_count, .ref h_many, .ref h_codes, .int v_oldCount, .ref h_oldMany, .ref h_oldCodes, .int v_read, .ref h_body, .ref h_roundOf, .ref h_fresh, .int v_last])), (h_many, .inl (k_many, 2, .inl (upd v_many y1.toNatClampNeg y0))), (h_codes, .inl (k_codes, 6, .inl (upd (upd (upd v_codes ((nI 3) * z1).toNatClampNeg z2) (((nI 3) * z1) + (nI 1)).toNatClampNeg z3) (((nI 3) * z1) + (nI 2)).toNatClampNeg z4)))] := hD
    refine lv_iload_n hx hb d_M_set_56 rfl (lv_at hl 2 rfl) ?_
    have hPc := hP.sub (ws' := []) [] rfl
    have hDc := hD.sub (ws' := []) [] (by decide) rfl
    have hKc := hK.sub (tys' := []) [] rfl
    have hFc := va_free (wc := []) hD hS hA [] rfl
    obtain ⟨v_57, hc_57, h⟩ := of_bind h
    refine va_calli (va_runS (As := [.int z2]) (rest := []) ⟨hx, hb, hml, hown, hts⟩ (c_M_variables l dC dI H.size z2 v_57.1 v_57.2 hc_57) (va_cwS 1 hts (gS mlk_M_82 sta_M_variables ini_M cod_M_variables) rfl rfl rfl (by decide +kernel) ⟨Nat.le_of_ble_eq_true rfl, Nat.le_of_ble_eq_true rfl⟩) ⟨fun a U g mk q => by obtain ⟨q0, q1, qP, qK, qD⟩ := q; exact ⟨q0, q1, qP, va_K.moved (u := U) (U := U.calling g mk a) (Vm.Alike.refl U.vm) qK, qD⟩, fun U hU hW => ⟨rfl, by rw [hU], by rw [hU]; exact hPc, va_K.moved hW.alike hKc, hDc.weaken (fun _ _ _ _ => trivial)⟩⟩ rfl rfl hl.1 rfl (lv_room (Nat.le_of_ble_eq_true rfl)) d_M_set_57 ⟨Nat.le_of_ble_eq_true rfl, Nat.le_of_ble_eq_true rfl⟩) hS (fun q _ h9 => hFc q h9) hFc (fun r_57 u t H1 locs ht hvm hw hB hz1 hk1 hS => ?_)
    obtain ⟨rfl, rfl⟩ := hw
    obtain ⟨hP1, hK1, hD1⟩ := hB
    rw [ht] at hP1
    obtain ⟨hP, hD⟩ := va_join (wr := [(h_o, .inr (4, [.ref h_line, .int v_typed, .ref h_fact, .ref h_marked, .int v_count, .ref h_many, .ref h_codes, .int v_oldCount, .ref h_oldMany, .ref h_oldCodes, .int v_read, .ref h_body, .ref h_roundOf, .ref h_fresh, .int v_last])), (h_many, .inl (k_many, 2, .inl (upd v_many y1.toNatClampNeg y0))), (h_codes, .inl (k_codes, 6, .inl (upd (upd (upd v_codes ((nI 3) * z1).toNatClampNeg z2) (((nI 3) * z1) + (nI 1)).toNatClampNeg z3) (((nI 3) * z1) + (nI 2)).toNatClampNeg z4)))]) (w1 := []) hP hD [] [0, 1, 2] rfl rfl (by decide) (by decide) hk1 hFc hP1 hD1
    have hP := hP.sub (ws' := [(h_o, .inr (4, [.ref h_line, .int v_typed, .ref h_fact, .ref h_marked, .int v_count, .ref h_many, .ref h_codes, .int v_oldCount, .ref h_oldMany, .ref h_oldCodes, .int v_read, .ref h_body, .ref h_roundOf, .ref h_fresh, .int v_last])), (h_many, .inl (k_many, 2, .inl (upd v_many y1.toNatClampNeg y0))), (h_codes, .inl (k_codes, 6, .inl (upd (upd (upd v_codes ((nI 3) * z1).toNatClampNeg z2) (((nI 3) * z1) + (nI 1)).toNatClampNeg z3) (((nI 3) * z1) + (nI 2)).toNatClampNeg z4)))]) [0, 1, 2] rfl
    have hD := hD.sub (ws' := [(h_o, .inr (4, [.ref h_line, .int v_typed, .ref h_fact, .ref h_marked, .int v_count, .ref h_many, .ref h_codes, .int v_oldCount, .ref h_oldMany, .ref h_oldCodes, .int v_read, .ref h_body, .ref h_roundOf, .ref h_fresh, .int v_last])), (h_many, .inl (k_many, 2, .inl (upd v_many y1.toNatClampNeg y0))), (h_codes, .inl (k_codes, 6, .inl (upd (upd (upd v_codes ((nI 3) * z1).toNatClampNeg z2) (((nI 3) * z1) + (nI 1)).toNatClampNeg z3) (((nI 3) * z1) + (nI 2)).toNatClampNeg z4)))]) [0, 1, 2] (by decide) rfl
    generalize H1 = H at hP hS ⊢
    refine lv_iload_n hx hb d_M_set_60 rfl (lv_at hl 3 rfl) ?_
    refine lv_if_ge (tgt := 68) hx hb d_M_set_61 (by decide) (fun c_61 => ?_) (fun c_61 => ?_)
    · have h := of_pos h c_61
      refine lv_iload_n hx hb d_M_set_68 rfl (lv_at hl 3 rfl) ?_
      have hPc := hP.sub (ws' := []) [] rfl
      have hDc := hD.sub (ws' := []) [] (by decide) rfl
      have hKc := hK.sub (tys' := []) [] rfl
      have hFc := va_free (wc := []) hD hS hA [] rfl
      obtain ⟨v_69, hc_69, h⟩ := of_bind h
      refine va_calli (va_runS (As := [.int z3]) (rest := [.int v_57.1]) ⟨hx, hb, hml, hown, hts⟩ (c_M_variables l dC dI H.size z3 v_69.1 v_69.2 hc_69) (va_cwS 1 hts (gS mlk_M_82 sta_M_variables ini_M cod_M_variables) rfl rfl rfl (by decide +kernel) ⟨Nat.le_of_ble_eq_true rfl, Nat.le_of_ble_eq_true rfl⟩) ⟨fun a U g mk q => by obtain ⟨q0, q1, qP, qK, qD⟩ := q; exact ⟨q0, q1, qP, va_K.moved (u := U) (U := U.calling g mk a) (Vm.Alike.refl U.vm) qK, qD⟩, fun U hU hW => ⟨rfl, by rw [hU], by rw [hU]; exact hPc, va_K.moved hW.alike hKc, hDc.weaken (fun _ _ _ _ => trivial)⟩⟩ rfl rfl hl.1 rfl (lv_room (Nat.le_of_ble_eq_true rfl)) d_M_set_69 ⟨Nat.le_of_ble_eq_true rfl, Nat.le_of_ble_eq_true rfl⟩) hS (fun q _ h9 => hFc q h9) hFc (fun r_69 u t H1 locs ht hvm hw hB hz1 hk1 hS => ?_)
      obtain ⟨rfl, rfl⟩ := hw
      obtain ⟨hP1, hK1, hD1⟩ := hB
      rw [ht] at hP1
      obtain ⟨hP, hD⟩ := va_join (wr := [(h_o, .inr (4, [.ref h_line, .int v_typed, .ref h_fact, .ref h_marked, .int v_count, .ref h_many, .ref h_codes, .int v_oldCount, .ref h_oldMany, .ref h_oldCodes, .int v_read, .ref h_body, .ref h_roundOf, .ref h_fresh, .int v_last])), (h_many, .inl (k_many, 2, .inl (upd v_many y1.toNatClampNeg y0))), (h_codes, .inl (k_codes, 6, .inl (upd (upd (upd v_codes ((nI 3) * z1).toNatClampNeg z2) (((nI 3) * z1) + (nI 1)).toNatClampNeg z3) (((nI 3) * z1) + (nI 2)).toNatClampNeg z4)))]) (w1 := []) hP hD [] [0, 1, 2] rfl rfl (by decide) (by decide) hk1 hFc hP1 hD1
      have hP := hP.sub (ws' := [(h_o, .inr (4, [.ref h_line, .int v_typed, .ref h_fact, .ref h_marked, .int v_count, .ref h_many, .ref h_codes, .int v_oldCount, .ref h_oldMany, .ref h_oldCodes, .int v_read, .ref h_body, .ref h_roundOf, .ref h_fresh, .int v_last])), (h_many, .inl (k_many, 2, .inl (upd v_many y1.toNatClampNeg y0))), (h_codes, .inl (k_codes, 6, .inl (upd (upd (upd v_codes ((nI 3) * z1).toNatClampNeg z2) (((nI 3) * z1) + (nI 1)).toNatClampNeg z3) (((nI 3) * z1) + (nI 2)).toNatClampNeg z4)))]) [0, 1, 2] rfl
      have hD := hD.sub (ws' := [(h_o, .inr (4, [.ref h_line, .int v_typed, .ref h_fact, .ref h_marked, .int v_count, .ref h_many, .ref h_codes, .int v_oldCount, .ref h_oldMany, .ref h_oldCodes, .int v_read, .ref h_body, .ref h_roundOf, .ref h_fresh, .int v_last])), (h_many, .inl (k_many, 2, .inl (upd v_many y1.toNatClampNeg y0))), (h_codes, .inl (k_codes, 6, .inl (upd (upd (upd v_codes ((nI 3) * z1).toNatClampNeg z2) (((nI 3) * z1) + (nI 1)).toNatClampNeg z3) (((nI 3) * z1) + (nI 2)).toNatClampNeg z4)))]) [0, 1, 2] (by decide) rfl
      generalize H1 = H at hP hS ⊢
      exact J_72 (upd v_many y1.toNatClampNeg y0) (upd (upd (upd v_codes ((nI 3) * z1).toNatClampNeg z2) (((nI 3) * z1) + (nI 1)).toNatClampNeg z3) (((nI 3) * z1) + (nI 2)).toNatClampNeg z4) z4 v_69.1 v_57.1 h _ _ hP hD hS ls (lv_sub hl [4] rfl)
    · have h := of_neg h c_61
      refine lv_iconst (v := (nI 0)) hx hb d_M_set_64 (by decide) ?_
      refine lv_goto (tgt := 72) hx hb d_M_set_65 (by decide) ?_
      exact J_72 (upd v_many y1.toNatClampNeg y0) (upd (upd (upd v_codes ((nI 3) * z1).toNatClampNeg z2) (((nI 3) * z1) + (nI 1)).toNatClampNeg z3) (((nI 3) * z1) + (nI 2)).toNatClampNeg z4) z4 (nI 0) v_57.1 h _ _ hP hD hS ls (lv_sub hl [4] rfl)
  unfold m_M_set at h
  refine lv_aload_n hx hb d_M_set_0 rfl (lv_at hl 0 rfl) ?_
  refine va_get (D := (dC, dI)) (ci := 4) (v := .ref h_many) (C := R_M) (T := F_M) (N := 15) hx hb hts lay_M hown hK hP 0 rfl rfl 5 (by decide) (hts _ flk_M_20) (fun _ h9 => h9) rfl d_M_set_1 ?_
  refine lv_iload_n hx hb d_M_set_4 rfl (lv_at hl 1 rfl) ?_
  refine lv_iload_n hx hb d_M_set_5 rfl (lv_at hl 3 rfl) ?_
  refine lv_if_ge (tgt := 13) hx hb d_M_set_6 (by decide) (fun c_6 => ?_) (fun c_6 => ?_)
  · have h := of_pos h c_6
    refine lv_iload hx hb d_M_set_13 (lv_at hl 4 rfl) ?_
    refine lv_if_ge (tgt := 22) hx hb d_M_set_15 (by decide) (fun c_15 => ?_) (fun c_15 => ?_)
    · have h := of_pos h c_15
      refine lv_iconst (v := (nI 3)) hx hb d_M_set_22 (by decide) ?_
      exact J_23 v_many v_codes x1 x2 x3 x4 (nI 3) x1 h _ _ hP hD hS ls (lv_sub hl [0, 1, 2, 3, 4] rfl)
    · have h := of_neg h c_15
      refine lv_iconst (v := (nI 2)) hx hb d_M_set_18 (by decide) ?_
      refine lv_goto (tgt := 23) hx hb d_M_set_19 (by decide) ?_
      exact J_23 v_many v_codes x1 x2 x3 x4 (nI 2) x1 h _ _ hP hD hS ls (lv_sub hl [0, 1, 2, 3, 4] rfl)
  · have h := of_neg h c_6
    refine lv_iconst (v := (nI 1)) hx hb d_M_set_9 (by decide) ?_
    refine lv_goto (tgt := 23) hx hb d_M_set_10 (by decide) ?_
    exact J_23 v_many v_codes x1 x2 x3 x4 (nI 1) x1 h _ _ hP hD hS ls (lv_sub hl [0, 1, 2, 3, 4] rfl)
set_option maxHeartbeats 1000000 in
set_option maxRecDepth 100000 in
theorem c_M_keep (l : Launch) (dC : Nat → ClassId) (dI : Nat → Nat → Nat) (h_o h_line h_fact h_marked h_many h_codes h_oldMany h_oldCodes h_body h_roundOf h_fresh : Nat) (k_many k_codes k_oldMany k_oldCodes : ClassId) (sz : Nat) (v_typed : Int32) (v_count : Int32) (v_oldCount : Int32) (v_read : Int32) (v_last : Int32) (v_many : Nat → Int32) (v_codes : Nat → Int32) (v_oldMany : Nat → Int32) (v_oldCodes : Nat → Int32) (u0 : Int32 × (Nat → Int32) × (Nat → Int32)) (h : m_M_keep v_count v_oldCount v_many v_codes v_oldMany v_oldCodes = some u0) : Met l y_M_keep w_M_keep ({ frames := 0, cells := 0, slots := 0, locals := 0 } : Room) (va_Pc [.ref h_o] (fun U => U.heap.size = sz ∧ va_P (dC, dI) classes [(h_o, .inr (4, [.ref h_line, .int v_typed, .ref h_fact, .ref h_marked, .int v_count, .ref h_many, .ref h_codes, .int v_oldCount, .ref h_oldMany, .ref h_oldCodes, .int v_read, .ref h_body, .ref h_roundOf, .ref h_fresh, .int v_last])), (h_many, .inl (k_many, 2, .inl v_many)), (h_codes, .inl (k_codes, 6, .inl v_codes)), (h_oldMany, .inl (k_oldMany, 2, .inl v_oldMany)), (h_oldCodes, .inl (k_oldCodes, 6, .inl v_oldCodes))] U.heap ∧ va_K (dC, dI) classes [(k_many, .int), (k_codes, .int), (k_oldMany, .int), (k_oldCodes, .int)] U ∧ va_D (fun _ => True) [(h_o, .inr (4, [.ref h_line, .int v_typed, .ref h_fact, .ref h_marked, .int v_count, .ref h_many, .ref h_codes, .int v_oldCount, .ref h_oldMany, .ref h_oldCodes, .int v_read, .ref h_body, .ref h_roundOf, .ref h_fresh, .int v_last])), (h_many, .inl (k_many, 2, .inl v_many)), (h_codes, .inl (k_codes, 6, .inl v_codes)), (h_oldMany, .inl (k_oldMany, 2, .inl v_oldMany)), (h_oldCodes, .inl (k_oldCodes, 6, .inl v_oldCodes))])) (va_Qv (fun (u : Int32 × (Nat → Int32) × (Nat → Int32)) => u = u0) (fun (u : Int32 × (Nat → Int32) × (Nat → Int32)) (t : State) => va_P (dC, dI) classes [(h_o, .inr (4, [.ref h_line, .int v_typed, .ref h_fact, .ref h_marked, .int v_count, .ref h_many, .ref h_codes, .int u.1, .ref h_oldMany, .ref h_oldCodes, .int v_read, .ref h_body, .ref h_roundOf, .ref h_fresh, .int v_last])), (h_many, .inl (k_many, 2, .inl v_many)), (h_codes, .inl (k_codes, 6, .inl v_codes)), (h_oldMany, .inl (k_oldMany, 2, .inl u.2.1)), (h_oldCodes, .inl (k_oldCodes, 6, .inl u.2.2))] t.heap ∧ va_K (dC, dI) classes [(k_many, .int), (k_codes, .int), (k_oldMany, .int), (k_oldCodes, .int)] t ∧ va_D (va_A [(h_o, .inr (4, [.ref h_line, .int v_typed, .ref h_fact, .ref h_marked, .int v_count, .ref h_many, .ref h_codes, .int v_oldCount, .ref h_oldMany, .ref h_oldCodes, .int v_read, .ref h_body, .ref h_roundOf, .ref h_fresh, .int v_last])), (h_many, .inl (k_many, 2, .inl v_many)), (h_codes, .inl (k_codes, 6, .inl v_codes)), (h_oldMany, .inl (k_oldMany, 2, .inl v_oldMany)), (h_oldCodes, .inl (k_oldCodes, 6, .inl v_oldCodes))] sz) [(h_o, .inr (4, [.ref h_line, .int v_typed, .ref h_fact, .ref h_marked, .int v_count, .ref h_many, .ref h_codes, .int u.1, .ref h_oldMany, .ref h_oldCodes, .int v_read, .ref h_body, .ref h_roundOf, .ref h_fresh, .int v_last])), (h_many, .inl (k_many, 2, .inl v_many)), (h_codes, .inl (k_codes, 6, .inl v_codes)), (h_oldMany, .inl (k_oldMany, 2, .inl u.2.1)), (h_oldCodes, .inl (k_oldCodes, 6, .inl u.2.2))]) (va_A [(h_o, .inr (4, [.ref h_line, .int v_typed, .ref h_fact, .ref h_marked, .int v_count, .ref h_many, .ref h_codes, .int v_oldCount, .ref h_oldMany, .ref h_oldCodes, .int v_read, .ref h_body, .ref h_roundOf, .ref h_fresh, .int v_last])), (h_many, .inl (k_many, 2, .inl v_many)), (h_codes, .inl (k_codes, 6, .inl v_codes)), (h_oldMany, .inl (k_oldMany, 2, .inl v_oldMany)), (h_oldCodes, .inl (k_oldCodes, 6, .inl v_oldCodes))] sz)) 0 0 (va_A [(h_o, .inr (4, [.ref h_line, .int v_typed, .ref h_fact, .ref h_marked, .int v_count, .ref h_many, .ref h_codes, .int v_oldCount, .ref h_oldMany, .ref h_oldCodes, .int v_read, .ref h_body, .ref h_roundOf, .ref h_fresh, .int v_last])), (h_many, .inl (k_many, 2, .inl v_many)), (h_codes, .inl (k_codes, 6, .inl v_codes)), (h_oldMany, .inl (k_oldMany, 2, .inl v_oldMany)), (h_oldCodes, .inl (k_oldCodes, 6, .inl v_oldCodes))] sz) := by
  refine Met.ofW (cc := b_M_keep) (maxL := 2) (ret := none) (by decide) rfl ?_
  intro p e s m args below meth c s₁ B hml hv
  obtain ⟨rfl, hsz, hP, hK, hD0⟩ := hv
  have hx := B.exec
  have hb := B.bytes
  have hr := B.returns
  have hts0 := atoms_spec (ws := w_M_keep) B.pre
  have hts : ∀ w ∈ lw_gd, w.before ([.ref h_o] : List Value).toArray s = true := fun w h9 => hts0 w (List.mem_cons_of_mem _ h9)
  have hown : s.vm.findClass R_M = some m.cls := findClass_of_methodNamed B.named
  have hlocks := B.notSynchronized
  subst hsz
  have hD := hD0.self (sz := s.heap.size)
  generalize hAe : va_A [(h_o, .inr (4, [.ref h_line, .int v_typed, .ref h_fact, .ref h_marked, .int v_count, .ref h_many, .ref h_codes, .int v_oldCount, .ref h_oldMany, .ref h_oldCodes, .int v_read, .ref h_body, .ref h_roundOf, .ref h_fresh, .int v_last])), (h_many, .inl (k_many, 2, .inl v_many)), (h_codes, .inl (k_codes, 6, .inl v_codes)), (h_oldMany, .inl (k_oldMany, 2, .inl v_oldMany)), (h_oldCodes, .inl (k_oldCodes, 6, .inl v_oldCodes))] s.heap.size = A at hD ⊢
  have hA : ∀ q : Nat, s.heap.size ≤ q → A q := fun q h9 => by rw [← hAe]; exact Or.inr h9
  obtain ⟨H, eH⟩ : ∃ H : Heap, H = s.heap := ⟨_, rfl⟩
  have hS : va_S A s.heap H [] := by rw [eH]; exact va_S.rf
  have hP : va_P (dC, dI) classes [(h_o, .inr (4, [.ref h_line, .int v_typed, .ref h_fact, .ref h_marked, .int v_count, .ref h_many, .ref h_codes, .int v_oldCount, .ref h_oldMany, .ref h_oldCodes, .int v_read, .ref h_body, .ref h_roundOf, .ref h_fresh, .int v_last])), (h_many, .inl (k_many, 2, .inl v_many)), (h_codes, .inl (k_codes, 6, .inl v_codes)), (h_oldMany, .inl (k_oldMany, 2, .inl v_oldMany)), (h_oldCodes, .inl (k_oldCodes, 6, .inl v_oldCodes))] H := by rw [eH]; exact hP
  refine W_gen (fun Q hQ => ?_)
  refine W_heap eH ?_
  clear eH
  have hl := lv_entry ([.ref h_o]) (n := 2) (Nat.le_of_ble_eq_true rfl)
  rw [lg_entry_eq]
  generalize (lg_sl ([.ref h_o]) ++ List.replicate (2 - (lg_sl ([.ref h_o])).length) Slot.unset).toArray = ls at hl ⊢
  have hl : lv_has ls 2 [(0, .ref h_o)] := hl
  have J_10 : ∀ (n : Nat) (v_oldCount : Int32) (v_oldMany : Nat → Int32) (v_oldCodes : Nat → Int32) (z1 : Int32), m_M_keep_10 v_count v_many v_codes n v_oldCount v_oldMany v_oldCodes z1 = some u0 → ∀ (H : Heap) (locs : List Loc), va_P (dC, dI) classes [(h_o, .inr (4, [.ref h_line, .int v_typed, .ref h_fact, .ref h_marked, .int v_count, .ref h_many, .ref h_codes, .int v_oldCount, .ref h_oldMany, .ref h_oldCodes, .int v_read, .ref h_body, .ref h_roundOf, .ref h_fresh, .int v_last])), (h_many, .inl (k_many, 2, .inl v_many)), (h_codes, .inl (k_codes, 6, .inl v_codes)), (h_oldMany, .inl (k_oldMany, 2, .inl v_oldMany)), (h_oldCodes, .inl (k_oldCodes, 6, .inl v_oldCodes))] H → va_D A [(h_o, .inr (4, [.ref h_line, .int v_typed, .ref h_fact, .ref h_marked, .int v_count, .ref h_many, .ref h_codes, .int v_oldCount, .ref h_oldMany, .ref h_oldCodes, .int v_read, .ref h_body, .ref h_roundOf, .ref h_fresh, .int v_last])), (h_many, .inl (k_many, 2, .inl v_many)), (h_codes, .inl (k_codes, 6, .inl v_codes)), (h_oldMany, .inl (k_oldMany, 2, .inl v_oldMany)), (h_oldCodes, .inl (k_oldCodes, 6, .inl v_oldCodes))] → va_S A s.heap H locs → ∀ (ls : Array Slot), lv_has ls 2 [(0, .ref h_o), (1, .int z1)] → W p l e (headSpec w_M_keep ({ frames := 0, cells := 0, slots := 0, locals := 0 } : Room)).room s m ([.ref h_o] : List Value).toArray below meth c H locs 0 0 Q (F0 m 10 ls []) := by
    intro n
    induction n with
    | zero => intro v_oldCount v_oldMany v_oldCodes z1 h; exact absurd h (by unfold m_M_keep_10; exact fun h9 => nomatch h9)
    | succ n ih =>
      intro v_oldCount v_oldMany v_oldCodes z1 h H locs hP hD hS ls hl
      unfold m_M_keep_10 at h
      refine lv_iload_n hx hb d_M_keep_10 rfl (lv_at hl 1 rfl) ?_
      refine lv_bipush (v := (nI 6)) hx hb d_M_keep_11 (by decide) ?_
      refine lv_icmp_ge (tgt := 34) hx hb d_M_keep_13 (by decide) (fun c_13 => ?_) (fun c_13 => ?_)
      · have h := of_pos h c_13
        refine lv_aload_n hx hb d_M_keep_34 rfl (lv_at hl 0 rfl) ?_
        refine va_get (D := (dC, dI)) (ci := 4) (v := .ref h_oldMany) (C := R_M) (T := F_M) (N := 15) hx hb hts lay_M hown hK hP 0 rfl rfl 8 (by decide) (hts _ flk_M_26) (fun _ h9 => h9) rfl d_M_keep_35 ?_
        refine lv_iconst (v := (nI 0)) hx hb d_M_keep_38 (by decide) ?_
        refine lv_aload_n hx hb d_M_keep_39 rfl (lv_at hl 0 rfl) ?_
        refine va_get (D := (dC, dI)) (ci := 4) (v := .ref h_many) (C := R_M) (T := F_M) (N := 15) hx hb hts lay_M hown hK hP 0 rfl rfl 5 (by decide) (hts _ flk_M_20) (fun _ h9 => h9) rfl d_M_keep_40 ?_
        refine lv_iconst (v := (nI 0)) hx hb d_M_keep_43 (by decide) ?_
        obtain ⟨g_44, h⟩ := of_guard h
        refine va_iald hx hb hK hP 1 0 rfl rfl (inR_in g_44) d_M_keep_44 ?_
        obtain ⟨g_45, h⟩ := of_guard h
        refine va_iast hx hb hK hP hD hS 3 2 rfl rfl (inR_in g_45) d_M_keep_45 (fun H locs hP hD hS => ?_)
        have hP : va_P (dC, dI) classes [(h_o, .inr (4, [.ref h_line, .int v_typed, .ref h_fact, .ref h_marked, .int v_count, .ref h_many, .ref h_codes, .int v_oldCount, .ref h_oldMany, .ref h_oldCodes, .int v_read, .ref h_body, .ref h_roundOf, .ref h_fresh, .int v_last])), (h_many, .inl (k_many, 2, .inl v_many)), (h_codes, .inl (k_codes, 6, .inl v_codes)), (h_oldMany, .inl (k_oldMany, 2, .inl (upd v_oldMany (nI 0).toNatClampNeg (v_many (nI 0).toNatClampNeg)))), (h_oldCodes, .inl (k_oldCodes, 6, .inl v_oldCodes))] H := hP
        have hD : va_D A [(h_o, .inr (4, [.ref h_line, .int v_typed, .ref h_fact, .ref h_marked, .int v_count, .ref h_many, .ref h_codes, .int v_oldCount, .ref h_oldMany, .ref h_oldCodes, .int v_read, .ref h_body, .ref h_roundOf, .ref h_fresh, .int v_last])), (h_many, .inl (k_many, 2, .inl v_many)), (h_codes, .inl (k_codes, 6, .inl v_codes)), (h_oldMany, .inl (k_oldMany, 2, .inl (upd v_oldMany (nI 0).toNatClampNeg (v_many (nI 0).toNatClampNeg)))), (h_oldCodes, .inl (k_oldCodes, 6, .inl v_oldCodes))] := hD
        refine lv_aload_n hx hb d_M_keep_46 rfl (lv_at hl 0 rfl) ?_
        refine va_get (D := (dC, dI)) (ci := 4) (v := .ref h_oldMany) (C := R_M) (T := F_M) (N := 15) hx hb hts lay_M hown hK hP 0 rfl rfl 8 (by decide) (hts _ flk_M_26) (fun _ h9 => h9) rfl d_M_keep_47 ?_
        refine lv_iconst (v := (nI 1)) hx hb d_M_keep_50 (by decide) ?_
        refine lv_aload_n hx hb d_M_keep_51 rfl (lv_at hl 0 rfl) ?_
        refine va_get (D := (dC, dI)) (ci := 4) (v := .ref h_many) (C := R_M) (T := F_M) (N := 15) hx hb hts lay_M hown hK hP 0 rfl rfl 5 (by decide) (hts _ flk_M_20) (fun _ h9 => h9) rfl d_M_keep_52 ?_
        refine lv_iconst (v := (nI 1)) hx hb d_M_keep_55 (by decide) ?_
        obtain ⟨g_56, h⟩ := of_guard h
        refine va_iald hx hb hK hP 1 0 rfl rfl (inR_in g_56) d_M_keep_56 ?_
        obtain ⟨g_57, h⟩ := of_guard h
        refine va_iast hx hb hK hP hD hS 3 2 rfl rfl (inR_in g_57) d_M_keep_57 (fun H locs hP hD hS => ?_)
        have hP : va_P (dC, dI) classes [(h_o, .inr (4, [.ref h_line, .int v_typed, .ref h_fact, .ref h_marked, .int v_count, .ref h_many, .ref h_codes, .int v_oldCount, .ref h_oldMany, .ref h_oldCodes, .int v_read, .ref h_body, .ref h_roundOf, .ref h_fresh, .int v_last])), (h_many, .inl (k_many, 2, .inl v_many)), (h_codes, .inl (k_codes, 6, .inl v_codes)), (h_oldMany, .inl (k_oldMany, 2, .inl (upd (upd v_oldMany (nI 0).toNatClampNeg (v_many (nI 0).toNatClampNeg)) (nI 1).toNatClampNeg (v_many (nI 1).toNatClampNeg)))), (h_oldCodes, .inl (k_oldCodes, 6, .inl v_oldCodes))] H := hP
        have hD : va_D A [(h_o, .inr (4, [.ref h_line, .int v_typed, .ref h_fact, .ref h_marked, .int v_count, .ref h_many, .ref h_codes, .int v_oldCount, .ref h_oldMany, .ref h_oldCodes, .int v_read, .ref h_body, .ref h_roundOf, .ref h_fresh, .int v_last])), (h_many, .inl (k_many, 2, .inl v_many)), (h_codes, .inl (k_codes, 6, .inl v_codes)), (h_oldMany, .inl (k_oldMany, 2, .inl (upd (upd v_oldMany (nI 0).toNatClampNeg (v_many (nI 0).toNatClampNeg)) (nI 1).toNatClampNeg (v_many (nI 1).toNatClampNeg)))), (h_oldCodes, .inl (k_oldCodes, 6, .inl v_oldCodes))] := hD
        rw [hQ]
        exact W.vret hx hb hr (fun t ht hW => ⟨⟨(v_oldCount, upd (upd v_oldMany (nI 0).toNatClampNeg (v_many (nI 0).toNatClampNeg)) (nI 1).toNatClampNeg (v_many (nI 1).toNatClampNeg), v_oldCodes), rfl, Option.some.inj h, by rw [ht]; exact hP, va_K.moved hW.alike hK, hD⟩, hS.F ht⟩) hS.2.2 d_M_keep_58
      · have h := of_neg h c_13
        refine lv_aload_n hx hb d_M_keep_16 rfl (lv_at hl 0 rfl) ?_
        refine va_get (D := (dC, dI)) (ci := 4) (v := .ref h_oldCodes) (C := R_M) (T := F_M) (N := 15) hx hb hts lay_M hown hK hP 0 rfl rfl 9 (by decide) (hts _ flk_M_29) (fun _ h9 => h9) rfl d_M_keep_17 ?_
        refine lv_iload_n hx hb d_M_keep_20 rfl (lv_at hl 1 rfl) ?_
        refine lv_aload_n hx hb d_M_keep_21 rfl (lv_at hl 0 rfl) ?_
        refine va_get (D := (dC, dI)) (ci := 4) (v := .ref h_codes) (C := R_M) (T := F_M) (N := 15) hx hb hts lay_M hown hK hP 0 rfl rfl 6 (by decide) (hts _ flk_M_23) (fun _ h9 => h9) rfl d_M_keep_22 ?_
        refine lv_iload_n hx hb d_M_keep_25 rfl (lv_at hl 1 rfl) ?_
        obtain ⟨g_26, h⟩ := of_guard h
        refine va_iald hx hb hK hP 2 1 rfl rfl (inR_in g_26) d_M_keep_26 ?_
        obtain ⟨g_27, h⟩ := of_guard h
        refine va_iast hx hb hK hP hD hS 4 3 rfl rfl (inR_in g_27) d_M_keep_27 (fun H locs hP hD hS => ?_)
        have hP : va_P (dC, dI) classes [(h_o, .inr (4, [.ref h_line, .int v_typed, .ref h_fact, .ref h_marked, .int v_count, .ref h_many, .ref h_codes, .int v_oldCount, .ref h_oldMany, .ref h_oldCodes, .int v_read, .ref h_body, .ref h_roundOf, .ref h_fresh, .int v_last])), (h_many, .inl (k_many, 2, .inl v_many)), (h_codes, .inl (k_codes, 6, .inl v_codes)), (h_oldMany, .inl (k_oldMany, 2, .inl v_oldMany)), (h_oldCodes, .inl (k_oldCodes, 6, .inl (upd v_oldCodes z1.toNatClampNeg (v_codes z1.toNatClampNeg))))] H := hP
        have hD : va_D A [(h_o, .inr (4, [.ref h_line, .int v_typed, .ref h_fact, .ref h_marked, .int v_count, .ref h_many, .ref h_codes, .int v_oldCount, .ref h_oldMany, .ref h_oldCodes, .int v_read, .ref h_body, .ref h_roundOf, .ref h_fresh, .int v_last])), (h_many, .inl (k_many, 2, .inl v_many)), (h_codes, .inl (k_codes, 6, .inl v_codes)), (h_oldMany, .inl (k_oldMany, 2, .inl v_oldMany)), (h_oldCodes, .inl (k_oldCodes, 6, .inl (upd v_oldCodes z1.toNatClampNeg (v_codes z1.toNatClampNeg))))] := hD
        refine lv_iinc (v := z1 + (nI 1)) (lv' := [(1, .int (z1 + (nI 1))), (0, .ref h_o)]) hx hb d_M_keep_28 hl (k := 1) rfl rfl (by decide) rfl (fun ls hl => ?_)
        refine lv_goto (tgt := 10) hx hb d_M_keep_31 (by decide) ?_
        exact ih v_oldCount v_oldMany (upd v_oldCodes z1.toNatClampNeg (v_codes z1.toNatClampNeg)) (z1 + (nI 1)) h _ _ hP hD hS ls (lv_sub hl [1, 0] rfl)
  unfold m_M_keep at h
  refine lv_aload_n hx hb d_M_keep_0 rfl (lv_at hl 0 rfl) ?_
  refine lv_aload_n hx hb d_M_keep_1 rfl (lv_at hl 0 rfl) ?_
  refine va_get (D := (dC, dI)) (ci := 4) (v := .int v_count) (C := R_M) (T := F_M) (N := 15) hx hb hts lay_M hown hK hP 0 rfl rfl 4 (by decide) (hts _ flk_M_85) (fun _ h9 => h9) rfl d_M_keep_2 ?_
  refine va_put (D := (dC, dI)) (ci := 4) (v := .int v_count) (ty := .int) (C := R_M) (T := F_M) (N := 15) hx hb hts lay_M t_M t_M_ok n_M hown hK hP hD hS 0 rfl rfl 7 (by decide) (hts _ flk_M_135) (fun _ h9 => h9) rfl (by decide +kernel) rfl rfl (Nat.le_of_ble_eq_true rfl) d_M_keep_5 (fun H locs hP hD hS => ?_)
  have hP : va_P (dC, dI) classes [(h_o, .inr (4, [.ref h_line, .int v_typed, .ref h_fact, .ref h_marked, .int v_count, .ref h_many, .ref h_codes, .int v_count, .ref h_oldMany, .ref h_oldCodes, .int v_read, .ref h_body, .ref h_roundOf, .ref h_fresh, .int v_last])), (h_many, .inl (k_many, 2, .inl v_many)), (h_codes, .inl (k_codes, 6, .inl v_codes)), (h_oldMany, .inl (k_oldMany, 2, .inl v_oldMany)), (h_oldCodes, .inl (k_oldCodes, 6, .inl v_oldCodes))] H := hP
  have hD : va_D A [(h_o, .inr (4, [.ref h_line, .int v_typed, .ref h_fact, .ref h_marked, .int v_count, .ref h_many, .ref h_codes, .int v_count, .ref h_oldMany, .ref h_oldCodes, .int v_read, .ref h_body, .ref h_roundOf, .ref h_fresh, .int v_last])), (h_many, .inl (k_many, 2, .inl v_many)), (h_codes, .inl (k_codes, 6, .inl v_codes)), (h_oldMany, .inl (k_oldMany, 2, .inl v_oldMany)), (h_oldCodes, .inl (k_oldCodes, 6, .inl v_oldCodes))] := hD
  refine lv_iconst (v := (nI 0)) hx hb d_M_keep_8 (by decide) ?_
  refine lv_istore_n (lv' := [(1, .int (nI 0)), (0, .ref h_o)]) hx hb d_M_keep_9 rfl hl (by decide) rfl (fun ls hl => ?_)
  exact J_10 40 v_count v_oldMany v_oldCodes (nI 0) h _ _ hP hD hS ls (lv_sub hl [1, 0] rfl)
set_option maxHeartbeats 1000000 in
set_option maxRecDepth 100000 in
theorem c_M_putBack (l : Launch) (dC : Nat → ClassId) (dI : Nat → Nat → Nat) (h_o h_line h_fact h_marked h_many h_codes h_oldMany h_oldCodes h_body h_roundOf h_fresh : Nat) (k_many k_codes k_oldMany k_oldCodes : ClassId) (sz : Nat) (v_typed : Int32) (v_count : Int32) (v_oldCount : Int32) (v_read : Int32) (v_last : Int32) (v_many : Nat → Int32) (v_codes : Nat → Int32) (v_oldMany : Nat → Int32) (v_oldCodes : Nat → Int32) (u0 : Int32 × (Nat → Int32) × (Nat → Int32)) (h : m_M_putBack v_count v_oldCount v_many v_codes v_oldMany v_oldCodes = some u0) : Met l y_M_putBack w_M_putBack ({ frames := 0, cells := 0, slots := 0, locals := 0 } : Room) (va_Pc [.ref h_o] (fun U => U.heap.size = sz ∧ va_P (dC, dI) classes [(h_o, .inr (4, [.ref h_line, .int v_typed, .ref h_fact, .ref h_marked, .int v_count, .ref h_many, .ref h_codes, .int v_oldCount, .ref h_oldMany, .ref h_oldCodes, .int v_read, .ref h_body, .ref h_roundOf, .ref h_fresh, .int v_last])), (h_many, .inl (k_many, 2, .inl v_many)), (h_codes, .inl (k_codes, 6, .inl v_codes)), (h_oldMany, .inl (k_oldMany, 2, .inl v_oldMany)), (h_oldCodes, .inl (k_oldCodes, 6, .inl v_oldCodes))] U.heap ∧ va_K (dC, dI) classes [(k_many, .int), (k_codes, .int), (k_oldMany, .int), (k_oldCodes, .int)] U ∧ va_D (fun _ => True) [(h_o, .inr (4, [.ref h_line, .int v_typed, .ref h_fact, .ref h_marked, .int v_count, .ref h_many, .ref h_codes, .int v_oldCount, .ref h_oldMany, .ref h_oldCodes, .int v_read, .ref h_body, .ref h_roundOf, .ref h_fresh, .int v_last])), (h_many, .inl (k_many, 2, .inl v_many)), (h_codes, .inl (k_codes, 6, .inl v_codes)), (h_oldMany, .inl (k_oldMany, 2, .inl v_oldMany)), (h_oldCodes, .inl (k_oldCodes, 6, .inl v_oldCodes))])) (va_Qv (fun (u : Int32 × (Nat → Int32) × (Nat → Int32)) => u = u0) (fun (u : Int32 × (Nat → Int32) × (Nat → Int32)) (t : State) => va_P (dC, dI) classes [(h_o, .inr (4, [.ref h_line, .int v_typed, .ref h_fact, .ref h_marked, .int u.1, .ref h_many, .ref h_codes, .int v_oldCount, .ref h_oldMany, .ref h_oldCodes, .int v_read, .ref h_body, .ref h_roundOf, .ref h_fresh, .int v_last])), (h_many, .inl (k_many, 2, .inl u.2.1)), (h_codes, .inl (k_codes, 6, .inl u.2.2)), (h_oldMany, .inl (k_oldMany, 2, .inl v_oldMany)), (h_oldCodes, .inl (k_oldCodes, 6, .inl v_oldCodes))] t.heap ∧ va_K (dC, dI) classes [(k_many, .int), (k_codes, .int), (k_oldMany, .int), (k_oldCodes, .int)] t ∧ va_D (va_A [(h_o, .inr (4, [.ref h_line, .int v_typed, .ref h_fact, .ref h_marked, .int v_count, .ref h_many, .ref h_codes, .int v_oldCount, .ref h_oldMany, .ref h_oldCodes, .int v_read, .ref h_body, .ref h_roundOf, .ref h_fresh, .int v_last])), (h_many, .inl (k_many, 2, .inl v_many)), (h_codes, .inl (k_codes, 6, .inl v_codes)), (h_oldMany, .inl (k_oldMany, 2, .inl v_oldMany)), (h_oldCodes, .inl (k_oldCodes, 6, .inl v_oldCodes))] sz) [(h_o, .inr (4, [.ref h_line, .int v_typed, .ref h_fact, .ref h_marked, .int u.1, .ref h_many, .ref h_codes, .int v_oldCount, .ref h_oldMany, .ref h_oldCodes, .int v_read, .ref h_body, .ref h_roundOf, .ref h_fresh, .int v_last])), (h_many, .inl (k_many, 2, .inl u.2.1)), (h_codes, .inl (k_codes, 6, .inl u.2.2)), (h_oldMany, .inl (k_oldMany, 2, .inl v_oldMany)), (h_oldCodes, .inl (k_oldCodes, 6, .inl v_oldCodes))]) (va_A [(h_o, .inr (4, [.ref h_line, .int v_typed, .ref h_fact, .ref h_marked, .int v_count, .ref h_many, .ref h_codes, .int v_oldCount, .ref h_oldMany, .ref h_oldCodes, .int v_read, .ref h_body, .ref h_roundOf, .ref h_fresh, .int v_last])), (h_many, .inl (k_many, 2, .inl v_many)), (h_codes, .inl (k_codes, 6, .inl v_codes)), (h_oldMany, .inl (k_oldMany, 2, .inl v_oldMany)), (h_oldCodes, .inl (k_oldCodes, 6, .inl v_oldCodes))] sz)) 0 0 (va_A [(h_o, .inr (4, [.ref h_line, .int v_typed, .ref h_fact, .ref h_marked, .int v_count, .ref h_many, .ref h_codes, .int v_oldCount, .ref h_oldMany, .ref h_oldCodes, .int v_read, .ref h_body, .ref h_roundOf, .ref h_fresh, .int v_last])), (h_many, .inl (k_many, 2, .inl v_many)), (h_codes, .inl (k_codes, 6, .inl v_codes)), (h_oldMany, .inl (k_oldMany, 2, .inl v_oldMany)), (h_oldCodes, .inl (k_oldCodes, 6, .inl v_oldCodes))] sz) := by
  refine Met.ofW (cc := b_M_putBack) (maxL := 2) (ret := none) (by decide) rfl ?_
  intro p e s m args below meth c s₁ B hml hv
  obtain ⟨rfl, hsz, hP, hK, hD0⟩ := hv
  have hx := B.exec
  have hb := B.bytes
  have hr := B.returns
  have hts0 := atoms_spec (ws := w_M_putBack) B.pre
  have hts : ∀ w ∈ lw_gd, w.before ([.ref h_o] : List Value).toArray s = true := fun w h9 => hts0 w (List.mem_cons_of_mem _ h9)
  have hown : s.vm.findClass R_M = some m.cls := findClass_of_methodNamed B.named
  have hlocks := B.notSynchronized
  subst hsz
  have hD := hD0.self (sz := s.heap.size)
  generalize hAe : va_A [(h_o, .inr (4, [.ref h_line, .int v_typed, .ref h_fact, .ref h_marked, .int v_count, .ref h_many, .ref h_codes, .int v_oldCount, .ref h_oldMany, .ref h_oldCodes, .int v_read, .ref h_body, .ref h_roundOf, .ref h_fresh, .int v_last])), (h_many, .inl (k_many, 2, .inl v_many)), (h_codes, .inl (k_codes, 6, .inl v_codes)), (h_oldMany, .inl (k_oldMany, 2, .inl v_oldMany)), (h_oldCodes, .inl (k_oldCodes, 6, .inl v_oldCodes))] s.heap.size = A at hD ⊢
  have hA : ∀ q : Nat, s.heap.size ≤ q → A q := fun q h9 => by rw [← hAe]; exact Or.inr h9
  obtain ⟨H, eH⟩ : ∃ H : Heap, H = s.heap := ⟨_, rfl⟩
  have hS : va_S A s.heap H [] := by rw [eH]; exact va_S.rf
  have hP : va_P (dC, dI) classes [(h_o, .inr (4, [.ref h_line, .int v_typed, .ref h_fact, .ref h_marked, .int v_count, .ref h_many, .ref h_codes, .int v_oldCount, .ref h_oldMany, .ref h_oldCodes, .int v_read, .ref h_body, .ref h_roundOf, .ref h_fresh, .int v_last])), (h_many, .inl (k_many, 2, .inl v_many)), (h_codes, .inl (k_codes, 6, .inl v_codes)), (h_oldMany, .inl (k_oldMany, 2, .inl v_oldMany)), (h_oldCodes, .inl (k_oldCodes, 6, .inl v_oldCodes))] H := by rw [eH]; exact hP
  refine W_gen (fun Q hQ => ?_)
  refine W_heap eH ?_
  clear eH
  have hl := lv_entry ([.ref h_o]) (n := 2) (Nat.le_of_ble_eq_true rfl)
  rw [lg_entry_eq]
  generalize (lg_sl ([.ref h_o]) ++ List.replicate (2 - (lg_sl ([.ref h_o])).length) Slot.unset).toArray = ls at hl ⊢
  have hl : lv_has ls 2 [(0, .ref h_o)] := hl
  have J_10 : ∀ (n : Nat) (v_count : Int32) (v_many : Nat → Int32) (v_codes : Nat → Int32) (z1 : Int32), m_M_putBack_10 v_oldCount v_oldMany v_oldCodes n v_count v_many v_codes z1 = some u0 → ∀ (H : Heap) (locs : List Loc), va_P (dC, dI) classes [(h_o, .inr (4, [.ref h_line, .int v_typed, .ref h_fact, .ref h_marked, .int v_count, .ref h_many, .ref h_codes, .int v_oldCount, .ref h_oldMany, .ref h_oldCodes, .int v_read, .ref h_body, .ref h_roundOf, .ref h_fresh, .int v_last])), (h_many, .inl (k_many, 2, .inl v_many)), (h_codes, .inl (k_codes, 6, .inl v_codes)), (h_oldMany, .inl (k_oldMany, 2, .inl v_oldMany)), (h_oldCodes, .inl (k_oldCodes, 6, .inl v_oldCodes))] H → va_D A [(h_o, .inr (4, [.ref h_line, .int v_typed, .ref h_fact, .ref h_marked, .int v_count, .ref h_many, .ref h_codes, .int v_oldCount, .ref h_oldMany, .ref h_oldCodes, .int v_read, .ref h_body, .ref h_roundOf, .ref h_fresh, .int v_last])), (h_many, .inl (k_many, 2, .inl v_many)), (h_codes, .inl (k_codes, 6, .inl v_codes)), (h_oldMany, .inl (k_oldMany, 2, .inl v_oldMany)), (h_oldCodes, .inl (k_oldCodes, 6, .inl v_oldCodes))] → va_S A s.heap H locs → ∀ (ls : Array Slot), lv_has ls 2 [(0, .ref h_o), (1, .int z1)] → W p l e (headSpec w_M_putBack ({ frames := 0, cells := 0, slots := 0, locals := 0 } : Room)).room s m ([.ref h_o] : List Value).toArray below meth c H locs 0 0 Q (F0 m 10 ls []) := by
    intro n
    induction n with
    | zero => intro v_count v_many v_codes z1 h; exact absurd h (by unfold m_M_putBack_10; exact fun h9 => nomatch h9)
    | succ n ih =>
      intro v_count v_many v_codes z1 h H locs hP hD hS ls hl
      unfold m_M_putBack_10 at h
      refine lv_iload_n hx hb d_M_putBack_10 rfl (lv_at hl 1 rfl) ?_
      refine lv_bipush (v := (nI 6)) hx hb d_M_putBack_11 (by decide) ?_
      refine lv_icmp_ge (tgt := 34) hx hb d_M_putBack_13 (by decide) (fun c_13 => ?_) (fun c_13 => ?_)
      · have h := of_pos h c_13
        refine lv_aload_n hx hb d_M_putBack_34 rfl (lv_at hl 0 rfl) ?_
        refine va_get (D := (dC, dI)) (ci := 4) (v := .ref h_many) (C := R_M) (T := F_M) (N := 15) hx hb hts lay_M hown hK hP 0 rfl rfl 5 (by decide) (hts _ flk_M_20) (fun _ h9 => h9) rfl d_M_putBack_35 ?_
        refine lv_iconst (v := (nI 0)) hx hb d_M_putBack_38 (by decide) ?_
        refine lv_aload_n hx hb d_M_putBack_39 rfl (lv_at hl 0 rfl) ?_
        refine va_get (D := (dC, dI)) (ci := 4) (v := .ref h_oldMany) (C := R_M) (T := F_M) (N := 15) hx hb hts lay_M hown hK hP 0 rfl rfl 8 (by decide) (hts _ flk_M_26) (fun _ h9 => h9) rfl d_M_putBack_40 ?_
        refine lv_iconst (v := (nI 0)) hx hb d_M_putBack_43 (by decide) ?_
        obtain ⟨g_44, h⟩ := of_guard h
        refine va_iald hx hb hK hP 3 2 rfl rfl (inR_in g_44) d_M_putBack_44 ?_
        obtain ⟨g_45, h⟩ := of_guard h
        refine va_iast hx hb hK hP hD hS 1 0 rfl rfl (inR_in g_45) d_M_putBack_45 (fun H locs hP hD hS => ?_)
        have hP : va_P (dC, dI) classes [(h_o, .inr (4, [.ref h_line, .int v_typed, .ref h_fact, .ref h_marked, .int v_count, .ref h_many, .ref h_codes, .int v_oldCount, .ref h_oldMany, .ref h_oldCodes, .int v_read, .ref h_body, .ref h_roundOf, .ref h_fresh, .int v_last])), (h_many, .inl (k_many, 2, .inl (upd v_many (nI 0).toNatClampNeg (v_oldMany (nI 0).toNatClampNeg)))), (h_codes, .inl (k_codes, 6, .inl v_codes)), (h_oldMany, .inl (k_oldMany, 2, .inl v_oldMany)), (h_oldCodes, .inl (k_oldCodes, 6, .inl v_oldCodes))] H := hP
        have hD : va_D A [(h_o, .inr (4, [.ref h_line, .int v_typed, .ref h_fact, .ref h_marked, .int v_count, .ref h_many, .ref h_codes, .int v_oldCount, .ref h_oldMany, .ref h_oldCodes, .int v_read, .ref h_body, .ref h_roundOf, .ref h_fresh, .int v_last])), (h_many, .inl (k_many, 2, .inl (upd v_many (nI 0).toNatClampNeg (v_oldMany (nI 0).toNatClampNeg)))), (h_codes, .inl (k_codes, 6, .inl v_codes)), (h_oldMany, .inl (k_oldMany, 2, .inl v_oldMany)), (h_oldCodes, .inl (k_oldCodes, 6, .inl v_oldCodes))] := hD
        refine lv_aload_n hx hb d_M_putBack_46 rfl (lv_at hl 0 rfl) ?_
        refine va_get (D := (dC, dI)) (ci := 4) (v := .ref h_many) (C := R_M) (T := F_M) (N := 15) hx hb hts lay_M hown hK hP 0 rfl rfl 5 (by decide) (hts _ flk_M_20) (fun _ h9 => h9) rfl d_M_putBack_47 ?_
        refine lv_iconst (v := (nI 1)) hx hb d_M_putBack_50 (by decide) ?_
        refine lv_aload_n hx hb d_M_putBack_51 rfl (lv_at hl 0 rfl) ?_
        refine va_get (D := (dC, dI)) (ci := 4) (v := .ref h_oldMany) (C := R_M) (T := F_M) (N := 15) hx hb hts lay_M hown hK hP 0 rfl rfl 8 (by decide) (hts _ flk_M_26) (fun _ h9 => h9) rfl d_M_putBack_52 ?_
        refine lv_iconst (v := (nI 1)) hx hb d_M_putBack_55 (by decide) ?_
        obtain ⟨g_56, h⟩ := of_guard h
        refine va_iald hx hb hK hP 3 2 rfl rfl (inR_in g_56) d_M_putBack_56 ?_
        obtain ⟨g_57, h⟩ := of_guard h
        refine va_iast hx hb hK hP hD hS 1 0 rfl rfl (inR_in g_57) d_M_putBack_57 (fun H locs hP hD hS => ?_)
        have hP : va_P (dC, dI) classes [(h_o, .inr (4, [.ref h_line, .int v_typed, .ref h_fact, .ref h_marked, .int v_count, .ref h_many, .ref h_codes, .int v_oldCount, .ref h_oldMany, .ref h_oldCodes, .int v_read, .ref h_body, .ref h_roundOf, .ref h_fresh, .int v_last])), (h_many, .inl (k_many, 2, .inl (upd (upd v_many (nI 0).toNatClampNeg (v_oldMany (nI 0).toNatClampNeg)) (nI 1).toNatClampNeg (v_oldMany (nI 1).toNatClampNeg)))), (h_codes, .inl (k_codes, 6, .inl v_codes)), (h_oldMany, .inl (k_oldMany, 2, .inl v_oldMany)), (h_oldCodes, .inl (k_oldCodes, 6, .inl v_oldCodes))] H := hP
        have hD : va_D A [(h_o, .inr (4, [.ref h_line, .int v_typed, .ref h_fact, .ref h_marked, .int v_count, .ref h_many, .ref h_codes, .int v_oldCount, .ref h_oldMany, .ref h_oldCodes, .int v_read, .ref h_body, .ref h_roundOf, .ref h_fresh, .int v_last])), (h_many, .inl (k_many, 2, .inl (upd (upd v_many (nI 0).toNatClampNeg (v_oldMany (nI 0).toNatClampNeg)) (nI 1).toNatClampNeg (v_oldMany (nI 1).toNatClampNeg)))), (h_codes, .inl (k_codes, 6, .inl v_codes)), (h_oldMany, .inl (k_oldMany, 2, .inl v_oldMany)), (h_oldCodes, .inl (k_oldCodes, 6, .inl v_oldCodes))] := hD
        rw [hQ]
        exact W.vret hx hb hr (fun t ht hW => ⟨⟨(v_count, upd (upd v_many (nI 0).toNatClampNeg (v_oldMany (nI 0).toNatClampNeg)) (nI 1).toNatClampNeg (v_oldMany (nI 1).toNatClampNeg), v_codes), rfl, Option.some.inj h, by rw [ht]; exact hP, va_K.moved hW.alike hK, hD⟩, hS.F ht⟩) hS.2.2 d_M_putBack_58
      · have h := of_neg h c_13
        refine lv_aload_n hx hb d_M_putBack_16 rfl (lv_at hl 0 rfl) ?_
        refine va_get (D := (dC, dI)) (ci := 4) (v := .ref h_codes) (C := R_M) (T := F_M) (N := 15) hx hb hts lay_M hown hK hP 0 rfl rfl 6 (by decide) (hts _ flk_M_23) (fun _ h9 => h9) rfl d_M_putBack_17 ?_
        refine lv_iload_n hx hb d_M_putBack_20 rfl (lv_at hl 1 rfl) ?_
        refine lv_aload_n hx hb d_M_putBack_21 rfl (lv_at hl 0 rfl) ?_
        refine va_get (D := (dC, dI)) (ci := 4) (v := .ref h_oldCodes) (C := R_M) (T := F_M) (N := 15) hx hb hts lay_M hown hK hP 0 rfl rfl 9 (by decide) (hts _ flk_M_29) (fun _ h9 => h9) rfl d_M_putBack_22 ?_
        refine lv_iload_n hx hb d_M_putBack_25 rfl (lv_at hl 1 rfl) ?_
        obtain ⟨g_26, h⟩ := of_guard h
        refine va_iald hx hb hK hP 4 3 rfl rfl (inR_in g_26) d_M_putBack_26 ?_
        obtain ⟨g_27, h⟩ := of_guard h
        refine va_iast hx hb hK hP hD hS 2 1 rfl rfl (inR_in g_27) d_M_putBack_27 (fun H locs hP hD hS => ?_)
        have hP : va_P (dC, dI) classes [(h_o, .inr (4, [.ref h_line, .int v_typed, .ref h_fact, .ref h_marked, .int v_count, .ref h_many, .ref h_codes, .int v_oldCount, .ref h_oldMany, .ref h_oldCodes, .int v_read, .ref h_body, .ref h_roundOf, .ref h_fresh, .int v_last])), (h_many, .inl (k_many, 2, .inl v_many)), (h_codes, .inl (k_codes, 6, .inl (upd v_codes z1.toNatClampNeg (v_oldCodes z1.toNatClampNeg)))), (h_oldMany, .inl (k_oldMany, 2, .inl v_oldMany)), (h_oldCodes, .inl (k_oldCodes, 6, .inl v_oldCodes))] H := hP
        have hD : va_D A [(h_o, .inr (4, [.ref h_line, .int v_typed, .ref h_fact, .ref h_marked, .int v_count, .ref h_many, .ref h_codes, .int v_oldCount, .ref h_oldMany, .ref h_oldCodes, .int v_read, .ref h_body, .ref h_roundOf, .ref h_fresh, .int v_last])), (h_many, .inl (k_many, 2, .inl v_many)), (h_codes, .inl (k_codes, 6, .inl (upd v_codes z1.toNatClampNeg (v_oldCodes z1.toNatClampNeg)))), (h_oldMany, .inl (k_oldMany, 2, .inl v_oldMany)), (h_oldCodes, .inl (k_oldCodes, 6, .inl v_oldCodes))] := hD
        refine lv_iinc (v := z1 + (nI 1)) (lv' := [(1, .int (z1 + (nI 1))), (0, .ref h_o)]) hx hb d_M_putBack_28 hl (k := 1) rfl rfl (by decide) rfl (fun ls hl => ?_)
        refine lv_goto (tgt := 10) hx hb d_M_putBack_31 (by decide) ?_
        exact ih v_count v_many (upd v_codes z1.toNatClampNeg (v_oldCodes z1.toNatClampNeg)) (z1 + (nI 1)) h _ _ hP hD hS ls (lv_sub hl [1, 0] rfl)
  unfold m_M_putBack at h
  refine lv_aload_n hx hb d_M_putBack_0 rfl (lv_at hl 0 rfl) ?_
  refine lv_aload_n hx hb d_M_putBack_1 rfl (lv_at hl 0 rfl) ?_
  refine va_get (D := (dC, dI)) (ci := 4) (v := .int v_oldCount) (C := R_M) (T := F_M) (N := 15) hx hb hts lay_M hown hK hP 0 rfl rfl 7 (by decide) (hts _ flk_M_135) (fun _ h9 => h9) rfl d_M_putBack_2 ?_
  refine va_put (D := (dC, dI)) (ci := 4) (v := .int v_oldCount) (ty := .int) (C := R_M) (T := F_M) (N := 15) hx hb hts lay_M t_M t_M_ok n_M hown hK hP hD hS 0 rfl rfl 4 (by decide) (hts _ flk_M_85) (fun _ h9 => h9) rfl (by decide +kernel) rfl rfl (Nat.le_of_ble_eq_true rfl) d_M_putBack_5 (fun H locs hP hD hS => ?_)
  have hP : va_P (dC, dI) classes [(h_o, .inr (4, [.ref h_line, .int v_typed, .ref h_fact, .ref h_marked, .int v_oldCount, .ref h_many, .ref h_codes, .int v_oldCount, .ref h_oldMany, .ref h_oldCodes, .int v_read, .ref h_body, .ref h_roundOf, .ref h_fresh, .int v_last])), (h_many, .inl (k_many, 2, .inl v_many)), (h_codes, .inl (k_codes, 6, .inl v_codes)), (h_oldMany, .inl (k_oldMany, 2, .inl v_oldMany)), (h_oldCodes, .inl (k_oldCodes, 6, .inl v_oldCodes))] H := hP
  have hD : va_D A [(h_o, .inr (4, [.ref h_line, .int v_typed, .ref h_fact, .ref h_marked, .int v_oldCount, .ref h_many, .ref h_codes, .int v_oldCount, .ref h_oldMany, .ref h_oldCodes, .int v_read, .ref h_body, .ref h_roundOf, .ref h_fresh, .int v_last])), (h_many, .inl (k_many, 2, .inl v_many)), (h_codes, .inl (k_codes, 6, .inl v_codes)), (h_oldMany, .inl (k_oldMany, 2, .inl v_oldMany)), (h_oldCodes, .inl (k_oldCodes, 6, .inl v_oldCodes))] := hD
  refine lv_iconst (v := (nI 0)) hx hb d_M_putBack_8 (by decide) ?_
  refine lv_istore_n (lv' := [(1, .int (nI 0)), (0, .ref h_o)]) hx hb d_M_putBack_9 rfl hl (by decide) rfl (fun ls hl => ?_)
  exact J_10 40 v_oldCount v_many v_codes (nI 0) h _ _ hP hD hS ls (lv_sub hl [1, 0] rfl)
set_option maxHeartbeats 1000000 in
set_option maxRecDepth 100000 in
theorem c_M_alone (l : Launch) (dC : Nat → ClassId) (dI : Nat → Nat → Nat) (h_o h_line h_fact h_marked h_many h_codes h_oldMany h_oldCodes h_body h_roundOf h_fresh : Nat) (k_fact k_marked k_many k_codes k_roundOf k_fresh : ClassId) (sz : Nat) (v_typed : Int32) (v_count : Int32) (v_oldCount : Int32) (v_read : Int32) (v_last : Int32) (v_fact : Nat → Int32) (v_marked : Nat → Int32) (v_many : Nat → Int32) (v_codes : Nat → Int32) (v_roundOf : Nat → Int32) (v_fresh : Nat → Int32) (x1 : Int32) (r0 : Int32) (u0 : Int32 × Int32 × (Nat → Int32) × (Nat → Int32) × (Nat → Int32) × (Nat → Int32)) (h : m_M_alone v_count v_last v_fact v_marked v_many v_codes v_roundOf v_fresh x1 = some (r0, u0)) : Met l y_M_alone w_M_alone ({ frames := 5, cells := 0, slots := 0, locals := 120 } : Room) (va_Pc [.ref h_o, .int x1] (fun U => U.heap.size = sz ∧ va_P (dC, dI) classes [(h_o, .inr (4, [.ref h_line, .int v_typed, .ref h_fact, .ref h_marked, .int v_count, .ref h_many, .ref h_codes, .int v_oldCount, .ref h_oldMany, .ref h_oldCodes, .int v_read, .ref h_body, .ref h_roundOf, .ref h_fresh, .int v_last])), (h_fact, .inl (k_fact, 32, .inl v_fact)), (h_marked, .inl (k_marked, 16, .inl v_marked)), (h_many, .inl (k_many, 2, .inl v_many)), (h_codes, .inl (k_codes, 6, .inl v_codes)), (h_roundOf, .inl (k_roundOf, 16, .inl v_roundOf)), (h_fresh, .inl (k_fresh, 16, .inl v_fresh))] U.heap ∧ va_K (dC, dI) classes [(k_fact, .boolean), (k_marked, .int), (k_many, .int), (k_codes, .int), (k_roundOf, .int), (k_fresh, .boolean)] U ∧ va_D (fun _ => True) [(h_o, .inr (4, [.ref h_line, .int v_typed, .ref h_fact, .ref h_marked, .int v_count, .ref h_many, .ref h_codes, .int v_oldCount, .ref h_oldMany, .ref h_oldCodes, .int v_read, .ref h_body, .ref h_roundOf, .ref h_fresh, .int v_last])), (h_fact, .inl (k_fact, 32, .inl v_fact)), (h_marked, .inl (k_marked, 16, .inl v_marked)), (h_many, .inl (k_many, 2, .inl v_many)), (h_codes, .inl (k_codes, 6, .inl v_codes)), (h_roundOf, .inl (k_roundOf, 16, .inl v_roundOf)), (h_fresh, .inl (k_fresh, 16, .inl v_fresh))])) (va_Qi (fun (r : Int32) (u : Int32 × Int32 × (Nat → Int32) × (Nat → Int32) × (Nat → Int32) × (Nat → Int32)) => r = r0 ∧ u = u0) (fun (u : Int32 × Int32 × (Nat → Int32) × (Nat → Int32) × (Nat → Int32) × (Nat → Int32)) (t : State) => va_P (dC, dI) classes [(h_o, .inr (4, [.ref h_line, .int v_typed, .ref h_fact, .ref h_marked, .int u.1, .ref h_many, .ref h_codes, .int v_oldCount, .ref h_oldMany, .ref h_oldCodes, .int v_read, .ref h_body, .ref h_roundOf, .ref h_fresh, .int u.2.1])), (h_fact, .inl (k_fact, 32, .inl v_fact)), (h_marked, .inl (k_marked, 16, .inl v_marked)), (h_many, .inl (k_many, 2, .inl u.2.2.1)), (h_codes, .inl (k_codes, 6, .inl u.2.2.2.1)), (h_roundOf, .inl (k_roundOf, 16, .inl u.2.2.2.2.1)), (h_fresh, .inl (k_fresh, 16, .inl u.2.2.2.2.2))] t.heap ∧ va_K (dC, dI) classes [(k_fact, .boolean), (k_marked, .int), (k_many, .int), (k_codes, .int), (k_roundOf, .int), (k_fresh, .boolean)] t ∧ va_D (va_A [(h_o, .inr (4, [.ref h_line, .int v_typed, .ref h_fact, .ref h_marked, .int v_count, .ref h_many, .ref h_codes, .int v_oldCount, .ref h_oldMany, .ref h_oldCodes, .int v_read, .ref h_body, .ref h_roundOf, .ref h_fresh, .int v_last])), (h_fact, .inl (k_fact, 32, .inl v_fact)), (h_marked, .inl (k_marked, 16, .inl v_marked)), (h_many, .inl (k_many, 2, .inl v_many)), (h_codes, .inl (k_codes, 6, .inl v_codes)), (h_roundOf, .inl (k_roundOf, 16, .inl v_roundOf)), (h_fresh, .inl (k_fresh, 16, .inl v_fresh))] sz) [(h_o, .inr (4, [.ref h_line, .int v_typed, .ref h_fact, .ref h_marked, .int u.1, .ref h_many, .ref h_codes, .int v_oldCount, .ref h_oldMany, .ref h_oldCodes, .int v_read, .ref h_body, .ref h_roundOf, .ref h_fresh, .int u.2.1])), (h_fact, .inl (k_fact, 32, .inl v_fact)), (h_marked, .inl (k_marked, 16, .inl v_marked)), (h_many, .inl (k_many, 2, .inl u.2.2.1)), (h_codes, .inl (k_codes, 6, .inl u.2.2.2.1)), (h_roundOf, .inl (k_roundOf, 16, .inl u.2.2.2.2.1)), (h_fresh, .inl (k_fresh, 16, .inl u.2.2.2.2.2))]) (va_A [(h_o, .inr (4, [.ref h_line, .int v_typed, .ref h_fact, .ref h_marked, .int v_count, .ref h_many, .ref h_codes, .int v_oldCount, .ref h_oldMany, .ref h_oldCodes, .int v_read, .ref h_body, .ref h_roundOf, .ref h_fresh, .int v_last])), (h_fact, .inl (k_fact, 32, .inl v_fact)), (h_marked, .inl (k_marked, 16, .inl v_marked)), (h_many, .inl (k_many, 2, .inl v_many)), (h_codes, .inl (k_codes, 6, .inl v_codes)), (h_roundOf, .inl (k_roundOf, 16, .inl v_roundOf)), (h_fresh, .inl (k_fresh, 16, .inl v_fresh))] sz)) 0 0 (va_A [(h_o, .inr (4, [.ref h_line, .int v_typed, .ref h_fact, .ref h_marked, .int v_count, .ref h_many, .ref h_codes, .int v_oldCount, .ref h_oldMany, .ref h_oldCodes, .int v_read, .ref h_body, .ref h_roundOf, .ref h_fresh, .int v_last])), (h_fact, .inl (k_fact, 32, .inl v_fact)), (h_marked, .inl (k_marked, 16, .inl v_marked)), (h_many, .inl (k_many, 2, .inl v_many)), (h_codes, .inl (k_codes, 6, .inl v_codes)), (h_roundOf, .inl (k_roundOf, 16, .inl v_roundOf)), (h_fresh, .inl (k_fresh, 16, .inl v_fresh))] sz) := by
  refine Met.ofW (cc := b_M_alone) (maxL := 6) (ret := (some .boolean)) (by decide) rfl ?_
  intro p e s m args below meth c s₁ B hml hv
  obtain ⟨rfl, hsz, hP, hK, hD0⟩ := hv
  have hx := B.exec
  have hb := B.bytes
  have hr := B.returns
  have hts0 := atoms_spec (ws := w_M_alone) B.pre
  have hts : ∀ w ∈ lw_gd, w.before ([.ref h_o, .int x1] : List Value).toArray s = true := fun w h9 => hts0 w (List.mem_cons_of_mem _ h9)
  have hown : s.vm.findClass R_M = some m.cls := findClass_of_methodNamed B.named
  have hlocks := B.notSynchronized
  subst hsz
  have hD := hD0.self (sz := s.heap.size)
  generalize hAe : va_A [(h_o, .inr (4, [.ref h_line, .int v_typed, .ref h_fact, .ref h_marked, .int v_count, .ref h_many, .ref h_codes, .int v_oldCount, .ref h_oldMany, .ref h_oldCodes, .int v_read, .ref h_body, .ref h_roundOf, .ref h_fresh, .int v_last])), (h_fact, .inl (k_fact, 32, .inl v_fact)), (h_marked, .inl (k_marked, 16, .inl v_marked)), (h_many, .inl (k_many, 2, .inl v_many)), (h_codes, .inl (k_codes, 6, .inl v_codes)), (h_roundOf, .inl (k_roundOf, 16, .inl v_roundOf)), (h_fresh, .inl (k_fresh, 16, .inl v_fresh))] s.heap.size = A at hD ⊢
  have hA : ∀ q : Nat, s.heap.size ≤ q → A q := fun q h9 => by rw [← hAe]; exact Or.inr h9
  obtain ⟨H, eH⟩ : ∃ H : Heap, H = s.heap := ⟨_, rfl⟩
  have hS : va_S A s.heap H [] := by rw [eH]; exact va_S.rf
  have hP : va_P (dC, dI) classes [(h_o, .inr (4, [.ref h_line, .int v_typed, .ref h_fact, .ref h_marked, .int v_count, .ref h_many, .ref h_codes, .int v_oldCount, .ref h_oldMany, .ref h_oldCodes, .int v_read, .ref h_body, .ref h_roundOf, .ref h_fresh, .int v_last])), (h_fact, .inl (k_fact, 32, .inl v_fact)), (h_marked, .inl (k_marked, 16, .inl v_marked)), (h_many, .inl (k_many, 2, .inl v_many)), (h_codes, .inl (k_codes, 6, .inl v_codes)), (h_roundOf, .inl (k_roundOf, 16, .inl v_roundOf)), (h_fresh, .inl (k_fresh, 16, .inl v_fresh))] H := by rw [eH]; exact hP
  refine W_gen (fun Q hQ => ?_)
  refine W_heap eH ?_
  clear eH
  have hl := lv_entry ([.ref h_o, .int x1]) (n := 6) (Nat.le_of_ble_eq_true rfl)
  rw [lg_entry_eq]
  generalize (lg_sl ([.ref h_o, .int x1]) ++ List.replicate (6 - (lg_sl ([.ref h_o, .int x1])).length) Slot.unset).toArray = ls at hl ⊢
  have hl : lv_has ls 6 [(0, .ref h_o), (1, .int x1)] := hl
  have J_98 : ∀ (k_48 : Int32 → Int32 → (Nat → Int32) → (Nat → Int32) → (Nat → Int32) → (Nat → Int32) → Int32 → Int32 → Int32 → Int32 → Option (Int32 × Int32 × Int32 × (Nat → Int32) × (Nat → Int32) × (Nat → Int32) × (Nat → Int32))) (hk_48 : ∀ (v_count : Int32) (v_last : Int32) (v_many : Nat → Int32) (v_codes : Nat → Int32) (v_roundOf : Nat → Int32) (v_fresh : Nat → Int32) (z1 : Int32) (z2 : Int32) (z3 : Int32) (z4 : Int32), k_48 v_count v_last v_many v_codes v_roundOf v_fresh z1 z2 z3 z4 = some (r0, u0) → ∀ (H : Heap) (locs : List Loc), va_P (dC, dI) classes [(h_o, .inr (4, [.ref h_line, .int v_typed, .ref h_fact, .ref h_marked, .int v_count, .ref h_many, .ref h_codes, .int v_oldCount, .ref h_oldMany, .ref h_oldCodes, .int v_read, .ref h_body, .ref h_roundOf, .ref h_fresh, .int v_last])), (h_fact, .inl (k_fact, 32, .inl v_fact)), (h_marked, .inl (k_marked, 16, .inl v_marked)), (h_many, .inl (k_many, 2, .inl v_many)), (h_codes, .inl (k_codes, 6, .inl v_codes)), (h_roundOf, .inl (k_roundOf, 16, .inl v_roundOf)), (h_fresh, .inl (k_fresh, 16, .inl v_fresh))] H → va_D A [(h_o, .inr (4, [.ref h_line, .int v_typed, .ref h_fact, .ref h_marked, .int v_count, .ref h_many, .ref h_codes, .int v_oldCount, .ref h_oldMany, .ref h_oldCodes, .int v_read, .ref h_body, .ref h_roundOf, .ref h_fresh, .int v_last])), (h_fact, .inl (k_fact, 32, .inl v_fact)), (h_marked, .inl (k_marked, 16, .inl v_marked)), (h_many, .inl (k_many, 2, .inl v_many)), (h_codes, .inl (k_codes, 6, .inl v_codes)), (h_roundOf, .inl (k_roundOf, 16, .inl v_roundOf)), (h_fresh, .inl (k_fresh, 16, .inl v_fresh))] → va_S A s.heap H locs → ∀ (ls : Array Slot), lv_has ls 6 [(0, .ref h_o), (1, .int z1), (2, .int z2), (3, .int z3), (4, .int z4)] → W p l e (headSpec w_M_alone ({ frames := 5, cells := 0, slots := 0, locals := 120 } : Room)).room s m ([.ref h_o, .int x1] : List Value).toArray below meth c H locs 0 0 Q (F0 m 48 ls [])) (v_count : Int32) (v_last : Int32) (v_many : Nat → Int32) (v_codes : Nat → Int32) (v_roundOf : Nat → Int32) (v_fresh : Nat → Int32) (z1 : Int32) (z2 : Int32) (z3 : Int32) (z4 : Int32), m_M_alone_98 v_fact v_marked k_48 v_count v_last v_many v_codes v_roundOf v_fresh z1 z2 z3 z4 = some (r0, u0) → ∀ (H : Heap) (locs : List Loc), va_P (dC, dI) classes [(h_o, .inr (4, [.ref h_line, .int v_typed, .ref h_fact, .ref h_marked, .int v_count, .ref h_many, .ref h_codes, .int v_oldCount, .ref h_oldMany, .ref h_oldCodes, .int v_read, .ref h_body, .ref h_roundOf, .ref h_fresh, .int v_last])), (h_fact, .inl (k_fact, 32, .inl v_fact)), (h_marked, .inl (k_marked, 16, .inl v_marked)), (h_many, .inl (k_many, 2, .inl v_many)), (h_codes, .inl (k_codes, 6, .inl v_codes)), (h_roundOf, .inl (k_roundOf, 16, .inl v_roundOf)), (h_fresh, .inl (k_fresh, 16, .inl v_fresh))] H → va_D A [(h_o, .inr (4, [.ref h_line, .int v_typed, .ref h_fact, .ref h_marked, .int v_count, .ref h_many, .ref h_codes, .int v_oldCount, .ref h_oldMany, .ref h_oldCodes, .int v_read, .ref h_body, .ref h_roundOf, .ref h_fresh, .int v_last])), (h_fact, .inl (k_fact, 32, .inl v_fact)), (h_marked, .inl (k_marked, 16, .inl v_marked)), (h_many, .inl (k_many, 2, .inl v_many)), (h_codes, .inl (k_codes, 6, .inl v_codes)), (h_roundOf, .inl (k_roundOf, 16, .inl v_roundOf)), (h_fresh, .inl (k_fresh, 16, .inl v_fresh))] → va_S A s.heap H locs → ∀ (ls : Array Slot), lv_has ls 6 [(0, .ref h_o), (1, .int z1), (2, .int z2), (3, .int z3), (4, .int z4)] → W p l e (headSpec w_M_alone ({ frames := 5, cells := 0, slots := 0, locals := 120 } : Room)).room s m ([.ref h_o, .int x1] : List Value).toArray below meth c H locs 0 0 Q (F0 m 98 ls []) := by
    intro k_48 hk_48 v_count v_last v_many v_codes v_roundOf v_fresh z1 z2 z3 z4 h H locs hP hD hS ls hl
    unfold m_M_alone_98 at h
    refine lv_iinc (v := z4 + (nI 1)) (lv' := [(4, .int (z4 + (nI 1))), (0, .ref h_o), (1, .int z1), (2, .int z2), (3, .int z3)]) hx hb d_M_alone_98 hl (k := 4) rfl rfl (by decide) rfl (fun ls hl => ?_)
    refine lv_goto (tgt := 48) hx hb d_M_alone_101 (by decide) ?_
    exact hk_48 v_count v_last v_many v_codes v_roundOf v_fresh z1 z2 z3 (z4 + (nI 1)) h _ _ hP hD hS ls (lv_sub hl [1, 2, 3, 4, 0] rfl)
  have J_79 : ∀ (k_48 : Int32 → Int32 → (Nat → Int32) → (Nat → Int32) → (Nat → Int32) → (Nat → Int32) → Int32 → Int32 → Int32 → Int32 → Option (Int32 × Int32 × Int32 × (Nat → Int32) × (Nat → Int32) × (Nat → Int32) × (Nat → Int32))) (hk_48 : ∀ (v_count : Int32) (v_last : Int32) (v_many : Nat → Int32) (v_codes : Nat → Int32) (v_roundOf : Nat → Int32) (v_fresh : Nat → Int32) (z1 : Int32) (z2 : Int32) (z3 : Int32) (z4 : Int32), k_48 v_count v_last v_many v_codes v_roundOf v_fresh z1 z2 z3 z4 = some (r0, u0) → ∀ (H : Heap) (locs : List Loc), va_P (dC, dI) classes [(h_o, .inr (4, [.ref h_line, .int v_typed, .ref h_fact, .ref h_marked, .int v_count, .ref h_many, .ref h_codes, .int v_oldCount, .ref h_oldMany, .ref h_oldCodes, .int v_read, .ref h_body, .ref h_roundOf, .ref h_fresh, .int v_last])), (h_fact, .inl (k_fact, 32, .inl v_fact)), (h_marked, .inl (k_marked, 16, .inl v_marked)), (h_many, .inl (k_many, 2, .inl v_many)), (h_codes, .inl (k_codes, 6, .inl v_codes)), (h_roundOf, .inl (k_roundOf, 16, .inl v_roundOf)), (h_fresh, .inl (k_fresh, 16, .inl v_fresh))] H → va_D A [(h_o, .inr (4, [.ref h_line, .int v_typed, .ref h_fact, .ref h_marked, .int v_count, .ref h_many, .ref h_codes, .int v_oldCount, .ref h_oldMany, .ref h_oldCodes, .int v_read, .ref h_body, .ref h_roundOf, .ref h_fresh, .int v_last])), (h_fact, .inl (k_fact, 32, .inl v_fact)), (h_marked, .inl (k_marked, 16, .inl v_marked)), (h_many, .inl (k_many, 2, .inl v_many)), (h_codes, .inl (k_codes, 6, .inl v_codes)), (h_roundOf, .inl (k_roundOf, 16, .inl v_roundOf)), (h_fresh, .inl (k_fresh, 16, .inl v_fresh))] → va_S A s.heap H locs → ∀ (ls : Array Slot), lv_has ls 6 [(0, .ref h_o), (1, .int z1), (2, .int z2), (3, .int z3), (4, .int z4)] → W p l e (headSpec w_M_alone ({ frames := 5, cells := 0, slots := 0, locals := 120 } : Room)).room s m ([.ref h_o, .int x1] : List Value).toArray below meth c H locs 0 0 Q (F0 m 48 ls [])) (v_count : Int32) (v_last : Int32) (v_many : Nat → Int32) (v_codes : Nat → Int32) (v_roundOf : Nat → Int32) (v_fresh : Nat → Int32) (z1 : Int32) (z2 : Int32) (z3 : Int32) (z4 : Int32) (y0 : Int32) (y1 : Int32) (y2 : Int32) (y3 : Int32), m_M_alone_79 v_fact v_marked k_48 v_count v_last v_many v_codes v_roundOf v_fresh z1 z2 z3 z4 y0 y1 y2 y3 = some (r0, u0) → ∀ (H : Heap) (locs : List Loc), va_P (dC, dI) classes [(h_o, .inr (4, [.ref h_line, .int v_typed, .ref h_fact, .ref h_marked, .int v_count, .ref h_many, .ref h_codes, .int v_oldCount, .ref h_oldMany, .ref h_oldCodes, .int v_read, .ref h_body, .ref h_roundOf, .ref h_fresh, .int v_last])), (h_fact, .inl (k_fact, 32, .inl v_fact)), (h_marked, .inl (k_marked, 16, .inl v_marked)), (h_many, .inl (k_many, 2, .inl v_many)), (h_codes, .inl (k_codes, 6, .inl v_codes)), (h_roundOf, .inl (k_roundOf, 16, .inl v_roundOf)), (h_fresh, .inl (k_fresh, 16, .inl v_fresh))] H → va_D A [(h_o, .inr (4, [.ref h_line, .int v_typed, .ref h_fact, .ref h_marked, .int v_count, .ref h_many, .ref h_codes, .int v_oldCount, .ref h_oldMany, .ref h_oldCodes, .int v_read, .ref h_body, .ref h_roundOf, .ref h_fresh, .int v_last])), (h_fact, .inl (k_fact, 32, .inl v_fact)), (h_marked, .inl (k_marked, 16, .inl v_marked)), (h_many, .inl (k_many, 2, .inl v_many)), (h_codes, .inl (k_codes, 6, .inl v_codes)), (h_roundOf, .inl (k_roundOf, 16, .inl v_roundOf)), (h_fresh, .inl (k_fresh, 16, .inl v_fresh))] → va_S A s.heap H locs → ∀ (ls : Array Slot), lv_has ls 6 [(0, .ref h_o), (1, .int z1), (2, .int z2), (3, .int z3), (4, .int z4)] → W p l e (headSpec w_M_alone ({ frames := 5, cells := 0, slots := 0, locals := 120 } : Room)).room s m ([.ref h_o, .int x1] : List Value).toArray below meth c H locs 0 0 Q (F0 m 79 ls [.int y0, .int y1, .int y2, .int y3, .ref h_o]) := by
    intro k_48 hk_48 v_count v_last v_many v_codes v_roundOf v_fresh z1 z2 z3 z4 y0 y1 y2 y3 h H locs hP hD hS ls hl
    unfold m_M_alone_79 at h
    have hPc := hP.sub (ws' := [(h_o, .inr (4, [.ref h_line, .int v_typed, .ref h_fact, .ref h_marked, .int v_count, .ref h_many, .ref h_codes, .int v_oldCount, .ref h_oldMany, .ref h_oldCodes, .int v_read, .ref h_body, .ref h_roundOf, .ref h_fresh, .int v_last])), (h_many, .inl (k_many, 2, .inl v_many)), (h_codes, .inl (k_codes, 6, .inl v_codes))]) [0, 3, 4] rfl
    have hDc := hD.sub (ws' := [(h_o, .inr (4, [.ref h_line, .int v_typed, .ref h_fact, .ref h_marked, .int v_count, .ref h_many, .ref h_codes, .int v_oldCount, .ref h_oldMany, .ref h_oldCodes, .int v_read, .ref h_body, .ref h_roundOf, .ref h_fresh, .int v_last])), (h_many, .inl (k_many, 2, .inl v_many)), (h_codes, .inl (k_codes, 6, .inl v_codes))]) [0, 3, 4] (by decide) rfl
    have hKc := hK.sub (tys' := [(k_many, .int), (k_codes, .int)]) [2, 3] rfl
    have hFc := va_free (wc := [(h_o, .inr (4, [.ref h_line, .int v_typed, .ref h_fact, .ref h_marked, .int v_count, .ref h_many, .ref h_codes, .int v_oldCount, .ref h_oldMany, .ref h_oldCodes, .int v_read, .ref h_body, .ref h_roundOf, .ref h_fresh, .int v_last])), (h_many, .inl (k_many, 2, .inl v_many)), (h_codes, .inl (k_codes, 6, .inl v_codes))]) hD hS hA [0, 3, 4] rfl
    obtain ⟨v_79, hc_79, h⟩ := of_bind h
    refine va_calli (va_runV (As := [.int y3, .int y2, .int y1, .int y0]) (rest := []) ⟨hx, hb, hml, hown, hts⟩ (c_M_set l dC dI h_o h_line h_fact h_marked h_many h_codes h_oldMany h_oldCodes h_body h_roundOf h_fresh k_many k_codes H.size v_typed v_count v_oldCount v_read v_last v_many v_codes y3 y2 y1 y0 v_79.1 v_79.2 hc_79) (cwV 4 hts (gV mlk_M_138 ins_M_set sel_M_set ini_M cod_M_set) rfl rfl rfl (by decide +kernel) ⟨Nat.le_of_ble_eq_true rfl, Nat.le_of_ble_eq_true rfl⟩) ⟨fun a U g mk q => by obtain ⟨q0, q1, qP, qK, qD⟩ := q; exact ⟨q0, q1, qP, va_K.moved (u := U) (U := U.calling g mk a) (Vm.Alike.refl U.vm) qK, qD⟩, va_recv hKc hPc (ci := 4) (q0 := 0) rfl rfl, fun U hU hW => ⟨rfl, by rw [hU], by rw [hU]; exact hPc, va_K.moved hW.alike hKc, hDc.weaken (fun _ _ _ _ => trivial)⟩⟩ rfl rfl hl.1 rfl (lv_room (Nat.le_of_ble_eq_true rfl)) d_M_alone_79 ⟨Nat.le_of_ble_eq_true rfl, Nat.le_of_ble_eq_true rfl⟩) hS (fun q _ h9 => hFc q h9) hFc (fun r_79 u t H1 locs ht hvm hw hB hz1 hk1 hS => ?_)
    obtain ⟨rfl, rfl⟩ := hw
    obtain ⟨hP1, hK1, hD1⟩ := hB
    rw [ht] at hP1
    obtain ⟨hP, hD⟩ := va_join (wr := [(h_fact, .inl (k_fact, 32, .inl v_fact)), (h_marked, .inl (k_marked, 16, .inl v_marked)), (h_roundOf, .inl (k_roundOf, 16, .inl v_roundOf)), (h_fresh, .inl (k_fresh, 16, .inl v_fresh))]) (w1 := [(h_o, .inr (4, [.ref h_line, .int v_typed, .ref h_fact, .ref h_marked, .int v_count, .ref h_many, .ref h_codes, .int v_oldCount, .ref h_oldMany, .ref h_oldCodes, .int v_read, .ref h_body, .ref h_roundOf, .ref h_fresh, .int v_last])), (h_many, .inl (k_many, 2, .inl v_79.2.1)), (h_codes, .inl (k_codes, 6, .inl v_79.2.2))]) hP hD [0, 3, 4] [1, 2, 5, 6] rfl rfl (by decide) (by decide) hk1 hFc hP1 hD1
    have hP := hP.sub (ws' := [(h_o, .inr (4, [.ref h_line, .int v_typed, .ref h_fact, .ref h_marked, .int v_count, .ref h_many, .ref h_codes, .int v_oldCount, .ref h_oldMany, .ref h_oldCodes, .int v_read, .ref h_body, .ref h_roundOf, .ref h_fresh, .int v_last])), (h_fact, .inl (k_fact, 32, .inl v_fact)), (h_marked, .inl (k_marked, 16, .inl v_marked)), (h_many, .inl (k_many, 2, .inl v_79.2.1)), (h_codes, .inl (k_codes, 6, .inl v_79.2.2)), (h_roundOf, .inl (k_roundOf, 16, .inl v_roundOf)), (h_fresh, .inl (k_fresh, 16, .inl v_fresh))]) [4, 0, 1, 5, 6, 2, 3] rfl
    have hD := hD.sub (ws' := [(h_o, .inr (4, [.ref h_line, .int v_typed, .ref h_fact, .ref h_marked, .int v_count, .ref h_many, .ref h_codes, .int v_oldCount, .ref h_oldMany, .ref h_oldCodes, .int v_read, .ref h_body, .ref h_roundOf, .ref h_fresh, .int v_last])), (h_fact, .inl (k_fact, 32, .inl v_fact)), (h_marked, .inl (k_marked, 16, .inl v_marked)), (h_many, .inl (k_many, 2, .inl v_79.2.1)), (h_codes, .inl (k_codes, 6, .inl v_79.2.2)), (h_roundOf, .inl (k_roundOf, 16, .inl v_roundOf)), (h_fresh, .inl (k_fresh, 16, .inl v_fresh))]) [4, 0, 1, 5, 6, 2, 3] (by decide) rfl
    generalize H1 = H at hP hS ⊢
    refine lv_istore (lv' := [(5, .int v_79.1), (0, .ref h_o), (1, .int z1), (2, .int z2), (3, .int z3), (4, .int z4)]) hx hb d_M_alone_82 hl (by decide) rfl (fun ls hl => ?_)
    refine lv_iload hx hb d_M_alone_84 (lv_at hl 0 rfl) ?_
    refine lv_if_eq (tgt := 98) hx hb d_M_alone_86 (by decide) (fun c_86 => ?_) (fun c_86 => ?_)
    · have h := of_pos h c_86
      exact J_98 k_48 hk_48 v_count v_last v_79.2.1 v_79.2.2 v_roundOf v_fresh z1 z2 z3 z4 h _ _ hP hD hS ls (lv_sub hl [1, 2, 3, 4, 5] rfl)
    · have h := of_neg h c_86
      refine lv_aload_n hx hb d_M_alone_89 rfl (lv_at hl 1 rfl) ?_
      have hPc := hP.sub (ws' := [(h_o, .inr (4, [.ref h_line, .int v_typed, .ref h_fact, .ref h_marked, .int v_count, .ref h_many, .ref h_codes, .int v_oldCount, .ref h_oldMany, .ref h_oldCodes, .int v_read, .ref h_body, .ref h_roundOf, .ref h_fresh, .int v_last])), (h_fact, .inl (k_fact, 32, .inl v_fact)), (h_marked, .inl (k_marked, 16, .inl v_marked)), (h_many, .inl (k_many, 2, .inl v_79.2.1)), (h_codes, .inl (k_codes, 6, .inl v_79.2.2)), (h_roundOf, .inl (k_roundOf, 16, .inl v_roundOf)), (h_fresh, .inl (k_fresh, 16, .inl v_fresh))]) [0, 1, 2, 3, 4, 5, 6] rfl
      have hDc := hD.sub (ws' := [(h_o, .inr (4, [.ref h_line, .int v_typed, .ref h_fact, .ref h_marked, .int v_count, .ref h_many, .ref h_codes, .int v_oldCount, .ref h_oldMany, .ref h_oldCodes, .int v_read, .ref h_body, .ref h_roundOf, .ref h_fresh, .int v_last])), (h_fact, .inl (k_fact, 32, .inl v_fact)), (h_marked, .inl (k_marked, 16, .inl v_marked)), (h_many, .inl (k_many, 2, .inl v_79.2.1)), (h_codes, .inl (k_codes, 6, .inl v_79.2.2)), (h_roundOf, .inl (k_roundOf, 16, .inl v_roundOf)), (h_fresh, .inl (k_fresh, 16, .inl v_fresh))]) [0, 1, 2, 3, 4, 5, 6] (by decide) rfl
      have hKc := hK.sub (tys' := [(k_fact, .boolean), (k_marked, .int), (k_many, .int), (k_codes, .int), (k_roundOf, .int), (k_fresh, .boolean)]) [0, 1, 2, 3, 4, 5] rfl
      have hFc := va_free (wc := [(h_o, .inr (4, [.ref h_line, .int v_typed, .ref h_fact, .ref h_marked, .int v_count, .ref h_many, .ref h_codes, .int v_oldCount, .ref h_oldMany, .ref h_oldCodes, .int v_read, .ref h_body, .ref h_roundOf, .ref h_fresh, .int v_last])), (h_fact, .inl (k_fact, 32, .inl v_fact)), (h_marked, .inl (k_marked, 16, .inl v_marked)), (h_many, .inl (k_many, 2, .inl v_79.2.1)), (h_codes, .inl (k_codes, 6, .inl v_79.2.2)), (h_roundOf, .inl (k_roundOf, 16, .inl v_roundOf)), (h_fresh, .inl (k_fresh, 16, .inl v_fresh))]) hD hS hA [0, 1, 2, 3, 4, 5, 6] rfl
      obtain ⟨v_90, hc_90, h⟩ := of_bind h
      refine va_calli (va_runV (As := []) (rest := []) ⟨hx, hb, hml, hown, hts⟩ (c_M_fits l dC dI h_o h_line h_fact h_marked h_many h_codes h_oldMany h_oldCodes h_body h_roundOf h_fresh k_fact k_marked k_many k_codes k_roundOf k_fresh H.size v_typed v_count v_oldCount v_read v_last v_fact v_marked v_79.2.1 v_79.2.2 v_roundOf v_fresh v_90.1 v_90.2 hc_90) (cwV 0 hts (gV mlk_M_141 ins_M_fits sel_M_fits ini_M cod_M_fits) rfl rfl rfl (by decide +kernel) ⟨Nat.le_of_ble_eq_true rfl, Nat.le_of_ble_eq_true rfl⟩) ⟨fun a U g mk q => by obtain ⟨q0, q1, qP, qK, qD⟩ := q; exact ⟨q0, q1, qP, va_K.moved (u := U) (U := U.calling g mk a) (Vm.Alike.refl U.vm) qK, qD⟩, va_recv hKc hPc (ci := 4) (q0 := 0) rfl rfl, fun U hU hW => ⟨rfl, by rw [hU], by rw [hU]; exact hPc, va_K.moved hW.alike hKc, hDc.weaken (fun _ _ _ _ => trivial)⟩⟩ rfl rfl hl.1 rfl (lv_room (Nat.le_of_ble_eq_true rfl)) d_M_alone_90 ⟨Nat.le_of_ble_eq_true rfl, Nat.le_of_ble_eq_true rfl⟩) hS (fun q _ h9 => hFc q h9) hFc (fun r_90 u t H1 locs ht hvm hw hB hz1 hk1 hS => ?_)
      obtain ⟨rfl, rfl⟩ := hw
      obtain ⟨hP1, hK1, hD1⟩ := hB
      rw [ht] at hP1
      obtain ⟨hP, hD⟩ := va_join (wr := []) (w1 := [(h_o, .inr (4, [.ref h_line, .int v_typed, .ref h_fact, .ref h_marked, .int v_count, .ref h_many, .ref h_codes, .int v_oldCount, .ref h_oldMany, .ref h_oldCodes, .int v_read, .ref h_body, .ref h_roundOf, .ref h_fresh, .int v_90.2.1])), (h_fact, .inl (k_fact, 32, .inl v_fact)), (h_marked, .inl (k_marked, 16, .inl v_marked)), (h_many, .inl (k_many, 2, .inl v_79.2.1)), (h_codes, .inl (k_codes, 6, .inl v_79.2.2)), (h_roundOf, .inl (k_roundOf, 16, .inl v_90.2.2.1)), (h_fresh, .inl (k_fresh, 16, .inl v_90.2.2.2))]) hP hD [0, 1, 2, 3, 4, 5, 6] [] rfl rfl (by decide) (by decide) hk1 hFc hP1 hD1
      have hP := hP.sub (ws' := [(h_o, .inr (4, [.ref h_line, .int v_typed, .ref h_fact, .ref h_marked, .int v_count, .ref h_many, .ref h_codes, .int v_oldCount, .ref h_oldMany, .ref h_oldCodes, .int v_read, .ref h_body, .ref h_roundOf, .ref h_fresh, .int v_90.2.1])), (h_fact, .inl (k_fact, 32, .inl v_fact)), (h_marked, .inl (k_marked, 16, .inl v_marked)), (h_many, .inl (k_many, 2, .inl v_79.2.1)), (h_codes, .inl (k_codes, 6, .inl v_79.2.2)), (h_roundOf, .inl (k_roundOf, 16, .inl v_90.2.2.1)), (h_fresh, .inl (k_fresh, 16, .inl v_90.2.2.2))]) [0, 1, 2, 3, 4, 5, 6] rfl
      have hD := hD.sub (ws' := [(h_o, .inr (4, [.ref h_line, .int v_typed, .ref h_fact, .ref h_marked, .int v_count, .ref h_many, .ref h_codes, .int v_oldCount, .ref h_oldMany, .ref h_oldCodes, .int v_read, .ref h_body, .ref h_roundOf, .ref h_fresh, .int v_90.2.1])), (h_fact, .inl (k_fact, 32, .inl v_fact)), (h_marked, .inl (k_marked, 16, .inl v_marked)), (h_many, .inl (k_many, 2, .inl v_79.2.1)), (h_codes, .inl (k_codes, 6, .inl v_79.2.2)), (h_roundOf, .inl (k_roundOf, 16, .inl v_90.2.2.1)), (h_fresh, .inl (k_fresh, 16, .inl v_90.2.2.2))]) [0, 1, 2, 3, 4, 5, 6] (by decide) rfl
      generalize H1 = H at hP hS ⊢
      refine lv_if_eq (tgt := 98) hx hb d_M_alone_93 (by decide) (fun c_93 => ?_) (fun c_93 => ?_)
      · have h := of_pos h c_93
        exact J_98 k_48 hk_48 v_count v_90.2.1 v_79.2.1 v_79.2.2 v_90.2.2.1 v_90.2.2.2 z1 z2 z3 z4 h _ _ hP hD hS ls (lv_sub hl [1, 2, 3, 4, 5] rfl)
      · have h := of_neg h c_93
        refine lv_iconst (v := (nI 1)) hx hb d_M_alone_96 (by decide) ?_
        rw [hQ]
        exact W.zret (v := (nI 1)) hx hb hr rfl (fun t ht hW => ⟨⟨(nI 1), (v_count, v_90.2.1, v_79.2.1, v_79.2.2, v_90.2.2.1, v_90.2.2.2), rfl, Prod.mk.inj (Option.some.inj h), by rw [ht]; exact hP, va_K.moved hW.alike hK, hD⟩, hS.F ht⟩) hS.2.2 d_M_alone_97
  have J_68 : ∀ (k_48 : Int32 → Int32 → (Nat → Int32) → (Nat → Int32) → (Nat → Int32) → (Nat → Int32) → Int32 → Int32 → Int32 → Int32 → Option (Int32 × Int32 × Int32 × (Nat → Int32) × (Nat → Int32) × (Nat → Int32) × (Nat → Int32))) (hk_48 : ∀ (v_count : Int32) (v_last : Int32) (v_many : Nat → Int32) (v_codes : Nat → Int32) (v_roundOf : Nat → Int32) (v_fresh : Nat → Int32) (z1 : Int32) (z2 : Int32) (z3 : Int32) (z4 : Int32), k_48 v_count v_last v_many v_codes v_roundOf v_fresh z1 z2 z3 z4 = some (r0, u0) → ∀ (H : Heap) (locs : List Loc), va_P (dC, dI) classes [(h_o, .inr (4, [.ref h_line, .int v_typed, .ref h_fact, .ref h_marked, .int v_count, .ref h_many, .ref h_codes, .int v_oldCount, .ref h_oldMany, .ref h_oldCodes, .int v_read, .ref h_body, .ref h_roundOf, .ref h_fresh, .int v_last])), (h_fact, .inl (k_fact, 32, .inl v_fact)), (h_marked, .inl (k_marked, 16, .inl v_marked)), (h_many, .inl (k_many, 2, .inl v_many)), (h_codes, .inl (k_codes, 6, .inl v_codes)), (h_roundOf, .inl (k_roundOf, 16, .inl v_roundOf)), (h_fresh, .inl (k_fresh, 16, .inl v_fresh))] H → va_D A [(h_o, .inr (4, [.ref h_line, .int v_typed, .ref h_fact, .ref h_marked, .int v_count, .ref h_many, .ref h_codes, .int v_oldCount, .ref h_oldMany, .ref h_oldCodes, .int v_read, .ref h_body, .ref h_roundOf, .ref h_fresh, .int v_last])), (h_fact, .inl (k_fact, 32, .inl v_fact)), (h_marked, .inl (k_marked, 16, .inl v_marked)), (h_many, .inl (k_many, 2, .inl v_many)), (h_codes, .inl (k_codes, 6, .inl v_codes)), (h_roundOf, .inl (k_roundOf, 16, .inl v_roundOf)), (h_fresh, .inl (k_fresh, 16, .inl v_fresh))] → va_S A s.heap H locs → ∀ (ls : Array Slot), lv_has ls 6 [(0, .ref h_o), (1, .int z1), (2, .int z2), (3, .int z3), (4, .int z4)] → W p l e (headSpec w_M_alone ({ frames := 5, cells := 0, slots := 0, locals := 120 } : Room)).room s m ([.ref h_o, .int x1] : List Value).toArray below meth c H locs 0 0 Q (F0 m 48 ls [])) (v_count : Int32) (v_last : Int32) (v_many : Nat → Int32) (v_codes : Nat → Int32) (v_roundOf : Nat → Int32) (v_fresh : Nat → Int32) (z1 : Int32) (z2 : Int32) (z3 : Int32) (z4 : Int32) (y0 : Int32) (y1 : Int32) (y2 : Int32), m_M_alone_68 v_fact v_marked k_48 v_count v_last v_many v_codes v_roundOf v_fresh z1 z2 z3 z4 y0 y1 y2 = some (r0, u0) → ∀ (H : Heap) (locs : List Loc), va_P (dC, dI) classes [(h_o, .inr (4, [.ref h_line, .int v_typed, .ref h_fact, .ref h_marked, .int v_count, .ref h_many, .ref h_codes, .int v_oldCount, .ref h_oldMany, .ref h_oldCodes, .int v_read, .ref h_body, .ref h_roundOf, .ref h_fresh, .int v_last])), (h_fact, .inl (k_fact, 32, .inl v_fact)), (h_marked, .inl (k_marked, 16, .inl v_marked)), (h_many, .inl (k_many, 2, .inl v_many)), (h_codes, .inl (k_codes, 6, .inl v_codes)), (h_roundOf, .inl (k_roundOf, 16, .inl v_roundOf)), (h_fresh, .inl (k_fresh, 16, .inl v_fresh))] H → va_D A [(h_o, .inr (4, [.ref h_line, .int v_typed, .ref h_fact, .ref h_marked, .int v_count, .ref h_many, .ref h_codes, .int v_oldCount, .ref h_oldMany, .ref h_oldCodes, .int v_read, .ref h_body, .ref h_roundOf, .ref h_fresh, .int v_last])), (h_fact, .inl (k_fact, 32, .inl v_fact)), (h_marked, .inl (k_marked, 16, .inl v_marked)), (h_many, .inl (k_many, 2, .inl v_many)), (h_codes, .inl (k_codes, 6, .inl v_codes)), (h_roundOf, .inl (k_roundOf, 16, .inl v_roundOf)), (h_fresh, .inl (k_fresh, 16, .inl v_fresh))] → va_S A s.heap H locs → ∀ (ls : Array Slot), lv_has ls 6 [(0, .ref h_o), (1, .int z1), (2, .int z2), (3, .int z3), (4, .int z4)] → W p l e (headSpec w_M_alone ({ frames := 5, cells := 0, slots := 0, locals := 120 } : Room)).room s m ([.ref h_o, .int x1] : List Value).toArray below meth c H locs 0 0 Q (F0 m 68 ls [.int y0, .int y1, .int y2, .ref h_o]) := by
    intro k_48 hk_48 v_count v_last v_many v_codes v_roundOf v_fresh z1 z2 z3 z4 y0 y1 y2 h H locs hP hD hS ls hl
    unfold m_M_alone_68 at h
    refine lv_iload_n hx hb d_M_alone_68 rfl (lv_at hl 1 rfl) ?_
    refine lv_iconst (v := (nI 2)) hx hb d_M_alone_69 (by decide) ?_
    refine lv_icmp_le (tgt := 78) hx hb d_M_alone_70 (by decide) (fun c_70 => ?_) (fun c_70 => ?_)
    · have h := of_pos h c_70
      refine lv_iconst (v := (-1 : Int32)) hx hb d_M_alone_78 (by decide) ?_
      exact J_79 k_48 hk_48 v_count v_last v_many v_codes v_roundOf v_fresh z1 z2 z3 z4 (-1 : Int32) y0 y1 y2 h _ _ hP hD hS ls (lv_sub hl [0, 1, 2, 3, 4] rfl)
    · have h := of_neg h c_70
      refine lv_iload hx hb d_M_alone_73 (lv_at hl 4 rfl) ?_
      refine lv_goto (tgt := 79) hx hb d_M_alone_75 (by decide) ?_
      exact J_79 k_48 hk_48 v_count v_last v_many v_codes v_roundOf v_fresh z1 z2 z3 z4 z4 y0 y1 y2 h _ _ hP hD hS ls (lv_sub hl [0, 1, 2, 3, 4] rfl)
  have J_48 : ∀ (k_27 : Int32 → Int32 → (Nat → Int32) → (Nat → Int32) → (Nat → Int32) → (Nat → Int32) → Int32 → Int32 → Int32 → Option (Int32 × Int32 × Int32 × (Nat → Int32) × (Nat → Int32) × (Nat → Int32) × (Nat → Int32))) (hk_27 : ∀ (v_count : Int32) (v_last : Int32) (v_many : Nat → Int32) (v_codes : Nat → Int32) (v_roundOf : Nat → Int32) (v_fresh : Nat → Int32) (z1 : Int32) (z2 : Int32) (z3 : Int32), k_27 v_count v_last v_many v_codes v_roundOf v_fresh z1 z2 z3 = some (r0, u0) → ∀ (H : Heap) (locs : List Loc), va_P (dC, dI) classes [(h_o, .inr (4, [.ref h_line, .int v_typed, .ref h_fact, .ref h_marked, .int v_count, .ref h_many, .ref h_codes, .int v_oldCount, .ref h_oldMany, .ref h_oldCodes, .int v_read, .ref h_body, .ref h_roundOf, .ref h_fresh, .int v_last])), (h_fact, .inl (k_fact, 32, .inl v_fact)), (h_marked, .inl (k_marked, 16, .inl v_marked)), (h_many, .inl (k_many, 2, .inl v_many)), (h_codes, .inl (k_codes, 6, .inl v_codes)), (h_roundOf, .inl (k_roundOf, 16, .inl v_roundOf)), (h_fresh, .inl (k_fresh, 16, .inl v_fresh))] H → va_D A [(h_o, .inr (4, [.ref h_line, .int v_typed, .ref h_fact, .ref h_marked, .int v_count, .ref h_many, .ref h_codes, .int v_oldCount, .ref h_oldMany, .ref h_oldCodes, .int v_read, .ref h_body, .ref h_roundOf, .ref h_fresh, .int v_last])), (h_fact, .inl (k_fact, 32, .inl v_fact)), (h_marked, .inl (k_marked, 16, .inl v_marked)), (h_many, .inl (k_many, 2, .inl v_many)), (h_codes, .inl (k_codes, 6, .inl v_codes)), (h_roundOf, .inl (k_roundOf, 16, .inl v_roundOf)), (h_fresh, .inl (k_fresh, 16, .inl v_fresh))] → va_S A s.heap H locs → ∀ (ls : Array Slot), lv_has ls 6 [(0, .ref h_o), (1, .int z1), (2, .int z2), (3, .int z3)] → W p l e (headSpec w_M_alone ({ frames := 5, cells := 0, slots := 0, locals := 120 } : Room)).room s m ([.ref h_o, .int x1] : List Value).toArray below meth c H locs 0 0 Q (F0 m 27 ls [])) (n : Nat) (v_count : Int32) (v_last : Int32) (v_many : Nat → Int32) (v_codes : Nat → Int32) (v_roundOf : Nat → Int32) (v_fresh : Nat → Int32) (z1 : Int32) (z2 : Int32) (z3 : Int32) (z4 : Int32), m_M_alone_48 v_fact v_marked k_27 n v_count v_last v_many v_codes v_roundOf v_fresh z1 z2 z3 z4 = some (r0, u0) → ∀ (H : Heap) (locs : List Loc), va_P (dC, dI) classes [(h_o, .inr (4, [.ref h_line, .int v_typed, .ref h_fact, .ref h_marked, .int v_count, .ref h_many, .ref h_codes, .int v_oldCount, .ref h_oldMany, .ref h_oldCodes, .int v_read, .ref h_body, .ref h_roundOf, .ref h_fresh, .int v_last])), (h_fact, .inl (k_fact, 32, .inl v_fact)), (h_marked, .inl (k_marked, 16, .inl v_marked)), (h_many, .inl (k_many, 2, .inl v_many)), (h_codes, .inl (k_codes, 6, .inl v_codes)), (h_roundOf, .inl (k_roundOf, 16, .inl v_roundOf)), (h_fresh, .inl (k_fresh, 16, .inl v_fresh))] H → va_D A [(h_o, .inr (4, [.ref h_line, .int v_typed, .ref h_fact, .ref h_marked, .int v_count, .ref h_many, .ref h_codes, .int v_oldCount, .ref h_oldMany, .ref h_oldCodes, .int v_read, .ref h_body, .ref h_roundOf, .ref h_fresh, .int v_last])), (h_fact, .inl (k_fact, 32, .inl v_fact)), (h_marked, .inl (k_marked, 16, .inl v_marked)), (h_many, .inl (k_many, 2, .inl v_many)), (h_codes, .inl (k_codes, 6, .inl v_codes)), (h_roundOf, .inl (k_roundOf, 16, .inl v_roundOf)), (h_fresh, .inl (k_fresh, 16, .inl v_fresh))] → va_S A s.heap H locs → ∀ (ls : Array Slot), lv_has ls 6 [(0, .ref h_o), (1, .int z1), (2, .int z2), (3, .int z3), (4, .int z4)] → W p l e (headSpec w_M_alone ({ frames := 5, cells := 0, slots := 0, locals := 120 } : Room)).room s m ([.ref h_o, .int x1] : List Value).toArray below meth c H locs 0 0 Q (F0 m 48 ls []) := by
    intro k_27 hk_27 n
    induction n with
    | zero => intro v_count v_last v_many v_codes v_roundOf v_fresh z1 z2 z3 z4 h; exact absurd h (by unfold m_M_alone_48; exact fun h9 => nomatch h9)
    | succ n ih =>
      intro v_count v_last v_many v_codes v_roundOf v_fresh z1 z2 z3 z4 h H locs hP hD hS ls hl
      unfold m_M_alone_48 at h
      refine lv_iload hx hb d_M_alone_48 (lv_at hl 4 rfl) ?_
      refine lv_bipush (v := (nI 27)) hx hb d_M_alone_50 (by decide) ?_
      refine lv_icmp_ge (tgt := 104) hx hb d_M_alone_52 (by decide) (fun c_52 => ?_) (fun c_52 => ?_)
      · have h := of_pos h c_52
        refine lv_iinc (v := z3 + (nI 1)) (lv' := [(3, .int (z3 + (nI 1))), (0, .ref h_o), (1, .int z1), (2, .int z2), (4, .int z4)]) hx hb d_M_alone_104 hl (k := 3) rfl rfl (by decide) rfl (fun ls hl => ?_)
        refine lv_goto (tgt := 27) hx hb d_M_alone_107 (by decide) ?_
        exact hk_27 v_count v_last v_many v_codes v_roundOf v_fresh z1 z2 (z3 + (nI 1)) h _ _ hP hD hS ls (lv_sub hl [1, 2, 3, 0] rfl)
      · have h := of_neg h c_52
        refine lv_aload_n hx hb d_M_alone_55 rfl (lv_at hl 0 rfl) ?_
        refine lv_iconst (v := (nI 0)) hx hb d_M_alone_56 (by decide) ?_
        refine lv_iload_n hx hb d_M_alone_57 rfl (lv_at hl 2 rfl) ?_
        refine lv_iload_n hx hb d_M_alone_58 rfl (lv_at hl 1 rfl) ?_
        refine lv_iconst (v := (nI 1)) hx hb d_M_alone_59 (by decide) ?_
        refine lv_icmp_le (tgt := 67) hx hb d_M_alone_60 (by decide) (fun c_60 => ?_) (fun c_60 => ?_)
        · have h := of_pos h c_60
          refine lv_iconst (v := (-1 : Int32)) hx hb d_M_alone_67 (by decide) ?_
          exact J_68 (m_M_alone_48 v_fact v_marked k_27 n) ih v_count v_last v_many v_codes v_roundOf v_fresh z1 z2 z3 z4 (-1 : Int32) z2 (nI 0) h _ _ hP hD hS ls (lv_sub hl [0, 1, 2, 3, 4] rfl)
        · have h := of_neg h c_60
          refine lv_iload_n hx hb d_M_alone_63 rfl (lv_at hl 3 rfl) ?_
          refine lv_goto (tgt := 68) hx hb d_M_alone_64 (by decide) ?_
          exact J_68 (m_M_alone_48 v_fact v_marked k_27 n) ih v_count v_last v_many v_codes v_roundOf v_fresh z1 z2 z3 z4 z3 z2 (nI 0) h _ _ hP hD hS ls (lv_sub hl [0, 1, 2, 3, 4] rfl)
  have J_46 : ∀ (k_27 : Int32 → Int32 → (Nat → Int32) → (Nat → Int32) → (Nat → Int32) → (Nat → Int32) → Int32 → Int32 → Int32 → Option (Int32 × Int32 × Int32 × (Nat → Int32) × (Nat → Int32) × (Nat → Int32) × (Nat → Int32))) (hk_27 : ∀ (v_count : Int32) (v_last : Int32) (v_many : Nat → Int32) (v_codes : Nat → Int32) (v_roundOf : Nat → Int32) (v_fresh : Nat → Int32) (z1 : Int32) (z2 : Int32) (z3 : Int32), k_27 v_count v_last v_many v_codes v_roundOf v_fresh z1 z2 z3 = some (r0, u0) → ∀ (H : Heap) (locs : List Loc), va_P (dC, dI) classes [(h_o, .inr (4, [.ref h_line, .int v_typed, .ref h_fact, .ref h_marked, .int v_count, .ref h_many, .ref h_codes, .int v_oldCount, .ref h_oldMany, .ref h_oldCodes, .int v_read, .ref h_body, .ref h_roundOf, .ref h_fresh, .int v_last])), (h_fact, .inl (k_fact, 32, .inl v_fact)), (h_marked, .inl (k_marked, 16, .inl v_marked)), (h_many, .inl (k_many, 2, .inl v_many)), (h_codes, .inl (k_codes, 6, .inl v_codes)), (h_roundOf, .inl (k_roundOf, 16, .inl v_roundOf)), (h_fresh, .inl (k_fresh, 16, .inl v_fresh))] H → va_D A [(h_o, .inr (4, [.ref h_line, .int v_typed, .ref h_fact, .ref h_marked, .int v_count, .ref h_many, .ref h_codes, .int v_oldCount, .ref h_oldMany, .ref h_oldCodes, .int v_read, .ref h_body, .ref h_roundOf, .ref h_fresh, .int v_last])), (h_fact, .inl (k_fact, 32, .inl v_fact)), (h_marked, .inl (k_marked, 16, .inl v_marked)), (h_many, .inl (k_many, 2, .inl v_many)), (h_codes, .inl (k_codes, 6, .inl v_codes)), (h_roundOf, .inl (k_roundOf, 16, .inl v_roundOf)), (h_fresh, .inl (k_fresh, 16, .inl v_fresh))] → va_S A s.heap H locs → ∀ (ls : Array Slot), lv_has ls 6 [(0, .ref h_o), (1, .int z1), (2, .int z2), (3, .int z3)] → W p l e (headSpec w_M_alone ({ frames := 5, cells := 0, slots := 0, locals := 120 } : Room)).room s m ([.ref h_o, .int x1] : List Value).toArray below meth c H locs 0 0 Q (F0 m 27 ls [])) (v_count : Int32) (v_last : Int32) (v_many : Nat → Int32) (v_codes : Nat → Int32) (v_roundOf : Nat → Int32) (v_fresh : Nat → Int32) (z1 : Int32) (z2 : Int32) (z3 : Int32) (y0 : Int32), m_M_alone_46 v_fact v_marked k_27 v_count v_last v_many v_codes v_roundOf v_fresh z1 z2 z3 y0 = some (r0, u0) → ∀ (H : Heap) (locs : List Loc), va_P (dC, dI) classes [(h_o, .inr (4, [.ref h_line, .int v_typed, .ref h_fact, .ref h_marked, .int v_count, .ref h_many, .ref h_codes, .int v_oldCount, .ref h_oldMany, .ref h_oldCodes, .int v_read, .ref h_body, .ref h_roundOf, .ref h_fresh, .int v_last])), (h_fact, .inl (k_fact, 32, .inl v_fact)), (h_marked, .inl (k_marked, 16, .inl v_marked)), (h_many, .inl (k_many, 2, .inl v_many)), (h_codes, .inl (k_codes, 6, .inl v_codes)), (h_roundOf, .inl (k_roundOf, 16, .inl v_roundOf)), (h_fresh, .inl (k_fresh, 16, .inl v_fresh))] H → va_D A [(h_o, .inr (4, [.ref h_line, .int v_typed, .ref h_fact, .ref h_marked, .int v_count, .ref h_many, .ref h_codes, .int v_oldCount, .ref h_oldMany, .ref h_oldCodes, .int v_read, .ref h_body, .ref h_roundOf, .ref h_fresh, .int v_last])), (h_fact, .inl (k_fact, 32, .inl v_fact)), (h_marked, .inl (k_marked, 16, .inl v_marked)), (h_many, .inl (k_many, 2, .inl v_many)), (h_codes, .inl (k_codes, 6, .inl v_codes)), (h_roundOf, .inl (k_roundOf, 16, .inl v_roundOf)), (h_fresh, .inl (k_fresh, 16, .inl v_fresh))] → va_S A s.heap H locs → ∀ (ls : Array Slot), lv_has ls 6 [(0, .ref h_o), (1, .int z1), (2, .int z2), (3, .int z3)] → W p l e (headSpec w_M_alone ({ frames := 5, cells := 0, slots := 0, locals := 120 } : Room)).room s m ([.ref h_o, .int x1] : List Value).toArray below meth c H locs 0 0 Q (F0 m 46 ls [.int y0]) := by
    intro k_27 hk_27 v_count v_last v_many v_codes v_roundOf v_fresh z1 z2 z3 y0 h H locs hP hD hS ls hl
    unfold m_M_alone_46 at h
    refine lv_istore (lv' := [(4, .int y0), (0, .ref h_o), (1, .int z1), (2, .int z2), (3, .int z3)]) hx hb d_M_alone_46 hl (by decide) rfl (fun ls hl => ?_)
    exact J_48 k_27 hk_27 40 v_count v_last v_many v_codes v_roundOf v_fresh z1 z2 z3 y0 h _ _ hP hD hS ls (lv_sub hl [1, 2, 3, 4, 0] rfl)
  have J_27 : ∀ (k_7 : Int32 → Int32 → (Nat → Int32) → (Nat → Int32) → (Nat → Int32) → (Nat → Int32) → Int32 → Int32 → Option (Int32 × Int32 × Int32 × (Nat → Int32) × (Nat → Int32) × (Nat → Int32) × (Nat → Int32))) (hk_7 : ∀ (v_count : Int32) (v_last : Int32) (v_many : Nat → Int32) (v_codes : Nat → Int32) (v_roundOf : Nat → Int32) (v_fresh : Nat → Int32) (z1 : Int32) (z2 : Int32), k_7 v_count v_last v_many v_codes v_roundOf v_fresh z1 z2 = some (r0, u0) → ∀ (H : Heap) (locs : List Loc), va_P (dC, dI) classes [(h_o, .inr (4, [.ref h_line, .int v_typed, .ref h_fact, .ref h_marked, .int v_count, .ref h_many, .ref h_codes, .int v_oldCount, .ref h_oldMany, .ref h_oldCodes, .int v_read, .ref h_body, .ref h_roundOf, .ref h_fresh, .int v_last])), (h_fact, .inl (k_fact, 32, .inl v_fact)), (h_marked, .inl (k_marked, 16, .inl v_marked)), (h_many, .inl (k_many, 2, .inl v_many)), (h_codes, .inl (k_codes, 6, .inl v_codes)), (h_roundOf, .inl (k_roundOf, 16, .inl v_roundOf)), (h_fresh, .inl (k_fresh, 16, .inl v_fresh))] H → va_D A [(h_o, .inr (4, [.ref h_line, .int v_typed, .ref h_fact, .ref h_marked, .int v_count, .ref h_many, .ref h_codes, .int v_oldCount, .ref h_oldMany, .ref h_oldCodes, .int v_read, .ref h_body, .ref h_roundOf, .ref h_fresh, .int v_last])), (h_fact, .inl (k_fact, 32, .inl v_fact)), (h_marked, .inl (k_marked, 16, .inl v_marked)), (h_many, .inl (k_many, 2, .inl v_many)), (h_codes, .inl (k_codes, 6, .inl v_codes)), (h_roundOf, .inl (k_roundOf, 16, .inl v_roundOf)), (h_fresh, .inl (k_fresh, 16, .inl v_fresh))] → va_S A s.heap H locs → ∀ (ls : Array Slot), lv_has ls 6 [(0, .ref h_o), (1, .int z1), (2, .int z2)] → W p l e (headSpec w_M_alone ({ frames := 5, cells := 0, slots := 0, locals := 120 } : Room)).room s m ([.ref h_o, .int x1] : List Value).toArray below meth c H locs 0 0 Q (F0 m 7 ls [])) (n : Nat) (v_count : Int32) (v_last : Int32) (v_many : Nat → Int32) (v_codes : Nat → Int32) (v_roundOf : Nat → Int32) (v_fresh : Nat → Int32) (z1 : Int32) (z2 : Int32) (z3 : Int32), m_M_alone_27 v_fact v_marked k_7 n v_count v_last v_many v_codes v_roundOf v_fresh z1 z2 z3 = some (r0, u0) → ∀ (H : Heap) (locs : List Loc), va_P (dC, dI) classes [(h_o, .inr (4, [.ref h_line, .int v_typed, .ref h_fact, .ref h_marked, .int v_count, .ref h_many, .ref h_codes, .int v_oldCount, .ref h_oldMany, .ref h_oldCodes, .int v_read, .ref h_body, .ref h_roundOf, .ref h_fresh, .int v_last])), (h_fact, .inl (k_fact, 32, .inl v_fact)), (h_marked, .inl (k_marked, 16, .inl v_marked)), (h_many, .inl (k_many, 2, .inl v_many)), (h_codes, .inl (k_codes, 6, .inl v_codes)), (h_roundOf, .inl (k_roundOf, 16, .inl v_roundOf)), (h_fresh, .inl (k_fresh, 16, .inl v_fresh))] H → va_D A [(h_o, .inr (4, [.ref h_line, .int v_typed, .ref h_fact, .ref h_marked, .int v_count, .ref h_many, .ref h_codes, .int v_oldCount, .ref h_oldMany, .ref h_oldCodes, .int v_read, .ref h_body, .ref h_roundOf, .ref h_fresh, .int v_last])), (h_fact, .inl (k_fact, 32, .inl v_fact)), (h_marked, .inl (k_marked, 16, .inl v_marked)), (h_many, .inl (k_many, 2, .inl v_many)), (h_codes, .inl (k_codes, 6, .inl v_codes)), (h_roundOf, .inl (k_roundOf, 16, .inl v_roundOf)), (h_fresh, .inl (k_fresh, 16, .inl v_fresh))] → va_S A s.heap H locs → ∀ (ls : Array Slot), lv_has ls 6 [(0, .ref h_o), (1, .int z1), (2, .int z2), (3, .int z3)] → W p l e (headSpec w_M_alone ({ frames := 5, cells := 0, slots := 0, locals := 120 } : Room)).room s m ([.ref h_o, .int x1] : List Value).toArray below meth c H locs 0 0 Q (F0 m 27 ls []) := by
    intro k_7 hk_7 n
    induction n with
    | zero => intro v_count v_last v_many v_codes v_roundOf v_fresh z1 z2 z3 h; exact absurd h (by unfold m_M_alone_27; exact fun h9 => nomatch h9)
    | succ n ih =>
      intro v_count v_last v_many v_codes v_roundOf v_fresh z1 z2 z3 h H locs hP hD hS ls hl
      unfold m_M_alone_27 at h
      refine lv_iload_n hx hb d_M_alone_27 rfl (lv_at hl 3 rfl) ?_
      refine lv_bipush (v := (nI 27)) hx hb d_M_alone_28 (by decide) ?_
      refine lv_icmp_ge (tgt := 110) hx hb d_M_alone_30 (by decide) (fun c_30 => ?_) (fun c_30 => ?_)
      · have h := of_pos h c_30
        refine lv_iinc (v := z2 + (nI 1)) (lv' := [(2, .int (z2 + (nI 1))), (0, .ref h_o), (1, .int z1), (3, .int z3)]) hx hb d_M_alone_110 hl (k := 2) rfl rfl (by decide) rfl (fun ls hl => ?_)
        refine lv_goto (tgt := 7) hx hb d_M_alone_113 (by decide) ?_
        exact hk_7 v_count v_last v_many v_codes v_roundOf v_fresh z1 (z2 + (nI 1)) h _ _ hP hD hS ls (lv_sub hl [1, 2, 0] rfl)
      · have h := of_neg h c_30
        refine lv_iload_n hx hb d_M_alone_33 rfl (lv_at hl 1 rfl) ?_
        refine lv_iconst (v := (nI 2)) hx hb d_M_alone_34 (by decide) ?_
        refine lv_icmp_le (tgt := 44) hx hb d_M_alone_35 (by decide) (fun c_35 => ?_) (fun c_35 => ?_)
        · have h := of_pos h c_35
          refine lv_bipush (v := (nI 26)) hx hb d_M_alone_44 (by decide) ?_
          exact J_46 (m_M_alone_27 v_fact v_marked k_7 n) ih v_count v_last v_many v_codes v_roundOf v_fresh z1 z2 z3 (nI 26) h _ _ hP hD hS ls (lv_sub hl [0, 1, 2, 3] rfl)
        · have h := of_neg h c_35
          refine lv_iload_n hx hb d_M_alone_38 rfl (lv_at hl 3 rfl) ?_
          refine lv_iconst (v := (nI 1)) hx hb d_M_alone_39 (by decide) ?_
          refine lv_iadd hx hb d_M_alone_40 ?_
          refine lv_goto (tgt := 46) hx hb d_M_alone_41 (by decide) ?_
          exact J_46 (m_M_alone_27 v_fact v_marked k_7 n) ih v_count v_last v_many v_codes v_roundOf v_fresh z1 z2 z3 (z3 + (nI 1)) h _ _ hP hD hS ls (lv_sub hl [0, 1, 2, 3] rfl)
  have J_26 : ∀ (k_7 : Int32 → Int32 → (Nat → Int32) → (Nat → Int32) → (Nat → Int32) → (Nat → Int32) → Int32 → Int32 → Option (Int32 × Int32 × Int32 × (Nat → Int32) × (Nat → Int32) × (Nat → Int32) × (Nat → Int32))) (hk_7 : ∀ (v_count : Int32) (v_last : Int32) (v_many : Nat → Int32) (v_codes : Nat → Int32) (v_roundOf : Nat → Int32) (v_fresh : Nat → Int32) (z1 : Int32) (z2 : Int32), k_7 v_count v_last v_many v_codes v_roundOf v_fresh z1 z2 = some (r0, u0) → ∀ (H : Heap) (locs : List Loc), va_P (dC, dI) classes [(h_o, .inr (4, [.ref h_line, .int v_typed, .ref h_fact, .ref h_marked, .int v_count, .ref h_many, .ref h_codes, .int v_oldCount, .ref h_oldMany, .ref h_oldCodes, .int v_read, .ref h_body, .ref h_roundOf, .ref h_fresh, .int v_last])), (h_fact, .inl (k_fact, 32, .inl v_fact)), (h_marked, .inl (k_marked, 16, .inl v_marked)), (h_many, .inl (k_many, 2, .inl v_many)), (h_codes, .inl (k_codes, 6, .inl v_codes)), (h_roundOf, .inl (k_roundOf, 16, .inl v_roundOf)), (h_fresh, .inl (k_fresh, 16, .inl v_fresh))] H → va_D A [(h_o, .inr (4, [.ref h_line, .int v_typed, .ref h_fact, .ref h_marked, .int v_count, .ref h_many, .ref h_codes, .int v_oldCount, .ref h_oldMany, .ref h_oldCodes, .int v_read, .ref h_body, .ref h_roundOf, .ref h_fresh, .int v_last])), (h_fact, .inl (k_fact, 32, .inl v_fact)), (h_marked, .inl (k_marked, 16, .inl v_marked)), (h_many, .inl (k_many, 2, .inl v_many)), (h_codes, .inl (k_codes, 6, .inl v_codes)), (h_roundOf, .inl (k_roundOf, 16, .inl v_roundOf)), (h_fresh, .inl (k_fresh, 16, .inl v_fresh))] → va_S A s.heap H locs → ∀ (ls : Array Slot), lv_has ls 6 [(0, .ref h_o), (1, .int z1), (2, .int z2)] → W p l e (headSpec w_M_alone ({ frames := 5, cells := 0, slots := 0, locals := 120 } : Room)).room s m ([.ref h_o, .int x1] : List Value).toArray below meth c H locs 0 0 Q (F0 m 7 ls [])) (v_count : Int32) (v_last : Int32) (v_many : Nat → Int32) (v_codes : Nat → Int32) (v_roundOf : Nat → Int32) (v_fresh : Nat → Int32) (z1 : Int32) (z2 : Int32) (y0 : Int32), m_M_alone_26 v_fact v_marked k_7 v_count v_last v_many v_codes v_roundOf v_fresh z1 z2 y0 = some (r0, u0) → ∀ (H : Heap) (locs : List Loc), va_P (dC, dI) classes [(h_o, .inr (4, [.ref h_line, .int v_typed, .ref h_fact, .ref h_marked, .int v_count, .ref h_many, .ref h_codes, .int v_oldCount, .ref h_oldMany, .ref h_oldCodes, .int v_read, .ref h_body, .ref h_roundOf, .ref h_fresh, .int v_last])), (h_fact, .inl (k_fact, 32, .inl v_fact)), (h_marked, .inl (k_marked, 16, .inl v_marked)), (h_many, .inl (k_many, 2, .inl v_many)), (h_codes, .inl (k_codes, 6, .inl v_codes)), (h_roundOf, .inl (k_roundOf, 16, .inl v_roundOf)), (h_fresh, .inl (k_fresh, 16, .inl v_fresh))] H → va_D A [(h_o, .inr (4, [.ref h_line, .int v_typed, .ref h_fact, .ref h_marked, .int v_count, .ref h_many, .ref h_codes, .int v_oldCount, .ref h_oldMany, .ref h_oldCodes, .int v_read, .ref h_body, .ref h_roundOf, .ref h_fresh, .int v_last])), (h_fact, .inl (k_fact, 32, .inl v_fact)), (h_marked, .inl (k_marked, 16, .inl v_marked)), (h_many, .inl (k_many, 2, .inl v_many)), (h_codes, .inl (k_codes, 6, .inl v_codes)), (h_roundOf, .inl (k_roundOf, 16, .inl v_roundOf)), (h_fresh, .inl (k_fresh, 16, .inl v_fresh))] → va_S A s.heap H locs → ∀ (ls : Array Slot), lv_has ls 6 [(0, .ref h_o), (1, .int z1), (2, .int z2)] → W p l e (headSpec w_M_alone ({ frames := 5, cells := 0, slots := 0, locals := 120 } : Room)).room s m ([.ref h_o, .int x1] : List Value).toArray below meth c H locs 0 0 Q (F0 m 26 ls [.int y0]) := by
    intro k_7 hk_7 v_count v_last v_many v_codes v_roundOf v_fresh z1 z2 y0 h H locs hP hD hS ls hl
    unfold m_M_alone_26 at h
    refine lv_istore_n (lv' := [(3, .int y0), (0, .ref h_o), (1, .int z1), (2, .int z2)]) hx hb d_M_alone_26 rfl hl (by decide) rfl (fun ls hl => ?_)
    exact J_27 k_7 hk_7 40 v_count v_last v_many v_codes v_roundOf v_fresh z1 z2 y0 h _ _ hP hD hS ls (lv_sub hl [1, 2, 3, 0] rfl)
  have J_7 : ∀ (n : Nat) (v_count : Int32) (v_last : Int32) (v_many : Nat → Int32) (v_codes : Nat → Int32) (v_roundOf : Nat → Int32) (v_fresh : Nat → Int32) (z1 : Int32) (z2 : Int32), m_M_alone_7 v_fact v_marked n v_count v_last v_many v_codes v_roundOf v_fresh z1 z2 = some (r0, u0) → ∀ (H : Heap) (locs : List Loc), va_P (dC, dI) classes [(h_o, .inr (4, [.ref h_line, .int v_typed, .ref h_fact, .ref h_marked, .int v_count, .ref h_many, .ref h_codes, .int v_oldCount, .ref h_oldMany, .ref h_oldCodes, .int v_read, .ref h_body, .ref h_roundOf, .ref h_fresh, .int v_last])), (h_fact, .inl (k_fact, 32, .inl v_fact)), (h_marked, .inl (k_marked, 16, .inl v_marked)), (h_many, .inl (k_many, 2, .inl v_many)), (h_codes, .inl (k_codes, 6, .inl v_codes)), (h_roundOf, .inl (k_roundOf, 16, .inl v_roundOf)), (h_fresh, .inl (k_fresh, 16, .inl v_fresh))] H → va_D A [(h_o, .inr (4, [.ref h_line, .int v_typed, .ref h_fact, .ref h_marked, .int v_count, .ref h_many, .ref h_codes, .int v_oldCount, .ref h_oldMany, .ref h_oldCodes, .int v_read, .ref h_body, .ref h_roundOf, .ref h_fresh, .int v_last])), (h_fact, .inl (k_fact, 32, .inl v_fact)), (h_marked, .inl (k_marked, 16, .inl v_marked)), (h_many, .inl (k_many, 2, .inl v_many)), (h_codes, .inl (k_codes, 6, .inl v_codes)), (h_roundOf, .inl (k_roundOf, 16, .inl v_roundOf)), (h_fresh, .inl (k_fresh, 16, .inl v_fresh))] → va_S A s.heap H locs → ∀ (ls : Array Slot), lv_has ls 6 [(0, .ref h_o), (1, .int z1), (2, .int z2)] → W p l e (headSpec w_M_alone ({ frames := 5, cells := 0, slots := 0, locals := 120 } : Room)).room s m ([.ref h_o, .int x1] : List Value).toArray below meth c H locs 0 0 Q (F0 m 7 ls []) := by
    intro n
    induction n with
    | zero => intro v_count v_last v_many v_codes v_roundOf v_fresh z1 z2 h; exact absurd h (by unfold m_M_alone_7; exact fun h9 => nomatch h9)
    | succ n ih =>
      intro v_count v_last v_many v_codes v_roundOf v_fresh z1 z2 h H locs hP hD hS ls hl
      unfold m_M_alone_7 at h
      refine lv_iload_n hx hb d_M_alone_7 rfl (lv_at hl 2 rfl) ?_
      refine lv_bipush (v := (nI 27)) hx hb d_M_alone_8 (by decide) ?_
      refine lv_icmp_ge (tgt := 116) hx hb d_M_alone_10 (by decide) (fun c_10 => ?_) (fun c_10 => ?_)
      · have h := of_pos h c_10
        refine lv_iconst (v := (nI 0)) hx hb d_M_alone_116 (by decide) ?_
        rw [hQ]
        exact W.zret (v := (nI 0)) hx hb hr rfl (fun t ht hW => ⟨⟨(nI 0), (v_count, v_last, v_many, v_codes, v_roundOf, v_fresh), rfl, Prod.mk.inj (Option.some.inj h), by rw [ht]; exact hP, va_K.moved hW.alike hK, hD⟩, hS.F ht⟩) hS.2.2 d_M_alone_117
      · have h := of_neg h c_10
        refine lv_iload_n hx hb d_M_alone_13 rfl (lv_at hl 1 rfl) ?_
        refine lv_iconst (v := (nI 1)) hx hb d_M_alone_14 (by decide) ?_
        refine lv_icmp_le (tgt := 24) hx hb d_M_alone_15 (by decide) (fun c_15 => ?_) (fun c_15 => ?_)
        · have h := of_pos h c_15
          refine lv_bipush (v := (nI 26)) hx hb d_M_alone_24 (by decide) ?_
          exact J_26 (m_M_alone_7 v_fact v_marked n) ih v_count v_last v_many v_codes v_roundOf v_fresh z1 z2 (nI 26) h _ _ hP hD hS ls (lv_sub hl [0, 1, 2] rfl)
        · have h := of_neg h c_15
          refine lv_iload_n hx hb d_M_alone_18 rfl (lv_at hl 2 rfl) ?_
          refine lv_iconst (v := (nI 1)) hx hb d_M_alone_19 (by decide) ?_
          refine lv_iadd hx hb d_M_alone_20 ?_
          refine lv_goto (tgt := 26) hx hb d_M_alone_21 (by decide) ?_
          exact J_26 (m_M_alone_7 v_fact v_marked n) ih v_count v_last v_many v_codes v_roundOf v_fresh z1 z2 (z2 + (nI 1)) h _ _ hP hD hS ls (lv_sub hl [0, 1, 2] rfl)
  unfold m_M_alone at h
  refine lv_aload_n hx hb d_M_alone_0 rfl (lv_at hl 0 rfl) ?_
  refine lv_iconst (v := (nI 1)) hx hb d_M_alone_1 (by decide) ?_
  refine va_put (D := (dC, dI)) (ci := 4) (v := .int (nI 1)) (ty := .int) (C := R_M) (T := F_M) (N := 15) hx hb hts lay_M t_M t_M_ok n_M hown hK hP hD hS 0 rfl rfl 4 (by decide) (hts _ flk_M_85) (fun _ h9 => h9) rfl (by decide +kernel) rfl rfl (Nat.le_of_ble_eq_true rfl) d_M_alone_2 (fun H locs hP hD hS => ?_)
  have hP : va_P (dC, dI) classes [(h_o, .inr (4, [.ref h_line, .int v_typed, .ref h_fact, .ref h_marked, .int (nI 1), .ref h_many, .ref h_codes, .int v_oldCount, .ref h_oldMany, .ref h_oldCodes, .int v_read, .ref h_body, .ref h_roundOf, .ref h_fresh, .int v_last])), (h_fact, .inl (k_fact, 32, .inl v_fact)), (h_marked, .inl (k_marked, 16, .inl v_marked)), (h_many, .inl (k_many, 2, .inl v_many)), (h_codes, .inl (k_codes, 6, .inl v_codes)), (h_roundOf, .inl (k_roundOf, 16, .inl v_roundOf)), (h_fresh, .inl (k_fresh, 16, .inl v_fresh))] H := hP
  have hD : va_D A [(h_o, .inr (4, [.ref h_line, .int v_typed, .ref h_fact, .ref h_marked, .int (nI 1), .ref h_many, .ref h_codes, .int v_oldCount, .ref h_oldMany, .ref h_oldCodes, .int v_read, .ref h_body, .ref h_roundOf, .ref h_fresh, .int v_last])), (h_fact, .inl (k_fact, 32, .inl v_fact)), (h_marked, .inl (k_marked, 16, .inl v_marked)), (h_many, .inl (k_many, 2, .inl v_many)), (h_codes, .inl (k_codes, 6, .inl v_codes)), (h_roundOf, .inl (k_roundOf, 16, .inl v_roundOf)), (h_fresh, .inl (k_fresh, 16, .inl v_fresh))] := hD
  refine lv_iconst (v := (nI 0)) hx hb d_M_alone_5 (by decide) ?_
  refine lv_istore_n (lv' := [(2, .int (nI 0)), (0, .ref h_o), (1, .int x1)]) hx hb d_M_alone_6 rfl hl (by decide) rfl (fun ls hl => ?_)
  exact J_7 40 (nI 1) v_last v_many v_codes v_roundOf v_fresh x1 (nI 0) h _ _ hP hD hS ls (lv_sub hl [1, 2, 0] rfl)
